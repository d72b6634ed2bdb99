/-! line -/
def lnd (r : Rq) (a b : Nat) : Bool := an (fun l => isL r l a && isL r l b) (r 0 11)
def addLn (r : Rq) (a b w : Nat) : Rq := set3 (set3 (set3 (set3 r 4 (r 0 11) a) 5 (r 0 11) b) 6 (r 0 11) w) 0 11 (r 0 11 + 1)
theorem addLn_11 {r : Rq} {a b w : Nat} : addLn r a b w 0 11 = r 0 11 + 1 := set3_eq
theorem addLn_0 {r : Rq} {a b w j : Nat} (h : j ≠ 11) : addLn r a b w 0 j = r 0 j := by
  unfold addLn
  rw [set3_ne (Or.inr h), set3_ne (Or.inl (by decide)), set3_ne (Or.inl (by decide)), set3_ne (Or.inl (by decide))]
theorem addLn_4 {r : Rq} {a b w k : Nat} : addLn r a b w 4 k = if k = r 0 11 then a else r 4 k := by
  unfold addLn
  rw [set3_ne (Or.inl (by decide)), set3_ne (Or.inl (by decide)), set3_ne (Or.inl (by decide))]
  unfold set3
  simp
theorem addLn_5 {r : Rq} {a b w k : Nat} : addLn r a b w 5 k = if k = r 0 11 then b else r 5 k := by
  unfold addLn
  rw [set3_ne (Or.inl (by decide)), set3_ne (Or.inl (by decide))]
  by_cases hk : k = r 0 11
  · rw [if_pos hk, hk, set3_eq]
  · rw [if_neg hk, set3_ne (Or.inr hk), set3_ne (Or.inl (by decide))]
theorem addLn_6 {r : Rq} {a b w k : Nat} : addLn r a b w 6 k = if k = r 0 11 then w else r 6 k := by
  unfold addLn
  rw [set3_ne (Or.inl (by decide))]
  by_cases hk : k = r 0 11
  · rw [if_pos hk, hk, set3_eq]
  · rw [if_neg hk, set3_ne (Or.inr hk), set3_ne (Or.inl (by decide)), set3_ne (Or.inl (by decide))]
theorem addLn_x {r : Rq} {a b w x k : Nat} (h : 1 ≤ x ∧ x ≤ 3) : addLn r a b w x k = r x k := by
  unfold addLn
  rw [set3_ne (Or.inl (by omega)), set3_ne (Or.inl (by omega)), set3_ne (Or.inl (by omega)), set3_ne (Or.inl (by omega))]
theorem pr_eq {p q a b : Nat} (hp : p < 3) (hq : q < 3) (hpq : p ≠ q) (ha : a < 3) (hb : b < 3) (hab : a ≠ b) (h : p + q = a + b) : (p = a ∧ q = b) ∨ (p = b ∧ q = a) := by omega
theorem full_all (p0 : Nat) (hp0 : p0 < 3) (q0 : Nat) (hq0 : q0 < 3) (h0 : p0 ≠ q0) (p1 : Nat) (hp1 : p1 < 3) (q1 : Nat) (hq1 : q1 < 3) (h1 : p1 ≠ q1) (h01 : ¬ ((p0 = p1 ∧ q0 = q1) ∨ (p0 = q1 ∧ q0 = p1))) (p2 : Nat) (hp2 : p2 < 3) (q2 : Nat) (hq2 : q2 < 3) (h2 : p2 ≠ q2) (h02 : ¬ ((p0 = p2 ∧ q0 = q2) ∨ (p0 = q2 ∧ q0 = p2))) (h12 : ¬ ((p1 = p2 ∧ q1 = q2) ∨ (p1 = q2 ∧ q1 = p2))) (a : Nat) (ha : a < 3) (b : Nat) (hb : b < 3) (hab : a ≠ b) : ((p0 = a ∨ q0 = a) ∧ (p0 = b ∨ q0 = b)) ∨ ((p1 = a ∨ q1 = a) ∧ (p1 = b ∨ q1 = b)) ∨ ((p2 = a ∨ q2 = a) ∧ (p2 = b ∨ q2 = b)) := by
  have d01 : p0 + q0 ≠ p1 + q1 := fun h => h01 (pr_eq hp0 hq0 h0 hp1 hq1 h1 h)
  have d02 : p0 + q0 ≠ p2 + q2 := fun h => h02 (pr_eq hp0 hq0 h0 hp2 hq2 h2 h)
  have d12 : p1 + q1 ≠ p2 + q2 := fun h => h12 (pr_eq hp1 hq1 h1 hp2 hq2 h2 h)
  have hs : p0 + q0 = a + b ∨ p1 + q1 = a + b ∨ p2 + q2 = a + b := by clear h01 h02 h12; omega
  clear h01 h02 h12
  rcases hs with h | h | h
  · have := pr_eq hp0 hq0 h0 ha hb hab h
    exact Or.inl (by omega)
  · have := pr_eq hp1 hq1 h1 ha hb hab h
    exact Or.inr (Or.inl (by omega))
  · have := pr_eq hp2 hq2 h2 ha hb hab h
    exact Or.inr (Or.inr (by omega))
theorem isL_iff {r : Rq} {l k : Nat} : isL r l k = true ↔ (r 4 l = k ∨ r 5 l = k) := by
  unfold isL
  rw [Bool.or_eq_true, decide_eq_true_eq, decide_eq_true_eq]
theorem lnd_full {r : Rq} (hr : GoodD r) (h3 : r 0 11 = 3) {a b : Nat} (ha : a < r 0 10) (hb : b < r 0 10) (hab : a ≠ b) : lnd r a b = true := by
  obtain ⟨g1, g2, g3, g4, g5⟩ := hr
  rw [h3] at g4 g5
  obtain ⟨a1, a2, a3, -⟩ := g4 0 (by omega)
  obtain ⟨b1, b2, b3, -⟩ := g4 1 (by omega)
  obtain ⟨c1, c2, c3, -⟩ := g4 2 (by omega)
  have := full_all (r 4 0) (by omega) (r 5 0) (by omega) a3 (r 4 1) (by omega) (r 5 1) (by omega) b3 (g5 0 1 (by omega) (by omega) (by omega)) (r 4 2) (by omega) (r 5 2) (by omega) c3 (g5 0 2 (by omega) (by omega) (by omega)) (g5 1 2 (by omega) (by omega) (by omega)) a (by omega) b (by omega) hab
  unfold lnd
  rw [an_iff, h3]
  rcases this with h | h | h
  · exact ⟨0, by omega, by rw [Bool.and_eq_true, isL_iff, isL_iff]; exact h⟩
  · exact ⟨1, by omega, by rw [Bool.and_eq_true, isL_iff, isL_iff]; exact h⟩
  · exact ⟨2, by omega, by rw [Bool.and_eq_true, isL_iff, isL_iff]; exact h⟩
theorem addLn_good {r : Rq} {a b w : Nat} (h : GoodD r) (ha : a < r 0 10) (hb : b < r 0 10) (hab : a ≠ b) (hw : 1 ≤ w ∧ w ≤ 20) (hl : lnd r a b = false) : GoodD (addLn r a b w) := by
  have h3 : r 0 11 ≠ 3 := fun hc => by rw [lnd_full h hc ha hb hab] at hl; cases hl
  have hno : ∀ l, l < r 0 11 → ¬ ((r 4 l = a ∧ r 5 l = b) ∨ (r 4 l = b ∧ r 5 l = a)) := by
    intro l hl2 hc
    have : lnd r a b = true := by
      unfold lnd
      rw [an_iff]
      exact ⟨l, hl2, by rw [Bool.and_eq_true, isL_iff, isL_iff]; omega⟩
    rw [hl] at this; cases this
  obtain ⟨g1, g2, g3, g4, g5⟩ := h
  refine ⟨by rw [addLn_0 (by decide)]; exact g1, by rw [addLn_11]; omega, fun k hk => ?_, fun l hl => ?_, fun j l hj hl hjl => ?_⟩
  · rw [addLn_0 (by decide)] at hk
    rw [addLn_x (by omega), addLn_x (by omega)]
    exact g3 k hk
  · rw [addLn_11] at hl
    rw [addLn_4, addLn_5, addLn_6, addLn_0 (by decide)]
    by_cases hln : l = r 0 11
    · simp only [if_pos hln]; exact ⟨ha, hb, hab, hw.1, hw.2⟩
    · simp only [if_neg hln]; exact g4 l (by omega)
  · rw [addLn_11] at hj hl
    rw [addLn_4, addLn_5, addLn_4, addLn_5]
    by_cases hjn : j = r 0 11
    · have hln : l ≠ r 0 11 := by omega
      simp only [if_pos hjn, if_neg hln]
      have := hno l (by omega)
      omega
    · by_cases hln : l = r 0 11
      · simp only [if_neg hjn, if_pos hln]
        exact hno j (by omega)
      · simp only [if_neg hjn, if_neg hln]
        exact g5 j l (by omega) (by omega) hjl
def o_line (S : St) (x y z : Int32) : Ans :=
  if (inR (dft S 0 10) x && inR (dft S 0 10) y) = true then
    (if x = y ∨ rg 1 20 z = false then (2, 0, S) else if lnd (dft S) (toN x) (toN y) = true then (3, 0, S) else (0, nI (dft S 0 11), updR S (nRq S) (addLn (dft S) (toN x) (toN y) (toN z))))
  else (1, 0, S)
theorem g_line {S : St} {x y z : Int32} (h : Good S) : Good (o_line S x y z).2.2 := by
  unfold o_line
  split
  · rename_i hb
    rw [Bool.and_eq_true] at hb
    split
    · exact h
    · rename_i hc
      split
      · exact h
      · rename_i hd
        have hg := h.d h.n
        have h10 := hg.1
        have hx := inR_to (by show S.2.2 (nRq S) 0 10 < _; omega) hb.1
        have hy := inR_to (by show S.2.2 (nRq S) 0 10 < _; omega) hb.2
        have hz : rg 1 20 z = true := by
          cases hz : rg 1 20 z with
          | true => rfl
          | false => exact absurd (Or.inr hz) hc
        have hz := rg_ex (a := 1) (b := 20) (by omega) (by omega) hz
        refine h.dft (addLn_good hg hx.1 hy.1 (fun he => hc (Or.inl (by rw [hx.2, hy.2, he]))) ⟨hz.1, hz.2.1⟩ ?_) (by rw [addLn_0 (by decide)]; exact dft14 h)
        cases hl : lnd (dft S) (toN x) (toN y) with
        | true => exact absurd hl hd
        | false => rfl
  · exact h
theorem s_hasLineFor {p a b : Nat} {r : Rq} {μ : Mm} {q : Bool → Mm → Prop} (hr : GoodD r) (hQ : cQ p r μ) (ha : a < 3) (hb : b < 3) (h : q (lnd r a b) μ) : Wp_X5_hasLineFor p (nI a) (nI b) μ q := by
  obtain ⟨g1, g2, g3, g4, g5⟩ := hr
  unfold Wp_X5_hasLineFor
  intro K2 h2
  unfold F_X5_hasLineFor_e
  have go : ∀ b2, b2 = lnd r a b → q b2 μ := fun b2 e => by rw [e]; exact h
  refine dn (P := fun l => an (fun l => isL r l a && isL r l b) l = false → K2 (nI a) (nI b) (nI l) μ) (n := r 0 11) ?_ ?_ rfl
  · intro hf
    refine h2 _ _ _ _ ?_
    unfold F_X5_hasLineFor_2
    rw [hQ.2.1]
    simp (disch := omega) only [vpT, vpT0, vpT1, vpT2, clT, clT0, clT1, clT2, leT, leF, leT0, ltT, ltF, i1, true_and, and_true, true_implies, false_implies, not_true_eq_false, not_false_eq_true, forall_const, implies_true]
    exact go _ hf.symm
  · intro l hl hn hf
    refine h2 _ _ _ _ ?_
    unfold F_X5_hasLineFor_2
    rw [hQ.2.1]
    simp (disch := omega) only [vpT, vpT0, vpT1, vpT2, clT, clT0, clT1, clT2, leT, leF, leT0, ltT, ltF, i1, true_and, and_true, true_implies, false_implies, not_true_eq_false, not_false_eq_true, forall_const, implies_true]
    obtain ⟨c1, c2, -⟩ := g4 l hl
    rw [show an (fun l => isL r l a && isL r l b) (l + 1) = (an (fun l => isL r l a && isL r l b) l || (isL r l a && isL r l b)) from rfl, hf, Bool.false_or] at hn
    refine s_isLineOf0 g2 hQ hl (by omega) (by omega) ha ?_
    refine bq (fun hx => hn (by rw [hx]; rfl)) (fun hx => ?_)
    refine s_isLineOf0 g2 hQ hl (by omega) (by omega) hb ?_
    refine bq (fun hy => hn (by rw [hy, Bool.and_false])) (fun hy => go _ ?_)
    exact ((an_iff _ _).2 ⟨l, hl, by rw [hx, hy]; rfl⟩).symm
theorem tt_line {S : St} {x y z : Int32} {μ : Mm} {q : Int32 → Mm → Prop} (hG : Good S) (hI : cInv S μ) (h : tE (o_line S x y z) μ q) : Wp_L_line x y z μ q := by
  unfold Wp_L_line Wp_X7_line F_X7_line_e
  unfold o_line at h
  have hn := hG.n
  have hd := hG.d hn
  have hQ := hI.2.2.2.2.1 _ hn
  obtain ⟨q1, q2, q3, q4, q5⟩ := hQ
  have h10 := hd.1
  have h11 := hd.2.1
  refine tt_draft hG hI ?_
  refine s_hasPart q1 ?_
  refine bq (fun hx => ?_) (fun hx => ?_)
  · rw [show inR (dft S 0 10) x = false from hx, Bool.false_and, if_neg (by decide)] at h
    exact Or.inl ⟨rfl, h.no (by decide) hI⟩
  refine tt_draft hG hI ?_
  refine s_hasPart q1 ?_
  refine bqr (fun hy => ?_) (fun hy => ?_)
  · rw [show inR (dft S 0 10) y = false from hy, Bool.and_false, if_neg (by decide)] at h
    exact Or.inl ⟨rfl, h.no (by decide) hI⟩
  rw [show inR (dft S 0 10) x = true from hx, show inR (dft S 0 10) y = true from hy, if_pos (by decide)] at h
  by_cases hxy : x = y
  · rw [if_pos (Or.inl hxy)] at h
    exact br_t hxy (Or.inr (Or.inl ⟨rfl, h.no (by decide) hI⟩))
  refine br_f hxy ?_
  refine rg_c1 (fun hz => ?_) (fun hz => ?_)
  · rw [if_pos (Or.inr hz)] at h
    exact Or.inr (Or.inl ⟨rfl, h.no (by decide) hI⟩)
  rw [if_neg (by rintro (h1 | h1); · exact hxy h1
                 · rw [hz] at h1; cases h1)] at h
  obtain ⟨xa, xe⟩ := inR_to (by omega) hx
  obtain ⟨ya, ye⟩ := inR_to (by omega) hy
  obtain ⟨za', za, ze⟩ := rg_ex (a := 1) (b := 20) (by omega) (by omega) hz
  obtain ⟨a, ha⟩ : ∃ a, a = toN x := ⟨_, rfl⟩
  obtain ⟨b, hb⟩ : ∃ b, b = toN y := ⟨_, rfl⟩
  obtain ⟨w, hw⟩ : ∃ w, w = toN z := ⟨_, rfl⟩
  rw [← ha] at xa xe h
  rw [← hb] at ya ye h
  rw [← hw] at za za' ze h
  have hab : a ≠ b := fun he => hxy (by rw [xe, ye, he])
  refine tt_draft hG hI ?_
  rw [q2]
  by_cases h3 : S.2.2 (nRq S) 0 11 = 3
  · rw [if_pos (lnd_full hd h3 xa ya hab)] at h
    exact br_t (by rw [h3]; exact Int32.le_refl _) (Or.inr (Or.inr ⟨rfl, h.no (by decide) hI⟩))
  refine br_f (not_le_nI (n := 3) (by omega) (by omega)) ?_
  refine tt_draft hG hI ?_
  rw [xe, ye]
  refine s_hasLineFor hd ⟨q1, q2, q3, q4, q5⟩ (by omega) (by omega) ?_
  refine bq (fun hl => ?_) (fun hl => ?_)
  · rw [if_neg (by rw [show lnd (dft S) a b = false from hl]; decide)] at h
    refine tt_draft hG hI ?_
    unfold Wp_X5_addLine F_X5_addLine_e
    obtain ⟨p, hpp⟩ : ∃ p, p = p_RQ + 11 * nRq S := ⟨_, rfl⟩
    have hp105 : p = 105 + 11 * nRq S := hpp
    rw [← hpp] at q1 q2 q3 q4 q5 ⊢
    rw [u_ne (show p ≠ p + 4 by omega), u_ne (show p ≠ p + 5 by omega), u_ne (show p ≠ p + 4 by omega), u_ne (show p ≠ p + 6 by omega), u_ne (show p ≠ p + 5 by omega), u_ne (show p ≠ p + 4 by omega), q2]
    simp (disch := omega) only [vpT, vpT0, vpT1, vpT2, clT, clT0, clT1, clT2, leT, leF, leT0, ltT, ltF, i1, true_and, and_true, true_implies, false_implies, not_true_eq_false, not_false_eq_true, forall_const, implies_true, u_eq, d_eq]
    rw [show nI (S.2.2 (nRq S) 0 11 + 1) - (1 : Int32) = nI (dft S 0 11) from nI_pred _, ze]
    obtain ⟨μ2, hμ2⟩ : ∃ μ2, μ2 = up2 (up2 (up2 (up2 μ (p + 4) (S.2.2 (nRq S) 0 11) (nI a)) (p + 5) (S.2.2 (nRq S) 0 11) (nI b)) (p + 6) (S.2.2 (nRq S) 0 11) (nI w)) p 11 (nI (S.2.2 (nRq S) 0 11 + 1)) := ⟨_, rfl⟩
    rw [← hμ2]
    have e : ∀ c, c ≠ p → c ≠ p + 4 → c ≠ p + 5 → c ≠ p + 6 → μ2 c = μ c := fun c h1 h2 h3 h4 => by rw [hμ2, u_ne h1, u_ne h4, u_ne h3, u_ne h2]
    have ep : ∀ j, j ≠ 11 → μ2 p j = μ p j := fun j hj => by rw [hμ2, u_eq, d_ne hj, u_ne (by omega), u_ne (by omega), u_ne (by omega)]
    refine h.ok (hI.dft hG (fun c hc hne => e c (by omega) (by omega) (by omega) (by omega)) ?_) (fun c hc => by unfold mCell at hc; exact e c (by omega) (by omega) (by omega) (by omega))
    rw [← hpp]
    refine ⟨?_, ?_, ?_, fun k hk => ?_, fun l hl => ?_⟩
    · rw [ep 10 (by decide), q1, addLn_0 (by decide)]
    · rw [hμ2, u_eq, d_eq, addLn_11]
    · rw [ep 14 (by decide), q3, addLn_0 (by decide)]
    · rw [addLn_0 (by decide)] at hk
      rw [addLn_x (by omega), addLn_x (by omega), e (p + 1) (by omega) (by omega) (by omega) (by omega), e (p + 2) (by omega) (by omega) (by omega) (by omega)]
      exact q4 k hk
    · rw [addLn_11] at hl
      have hl : l < S.2.2 (nRq S) 0 11 + 1 := hl
      rw [addLn_4, addLn_5, addLn_6]
      have e4 : μ2 (p + 4) l = upd (μ (p + 4)) (S.2.2 (nRq S) 0 11) (nI a) l := by rw [hμ2, u_ne (by omega), u_ne (by omega), u_ne (by omega), u_eq]
      have e5 : μ2 (p + 5) l = upd (μ (p + 5)) (S.2.2 (nRq S) 0 11) (nI b) l := by rw [hμ2, u_ne (by omega), u_ne (by omega), u_eq, u_ne (by omega)]
      have e6 : μ2 (p + 6) l = upd (μ (p + 6)) (S.2.2 (nRq S) 0 11) (nI w) l := by rw [hμ2, u_ne (by omega), u_eq, u_ne (by omega), u_ne (by omega)]
      rw [e4, e5, e6]
      by_cases hln : l = S.2.2 (nRq S) 0 11
      · rw [if_pos hln, if_pos hln, if_pos hln, hln, d_eq, d_eq, d_eq]; exact ⟨rfl, rfl, rfl⟩
      · rw [if_neg hln, if_neg hln, if_neg hln, d_ne hln, d_ne hln, d_ne hln]; exact q5 l (by omega)
  · rw [if_pos (show lnd (dft S) a b = true from hl)] at h
    exact Or.inr (Or.inr ⟨rfl, h.no (by decide) hI⟩)
/-! clear -/
def clrR (r : Rq) : Rq := set3 (set3 r 0 10 0) 0 11 0
theorem clrR_0 {r : Rq} {j : Nat} (h : j ≠ 10) (h2 : j ≠ 11) : clrR r 0 j = r 0 j := by
  unfold clrR
  rw [set3_ne (Or.inr h2), set3_ne (Or.inr h)]
theorem clrR_10 {r : Rq} : clrR r 0 10 = 0 := by unfold clrR; rw [set3_ne (Or.inr (by decide)), set3_eq]
theorem clrR_11 {r : Rq} : clrR r 0 11 = 0 := set3_eq
def clrS (S : St) : St := updR S (nRq S) (clrR (dft S))
theorem clrR_good (r : Rq) : GoodD (clrR r) := by
  refine ⟨by rw [clrR_10]; omega, by rw [clrR_11]; omega, fun k hk => ?_, fun l hl => ?_, fun j l hj _ _ => ?_⟩
  · rw [clrR_10] at hk; omega
  · rw [clrR_11] at hl; omega
  · rw [clrR_11] at hj; omega
theorem g_clear {S : St} (h : Good S) : Good (clrS S) := h.dft (clrR_good _) (by rw [clrR_0 (by decide) (by decide)]; exact dft14 h)
theorem tt_clear {S : St} {μ : Mm} {q : Int32 → Mm → Prop} (hG : Good S) (hI : cInv S μ) (h : ∀ μ2, cInv (clrS S) μ2 → (∀ c, mCell c → μ2 c = μ c) → q (nI (dft S 0 10)) μ2) : Wp_X7_clear μ q := by
  unfold Wp_X7_clear F_X7_clear_e
  have hn := hG.n
  obtain ⟨q1, q2, q3, q4, q5⟩ := hI.2.2.2.2.1 _ hn
  refine tt_draft hG hI ?_
  unfold Wp_X5_empty F_X5_empty_e
  rw [q1]
  obtain ⟨p, hpp⟩ : ∃ p, p = p_RQ + 11 * nRq S := ⟨_, rfl⟩
  have hp105 : p = 105 + 11 * nRq S := hpp
  rw [← hpp] at q1 q2 q3 q4 q5 ⊢
  have e : ∀ c, c ≠ p → (up2 (up2 μ p 10 (0 : Int32)) p 11 (0 : Int32)) c = μ c := fun c h1 => by rw [u_ne h1, u_ne h1]
  refine h _ (hI.dft hG (fun c hc hne => e c (by omega)) ?_) (fun c hc => by unfold mCell at hc; exact e c (by omega))
  rw [← hpp]
  refine ⟨?_, ?_, ?_, fun k hk => ?_, fun l hl => ?_⟩
  · rw [u_eq, d_ne (by decide), u_eq, d_eq, clrR_10]; rfl
  · rw [u_eq, d_eq, clrR_11]; rfl
  · rw [u_eq, d_ne (by decide), u_eq, d_ne (by decide), q3, clrR_0 (by decide) (by decide)]
  · rw [clrR_10] at hk; omega
  · rw [clrR_11] at hl; omega
