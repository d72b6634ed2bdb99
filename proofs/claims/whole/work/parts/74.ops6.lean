/-! what tells -/
theorem tt_now {S : St} {μ : Mm} {q : Int32 → Mm → Prop} (hI : cInv S μ) (h : q (nI (tkS S)) μ) : Wp_X7_now μ q := by
  unfold Wp_X7_now F_X7_now_e
  rw [show μ p_ML 7 = nI (tkS S) from hI.2.2.2.1]
  exact h
theorem rr_now {S : St} {μ : Mm} {q : Int32 → Mm → Prop} (hI : mInv S μ) (h : q (nI (tkS S)) (up2 μ p_MO 35 0)) : Wp_X8_now μ q := by
  unfold Wp_X8_now F_X8_now_e
  have hI1 : mInv S (up2 μ p_MO 35 0) := hI.can
  rw [show (up2 μ p_MO 35 0) p_MO 0 = nI (tkS S) from hI1.2.2.1]
  exact h
theorem rE.ok {z : Int32} {S2 : St} {μ μ2 : Mm} {q : Int32 → Mm → Prop} (h : rE (0, z, S2) μ q) (hI : mInv S2 μ2) (hs : Sm mCell μ μ2) (ht : μ2 p_MO 35 = 0) : q z μ2 := h μ2 z hI hs ht (fun _ => rfl)
theorem rE.ok0 {z : Int32} {S : St} {μ : Mm} {q : Int32 → Mm → Prop} (h : rE (0, z, S) μ q) (hI : mInv S μ) : q z (up2 μ p_MO 35 0) := h.ok hI.can (Sm.up (Or.inl rfl)) (by rw [u_eq, d_eq])
theorem Good.hB {S : St} (hG : Good S) : ∀ i, i < nRq S → S.2.2 i 0 11 ≤ 3 ∧ ∀ l, l < S.2.2 i 0 11 → S.2.2 i 6 l ≤ 20 := fun i hi => by
  have := hG.d (hG.i hi)
  exact ⟨this.2.1, fun l hl => (this.2.2.2.1 l hl).2.2.2.2⟩
def o_ofNode (S : St) (x y : Int32) : Ans := if inR (nNd S) x = true then (if rg 0 1 y = true then (0, if y = 0 then lfN S (toN x) else nI (cnS S (toN x)), S) else (2, 0, S)) else (1, 0, S)
theorem tt_ofNode {S : St} {x y : Int32} {μ : Mm} {q : Int32 → Mm → Prop} (hG : Good S) (hI : cInv S μ) (h : tE (o_ofNode S x y) μ q) : Wp_L_ofNode x y μ q := by
  unfold Wp_L_ofNode Wp_X7_ofNode F_X7_ofNode_e
  unfold o_ofNode at h
  have hN := hG.1
  refine s_hasNode (by omega) hI.1.2.1 ?_
  refine bqr (fun hx => ?_) (fun hx => ?_)
  · rw [if_neg (by rw [hx]; decide)] at h
    exact Or.inl ⟨rfl, h.no (by decide) hI⟩
  rw [if_pos hx] at h
  obtain ⟨xa, xe⟩ := inR_to (by omega) hx
  obtain ⟨a, ha⟩ : ∃ a, a = toN x := ⟨_, rfl⟩
  rw [← ha] at xa xe h
  rw [xe]
  refine rg_c1 (fun hb => ?_) (fun hb => ?_)
  · rw [if_neg (by rw [show rg 0 1 y = false from hb]; decide)] at h
    exact Or.inr ⟨rfl, h.no (by decide) hI⟩
  rw [if_pos (show rg 0 1 y = true from hb)] at h
  have hv : vp_in (nI a) 6 := inN (by omega) (by omega)
  by_cases hy : y = 0
  · rw [if_pos hy] at h
    refine rb_t hy ?_
    unfold Wp_X0_leftAtNode F_X0_leftAtNode_e
    refine ⟨hv, hv, ?_⟩
    rw [nI_clamp (by omega), hI.lfn hG a xa]
    exact h.ok hI (fun _ _ => rfl)
  · rw [if_neg hy] at h
    refine rb_f hy ⟨hv, ?_⟩
    rw [nI_clamp (by omega), (hI.2.1.1 a (by omega)).2]
    exact h.ok hI (fun _ _ => rfl)
theorem rr_ofNode {S : St} {x y : Int32} {μ : Mm} {q : Int32 → Mm → Prop} (hG : Good S) (hI : mInv S μ) (h : rE (o_ofNode S x y) μ q) : Wp_X8_ofNode x y μ q := by
  have hN := hG.1
  have hn := hG.n
  unfold Wp_X8_ofNode
  intro K27 K40 h27 h40
  unfold F_X8_ofNode_e
  unfold o_ofNode at h
  refine s_isNode (by omega) hI.1.2.1 ?_
  refine bqr (fun hx => ?_) (fun hx => ?_)
  · rw [if_neg (by rw [hx]; decide)] at h
    refine h27 _ _ _ _ ?_
    unfold F_X8_ofNode_27
    refine s_can ?_
    exact ⟨fun hc => absurd rfl hc, fun _ => h.no (by decide) hI⟩
  rw [if_pos hx] at h
  obtain ⟨xa, xe⟩ := inR_to (by omega) hx
  obtain ⟨a, ha⟩ : ∃ a, a = toN x := ⟨_, rfl⟩
  rw [← ha] at xa xe h
  rw [xe]
  refine s_isIn ?_
  change (bI (rg 0 1 y) = 0 → _) ∧ (¬ bI (rg 0 1 y) = 0 → _)
  refine bq (fun hb => ?_) (fun hb => ?_)
  · rw [if_neg (by rw [hb]; decide)] at h
    refine h27 _ _ _ _ ?_
    unfold F_X8_ofNode_27
    refine s_can ?_
    exact ⟨fun hc => absurd rfl hc, fun _ => h.no (by decide) hI⟩
  rw [if_pos hb] at h
  refine h27 _ _ _ _ ?_
  unfold F_X8_ofNode_27
  refine s_can ?_
  refine ⟨fun _ => ?_, fun hc => absurd hc (by decide)⟩
  have hI1 : mInv S (up2 μ p_MO 35 0) := hI.can
  have hq : ∀ z, z = (if y = 0 then lfN S a else nI (cnS S a)) → q z (up2 μ p_MO 35 0) := fun z hz => by rw [hz]; exact h.ok0 hI
  clear h
  change K40 (nI a) y 0 0 (up2 μ p_MO 35 0)
  generalize up2 μ p_MO 35 (0 : Int32) = μ1 at hI1 hq ⊢
  have h8 : μ1 p_MO 8 = nI (nRq S) := hI1.2.1
  have hw := hI1.as hG
  have hs : sm (flA (fun r p => if r 3 p = a then 1 else 0) S) (3 * nRq S) = cnS S a := flA_sum _ S _ (fun i hi => (hw i hi).2.2.1)
  refine dn (P := fun j => K40 (nI a) y (nI (sm (flA (fun r p => if r 3 p = a then 1 else 0) S) j)) (nI j) μ1) (n := 3 * nRq S) ?_ ?_
  · refine h40 _ _ _ _ _ ?_
    unfold F_X8_ofNode_40
    rw [h8, hs]
    simp (disch := omega) only [vpT, vpT0, vpT1, vpT2, clT, clT0, clT1, clT2, leT, leF, leT0, ltT, ltF, i1, true_and, and_true, true_implies, false_implies, not_true_eq_false, not_false_eq_true, forall_const, implies_true, nI_pk3]
    by_cases hy : y = 0
    · refine rb_t hy ?_
      refine s_needsAt (by omega) hG.2.1 h8 hw ?_
      rw [hI1.1.2.2.1 a xa]
      exact hq _ (by rw [if_pos hy]; rfl)
    · exact rb_f hy (hq _ (by rw [if_neg hy]))
  · intro j hj hnx
    refine h40 _ _ _ _ _ ?_
    unfold F_X8_ofNode_40
    obtain ⟨⟨hp, -, he, hqq, -⟩, hA, h3, h14, hr⟩ := hw (j / 3) (by omega)
    rw [show sm (flA (fun r p => if r 3 p = a then 1 else 0) S) (j + 1) = sm (flA (fun r p => if r 3 p = a then 1 else 0) S) j + flA (fun r p => if r 3 p = a then 1 else 0) S j from rfl] at hnx
    generalize sm (flA (fun r p => if r 3 p = a then 1 else 0) S) j = s at hnx ⊢
    unfold flA at hnx
    dsimp only at hnx
    simp (disch := omega) only [vpT, vpT0, vpT1, vpT2, clT, clT0, clT1, clT2, leT, leF, leT0, ltT, ltF, i1, true_and, and_true, true_implies, false_implies, not_true_eq_false, not_false_eq_true, forall_const, implies_true, h8, nI_pk3, d3, r3, he, hp, e0, z_add]
    by_cases hE : S.2.2 (j / 3) 0 14 = 0
    · rw [if_pos hE] at hnx
      by_cases hL : S.2.2 (j / 3) 0 10 ≤ j % 3
      · rw [if_neg (by omega), Nat.add_zero] at hnx
        simp (disch := omega) only [vpT, vpT0, vpT1, vpT2, clT, clT0, clT1, clT2, leT, leF, leT0, ltT, ltF, i1, true_and, and_true, true_implies, false_implies, not_true_eq_false, not_false_eq_true, forall_const, implies_true, hE]
        exact hnx
      · have hjl : j % 3 < S.2.2 (j / 3) 0 10 := by omega
        have w3 := hA _ hjl
        have r3' := hr _ hjl
        rw [show 3 * (j / 3) + j % 3 = j by omega] at w3
        rw [if_pos hjl] at hnx
        simp (disch := omega) only [vpT, vpT0, vpT1, vpT2, clT, clT0, clT1, clT2, leT, leF, leT0, ltT, ltF, i1, true_and, and_true, true_implies, false_implies, not_true_eq_false, not_false_eq_true, forall_const, implies_true, hE, w3, e1]
        by_cases hvv : S.2.2 (j / 3) 3 (j % 3) = a
        · rw [if_pos hvv] at hnx
          exact rb_t hvv hnx
        · rw [if_neg hvv, Nat.add_zero] at hnx
          exact rb_f hvv hnx
    · rw [if_neg hE, Nat.add_zero] at hnx
      simp (disch := omega) only [vpT, vpT0, vpT1, vpT2, clT, clT0, clT1, clT2, leT, leF, leT0, ltT, ltF, i1, true_and, and_true, true_implies, false_implies, not_true_eq_false, not_false_eq_true, forall_const, implies_true, hE]
      exact hnx
theorem sw3 {y : Int32} {A B C D : Prop} (h : rg 0 3 y = true) (h0 : y = 0 → A) (h1 : y = 1 → B) (h2 : y = 2 → C) (h3 : y = 3 → D) : ((y = 0 → A) ∧ (y = 1 → B) ∧ (y = 2 → C)) ∧ (y.toInt < 0 ∨ 2 < y.toInt → D) := by
  refine ⟨⟨h0, h1, h2⟩, fun hh => h3 ?_⟩
  have := of_decide_eq_true h
  rw [Int32.le_iff_toInt_le, Int32.le_iff_toInt_le] at this
  rw [← Int32.toInt_inj]
  have e0 : (0 : Int32).toInt = 0 := rfl
  have e3 : (3 : Int32).toInt = 3 := rfl
  omega
theorem sw7 {y : Int32} {A B C D E F G H : Prop} (h : rg 0 7 y = true) (h0 : y = 0 → A) (h1 : y = 1 → B) (h2 : y = 2 → C) (h3 : y = 3 → D) (h4 : y = 4 → E) (h5 : y = 5 → F) (h6 : y = 6 → G) (h7 : y = 7 → H) : ((y = 0 → A) ∧ (y = 1 → B) ∧ (y = 2 → C) ∧ (y = 3 → D) ∧ (y = 4 → E) ∧ (y = 5 → F) ∧ (y = 6 → G)) ∧ (y.toInt < 0 ∨ 6 < y.toInt → H) := by
  refine ⟨⟨h0, h1, h2, h3, h4, h5, h6⟩, fun hh => h7 ?_⟩
  have := of_decide_eq_true h
  rw [Int32.le_iff_toInt_le, Int32.le_iff_toInt_le] at this
  rw [← Int32.toInt_inj]
  have e0 : (0 : Int32).toInt = 0 := rfl
  have e3 : (7 : Int32).toInt = 7 := rfl
  omega
def vLk (S : St) (k : Nat) (y : Int32) : Int32 := if y = 0 then nI (ndS S k) else if y = 1 then nI (rsS S k) else if y = 2 then lfL S k else nI (tb S.1.2.2.2 k)
def o_ofLink (S : St) (x y : Int32) : Ans := if inR (nLk S) x = true then (if rg 0 3 y = true then (0, vLk S (toN x) y, S) else (2, 0, S)) else (1, 0, S)
theorem tt_ofLink {S : St} {x y : Int32} {μ : Mm} {q : Int32 → Mm → Prop} (hG : Good S) (hI : cInv S μ) (h : tE (o_ofLink S x y) μ q) : Wp_L_ofLink x y μ q := by
  unfold Wp_L_ofLink Wp_X7_ofLink F_X7_ofLink_e
  unfold o_ofLink at h
  have hL := hG.L
  refine s_hasLink hI.1.1.2.1 ?_
  refine bqr (fun hx => ?_) (fun hx => ?_)
  · rw [if_neg (by rw [show inR (nLk S) x = false from hx]; decide)] at h
    exact Or.inl ⟨rfl, h.no (by decide) hI⟩
  rw [if_pos (show inR (nLk S) x = true from hx)] at h
  obtain ⟨xa, xe⟩ := inR_to (n := nLk S) (by omega) hx
  obtain ⟨a, ha⟩ : ∃ a, a = toN x := ⟨_, rfl⟩
  rw [← ha] at xa xe h
  rw [xe]
  refine rg_c1 (fun hb => ?_) (fun hb => ?_)
  · rw [if_neg (by rw [show rg 0 3 y = false from hb]; decide)] at h
    exact Or.inr ⟨rfl, h.no (by decide) hI⟩
  rw [if_pos (show rg 0 3 y = true from hb)] at h
  have hv : vp_in (nI a) 9 := inN (by omega) (by omega)
  obtain ⟨b1, b2, -⟩ := hI.2.1.2 a (by omega)
  have ce : (nI a).toNatClampNeg = a := nI_clamp (by omega)
  refine sw3 hb (fun e => ⟨hv, ?_⟩) (fun e => ⟨hv, ?_⟩) (fun e => ?_) (fun e => ?_)
  · subst e
    rw [ce, b1]
    exact h.ok hI (fun _ _ => rfl)
  · subst e
    rw [ce, b2]
    exact h.ok hI (fun _ _ => rfl)
  · subst e
    refine s_leftOnLink (by omega) ?_
    rw [show μ p_GR_linkRooms a - μ p_BK_linkNeeds a - μ p_BK_reserved a = lfL S a from hI.lfk hG a xa]
    exact h.ok hI (fun _ _ => rfl)
  · subst e
    rw [hI.1.1.2.2.2.1, m_sh _ hG.2.2.2.2.1 a (by omega)]
    exact h.ok hI (fun _ _ => rfl)
theorem rr_ofLink {S : St} {x y : Int32} {μ : Mm} {q : Int32 → Mm → Prop} (hG : Good S) (hI : mInv S μ) (h : rE (o_ofLink S x y) μ q) : Wp_X8_ofLink x y μ q := by
  have hL := hG.L
  have hn := hG.n
  unfold Wp_X8_ofLink
  intro K27 h27
  unfold F_X8_ofLink_e
  unfold o_ofLink at h
  refine s_isLink (n := nLk S) (by omega) hI.1.1.2.1 ?_
  refine bqr (fun hx => ?_) (fun hx => ?_)
  · rw [if_neg (by rw [hx]; decide)] at h
    refine h27 _ _ _ _ ?_
    unfold F_X8_ofLink_27
    refine s_can ?_
    exact ⟨fun hc => absurd rfl hc, fun _ => h.no (by decide) hI⟩
  rw [if_pos hx] at h
  obtain ⟨xa, xe⟩ := inR_to (by omega) hx
  obtain ⟨a, ha⟩ : ∃ a, a = toN x := ⟨_, rfl⟩
  rw [← ha] at xa xe h
  rw [xe]
  refine s_isIn ?_
  change (bI (rg 0 3 y) = 0 → _) ∧ (¬ bI (rg 0 3 y) = 0 → _)
  refine bq (fun hb => ?_) (fun hb => ?_)
  · rw [if_neg (by rw [hb]; decide)] at h
    refine h27 _ _ _ _ ?_
    unfold F_X8_ofLink_27
    refine s_can ?_
    exact ⟨fun hc => absurd rfl hc, fun _ => h.no (by decide) hI⟩
  rw [if_pos hb] at h
  refine h27 _ _ _ _ ?_
  unfold F_X8_ofLink_27
  refine s_can ?_
  refine ⟨fun _ => ?_, fun hc => absurd hc (by decide)⟩
  have hI1 : mInv S (up2 μ p_MO 35 0) := hI.can
  have hq : ∀ z, z = vLk S a y → q z (up2 μ p_MO 35 0) := fun z hz => by rw [hz]; exact h.ok0 hI
  clear h
  generalize up2 μ p_MO 35 (0 : Int32) = μ1 at hI1 hq ⊢
  have h8 : μ1 p_MO 8 = nI (nRq S) := hI1.2.1
  have hw := hI1.ws hG
  have hv : vp_in (nI a) 9 := inN (by omega) (by omega)
  have ce : (nI a).toNatClampNeg = a := nI_clamp (by omega)
  have hz := hG.hz a (by omega)
  refine sw3 hb (fun e => ?_) (fun e => ?_) (fun e => ⟨hv, ?_⟩) (fun e => ⟨hv, ?_⟩)
  · subst e
    exact s_needs (by omega) hG.2.1 h8 hw (hq _ rfl)
  · subst e
    rw [h8]
    exact s_reserved (n := nRq S) (by omega) (by omega) hL hI1.1.1.2.1 hw hG.hB hz (hq _ rfl)
  · subst e
    refine s_needs (by omega) hG.2.1 h8 hw ?_
    rw [h8]
    refine s_reserved (n := nRq S) (by omega) (by omega) hL hI1.1.1.2.1 hw hG.hB hz ?_
    rw [ce, hI1.1.2.2.2 a xa]
    exact hq _ rfl
  · subst e
    rw [ce, hI1.1.1.2.2.2 a (by omega)]
    have e : vLk S a 3 = bI (S.1.2.2.2.testBit a) := by
      show nI (tb S.1.2.2.2 a) = _
      rw [tb_bit]
      cases S.1.2.2.2.testBit a <;> rfl
    refine bq (fun hb => ?_) (fun hb => ?_)
    · exact hq _ (by rw [e, hb]; rfl)
    · exact hq _ (by rw [e, hb]; rfl)
