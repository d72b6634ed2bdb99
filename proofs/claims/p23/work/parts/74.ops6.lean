/-! what tells -/
theorem tt_now {S : St} {μ : Mm} {q : Int32 → Mm → Prop} (hI : cInv S μ) (h : q (nI (tkS S)) μ) : Wp_X7_now μ q := by
  unfold Wp_X7_now F_X7_now_e
  rw [show μ p_ML 7 = nI (tkS S) from hI.2.2.2.1]
  exact h
theorem Good.hB {S : St} (hG : Good S) : ∀ i, i < nRq S → S.2.2 i 0 11 ≤ 3 ∧ ∀ l, l < S.2.2 i 0 11 → S.2.2 i 6 l ≤ 20 := fun i hi => by
  have := hG.d (hG.i hi)
  exact ⟨this.2.1, fun l hl => (this.2.2.2.1 l hl).2.2.2.2⟩
def o_ofNode (S : St) (x y : Int32) : Ans := if inR (nNd S) x = true then (if rg 0 1 y = true then (0, if y = 0 then lfN S (toN x) else nI (cnS S (toN x)), S) else (2, 0, S)) else (1, 0, S)
theorem tt_ofNode {S : St} {x y : Int32} {μ : Mm} {q : Int32 → Mm → Prop} (hG : Good S) (hI : cInv S μ) (h : tE (o_ofNode S x y) μ q) : Wp_L_ofNode x y μ q := by
  unfold Wp_L_ofNode Wp_X7_ofNode F_X7_ofNode_e
  unfold o_ofNode at h
  have hN := hG.1
  refine s_hasNode (by omega) hI.1.2.1 ?_
  refine bqr (fun hx => ?_) (fun hx => ?_)
  · rw [if_neg (by rw [hx]; decide)] at h
    exact Or.inl ⟨rfl, h.no (by decide) hI⟩
  rw [if_pos hx] at h
  obtain ⟨xa, xe⟩ := inR_to (by omega) hx
  obtain ⟨a, ha⟩ : ∃ a, a = toN x := ⟨_, rfl⟩
  rw [← ha] at xa xe h
  rw [xe]
  refine rg_c1 (fun hb => ?_) (fun hb => ?_)
  · rw [if_neg (by rw [show rg 0 1 y = false from hb]; decide)] at h
    exact Or.inr ⟨rfl, h.no (by decide) hI⟩
  rw [if_pos (show rg 0 1 y = true from hb)] at h
  have hv : vp_in (nI a) 6 := inN (by omega) (by omega)
  by_cases hy : y = 0
  · rw [if_pos hy] at h
    refine rb_t hy ?_
    unfold Wp_X0_leftAtNode F_X0_leftAtNode_e
    refine ⟨hv, hv, ?_⟩
    rw [nI_clamp (by omega), hI.lfn hG a xa]
    exact h.ok hI (fun _ _ => rfl)
  · rw [if_neg hy] at h
    refine rb_f hy ⟨hv, ?_⟩
    rw [nI_clamp (by omega), (hI.2.1.1 a (by omega)).2]
    exact h.ok hI (fun _ _ => rfl)
theorem sw3 {y : Int32} {A B C D : Prop} (h : rg 0 3 y = true) (h0 : y = 0 → A) (h1 : y = 1 → B) (h2 : y = 2 → C) (h3 : y = 3 → D) : ((y = 0 → A) ∧ (y = 1 → B) ∧ (y = 2 → C)) ∧ (y.toInt < 0 ∨ 2 < y.toInt → D) := by
  refine ⟨⟨h0, h1, h2⟩, fun hh => h3 ?_⟩
  have := of_decide_eq_true h
  rw [Int32.le_iff_toInt_le, Int32.le_iff_toInt_le] at this
  rw [← Int32.toInt_inj]
  have e0 : (0 : Int32).toInt = 0 := rfl
  have e3 : (3 : Int32).toInt = 3 := rfl
  omega
theorem sw7 {y : Int32} {A B C D E F G H : Prop} (h : rg 0 7 y = true) (h0 : y = 0 → A) (h1 : y = 1 → B) (h2 : y = 2 → C) (h3 : y = 3 → D) (h4 : y = 4 → E) (h5 : y = 5 → F) (h6 : y = 6 → G) (h7 : y = 7 → H) : ((y = 0 → A) ∧ (y = 1 → B) ∧ (y = 2 → C) ∧ (y = 3 → D) ∧ (y = 4 → E) ∧ (y = 5 → F) ∧ (y = 6 → G)) ∧ (y.toInt < 0 ∨ 6 < y.toInt → H) := by
  refine ⟨⟨h0, h1, h2, h3, h4, h5, h6⟩, fun hh => h7 ?_⟩
  have := of_decide_eq_true h
  rw [Int32.le_iff_toInt_le, Int32.le_iff_toInt_le] at this
  rw [← Int32.toInt_inj]
  have e0 : (0 : Int32).toInt = 0 := rfl
  have e3 : (7 : Int32).toInt = 7 := rfl
  omega
def vLk (S : St) (k : Nat) (y : Int32) : Int32 := if y = 0 then nI (ndS S k) else if y = 1 then nI (rsS S k) else if y = 2 then lfL S k else nI (tb S.1.2.2.2 k)
def o_ofLink (S : St) (x y : Int32) : Ans := if inR (nLk S) x = true then (if rg 0 3 y = true then (0, vLk S (toN x) y, S) else (2, 0, S)) else (1, 0, S)
theorem tt_ofLink {S : St} {x y : Int32} {μ : Mm} {q : Int32 → Mm → Prop} (hG : Good S) (hI : cInv S μ) (h : tE (o_ofLink S x y) μ q) : Wp_L_ofLink x y μ q := by
  unfold Wp_L_ofLink Wp_X7_ofLink F_X7_ofLink_e
  unfold o_ofLink at h
  have hL := hG.L
  refine s_hasLink hI.1.1.2.1 ?_
  refine bqr (fun hx => ?_) (fun hx => ?_)
  · rw [if_neg (by rw [show inR (nLk S) x = false from hx]; decide)] at h
    exact Or.inl ⟨rfl, h.no (by decide) hI⟩
  rw [if_pos (show inR (nLk S) x = true from hx)] at h
  obtain ⟨xa, xe⟩ := inR_to (n := nLk S) (by omega) hx
  obtain ⟨a, ha⟩ : ∃ a, a = toN x := ⟨_, rfl⟩
  rw [← ha] at xa xe h
  rw [xe]
  refine rg_c1 (fun hb => ?_) (fun hb => ?_)
  · rw [if_neg (by rw [show rg 0 3 y = false from hb]; decide)] at h
    exact Or.inr ⟨rfl, h.no (by decide) hI⟩
  rw [if_pos (show rg 0 3 y = true from hb)] at h
  have hv : vp_in (nI a) 9 := inN (by omega) (by omega)
  obtain ⟨b1, b2, -⟩ := hI.2.1.2 a (by omega)
  have ce : (nI a).toNatClampNeg = a := nI_clamp (by omega)
  refine sw3 hb (fun e => ⟨hv, ?_⟩) (fun e => ⟨hv, ?_⟩) (fun e => ?_) (fun e => ?_)
  · subst e
    rw [ce, b1]
    exact h.ok hI (fun _ _ => rfl)
  · subst e
    rw [ce, b2]
    exact h.ok hI (fun _ _ => rfl)
  · subst e
    refine s_leftOnLink (by omega) ?_
    rw [show μ p_GR_linkRooms a - μ p_BK_linkNeeds a - μ p_BK_reserved a = lfL S a from hI.lfk hG a xa]
    exact h.ok hI (fun _ _ => rfl)
  · subst e
    rw [hI.1.1.2.2.2.1, m_sh _ hG.2.2.2.2.1 a (by omega)]
    exact h.ok hI (fun _ _ => rfl)
