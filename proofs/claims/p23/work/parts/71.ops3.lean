/-! fail -/
theorem m_clr9 : ∀ f, f < 512 → ∀ k, k < 9 → nI f &&& (((1 : Int32) <<< (nI k &&& 31)) ^^^ (-1 : Int32)) = nI (f &&& (511 ^^^ 2 ^ k)) := by decide +kernel
theorem clr9_lt : ∀ f, f < 512 → ∀ k, k < 9 → f &&& (511 ^^^ 2 ^ k) < 512 := by decide +kernel
theorem clr9_bit : ∀ f, f < 512 → ∀ k, k < 9 → ∀ j, j < 9 → (f &&& (511 ^^^ 2 ^ k)).testBit j = if j = k then false else f.testBit j := by decide +kernel
theorem or9_bit : ∀ f, f < 512 → ∀ k, k < 9 → ∀ j, j < 9 → (f ||| 2 ^ k).testBit j = if j = k then true else f.testBit j := by decide +kernel
def msk (f k : Nat) (b : Bool) : Nat := if b = true then f ||| 2 ^ k else f &&& (511 ^^^ 2 ^ k)
theorem msk_lt {f k : Nat} {b : Bool} (hf : f < 512) (hk : k < 9) : msk f k b < 512 := by
  unfold msk
  split
  · exact or_lt f hf k hk
  · exact clr9_lt f hf k hk
theorem msk_bit {f k j : Nat} {b : Bool} (hf : f < 512) (hk : k < 9) (hj : j < 9) : (msk f k b).testBit j = if j = k then b else f.testBit j := by
  unfold msk
  cases b with
  | true => rw [if_pos rfl]; exact or9_bit f hf k hk j hj
  | false => rw [if_neg (by decide)]; exact clr9_bit f hf k hk j hj
def setF (S : St) (k : Nat) (b : Bool) : St := ((S.1.1, S.1.2.1, S.1.2.2.1, msk S.1.2.2.2 k b), S.2)
def nHit (S : St) : Nat := sm (fun i => if S.2.2 i 0 14 = 0 ∧ 0 < nStop (S.2.2 i) S.1.2.2.2 then 1 else 0) (nRq S)
def o_fail (S : St) (x : Int32) (b : Bool) : Ans := if inR (nLk S) x = true then (0, nI (nHit (setF S (toN x) b)), setF S (toN x) b) else (1, 0, S)
theorem g_fail {S : St} {x : Int32} {b : Bool} (h : Good S) : Good (o_fail S x b).2.2 := by
  unfold o_fail
  split
  · rename_i hb
    have hx := inR_to (by have := h.L; omega) hb
    obtain ⟨g1, g2, g3, g4, g5, g6⟩ := h
    have h9 : nLk S ≤ 9 := g3.1
    exact ⟨g1, g2, g3, g4, msk_lt g5 (by omega), g6⟩
  · exact h
theorem nStop_le (r : Rq) (f : Nat) (h : r 0 11 ≤ 3) : nStop r f ≤ 3 := by
  have h1 : nStop r f ≤ sm (fun _ => 1) (r 0 11) := sm_le fun l _ => by split <;> omega
  rw [sm_const] at h1
  omega
theorem tt_fail {S : St} {x : Int32} {b : Bool} {μ : Mm} {q : Int32 → Mm → Prop} (hG : Good S) (hI : cInv S μ) (h : tE (o_fail S x b) μ q) : Wp_L_fail x (bI b) μ q := by
  have hN := hG.1
  have hL := hG.L
  have h7 : μ p_GR 7 = nI (nLk S) := hI.1.1.2.1
  unfold Wp_L_fail Wp_X7_fail
  intro K35 h35
  unfold F_X7_fail_e
  unfold o_fail at h
  refine s_hasLink h7 ?_
  refine bqr (fun hx => ?_) (fun hx => ?_)
  · rw [if_neg (by rw [hx]; decide)] at h
    exact ⟨rfl, h.no (by decide) hI⟩
  rw [if_pos hx] at h
  obtain ⟨xa, xe⟩ := inR_to (by omega) hx
  obtain ⟨a, ha⟩ : ∃ a, a = toN x := ⟨_, rfl⟩
  rw [← ha] at xa xe h
  rw [xe]
  have h5 := hG.2.2.2.2.1
  have ha9 : a < 9 := by omega
  -- after the ways are found anew
  have go : ∀ μ2, cInv (setF S a b) μ2 → (∀ c, mCell c → μ2 c = μ c) → K35 (0 : Int32) (0 : Int32) μ2 := by
    intro μ2 hI2 hm
    have hf5 : (setF S a b).1.2.2.2 < 512 := msk_lt h5 ha9
    have h62 : μ2 p_ML 6 = nI (nRq S) := hI2.2.2.1
    have h8 : μ2 p_GR 8 = nI (setF S a b).1.2.2.2 := hI2.1.1.2.2.2.1
    have hn := hG.n
    refine dn (P := fun i => K35 (nI (sm (fun i => if S.2.2 i 0 14 = 0 ∧ 0 < nStop (S.2.2 i) (setF S a b).1.2.2.2 then 1 else 0) i)) (nI i) μ2) (n := nRq S) ?_ ?_
    · refine h35 _ _ _ ?_
      unfold F_X7_fail_35
      rw [h62]
      simp (disch := omega) only [vpT, vpT0, vpT1, vpT2, clT, clT0, clT1, clT2, leT, leF, leT0, ltT, ltF, i1, true_and, and_true, true_implies, false_implies, not_true_eq_false, not_false_eq_true, forall_const, implies_true]
      exact h.ok hI2 hm
    · intro i hi hnx
      refine h35 _ _ _ ?_
      unfold F_X7_fail_35
      rw [h62]
      simp (disch := omega) only [vpT, vpT0, vpT1, vpT2, clT, clT0, clT1, clT2, leT, leF, leT0, ltT, ltF, i1, true_and, and_true, true_implies, false_implies, not_true_eq_false, not_false_eq_true, forall_const, implies_true]
      have hc : cRq (p_RQ + 11 * i) (S.2.2 i) μ2 := ⟨hI2.2.2.2.2.1 i (hG.i hi), (hI2.2.2.2.2.2 i hi).1, (hI2.2.2.2.2.2 i hi).2.1⟩
      have hb := hG.b hi
      rw [hc.1.2.2.1, e0 (by have := hb.2.2.1; omega), h8]
      rw [show ∀ F : Nat → Nat, sm F (i + 1) = sm F i + F i from fun _ => rfl] at hnx
      by_cases hE : S.2.2 i 0 14 = 0
      · refine rb_t hE ?_
        refine s_stoppedLines hb hc.1.2.1 hc.2.2 hf5 ?_
        have := nStop_le (S.2.2 i) (setF S a b).1.2.2.2 hb.1
        by_cases hz : nStop (S.2.2 i) (setF S a b).1.2.2.2 = 0
        · rw [if_neg (fun hx => by omega), Nat.add_zero] at hnx
          exact br_t (by rw [hz]; exact Int32.le_refl _) hnx
        · rw [if_pos ⟨hE, by omega⟩] at hnx
          exact br_f (not_le_nI (n := nStop (S.2.2 i) (setF S a b).1.2.2.2) (k := 0) (by omega) (by omega)) hnx
      · rw [if_neg (fun hx => hE hx.1), Nat.add_zero] at hnx
        exact rb_f hE hnx
  have step : ∀ μ1, μ1 = up2 μ p_GR 8 (nI (msk S.1.2.2.2 a b)) → Wp_X2_findWays μ1 (fun μ3 => K35 (0 : Int32) (0 : Int32) μ3) := by
    intro μ1 hμ1
    obtain ⟨⟨⟨gg1, gg2, gg3, gg4, gg5⟩, g2, g3, g4, g5⟩, hB, h3, h4, h5'⟩ := hI
    have e : ∀ c, c ≠ 1 → μ1 c = μ c := fun c p1 => by rw [hμ1, u_ne p1]
    have e1 : ∀ j, j ≠ 8 → μ1 p_GR j = μ p_GR j := fun j hj => by rw [hμ1, u_eq, d_ne hj]
    have hg1 : HG (setF S a b).1 μ1 := ⟨gg1, by rw [e1 7 (by decide)]; exact gg2, fun k hk => by
      rw [e p_GR_linkStarts (by decide), e p_GR_linkEnds (by decide)]; exact gg3 k hk, by rw [hμ1, u_eq, d_eq]; rfl, msk_lt h5 ha9⟩
    refine s_findWays (G := (setF S a b).1) hN (by rw [e1 6 (by decide)]; exact g2) hg1 (fun μ2 hR hF => ?_)
    have f : ∀ c, c ≠ 11 → (c < 60 ∨ 96 ≤ c) → μ2 c = μ1 c := fun c p1 p2 => hF c p1 p2
    have fe : ∀ c, c ≠ 1 → c ≠ 11 → (c < 60 ∨ 96 ≤ c) → μ2 c = μ c := fun c p0 p1 p2 => (f c p1 p2).trans (e c p0)
    refine go μ2 ⟨⟨hg1.fr hF, ?_, fun v hv => ?_, fun k hk => ?_, WR.of (G := (setF S a b).1) hG.2.2.1 hG.2.2.2.1 hR⟩, ?_, ?_, ?_, cReqs.fr h5' hG.n (fun c h1 h2 => fe c (by omega) (by omega) (by omega))⟩ (fun c hc => by unfold mCell at hc; exact fe c (by omega) (by omega) (by omega))
    · rw [f p_GR (by decide) (by decide), e1 6 (by decide)]; exact g2
    · rw [fe p_GR_nodeRooms (by decide) (by decide) (by decide)]; exact g3 v hv
    · rw [fe p_GR_linkRooms (by decide) (by decide) (by decide)]; exact g4 k hk
    · exact Bk9.fr hB (fun c hc => by unfold dK at hc; exact fe c (by omega) (by omega) (by omega))
    · rw [fe p_ML (by decide) (by decide) (by decide)]; exact h3
    · rw [fe p_ML (by decide) (by decide) (by decide)]; exact h4
  have h8 : μ p_GR 8 = nI S.1.2.2.2 := hI.1.1.2.2.2.1
  unfold Wp_X2_setFailed F_X2_setFailed_e
  rw [h8, m_clr9 _ h5 a ha9, m_or _ h5 a ha9]
  cases b with
  | false => exact br_t rfl (step _ rfl)
  | true => exact br_f (by decide) (step _ rfl)
theorem nar_b (b : Bool) : vp_nar .boolean (bI b) = bI b := by cases b <;> decide +kernel
/-! part -/
def set3 (r : Rq) (a b v : Nat) : Rq := fun x y => if x = a ∧ y = b then v else r x y
def addP (r : Rq) (n s : Nat) : Rq := set3 (set3 (set3 r 1 (r 0 10) n) 2 (r 0 10) s) 0 10 (r 0 10 + 1)
theorem set3_eq {r : Rq} {a b v : Nat} : set3 r a b v a b = v := if_pos ⟨rfl, rfl⟩
theorem set3_ne {r : Rq} {a b v x y : Nat} (h : x ≠ a ∨ y ≠ b) : set3 r a b v x y = r x y := if_neg (by omega)
theorem addP_10 {r : Rq} {n s : Nat} : addP r n s 0 10 = r 0 10 + 1 := set3_eq
theorem addP_0 {r : Rq} {n s j : Nat} (h : j ≠ 10) : addP r n s 0 j = r 0 j := by
  unfold addP
  rw [set3_ne (Or.inr h), set3_ne (Or.inl (by decide)), set3_ne (Or.inl (by decide))]
theorem addP_1 {r : Rq} {n s k : Nat} : addP r n s 1 k = if k = r 0 10 then n else r 1 k := by
  unfold addP
  rw [set3_ne (Or.inl (by decide)), set3_ne (Or.inl (by decide))]
  unfold set3
  simp
theorem addP_2 {r : Rq} {n s k : Nat} : addP r n s 2 k = if k = r 0 10 then s else r 2 k := by
  unfold addP
  rw [set3_ne (Or.inl (by decide))]
  by_cases hk : k = r 0 10
  · rw [if_pos hk, hk, set3_eq]
  · rw [if_neg hk, set3_ne (Or.inr hk), set3_ne (Or.inl (by decide))]
theorem addP_x {r : Rq} {n s x k : Nat} (h : 3 ≤ x) : addP r n s x k = r x k := by
  unfold addP
  rw [set3_ne (Or.inl (by omega)), set3_ne (Or.inl (by omega)), set3_ne (Or.inl (by omega))]
def o_part (S : St) (x y : Int32) : Ans := if (rg 1 20 x && rg 1 63 y) = true then (if dft S 0 10 = 3 then (2, 0, S) else (0, nI (dft S 0 10), updR S (nRq S) (addP (dft S) (toN x) (toN y)))) else (1, 0, S)
theorem addP_good {r : Rq} {n s : Nat} (h : GoodD r) (h3 : r 0 10 < 3) (hn : 1 ≤ n ∧ n ≤ 20) (hs : s < 64) : GoodD (addP r n s) := by
  obtain ⟨g1, g2, g3, g4, g5⟩ := h
  refine ⟨by rw [addP_10]; omega, by rw [addP_0 (by decide)]; exact g2, fun k hk => ?_, fun l hl => ?_, fun j l hj hl hjl => ?_⟩
  · rw [addP_10] at hk
    rw [addP_1, addP_2]
    by_cases hkn : k = r 0 10
    · rw [if_pos hkn, if_pos hkn]; exact ⟨hn.1, hn.2, hs⟩
    · rw [if_neg hkn, if_neg hkn]; exact g3 k (by omega)
  · rw [addP_0 (by decide)] at hl
    rw [addP_x (x := 4) (by decide), addP_x (x := 5) (by decide), addP_x (x := 6) (by decide), addP_10]
    obtain ⟨a1, a2, a3⟩ := g4 l hl
    exact ⟨by omega, by omega, a3⟩
  · rw [addP_0 (by decide)] at hj hl
    rw [addP_x (by decide), addP_x (by decide), addP_x (by decide), addP_x (by decide)]
    exact g5 j l hj hl hjl
theorem dft14 {S : St} (h : Good S) : dft S 0 14 = 0 := h.2.2.2.2.2.2.2.2.2.1 _ h.n (Nat.le_refl _)
theorem g_part {S : St} {x y : Int32} (h : Good S) : Good (o_part S x y).2.2 := by
  unfold o_part
  split
  · rename_i hb
    rw [Bool.and_eq_true] at hb
    split
    · exact h
    · rename_i hc
      have hx := rg_ex (a := 1) (b := 20) (by omega) (by omega) hb.1
      have hy := rg_ex (a := 1) (b := 63) (by omega) (by omega) hb.2
      have hd := h.d h.n
      have : dft S 0 10 ≤ 3 := hd.1
      exact h.dft (addP_good hd (by show dft S 0 10 < 3; omega) ⟨hx.1, hx.2.1⟩ (by omega)) (by rw [addP_0 (by decide)]; exact dft14 h)
  · exact h
theorem tt_draft {S : St} {μ : Mm} {q : Nat → Mm → Prop} (hG : Good S) (hI : cInv S μ) (h : q (p_RQ + 11 * nRq S) μ) : Wp_X7_draft μ q := by
  have hn := hG.n
  unfold Wp_X7_draft F_X7_draft_e
  rw [show μ p_ML 6 = nI (nRq S) from hI.2.2.1]
  simp (disch := omega) only [vpT, vpT0, vpT1, vpT2, clT, clT0, clT1, clT2, leT, leF, leT0, ltT, ltF, i1, true_and, and_true, true_implies, false_implies, not_true_eq_false, not_false_eq_true, forall_const, implies_true]
  exact h
theorem tt_part {S : St} {x y : Int32} {μ : Mm} {q : Int32 → Mm → Prop} (hG : Good S) (hI : cInv S μ) (h : tE (o_part S x y) μ q) : Wp_L_part x y μ q := by
  unfold Wp_L_part Wp_X7_part F_X7_part_e
  unfold o_part at h
  have hn := hG.n
  have hd := hG.d hn
  obtain ⟨q1, q2, q3, q4, q5⟩ := hI.2.2.2.2.1 _ hn
  refine rg_c2 (fun hb => ?_) (fun hb => ?_)
  · rw [hb, Bool.false_and, if_neg (by decide)] at h
    exact Or.inl ⟨rfl, h.no (by decide) hI⟩
  refine rg_c1 (fun hc => ?_) (fun hc => ?_)
  · rw [hc, Bool.and_false, if_neg (by decide)] at h
    exact Or.inl ⟨rfl, h.no (by decide) hI⟩
  rw [hb, hc, if_pos (by decide)] at h
  obtain ⟨xa, xb, xe⟩ := rg_ex (a := 1) (b := 20) (by omega) (by omega) hb
  obtain ⟨ya, yb, ye⟩ := rg_ex (a := 1) (b := 63) (by omega) (by omega) hc
  obtain ⟨a, ha⟩ : ∃ a, a = toN x := ⟨_, rfl⟩
  obtain ⟨b, hbb⟩ : ∃ b, b = toN y := ⟨_, rfl⟩
  rw [← ha] at xa xb xe h
  rw [← hbb] at ya yb ye h
  refine tt_draft hG hI ?_
  rw [q1]
  have h3 := hd.1
  by_cases hp : dft S 0 10 = 3
  · rw [if_pos hp] at h
    exact br_f (by rw [show S.2.2 (nRq S) 0 10 = 3 from hp]; decide) (Or.inr ⟨rfl, h.no (by decide) hI⟩)
  rw [if_neg hp] at h
  have hp3 : S.2.2 (nRq S) 0 10 < 3 := by have hp : S.2.2 (nRq S) 0 10 ≠ 3 := hp; omega
  refine br_t (of_eq_true (ltT (n := S.2.2 (nRq S) 0 10) (k := 3) hp3 (by omega))) ?_
  refine tt_draft hG hI ?_
  unfold Wp_X5_addPart F_X5_addPart_e
  obtain ⟨p, hpp⟩ : ∃ p, p = p_RQ + 11 * nRq S := ⟨_, rfl⟩
  have hp105 : p = 105 + 11 * nRq S := hpp
  rw [← hpp] at q1 q2 q3 q4 q5 ⊢
  rw [u_ne (show p ≠ p + 1 by omega), u_ne (show p ≠ p + 2 by omega), u_ne (show p ≠ p + 1 by omega), q1]
  simp (disch := omega) only [vpT, vpT0, vpT1, vpT2, clT, clT0, clT1, clT2, leT, leF, leT0, ltT, ltF, i1, true_and, and_true, true_implies, false_implies, not_true_eq_false, not_false_eq_true, forall_const, implies_true, u_eq, d_eq]
  rw [show nI (S.2.2 (nRq S) 0 10 + 1) - (1 : Int32) = nI (dft S 0 10) from nI_pred _]
  have e : ∀ c, c ≠ p → c ≠ p + 1 → c ≠ p + 2 → (up2 (up2 (up2 μ (p + 1) (S.2.2 (nRq S) 0 10) x) (p + 2) (S.2.2 (nRq S) 0 10) y) p 10 (nI (S.2.2 (nRq S) 0 10 + 1))) c = μ c := fun c h1 h2 h3 => by rw [u_ne h1, u_ne h3, u_ne h2]
  have ep : ∀ j, j ≠ 10 → (up2 (up2 (up2 μ (p + 1) (S.2.2 (nRq S) 0 10) x) (p + 2) (S.2.2 (nRq S) 0 10) y) p 10 (nI (S.2.2 (nRq S) 0 10 + 1))) p j = μ p j := fun j hj => by rw [u_eq, d_ne hj, u_ne (by omega), u_ne (by omega)]
  refine h.ok (hI.dft hG (fun c hc hne => e c (by omega) (by omega) (by omega)) ?_) (fun c hc => by unfold mCell at hc; exact e c (by omega) (by omega) (by omega))
  rw [← hpp]
  refine ⟨?_, ?_, ?_, fun k hk => ?_, fun l hl => ?_⟩
  · rw [u_eq, d_eq, addP_10]
  · rw [ep 11 (by decide), q2, addP_0 (by decide)]
  · rw [ep 14 (by decide), q3, addP_0 (by decide)]
  · rw [addP_10] at hk
    rw [addP_1, addP_2, u_ne (by omega), u_ne (by omega), u_eq, u_ne (by omega), u_eq]
    by_cases hkn : k = S.2.2 (nRq S) 0 10
    · rw [hkn, d_eq, d_eq, if_pos rfl, if_pos rfl]; exact ⟨xe, ye⟩
    · rw [d_ne hkn, d_ne hkn, if_neg hkn, if_neg hkn, u_ne (by omega)]
      have hk : k < S.2.2 (nRq S) 0 10 + 1 := hk
      exact q4 k (by omega)
  · rw [addP_0 (by decide)] at hl
    rw [addP_x (by decide), addP_x (by decide), addP_x (by decide), e (p + 4) (by omega) (by omega) (by omega), e (p + 5) (by omega) (by omega) (by omega), e (p + 6) (by omega) (by omega) (by omega)]
    exact q5 l hl
