/-! end -/
def endR (r : Rq) : Rq := set3 r 0 14 1
theorem endR_14 {r : Rq} : endR r 0 14 = 1 := set3_eq
theorem endR_x {r : Rq} {x y : Nat} (h : x ≠ 0 ∨ y ≠ 14) : endR r x y = r x y := set3_ne h
def endS (S : St) (i : Nat) : St := updR S i (endR (S.2.2 i))
theorem endS_good {S : St} {i : Nat} (h : Good S) (hi : i < nRq S) : Good (endS S i) := by
  obtain ⟨g1, g2, g3, g4, g5, g6, g7, g8, g9, g10, g11⟩ := h
  refine ⟨g1, g2, g3, g4, g5, g6, g7, fun j hj => ?_, fun j hj => ?_, fun j hj hn => ?_, fun j hj hn => ?_⟩
  · by_cases hji : j = i
    · subst hji
      show GoodD (updR S j (endR (S.2.2 j)) |>.2.2 j)
      rw [updR_i]
      have := g8 j hj
      unfold GoodD at *
      simp only [endR_x (x := 0) (y := 10) (Or.inr (by decide)), endR_x (x := 0) (y := 11) (Or.inr (by decide)), endR_x (x := 1) (Or.inl (by decide)), endR_x (x := 2) (Or.inl (by decide)), endR_x (x := 4) (Or.inl (by decide)), endR_x (x := 5) (Or.inl (by decide)), endR_x (x := 6) (Or.inl (by decide))]
      exact this
    · show GoodD (updR S i (endR (S.2.2 i)) |>.2.2 j)
      rw [updR_ne hji]; exact g8 j hj
  · have hj : j < nRq S := hj
    by_cases hji : j = i
    · subst hji
      show GoodP (nNd S) (nLk S) (updR S j (endR (S.2.2 j)) |>.2.2 j) ∧ (updR S j (endR (S.2.2 j)) |>.2.2 j) 0 12 ≤ 2
      rw [updR_i]
      have := g9 j hj
      unfold GoodP at *
      simp only [endR_14, endR_x (x := 0) (y := 10) (Or.inr (by decide)), endR_x (x := 0) (y := 11) (Or.inr (by decide)), endR_x (x := 0) (y := 12) (Or.inr (by decide)), endR_x (x := 3) (Or.inl (by decide)), endR_x (x := 6) (Or.inl (by decide)), endR_x (x := 7) (Or.inl (by decide)), endR_x (x := 8) (Or.inl (by decide)), endR_x (x := 9) (Or.inl (by decide)), endR_x (x := 10) (Or.inl (by decide))]
      exact ⟨⟨by omega, this.1.2⟩, this.2⟩
    · show GoodP (nNd S) (nLk S) (updR S i (endR (S.2.2 i)) |>.2.2 j) ∧ (updR S i (endR (S.2.2 i)) |>.2.2 j) 0 12 ≤ 2
      rw [updR_ne hji]; exact g9 j hj
  · have hn : nRq S ≤ j := hn
    show (updR S i (endR (S.2.2 i)) |>.2.2 j) 0 14 = 0
    rw [updR_ne (by omega)]; exact g10 j hj hn
  · have hn : nRq S < j := hn
    show (updR S i (endR (S.2.2 i)) |>.2.2 j) 0 10 = 0 ∧ (updR S i (endR (S.2.2 i)) |>.2.2 j) 0 11 = 0
    rw [updR_ne (by omega)]; exact g11 j hj hn
/-- one request less in a sum -/
theorem sum_out {S : St} {i : Nat} (hi : i < nRq S) (f : Rq → Nat) (h0 : f (endR (S.2.2 i)) = 0) : sm (fun j => f (S.2.2 j)) (nRq S) = sm (fun j => f ((endS S i).2.2 j)) (nRq S) + f (S.2.2 i) := by
  have := sm_upd (fun j => f (S.2.2 j)) (fun j => f ((endS S i).2.2 j)) i (fun k hk => by
    show f (S.2.2 k) = f ((updR S i (endR (S.2.2 i))).2.2 k)
    rw [updR_ne hk]) (nRq S) hi
  have e : f ((endS S i).2.2 i) = 0 := by
    show f ((updR S i (endR (S.2.2 i))).2.2 i) = 0
    rw [updR_i]; exact h0
  simp only [e] at this
  omega
theorem qN_end {r : Rq} {v : Nat} : qN (endR r) v = 0 := by unfold qN; rw [endR_14]; rfl
theorem qP_end {r : Rq} {v : Nat} : qP (endR r) v = 0 := by unfold qP; rw [endR_14]; rfl
theorem qL_end {r : Rq} {v : Nat} : qL (endR r) v = 0 := by unfold qL; rw [endR_14]; rfl
theorem qB_end {r : Rq} {f v : Nat} : qB (endR r) f v = 0 := by unfold qB; rw [endR_14]; rfl
theorem tt_dismiss {S : St} {i : Nat} {μ : Mm} {q : Mm → Prop} (hG : Good S) (hI : cInv S μ) (hi : i < nRq S) (h14 : S.2.2 i 0 14 = 0) (h : ∀ μ2, cInv (endS S i) μ2 → (∀ c, mCell c → μ2 c = μ c) → q μ2) : Wp_X7_dismiss (p_RQ + 11 * i) μ q := by
  unfold Wp_X7_dismiss F_X7_dismiss_e
  have hn := hG.n
  obtain ⟨r, hr⟩ : ∃ r, r = S.2.2 i := ⟨_, rfl⟩
  have hg := hG.d (hG.i hi)
  have hG2 := endS_good hG hi
  have e1 : ∀ v, atS S v = atS (endS S i) v + sm (fN (S.2.2 i) v) (S.2.2 i 0 10) := fun v => by
    have := sum_out hi (fun r => qN r v) qN_end
    have e : qN (S.2.2 i) v = sm (fN (S.2.2 i) v) (S.2.2 i 0 10) := by unfold qN; rw [if_pos h14]; rfl
    rw [e] at this; exact this
  have e2 : ∀ v, cnS S v = cnS (endS S i) v + sm (fP (S.2.2 i) v) (S.2.2 i 0 10) := fun v => by
    have := sum_out hi (fun r => qP r v) qP_end
    have e : qP (S.2.2 i) v = sm (fP (S.2.2 i) v) (S.2.2 i 0 10) := by unfold qP; rw [if_pos h14]; rfl
    rw [e] at this; exact this
  have e3 : ∀ v, ndS S v = ndS (endS S i) v + sm (lL (S.2.2 i) v) (S.2.2 i 0 11) := fun v => by
    have := sum_out hi (fun r => qL r v) qL_end
    have e : qL (S.2.2 i) v = sm (lL (S.2.2 i) v) (S.2.2 i 0 11) := by unfold qL; rw [if_pos h14]
    rw [e] at this; exact this
  have e4 : ∀ f v, bhS S f v = bhS (endS S i) f v + sm (lB (S.2.2 i) f v) (S.2.2 i 0 11) := fun f v => by
    have := sum_out hi (fun r => qB r f v) qB_end
    have e : qB (S.2.2 i) f v = sm (lB (S.2.2 i) f v) (S.2.2 i 0 11) := by unfold qB; rw [if_pos h14]
    rw [e] at this; exact this
  have hB : Bk9 (nLk S) (atS S) (cnS S) (ndS S) (bhS S) μ := hI.2.1
  rw [show atS S = _ from funext e1, show cnS S = _ from funext e2, show ndS S = _ from funext e3, show bhS S = fun f v => bhS (endS S i) f v + sm (lB (S.2.2 i) f v) (S.2.2 i 0 11) from funext fun f => funext (e4 f)] at hB
  refine s_enter (s := false) (nL := nLk S) (nN := nNd S) (r := S.2.2 i) (a := atS (endS S i)) (c := cnS (endS S i)) (d := ndS (endS S i)) (b := bhS (endS S i)) (by show 105 ≤ 105 + _; omega) hg (hG.ok hi) hG.1 hG.2.2.1.1 hI.1.2.1 hI.1.1.2.1 (hI.rq hG hi) (fun f k => by have := hG2.bh f k; omega) hB (fun μ2 s2 hB2 => ?_)
  simp only [st_fn, Nat.add_zero] at hB2
  have k2 : ∀ c, ¬ dK c → μ2 c = μ c := fun c hc => s2 c hc
  obtain ⟨h1, -, h3, h4, h5⟩ := hI
  have h5 : cReqs (nRq S) S.2.2 μ := h5
  have hk : ∀ c, (¬ dK c) → c ≠ 105 + 11 * i → (up2 μ2 (p_RQ + 11 * i) 14 (1 : Int32)) c = μ c := fun c hc hne => by rw [u_ne (by show c ≠ 105 + 11 * i; exact hne), k2 c hc]
  refine h _ ⟨?_, ?_, ?_, ?_, ?_⟩ (fun c hc => hk c (by unfold mCell at hc; unfold dK; omega) (by unfold mCell at hc; omega))
  · exact h1.fr (fun c hc => hk c (by unfold dK; omega) (by omega))
  · exact Bk9.fr hB2 (fun c hc => by rw [u_ne (by unfold dK at hc; show c ≠ 105 + 11 * i; omega)])
  · rw [hk p_ML (by unfold dK; decide) (by show 0 ≠ _; omega)]; exact h3
  · rw [hk p_ML (by unfold dK; decide) (by show 0 ≠ _; omega)]; exact h4
  · have p105 : p_RQ + 11 * i = 105 + 11 * i := rfl
    have hkp : ∀ c, 105 + 11 * i < c → (up2 μ2 (p_RQ + 11 * i) 14 (1 : Int32)) c = μ c := fun c hc => hk c (by unfold dK; omega) (by omega)
    have hk0 : ∀ j, j ≠ 14 → (up2 μ2 (p_RQ + 11 * i) 14 (1 : Int32)) (p_RQ + 11 * i) j = μ (p_RQ + 11 * i) j := fun j hj => by rw [u_eq, d_ne hj, k2 _ (by unfold dK; omega)]
    refine cReqs.upd h5 hn (fun c a1 a2 a3 => hk c (by unfold dK; omega) (by omega)) ?_ (fun _ => ?_)
    · obtain ⟨q1, q2, q3, q4, q5⟩ := h5.1 i (hG.i hi)
      refine ⟨?_, ?_, ?_, fun k hk => ?_, fun l hl => ?_⟩
      · rw [hk0 10 (by decide), q1]; rfl
      · rw [hk0 11 (by decide), q2]; rfl
      · rw [u_eq, d_eq]; rfl
      · rw [hkp (p_RQ + 11 * i + 1) (by omega), hkp (p_RQ + 11 * i + 2) (by omega)]
        exact q4 k hk
      · rw [hkp (p_RQ + 11 * i + 4) (by omega), hkp (p_RQ + 11 * i + 5) (by omega), hkp (p_RQ + 11 * i + 6) (by omega)]
        exact q5 l hl
    · obtain ⟨a1, a2, a3, a4⟩ := h5.2 i hi
      refine ⟨fun k hk => ?_, fun l hl => ?_, by rw [hk0 12 (by decide)]; exact a3, by rw [hk0 13 (by decide)]; exact a4⟩
      · rw [hkp (p_RQ + 11 * i + 3) (by omega)]; exact a1 k hk
      · rw [hkp (p_RQ + 11 * i + 7) (by omega), hkp (p_RQ + 11 * i + 8) (by omega), hkp (p_RQ + 11 * i + 9) (by omega), hkp (p_RQ + 11 * i + 10) (by omega)]; exact a2 l hl
def o_end (S : St) (x : Int32) : Ans := if inR (nRq S) x = true then (if S.2.2 (toN x) 0 14 = 0 then (0, 0, endS S (toN x)) else (2, 0, S)) else (1, 0, S)
theorem g_end {S : St} {x : Int32} (h : Good S) : Good (o_end S x).2.2 := by
  unfold o_end
  split
  · rename_i hb
    split
    · exact endS_good h (inR_to (by have := h.n; omega) hb).1
    · exact h
  · exact h
theorem tt_end {S : St} {x : Int32} {μ : Mm} {q : Int32 → Mm → Prop} (hG : Good S) (hI : cInv S μ) (h : ∀ μ2, cInv (o_end S x).2.2 μ2 → (∀ c, mCell c → μ2 c = μ c) → q (nI (o_end S x).1) μ2) : Wp_L_end x μ q := by
  unfold Wp_L_end Wp_X7_end F_X7_end_e
  unfold o_end at h
  have hn := hG.n
  refine s_isPlaced hI.2.2.1 ?_
  refine bqr (fun hx => ?_) (fun hx => ?_)
  · rw [if_neg (by rw [hx]; decide)] at h
    exact Or.inl ⟨rfl, h μ hI (fun _ _ => rfl)⟩
  rw [if_pos hx] at h
  obtain ⟨xa, xe⟩ := inR_to (by omega) hx
  obtain ⟨a, ha⟩ : ∃ a, a = toN x := ⟨_, rfl⟩
  rw [← ha] at xa xe h
  rw [xe]
  simp (disch := omega) only [vpT, vpT0, vpT1, vpT2, clT, clT0, clT1, clT2, leT, leF, leT0, ltT, ltF, i1, true_and, and_true, true_implies, false_implies, not_true_eq_false, not_false_eq_true, forall_const, implies_true]
  have hq := hI.2.2.2.2.1 a (hG.i xa)
  have hb := hG.b xa
  rw [hq.2.2.1, e0 (by have := hb.2.2.1; omega)]
  by_cases hE : S.2.2 a 0 14 = 0
  · rw [if_pos hE] at h
    exact br_t hE (tt_dismiss hG hI xa hE (fun μ2 h1 h2 => h μ2 h1 h2))
  · rw [if_neg hE] at h
    exact br_f hE (Or.inr (h μ hI (fun _ _ => rfl)))
theorem nar_1 : vp_nar .boolean (1 : Int32) = 1 := nar_b true
theorem nar_0 : vp_nar .boolean (0 : Int32) = 0 := nar_b false
/-! pass -/
def tkU (S : St) (n : Nat) : St := (S.1, set2 S.2.1 0 2 (tkS S + n), S.2.2)
def psS (T : St) : Nat → St
  | 0 => T
  | k + 1 => if (psS T k).2.2 k 0 14 = 0 ∧ ¬ nI (tkS T) < nI ((psS T k).2.2 k 0 13) then endS (psS T k) k else psS T k
theorem psS_k (T : St) : ∀ k, (psS T k).1 = T.1 ∧ (psS T k).2.1 = T.2.1
  | 0 => ⟨rfl, rfl⟩
  | k + 1 => by
    have := psS_k T k
    unfold psS
    split
    · exact this
    · exact this
theorem psS_good {T : St} (h : Good T) : ∀ k, k ≤ nRq T → Good (psS T k)
  | 0, _ => h
  | k + 1, hk => by
    have := psS_good h k (by omega)
    have e := psS_k T k
    unfold psS
    split
    · exact endS_good this (by show k < (psS T k).2.1 0 1; rw [e.2]; show k < nRq T; omega)
    · exact this
theorem tkU_good {S : St} {n : Nat} (h : Good S) : Good (tkU S n) := h
def o_pass (S : St) (x : Int32) : Ans := if rg 1 100 x = true then (0, nI (tkS S + toN x), psS (tkU S (toN x)) (nRq S)) else (1, 0, S)
theorem g_pass {S : St} {x : Int32} (h : Good S) : Good (o_pass S x).2.2 := by
  unfold o_pass
  split
  · exact psS_good (tkU_good h) _ (Nat.le_refl _)
  · exact h
theorem tt_pass {S : St} {x : Int32} {μ : Mm} {q : Int32 → Mm → Prop} (hG : Good S) (hI : cInv S μ) (h : tE (o_pass S x) μ q) : Wp_L_pass x μ q := by
  unfold Wp_L_pass Wp_X7_pass
  intro K33 h33
  unfold F_X7_pass_e
  unfold o_pass at h
  have hn := hG.n
  refine rg_c1 (fun hb => ?_) (fun hb => ?_)
  · rw [if_neg (by rw [hb]; decide)] at h
    exact ⟨rfl, h.no (by decide) hI⟩
  rw [if_pos hb] at h
  obtain ⟨xa, xb, xe⟩ := rg_ex (a := 1) (b := 100) (by omega) (by omega) hb
  obtain ⟨a, ha⟩ : ∃ a, a = toN x := ⟨_, rfl⟩
  rw [← ha] at xa xb xe h
  rw [xe, show μ p_ML 7 = nI (tkS S) from hI.2.2.2.1, nI_add]
  have hI0 : cInv (tkU S a) (up2 μ p_ML 7 (nI (tkS S + a))) := by
    obtain ⟨h1, h2, h3, h4, h5⟩ := hI
    have e : ∀ c, c ≠ 0 → (up2 μ p_ML 7 (nI (tkS S + a))) c = μ c := fun c hc => u_ne hc
    refine ⟨h1.fr (fun c hc => e c (by omega)), Bk9.fr h2 (fun c hc => e c (by unfold dK at hc; omega)), ?_, ?_, cReqs.fr h5 hn (fun c a1 a2 => e c (by omega))⟩
    · rw [u_eq, d_ne (by decide)]; exact h3
    · rw [u_eq, d_eq]; rfl
  have hG0 : Good (tkU S a) := tkU_good hG
  refine dn (P := fun k => ∀ μ1, cInv (psS (tkU S a) k) μ1 → (∀ c, mCell c → μ1 c = μ c) → K33 (nI k) μ1) (n := nRq S) ?_ ?_ _ hI0 (fun c hc => u_ne (by unfold mCell at hc; show c ≠ 0; omega))
  · intro μ1 hI1 hm
    have e := psS_k (tkU S a) (nRq S)
    refine h33 _ _ ?_
    unfold F_X7_pass_33
    have h6 : μ1 p_ML 6 = nI (nRq S) := by rw [hI1.2.2.1]; show nI ((psS (tkU S a) (nRq S)).2.1 0 1) = _; rw [e.2]; rfl
    have h7 : μ1 p_ML 7 = nI (tkS S + a) := by rw [hI1.2.2.2.1]; show nI ((psS (tkU S a) (nRq S)).2.1 0 2) = _; rw [e.2]; rfl
    rw [h6, h7]
    simp (disch := omega) only [vpT, vpT0, vpT1, vpT2, clT, clT0, clT1, clT2, leT, leF, leT0, ltT, ltF, i1, true_and, and_true, true_implies, false_implies, not_true_eq_false, not_false_eq_true, forall_const, implies_true]
    exact h.ok hI1 hm
  · intro k hk hnx μ1 hI1 hm
    have e := psS_k (tkU S a) k
    have hG1 := psS_good hG0 k (Nat.le_of_lt hk)
    refine h33 _ _ ?_
    unfold F_X7_pass_33
    have h6 : μ1 p_ML 6 = nI (nRq S) := by rw [hI1.2.2.1]; show nI ((psS (tkU S a) k).2.1 0 1) = _; rw [e.2]; rfl
    have h7 : μ1 p_ML 7 = nI (tkS (tkU S a)) := by rw [hI1.2.2.2.1]; show nI ((psS (tkU S a) k).2.1 0 2) = _; rw [e.2]
    have hk1 : k < nRq (psS (tkU S a) k) := by show k < (psS (tkU S a) k).2.1 0 1; rw [e.2]; exact hk
    have hq := hI1.2.2.2.2.1 k (by omega)
    have hp := hI1.2.2.2.2.2 k hk1
    have hb := hG1.b hk1
    rw [h6, h7]
    simp (disch := omega) only [vpT, vpT0, vpT1, vpT2, clT, clT0, clT1, clT2, leT, leF, leT0, ltT, ltF, i1, true_and, and_true, true_implies, false_implies, not_true_eq_false, not_false_eq_true, forall_const, implies_true]
    rw [hq.2.2.1, hp.2.2.2, e0 (by have := hb.2.2.1; omega)]
    have hs : psS (tkU S a) (k + 1) = if (psS (tkU S a) k).2.2 k 0 14 = 0 ∧ ¬ nI (tkS (tkU S a)) < nI ((psS (tkU S a) k).2.2 k 0 13) then endS (psS (tkU S a) k) k else psS (tkU S a) k := rfl
    rw [hs] at hnx
    by_cases hE : (psS (tkU S a) k).2.2 k 0 14 = 0
    · refine rb_t hE ?_
      by_cases hT : nI (tkS (tkU S a)) < nI ((psS (tkU S a) k).2.2 k 0 13)
      · rw [if_neg (fun hx => hx.2 hT)] at hnx
        exact br_t hT (hnx μ1 hI1 hm)
      · rw [if_pos ⟨hE, hT⟩] at hnx
        refine br_f hT (tt_dismiss hG1 hI1 hk1 hE (fun μ2 hI2 hm2 => ?_))
        exact hnx μ2 hI2 (fun c hc => (hm2 c hc).trans (hm c hc))
    · rw [if_neg (fun hx => hE hx.1)] at hnx
      exact rb_f hE (hnx μ1 hI1 hm)
theorem up2_same {μ : Mm} {c k : Nat} {v : Int32} (h : μ c k = v) : up2 μ c k v = μ := by
  funext d j
  by_cases hd : d = c
  · subst hd
    rw [u_eq]
    by_cases hj : j = k
    · subst hj; rw [d_eq, h]
    · rw [d_ne hj]
  · rw [u_ne hd]
