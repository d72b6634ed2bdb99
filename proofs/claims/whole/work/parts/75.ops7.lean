/-! load -/
def ldS (S : St) (k g : Nat) : Nat := sm (fun i => if S.2.2 i 0 14 = 0 then ldOn g k (S.2.2 i) else 0) (nRq S)
def gon (y : Int32) : Nat := if y = -1 then 0 else 2 ^ toN y
def o_load (S : St) (x y : Int32) : Ans := if (inR (nLk S) x && (decide (y = -1) || inR (nLk S) y)) = true then (if x = y then (2, 0, S) else (0, nI (ldS S (toN x) (gon y)), S)) else (1, 0, S)
theorem p9_lt : ∀ k, k < 9 → 2 ^ k < 512 := by decide +kernel
theorem gon_ok {S : St} {y : Int32} (hL : nLk S ≤ 9) (h : (decide (y = -1) || inR (nLk S) y) = true) : gon y < 512 ∧ (y ≠ -1 → (1 : Int32) <<< (y &&& 31) = nI (gon y)) := by
  unfold gon
  by_cases hy : y = -1
  · rw [if_pos hy]; exact ⟨by omega, fun hc => absurd hy hc⟩
  · rw [if_neg hy]
    rw [decide_eq_false hy, Bool.false_or] at h
    obtain ⟨ya, ye⟩ := inR_to (by omega) h
    have h9 : toN y < 9 := by omega
    refine ⟨p9_lt _ h9, fun _ => ?_⟩
    conv => lhs; rw [ye]
    exact m_1 _ h9
theorem tt_load {S : St} {x y : Int32} {μ : Mm} {q : Int32 → Mm → Prop} (hG : Good S) (hI : cInv S μ) (h : tE (o_load S x y) μ q) : Wp_L_load x y μ q := by
  unfold Wp_L_load Wp_X7_load
  intro K37 K71 h37 h71
  unfold F_X7_load_e
  unfold o_load at h
  have hL := hG.L
  have hn := hG.n
  refine s_hasLink hI.1.1.2.1 ?_
  refine bq (fun hx => ?_) (fun hx => ?_)
  · rw [if_neg (by rw [show inR (nLk S) x = false from hx]; simp)] at h
    exact Or.inl ⟨rfl, h.no (by decide) hI⟩
  have hx : inR (nLk S) x = true := hx
  rw [hx, Bool.true_and] at h
  obtain ⟨xa, xe⟩ := inR_to (n := nLk S) (by omega) hx
  have k37 : (decide (y = -1) || inR (nLk S) y) = true → K37 x y μ := by
    intro hy
    rw [if_pos hy] at h
    obtain ⟨gl, ge⟩ := gon_ok hL hy
    refine h37 _ _ _ ?_
    unfold F_X7_load_37
    by_cases hxy : x = y
    · rw [if_pos hxy] at h
      exact rb_t hxy (Or.inr ⟨rfl, h.no (by decide) hI⟩)
    rw [if_neg hxy] at h
    refine rb_f hxy ?_
    have k71 : K71 x (nI (gon y)) 0 0 μ := by
      obtain ⟨a, ha⟩ : ∃ a, a = toN x := ⟨_, rfl⟩
      rw [← ha] at xa xe h
      rw [xe]
      refine dn (P := fun i => K71 (nI a) (nI (gon y)) (nI (sm (fun i => if S.2.2 i 0 14 = 0 then ldOn (gon y) a (S.2.2 i) else 0) i)) (nI i) μ) (n := nRq S) ?_ ?_
      · refine h71 _ _ _ _ _ ?_
        unfold F_X7_load_71
        rw [hI.2.2.1]
        simp (disch := omega) only [vpT, vpT0, vpT1, vpT2, clT, clT0, clT1, clT2, leT, leF, leT0, ltT, ltF, i1, true_and, and_true, true_implies, false_implies, not_true_eq_false, not_false_eq_true, forall_const, implies_true]
        exact h.ok hI (fun _ _ => rfl)
      · intro i hi hnx
        refine h71 _ _ _ _ _ ?_
        unfold F_X7_load_71
        rw [hI.2.2.1]
        simp (disch := omega) only [vpT, vpT0, vpT1, vpT2, clT, clT0, clT1, clT2, leT, leF, leT0, ltT, ltF, i1, true_and, and_true, true_implies, false_implies, not_true_eq_false, not_false_eq_true, forall_const, implies_true]
        have hc := hI.rq hG hi
        have hb := hG.b hi
        rw [hc.1.2.2.1, e0 (by have := hb.2.2.1; omega)]
        rw [show ∀ F : Nat → Nat, sm F (i + 1) = sm F i + F i from fun _ => rfl] at hnx
        by_cases hE : S.2.2 i 0 14 = 0
        · rw [if_pos hE] at hnx
          refine rb_t hE ?_
          refine s_loadOn hb hc.1 hc.2.2 (by omega) gl ?_
          rw [nI_add]
          exact hnx
        · rw [if_neg hE, Nat.add_zero] at hnx
          exact rb_f hE hnx
    by_cases hy1 : y = -1
    · refine rb_t hy1 ?_
      have : gon y = 0 := by unfold gon; rw [if_pos hy1]
      rw [this] at k71
      exact k71
    · refine rb_f hy1 ?_
      rw [ge hy1]
      exact k71
  by_cases hy1 : y = -1
  · exact br_t hy1 (k37 (by rw [decide_eq_true hy1]; rfl))
  · refine br_f hy1 ?_
    refine s_hasLink hI.1.1.2.1 ?_
    refine bqr (fun hy => ?_) (fun hy => k37 (by rw [show inR (nLk S) y = true from hy, Bool.or_true]))
    rw [decide_eq_false hy1, show inR (nLk S) y = false from hy, if_neg (by decide)] at h
    exact Or.inl ⟨rfl, h.no (by decide) hI⟩
theorem rr_load {S : St} {x y : Int32} {μ : Mm} {q : Int32 → Mm → Prop} (hG : Good S) (hI : mInv S μ) (h : rE (o_load S x y) μ q) : Wp_X8_load x y μ q := by
  have hL := hG.L
  have hn := hG.n
  unfold Wp_X8_load
  intro K26 K46 K74 K139 K173 K216 h26 h46 h74 h139 h173 h216
  unfold F_X8_load_e
  unfold o_load at h
  have k26f : (inR (nLk S) x && (decide (y = -1) || inR (nLk S) y)) = false → K26 x y 0 μ := by
    intro hf
    rw [if_neg (by rw [hf]; decide)] at h
    refine h26 _ _ _ _ ?_
    unfold F_X8_load_26
    refine rb_t rfl (h46 _ _ _ _ ?_)
    unfold F_X8_load_46
    refine s_can ?_
    exact ⟨fun hc => absurd rfl hc, fun _ => h.no (by decide) hI⟩
  have k26t : (inR (nLk S) x && (decide (y = -1) || inR (nLk S) y)) = true → K26 x y 1 μ := by
    intro ht
    rw [if_pos ht] at h
    rw [Bool.and_eq_true] at ht
    obtain ⟨gl, ge⟩ := gon_ok hL ht.2
    obtain ⟨xa, xe⟩ := inR_to (by omega) ht.1
    refine h26 _ _ _ _ ?_
    unfold F_X8_load_26
    refine rb_f (by decide) ?_
    by_cases hxy : x = y
    · rw [if_pos hxy] at h
      refine rb_t hxy (h46 _ _ _ _ ?_)
      unfold F_X8_load_46
      refine s_can ?_
      exact ⟨fun hc => absurd rfl hc, fun _ => h.no (by decide) hI⟩
    rw [if_neg hxy] at h
    refine rb_f hxy (h46 _ _ _ _ ?_)
    unfold F_X8_load_46
    refine s_can ?_
    refine ⟨fun _ => ?_, fun hc => absurd hc (by decide)⟩
    have hI1 : mInv S (up2 μ p_MO 35 0) := hI.can
    have hq : q (nI (ldS S (toN x) (gon y))) (up2 μ p_MO 35 0) := h.ok0 hI
    clear h
    generalize up2 μ p_MO 35 (0 : Int32) = μ1 at hI1 hq ⊢
    have k74 : K74 x (nI (gon y)) 0 0 μ1 := by
      obtain ⟨a, ha⟩ : ∃ a, a = toN x := ⟨_, rfl⟩
      rw [← ha] at xa xe hq
      rw [xe]
      obtain ⟨g, hg⟩ : ∃ g, g = gon y := ⟨_, rfl⟩
      rw [← hg] at gl hq ⊢
      have h8 : μ1 p_MO 8 = nI (nRq S) := hI1.2.1
      have hw := hI1.ws hG
      have hs : sm (fl (ldl g a) S) (3 * nRq S) = ldS S a g := fl_sum _ S _ (fun i hi => (hw i hi).2.2.1)
      refine dn (P := fun j => K74 (nI a) (nI g) (nI (sm (fl (ldl g a) S) j)) (nI j) μ1) (n := 3 * nRq S) ?_ ?_
      · refine h74 _ _ _ _ _ ?_
        unfold F_X8_load_74
        rw [h8, hs]
        simp (disch := omega) only [vpT, vpT0, vpT1, vpT2, clT, clT0, clT1, clT2, leT, leF, leT0, ltT, ltF, i1, true_and, and_true, true_implies, false_implies, not_true_eq_false, not_false_eq_true, forall_const, implies_true, nI_pk3]
        exact hq
      · intro j hj hnx
        refine h74 _ _ _ _ _ ?_
        unfold F_X8_load_74
        obtain ⟨⟨-, hl, he, -, hqq⟩, hW, h3, h14, hr⟩ := hw (j / 3) (by omega)
        rw [show sm (fl (ldl g a) S) (j + 1) = sm (fl (ldl g a) S) j + fl (ldl g a) S j from rfl] at hnx
        generalize sm (fl (ldl g a) S) j = s at hnx ⊢
        unfold fl at hnx
        simp (disch := omega) only [vpT, vpT0, vpT1, vpT2, clT, clT0, clT1, clT2, leT, leF, leT0, ltT, ltF, i1, true_and, and_true, true_implies, false_implies, not_true_eq_false, not_false_eq_true, forall_const, implies_true, h8, nI_pk3, d3, r3, he, hl, e0]
        by_cases hE : S.2.2 (j / 3) 0 14 = 0
        · rw [if_pos hE] at hnx
          by_cases hLn : S.2.2 (j / 3) 0 11 ≤ j % 3
          · rw [if_neg (by omega), Nat.add_zero] at hnx
            simp (disch := omega) only [vpT, vpT0, vpT1, vpT2, clT, clT0, clT1, clT2, leT, leF, leT0, ltT, ltF, i1, true_and, and_true, true_implies, false_implies, not_true_eq_false, not_false_eq_true, forall_const, implies_true, hE]
            exact hnx
          · have hjl : j % 3 < S.2.2 (j / 3) 0 11 := by omega
            rw [if_pos hjl] at hnx
            obtain ⟨w7, w8, w9, w10⟩ := hW _ hjl
            obtain ⟨-, -, w6⟩ := hqq _ hjl
            obtain ⟨r7, r9, r10, r8⟩ := hr _ hjl
            rw [show 3 * (j / 3) + j % 3 = j by omega] at w7 w8 w9 w10 w6
            simp (disch := omega) only [vpT, vpT0, vpT1, vpT2, clT, clT0, clT1, clT2, leT, leF, leT0, ltT, ltF, i1, true_and, and_true, true_implies, false_implies, not_true_eq_false, not_false_eq_true, forall_const, implies_true, hE, w7, w9]
            rw [nx_or, nx_and, e0 (and_lt512 gl)]
            have hj39 : vp_in (nI j) 39 := inN (by omega) (by omega)
            have cj : (nI j).toNatClampNeg = j := nI_clamp (by omega)
            unfold ldl hit at hnx
            by_cases hz : (S.2.2 (j / 3) 7 (j % 3) ||| S.2.2 (j / 3) 9 (j % 3)) &&& g = 0
            · rw [decide_eq_true hz, if_neg (by decide)] at hnx
              refine rb_t hz (h139 _ _ _ _ _ _ ?_)
              unfold F_X8_load_139
              refine br_f (by decide) ⟨hj39, ?_⟩
              rw [cj, w7]
              refine s_has r7 (by omega) ?_
              -- behind the way
              have k173 : ∀ y0 : Nat, y0 = tb (S.2.2 (j / 3) 7 (j % 3)) a * S.2.2 (j / 3) 8 (j % 3) → K173 (nI a) (nI g) (nI j) 1 (nI y0) (nI s) μ1 := by
                intro y0 hy0
                refine h173 _ _ _ _ _ _ _ ?_
                unfold F_X8_load_173
                refine br_f (by decide) ⟨hj39, ?_⟩
                rw [cj, w9]
                refine s_has r9 (by omega) ?_
                have k216 : ∀ y1 : Nat, y1 = tb (S.2.2 (j / 3) 9 (j % 3)) a * (S.2.2 (j / 3) 6 (j % 3) - S.2.2 (j / 3) 8 (j % 3)) → K216 (nI a) (nI g) (nI j) 1 (nI y1) (nI s + nI y0) μ1 := by
                  intro y1 hy1
                  refine h216 _ _ _ _ _ _ _ ?_
                  unfold F_X8_load_216
                  refine rb_f (by decide) ?_
                  unfold lL at hnx
                  rw [← hy0, ← hy1] at hnx
                  rw [z_add, nI_add, nI_add, i1, Nat.add_assoc]
                  exact hnx
                refine bq (fun hb => ?_) (fun hb => ?_)
                · exact k216 0 (by rw [tb_bit, hb]; simp)
                · rw [w6, w8, nI_sub r8]
                  exact ⟨hj39, hj39, k216 _ (by rw [tb_bit, hb]; simp)⟩
              refine bq (fun hb => ?_) (fun hb => ?_)
              · exact k173 0 (by rw [tb_bit, hb]; simp)
              · rw [w8]
                exact ⟨hj39, k173 _ (by rw [tb_bit, hb]; simp)⟩
            · rw [decide_eq_false hz, if_pos (by decide)] at hnx
              refine rb_f hz (h139 _ _ _ _ _ _ ?_)
              unfold F_X8_load_139
              refine br_t rfl (h173 _ _ _ _ _ _ _ ?_)
              unfold F_X8_load_173
              refine br_t rfl (h216 _ _ _ _ _ _ _ ?_)
              unfold F_X8_load_216
              refine rb_t rfl ⟨hj39, ?_⟩
              rw [cj, w10]
              refine s_has r10 (by omega) ?_
              refine bq (fun hb => ?_) (fun hb => ?_)
              · rw [tb_bit, hb, if_neg (by decide), Nat.zero_mul, Nat.add_zero] at hnx
                rw [z_add, z_add, z_add, i1]
                exact hnx
              · rw [tb_bit, hb, if_pos rfl, Nat.one_mul] at hnx
                refine ⟨hj39, ?_⟩
                rw [w6, z_add, z_add, nI_add, i1]
                exact hnx
        · rw [if_neg hE, Nat.add_zero] at hnx
          simp (disch := omega) only [vpT, vpT0, vpT1, vpT2, clT, clT0, clT1, clT2, leT, leF, leT0, ltT, ltF, i1, true_and, and_true, true_implies, false_implies, not_true_eq_false, not_false_eq_true, forall_const, implies_true, hE]
          exact hnx
    by_cases hy1 : y = -1
    · refine rb_t hy1 ?_
      have : gon y = 0 := by unfold gon; rw [if_pos hy1]
      rw [this] at k74
      exact k74
    · refine rb_f hy1 ?_
      rw [ge hy1]
      exact k74
  refine s_isLink (n := nLk S) (by omega) hI.1.1.2.1 ?_
  refine bq (fun hx => k26f (by rw [hx]; rfl)) (fun hx => ?_)
  by_cases hy1 : y = -1
  · exact br_t hy1 (k26t (by rw [hx, decide_eq_true hy1]; rfl))
  · refine br_f hy1 ?_
    refine s_isLink (n := nLk S) (by omega) hI.1.1.2.1 ?_
    exact bq (fun hy => k26f (by rw [hx, hy, decide_eq_false hy1]; rfl)) (fun hy => k26t (by rw [hx, hy, decide_eq_false hy1]; rfl))
/-! told, at, way -/
def vTl (S : St) (i : Nat) (y : Int32) : Int32 := if y = 0 then (if S.2.2 i 0 14 = 0 then 0 else 1) else if y = 1 then nI (S.2.2 i 0 12) else if y = 2 then nI (S.2.2 i 0 13) else if y = 3 then nI (S.2.2 i 0 10) else if y = 4 then nI (S.2.2 i 0 11) else if y = 5 then nI (nStop (S.2.2 i) S.1.2.2.2) else if y = 6 then nI (nSec (S.2.2 i) S.1.2.2.2) else nI (cst (S.2.2 i))
def o_told (S : St) (x y : Int32) : Ans := if inR (nRq S) x = true then (if rg 0 7 y = true then (0, vTl S (toN x) y, S) else (2, 0, S)) else (1, 0, S)
theorem tt_told {S : St} {x y : Int32} {μ : Mm} {q : Int32 → Mm → Prop} (hG : Good S) (hI : cInv S μ) (h : tE (o_told S x y) μ q) : Wp_L_told x y μ q := by
  unfold Wp_L_told Wp_X7_told F_X7_told_e
  unfold o_told at h
  have hn := hG.n
  refine s_isPlaced hI.2.2.1 ?_
  refine bqr (fun hx => ?_) (fun hx => ?_)
  · rw [if_neg (by rw [hx]; decide)] at h
    exact Or.inl ⟨rfl, h.no (by decide) hI⟩
  rw [if_pos hx] at h
  obtain ⟨xa, xe⟩ := inR_to (by omega) hx
  obtain ⟨a, ha⟩ : ∃ a, a = toN x := ⟨_, rfl⟩
  rw [← ha] at xa xe h
  rw [xe]
  refine rg_c1 (fun hb => ?_) (fun hb => ?_)
  · rw [if_neg (by rw [show rg 0 7 y = false from hb]; decide)] at h
    exact Or.inr ⟨rfl, h.no (by decide) hI⟩
  rw [if_pos (show rg 0 7 y = true from hb)] at h
  have hc := hI.rq hG xa
  have hb2 := hG.b xa
  obtain ⟨-, -, p12, p13⟩ := hI.2.2.2.2.2 a xa
  have ce : (nI a).toNatClampNeg = a := nI_clamp (by omega)
  refine ⟨inN (by omega) (by omega), ?_⟩
  rw [ce]
  have hf := hG.2.2.2.2.1
  have h8 : μ p_GR 8 = nI S.1.2.2.2 := hI.1.1.2.2.2.1
  have fin : ∀ z, z = vTl S a y → q 0 (up2 μ p_OUT 0 z) := fun z hz => by rw [hz]; exact h.ok hI (fun _ _ => rfl)
  refine sw7 hb (fun e => ?_) (fun e => ?_) (fun e => ?_) (fun e => ?_) (fun e => ?_) (fun e => ?_) (fun e => ?_) (fun e => ?_)
  · subst e
    rw [hc.1.2.2.1, e0 (by have := hb2.2.2.1; omega)]
    by_cases hE : S.2.2 a 0 14 = 0
    · exact br_t hE (fin _ (by unfold vTl; rw [if_pos rfl, if_pos hE]))
    · exact br_f hE (fin _ (by unfold vTl; rw [if_pos rfl, if_neg hE]))
  · subst e
    rw [p12]; exact fin _ rfl
  · subst e
    rw [p13]; exact fin _ rfl
  · subst e
    rw [hc.1.1]; exact fin _ rfl
  · subst e
    rw [hc.1.2.1]; exact fin _ rfl
  · subst e
    rw [h8]
    exact s_stoppedLines hb2 hc.1.2.1 hc.2.2 hf (fin _ rfl)
  · subst e
    rw [h8]
    exact s_linesOnSecondWay hb2 hc.1.2.1 hc.2.2 hf (fin _ rfl)
  · subst e
    exact s_ccost hb2 hc.1 hc.2.2 (fin _ rfl)
theorem rr_told {S : St} {x y : Int32} {μ : Mm} {q : Int32 → Mm → Prop} (hG : Good S) (hI : mInv S μ) (h : rE (o_told S x y) μ q) : Wp_X8_told x y μ q := by
  have hL := hG.L
  have hn := hG.n
  unfold Wp_X8_told
  intro K28 h28
  unfold F_X8_told_e
  unfold o_told at h
  refine s_isRequest (by omega) hI.2.1 ?_
  refine bqr (fun hx => ?_) (fun hx => ?_)
  · rw [if_neg (by rw [hx]; decide)] at h
    refine h28 _ _ _ _ ?_
    unfold F_X8_told_28
    refine s_can ?_
    exact ⟨fun hc => absurd rfl hc, fun _ => h.no (by decide) hI⟩
  rw [if_pos hx] at h
  obtain ⟨xa, xe⟩ := inR_to (by omega) hx
  obtain ⟨a, ha⟩ : ∃ a, a = toN x := ⟨_, rfl⟩
  rw [← ha] at xa xe h
  rw [xe]
  refine s_isIn ?_
  change (bI (rg 0 7 y) = 0 → _) ∧ (¬ bI (rg 0 7 y) = 0 → _)
  refine bq (fun hb => ?_) (fun hb => ?_)
  · rw [if_neg (by rw [hb]; decide)] at h
    refine h28 _ _ _ _ ?_
    unfold F_X8_told_28
    refine s_can ?_
    exact ⟨fun hc => absurd rfl hc, fun _ => h.no (by decide) hI⟩
  rw [if_pos hb] at h
  refine h28 _ _ _ _ ?_
  unfold F_X8_told_28
  refine s_can ?_
  refine ⟨fun _ => ?_, fun hc => absurd hc (by decide)⟩
  have hI1 : mInv S (up2 μ p_MO 35 0) := hI.can
  have fin : ∀ z, z = vTl S a y → q z (up2 μ p_MO 35 0) := fun z hz => by rw [hz]; exact h.ok0 hI
  clear h
  generalize up2 μ p_MO 35 (0 : Int32) = μ1 at hI1 fin ⊢
  have hb2 := hG.b xa
  have hq := hI1.2.2.2.1 a (hG.i xa)
  obtain ⟨-, hW, p12, p13⟩ := hI1.2.2.2.2 a xa
  have hv : vp_in (nI a) 13 := inN (by omega) (by omega)
  have ce : (nI a).toNatClampNeg = a := nI_clamp (by omega)
  rw [ce]
  have run : ∀ how, how ≤ 2 → ∀ q2 : Int32 → Mm → Prop, q2 (nI (rvs (S.2.2 a) S.1.2.2.2 how)) μ1 → Wp_X8_running (nI a) (nI how) μ1 q2 := fun how hh q2 h2 =>
    s_running (nL := nLk S) (hG.i xa) hb2.1 hL hI1.1.1.2.1 hI1.1.1.2.2.2 hq.2.1 hW ((hG.ok xa).2) hh h2
  refine sw7 hb (fun e => ⟨hv, ?_⟩) (fun e => ⟨hv, ?_⟩) (fun e => ⟨hv, ?_⟩) (fun e => ⟨hv, ?_⟩) (fun e => ⟨hv, ?_⟩) (fun e => ?_) (fun e => ?_) (fun e => ?_)
  · subst e
    rw [hq.2.2.1, e0 (by have := hb2.2.2.1; omega)]
    by_cases hE : S.2.2 a 0 14 = 0
    · exact br_t hE (fin _ (by unfold vTl; rw [if_pos rfl, if_pos hE]))
    · exact br_f hE (fin _ (by unfold vTl; rw [if_pos rfl, if_neg hE]))
  · subst e
    rw [p12]; exact fin _ rfl
  · subst e
    rw [p13]; exact fin _ rfl
  · subst e
    rw [hq.1]; exact fin _ rfl
  · subst e
    rw [hq.2.1]; exact fin _ rfl
  · subst e
    exact run 2 (by omega) _ (fin _ (by rw [rvs_2]; rfl))
  · subst e
    exact run 1 (by omega) _ (fin _ (by rw [rvs_1]; rfl))
  · subst e
    exact s_costOf (hG.i xa) hb2 hq hW (fin _ rfl)
def o_at (S : St) (x y : Int32) : Ans := if inR (nRq S) x = true then (if inR (S.2.2 (toN x) 0 10) y = true then (0, nI (S.2.2 (toN x) 3 (toN y)), S) else (1, 0, S)) else (1, 0, S)
theorem tt_at {S : St} {x y : Int32} {μ : Mm} {q : Int32 → Mm → Prop} (hG : Good S) (hI : cInv S μ) (h : tE (o_at S x y) μ q) : Wp_L_at x y μ q := by
  unfold Wp_L_at Wp_X7_at F_X7_at_e
  unfold o_at at h
  have hn := hG.n
  refine s_isPlaced hI.2.2.1 ?_
  refine bq (fun hx => ?_) (fun hx => ?_)
  · rw [if_neg (by rw [hx]; decide)] at h
    exact ⟨rfl, h.no (by decide) hI⟩
  rw [if_pos hx] at h
  obtain ⟨xa, xe⟩ := inR_to (by omega) hx
  obtain ⟨a, ha⟩ : ∃ a, a = toN x := ⟨_, rfl⟩
  rw [← ha] at xa xe h
  rw [xe]
  have ce : (nI a).toNatClampNeg = a := nI_clamp (by omega)
  have hc := hI.rq hG xa
  have h10 := (hG.d (hG.i xa)).1
  rw [ce]
  refine ⟨inN (by omega) (by omega), ?_⟩
  refine s_hasPart hc.1.1 ?_
  refine bqr (fun hy => ?_) (fun hy => ?_)
  · rw [if_neg (by rw [hy]; decide)] at h
    exact ⟨rfl, h.no (by decide) hI⟩
  rw [if_pos hy] at h
  obtain ⟨ya, ye⟩ := inR_to (by omega) hy
  refine ⟨inN (by omega) (by omega), ?_⟩
  obtain ⟨b, hbb⟩ : ∃ b, b = toN y := ⟨_, rfl⟩
  rw [← hbb] at ya ye h
  rw [ye]
  refine s_nodeOf h10 hc.1.1 ya ?_
  rw [hc.2.1 b ya]
  exact h.ok hI (fun _ _ => rfl)
theorem rr_at {S : St} {x y : Int32} {μ : Mm} {q : Int32 → Mm → Prop} (hG : Good S) (hI : mInv S μ) (h : rE (o_at S x y) μ q) : Wp_X8_at x y μ q := by
  have hn := hG.n
  unfold Wp_X8_at
  intro K29 K40 h29 h40
  unfold F_X8_at_e
  unfold o_at at h
  have kE : o_at S x y = (1, 0, S) → K29 x y 0 μ := by
    intro ho
    unfold o_at at ho
    rw [ho] at h
    refine h29 _ _ _ _ ?_
    unfold F_X8_at_29
    refine br_t rfl (h40 _ _ _ _ ?_)
    unfold F_X8_at_40
    refine s_can ?_
    exact ⟨fun _ => h.no (by decide) hI, fun hc => absurd rfl hc⟩
  refine s_isRequest (by omega) hI.2.1 ?_
  refine bq (fun hx => kE (by unfold o_at; rw [if_neg (by rw [hx]; decide)])) (fun hx => ?_)
  obtain ⟨xa, xe⟩ := inR_to (by omega) hx
  have ce : x.toNatClampNeg = toN x := rfl
  have hq := hI.2.2.2.1 (toN x) (hG.i xa)
  have h10 := (hG.d (hG.i xa)).1
  have hv : vp_in x 13 := by rw [xe]; exact inN (by omega) (by omega)
  refine ⟨hv, ?_⟩
  rw [ce, hq.1]
  refine s_isIn ?_
  rw [inR_is y (by omega)]
  refine bq (fun hy => kE (by unfold o_at; rw [if_pos hx, if_neg (by rw [hy]; decide)])) (fun hy => ?_)
  rw [if_pos hx, if_pos hy] at h
  obtain ⟨ya, ye⟩ := inR_to (by omega) hy
  refine h29 _ _ _ _ ?_
  unfold F_X8_at_29
  refine br_f (by decide) (h40 _ _ _ _ ?_)
  unfold F_X8_at_40
  refine s_can ?_
  refine ⟨fun hc => absurd hc (by decide), fun _ => ?_⟩
  obtain ⟨a, ha⟩ : ∃ a, a = toN x := ⟨_, rfl⟩
  rw [← ha] at xa xe h ya h10
  obtain ⟨b, hbb⟩ : ∃ b, b = toN y := ⟨_, rfl⟩
  rw [← hbb] at ya ye h
  rw [xe, ye, nI_pk3, nI_add]
  have hI1 : mInv S (up2 μ p_MO 35 0) := hI.can
  have := (hI1.2.2.2.2 a xa).1 b ya
  rw [nI_clamp (by omega)]
  refine ⟨inN (by omega) (by omega), ?_⟩
  change q ((up2 μ p_MO 35 0) p_MO_at (3 * a + b)) (up2 μ p_MO 35 0)
  rw [this]
  exact h.ok0 hI
def vWy (r : Rq) (l : Nat) (z : Int32) : Int32 := if z = 0 then nI (r 7 l) else if z = 1 then nI (r 9 l) else nI (r 10 l)
def o_way (S : St) (x y z : Int32) : Ans := if inR (nRq S) x = true then (if inR (S.2.2 (toN x) 0 11) y = true then (if rg 0 2 z = true then (0, vWy (S.2.2 (toN x)) (toN y) z, S) else (2, 0, S)) else (1, 0, S)) else (1, 0, S)
theorem tt_way {S : St} {x y z : Int32} {μ : Mm} {q : Int32 → Mm → Prop} (hG : Good S) (hI : cInv S μ) (h : tE (o_way S x y z) μ q) : Wp_L_way x y z μ q := by
  unfold Wp_L_way Wp_X7_way F_X7_way_e
  unfold o_way at h
  have hn := hG.n
  refine s_isPlaced hI.2.2.1 ?_
  refine bq (fun hx => ?_) (fun hx => ?_)
  · rw [if_neg (by rw [hx]; decide)] at h
    exact Or.inl ⟨rfl, h.no (by decide) hI⟩
  rw [if_pos hx] at h
  obtain ⟨xa, xe⟩ := inR_to (by omega) hx
  obtain ⟨a, ha⟩ : ∃ a, a = toN x := ⟨_, rfl⟩
  rw [← ha] at xa xe h
  rw [xe]
  have ce : (nI a).toNatClampNeg = a := nI_clamp (by omega)
  have hc := hI.rq hG xa
  have h11 := (hG.d (hG.i xa)).2.1
  rw [ce]
  refine ⟨inN (by omega) (by omega), ?_⟩
  refine s_hasLine hc.1.2.1 ?_
  refine bqr (fun hy => ?_) (fun hy => ?_)
  · rw [if_neg (by rw [hy]; decide)] at h
    exact Or.inl ⟨rfl, h.no (by decide) hI⟩
  rw [if_pos hy] at h
  obtain ⟨ya, ye⟩ := inR_to (by omega) hy
  obtain ⟨b, hbb⟩ : ∃ b, b = toN y := ⟨_, rfl⟩
  rw [← hbb] at ya ye h
  rw [ye]
  refine rg_c1 (fun hz => ?_) (fun hz => ?_)
  · rw [if_neg (by rw [show rg 0 2 z = false from hz]; decide)] at h
    exact Or.inr ⟨rfl, h.no (by decide) hI⟩
  rw [if_pos (show rg 0 2 z = true from hz)] at h
  have cb : (nI b).toNatClampNeg = b := nI_clamp (by omega)
  have vb : vp_in (nI b) 3 := inN (by omega) (by omega)
  obtain ⟨w7, w8, w9, w10⟩ := hc.2.2 b ya
  refine ⟨inN (by omega) (by omega), ?_⟩
  rw [cb]
  by_cases h0 : z = 0
  · refine br_t h0 ⟨vb, ?_⟩
    rw [w7]
    have : vWy (S.2.2 a) b z = nI (S.2.2 a 7 b) := by unfold vWy; rw [if_pos h0]
    rw [this] at h
    exact h.ok hI (fun _ _ => rfl)
  · refine br_f h0 ?_
    by_cases h1 : z = 1
    · refine br_t h1 ⟨vb, ?_⟩
      rw [w9]
      have : vWy (S.2.2 a) b z = nI (S.2.2 a 9 b) := by unfold vWy; rw [if_neg h0, if_pos h1]
      rw [this] at h
      exact h.ok hI (fun _ _ => rfl)
    · refine br_f h1 ⟨vb, ?_⟩
      rw [w10]
      have : vWy (S.2.2 a) b z = nI (S.2.2 a 10 b) := by unfold vWy; rw [if_neg h0, if_neg h1]
      rw [this] at h
      exact h.ok hI (fun _ _ => rfl)
theorem rr_way {S : St} {x y z : Int32} {μ : Mm} {q : Int32 → Mm → Prop} (hG : Good S) (hI : mInv S μ) (h : rE (o_way S x y z) μ q) : Wp_X8_way x y z μ q := by
  have hn := hG.n
  unfold Wp_X8_way
  intro K29 K55 h29 h55
  unfold F_X8_way_e
  unfold o_way at h
  have kE : o_way S x y z = (1, 0, S) → K29 x y z 0 μ := by
    intro ho
    unfold o_way at ho
    rw [ho] at h
    refine h29 _ _ _ _ _ ?_
    unfold F_X8_way_29
    refine rb_t rfl (h55 _ _ _ _ _ ?_)
    unfold F_X8_way_55
    refine s_can ?_
    exact ⟨fun hc => absurd rfl hc, fun _ => h.no (by decide) hI⟩
  refine s_isRequest (by omega) hI.2.1 ?_
  refine bq (fun hx => kE (by unfold o_way; rw [if_neg (by rw [hx]; decide)])) (fun hx => ?_)
  obtain ⟨xa, xe⟩ := inR_to (by omega) hx
  have ce : x.toNatClampNeg = toN x := rfl
  have hq := hI.2.2.2.1 (toN x) (hG.i xa)
  have h11 := (hG.d (hG.i xa)).2.1
  have hv : vp_in x 13 := by rw [xe]; exact inN (by omega) (by omega)
  refine ⟨hv, ?_⟩
  rw [ce, hq.2.1]
  refine s_isIn ?_
  rw [inR_is y (by omega)]
  refine bq (fun hy => kE (by unfold o_way; rw [if_pos hx, if_neg (by rw [hy]; decide)])) (fun hy => ?_)
  rw [if_pos hx, if_pos hy] at h
  obtain ⟨ya, ye⟩ := inR_to (by omega) hy
  refine h29 _ _ _ _ _ ?_
  unfold F_X8_way_29
  refine rb_f (by decide) ?_
  refine s_isIn ?_
  change (bI (rg 0 2 z) = 0 → _) ∧ (¬ bI (rg 0 2 z) = 0 → _)
  refine bq (fun hz => ?_) (fun hz => ?_)
  · rw [if_neg (by rw [hz]; decide)] at h
    refine h55 _ _ _ _ _ ?_
    unfold F_X8_way_55
    refine s_can ?_
    exact ⟨fun hc => absurd rfl hc, fun _ => h.no (by decide) hI⟩
  rw [if_pos hz] at h
  refine h55 _ _ _ _ _ ?_
  unfold F_X8_way_55
  refine s_can ?_
  refine ⟨fun _ => ?_, fun hc => absurd hc (by decide)⟩
  obtain ⟨a, ha⟩ : ∃ a, a = toN x := ⟨_, rfl⟩
  rw [← ha] at xa xe h ya h11
  obtain ⟨b, hbb⟩ : ∃ b, b = toN y := ⟨_, rfl⟩
  rw [← hbb] at ya ye h
  rw [xe, ye, nI_pk3, nI_add]
  have hI1 : mInv S (up2 μ p_MO 35 0) := hI.can
  obtain ⟨w7, w8, w9, w10⟩ := (hI1.2.2.2.2 a xa).2.1 b ya
  have fin : ∀ v, v = vWy (S.2.2 a) b z → q v (up2 μ p_MO 35 0) := fun v hv => by rw [hv]; exact h.ok0 hI
  clear h
  rw [nI_clamp (by omega)]
  have v3 : vp_in (nI (3 * a + b)) 39 := inN (by omega) (by omega)
  change _ ∧ (_ → _ ∧ q ((up2 μ p_MO 35 0) p_MO_way (3 * a + b)) (up2 μ p_MO 35 0))
  by_cases h0 : z = 0
  · refine rb_t h0 ⟨v3, ?_⟩
    rw [w7]
    exact fin _ (by unfold vWy; rw [if_pos h0])
  · refine rb_f h0 ?_
    by_cases h1 : z = 1
    · refine rb_t h1 ⟨v3, ?_⟩
      change q ((up2 μ p_MO 35 0) p_MO_rest (3 * a + b)) (up2 μ p_MO 35 0)
      rw [w9]
      exact fin _ (by unfold vWy; rw [if_neg h0, if_pos h1])
    · refine rb_f h1 ⟨v3, ?_⟩
      change q ((up2 μ p_MO 35 0) p_MO_second (3 * a + b)) (up2 μ p_MO 35 0)
      rw [w10]
      exact fin _ (by unfold vWy; rw [if_neg h0, if_neg h1])
/-! least -/
theorem cInv.run {S : St} {μ μ2 : Mm} (h : cInv S μ) (hG : Good S) (hs : Sm (dR (p_RQ + 11 * nRq S)) μ μ2) : cInv S μ2 := by
  have hk : ∀ c, ¬ dR (p_RQ + 11 * nRq S) c → μ2 c = μ c := fun c hc => hs c hc
  have hp : p_RQ + 11 * nRq S = 105 + 11 * nRq S := rfl
  obtain ⟨h1, h2, h3, h4, h5⟩ := h
  have h5 : cReqs (nRq S) S.2.2 μ := h5
  refine ⟨h1.fr (fun c hc => hk c (by unfold dR dS; omega)), Bk9.fr h2 (fun c hc => hk c (by unfold dK at hc; unfold dR dS; omega)), ?_, ?_, ?_⟩
  · rw [show μ2 p_ML = μ p_ML from hk 0 (by unfold dR dS; omega)]; exact h3
  · rw [show μ2 p_ML = μ p_ML from hk 0 (by unfold dR dS; omega)]; exact h4
  · have := cReqs.upd (r := S.2.2 (nRq S)) (i := nRq S) h5 hG.n (fun c a1 a2 a3 => hk c (by unfold dR dS; omega)) ((h5.1 _ hG.n).fr2 (hk _ (by unfold dR dS; omega)) (hk _ (by unfold dR dS; omega)) (hk _ (by unfold dR dS; omega)) (hk _ (by unfold dR dS; omega)) (hk _ (by unfold dR dS; omega)) (hk _ (by unfold dR dS; omega))) (fun hx => absurd hx (Nat.lt_irrefl _))
    have e : (fun j => if j = nRq S then S.2.2 (nRq S) else S.2.2 j) = S.2.2 := by
      funext j
      by_cases hj : j = nRq S
      · rw [if_pos hj, hj]
      · rw [if_neg hj]
    rw [e] at this
    exact this
theorem Sm.m {p : Nat} {μ μ2 : Mm} (hs : Sm (dR p) μ μ2) (hp : 105 ≤ p) : ∀ c, mCell c → μ2 c = μ c := fun c hc => hs c (by unfold mCell at hc; unfold dR dS; omega)
def o_least (S : St) : Int32 := if dft S 0 10 = 0 then -1 else vB (best S)
theorem tt_leastM {S : St} {M : Nat} {μ : Mm} {q : Int32 → Mm → Prop} (hG : Good S) (hI : cInv S μ) (hM : M ≤ 1) (hr : 1 ≤ dft S 0 10) (h : ∀ μ2, cInv S μ2 → (∀ c, mCell c → μ2 c = μ c) → q (vB (best S)) μ2) : Wp_X6_run (p_RQ + 11 * nRq S) (nI M) μ q := by
  refine c_run hG hI hr (by omega) (fun μ2 B hB hR hs => ?_)
  have : B = best S := hR.b0 (by omega)
  rw [this]
  exact h μ2 (hI.run hG hs) (hs.m (by show 105 ≤ 105 + _; omega))
theorem tt_least {S : St} {μ : Mm} {q : Int32 → Mm → Prop} (hG : Good S) (hI : cInv S μ) (h : ∀ μ2, cInv S μ2 → (∀ c, mCell c → μ2 c = μ c) → q (o_least S) μ2) : Wp_X7_least μ q := by
  unfold Wp_X7_least F_X7_least_e
  unfold o_least at h
  have hd := (hG.d hG.n).1
  refine tt_draft hG hI ?_
  rw [(hI.2.2.2.2.1 _ hG.n).1, e0 (by omega)]
  by_cases hz : dft S 0 10 = 0
  · rw [if_pos hz] at h
    exact rb_t hz (h μ hI (fun _ _ => rfl))
  · rw [if_neg hz] at h
    refine rb_f hz ?_
    refine tt_draft hG hI ?_
    exact tt_leastM (M := 0) hG hI (by omega) (by omega) h
theorem tt_leastAnew {S : St} {μ : Mm} {q : Int32 → Mm → Prop} (hG : Good S) (hI : cInv S μ) (h : ∀ μ2, cInv S μ2 → (∀ c, mCell c → μ2 c = μ c) → q (o_least S) μ2) : Wp_X7_leastAnew μ q := by
  unfold Wp_X7_leastAnew F_X7_leastAnew_e
  unfold o_least at h
  have hd := (hG.d hG.n).1
  refine tt_draft hG hI ?_
  rw [(hI.2.2.2.2.1 _ hG.n).1, e0 (by omega)]
  by_cases hz : dft S 0 10 = 0
  · rw [if_pos hz] at h
    exact rb_t hz (h μ hI (fun _ _ => rfl))
  · rw [if_neg hz] at h
    refine rb_f hz ?_
    refine tt_draft hG hI ?_
    exact tt_leastM (M := 1) hG hI (by omega) (by omega) h
theorem frR.m {S : St} {μ μ2 : Mm} (h : frRooms S μ μ2) : Sm mCell μ μ2 := Sm.mono h (fun c hc => by unfold mCell; rcases hc with rfl | rfl <;> decide)
theorem dL.m {μ μ2 : Mm} (h : Sm dL μ μ2) : Sm mCell μ μ2 := Sm.mono h (fun c hc => by unfold dL at hc; unfold mCell; omega)
theorem mInv.dL {S : St} {μ μ2 : Mm} (hI : mInv S μ) (h : Sm dL μ μ2) : mInv S μ2 := hI.fr (fun c hc => h c (by unfold mIC at hc; unfold Jvm.Pilot.CMeshLodgerLaw_law_r3181_68bb13.dL; omega))
theorem rr_leastNow {S : St} {μ : Mm} {q : Int32 → Mm → Prop} (hG : Good S) (hI : mInv S μ) (h : ∀ μ2, mInv S μ2 → Sm mCell μ μ2 → q (o_least S) μ2) : Wp_X8_leastNow μ q := by
  unfold Wp_X8_leastNow F_X8_leastNow_e
  unfold o_least at h
  have hd := (hG.d hG.n).1
  refine r_sums hG hI.can (fun μ1 f1 hR hI1 => ?_)
  have s1 : Sm mCell μ μ1 := Sm.tr (Sm.up (Or.inl rfl)) (frR.m f1)
  by_cases hz : dft S 0 10 = 0
  · rw [if_pos hz] at h
    unfold Wp_X8_leastOf
    intro K6 K36 h6 h36
    unfold F_X8_leastOf_e
    refine h6 _ _ _ _ ?_
    unfold F_X8_leastOf_6
    rw [show μ1 p_MO 8 = nI (nRq S) from hI1.2.1]
    have hn := hG.n
    refine br_f (by decide) ⟨inN (by omega) (by omega), ?_⟩
    rw [nI_clamp (by omega), (hI1.2.2.2.1 _ hG.n).1]
    refine br_t (by rw [show S.2.2 (nRq S) 0 10 = 0 from hz]; decide) ?_
    exact rb_t rfl (h μ1 hI1 s1)
  · rw [if_neg hz] at h
    refine r_least (any := false) hG hI1 hR (by omega) (fun μ2 B hB hRB hs => ?_)
    have : B = best S := hRB.b0 (by decide)
    rw [this]
    exact h μ2 (hI1.dL hs) (s1.tr (dL.m hs))
