/-! load -/
def ldS (S : St) (k g : Nat) : Nat := sm (fun i => if S.2.2 i 0 14 = 0 then ldOn g k (S.2.2 i) else 0) (nRq S)
def gon (y : Int32) : Nat := if y = -1 then 0 else 2 ^ toN y
def o_load (S : St) (x y : Int32) : Ans := if (inR (nLk S) x && (decide (y = -1) || inR (nLk S) y)) = true then (if x = y then (2, 0, S) else (0, nI (ldS S (toN x) (gon y)), S)) else (1, 0, S)
theorem p9_lt : ∀ k, k < 9 → 2 ^ k < 512 := by decide +kernel
theorem gon_ok {S : St} {y : Int32} (hL : nLk S ≤ 9) (h : (decide (y = -1) || inR (nLk S) y) = true) : gon y < 512 ∧ (y ≠ -1 → (1 : Int32) <<< (y &&& 31) = nI (gon y)) := by
  unfold gon
  by_cases hy : y = -1
  · rw [if_pos hy]; exact ⟨by omega, fun hc => absurd hy hc⟩
  · rw [if_neg hy]
    rw [decide_eq_false hy, Bool.false_or] at h
    obtain ⟨ya, ye⟩ := inR_to (by omega) h
    have h9 : toN y < 9 := by omega
    refine ⟨p9_lt _ h9, fun _ => ?_⟩
    conv => lhs; rw [ye]
    exact m_1 _ h9
theorem tt_load {S : St} {x y : Int32} {μ : Mm} {q : Int32 → Mm → Prop} (hG : Good S) (hI : cInv S μ) (h : tE (o_load S x y) μ q) : Wp_L_load x y μ q := by
  unfold Wp_L_load Wp_X7_load
  intro K37 K71 h37 h71
  unfold F_X7_load_e
  unfold o_load at h
  have hL := hG.L
  have hn := hG.n
  refine s_hasLink hI.1.1.2.1 ?_
  refine bq (fun hx => ?_) (fun hx => ?_)
  · rw [if_neg (by rw [show inR (nLk S) x = false from hx]; simp)] at h
    exact Or.inl ⟨rfl, h.no (by decide) hI⟩
  have hx : inR (nLk S) x = true := hx
  rw [hx, Bool.true_and] at h
  obtain ⟨xa, xe⟩ := inR_to (n := nLk S) (by omega) hx
  have k37 : (decide (y = -1) || inR (nLk S) y) = true → K37 x y μ := by
    intro hy
    rw [if_pos hy] at h
    obtain ⟨gl, ge⟩ := gon_ok hL hy
    refine h37 _ _ _ ?_
    unfold F_X7_load_37
    by_cases hxy : x = y
    · rw [if_pos hxy] at h
      exact rb_t hxy (Or.inr ⟨rfl, h.no (by decide) hI⟩)
    rw [if_neg hxy] at h
    refine rb_f hxy ?_
    have k71 : K71 x (nI (gon y)) 0 0 μ := by
      obtain ⟨a, ha⟩ : ∃ a, a = toN x := ⟨_, rfl⟩
      rw [← ha] at xa xe h
      rw [xe]
      refine dn (P := fun i => K71 (nI a) (nI (gon y)) (nI (sm (fun i => if S.2.2 i 0 14 = 0 then ldOn (gon y) a (S.2.2 i) else 0) i)) (nI i) μ) (n := nRq S) ?_ ?_
      · refine h71 _ _ _ _ _ ?_
        unfold F_X7_load_71
        rw [hI.2.2.1]
        simp (disch := omega) only [vpT, vpT0, vpT1, vpT2, clT, clT0, clT1, clT2, leT, leF, leT0, ltT, ltF, i1, true_and, and_true, true_implies, false_implies, not_true_eq_false, not_false_eq_true, forall_const, implies_true]
        exact h.ok hI (fun _ _ => rfl)
      · intro i hi hnx
        refine h71 _ _ _ _ _ ?_
        unfold F_X7_load_71
        rw [hI.2.2.1]
        simp (disch := omega) only [vpT, vpT0, vpT1, vpT2, clT, clT0, clT1, clT2, leT, leF, leT0, ltT, ltF, i1, true_and, and_true, true_implies, false_implies, not_true_eq_false, not_false_eq_true, forall_const, implies_true]
        have hc := hI.rq hG hi
        have hb := hG.b hi
        rw [hc.1.2.2.1, e0 (by have := hb.2.2.1; omega)]
        rw [show ∀ F : Nat → Nat, sm F (i + 1) = sm F i + F i from fun _ => rfl] at hnx
        by_cases hE : S.2.2 i 0 14 = 0
        · rw [if_pos hE] at hnx
          refine rb_t hE ?_
          refine s_loadOn hb hc.1 hc.2.2 (by omega) gl ?_
          rw [nI_add]
          exact hnx
        · rw [if_neg hE, Nat.add_zero] at hnx
          exact rb_f hE hnx
    by_cases hy1 : y = -1
    · refine rb_t hy1 ?_
      have : gon y = 0 := by unfold gon; rw [if_pos hy1]
      rw [this] at k71
      exact k71
    · refine rb_f hy1 ?_
      rw [ge hy1]
      exact k71
  by_cases hy1 : y = -1
  · exact br_t hy1 (k37 (by rw [decide_eq_true hy1]; rfl))
  · refine br_f hy1 ?_
    refine s_hasLink hI.1.1.2.1 ?_
    refine bqr (fun hy => ?_) (fun hy => k37 (by rw [show inR (nLk S) y = true from hy, Bool.or_true]))
    rw [decide_eq_false hy1, show inR (nLk S) y = false from hy, if_neg (by decide)] at h
    exact Or.inl ⟨rfl, h.no (by decide) hI⟩
/-! told, at, way -/
def vTl (S : St) (i : Nat) (y : Int32) : Int32 := if y = 0 then (if S.2.2 i 0 14 = 0 then 0 else 1) else if y = 1 then nI (S.2.2 i 0 12) else if y = 2 then nI (S.2.2 i 0 13) else if y = 3 then nI (S.2.2 i 0 10) else if y = 4 then nI (S.2.2 i 0 11) else if y = 5 then nI (nStop (S.2.2 i) S.1.2.2.2) else if y = 6 then nI (nSec (S.2.2 i) S.1.2.2.2) else nI (cst (S.2.2 i))
def o_told (S : St) (x y : Int32) : Ans := if inR (nRq S) x = true then (if rg 0 7 y = true then (0, vTl S (toN x) y, S) else (2, 0, S)) else (1, 0, S)
theorem tt_told {S : St} {x y : Int32} {μ : Mm} {q : Int32 → Mm → Prop} (hG : Good S) (hI : cInv S μ) (h : tE (o_told S x y) μ q) : Wp_L_told x y μ q := by
  unfold Wp_L_told Wp_X7_told F_X7_told_e
  unfold o_told at h
  have hn := hG.n
  refine s_isPlaced hI.2.2.1 ?_
  refine bqr (fun hx => ?_) (fun hx => ?_)
  · rw [if_neg (by rw [hx]; decide)] at h
    exact Or.inl ⟨rfl, h.no (by decide) hI⟩
  rw [if_pos hx] at h
  obtain ⟨xa, xe⟩ := inR_to (by omega) hx
  obtain ⟨a, ha⟩ : ∃ a, a = toN x := ⟨_, rfl⟩
  rw [← ha] at xa xe h
  rw [xe]
  refine rg_c1 (fun hb => ?_) (fun hb => ?_)
  · rw [if_neg (by rw [show rg 0 7 y = false from hb]; decide)] at h
    exact Or.inr ⟨rfl, h.no (by decide) hI⟩
  rw [if_pos (show rg 0 7 y = true from hb)] at h
  have hc := hI.rq hG xa
  have hb2 := hG.b xa
  obtain ⟨-, -, p12, p13⟩ := hI.2.2.2.2.2 a xa
  have ce : (nI a).toNatClampNeg = a := nI_clamp (by omega)
  refine ⟨inN (by omega) (by omega), ?_⟩
  rw [ce]
  have hf := hG.2.2.2.2.1
  have h8 : μ p_GR 8 = nI S.1.2.2.2 := hI.1.1.2.2.2.1
  have fin : ∀ z, z = vTl S a y → q 0 (up2 μ p_OUT 0 z) := fun z hz => by rw [hz]; exact h.ok hI (fun _ _ => rfl)
  refine sw7 hb (fun e => ?_) (fun e => ?_) (fun e => ?_) (fun e => ?_) (fun e => ?_) (fun e => ?_) (fun e => ?_) (fun e => ?_)
  · subst e
    rw [hc.1.2.2.1, e0 (by have := hb2.2.2.1; omega)]
    by_cases hE : S.2.2 a 0 14 = 0
    · exact br_t hE (fin _ (by unfold vTl; rw [if_pos rfl, if_pos hE]))
    · exact br_f hE (fin _ (by unfold vTl; rw [if_pos rfl, if_neg hE]))
  · subst e
    rw [p12]; exact fin _ rfl
  · subst e
    rw [p13]; exact fin _ rfl
  · subst e
    rw [hc.1.1]; exact fin _ rfl
  · subst e
    rw [hc.1.2.1]; exact fin _ rfl
  · subst e
    rw [h8]
    exact s_stoppedLines hb2 hc.1.2.1 hc.2.2 hf (fin _ rfl)
  · subst e
    rw [h8]
    exact s_linesOnSecondWay hb2 hc.1.2.1 hc.2.2 hf (fin _ rfl)
  · subst e
    exact s_ccost hb2 hc.1 hc.2.2 (fin _ rfl)
def o_at (S : St) (x y : Int32) : Ans := if inR (nRq S) x = true then (if inR (S.2.2 (toN x) 0 10) y = true then (0, nI (S.2.2 (toN x) 3 (toN y)), S) else (1, 0, S)) else (1, 0, S)
theorem tt_at {S : St} {x y : Int32} {μ : Mm} {q : Int32 → Mm → Prop} (hG : Good S) (hI : cInv S μ) (h : tE (o_at S x y) μ q) : Wp_L_at x y μ q := by
  unfold Wp_L_at Wp_X7_at F_X7_at_e
  unfold o_at at h
  have hn := hG.n
  refine s_isPlaced hI.2.2.1 ?_
  refine bq (fun hx => ?_) (fun hx => ?_)
  · rw [if_neg (by rw [hx]; decide)] at h
    exact ⟨rfl, h.no (by decide) hI⟩
  rw [if_pos hx] at h
  obtain ⟨xa, xe⟩ := inR_to (by omega) hx
  obtain ⟨a, ha⟩ : ∃ a, a = toN x := ⟨_, rfl⟩
  rw [← ha] at xa xe h
  rw [xe]
  have ce : (nI a).toNatClampNeg = a := nI_clamp (by omega)
  have hc := hI.rq hG xa
  have h10 := (hG.d (hG.i xa)).1
  rw [ce]
  refine ⟨inN (by omega) (by omega), ?_⟩
  refine s_hasPart hc.1.1 ?_
  refine bqr (fun hy => ?_) (fun hy => ?_)
  · rw [if_neg (by rw [hy]; decide)] at h
    exact ⟨rfl, h.no (by decide) hI⟩
  rw [if_pos hy] at h
  obtain ⟨ya, ye⟩ := inR_to (by omega) hy
  refine ⟨inN (by omega) (by omega), ?_⟩
  obtain ⟨b, hbb⟩ : ∃ b, b = toN y := ⟨_, rfl⟩
  rw [← hbb] at ya ye h
  rw [ye]
  refine s_nodeOf h10 hc.1.1 ya ?_
  rw [hc.2.1 b ya]
  exact h.ok hI (fun _ _ => rfl)
def vWy (r : Rq) (l : Nat) (z : Int32) : Int32 := if z = 0 then nI (r 7 l) else if z = 1 then nI (r 9 l) else nI (r 10 l)
def o_way (S : St) (x y z : Int32) : Ans := if inR (nRq S) x = true then (if inR (S.2.2 (toN x) 0 11) y = true then (if rg 0 2 z = true then (0, vWy (S.2.2 (toN x)) (toN y) z, S) else (2, 0, S)) else (1, 0, S)) else (1, 0, S)
theorem tt_way {S : St} {x y z : Int32} {μ : Mm} {q : Int32 → Mm → Prop} (hG : Good S) (hI : cInv S μ) (h : tE (o_way S x y z) μ q) : Wp_L_way x y z μ q := by
  unfold Wp_L_way Wp_X7_way F_X7_way_e
  unfold o_way at h
  have hn := hG.n
  refine s_isPlaced hI.2.2.1 ?_
  refine bq (fun hx => ?_) (fun hx => ?_)
  · rw [if_neg (by rw [hx]; decide)] at h
    exact Or.inl ⟨rfl, h.no (by decide) hI⟩
  rw [if_pos hx] at h
  obtain ⟨xa, xe⟩ := inR_to (by omega) hx
  obtain ⟨a, ha⟩ : ∃ a, a = toN x := ⟨_, rfl⟩
  rw [← ha] at xa xe h
  rw [xe]
  have ce : (nI a).toNatClampNeg = a := nI_clamp (by omega)
  have hc := hI.rq hG xa
  have h11 := (hG.d (hG.i xa)).2.1
  rw [ce]
  refine ⟨inN (by omega) (by omega), ?_⟩
  refine s_hasLine hc.1.2.1 ?_
  refine bqr (fun hy => ?_) (fun hy => ?_)
  · rw [if_neg (by rw [hy]; decide)] at h
    exact Or.inl ⟨rfl, h.no (by decide) hI⟩
  rw [if_pos hy] at h
  obtain ⟨ya, ye⟩ := inR_to (by omega) hy
  obtain ⟨b, hbb⟩ : ∃ b, b = toN y := ⟨_, rfl⟩
  rw [← hbb] at ya ye h
  rw [ye]
  refine rg_c1 (fun hz => ?_) (fun hz => ?_)
  · rw [if_neg (by rw [show rg 0 2 z = false from hz]; decide)] at h
    exact Or.inr ⟨rfl, h.no (by decide) hI⟩
  rw [if_pos (show rg 0 2 z = true from hz)] at h
  have cb : (nI b).toNatClampNeg = b := nI_clamp (by omega)
  have vb : vp_in (nI b) 3 := inN (by omega) (by omega)
  obtain ⟨w7, w8, w9, w10⟩ := hc.2.2 b ya
  refine ⟨inN (by omega) (by omega), ?_⟩
  rw [cb]
  by_cases h0 : z = 0
  · refine br_t h0 ⟨vb, ?_⟩
    rw [w7]
    have : vWy (S.2.2 a) b z = nI (S.2.2 a 7 b) := by unfold vWy; rw [if_pos h0]
    rw [this] at h
    exact h.ok hI (fun _ _ => rfl)
  · refine br_f h0 ?_
    by_cases h1 : z = 1
    · refine br_t h1 ⟨vb, ?_⟩
      rw [w9]
      have : vWy (S.2.2 a) b z = nI (S.2.2 a 9 b) := by unfold vWy; rw [if_neg h0, if_pos h1]
      rw [this] at h
      exact h.ok hI (fun _ _ => rfl)
    · refine br_f h1 ⟨vb, ?_⟩
      rw [w10]
      have : vWy (S.2.2 a) b z = nI (S.2.2 a 10 b) := by unfold vWy; rw [if_neg h0, if_neg h1]
      rw [this] at h
      exact h.ok hI (fun _ _ => rfl)
/-! least -/
theorem cInv.run {S : St} {μ μ2 : Mm} (h : cInv S μ) (hG : Good S) (hs : Sm (dR (p_RQ + 11 * nRq S)) μ μ2) : cInv S μ2 := by
  have hk : ∀ c, ¬ dR (p_RQ + 11 * nRq S) c → μ2 c = μ c := fun c hc => hs c hc
  have hp : p_RQ + 11 * nRq S = 105 + 11 * nRq S := rfl
  obtain ⟨h1, h2, h3, h4, h5⟩ := h
  have h5 : cReqs (nRq S) S.2.2 μ := h5
  refine ⟨h1.fr (fun c hc => hk c (by unfold dR dS; omega)), Bk9.fr h2 (fun c hc => hk c (by unfold dK at hc; unfold dR dS; omega)), ?_, ?_, ?_⟩
  · rw [show μ2 p_ML = μ p_ML from hk 0 (by unfold dR dS; omega)]; exact h3
  · rw [show μ2 p_ML = μ p_ML from hk 0 (by unfold dR dS; omega)]; exact h4
  · have := cReqs.upd (r := S.2.2 (nRq S)) (i := nRq S) h5 hG.n (fun c a1 a2 a3 => hk c (by unfold dR dS; omega)) ((h5.1 _ hG.n).fr2 (hk _ (by unfold dR dS; omega)) (hk _ (by unfold dR dS; omega)) (hk _ (by unfold dR dS; omega)) (hk _ (by unfold dR dS; omega)) (hk _ (by unfold dR dS; omega)) (hk _ (by unfold dR dS; omega))) (fun hx => absurd hx (Nat.lt_irrefl _))
    have e : (fun j => if j = nRq S then S.2.2 (nRq S) else S.2.2 j) = S.2.2 := by
      funext j
      by_cases hj : j = nRq S
      · rw [if_pos hj, hj]
      · rw [if_neg hj]
    rw [e] at this
    exact this
theorem Sm.m {p : Nat} {μ μ2 : Mm} (hs : Sm (dR p) μ μ2) (hp : 105 ≤ p) : ∀ c, mCell c → μ2 c = μ c := fun c hc => hs c (by unfold mCell at hc; unfold dR dS; omega)
def o_least (S : St) : Int32 := if dft S 0 10 = 0 then -1 else vB (best S)
theorem tt_leastM {S : St} {M : Nat} {μ : Mm} {q : Int32 → Mm → Prop} (hG : Good S) (hI : cInv S μ) (hM : M ≤ 1) (hr : 1 ≤ dft S 0 10) (h : ∀ μ2, cInv S μ2 → (∀ c, mCell c → μ2 c = μ c) → q (vB (best S)) μ2) : Wp_X6_run (p_RQ + 11 * nRq S) (nI M) μ q := by
  refine c_run hG hI hr (by omega) (fun μ2 B hB hR hs => ?_)
  have : B = best S := hR.b0 (by omega)
  rw [this]
  exact h μ2 (hI.run hG hs) (hs.m (by show 105 ≤ 105 + _; omega))
theorem tt_least {S : St} {μ : Mm} {q : Int32 → Mm → Prop} (hG : Good S) (hI : cInv S μ) (h : ∀ μ2, cInv S μ2 → (∀ c, mCell c → μ2 c = μ c) → q (o_least S) μ2) : Wp_X7_least μ q := by
  unfold Wp_X7_least F_X7_least_e
  unfold o_least at h
  have hd := (hG.d hG.n).1
  refine tt_draft hG hI ?_
  rw [(hI.2.2.2.2.1 _ hG.n).1, e0 (by omega)]
  by_cases hz : dft S 0 10 = 0
  · rw [if_pos hz] at h
    exact rb_t hz (h μ hI (fun _ _ => rfl))
  · rw [if_neg hz] at h
    refine rb_f hz ?_
    refine tt_draft hG hI ?_
    exact tt_leastM (M := 0) hG hI (by omega) (by omega) h
theorem tt_leastAnew {S : St} {μ : Mm} {q : Int32 → Mm → Prop} (hG : Good S) (hI : cInv S μ) (h : ∀ μ2, cInv S μ2 → (∀ c, mCell c → μ2 c = μ c) → q (o_least S) μ2) : Wp_X7_leastAnew μ q := by
  unfold Wp_X7_leastAnew F_X7_leastAnew_e
  unfold o_least at h
  have hd := (hG.d hG.n).1
  refine tt_draft hG hI ?_
  rw [(hI.2.2.2.2.1 _ hG.n).1, e0 (by omega)]
  by_cases hz : dft S 0 10 = 0
  · rw [if_pos hz] at h
    exact rb_t hz (h μ hI (fun _ _ => rfl))
  · rw [if_neg hz] at h
    refine rb_f hz ?_
    refine tt_draft hG hI ?_
    exact tt_leastM (M := 1) hG hI (by omega) (by omega) h
theorem dL.m {μ μ2 : Mm} (h : Sm dL μ μ2) : Sm mCell μ μ2 := Sm.mono h (fun c hc => by unfold dL at hc; unfold mCell; omega)
