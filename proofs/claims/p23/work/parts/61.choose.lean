/-! the class's search -/
def Env (G : GD) (p : Nat) (r : Rq) (μ : Mm) : Prop := HG G μ ∧ WR G μ ∧ cQ p r μ
def envC (p c : Nat) : Prop := c = 1 ∨ c = 9 ∨ c = 10 ∨ c = 11 ∨ (60 ≤ c ∧ c < 96) ∨ c = p ∨ c = p + 1 ∨ c = p + 2 ∨ c = p + 4 ∨ c = p + 5 ∨ c = p + 6
theorem HG.fr2 {G : GD} {μ μ2 : Mm} (h : HG G μ) (h1 : μ2 1 = μ 1) (h2 : μ2 9 = μ 9) (h3 : μ2 10 = μ 10) : HG G μ2 := by
  unfold HG at *
  rw [show μ2 p_GR = μ p_GR from h1, show μ2 p_GR_linkStarts = μ p_GR_linkStarts from h2, show μ2 p_GR_linkEnds = μ p_GR_linkEnds from h3]
  exact h
theorem WR.fr2 {G : GD} {μ μ2 : Mm} (h : WR G μ) (h1 : μ2 11 = μ 11) (h2 : ∀ c, 60 ≤ c → c < 96 → μ2 c = μ c) : WR G μ2 := by
  intro a b ha hb hab
  have h3 := h a b ha hb hab
  rw [show μ2 p_GR_wayCounts = μ p_GR_wayCounts from h1, h2 (p_WY + (a * 6 + b)) (by show 60 ≤ 60 + (a * 6 + b); omega) (by show 60 + (a * 6 + b) < 96; omega)]
  exact h3
theorem cQ.fr2 {p : Nat} {r : Rq} {μ μ2 : Mm} (h : cQ p r μ) (h1 : μ2 p = μ p) (h2 : μ2 (p + 1) = μ (p + 1)) (h3 : μ2 (p + 2) = μ (p + 2)) (h4 : μ2 (p + 4) = μ (p + 4)) (h5 : μ2 (p + 5) = μ (p + 5)) (h6 : μ2 (p + 6) = μ (p + 6)) : cQ p r μ2 := by
  unfold cQ at *
  rw [h1, h2, h3, h4, h5, h6]
  exact h
theorem Env.fr {G : GD} {p : Nat} {r : Rq} {μ μ2 : Mm} {D : Nat → Prop} (h : Env G p r μ) (hs : Sm D μ μ2) (hd : ∀ c, D c → ¬ envC p c) : Env G p r μ2 := by
  have k : ∀ c, envC p c → μ2 c = μ c := fun c hc => hs c (fun hx => hd c hx hc)
  unfold envC at k
  refine ⟨h.1.fr2 (k 1 (by omega)) (k 9 (by omega)) (k 10 (by omega)), h.2.1.fr2 (k 11 (by omega)) (fun c h1 h2 => k c (by omega)), h.2.2.fr2 (k p (by omega)) (k (p + 1) (by omega)) (k (p + 2) (by omega)) (k (p + 4) (by omega)) (k (p + 5) (by omega)) (k (p + 6) (by omega))⟩
/-- the cells of a search -/
def dS (c : Nat) : Prop := c = 3 ∨ c = 16 ∨ c = 17 ∨ c = 18 ∨ c = 19
def HB (np nl : Nat) (B : Bs) (μ : Mm) : Prop := match B with
  | none => μ p_SE 8 = -1
  | some y => μ p_SE 8 = nI y.1 ∧ y.1 < 10000 ∧ (∀ k, k < np → μ p_SE_leastPlaces k = nI (y.2.1 k)) ∧ ∀ l, l < nl → μ p_SE_leastWays l = nI (y.2.2 l)
theorem HB.fr {np nl : Nat} {B : Bs} {μ μ2 : Mm} (h : HB np nl B μ) (h1 : μ2 3 8 = μ 3 8) (h2 : μ2 18 = μ 18) (h3 : μ2 19 = μ 19) : HB np nl B μ2 := by
  unfold HB at *
  rw [show μ2 p_SE 8 = μ p_SE 8 from h1, show μ2 p_SE_leastPlaces = μ p_SE_leastPlaces from h2, show μ2 p_SE_leastWays = μ p_SE_leastWays from h3]
  exact h
def frK (μ μ2 : Mm) : Prop := (∀ c, c ≠ 3 → c ≠ 18 → c ≠ 19 → μ2 c = μ c) ∧ μ2 3 7 = μ 3 7
theorem s_keepLeast {np nl c p : Nat} {B : Bs} {P T : Nat → Nat} {μ : Mm} {q : Mm → Prop} (hp : 105 ≤ p) (hn3 : np ≤ 3) (hl3 : nl ≤ 3) (hnp : μ p 10 = nI np) (hnl : μ p 11 = nI nl) (hP : ∀ k, k < np → μ (p + 3) k = nI (P k)) (hT : ∀ l, l < nl → μ p_SE_tried l = nI (T l)) (hB : HB np nl B μ) (hc : c < 10000) (h : ∀ μ2, HB np nl (kp B (c, P, T)) μ2 → frK μ μ2 → q μ2) : Wp_X6_keepLeast p (nI c) μ q := by
  unfold Wp_X6_keepLeast
  intro K24 K52 h24 h52
  unfold F_X6_keepLeast_e
  have key : kp B (c, P, T) = some (c, P, T) → K24 (nI 0) (up2 μ p_SE 8 (nI c)) := by
    intro hk
    rw [hk] at h
    have f0 : frK μ (up2 μ p_SE 8 (nI c)) := by
      refine ⟨fun x h1 _ _ => u_ne h1, ?_⟩
      rw [u_eq, d_ne (by decide)]
    have key52 : ∀ μ1, frK μ μ1 → μ1 p_SE 8 = nI c → (∀ k, k < np → μ1 p_SE_leastPlaces k = nI (P k)) → K52 (nI 0) μ1 := by
      intro μ1 hf1 h81 hp1
      refine dn (P := fun j => ∀ μ1, frK μ μ1 → μ1 p_SE 8 = nI c → (∀ k, k < np → μ1 p_SE_leastPlaces k = nI (P k)) → (∀ l, l < j → μ1 p_SE_leastWays l = nI (T l)) → K52 (nI j) μ1) (n := nl) ?_ ?_ μ1 hf1 h81 hp1 (fun l hl => by omega)
      · intro μ1 hf1 h81 hp1 hw1
        refine h52 _ _ ?_
        unfold F_X6_keepLeast_52
        rw [hf1.1 p (by omega) (by omega) (by omega), hnl]
        simp (disch := omega) only [vpT, vpT0, vpT1, vpT2, clT, clT0, clT1, clT2, leT, leF, leT0, ltT, ltF, i1, true_and, and_true, true_implies, false_implies, not_true_eq_false, not_false_eq_true, forall_const, implies_true]
        exact h μ1 ⟨h81, hc, hp1, hw1⟩ hf1
      · intro j hj hnx μ1 hf1 h81 hp1 hw1
        refine h52 _ _ ?_
        unfold F_X6_keepLeast_52
        rw [hf1.1 p (by omega) (by omega) (by omega), hnl]
        simp (disch := omega) only [vpT, vpT0, vpT1, vpT2, clT, clT0, clT1, clT2, leT, leF, leT0, ltT, ltF, i1, true_and, and_true, true_implies, false_implies, not_true_eq_false, not_false_eq_true, forall_const, implies_true]
        refine hnx _ ⟨fun x h1 h2 h3 => ?_, ?_⟩ ?_ (fun k hk => ?_) (fun l hl => ?_)
        · rw [u_ne h3]; exact hf1.1 x h1 h2 h3
        · rw [u_ne (by decide)]; exact hf1.2
        · rw [u_ne (by decide)]; exact h81
        · rw [u_ne (by decide)]; exact hp1 k hk
        · rw [u_eq, show μ1 p_SE_tried = μ p_SE_tried from hf1.1 _ (by decide) (by decide) (by decide)]
          by_cases hlj : l = j
          · subst hlj; rw [d_eq]; exact hT l hj
          · rw [d_ne hlj]; exact hw1 l (by omega)
    refine dn (P := fun j => ∀ μ1, frK μ μ1 → μ1 p_SE 8 = nI c → (∀ k, k < j → μ1 p_SE_leastPlaces k = nI (P k)) → K24 (nI j) μ1) (n := np) ?_ ?_ (up2 μ p_SE 8 (nI c)) f0 (by rw [u_eq, d_eq]) (fun k hk => by omega)
    · intro μ1 hf1 h81 hp1
      refine h24 _ _ ?_
      unfold F_X6_keepLeast_24
      rw [hf1.1 p (by omega) (by omega) (by omega), hnp]
      simp (disch := omega) only [vpT, vpT0, vpT1, vpT2, clT, clT0, clT1, clT2, leT, leF, leT0, ltT, ltF, i1, true_and, and_true, true_implies, false_implies, not_true_eq_false, not_false_eq_true, forall_const, implies_true]
      exact key52 μ1 hf1 h81 hp1
    · intro j hj hnx μ1 hf1 h81 hp1
      refine h24 _ _ ?_
      unfold F_X6_keepLeast_24
      rw [hf1.1 p (by omega) (by omega) (by omega), hnp]
      simp (disch := omega) only [vpT, vpT0, vpT1, vpT2, clT, clT0, clT1, clT2, leT, leF, leT0, ltT, ltF, i1, true_and, and_true, true_implies, false_implies, not_true_eq_false, not_false_eq_true, forall_const, implies_true]
      refine hnx _ ⟨fun x h1 h2 h3 => ?_, ?_⟩ ?_ (fun k hk => ?_)
      · rw [u_ne h2]; exact hf1.1 x h1 h2 h3
      · rw [u_ne (by decide)]; exact hf1.2
      · rw [u_ne (by decide)]; exact h81
      · rw [u_eq, hf1.1 (p + 3) (by omega) (by omega) (by omega)]
        by_cases hkj : k = j
        · subst hkj; rw [d_eq]; exact hP k hj
        · rw [d_ne hkj]; exact hp1 k (by omega)
  cases B with
  | none => exact br_t hB (key rfl)
  | some y =>
    have h8 : μ p_SE 8 = nI y.1 := hB.1
    have hy := hB.2.1
    rw [h8]
    refine br_f (nm1 (by omega)) ?_
    by_cases hlt : c < y.1
    · refine br_t (of_eq_true (ltT hlt (by omega))) (key ?_)
      unfold kp
      dsimp only
      rw [if_pos hlt]
    · refine br_f (fun hx => by rw [ltF (by omega) (by omega)] at hx; exact hx) (h μ ?_ ⟨fun _ _ _ _ => rfl, rfl⟩)
      unfold kp
      dsimp only
      rw [if_neg hlt]
      exact hB
def cutB (M : Nat) (B : Bs) (x : Nat) : Bool := match B with
  | none => false
  | some y => if M = 1 then false else if M = 0 then decide (y.1 ≤ x) else true
theorem s_isCut {M np nl x : Nat} {B : Bs} {μ : Mm} {q : Bool → Mm → Prop} (hM : M ≤ 2) (h7 : μ p_SE 7 = nI M) (hB : HB np nl B μ) (hx : x < 2147483648) (h : q (cutB M B x) μ) : Wp_X6_isCut (nI x) μ q := by
  unfold Wp_X6_isCut
  intro K28 h28
  unfold F_X6_isCut_e
  rw [h7]
  have k1 : cutB M B x = false → K28 1 μ := by
    intro hc
    rw [hc] at h
    refine h28 _ _ ?_
    unfold F_X6_isCut_28
    by_cases h9 : μ p_SE 8 = -1
    · exact br_t h9 h
    · exact br_f h9 (rb_f (by decide) h)
  have k0 : (∀ y, B = some y → cutB M B x = true) → K28 0 μ := by
    intro hc
    refine h28 _ _ ?_
    unfold F_X6_isCut_28
    cases B with
    | none => exact br_t hB h
    | some y =>
      rw [hc y rfl] at h
      exact br_f (by rw [hB.1]; exact nm1 (by have := hB.2.1; omega)) (rb_t rfl h)
  have hM3 : M = 0 ∨ M = 1 ∨ M = 2 := by omega
  rcases hM3 with rfl | rfl | rfl
  · refine br_f (by decide) (rb_t rfl ?_)
    cases B with
    | none => 
      rw [show μ p_SE 8 = -1 from hB]
      refine br_t ?_ (k0 (fun y hy => by cases hy))
      rw [Int32.le_iff_toInt_le, nI_toInt (by omega)]
      have : (-1 : Int32).toInt = -1 := rfl
      omega
    | some y =>
      have hy := hB.2.1
      rw [show μ p_SE 8 = nI y.1 from hB.1]
      by_cases hle : y.1 ≤ x
      · refine br_t (le_nI hle (by omega)) (k0 (fun _ _ => ?_))
        unfold cutB
        simp [hle]
      · refine br_f (not_le_nI (by omega) (by omega)) (k1 ?_)
        unfold cutB
        simp [hle]
  · refine br_t rfl (k1 ?_)
    unfold cutB
    cases B <;> simp
  · refine br_f (by decide) (rb_f (by decide) (k0 (fun y hy => ?_)))
    rw [hy]
    unfold cutB
    simp
theorem s_nodeOf {p k np : Nat} {μ : Mm} {q : Int32 → Mm → Prop} (h3 : np ≤ 3) (hn : μ p 10 = nI np) (hk : k < np) (h : q (μ (p + 3) k) μ) : Wp_X5_nodeOf p (nI k) μ q := by
  unfold Wp_X5_nodeOf F_X5_nodeOf_e
  rw [hn]
  refine br_f (nI_pos (by omega)) (br_f (not_le_nI hk (by omega)) ?_)
  simp (disch := omega) only [vpT, vpT0, vpT1, vpT2, clT, clT0, clT1, clT2, leT, leF, leT0, ltT, ltF, i1, true_and, and_true, true_implies, false_implies, not_true_eq_false, not_false_eq_true, forall_const, implies_true]
  exact h
theorem s_pairOf {G : GD} {p l : Nat} {r : Rq} {P : Nat → Nat} {μ : Mm} {q : Int32 → Mm → Prop} (hE : Env G p r μ) (hr : GoodD r) (hl : l < r 0 11) (hP : ∀ k, k < r 0 10 → μ (p + 3) k = nI (P k)) (h : q (nI (P (r 4 l) * 6 + P (r 5 l))) μ) : Wp_X5_pairOf p (nI l) μ q := by
  obtain ⟨q1, q2, q3, q4, q5⟩ := hE.2.2
  obtain ⟨g1, g2, g3, g4, g5⟩ := hr
  obtain ⟨a1, a2, a3⟩ := q5 l hl
  obtain ⟨b1, b2, b3, -⟩ := g4 l hl
  unfold Wp_X5_pairOf F_X5_pairOf_e
  simp (disch := omega) only [vpT, vpT0, vpT1, vpT2, clT, clT0, clT1, clT2, leT, leF, leT0, ltT, ltF, i1, true_and, and_true, true_implies, false_implies, not_true_eq_false, not_false_eq_true, forall_const, implies_true]
  rw [a1]
  refine s_nodeOf g1 q1 b1 ?_
  rw [a2]
  refine s_nodeOf g1 q1 b2 ?_
  unfold Wp_X2_pairOf F_X2_pairOf_e
  rw [hP _ b1, hP _ b2, nI_pk6, nI_add]
  exact h
theorem lft_fr {μ μ2 : Mm} (h1 : μ2 8 = μ 8) (h2 : μ2 14 = μ 14) (h3 : μ2 15 = μ 15) : lft μ2 = lft μ := by
  funext k
  unfold lft
  rw [show μ2 p_GR_linkRooms = μ p_GR_linkRooms from h1, show μ2 p_BK_linkNeeds = μ p_BK_linkNeeds from h2, show μ2 p_BK_reserved = μ p_BK_reserved from h3]
def Wof (G : GD) (r : Rq) (P : Nat → Nat) (l : Nat) : List Nat := wl G (P (r 4 l)) (P (r 5 l))
/-- what choosing ways for the lines from l on leaves -/
def Fch (l : Nat) (μ μ2 : Mm) : Prop := Sm dS μ μ2 ∧ μ2 3 7 = μ 3 7 ∧ μ2 17 = μ 17 ∧ ∀ j, j < l → μ2 16 j = μ 16 j
theorem Fch.rf {l : Nat} {μ : Mm} : Fch l μ μ := ⟨Sm.rf, rfl, rfl, fun _ _ => rfl⟩
theorem Fch.tr {l : Nat} {a b c : Mm} (h1 : Fch l a b) (h2 : Fch l b c) : Fch l a c := ⟨h1.1.tr h2.1, h2.2.1.trans h1.2.1, h2.2.2.1.trans h1.2.2.1, fun j hj => (h2.2.2.2 j hj).trans (h1.2.2.2 j hj)⟩
set_option maxHeartbeats 1000000 in
theorem s_choose {G : GD} {p M : Nat} {r : Rq} {P : Nat → Nat} {F0 : Nat → Int32} {fr : Nat → Nat} (hG : NetOk G) (hp : 105 ≤ p) (hr : GoodD r) (hM : M ≤ 2) (hP6 : ∀ k, k < r 0 10 → P k < 6) (hPd : ∀ j k, j < r 0 10 → k < r 0 10 → j ≠ k → P j ≠ P k) (h0 : ∀ k, k < G.1 → (F0 k).toInt ≤ 5000) (hfr : ∀ j, j ≤ r 0 11 → fr j ≤ 540)
    (hFl : ∀ j, j ≤ r 0 11 → FlOk G.1 (r 0 11) (Wof G r P) (r 6) P F0 fr j) :
    ∀ (m d l : Nat) (F : Nat → Int32) (c : Nat) (T : Nat → Nat) (B : Bs) (μ : Mm) (q : Mm → Prop), m < d → l + m = r 0 11 → Env G p r μ → (∀ k, k < r 0 10 → μ (p + 3) k = nI (P k)) → (∀ k, k < G.1 → lft μ k = F k) → (∀ j, j < l → μ 16 j = nI (T j)) → μ 3 7 = nI M → (∀ j, j ≤ r 0 11 → μ 17 j = nI (fr j)) → HB (r 0 10) (r 0 11) B μ → c ≤ 180 * l → Lw G.1 F0 m F →
      (∀ μ2 B2, HB (r 0 10) (r 0 11) B2 μ2 → RB M B (mps G.1 (Wof G r P) (r 6) P m l F c T) B2 → Fch l μ μ2 → q μ2) → Wp_X6_chooseWays d p (nI l) (nI c) μ q := by
  obtain ⟨g1, g2, g3, g4, g5⟩ := hr
  have hrr : GoodD r := ⟨g1, g2, g3, g4, g5⟩
  intro m
  induction m with
  | zero =>
    intro d l F c T B μ q hd hl hE hP hF hT h7 h17 hB hc hLw hq
    obtain ⟨d, rfl⟩ : ∃ d2, d = d2 + 1 := ⟨d - 1, by omega⟩
    unfold Wp_X6_chooseWays
    intro K55 h55
    unfold F_X6_chooseWays_e
    rw [hE.2.2.2.1]
    refine br_f (fun hx => by rw [ltF (by omega) (by omega)] at hx; exact hx) ?_
    refine s_keepLeast hp g1 g2 hE.2.2.1 hE.2.2.2.1 hP (fun j hj => hT j (by omega)) hB (by omega) (fun μ2 hB2 hf2 => ?_)
    refine hq μ2 _ hB2 ?_ ⟨fun x hx => ?_, hf2.2, ?_, fun j _ => ?_⟩
    · exact RB.one _
    · unfold dS at hx
      exact hf2.1 x (by omega) (by omega) (by omega)
    · exact hf2.1 17 (by decide) (by decide) (by decide)
    · rw [hf2.1 16 (by decide) (by decide) (by decide)]
  | succ m ih =>
    intro d l F c T B μ q hd hl hE hP hF hT h7 h17 hB hc hLw hq
    obtain ⟨d, rfl⟩ : ∃ d2, d = d2 + 1 := ⟨d - 1, by omega⟩
    have hlt : l < r 0 11 := by omega
    obtain ⟨b1, b2, b3, b4, b5⟩ := g4 l hlt
    have hn6 : μ (p + 6) l = nI (r 6 l) := (hE.2.2.2.2.2.2 l hlt).2.2
    have hPa := hP6 _ b1
    have hPb := hP6 _ b2
    have hPab := hPd _ _ b1 b2 b3
    have h15 := wl_15 hG hPa hPb hPab
    have h9 : W9 G.1 (Wof G r P l) := wl_W9 G _ _
    have hW := hE.2.1 _ _ hPa hPb hPab
    have hL := hG.1
    unfold Wp_X6_chooseWays
    intro K55 h55
    unfold F_X6_chooseWays_e
    rw [hE.2.2.2.1]
    refine br_t (of_eq_true (ltT hlt (by omega))) ?_
    simp (disch := omega) only [vpT, vpT0, vpT1, vpT2, clT, clT0, clT1, clT2, leT, leF, leT0, ltT, ltF, i1, true_and, and_true, true_implies, false_implies, not_true_eq_false, not_false_eq_true, forall_const, implies_true]
    rw [hn6]
    refine s_openFor hL hE.1.2.1 ?_
    refine s_pairOf hE hrr hlt hP ?_
    refine s_countOfWays (by omega) ?_
    rw [hW.1]
    obtain ⟨o, ho⟩ : ∃ o, o = om9 (fun k => !decide (lft μ k < nI (r 6 l))) G.1 := ⟨_, rfl⟩
    rw [← ho]
    have ho9 : o < 512 := by rw [ho]; exact om9_lt _ _ hL
    have hWl : wl G (P (r 4 l)) (P (r 5 l)) = Wof G r P l := rfl
    simp only [hWl] at *
    obtain ⟨fW, hfW⟩ : ∃ fW : Nat → List Mp, fW = fun w => if okF G.1 F (nI (r 6 l)) w = true then mps G.1 (Wof G r P) (r 6) P m (l + 1) (tkF G.1 w (nI (r 6 l)) F) (c + r 6 l * pc w) (setl T l w) else [] := ⟨_, rfl⟩
    have hmps : mps G.1 (Wof G r P) (r 6) P (m + 1) l F c T = (Wof G r P l).flatMap fW := by rw [hfW]; rfl
    rw [hmps] at hq
    refine dn (P := fun j => ∀ μ1 B1, HB (r 0 10) (r 0 11) B1 μ1 → RB M B (((Wof G r P l).take j).flatMap fW) B1 → Fch l μ μ1 → K55 (nI l) (nI c) (nI (r 6 l)) (nI o) (nI (P (r 4 l) * 6 + P (r 5 l))) (nI (Wof G r P l).length) (nI j) μ1) (n := (Wof G r P l).length) ?_ ?_ μ B hB RB.nil Fch.rf
    · intro μ1 B1 hB1 hR1 hf1
      refine h55 _ _ _ _ _ _ _ _ ?_
      unfold F_X6_chooseWays_55
      simp (disch := omega) only [vpT, vpT0, vpT1, vpT2, clT, clT0, clT1, clT2, leT, leF, leT0, ltT, ltF, i1, true_and, and_true, true_implies, false_implies, not_true_eq_false, not_false_eq_true, forall_const, implies_true]
      rw [List.take_length] at hR1
      exact hq μ1 B1 hB1 hR1 hf1
    · intro j hj hnx μ1 B1 hB1 hR1 hf1
      refine h55 _ _ _ _ _ _ _ _ ?_
      unfold F_X6_chooseWays_55
      simp (disch := omega) only [vpT, vpT0, vpT1, vpT2, clT, clT0, clT1, clT2, leT, leF, leT0, ltT, ltF, i1, true_and, and_true, true_implies, false_implies, not_true_eq_false, not_false_eq_true, forall_const, implies_true]
      have hdE : ∀ x, dS x → ¬ envC p x := fun x hx => by unfold dS at hx; unfold envC; omega
      have hE1 : Env G p r μ1 := hE.fr hf1.1 hdE
      have hP1 : ∀ k, k < r 0 10 → μ1 (p + 3) k = nI (P k) := fun k hk => by
        rw [hf1.1 (p + 3) (by unfold dS; omega)]; exact hP k hk
      have hlf1 : lft μ1 = lft μ := lft_fr (hf1.1 8 (by unfold dS; omega)) (hf1.1 14 (by unfold dS; omega)) (hf1.1 15 (by unfold dS; omega))
      refine s_wayOf (by omega) (by omega) ?_
      rw [hf1.1 (p_WY + (P (r 4 l) * 6 + P (r 5 l))) (by show ¬ dS (60 + (P (r 4 l) * 6 + P (r 5 l))); unfold dS; omega), hW.2 j hj]
      have hwm : (Wof G r P l)[j] ∈ Wof G r P l := List.getElem_mem hj
      have htk : ((Wof G r P l).take (j + 1)).flatMap fW = ((Wof G r P l).take j).flatMap fW ++ fW (Wof G r P l)[j] := by
        rw [List.take_succ_eq_append_getElem hj, List.flatMap_append]
        simp
      rw [htk] at hnx
      generalize (Wof G r P l)[j] = w at *
      have hwlt : w < 512 := h9.lt hL hwm
      have hp9 := pc_le w hwlt
      refine s_bitCount hwlt ?_
      have hpm : nI c + nI (r 6 l) * nI (pc w) = nI (c + r 6 l * pc w) := by rw [pk_mul, nI_add]
      have hb180 : r 6 l * pc w ≤ 180 := Nat.mul_le_mul b5 hp9
      by_cases hok : okF G.1 F (nI (r 6 l)) w = true
      · have hfw : fW w = mps G.1 (Wof G r P) (r 6) P m (l + 1) (tkF G.1 w (nI (r 6 l)) F) (c + r 6 l * pc w) (setl T l w) := by rw [hfW]; exact if_pos hok
        have hs : sub9 w o := by
          rw [← sbb_sub, ho, ok_om hL (h9 w hwm).1, okF_congr hF]
          exact hok
        refine rb_t ((m_sub hwlt ho9).2 hs) ?_
        simp (disch := omega) only [vpT, vpT0, vpT1, vpT2, clT, clT0, clT1, clT2, leT, leF, leT0, ltT, ltF, i1, true_and, and_true, true_implies, false_implies, not_true_eq_false, not_false_eq_true, forall_const, implies_true, hpm]
        rw [show μ1 p_SE_floors = μ 17 from hf1.2.2.1, h17 (l + 1) (by omega), nI_add]
        have hfr1 := hfr (l + 1) (by omega)
        refine s_isCut hM (by rw [show μ1 p_SE 7 = μ 3 7 from hf1.2.1]; exact h7) hB1 (by omega) ?_
        refine bqr (fun hcut => ?_) (fun hcut => ?_)
        · obtain ⟨μa, hμa⟩ : ∃ μa, μa = up2 μ1 p_SE_tried l (nI w) := ⟨_, rfl⟩
          rw [← hμa]
          have hsa : Sm dS μ1 μa := by rw [hμa]; exact Sm.up (Or.inr (Or.inl rfl))
          refine s_carry hL (hE1.fr hsa hdE).1.2.1 hwlt ?_
          obtain ⟨μb, hμb⟩ : ∃ μb, μb = setr μa p_BK_linkNeeds (crF G.1 w (nI (r 6 l)) (μa p_BK_linkNeeds)) := ⟨_, rfl⟩
          rw [← hμb]
          have hsb : Sm (fun x => x = 14 ∨ dS x) μ1 μb := by
            rw [hμb]
            exact (hsa.mono (fun x hx => Or.inr hx)).tr (Sm.set (Or.inl rfl))
          have hdE2 : ∀ x, (x = 14 ∨ dS x) → ¬ envC p x := fun x hx => by unfold dS at hx; unfold envC; omega
          have e16 : μb 16 = upd (μ1 16) l (nI w) := by
            rw [hμb, setr_ne (by decide), hμa]; exact u_eq
          have elf : lft μb = tkF G.1 w (nI (r 6 l)) (lft μ1) := by
            rw [hμb, lft_carry, lft_fr (hsa 8 (by unfold dS; omega)) (hsa 14 (by unfold dS; omega)) (hsa 15 (by unfold dS; omega))]
          have e3 : μb 3 = μ1 3 := by rw [hμb, setr_ne (by decide), hμa, u_ne (by decide)]
          have e17 : μb 17 = μ1 17 := by rw [hμb, setr_ne (by decide), hμa, u_ne (by decide)]
          have e18 : μb 18 = μ1 18 := by rw [hμb, setr_ne (by decide), hμa, u_ne (by decide)]
          have e19 : μb 19 = μ1 19 := by rw [hμb, setr_ne (by decide), hμa, u_ne (by decide)]
          refine ih d (l + 1) (tkF G.1 w (nI (r 6 l)) F) (c + r 6 l * pc w) (setl T l w) B1 μb _ (by omega) (by omega) (hE1.fr hsb hdE2) (fun k hk => ?_) (fun k hk => ?_) (fun i hi => ?_) ?_ (fun i hi => ?_) (hB1.fr (by rw [e3]) e18 e19) (by omega) (hLw.tk b5 h0) (fun μ2 B2 hB2 hR2 hf2 => ?_)
          · rw [hsb (p + 3) (by unfold dS; omega)]; exact hP1 k hk
          · rw [elf, hlf1]
            unfold tkF
            rw [hF k hk]
          · rw [e16]
            unfold setl
            by_cases hil : i = l
            · subst hil; rw [d_eq, if_pos rfl]
            · rw [d_ne hil, if_neg hil, hf1.2.2.2 i (by omega)]; exact hT i (by omega)
          · rw [e3, hf1.2.1]; exact h7
          · rw [e17, hf1.2.2.1]; exact h17 i hi
          · have hE2 : Env G p r μ2 := (hE1.fr hsb hdE2).fr hf2.1 hdE
            refine s_carry hL hE2.1.2.1 hwlt ?_
            rw [show μ2 p_BK_linkNeeds = μb 14 from hf2.1 14 (by unfold dS; omega)]
            rw [show μb 14 = crF G.1 w (nI (r 6 l)) (μa p_BK_linkNeeds) from by rw [hμb]; exact setr_self _ _ _, crF_back]
            have ea14 : μa p_BK_linkNeeds = μ1 14 := by rw [hμa]; exact u_ne (by decide)
            rw [ea14]
            refine hnx _ B2 ?_ (hR1.app (hfw ▸ hR2)) (hf1.tr ⟨fun x hx => ?_, ?_, ?_, fun i hi => ?_⟩)
            · exact hB2.fr (by rw [setr_ne (by decide)]) (setr_ne (by decide)) (setr_ne (by decide))
            · by_cases hx14 : x = 14
              · subst hx14; exact setr_self _ _ _
              · rw [setr_ne hx14, hf2.1 x hx]
                exact hsb x (by rintro (h | h); exact hx14 h; exact hx h)
            · rw [setr_ne (by decide), hf2.2.1, e3]
            · rw [setr_ne (by decide), hf2.2.2.1, e17]
            · rw [setr_ne (by decide), hf2.2.2.2 i (by omega), e16, d_ne (by omega)]
        · refine hnx μ1 B1 hB1 (hR1.app ?_) hf1
          rw [hfw]
          cases B1 with
          | none => exact absurd hcut (by unfold cutB; simp)
          | some y =>
            refine RB.skip (fun hM2 x hx => ?_)
            have hle := hFl (l + 1) (by omega) m _ _ _ (by omega) (hLw.tk b5 h0) x hx
            unfold cutB at hcut
            dsimp only at hcut
            by_cases hM1 : M = 1
            · rw [if_pos hM1] at hcut; cases hcut
            · rw [if_neg hM1, if_pos (by omega)] at hcut
              have := of_decide_eq_true hcut
              omega
      · have hfw : fW w = [] := by rw [hfW]; exact if_neg hok
        refine rb_f (fun hx => hok ?_) (hnx μ1 B1 hB1 (hR1.app (by rw [hfw]; exact RB.nil)) hf1)
        have := sbb_sub.2 ((m_sub hwlt ho9).1 hx)
        rw [ho, ok_om hL (h9 w hwm).1, okF_congr hF] at this
        exact this
