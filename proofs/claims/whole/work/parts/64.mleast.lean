/-! the reference's search -/
def MEnv (G : GD) (i : Nat) (r : Rq) (μ : Mm) : Prop := HM G μ ∧ mQ i r μ ∧ μ p_MO 8 = nI i
def menvC (c : Nat) : Prop := c = 6 ∨ (22 ≤ c ∧ c ≤ 29) ∨ (31 ≤ c ∧ c ≤ 33) ∨ c = 38
theorem MEnv.fr {G : GD} {i : Nat} {r : Rq} {μ μ2 : Mm} {D : Nat → Prop} (h : MEnv G i r μ) (hs : Sm D μ μ2) (hd : ∀ c, D c → ¬ menvC c) : MEnv G i r μ2 := by
  have k : ∀ c, menvC c → μ2 c = μ c := fun c hc => hs c (fun hx => hd c hx hc)
  unfold MEnv HM mQ at *
  rw [k p_MO (by unfold menvC; decide), k p_MO_one (by unfold menvC; decide), k p_MO_other (by unfold menvC; decide), k p_MO_hasFailed (by unfold menvC; decide), k p_MO_parts (by unfold menvC; decide), k p_MO_lines (by unfold menvC; decide), k p_MO_hasEnded (by unfold menvC; decide), k p_MO_partNeed (by unfold menvC; decide), k p_MO_partSet (by unfold menvC; decide), k p_MO_lineFrom (by unfold menvC; decide), k p_MO_lineTo (by unfold menvC; decide), k p_MO_lineNeed (by unfold menvC; decide)]
  exact h
theorem s_isChoice {G : GD} {i nN : Nat} {r : Rq} {L : Nat → Int32} {P : Nat → Nat} {μ : Mm} {q : Bool → Mm → Prop} (hi : i < 13) (hr : GoodD r) (hN : nN ≤ 6) (hE : MEnv G i r μ) (h1 : μ p_MO 1 = nI nN) (hL : ∀ v, v < nN → μ p_MO_left v = L v) (hT : ∀ k, k < 3 → μ p_MO_tries k = nI (P k)) (hP6 : ∀ k, k < 3 → P k < 6) (h : q (gdC nN L r P) μ) : Wp_X8_isChoice μ q := by
  obtain ⟨g1, g2, g3, g4, g5⟩ := hr
  unfold Wp_X8_isChoice
  intro K11 K92 h11 h92
  unfold F_X8_isChoice_e
  rw [hE.2.2, nI_pk3]
  obtain ⟨g, hg⟩ : ∃ g, g = fun k => decide (P k < nN) && !decide (L (P k) < nI (r 1 k)) && (r 2 k).testBit (P k) && al (fun j => !decide (P j = P k)) k := ⟨_, rfl⟩
  have hgd : gdC nN L r P = al g (r 0 10) := by rw [hg]; rfl
  rw [hgd] at h
  refine dn (P := fun k => K11 (nI (3 * i)) (bI (al g k)) (nI k) μ) (n := r 0 10) ?_ ?_
  · refine h11 _ _ _ _ ?_
    unfold F_X8_isChoice_11
    rw [hE.2.2]
    simp (disch := omega) only [vpT, vpT0, vpT1, vpT2, clT, clT0, clT1, clT2, leT, leF, leT0, ltT, ltF, i1, true_and, and_true, true_implies, false_implies, not_true_eq_false, not_false_eq_true, forall_const, implies_true, hE.2.1.1]
    exact ex_bI h
  · intro k hk hn
    refine h11 _ _ _ _ ?_
    unfold F_X8_isChoice_11
    rw [hE.2.2]
    simp (disch := omega) only [vpT, vpT0, vpT1, vpT2, clT, clT0, clT1, clT2, leT, leF, leT0, ltT, ltF, i1, true_and, and_true, true_implies, false_implies, not_true_eq_false, not_false_eq_true, forall_const, implies_true, hE.2.1.1]
    rw [hT k (by omega)]
    have hP := hP6 k (by omega)
    have hgk : g k = (decide (P k < nN) && !decide (L (P k) < nI (r 1 k)) && (r 2 k).testBit (P k) && al (fun j => !decide (P j = P k)) k) := by rw [hg]
    -- the inner loop
    have key : ∀ b, b = (al g k && (decide (P k < nN) && !decide (L (P k) < nI (r 1 k)) && (r 2 k).testBit (P k))) → K92 (nI (3 * i)) (bI b) (nI k) (nI 0) μ := by
      intro b hb
      have hb2 : b = (b && al (fun j => !decide (P j = P k)) 0) := by show b = (b && true); rw [Bool.and_true]
      rw [hb2]
      refine dn (P := fun j => K92 (nI (3 * i)) (bI (b && al (fun j => !decide (P j = P k)) j)) (nI k) (nI j) μ) (n := k) ?_ ?_
      · refine h92 _ _ _ _ _ ?_
        unfold F_X8_isChoice_92
        simp (disch := omega) only [vpT, vpT0, vpT1, vpT2, clT, clT0, clT1, clT2, leT, leF, leT0, ltT, ltF, i1, true_and, and_true, true_implies, false_implies, not_true_eq_false, not_false_eq_true, forall_const, implies_true]
        have e : (b && al (fun j => !decide (P j = P k)) k) = al g (k + 1) := by
          show _ = (al g k && g k)
          rw [hb, hgk, Bool.and_assoc]
        rw [e]
        exact hn
      · intro j hj hnj
        refine h92 _ _ _ _ _ ?_
        unfold F_X8_isChoice_92
        simp (disch := omega) only [vpT, vpT0, vpT1, vpT2, clT, clT0, clT1, clT2, leT, leF, leT0, ltT, ltF, i1, true_and, and_true, true_implies, false_implies, not_true_eq_false, not_false_eq_true, forall_const, implies_true]
        rw [hT k (by omega), hT j (by omega)]
        have hPj := hP6 j (by omega)
        have e : (b && al (fun j => !decide (P j = P k)) (j + 1)) = (b && al (fun j => !decide (P j = P k)) j && !decide (P j = P k)) := by
          show (b && (al (fun j => !decide (P j = P k)) j && !decide (P j = P k))) = _
          rw [Bool.and_assoc]
        rw [e] at hnj
        cases hbb : (b && al (fun j => !decide (P j = P k)) j) with
        | false =>
          rw [hbb] at hnj
          exact br_t rfl hnj
        | true =>
          rw [hbb] at hnj
          refine br_f (by decide) ?_
          by_cases hPP : P j = P k
          · refine br_t (by rw [hPP]) ?_
            rw [decide_eq_true hPP] at hnj
            exact hnj
          · refine br_f (by rw [nI_eq (by omega) (by omega)]; exact hPP) ?_
            rw [decide_eq_false hPP] at hnj
            exact hnj
    cases ha : al g k with
    | false => exact br_t rfl (key false (by rw [ha]; rfl))
    | true =>
      refine br_f (by decide) ?_
      refine s_isNode (by omega) h1 ?_
      rw [inR_nI (by omega) (by omega), nI_add]
      have f0 : ∀ (x : Prop), (decide (P k < nN) && !decide (L (P k) < nI (r 1 k)) && (r 2 k).testBit (P k)) = false → K92 (nI (3 * i)) 0 (nI k) 0 μ := fun _ hx => key false (by rw [ha, hx]; rfl)
      refine bq (fun hb => f0 True (by rw [hb]; rfl)) (fun hb => ?_)
      have hPn := of_decide_eq_true hb
      obtain ⟨p1, p2⟩ := hE.2.1.2.2.2.1 k hk
      simp (disch := omega) only [vpT, vpT0, vpT1, vpT2, clT, clT0, clT1, clT2, leT, leF, leT0, ltT, ltF, i1, true_and, and_true, true_implies, false_implies, not_true_eq_false, not_false_eq_true, forall_const, implies_true]
      rw [hT k (by omega), p2]
      refine s_has (by have := (g3 k hk).2.2; omega) (by omega) ?_
      refine bq (fun hb2 => f0 True (by rw [hb2]; simp)) (fun hb2 => ?_)
      rw [hT k (by omega)]
      simp (disch := omega) only [vpT, vpT0, vpT1, vpT2, clT, clT0, clT1, clT2, leT, leF, leT0, ltT, ltF, i1, true_and, and_true, true_implies, false_implies, not_true_eq_false, not_false_eq_true, forall_const, implies_true]
      rw [hL _ hPn, p1]
      by_cases hlt : L (P k) < nI (r 1 k)
      · exact br_t hlt (f0 True (by simp [hlt]))
      · refine br_f hlt (key true ?_)
        rw [ha, decide_eq_true hPn, hb2]
        simp [hlt]
theorem d36_all : ∀ c, c < 216 → nI c / (36 : Int32) = nI (c / 36) := by decide +kernel
theorem s_chooses {G : GD} {i nN c : Nat} {r : Rq} {L : Nat → Int32} {μ : Mm} {q : Bool → Mm → Prop} (hi : i < 13) (hr : GoodD r) (hN : nN ≤ 6) (hE : MEnv G i r μ) (h1 : μ p_MO 1 = nI nN) (hL : ∀ v, v < nN → μ p_MO_left v = L v) (hc : c < 216)
    (h : ∀ μ2, Sm (fun c => c = 48) μ μ2 → (∀ k, k < 3 → μ2 p_MO_tries k = nI (Pc c k)) → q (tzC r c && gdC nN L r (Pc c)) μ2) : Wp_X8_chooses (nI c) μ q := by
  have hrr := hr
  obtain ⟨g1, g2, g3, g4, g5⟩ := hr
  unfold Wp_X8_chooses
  intro K45 h45
  unfold F_X8_chooses_e
  obtain ⟨d1, d2⟩ := d6_all c hc
  obtain ⟨d3, d4⟩ := d6_all (c / 6) (by omega)
  rw [d36_all c hc, d1, d2, d3, d4]
  simp (disch := omega) only [vpT, vpT0, vpT1, vpT2, clT, clT0, clT1, clT2, leT, leF, leT0, ltT, ltF, i1, true_and, and_true, true_implies, false_implies, not_true_eq_false, not_false_eq_true, forall_const, implies_true]
  obtain ⟨μ1, hμ1⟩ : ∃ μ1, μ1 = up2 (up2 (up2 μ p_MO_tries 0 (nI (c / 36))) p_MO_tries 1 (nI (c / 6 % 6))) p_MO_tries 2 (nI (c % 6)) := ⟨_, rfl⟩
  rw [← hμ1]
  have s1 : Sm (fun c => c = 48) μ μ1 := by rw [hμ1]; exact ((Sm.up (D := fun c => c = 48) rfl).tr (Sm.up rfl)).tr (Sm.up rfl)
  have hT : ∀ k, k < 3 → μ1 p_MO_tries k = nI (Pc c k) := by
    intro k hk
    rw [hμ1]
    have : k = 0 ∨ k = 1 ∨ k = 2 := by omega
    rcases this with rfl | rfl | rfl
    · rw [u_eq, d_ne (by decide), u_eq, d_ne (by decide), u_eq, d_eq]; rfl
    · rw [u_eq, d_ne (by decide), u_eq, d_eq]; rfl
    · rw [u_eq, d_eq]; rfl
  have hP6 : ∀ k, k < 3 → Pc c k < 6 := by
    intro k hk
    unfold Pc
    split
    · omega
    · split <;> omega
  have hE1 := hE.fr s1 (fun x hx => by unfold menvC; omega)
  have e6 : μ1 p_MO = μ p_MO := s1 6 (by decide)
  rw [hE1.2.2]
  simp (disch := omega) only [vpT, vpT0, vpT1, vpT2, clT, clT0, clT1, clT2, leT, leF, leT0, ltT, ltF, i1, true_and, and_true, true_implies, false_implies, not_true_eq_false, not_false_eq_true, forall_const, implies_true]
  rw [hE1.2.1.1]
  -- the digits behind the parts
  have hpre : al (fun k => decide (k < r 0 10) || decide (Pc c k = 0)) (r 0 10) = true := by
    rw [al_iff]
    intro k hk
    rw [decide_eq_true hk]; rfl
  have st : K45 (bI (al (fun k => decide (k < r 0 10) || decide (Pc c k = 0)) (r 0 10))) (nI (r 0 10)) μ1 := by
    have gen : ∀ m n, n + m = 3 → r 0 10 ≤ n → K45 (bI (al (fun k => decide (k < r 0 10) || decide (Pc c k = 0)) n)) (nI n) μ1 := by
      intro m
      induction m with
      | zero =>
        intro n hn _
        have hn3 : n = 3 := by omega
        subst hn3
        refine h45 _ _ _ ?_
        unfold F_X8_chooses_45
        refine br_t (by decide) ?_
        have hq := h μ1 s1 hT
        unfold tzC at hq
        cases ha : al (fun k => decide (k < r 0 10) || decide (Pc c k = 0)) 3 with
        | false =>
          rw [ha] at hq
          exact br_t rfl hq
        | true =>
          rw [ha, Bool.true_and] at hq
          refine br_f (by decide) ?_
          refine s_isChoice (L := L) hi hrr hN hE1 (by rw [e6]; exact h1) (fun v hv => by rw [s1 p_MO_left (by decide)]; exact hL v hv) hT hP6 ?_
          refine bq (fun hb => ?_) (fun hb => ?_)
          · rw [hb] at hq; exact hq
          · rw [hb] at hq; exact hq
      | succ m ih =>
        intro n hn hle
        have hn3 : n < 3 := by omega
        have ih2 := ih (n + 1) (by omega) (by omega)
        refine h45 _ _ _ ?_
        unfold F_X8_chooses_45
        refine br_f (not_le_nI (n := 3) hn3 (by omega)) ?_
        simp (disch := omega) only [vpT, vpT0, vpT1, vpT2, clT, clT0, clT1, clT2, leT, leF, leT0, ltT, ltF, i1, true_and, and_true, true_implies, false_implies, not_true_eq_false, not_false_eq_true, forall_const, implies_true]
        rw [hT n hn3]
        rw [show al (fun k => decide (k < r 0 10) || decide (Pc c k = 0)) (n + 1) = (al (fun k => decide (k < r 0 10) || decide (Pc c k = 0)) n && (decide (n < r 0 10) || decide (Pc c n = 0))) from rfl] at ih2
        cases ha : al (fun k => decide (k < r 0 10) || decide (Pc c k = 0)) n with
        | false =>
          rw [ha] at ih2
          exact br_t rfl ih2
        | true =>
          rw [ha, decide_eq_false (by omega)] at ih2
          refine br_f (by decide) ?_
          have := hP6 n hn3
          by_cases hpz : Pc c n = 0
          · rw [decide_eq_true hpz] at ih2
            exact rb_t (by rw [hpz]; rfl) ih2
          · rw [decide_eq_false hpz] at ih2
            exact rb_f (by rw [e0 (by omega)]; exact hpz) ih2
    exact gen (3 - r 0 10) (r 0 10) (by omega) (Nat.le_refl _)
  rw [hpre] at st
  exact st
/-- ways and needs of three lines -/
def WM (G : GD) (r : Rq) (P : Nat → Nat) (l : Nat) : List Nat := if l < r 0 11 then Wof G r P l else [0]
def nd (r : Rq) (l : Nat) : Nat := if l < r 0 11 then r 6 l else 0
theorem mps_pad {G : GD} {r : Rq} {P : Nat → Nat} (hr : r 0 11 ≤ 3) : ∀ m l F c T, l + m = r 0 11 → (∀ j, l ≤ j → T j = 0) → mps G.1 (Wof G r P) (r 6) P m l F c T = mps G.1 (WM G r P) (nd r) P (3 - l) l F c T := by
  have base : ∀ m l F c T, r 0 11 ≤ l → (∀ j, l ≤ j → T j = 0) → mps G.1 (WM G r P) (nd r) P m l F c T = [(c, P, T)] := by
    intro m
    induction m with
    | zero => intro l F c T _ _; rfl
    | succ m ih =>
      intro l F c T hl hT
      show (WM G r P l).flatMap _ = _
      unfold WM
      rw [if_neg (by omega)]
      have hok : okF G.1 F (nI (nd r l)) 0 = true := by
        unfold okF
        rw [al_iff]
        intro k _
        simp
      have h0 : nd r l = 0 := by unfold nd; rw [if_neg (by omega)]
      have ht : tkF G.1 0 (nI (nd r l)) F = F := by
        funext k
        unfold tkF
        rw [if_neg (by simp)]
      have hs : setl T l 0 = T := by
        funext j
        unfold setl
        by_cases hj : j = l
        · rw [if_pos hj, hj, hT l (Nat.le_refl _)]
        · rw [if_neg hj]
      simp only [List.flatMap_cons, List.flatMap_nil, List.append_nil]
      rw [if_pos hok, ht, hs, h0, Nat.zero_mul, Nat.add_zero]
      exact ih (l + 1) F c T (by omega) (fun j hj => hT j (by omega))
  intro m
  induction m with
  | zero =>
    intro l F c T hl hT
    rw [base _ _ _ _ _ (by omega) hT]
    rfl
  | succ m ih =>
    intro l F c T hl hT
    rw [show 3 - l = (3 - (l + 1)) + 1 by omega]
    show (Wof G r P l).flatMap _ = (WM G r P l).flatMap _
    have e1 : WM G r P l = Wof G r P l := by unfold WM; rw [if_pos (by omega)]
    have e2 : nd r l = r 6 l := by unfold nd; rw [if_pos (by omega)]
    rw [e1, e2]
    congr 1
    funext w
    congr 1
    refine ih (l + 1) _ _ _ (by omega) (fun j hj => ?_)
    unfold setl
    rw [if_neg (by omega)]
    exact hT j (by omega)
theorem s_needOf {G : GD} {i l : Nat} {r : Rq} {μ : Mm} {q : Int32 → Mm → Prop} (hi : i < 13) (hr : GoodD r) (hE : MEnv G i r μ) (hl : l < 3) (h : q (nI (nd r l)) μ) : Wp_X8_needOf (nI l) μ q := by
  have h11 := hr.2.1
  unfold Wp_X8_needOf F_X8_needOf_e
  rw [hE.2.2]
  simp (disch := omega) only [vpT, vpT0, vpT1, vpT2, clT, clT0, clT1, clT2, leT, leF, leT0, ltT, ltF, i1, true_and, and_true, true_implies, false_implies, not_true_eq_false, not_false_eq_true, forall_const, implies_true, hE.2.1.2.1]
  unfold nd at h
  by_cases hlt : l < r 0 11
  · rw [if_pos hlt] at h
    simp (disch := omega) only [vpT, vpT0, vpT1, vpT2, clT, clT0, clT1, clT2, leT, leF, leT0, ltT, ltF, i1, true_and, and_true, true_implies, false_implies, not_true_eq_false, not_false_eq_true, forall_const, implies_true, nI_pk3, nI_add]
    rw [(hE.2.1.2.2.2.2 l hlt).2.2]
    exact h
  · rw [if_neg hlt] at h
    simp (disch := omega) only [vpT, vpT0, vpT1, vpT2, clT, clT0, clT1, clT2, leT, leF, leT0, ltT, ltF, i1, true_and, and_true, true_implies, false_implies, not_true_eq_false, not_false_eq_true, forall_const, implies_true]
    exact h
theorem nd_le {r : Rq} (hr : GoodD r) (l : Nat) : nd r l ≤ 20 := by
  unfold nd
  split
  · rename_i h; exact (hr.2.2.2.1 l h).2.2.2.2
  · omega
theorem s_cost {G : GD} {i l j : Nat} {r : Rq} {Wl : List Nat} {μ : Mm} {q : Int32 → Mm → Prop} (hi : i < 13) (hr : GoodD r) (hE : MEnv G i r μ) (hl : l < 3) (hf : Fnd l Wl μ) (hj : j < Wl.length) (h15 : Wl.length ≤ 15) (hw : Wl[j] < 512) (h : q (nI (nd r l * pc Wl[j])) μ) : Wp_X8_cost (nI l) (nI j) μ q := by
  unfold Wp_X8_cost F_X8_cost_e
  refine s_needOf hi hr hE hl ?_
  simp (disch := omega) only [vpT, vpT0, vpT1, vpT2, clT, clT0, clT1, clT2, leT, leF, leT0, ltT, ltF, i1, true_and, and_true, true_implies, false_implies, not_true_eq_false, not_false_eq_true, forall_const, implies_true, nI_pk64, nI_add]
  rw [hf.2 j hj]
  refine s_bits hw ?_
  rw [pk_mul]
  exact h
theorem Fnd.fr {l l2 : Nat} {L : List Nat} {μ μ2 : Mm} (h : Fnd l2 L μ) (hL : L.length ≤ 15) (hf : FFn l μ μ2) (hne : l2 ≠ l) : Fnd l2 L μ2 := by
  refine ⟨?_, fun j hj => ?_⟩
  · rw [hf.2.1 l2 hne]; exact h.1
  · rw [hf.2.2 _ (by omega)]; exact h.2 j hj
theorem WM_15 {G : GD} {r : Rq} {P : Nat → Nat} (hG : NetOk G) (hr : GoodD r) (hP6 : ∀ k, k < r 0 10 → P k < 6) (hPd : ∀ j k, j < r 0 10 → k < r 0 10 → j ≠ k → P j ≠ P k) (l : Nat) : (WM G r P l).length ≤ 15 ∧ ∀ w, w ∈ WM G r P l → w < 512 := by
  unfold WM
  split
  · rename_i h
    obtain ⟨b1, b2, b3, -⟩ := hr.2.2.2.1 l h
    exact ⟨wl_15 hG (hP6 _ b1) (hP6 _ b2) (hPd _ _ b1 b2 b3), fun w hw => (wl_W9 G _ _).lt hG.1 hw⟩
  · refine ⟨by simp, fun w hw => ?_⟩
    rw [List.mem_singleton] at hw
    omega
def dF (c : Nat) : Prop := 43 ≤ c ∧ c ≤ 47
theorem FFn.sm {l : Nat} {μ μ2 : Mm} (h : FFn l μ μ2) : Sm dF μ μ2 := fun c hc => by
  unfold dF at hc
  exact h.1 c (by show c ≠ 43; omega) (by show c ≠ 44; omega) (by show c ≠ 45; omega) (by show c ≠ 46; omega) (by show c ≠ 47; omega)
theorem s_findsAll {G : GD} {i : Nat} {r : Rq} {P : Nat → Nat} {μ : Mm} {q : Mm → Prop} (hG : NetOk G) (hi : i < 13) (hr : GoodD r) (hE : MEnv G i r μ) (hT : ∀ k, k < 3 → μ p_MO_tries k = nI (P k)) (hP6 : ∀ k, k < r 0 10 → P k < 6) (hPd : ∀ j k, j < r 0 10 → k < r 0 10 → j ≠ k → P j ≠ P k)
    (h : ∀ μ2, Sm dF μ μ2 → (∀ l, l < 3 → Fnd l (WM G r P l) μ2) → q μ2) : Wp_X8_findsAll μ q := by
  have h15 := WM_15 hG hr hP6 hPd
  have hrr := hr
  obtain ⟨g1, g2, g3, g4, g5⟩ := hr
  have dE : ∀ c, dF c → ¬ menvC c := fun c hc => by unfold dF at hc; unfold menvC; omega
  unfold Wp_X8_findsAll
  intro K2 h2
  unfold F_X8_findsAll_e
  refine dn (P := fun l => ∀ μ1, Sm dF μ μ1 → (∀ j, j < l → Fnd j (WM G r P j) μ1) → K2 (nI l) μ1) (n := 3) ?_ ?_ μ Sm.rf (fun j hj => by omega)
  · intro μ1 s1 hm
    refine h2 _ _ ?_
    unfold F_X8_findsAll_2
    exact br_t (by decide) (h μ1 s1 hm)
  · intro l hl hnx μ1 s1 hm
    refine h2 _ _ ?_
    unfold F_X8_findsAll_2
    refine br_f (not_le_nI (n := 3) hl (by omega)) ?_
    have hE1 := hE.fr s1 dE
    rw [hE1.2.2]
    simp (disch := omega) only [vpT, vpT0, vpT1, vpT2, clT, clT0, clT1, clT2, leT, leF, leT0, ltT, ltF, i1, true_and, and_true, true_implies, false_implies, not_true_eq_false, not_false_eq_true, forall_const, implies_true, hE1.2.1.2.1]
    by_cases hlt : l < r 0 11
    · simp (disch := omega) only [vpT, vpT0, vpT1, vpT2, clT, clT0, clT1, clT2, leT, leF, leT0, ltT, ltF, i1, true_and, and_true, true_implies, false_implies, not_true_eq_false, not_false_eq_true, forall_const, implies_true, nI_pk3, nI_add]
      obtain ⟨a1, a2, a3⟩ := hE1.2.1.2.2.2.2 l hlt
      obtain ⟨b1, b2, b3, -⟩ := g4 l hlt
      rw [a1, a2]
      simp (disch := omega) only [vpT, vpT0, vpT1, vpT2, clT, clT0, clT1, clT2, leT, leF, leT0, ltT, ltF, i1, true_and, and_true, true_implies, false_implies, not_true_eq_false, not_false_eq_true, forall_const, implies_true]
      rw [s1 p_MO_tries (by unfold dF; decide), hT _ (by omega), hT _ (by omega)]
      refine s_finds hG hl (hP6 _ b1) (hP6 _ b2) (hPd _ _ b1 b2 b3) hE1.1 (fun μ2 hf2 hF2 => ?_)
      refine hnx μ2 (s1.tr hF2.sm) (fun j hj => ?_)
      by_cases hjl : j = l
      · subst hjl
        unfold WM
        rw [if_pos hlt]
        exact hf2
      · exact (hm j (by omega)).fr (h15 j).1 hF2 hjl
    · simp (disch := omega) only [vpT, vpT0, vpT1, vpT2, clT, clT0, clT1, clT2, leT, leF, leT0, ltT, ltF, i1, true_and, and_true, true_implies, false_implies, not_true_eq_false, not_false_eq_true, forall_const, implies_true, nI_pk64]
      obtain ⟨μ2, hμ2⟩ : ∃ μ2, μ2 = up2 (up2 μ1 p_MO_many l (1 : Int32)) p_MO_found (64 * l) (0 : Int32) := ⟨_, rfl⟩
      rw [← hμ2]
      have hF2 : FFn l μ1 μ2 := by
        rw [hμ2]
        refine ⟨fun x p1 p2 p3 p4 p5 => ?_, fun j hj => ?_, fun j hj => ?_⟩
        · rw [u_ne p1, u_ne p2]
        · rw [u_ne (by decide), u_eq, d_ne hj]
        · rw [u_eq, d_ne (by omega), u_ne (by decide)]
      refine hnx μ2 (s1.tr hF2.sm) (fun j hj => ?_)
      by_cases hjl : j = l
      · subst hjl
        unfold WM
        rw [if_neg hlt, hμ2]
        refine ⟨?_, fun i hi => ?_⟩
        · rw [u_ne (by decide), u_eq, d_eq]; rfl
        · have : i = 0 := by simp at hi; omega
          subst this
          rw [u_eq, Nat.add_zero, d_eq]; rfl
      · exact (hm j (by omega)).fr (h15 j).1 hF2 hjl
