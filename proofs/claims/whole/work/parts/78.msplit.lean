/-! the reference splits -/
theorem sub_pos {a b : Int32} (ha : (-10000 : Int) ≤ a.toInt) (ha2 : a.toInt ≤ 10000) (hb : (-10000 : Int) ≤ b.toInt) (hb2 : b.toInt ≤ 10000) : (a - b).toInt = a.toInt - b.toInt := by
  rw [Int32.toInt_sub, Int.bmod_eq_of_le (by omega) (by omega)]
theorem s_widest {nL line : Nat} {l : List Nat} {μ : Mm} {q : Int32 → Mm → Prop} (hl3 : line < 3) (hL : nL ≤ 9) (h3 : μ p_MO 3 = nI nL) (h9 : W9 nL l) (hl : l.length ≤ 15) (hf : Fnd line l μ) (hF : ∀ k, k < nL → (-5000 : Int) ≤ (μ p_MO_free k).toInt) (h : q (nI (wid (fun w => rmF (μ p_MO_free) w nL) l)) μ) : Wp_X8_widest (nI line) μ q := by
  unfold Wp_X8_widest
  intro K4 K47 K76 h4 h47 h76
  unfold F_X8_widest_e
  obtain ⟨R, hR⟩ : ∃ R, R = fun w => rmF (μ p_MO_free) w nL := ⟨_, rfl⟩
  rw [← hR] at h
  have R1 : ∀ w, rmF (μ p_MO_free) w nL = R w := fun w => by rw [hR]
  have Rl : ∀ w, (-5000 : Int) ≤ (R w).toInt := fun w => by rw [hR]; exact rmF_ge (by omega) nL hF
  have Rh : ∀ w, (R w).toInt ≤ 99 := fun w => by rw [hR]; exact rmF_le _ _ _
  have key : ∀ j, (wid R (l.take j) = 0 ∨ wid R (l.take j) ∈ l) := by
    intro j
    obtain ⟨m1, m2⟩ := wid_max (R := R) (l.take j) 0 (fun w hw => (h9 w (List.mem_of_mem_take hw)).2) (fun hx => absurd rfl hx)
    by_cases hz : wid R (l.take j) = 0
    · exact Or.inl hz
    · obtain ⟨-, -, -, a4⟩ := m2 hz
      rcases a4 with a4 | a4
      · exact absurd a4 hz
      · exact Or.inr (List.mem_of_mem_take a4)
  refine dn (P := fun j => K4 (nI line) (nI (wid R (l.take j))) (nI j) μ) (n := l.length) ?_ ?_
  · refine h4 _ _ _ _ ?_
    unfold F_X8_widest_4
    rw [List.take_length]
    simp (disch := omega) only [vpT, vpT0, vpT1, vpT2, clT, clT0, clT1, clT2, leT, leF, leT0, ltT, ltF, i1, true_and, and_true, true_implies, false_implies, not_true_eq_false, not_false_eq_true, forall_const, implies_true, hf.1]
    exact h
  · intro j hj hn
    refine h4 _ _ _ _ ?_
    unfold F_X8_widest_4
    simp (disch := omega) only [vpT, vpT0, vpT1, vpT2, clT, clT0, clT1, clT2, leT, leF, leT0, ltT, ltF, i1, true_and, and_true, true_implies, false_implies, not_true_eq_false, not_false_eq_true, forall_const, implies_true, hf.1, nI_pk64, nI_add]
    rw [hf.2 j hj]
    have hn2 : wid R (l.take (j + 1)) = wst1 R (wid R (l.take j)) l[j] := foldl_take _ _ _ _ hj
    rw [hn2] at hn
    have hwl : l[j] < 512 := h9.lt hL (List.getElem_mem hj)
    have hbl : wid R (l.take j) < 512 := by
      rcases key j with hz | hm
      · rw [hz]; omega
      · exact h9.lt hL hm
    generalize l[j] = w at *
    generalize wid R (l.take j) = b at *
    have k76 : ∀ y : Bool, y = decide (b = 0 ∨ (R b).toInt < (R w).toInt ∨ ((R w).toInt = (R b).toInt ∧ pc w < pc b)) → K76 (nI line) (nI b) (nI j) (nI w) (bI y) μ := by
      intro y hy
      refine h76 _ _ _ _ _ _ ?_
      unfold F_X8_widest_76
      refine s_roomOf hL h3 hwl ?_
      rw [R1 w, i1]
      have hlo := (Int32.lt_iff_toInt_lt (x := R w) (y := (1 : Int32)))
      have h1i : (1 : Int32).toInt = 1 := rfl
      unfold wst1 at hn
      by_cases hlt : R w < 1
      · rw [if_neg (fun hx => by rw [hlo] at hlt; omega)] at hn
        exact br_t hlt hn
      · refine br_f hlt ?_
        cases hyy : y with
        | false =>
          rw [hyy] at hy
          rw [if_neg (fun hx => by have := of_decide_eq_false hy.symm; exact this hx.2)] at hn
          exact br_t rfl hn
        | true =>
          rw [hyy] at hy
          rw [if_pos ⟨by rw [hlo] at hlt; omega, of_decide_eq_true hy.symm⟩] at hn
          exact br_f (by decide) hn
    by_cases hb0 : b = 0
    · refine rb_t (by rw [hb0]; rfl) (h47 _ _ _ _ _ _ ?_)
      unfold F_X8_widest_47
      refine br_t (by decide) (k76 true ?_)
      exact (decide_eq_true (Or.inl hb0)).symm
    · refine rb_f (by rw [e0 (by omega)]; exact hb0) ?_
      refine s_roomOf hL h3 hwl (s_roomOf hL h3 hbl (h47 _ _ _ _ _ _ ?_))
      rw [R1 w, R1 b]
      unfold F_X8_widest_47
      have hs := sub_pos (a := R w) (b := R b) (by have := Rl w; omega) (by have := Rh w; omega) (by have := Rl b; omega) (by have := Rh b; omega)
      have hpos : (0 : Int32) < R w - R b ↔ (R b).toInt < (R w).toInt := by
        rw [Int32.lt_iff_toInt_lt, hs, show (0 : Int32).toInt = 0 from rfl]; omega
      have hzero : R w - R b = 0 ↔ (R w).toInt = (R b).toInt := by
        rw [← Int32.toInt_inj, hs, show (0 : Int32).toInt = 0 from rfl]; omega
      by_cases h1 : (R b).toInt < (R w).toInt
      · exact br_t (hpos.2 h1) (k76 true (decide_eq_true (Or.inr (Or.inl h1))).symm)
      · refine br_f (fun hx => h1 (hpos.1 hx)) ?_
        by_cases h2 : (R w).toInt = (R b).toInt
        · refine rb_t (hzero.2 h2) ?_
          refine s_bits hwl (s_bits hbl ?_)
          rw [pcle hwl hbl]
          by_cases hp : pc w < pc b
          · exact br_f (fun hx => hx hp) (k76 true (decide_eq_true (Or.inr (Or.inr ⟨h2, hp⟩))).symm)
          · refine br_t hp (k76 false (decide_eq_false ?_).symm)
            rintro (h | h | h)
            · exact hb0 h
            · exact h1 h
            · exact hp h.2
        · refine rb_f (fun hx => h2 (hzero.1 hx)) (k76 false (decide_eq_false ?_).symm)
          rintro (h | h | h)
          · exact hb0 h
          · exact h1 h
          · exact h2 h.1
def dW (c : Nat) : Prop := (34 ≤ c ∧ c ≤ 36) ∨ (42 ≤ c ∧ c ≤ 47)
theorem FFn.w {l : Nat} {μ μ2 : Mm} (h : FFn l μ μ2) : Sm dW μ μ2 := h.sm.mono (fun c hc => by unfold dF at hc; unfold dW; omega)
theorem FFn.o {l i : Nat} {μ μ2 : Mm} (h : FFn l μ μ2) : Oth i μ μ2 := Oth.sm h.sm (fun c hc => by unfold dF at hc; omega)
/-- the reference's cells of a line -/
def mWl (i : Nat) (r : Rq) (l : Nat) (μ : Mm) : Prop := μ p_MO_way (3 * i + l) = nI (r 7 l) ∧ μ p_MO_amount (3 * i + l) = nI (r 8 l) ∧ μ p_MO_rest (3 * i + l) = nI (r 9 l)
theorem gw_full {nL : Nat} {F : Nat → Int32} {l : List Nat} {n : Nat} (hn : 1 ≤ n) (hz : gw nL F l n ≠ 0) : spl nL F l n = (true, gw nL F l n, n, 0) := by
  obtain ⟨m, rfl⟩ : ∃ m, n = m + 1 := ⟨n - 1, by omega⟩
  have hd : dwn (gw nL F l) (m + 1) = (gw nL F l (m + 1), m + 1) := by
    unfold dwn
    rw [if_pos hz]
  unfold spl
  rw [hd]
  have ho : spO nL F l (m + 1) (gw nL F l (m + 1), m + 1) = 0 := by
    unfold spO
    rw [if_pos (Nat.sub_self _)]
  rw [ho]
  dsimp only
  rw [decide_eq_false hz, Nat.sub_self]
  rfl
theorem tkF_0 {nL : Nat} {x : Int32} {F : Nat → Int32} : tkF nL 0 x F = F := by
  funext k
  unfold tkF
  rw [if_neg (by simp)]
set_option maxHeartbeats 1000000 in
theorem s_splits {G : GD} {i : Nat} {r : Rq} {P : Nat → Nat} {F0 : Nat → Int32} {μ : Mm} {q : Bool → Mm → Prop} (hG : NetOk G) (hi : i < 13) (hr : GoodD r) (hE : MEnv G i r μ) (hT : ∀ k, k < 3 → μ p_MO_tries k = nI (P k)) (hP6 : ∀ k, k < r 0 10 → P k < 6) (hPd : ∀ j k, j < r 0 10 → k < r 0 10 → j ≠ k → P j ≠ P k) (h0 : ∀ k, k < G.1 → (F0 k).toInt ≤ 5000) (hLw : Lw G.1 F0 6 (μ p_MO_free))
    (h : ∀ μ2, Sm dW μ μ2 → Oth i μ μ2 → (okL G.1 (Wof G r P) r (μ p_MO_free) = true → ∀ l, l < r 0 11 → mWl i (spQ G.1 (Wof G r P) r P (μ p_MO_free)) l μ2) → q (okL G.1 (Wof G r P) r (μ p_MO_free)) μ2) : Wp_X8_splits μ q := by
  have hrr := hr
  obtain ⟨g1, g2, g3, g4, g5⟩ := hr
  have h9 : ∀ l, W9 G.1 (Wof G r P l) := fun l => wl_W9 G _ _
  have hL := hG.1
  obtain ⟨F, hF⟩ : ∃ F, F = μ p_MO_free := ⟨_, rfl⟩
  rw [← hF] at h hLw
  obtain ⟨s, hs⟩ : ∃ s, s = spQ G.1 (Wof G r P) r P F := ⟨_, rfl⟩
  rw [← hs] at h
  have dE : ∀ c, dW c → ¬ menvC c := fun c hc => by unfold dW at hc; unfold menvC; omega
  unfold Wp_X8_splits
  intro K4 K127 K151 K199 K214 h4 h127 h151 h199 h214
  unfold F_X8_splits_e
  -- where it ends without
  have k4f : okL G.1 (Wof G r P) r F = false → ∀ (n : Nat) (μ1 : Mm), n ≤ 3 → Sm dW μ μ1 → Oth i μ μ1 → K4 (0 : Int32) (nI n) μ1 := by
    intro hok n μ1 hn s1 o1
    rw [hok] at h
    refine h4 _ _ _ ?_
    unfold F_X8_splits_4
    have hE1 := hE.fr s1 dE
    rw [hE1.2.2]
    refine ⟨inN (by omega) (by omega), fun _ => ⟨false, rfl, h μ1 s1 o1 (fun hc => by cases hc)⟩, fun _ => br_t rfl ⟨false, rfl, h μ1 s1 o1 (fun hc => by cases hc)⟩⟩
  refine dn (P := fun l => al (fun l => (spR G.1 (Wof G r P) (r 6) F l).1) l = true → ∀ μ1, Sm dW μ μ1 → Oth i μ μ1 → (∀ j, j < l → mWl i s j μ1) → μ1 p_MO_free = spF G.1 (Wof G r P) (r 6) F l → Lw G.1 F0 (6 - 2 * l) (μ1 p_MO_free) → K4 (bI true) (nI l) μ1) (n := r 0 11) ?_ ?_ rfl μ Sm.rf Oth.rf (fun j hj => by omega) hF.symm (by rw [← hF]; exact hLw)
  · intro hal μ1 s1 o1 hw1 _ _
    refine h4 _ _ _ ?_
    unfold F_X8_splits_4
    have hE1 := hE.fr s1 dE
    rw [hE1.2.2]
    simp (disch := omega) only [vpT, vpT0, vpT1, vpT2, clT, clT0, clT1, clT2, leT, leF, leT0, ltT, ltF, i1, true_and, and_true, true_implies, false_implies, not_true_eq_false, not_false_eq_true, forall_const, implies_true, hE1.2.1.2.1]
    have : okL G.1 (Wof G r P) r F = true := hal
    rw [this] at h
    exact ex_bI (h μ1 s1 o1 (fun _ => hw1))
  · intro l hl hnx hal μ1 s1 o1 hw1 hf1 hb1
    refine h4 _ _ _ ?_
    unfold F_X8_splits_4
    have hE1 := hE.fr s1 dE
    obtain ⟨b1, b2, b3, b4, b5⟩ := g4 l hl
    have hPa := hP6 _ b1
    have hPb := hP6 _ b2
    have hPab := hPd _ _ b1 b2 b3
    have h15 := wl_15 hG hPa hPb hPab
    obtain ⟨a4, a5, a6⟩ := hE1.2.1.2.2.2.2 l hl
    have hv3 : vp_in (nI (3 * i + l)) 39 := inN (by omega) (by omega)
    have c3 : (nI (3 * i + l)).toNatClampNeg = 3 * i + l := nI_clamp (by omega)
    have okf : (spR G.1 (Wof G r P) (r 6) F l).1 = false → okL G.1 (Wof G r P) r F = false := by
      intro hb
      unfold okL
      cases ha : al (fun l => (spR G.1 (Wof G r P) (r 6) F l).1) (r 0 11) with
      | false => rfl
      | true =>
        have := (al_iff _ _).1 ha l hl
        rw [hb] at this; cases this
    rw [hE1.2.2, nI_pk3, nI_add]
    refine ⟨inN (by omega) (by omega), ?_⟩
    rw [nI_clamp (show i < 2 ^ 31 by omega), hE1.2.1.2.1]
    refine br_f (not_le_nI hl (by omega)) (br_f (by decide) ⟨hv3, ?_⟩)
    rw [c3, a4, a5]
    refine ⟨inN (by omega) (by omega), hv3, inN (by omega) (by omega), ?_⟩
    rw [nI_clamp (show r 4 l < 2 ^ 31 by omega), nI_clamp (show r 5 l < 2 ^ 31 by omega), s1 p_MO_tries (by unfold dW; decide), hT _ (by omega), hT _ (by omega)]
    refine s_finds hG (by omega) hPa hPb hPab hE1.1 (fun μ2 hfd hF2 => ?_)
    refine ⟨hv3, hv3, hv3, hv3, ?_⟩
    have e33 : μ2 p_MO_lineNeed (3 * i + l) = nI (r 6 l) := by rw [hF2.sm p_MO_lineNeed (by unfold dF; decide)]; exact a6
    rw [u_ne (show p_MO_lineNeed ≠ p_MO_rest by decide), u_ne (show p_MO_lineNeed ≠ p_MO_amount by decide), u_ne (show p_MO_lineNeed ≠ p_MO_rest by decide), e33]
    obtain ⟨μ3, hμ3⟩ : ∃ μ3, μ3 = up2 (up2 μ2 p_MO_rest (3 * i + l) (0 : Int32)) p_MO_amount (3 * i + l) (nI (r 6 l)) := ⟨_, rfl⟩
    rw [← hμ3]
    have o23 : Oth i μ2 μ3 := by rw [hμ3]; exact (Oth.up (fun hc => absurd hc (by decide)) (fun _ _ => by omega)).tr (Oth.up (fun hc => absurd hc (by decide)) (fun _ _ => by omega))
    have s23 : Sm dW μ2 μ3 := by rw [hμ3]; exact (Sm.up (by unfold dW; decide)).tr (Sm.up (by unfold dW; decide))
    have s13 : Sm dW μ μ3 := (s1.tr hF2.w).tr s23
    have o13 : Oth i μ μ3 := (o1.tr hF2.o).tr o23
    have f3 : μ3 p_MO_free = μ1 p_MO_free := by rw [hμ3, u_ne (by decide), u_ne (by decide), hF2.sm p_MO_free (by unfold dF; decide)]
    have hfd3 : Fnd l (Wof G r P l) μ3 := by
      rw [hμ3]
      exact ⟨hfd.1, hfd.2⟩
    have hE3 := hE.fr s13 dE
    have kp3 : ∀ c, c ≠ 34 → c ≠ 36 → μ3 c = μ2 c := fun c q1 q2 => by rw [hμ3, u_ne q1, u_ne q2]
    -- lines ahead stay
    have hwj : ∀ {μx : Mm}, (∀ c, 34 ≤ c → c ≤ 36 → ∀ j, j ≠ 3 * i + l → μx c j = μ1 c j) → ∀ j, j < l → mWl i s j μx := by
      intro μx hx j hj
      obtain ⟨v1, v2, v3⟩ := hw1 j hj
      unfold mWl
      rw [hx 35 (by omega) (by omega) _ (by omega), hx 34 (by omega) (by omega) _ (by omega), hx 36 (by omega) (by omega) _ (by omega)]
      exact ⟨v1, v2, v3⟩
    have z3 : ∀ c, 34 ≤ c → c ≤ 36 → ∀ j, j ≠ 3 * i + l → μ3 c j = μ1 c j := by
      intro c q1 q2 j hj
      have e2 : μ2 c = μ1 c := hF2.sm c (by unfold dF; omega)
      rw [hμ3]
      by_cases hc34 : c = 34
      · subst hc34; rw [u_eq, d_ne hj, u_ne (by decide), e2]
      · rw [u_ne hc34]
        by_cases hc36 : c = 36
        · subst hc36; rw [u_eq, d_ne hj, e2]
        · rw [u_ne hc36, e2]
    refine s_fewest (by omega) hL hE3.1.2.1 (h9 l) h15 hfd3 ?_
    have e34 : μ3 p_MO_amount (3 * i + l) = nI (r 6 l) := by rw [hμ3, u_eq, d_eq]
    have e36 : μ3 p_MO_rest (3 * i + l) = 0 := by rw [hμ3, u_ne (by decide), u_eq, d_eq]
    have e33' : μ3 p_MO_lineNeed (3 * i + l) = nI (r 6 l) := by rw [kp3 _ (by decide) (by decide)]; exact e33
    obtain ⟨w, hw⟩ : ∃ w, w = gw G.1 (μ1 p_MO_free) (Wof G r P l) (r 6 l) := ⟨_, rfl⟩
    rw [f3, show fwp (okF G.1 (μ1 p_MO_free) (nI (r 6 l))) (Wof G r P l) = w by rw [hw]; rfl]
    have hwl : w < 512 := by rw [hw]; exact lt512 hL (gw_lt (h9 l) _)
    refine ⟨hv3, hv3, ?_⟩
    rw [u_eq, d_eq, e0 (by omega)]
    have eR : spR G.1 (Wof G r P) (r 6) F l = spl G.1 (μ1 p_MO_free) (Wof G r P l) (r 6 l) := by rw [hf1]; rfl
    have hsF : spF G.1 (Wof G r P) (r 6) F (l + 1) = tkF G.1 (spR G.1 (Wof G r P) (r 6) F l).2.2.2 (nI (r 6 l - (spR G.1 (Wof G r P) (r 6) F l).2.2.1)) (tkF G.1 (spR G.1 (Wof G r P) (r 6) F l).2.1 (nI (spR G.1 (Wof G r P) (r 6) F l).2.2.1) (μ1 p_MO_free)) := by rw [hf1]; rfl
    have s78 : s 7 l = (spR G.1 (Wof G r P) (r 6) F l).2.1 ∧ s 8 l = (spR G.1 (Wof G r P) (r 6) F l).2.2.1 ∧ s 9 l = (spR G.1 (Wof G r P) (r 6) F l).2.2.2 := by rw [hs]; exact ⟨rfl, rfl, rfl⟩
    by_cases hwz : w = 0
    · refine rb_t hwz ?_
      subst hwz
      obtain ⟨μ4, hμ4⟩ : ∃ μ4, μ4 = up2 μ3 p_MO_way (3 * i + l) (nI 0) := ⟨_, rfl⟩
      rw [← hμ4]
      have s34 : Sm dW μ3 μ4 := by rw [hμ4]; exact Sm.up (by unfold dW; decide)
      have o34 : Oth i μ3 μ4 := by rw [hμ4]; exact Oth.up (fun hc => absurd hc (by decide)) (fun _ _ => by omega)
      have f4 : μ4 p_MO_free = μ1 p_MO_free := by rw [hμ4, u_ne (by decide)]; exact f3
      have hE4 := hE.fr (s13.tr s34) dE
      have hfd4 : Fnd l (Wof G r P l) μ4 := by rw [hμ4]; exact ⟨hfd3.1, hfd3.2⟩
      refine s_widest (by omega) hL hE4.1.2.1 (h9 l) h15 hfd4 (fun k hk => by rw [f4]; have := hb1 k hk; omega) ?_
      rw [f4]
      obtain ⟨b, hb⟩ : ∃ b, b = wid (fun w => rmF (μ1 p_MO_free) w G.1) (Wof G r P l) := ⟨_, rfl⟩
      rw [← hb]
      obtain ⟨wd1, wd2⟩ := wid_dwn (F := μ1 p_MO_free) (h9 l) ⟨b4, b5⟩ hw.symm
      rw [← hb] at wd1 wd2
      obtain ⟨D, hD⟩ : ∃ D, D = dwn (gw G.1 (μ1 p_MO_free) (Wof G r P l)) (r 6 l) := ⟨_, rfl⟩
      rw [← hD] at wd1 wd2
      have hDs : D.2 ≤ r 6 l := by rw [hD]; exact dwn_le _
      have hspl : spR G.1 (Wof G r P) (r 6) F l = (!decide (D.1 = 0) && (decide (r 6 l - D.2 = 0) || !decide (spO G.1 (μ1 p_MO_free) (Wof G r P l) (r 6 l) D = 0)), D.1, D.2, spO G.1 (μ1 p_MO_free) (Wof G r P l) (r 6 l) D) := by rw [eR, hD]; rfl
      have hbl : b < 512 := by rw [← wd1, hD]; exact lt512 hL (dwn_lt (Nat.pow_pos (by decide)) (gw_lt (h9 l)) _)
      refine ⟨hv3, hv3, ?_⟩
      rw [u_eq, d_eq, e0 (by omega)]
      obtain ⟨μ5, hμ5⟩ : ∃ μ5, μ5 = up2 μ4 p_MO_way (3 * i + l) (nI b) := ⟨_, rfl⟩
      rw [← hμ5]
      have s15 : Sm dW μ μ5 := (s13.tr s34).tr (by rw [hμ5]; exact Sm.up (by unfold dW; decide))
      have o15 : Oth i μ μ5 := (o13.tr o34).tr (by rw [hμ5]; exact Oth.up (fun hc => absurd hc (by decide)) (fun _ _ => by omega))
      have f5 : μ5 p_MO_free = μ1 p_MO_free := by rw [hμ5, u_ne (by decide)]; exact f4
      have kp5 : ∀ c, c ≠ 35 → μ5 c = μ3 c := fun c q1 => by rw [hμ5, u_ne q1, hμ4, u_ne q1]
      have e35 : μ5 p_MO_way (3 * i + l) = nI b := by rw [hμ5, u_eq, d_eq]
      have hE5 := hE.fr s15 dE
      -- behind the amount
      have k151 : ∀ (bb : Bool) (a : Nat), a ≤ 20 → (bb = true → b ≠ 0 ∧ a = D.2) → (bb = false → b = 0 ∧ a = 0) → K151 (bI bb) (nI l) (nI (3 * i + l)) (nI a) (nI (3 * i + l)) μ5 := by
        intro bb a ha hbt hbf
        refine h151 _ _ _ _ _ _ ?_
        unfold F_X8_splits_151
        rw [c3]
        refine ⟨hv3, hv3, hv3, ?_⟩
        rw [u_ne (show p_MO_way ≠ p_MO_amount by decide), u_eq, d_eq, e35]
        obtain ⟨μ6, hμ6⟩ : ∃ μ6, μ6 = up2 μ5 p_MO_amount (3 * i + l) (nI a) := ⟨_, rfl⟩
        rw [← hμ6]
        have f6 : μ6 p_MO_free = μ1 p_MO_free := by rw [hμ6, u_ne (by decide)]; exact f5
        have s16 : Sm dW μ μ6 := s15.tr (by rw [hμ6]; exact Sm.up (by unfold dW; decide))
        have o16 : Oth i μ μ6 := o15.tr (by rw [hμ6]; exact Oth.up (fun hc => absurd hc (by decide)) (fun _ _ => by omega))
        have hE6 := hE.fr s16 dE
        refine s_takes hL hE6.1.2.1 hbl ?_
        rw [f6]
        obtain ⟨μ7, hμ7⟩ : ∃ μ7, μ7 = setr μ6 p_MO_free (tkF G.1 b (nI a) (μ1 p_MO_free)) := ⟨_, rfl⟩
        rw [← hμ7]
        have s17 : Sm dW μ μ7 := s16.tr (by rw [hμ7]; exact Sm.set (by unfold dW; decide))
        have o17 : Oth i μ μ7 := o16.tr (by rw [hμ7]; exact Oth.sm (D := fun c => c = 42) (Sm.set rfl) (fun c hc => Or.inr (by have hc : c = 42 := hc; omega)))
        have f7 : μ7 p_MO_free = tkF G.1 b (nI a) (μ1 p_MO_free) := by rw [hμ7, setr_self]
        have kp7 : ∀ c, c ≠ 42 → c ≠ 34 → μ7 c = μ5 c := fun c q1 q2 => by rw [hμ7, setr_ne q1, hμ6, u_ne q2]
        have e347 : μ7 p_MO_amount (3 * i + l) = nI a := by rw [hμ7, setr_ne (by decide), hμ6, u_eq, d_eq]
        have e337 : μ7 p_MO_lineNeed (3 * i + l) = nI (r 6 l) := by rw [kp7 _ (by decide) (by decide), kp5 _ (by decide)]; exact e33'
        have hE7 := hE.fr s17 dE
        -- behind the rest
        have k199 : ∀ o : Nat, o < 512 → (o ≠ 0 → bb = true ∧ o = gw G.1 (tkF G.1 b (nI a) (μ1 p_MO_free)) (Wof G r P l) (r 6 l - a)) → (o = 0 → (spR G.1 (Wof G r P) (r 6) F l).1 = false) → K199 (nI l) (nI (3 * i + l)) (nI o) (nI (3 * i + l)) μ7 := by
          intro o ho hot hof
          refine h199 _ _ _ _ _ ?_
          unfold F_X8_splits_199
          rw [c3]
          refine ⟨hv3, hv3, ?_⟩
          rw [u_eq, d_eq, e0 (by omega)]
          obtain ⟨μ8, hμ8⟩ : ∃ μ8, μ8 = up2 μ7 p_MO_rest (3 * i + l) (nI o) := ⟨_, rfl⟩
          rw [← hμ8]
          have s18 : Sm dW μ μ8 := s17.tr (by rw [hμ8]; exact Sm.up (by unfold dW; decide))
          have o18 : Oth i μ μ8 := o17.tr (by rw [hμ8]; exact Oth.up (fun hc => absurd hc (by decide)) (fun _ _ => by omega))
          have hE8 := hE.fr s18 dE
          have e368 : μ8 p_MO_rest (3 * i + l) = nI o := by rw [hμ8, u_eq, d_eq]
          have kp8 : ∀ c, c ≠ 36 → μ8 c = μ7 c := fun c q1 => by rw [hμ8, u_ne q1]
          have k214 : ∀ c : Bool, c = !decide (o = 0) → K214 (nI l) (nI (3 * i + l)) (bI c) μ8 := by
            intro c hc
            refine h214 _ _ _ _ ?_
            unfold F_X8_splits_214
            rw [c3]
            refine ⟨hv3, hv3, hv3, ?_⟩
            rw [e368, kp8 p_MO_lineNeed (by decide), kp8 p_MO_amount (by decide), e337, e347]
            refine s_takes hL hE8.1.2.1 ho ?_
            obtain ⟨μ9, hμ9⟩ : ∃ μ9, μ9 = setr μ8 p_MO_free (tkF G.1 o (nI (r 6 l) - nI a) (μ8 p_MO_free)) := ⟨_, rfl⟩
            rw [← hμ9, i1]
            have s19 : Sm dW μ μ9 := s18.tr (by rw [hμ9]; exact Sm.set (by unfold dW; decide))
            have o19 : Oth i μ μ9 := o18.tr (by rw [hμ9]; exact Oth.sm (D := fun c => c = 42) (Sm.set rfl) (fun c hc => Or.inr (by have hc : c = 42 := hc; omega)))
            by_cases hoz : o = 0
            · rw [decide_eq_true hoz] at hc
              rw [hc]
              exact k4f (okf (hof hoz)) (l + 1) μ9 (by omega) s19 o19
            · rw [decide_eq_false hoz] at hc
              rw [hc]
              obtain ⟨hbb, hoe⟩ := hot hoz
              obtain ⟨hbn, haD⟩ := hbt hbb
              have hb1' : D.1 = b := wd1
              have hD1 : ¬ D.1 = 0 := by rw [hb1']; exact hbn
              -- the split line as the class finds it
              have hne : r 6 l - D.2 ≠ 0 := by
                intro hx
                have hDn : D.2 = r 6 l := by omega
                have hdg : D.1 = gw G.1 (μ1 p_MO_free) (Wof G r P l) D.2 := by
                  have : ∀ n, (dwn (gw G.1 (μ1 p_MO_free) (Wof G r P l)) n).1 ≠ 0 → (dwn (gw G.1 (μ1 p_MO_free) (Wof G r P l)) n).1 = gw G.1 (μ1 p_MO_free) (Wof G r P l) (dwn (gw G.1 (μ1 p_MO_free) (Wof G r P l)) n).2 := by
                    intro n
                    induction n with
                    | zero => intro hc; exact absurd rfl hc
                    | succ n ih =>
                      unfold dwn
                      split
                      · intro _; rfl
                      · split
                        · intro hc; exact absurd rfl hc
                        · exact ih
                  have h2 := this (r 6 l)
                  rw [← hD] at h2
                  exact h2 hD1
                rw [hDn, ← hw] at hdg
                exact hD1 hdg
              have hspo : spO G.1 (μ1 p_MO_free) (Wof G r P l) (r 6 l) D = o := by
                unfold spO
                rw [if_neg hne, hoe, hb1', haD]
              rw [hspo, decide_eq_false hD1, decide_eq_false hne, decide_eq_false hoz] at hspl
              have hf9 : μ9 p_MO_free = spF G.1 (Wof G r P) (r 6) F (l + 1) := by
                rw [hμ9, setr_self, kp8 p_MO_free (by decide), f7, hsF, hspl, nI_sub (by omega), haD, hb1']
              refine hnx ?_ μ9 s19 o19 (fun j hj => ?_) hf9 ?_
              · show (al _ l && (spR G.1 (Wof G r P) (r 6) F l).1) = true
                rw [hal, hspl]; rfl
              · by_cases hjl : j = l
                · subst hjl
                  unfold mWl
                  rw [s78.1, s78.2.1, s78.2.2, hspl]
                  refine ⟨?_, ?_, ?_⟩
                  · rw [hμ9, setr_ne (by decide), kp8 _ (by decide), kp7 _ (by decide) (by decide), e35, hb1']
                  · rw [hμ9, setr_ne (by decide), kp8 _ (by decide), e347, haD]
                  · rw [hμ9, setr_ne (by decide), e368]
                · refine hwj (fun c q1 q2 jj hjj => ?_) j (by omega)
                  rw [← z3 c q1 q2 jj hjj, hμ9, setr_ne (show c ≠ 42 by omega), hμ8]
                  have z5 : μ5 c jj = μ3 c jj := by
                    by_cases hc35 : c = 35
                    · subst hc35
                      rw [hμ5, show (35 : Nat) = p_MO_way from rfl, u_eq, d_ne hjj, hμ4, u_eq, d_ne hjj]
                    · rw [kp5 c hc35]
                  have z7 : μ7 c jj = μ5 c jj := by
                    rw [hμ7, setr_ne (show c ≠ 42 by omega), hμ6]
                    by_cases hc34 : c = 34
                    · subst hc34; rw [show (34 : Nat) = p_MO_amount from rfl, u_eq, d_ne hjj]
                    · rw [u_ne hc34]
                  by_cases hc36 : c = 36
                  · subst hc36; rw [show (36 : Nat) = p_MO_rest from rfl, u_eq, d_ne hjj, show p_MO_rest = 36 from rfl, z7, z5]
                  · rw [u_ne hc36, z7, z5]
              · rw [hμ9, setr_self, kp8 p_MO_free (by decide), f7, nI_sub (by omega)]
                have hk : 6 - 2 * l = (6 - 2 * (l + 1)) + 1 + 1 := by omega
                rw [hk] at hb1
                exact (hb1.tk ha h0).tk (by omega) h0
          by_cases hoz : o = 0
          · refine br_t hoz (k214 false (by rw [decide_eq_true hoz]; rfl))
          · exact br_f hoz (k214 true (by rw [decide_eq_false hoz]; rfl))
        cases hbb : bb with
        | false =>
          obtain ⟨hb0, ha0⟩ := hbf hbb
          refine br_t rfl (k199 0 (by omega) (fun hc => absurd rfl hc) (fun _ => ?_))
          rw [hspl, decide_eq_true (by rw [wd1]; exact hb0)]
          rfl
        | true =>
          obtain ⟨hbn, haD⟩ := hbt hbb
          refine br_f (by decide) ⟨hv3, hv3, ?_⟩
          rw [e337, e347, nI_sub (by omega)]
          have hfd7 : Fnd l (Wof G r P l) μ7 := by
            refine ⟨?_, fun j hj => ?_⟩
            · rw [kp7 _ (by decide) (by decide), kp5 _ (by decide)]; exact hfd3.1
            · rw [kp7 _ (by decide) (by decide), kp5 _ (by decide)]; exact hfd3.2 j hj
          refine s_fewest (by omega) hL hE7.1.2.1 (h9 l) h15 hfd7 ?_
          rw [f7]
          have hlt := lt512 hL (gw_lt (F := tkF G.1 b (nI a) (μ1 p_MO_free)) (h9 l) (r 6 l - a))
          refine k199 (gw G.1 (tkF G.1 b (nI a) (μ1 p_MO_free)) (Wof G r P l) (r 6 l - a)) hlt (fun _ => ⟨hbb, rfl⟩) (fun hz => ?_)
          have hD1 : ¬ D.1 = 0 := by rw [wd1]; exact hbn
          -- with the whole need there would have been a way
          have hne : r 6 l - D.2 ≠ 0 := by
            intro hx
            have hDn : D.2 = r 6 l := by omega
            have hbw := (wid_max (R := fun w => rmF (μ1 p_MO_free) w G.1) (Wof G r P l) 0 (fun w hw => (h9 l w hw).2) (fun hx => absurd rfl hx)).2 (by rw [← show wid (fun w => rmF (μ1 p_MO_free) w G.1) (Wof G r P l) = (Wof G r P l).foldl (wst1 fun w => rmF (μ1 p_MO_free) w G.1) 0 from rfl, ← hb]; exact hbn)
            obtain ⟨-, -, -, a4⟩ := hbw
            have hbl2 : b ∈ Wof G r P l := by
              rcases a4 with a4 | a4
              · exact absurd (hb.trans a4) hbn
              · rw [hb]; exact a4
            have hrm := wd2 hbn
            rw [hDn] at hrm
            have := fwp_min (h9 l) hbl2 (p := okF G.1 (μ1 p_MO_free) (nI (r 6 l))) ((ok_rm (by omega) G.1).2 (by rw [hrm, nI_toInt (by omega)]; exact Int.le_refl _))
            exact this.1 hw.symm
          have hspo : spO G.1 (μ1 p_MO_free) (Wof G r P l) (r 6 l) D = 0 := by
            unfold spO
            rw [if_neg hne, wd1, ← haD]
            exact hz
          rw [hspl, hspo, decide_eq_false hne]
          show (_ && (false || !decide ((0 : Nat) = 0))) = false
          simp
      by_cases hbz : b = 0
      · refine br_t hbz (h127 _ _ _ _ ?_)
        unfold F_X8_splits_127
        exact br_t rfl (k151 false 0 (by omega) (fun hc => by cases hc) (fun _ => ⟨hbz, rfl⟩))
      · refine br_f hbz (h127 _ _ _ _ ?_)
        unfold F_X8_splits_127
        refine br_f (by decide) ⟨hv3, ?_⟩
        rw [c3, e35]
        refine s_roomOf hL hE5.1.2.1 hbl ?_
        rw [f5, wd2 hbz]
        exact k151 true D.2 (by omega) (fun _ => ⟨hbz, rfl⟩) (fun hc => by cases hc)
    · refine rb_f hwz ⟨hv3, hv3, ?_⟩
      rw [u_ne (show p_MO_amount ≠ p_MO_way by decide), e34]
      obtain ⟨μ4, hμ4⟩ : ∃ μ4, μ4 = up2 μ3 p_MO_way (3 * i + l) (nI w) := ⟨_, rfl⟩
      rw [← hμ4]
      have s14 : Sm dW μ μ4 := s13.tr (by rw [hμ4]; exact Sm.up (by unfold dW; decide))
      have o14 : Oth i μ μ4 := o13.tr (by rw [hμ4]; exact Oth.up (fun hc => absurd hc (by decide)) (fun _ _ => by omega))
      have f4 : μ4 p_MO_free = μ1 p_MO_free := by rw [hμ4, u_ne (by decide)]; exact f3
      have hE4 := hE.fr s14 dE
      refine s_takes hL hE4.1.2.1 hwl ?_
      rw [f4, i1]
      have hfull : spR G.1 (Wof G r P) (r 6) F l = (true, w, r 6 l, 0) := by rw [eR, hw]; exact gw_full b4 (by rw [← hw]; exact hwz)
      rw [hfull] at hsF s78
      obtain ⟨μ5, hμ5⟩ : ∃ μ5, μ5 = setr μ4 p_MO_free (tkF G.1 w (nI (r 6 l)) (μ1 p_MO_free)) := ⟨_, rfl⟩
      rw [← hμ5]
      refine hnx ?_ μ5 (s14.tr (by rw [hμ5]; exact Sm.set (by unfold dW; decide))) (o14.tr (by rw [hμ5]; exact Oth.sm (D := fun c => c = 42) (Sm.set rfl) (fun c hc => Or.inr (by have hc : c = 42 := hc; omega)))) (fun j hj => ?_) ?_ ?_
      · show (al _ l && (spR G.1 (Wof G r P) (r 6) F l).1) = true
        rw [hal, hfull]; rfl
      · by_cases hjl : j = l
        · subst hjl
          unfold mWl
          rw [s78.1, s78.2.1, s78.2.2]
          refine ⟨?_, ?_, ?_⟩
          · rw [hμ5, setr_ne (by decide), hμ4, u_eq, d_eq]
          · rw [hμ5, setr_ne (by decide), hμ4, u_ne (by decide), e34]
          · rw [hμ5, setr_ne (by decide), hμ4, u_ne (by decide), e36]; rfl
        · refine hwj (fun c q1 q2 jj hjj => ?_) j (by omega)
          rw [← z3 c q1 q2 jj hjj, hμ5, setr_ne (show c ≠ 42 by omega), hμ4]
          by_cases hc35 : c = 35
          · subst hc35; rw [show (35 : Nat) = p_MO_way from rfl, u_eq, d_ne hjj]
          · rw [u_ne hc35]
      · rw [hμ5, setr_self, hsF]
        dsimp only
        rw [tkF_0]
      · rw [hμ5, setr_self]
        have hk : 6 - 2 * l = (6 - 2 * (l + 1)) + 1 + 1 := by omega
        rw [hk] at hb1
        exact (hb1.tk b5 h0).dn
