theorem updR_self (S : St) (i : Nat) : updR S i (S.2.2 i) = S := by
  obtain ⟨a, b, R⟩ := S
  unfold updR
  have : (fun j => if j = i then R i else R j) = R := by
    funext j
    by_cases hj : j = i
    · rw [if_pos hj, hj]
    · rw [if_neg hj]
  exact congrArg (fun x => (a, b, x)) this
/-- cells that say nothing of the draft, or only what was found for it -/
def dD (c : Nat) : Prop := c = 30 ∨ (34 ≤ c ∧ c ≤ 37) ∨ c = 39 ∨ c = 40 ∨ (41 ≤ c ∧ c ≤ 51)
theorem mInv.oth {S : St} {μ μ2 : Mm} (h : mInv S μ) (hG : Good S) (hs : Sm dD μ μ2) (ho : Oth (nRq S) μ μ2) : mInv S μ2 := by
  have k : ∀ c, ¬ dD c → μ2 c = μ c := fun c hc => hs c hc
  have := h.dft (r := S.2.2 (nRq S)) hG (fun j _ => by rw [k p_MO (by unfold dD; decide)]) (fun c h1 h2 => k c (by unfold dD; omega)) ho (by
    have hq := h.2.2.2.1 _ hG.n
    unfold mQ at *
    rw [k p_MO_parts (by unfold dD; decide), k p_MO_lines (by unfold dD; decide), k p_MO_hasEnded (by unfold dD; decide), k p_MO_partNeed (by unfold dD; decide), k p_MO_partSet (by unfold dD; decide), k p_MO_lineFrom (by unfold dD; decide), k p_MO_lineTo (by unfold dD; decide), k p_MO_lineNeed (by unfold dD; decide)]
    exact hq)
  rw [updR_self] at this
  exact this
theorem dD.m {μ μ2 : Mm} (h : Sm dD μ μ2) : Sm mCell μ μ2 := Sm.mono h (fun c hc => by unfold dD at hc; unfold mCell; omega)
def sRq (S : St) (c : Nat) : Rq := spQ S.1.1 (Wof S.1 (dft S) (Pc c)) (dft S) (Pc c) (lfL S)
def spS (S : St) : Option Nat := allS S.1 (nNd S) (lfN S) (lfL S) (dft S)
theorem Good.lf_ge2 {S : St} (h : Good S) : ∀ k, k < nLk S → (-4000 : Int) ≤ (lfL S k).toInt := fun k hk => by
  rw [h.lf hk]
  have h2 := h.nd k
  have h3 := h.rs k
  omega
theorem s_placesSplit {S : St} {μ : Mm} {q : Bool → Mm → Prop} (hG : Good S) (hI : mInv S μ) (hR : RM S μ) (hr1 : 1 ≤ dft S 0 10)
    (h : ∀ μ2, mInv S μ2 → Sm dD μ μ2 → μ2 37 = μ 37 → (∀ c, spS S = some c → gdC (nNd S) (lfN S) (dft S) (Pc c) = true ∧ okL S.1.1 (Wof S.1 (dft S) (Pc c)) (dft S) (lfL S) = true ∧ mA (nRq S) (sRq S c) μ2 ∧ ∀ l, l < dft S 0 11 → mWl (nRq S) (sRq S c) l μ2) → q (spS S).isSome μ2) : Wp_X8_placesSplit μ q := by
  have hn := hG.n
  have hr := hG.d hn
  have h10 := hr.1
  have h10' : dft S 0 10 ≤ 3 := hr.1
  have hL := hG.L
  obtain ⟨gi, hgi⟩ : ∃ gi, gi = fun c => if tzC (dft S) c = true then spC S.1 (nNd S) (lfN S) (lfL S) (dft S) c else [] := ⟨_, rfl⟩
  have hall : spS S = ((List.range 216).flatMap gi).head? := by rw [hgi]; rfl
  rw [hall] at h
  unfold Wp_X8_placesSplit
  intro K2 K26 h2 h26
  unfold F_X8_placesSplit_e
  refine dn (P := fun c => ∀ μ2, mInv S μ2 → RM S μ2 → Sm dD μ μ2 → μ2 37 = μ 37 → (List.range c).flatMap gi = [] → K2 (nI c) μ2) (n := 216) ?_ ?_ μ hI hR Sm.rf rfl rfl
  · intro μ2 hI2 _ s2 e37 hn2
    refine h2 _ _ ?_
    unfold F_X8_placesSplit_2
    refine br_t (by decide) ?_
    rw [hn2] at h
    exact h μ2 hI2 s2 e37 (fun c hc => by cases hc)
  · intro c hc hnx μ2 hI2 hR2 s2 e37 hn2
    refine h2 _ _ ?_
    unfold F_X8_placesSplit_2
    refine br_f (not_le_nI (n := 216) hc (by omega)) ?_
    have hE2 := hI2.env hG
    rw [i1]
    refine s_chooses (nN := nNd S) (L := lfN S) hn hr hG.1 hE2 hI2.1.2.1 hR2.1 hc (fun μ3 s3 hT3 => ?_)
    have s3D : Sm dD μ2 μ3 := s3.mono (fun x hx => by have hx : x = 48 := hx; unfold dD; omega)
    have s23 := s2.tr s3D
    have hI3 : mInv S μ3 := hI2.oth hG s3D (Oth.sm s3 (fun x hx => by have hx : x = 48 := hx; omega))
    have hR3 : RM S μ3 := by
      obtain ⟨r1, r2⟩ := hR2
      exact ⟨fun v hv => by rw [s3 p_MO_left (by decide)]; exact r1 v hv, fun k hk => by rw [s3 p_MO_free (by decide)]; exact r2 k hk⟩
    have e373 : μ3 37 = μ 37 := by rw [s3 37 (by decide)]; exact e37
    have hgic : gi c = if tzC (dft S) c = true then spC S.1 (nNd S) (lfN S) (lfL S) (dft S) c else [] := by rw [hgi]
    refine bq (fun hb => ?_) (fun hb => ?_)
    · refine hnx μ3 hI3 hR3 s23 e373 (range_next gi hn2 ?_)
      rw [hgic]
      cases htz : tzC (dft S) c with
      | false => rfl
      | true =>
        rw [show tzC (S.2.2 (nRq S)) c = true from htz, Bool.true_and] at hb
        rw [if_pos rfl]
        unfold spC
        rw [show gdC (nNd S) (lfN S) (dft S) (Pc c) = false from hb, Bool.false_and, if_neg (by decide)]
    · rw [Bool.and_eq_true] at hb
      obtain ⟨hP6, hPd, -⟩ := gd_nodes hG.1 hb.2
      have hLw : Lw S.1.1 (lfL S) 6 (μ3 p_MO_free) := fun k hk => by
        rw [hR3.2 k hk]
        have := hG.lf_ge2 k hk
        omega
      refine s_splits (F0 := lfL S) hG.2.2.1 hn hr (hI3.env hG) hT3 hP6 hPd (fun k hk => by have := hG.lf_le k hk; omega) hLw (fun μ4 s4 o4 hw4 => ?_)
      rw [okL_congr hR3.2] at hw4 ⊢
      have s4D : Sm dD μ3 μ4 := s4.mono (fun x hx => by unfold dW at hx; unfold dD; omega)
      have s24 := s23.tr s4D
      have hI4 : mInv S μ4 := hI3.oth hG s4D o4
      have e374 : μ4 37 = μ 37 := by rw [s4 37 (by unfold dW; omega)]; exact e373
      rw [if_pos (show tzC (dft S) c = true from hb.1)] at hgic
      unfold spC at hgic
      rw [show gdC (nNd S) (lfN S) (dft S) (Pc c) = true from hb.2, Bool.true_and] at hgic
      refine bq (fun hk => ?_) (fun hk => ?_)
      · rw [if_neg (by rw [show okL S.1.1 (Wof S.1 (dft S) (Pc c)) (dft S) (lfL S) = false from hk]; decide)] at hgic
        refine r_sums hG hI4 (fun μ5 f5 hR5 hI5 => ?_)
        have s5D : Sm dD μ4 μ5 := Sm.mono f5 (fun x hx => by unfold dD; rcases hx with rfl | rfl <;> decide)
        exact hnx μ5 hI5 hR5 (s24.tr s5D) (by rw [f5 37 (by decide)]; exact e374) (range_next gi hn2 hgic)
      · rw [if_pos (show okL S.1.1 (Wof S.1 (dft S) (Pc c)) (dft S) (lfL S) = true from hk)] at hgic
        rw [head_at gi hc hn2 hgic] at h
        have hw4 := hw4 hk
        rw [spQ_congr hR3.2] at hw4
        have hT4 : ∀ k, k < 3 → μ4 p_MO_tries k = nI (Pc c k) := fun k hk => by rw [s4 p_MO_tries (by unfold dW; decide)]; exact hT3 k hk
        refine dn (P := fun k => ∀ μ5, Sm (fun c => c = 30) μ4 μ5 → Oth (nRq S) μ4 μ5 → (∀ j, j < k → μ5 p_MO_at (3 * nRq S + j) = nI (Pc c j)) → K26 (nI k) μ5) (n := dft S 0 10) ?_ ?_ μ4 Sm.rf Oth.rf (fun j hj => by omega)
        · intro μ5 s5 o5 hat
          refine h26 _ _ ?_
          unfold F_X8_placesSplit_26
          have s5D : Sm dD μ4 μ5 := s5.mono (fun x hx => Or.inl hx)
          have hI5 : mInv S μ5 := hI4.oth hG s5D o5
          rw [show μ5 p_MO 8 = nI (nRq S) from hI5.2.1, nI_clamp (by omega), (hI5.2.2.2.1 _ hn).1]
          refine ⟨inN (by omega) (by omega), br_t (le_nI (Nat.le_refl _) (by omega)) ?_⟩
          refine h μ5 hI5 (s24.tr s5D) (by rw [s5 37 (by decide)]; exact e374) (fun c2 hc2 => ?_)
          cases hc2
          refine ⟨hb.2, hk, fun k hk2 => ?_, fun l hl => ?_⟩
          · have hk2 : k < dft S 0 10 := hk2
            exact hat k hk2
          · obtain ⟨v1, v2, v3⟩ := hw4 l hl
            unfold mWl
            rw [s5 p_MO_way (by decide), s5 p_MO_amount (by decide), s5 p_MO_rest (by decide)]
            exact ⟨v1, v2, v3⟩
        · intro k hk2 hnk μ5 s5 o5 hat
          refine h26 _ _ ?_
          unfold F_X8_placesSplit_26
          have s5D : Sm dD μ4 μ5 := s5.mono (fun x hx => Or.inl hx)
          have hI5 : mInv S μ5 := hI4.oth hG s5D o5
          have hk2' : k < S.2.2 (nRq S) 0 10 := hk2
          rw [show μ5 p_MO 8 = nI (nRq S) from hI5.2.1, nI_clamp (by omega), (hI5.2.2.2.1 _ hn).1, nI_pk3, nI_add, nI_clamp (show k < 2 ^ 31 by omega), nI_clamp (show 3 * nRq S + k < 2 ^ 31 by omega)]
          refine ⟨inN (by omega) (by omega), br_f (not_le_nI hk2 (by omega)) ⟨inN (by omega) (by omega), inN (by omega) (by omega), ?_⟩⟩
          rw [i1, s5 p_MO_tries (by decide), hT4 k (by omega)]
          refine hnk _ (s5.tr (Sm.up rfl)) (o5.tr (Oth.up (fun hc => absurd hc (by decide)) (fun _ _ => by omega))) (fun j hj => ?_)
          rw [u_eq]
          by_cases hjk : j = k
          · subst hjk; rw [d_eq]
          · rw [d_ne (by omega)]; exact hat j (by omega)
