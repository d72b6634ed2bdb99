/-! the reference places -/
theorem s_placesLeast {S : St} {y : Mp} {μ : Mm} {q : Mm → Prop} (hG : Good S) (hI : mInv S μ) (hB : HMb (some y) μ) (h : ∀ μ2, mInv S μ2 → Sm dD μ μ2 → mA (nRq S) (lsQ (dft S) y) μ2 → mW (nRq S) (lsQ (dft S) y) μ2 → q μ2) : Wp_X8_placesLeast μ q := by
  have hn := hG.n
  have hd := hG.d hn
  have h10 : dft S 0 10 ≤ 3 := hd.1
  have h11 : dft S 0 11 ≤ 3 := hd.2.1
  obtain ⟨-, hB2⟩ := hB
  unfold Wp_X8_placesLeast
  intro K2 h2
  unfold F_X8_placesLeast_e
  have dDD : ∀ c, (fun c => c = 30 ∨ (34 ≤ c ∧ c ≤ 37)) c → dD c := fun c hc => by unfold dD; rcases hc with hc | hc <;> omega
  refine dn (P := fun k => ∀ μ1, Sm (fun c => c = 30 ∨ (34 ≤ c ∧ c ≤ 37)) μ μ1 → Oth (nRq S) μ μ1 → (∀ j, j < k → μ1 p_MO_at (3 * nRq S + j) = nI (y.2.1 j) ∧ μ1 p_MO_way (3 * nRq S + j) = nI (y.2.2 j) ∧ (j < dft S 0 11 → μ1 p_MO_amount (3 * nRq S + j) = nI (dft S 6 j)) ∧ μ1 p_MO_rest (3 * nRq S + j) = 0 ∧ μ1 p_MO_second (3 * nRq S + j) = 0) → K2 (nI k) μ1) (n := 3) ?_ ?_ μ Sm.rf Oth.rf (fun j hj => by omega)
  · intro μ1 s1 o1 hm
    refine h2 _ _ ?_
    unfold F_X8_placesLeast_2
    refine br_t (by decide) (h μ1 (hI.oth hG (s1.mono dDD) o1) (s1.mono dDD) (fun k hk => ?_) (fun l hl => ?_))
    · rw [lsQ_x (by omega)] at hk
      exact (hm k (by omega)).1
    · rw [lsQ_x (by omega)] at hl
      obtain ⟨m1, m2, m3, m4, m5⟩ := hm l (by omega)
      exact ⟨m2, m3 hl, m4, m5⟩
  · intro k hk hnx μ1 s1 o1 hm
    refine h2 _ _ ?_
    unfold F_X8_placesLeast_2
    have hI1 := hI.oth hG (s1.mono dDD) o1
    have v39 : vp_in (nI (3 * nRq S + k)) 39 := inN (by omega) (by omega)
    have v3 : vp_in (nI k) 3 := inN (by omega) (by omega)
    rw [show μ1 p_MO 8 = nI (nRq S) from hI1.2.1, nI_pk3, nI_add, nI_clamp (show 3 * nRq S + k < 2 ^ 31 by omega), nI_clamp (show k < 2 ^ 31 by omega), u_ne (show p_MO_bestWay ≠ p_MO_at by decide), u_ne (show p_MO_lineNeed ≠ p_MO_way by decide), u_ne (show p_MO_lineNeed ≠ p_MO_at by decide)]
    refine br_f (not_le_nI (n := 3) hk (by omega)) ⟨v3, v39, v3, v39, v39, v39, v39, v39, ?_⟩
    rw [i1, show μ1 p_MO_bestAt = μ p_MO_bestAt from s1 _ (by decide), show μ1 p_MO_bestWay = μ p_MO_bestWay from s1 _ (by decide), (hB2 k hk).1, (hB2 k hk).2]
    obtain ⟨μ2, hμ2⟩ : ∃ μ2, μ2 = up2 (up2 (up2 (up2 (up2 μ1 p_MO_at (3 * nRq S + k) (nI (y.2.1 k))) p_MO_way (3 * nRq S + k) (nI (y.2.2 k))) p_MO_amount (3 * nRq S + k) (μ1 p_MO_lineNeed (3 * nRq S + k))) p_MO_rest (3 * nRq S + k) (0 : Int32)) p_MO_second (3 * nRq S + k) (0 : Int32) := ⟨_, rfl⟩
    rw [← hμ2]
    refine hnx μ2 (s1.tr ?_) (o1.tr ?_) (fun j hj => ?_)
    · rw [hμ2]
      exact ((((Sm.up (by decide)).tr (Sm.up (by decide))).tr (Sm.up (by decide))).tr (Sm.up (by decide))).tr (Sm.up (by decide))
    · rw [hμ2]
      have ou : ∀ (c : Nat) (v : Int32) (m : Mm), 28 ≤ c → c < 38 → Oth (nRq S) m (up2 m c (3 * nRq S + k) v) := fun c v m c1 c2 => Oth.up (fun hc => by omega) (fun _ _ => by omega)
      exact ((((ou _ _ _ (by decide) (by decide)).tr (ou _ _ _ (by decide) (by decide))).tr (ou _ _ _ (by decide) (by decide))).tr (ou _ _ _ (by decide) (by decide))).tr (ou _ _ _ (by decide) (by decide))
    · have e30 : μ2 p_MO_at = upd (μ1 p_MO_at) (3 * nRq S + k) (nI (y.2.1 k)) := by rw [hμ2, u_ne (by decide), u_ne (by decide), u_ne (by decide), u_ne (by decide), u_eq]
      have e35 : μ2 p_MO_way = upd (μ1 p_MO_way) (3 * nRq S + k) (nI (y.2.2 k)) := by rw [hμ2, u_ne (by decide), u_ne (by decide), u_ne (by decide), u_eq, u_ne (by decide)]
      have e34 : μ2 p_MO_amount = upd (μ1 p_MO_amount) (3 * nRq S + k) (μ1 p_MO_lineNeed (3 * nRq S + k)) := by rw [hμ2, u_ne (by decide), u_ne (by decide), u_eq, u_ne (by decide), u_ne (by decide)]
      have e36 : μ2 p_MO_rest = upd (μ1 p_MO_rest) (3 * nRq S + k) 0 := by rw [hμ2, u_ne (by decide), u_eq, u_ne (by decide), u_ne (by decide), u_ne (by decide)]
      have e37 : μ2 p_MO_second = upd (μ1 p_MO_second) (3 * nRq S + k) 0 := by rw [hμ2, u_eq, u_ne (by decide), u_ne (by decide), u_ne (by decide), u_ne (by decide)]
      rw [e30, e35, e34, e36, e37]
      by_cases hjk : j = k
      · subst hjk
        rw [d_eq, d_eq, d_eq, d_eq, d_eq]
        exact ⟨rfl, rfl, fun hl => ((hI1.2.2.2.1 _ hn).2.2.2.2 j hl).2.2, rfl, rfl⟩
      · rw [d_ne (by omega), d_ne (by omega), d_ne (by omega), d_ne (by omega), d_ne (by omega)]
        exact hm j (by omega)
theorem rr_place {S : St} {x y : Int32} {μ : Mm} {q : Int32 → Mm → Prop} (hG : Good S) (hI : mInv S μ) (h : rE (o_place S x y) μ q) : Wp_X8_place x y μ q := by
  have hn := hG.n
  have hd := hG.d hn
  have h10 : dft S 0 10 ≤ 3 := hd.1
  have h12 := hG.2.1
  have h8 : μ p_MO 8 = nI (nRq S) := hI.2.1
  unfold o_place at h
  unfold Wp_X8_place
  intro K24 K60 K96 K165 h24 h60 h96 h165
  unfold F_X8_place_e
  have k24f : (rg 0 2 x && rg 1 100 y) = false → K24 x y 0 μ := by
    intro hf
    rw [if_neg (by rw [hf]; decide)] at h
    refine h24 _ _ _ _ ?_
    unfold F_X8_place_24
    refine rb_t rfl (h60 _ _ _ _ ?_)
    unfold F_X8_place_60
    refine s_can ?_
    exact ⟨fun hc => absurd rfl hc, fun _ => h.no (by decide) hI⟩
  have k24t : (rg 0 2 x && rg 1 100 y) = true → K24 x y 1 μ := by
    intro ht
    rw [if_pos ht] at h
    rw [Bool.and_eq_true] at ht
    obtain ⟨-, xb, xe⟩ := rg_ex (a := 0) (b := 2) (by omega) (by omega) (show rg (nI 0) (nI 2) x = true from ht.1)
    obtain ⟨ya, yb, ye⟩ := rg_ex (a := 1) (b := 100) (by omega) (by omega) ht.2
    obtain ⟨a, ha⟩ : ∃ a, a = toN x := ⟨_, rfl⟩
    obtain ⟨b, hbb⟩ : ∃ b, b = toN y := ⟨_, rfl⟩
    rw [← ha] at xb xe h
    rw [← hbb] at ya yb ye h
    refine h24 _ _ _ _ ?_
    unfold F_X8_place_24
    refine rb_f (by decide) ?_
    rw [h8, show (12 : Int32) = nI 12 from rfl, e1 (by omega) (by omega)]
    by_cases hn12 : nRq S = 12
    · rw [if_pos (Or.inl hn12)] at h
      refine br_t hn12 (h60 _ _ _ _ ?_)
      unfold F_X8_place_60
      refine s_can ?_
      exact ⟨fun hc => absurd rfl hc, fun _ => h.no (by decide) hI⟩
    refine br_f hn12 ⟨inN (by omega) (by omega), ?_⟩
    rw [nI_clamp (by omega), (hI.2.2.2.1 _ hn).1, e0 (by show S.2.2 (nRq S) 0 10 < _; have := hd.1; omega)]
    by_cases hz : dft S 0 10 = 0
    · rw [if_pos (Or.inr hz)] at h
      refine rb_t hz (h60 _ _ _ _ ?_)
      unfold F_X8_place_60
      refine s_can ?_
      exact ⟨fun hc => absurd rfl hc, fun _ => h.no (by decide) hI⟩
    rw [if_neg (fun hx => hx.elim hn12 hz)] at h
    refine rb_f hz (h60 _ _ _ _ ?_)
    unfold F_X8_place_60
    refine s_can ?_
    refine ⟨fun _ => ?_, fun hc => absurd hc (by decide)⟩
    -- at the end
    have k165n : plc S a = none → ∀ μ1, mInv S μ1 → Sm mCell μ μ1 → μ1 p_MO 35 = 0 → K165 x y 0 μ1 := by
      intro hp μ1 hI1 s1 t1
      rw [hp] at h
      refine h165 _ _ _ _ ?_
      unfold F_X8_place_165
      exact rb_t rfl (h.ok hI1 s1 t1)
    have k165s : ∀ r, plc S a = some r → ∀ μ1, mInv S μ1 → Sm mCell μ μ1 → μ1 p_MO 35 = 0 → mA (nRq S) r μ1 → mW (nRq S) r μ1 → K165 x y 1 μ1 := by
      intro r hp μ1 hI1 s1 t1 hA1 hW1
      rw [hp] at h
      have hR := plc_ok hG hp
      refine h165 _ _ _ _ ?_
      unfold F_X8_place_165
      refine rb_f (by decide) ?_
      have e81 : μ1 p_MO 8 = nI (nRq S) := hI1.2.1
      have e01 : μ1 p_MO 0 = nI (tkS S) := hI1.2.2.1
      rw [u_ne (show p_MO ≠ p_MO_manner by decide), u_ne (show p_MO ≠ p_MO_time by decide), u_ne (show p_MO ≠ p_MO_manner by decide), e81, e01, i1]
      rw [nI_clamp (show nRq S < 2 ^ 31 by omega)]
      rw [u_ne (show p_MO ≠ p_MO_parts by decide), u_ne (show p_MO ≠ p_MO_lines by decide), u_ne (show p_MO ≠ p_MO_parts by decide), u_eq, d_eq, nI_clamp (show nRq S + 1 < 2 ^ 31 by omega), show nI (nRq S + 1) - (1 : Int32) = nI (nRq S) from nI_pred _]
      have v13 : vp_in (nI (nRq S)) 13 := inN (by omega) (by omega)
      have v13' : vp_in (nI (nRq S + 1)) 13 := inN (by omega) (by omega)
      refine ⟨v13, v13, v13', v13', ?_⟩
      rw [xe, ye, nI_add]
      obtain ⟨μ2, hμ2⟩ : ∃ μ2, μ2 = up2 (up2 (up2 (up2 (up2 μ1 p_MO_manner (nRq S) (nI a)) p_MO_time (nRq S) (nI (tkS S + b))) p_MO 8 (nI (nRq S + 1))) p_MO_parts (nRq S + 1) (0 : Int32)) p_MO_lines (nRq S + 1) (0 : Int32) := ⟨_, rfl⟩
      rw [← hμ2]
      have e : ∀ c, c ≠ 6 → c ≠ 26 → c ≠ 27 → c ≠ 39 → c ≠ 40 → μ2 c = μ1 c := fun c p1 p2 p3 p4 p5 => by rw [hμ2, u_ne p3, u_ne p2, u_ne p1, u_ne p5, u_ne p4]
      have e6 : ∀ j, j ≠ 8 → μ2 p_MO j = μ1 p_MO j := fun j hj => by rw [hμ2, u_ne (by decide), u_ne (by decide), u_eq, d_ne hj, u_ne (by decide), u_ne (by decide)]
      have s2 : Sm mCell μ μ2 := s1.tr (fun c hc => e c (by unfold mCell at hc; omega) (by unfold mCell at hc; omega) (by unfold mCell at hc; omega) (by unfold mCell at hc; omega) (by unfold mCell at hc; omega))
      have z1 := hG.2.2.2.2.2.2.2.2.2.2 (nRq S + 1) (by omega) (by omega)
      have e26 : ∀ j, j < 13 → μ2 p_MO_parts j = μ1 p_MO_parts j := fun j hj => by
        rw [hμ2, u_ne (by decide), u_eq]
        by_cases hjn : j = nRq S + 1
        · rw [hjn, d_eq, (hI1.2.2.2.1 (nRq S + 1) (by omega)).1, z1.1]; rfl
        · rw [d_ne hjn, u_ne (by decide), u_ne (by decide), u_ne (by decide)]
      have e27 : ∀ j, j < 13 → μ2 p_MO_lines j = μ1 p_MO_lines j := fun j hj => by
        rw [hμ2, u_eq]
        by_cases hjn : j = nRq S + 1
        · rw [hjn, d_eq, (hI1.2.2.2.1 (nRq S + 1) (by omega)).2.1, z1.2]; rfl
        · rw [d_ne hjn, u_ne (by decide), u_ne (by decide), u_ne (by decide), u_ne (by decide)]
      have e39 : ∀ j, μ2 p_MO_manner j = upd (μ1 p_MO_manner) (nRq S) (nI a) j := fun j => by rw [hμ2, u_ne (by decide), u_ne (by decide), u_ne (by decide), u_ne (by decide), u_eq]
      have e40 : ∀ j, μ2 p_MO_time j = upd (μ1 p_MO_time) (nRq S) (nI (tkS S + b)) j := fun j => by rw [hμ2, u_ne (by decide), u_ne (by decide), u_ne (by decide), u_eq, u_ne (by decide)]
      have mq : ∀ j r2, j < 13 → mQ j r2 μ1 → mQ j r2 μ2 := by
        intro j r2 hj hq
        unfold mQ at *
        rw [e26 j hj, e27 j hj, e p_MO_hasEnded (by decide) (by decide) (by decide) (by decide) (by decide), e p_MO_partNeed (by decide) (by decide) (by decide) (by decide) (by decide), e p_MO_partSet (by decide) (by decide) (by decide) (by decide) (by decide), e p_MO_lineFrom (by decide) (by decide) (by decide) (by decide) (by decide), e p_MO_lineTo (by decide) (by decide) (by decide) (by decide) (by decide), e p_MO_lineNeed (by decide) (by decide) (by decide) (by decide) (by decide)]
        exact hq
      have ma : ∀ j r2, mA j r2 μ1 → mA j r2 μ2 := by
        intro j r2 hq
        unfold mA at *
        rw [e p_MO_at (by decide) (by decide) (by decide) (by decide) (by decide)]
        exact hq
      have mw : ∀ j r2, mW j r2 μ1 → mW j r2 μ2 := by
        intro j r2 hq
        unfold mW at *
        rw [e p_MO_way (by decide) (by decide) (by decide) (by decide) (by decide), e p_MO_amount (by decide) (by decide) (by decide) (by decide) (by decide), e p_MO_rest (by decide) (by decide) (by decide) (by decide) (by decide), e p_MO_second (by decide) (by decide) (by decide) (by decide) (by decide)]
        exact hq
      obtain ⟨⟨⟨gg1, gg2, gg3, gg4⟩, g2, g3, g4⟩, hh3, hh4, hh5, hh6⟩ := hI1
      refine h.ok ⟨⟨⟨gg1, by rw [e6 3 (by decide)]; exact gg2, fun k hk => by rw [e p_MO_one (by decide) (by decide) (by decide) (by decide) (by decide), e p_MO_other (by decide) (by decide) (by decide) (by decide) (by decide)]; exact gg3 k hk, fun k hk => by rw [e p_MO_hasFailed (by decide) (by decide) (by decide) (by decide) (by decide)]; exact gg4 k hk⟩, by rw [e6 1 (by decide)]; exact g2, fun v hv => by rw [e p_MO_nodeRoom (by decide) (by decide) (by decide) (by decide) (by decide)]; exact g3 v hv, fun k hk => by rw [e p_MO_linkRoom (by decide) (by decide) (by decide) (by decide) (by decide)]; exact g4 k hk⟩, ?_, ?_, fun j hj => ?_, fun j hj => ?_⟩ s2 (by rw [e6 35 (by decide)]; exact t1)
      · rw [hμ2, u_ne (by decide), u_ne (by decide), u_eq, d_eq]; rfl
      · rw [e6 0 (by decide)]; exact hh4
      · by_cases hjn : j = nRq S
        · subst hjn
          rw [pcS_n]
          have hq := mq _ _ hj (hR.1.mq (hh5 _ hn))
          unfold mQ at *
          simp only [fnR_x (S := S) (r := r) (m := a) (t := b) (x := 0) (y := 10) (by omega), fnR_x (S := S) (r := r) (m := a) (t := b) (x := 0) (y := 11) (by omega), fnR_x (S := S) (r := r) (m := a) (t := b) (x := 0) (y := 14) (by omega), fnR_x (S := S) (r := r) (m := a) (t := b) (x := 1) (by omega), fnR_x (S := S) (r := r) (m := a) (t := b) (x := 2) (by omega), fnR_x (S := S) (r := r) (m := a) (t := b) (x := 4) (by omega), fnR_x (S := S) (r := r) (m := a) (t := b) (x := 5) (by omega), fnR_x (S := S) (r := r) (m := a) (t := b) (x := 6) (by omega)]
          exact hq
        · rw [pcS_ne hjn]
          exact mq _ _ hj (hh5 j hj)
      · have hj : j < nRq S + 1 := hj
        by_cases hjn : j = nRq S
        · subst hjn
          rw [pcS_n]
          refine ⟨fun k hk => ?_, fun l hl => ?_, ?_, ?_⟩
          · rw [fnR_x (by omega)] at hk
            rw [fnR_x (by omega)]
            exact ma _ _ hA1 k hk
          · rw [fnR_x (by omega)] at hl
            rw [fnR_x (x := 7) (by omega), fnR_x (x := 8) (by omega), fnR_x (x := 9) (by omega), fnR_x (x := 10) (by omega)]
            exact mw _ _ hW1 l hl
          · rw [fnR_12, e39, d_eq]
          · rw [fnR_13, e40, d_eq]
        · rw [pcS_ne hjn]
          obtain ⟨c1, c2, c3, c4⟩ := hh6 j (by omega)
          exact ⟨ma _ _ c1, mw _ _ c2, by rw [e39, d_ne hjn]; exact c3, by rw [e40, d_ne hjn]; exact c4⟩
    refine r_sums hG hI.can (fun μ1 f1 hR1 hI1 => ?_)
    have s01 : Sm mCell μ μ1 := Sm.tr (Sm.up (Or.inl rfl)) (frR.m f1)
    have t01 : μ1 p_MO 35 = 0 := by rw [show μ1 p_MO = _ from f1 6 (by decide), u_eq, d_eq]
    refine r_least (any := false) hG hI1 hR1 (by omega) (fun μ2 B hB hRB hs => ?_)
    have hBb : B = best S := hRB.b0 (by decide)
    have hI2 : mInv S μ2 := hI1.dL hs
    have hR2 : RM S μ2 := ⟨fun v hv => by rw [hs p_MO_left (by unfold dL; decide)]; exact hR1.1 v hv, fun k hk => by rw [hs p_MO_free (by unfold dL; decide)]; exact hR1.2 k hk⟩
    have s02 := s01.tr (dL.m hs)
    have t02 : μ2 p_MO 35 = 0 := by rw [hs p_MO (by unfold dL; decide)]; exact t01
    have k96 : K96 x y (bI B.isSome) (nI (3 * nRq S + 0)) μ2 := by
      refine dn (P := fun j => ∀ μ3, mInv S μ3 → RM S μ3 → HMb B μ3 → Sm mCell μ μ3 → μ3 p_MO 35 = 0 → (∀ i, i < j → μ3 p_MO_second (3 * nRq S + i) = 0) → K96 x y (bI B.isSome) (nI (3 * nRq S + j)) μ3) (n := 3) ?_ ?_ μ2 hI2 hR2 hB s02 t02 (fun i hi => by omega)
      · intro μ3 hI3 hR3 hB3 s3 t3 hz3
        refine h96 _ _ _ _ _ ?_
        unfold F_X8_place_96
        rw [show μ3 p_MO 8 = nI (nRq S) from hI3.2.1, nI_pk3, show (3 : Int32) = nI 3 from rfl, nI_add]
        refine br_t (le_nI (Nat.le_refl _) (by omega)) ?_
        have h11 : dft S 0 11 ≤ 3 := hd.2.1
        cases hBc : B with
        | none =>
          refine br_t rfl ?_
          have hbn : best S = none := by rw [← hBb, hBc]
          rw [xe, show (1 : Int32) = nI 1 from rfl, e1 (by omega) (by omega)]
          by_cases ha1 : a = 1
          · have hpl : plc S a = (spS S).map (sRq S) := by unfold plc; rw [hbn]; dsimp only; rw [if_pos ha1]
            refine rb_t ha1 ?_
            rw [← xe]
            refine s_placesSplit hG hI3 hR3 (by omega) (fun μ4 hI4 s4 e37 hsp => ?_)
            have s4m := s3.tr (dD.m s4)
            have t4 : μ4 p_MO 35 = 0 := by rw [s4 p_MO (by unfold dD; decide)]; exact t3
            cases hspc : spS S with
            | none =>
              rw [hspc] at hpl
              exact k165n hpl μ4 hI4 s4m t4
            | some c =>
              rw [hspc] at hpl
              obtain ⟨-, -, hA4, hw4⟩ := hsp c hspc
              refine k165s (sRq S c) hpl μ4 hI4 s4m t4 hA4 (fun l hl => ?_)
              rw [sRq_agr S c 0 11 (by omega)] at hl
              obtain ⟨v1, v2, v3⟩ := hw4 l hl
              refine ⟨v1, v2, v3, ?_⟩
              rw [show μ4 p_MO_second = μ3 p_MO_second from e37, hz3 l (by omega)]
              rfl
          · have hpl : plc S a = none := by unfold plc; rw [hbn]; dsimp only; rw [if_neg ha1]
            refine rb_f ha1 ?_
            rw [← xe]
            exact k165n hpl μ3 hI3 s3 t3
        | some yy =>
          refine br_f (fun hx => absurd (show (1 : Int32) = 0 from hx) (by decide)) ?_
          have hbs : best S = some yy := by rw [← hBb, hBc]
          rw [hBc] at hB3
          refine s_placesLeast hG hI3 hB3 (fun μ4 hI4 s4 hA4 hW4 => ?_)
          have s4m := s3.tr (dD.m s4)
          have t4 : μ4 p_MO 35 = 0 := by rw [s4 p_MO (by unfold dD; decide)]; exact t3
          rw [xe, show (2 : Int32) = nI 2 from rfl, e1 (by omega) (by omega)]
          by_cases ha2 : a = 2
          · have hpl : plc S a = if secOk S (lsQ (dft S) yy) = true then some (secQ S (lsQ (dft S) yy) (dft S 0 11)) else none := by unfold plc; rw [hbs]; dsimp only; rw [if_pos ha2]
            refine rb_t ha2 ?_
            rw [← xe]
            have hM := lsQ_map hG hbs
            refine s_secures hG hI4 hM (lsQ_agr S yy) hA4 hW4 (fun μ5 hI5 s5 s5' o5 hW5 => ?_)
            have s5m := s4m.tr (dD.m s5)
            have t5 : μ5 p_MO 35 = 0 := by rw [s5 p_MO (by unfold dD; decide)]; exact t4
            cases hok : secOk S (lsQ (dft S) yy) with
            | false =>
              rw [hok, if_neg (by decide)] at hpl
              exact ⟨fun _ => k165n hpl μ5 hI5 s5m t5, fun hc => absurd rfl hc⟩
            | true =>
              rw [hok, if_pos rfl] at hpl
              refine ⟨fun hc => absurd hc (by decide), fun _ => ?_⟩
              have hW5 := hW5 hok
              rw [lsQ_agr S yy 0 11 (by omega)] at hW5
              refine k165s _ hpl μ5 hI5 s5m t5 (fun k hk => ?_) hW5
              rw [secQ_x (by decide)] at hk ⊢
              rw [s5' p_MO_at (by unfold dF; decide)]
              exact hA4 k hk
          · have hpl : plc S a = some (lsQ (dft S) yy) := by unfold plc; rw [hbs]; dsimp only; rw [if_neg ha2]
            refine rb_f ha2 ?_
            rw [← xe]
            exact k165s _ hpl μ4 hI4 s4m t4 hA4 hW4
      · intro j hj hnx μ3 hI3 hR3 hB3 s3 t3 hz3
        refine h96 _ _ _ _ _ ?_
        unfold F_X8_place_96
        rw [show μ3 p_MO 8 = nI (nRq S) from hI3.2.1, nI_pk3, show (3 : Int32) = nI 3 from rfl, nI_add, i1, nI_clamp (show 3 * nRq S + j < 2 ^ 31 by omega)]
        refine br_f (not_le_nI (by omega) (by omega)) ⟨inN (by omega) (by omega), ?_⟩
        have ss : Sm dD μ3 (up2 μ3 p_MO_second (3 * nRq S + j) 0) := Sm.up (by unfold dD; decide)
        refine hnx _ (hI3.oth hG ss (Oth.up (fun hc => absurd hc (by decide)) (fun _ _ => by omega))) ⟨fun v hv => by rw [u_ne (by decide)]; exact hR3.1 v hv, fun k hk => by rw [u_ne (by decide)]; exact hR3.2 k hk⟩ (hB3.fr (u_ne (by decide)) (u_ne (by decide))) (s3.tr (dD.m ss)) (by rw [u_ne (by decide)]; exact t3) (fun i hi => ?_)
        rw [u_eq]
        by_cases hij : i = j
        · subst hij; rw [d_eq]
        · rw [d_ne (by omega)]; exact hz3 i (by omega)
    rw [vB_none hB.lt2, show μ2 p_MO 8 = nI (nRq S) from hI2.2.1, nI_pk3]
    cases hBc : B.isSome with
    | false => rw [hBc] at k96; exact br_t rfl k96
    | true => rw [hBc] at k96; exact br_f (by decide) k96
  refine s_isIn ?_
  change (bI (rg 0 2 x) = 0 → _) ∧ (¬ bI (rg 0 2 x) = 0 → _)
  refine bq (fun hx => k24f (by rw [hx]; rfl)) (fun hx => s_isIn ?_)
  change (bI (rg 1 100 y) = 0 → _) ∧ (¬ bI (rg 1 100 y) = 0 → _)
  exact bq (fun hy => k24f (by rw [hx, hy]; rfl)) (fun hy => k24t (by rw [hx, hy]; rfl))
