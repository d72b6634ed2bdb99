/-! the reference's second ways -/
theorem nWs {S : St} {r : Rq} {μ : Mm} (hG : Good S) (hI : mInv S μ) (hgd : GoodD r) (h14 : r 0 14 = 0) (hq : mQ (nRq S) r μ) (hW : mW (nRq S) r μ) (ho : ∀ l, l < r 0 11 → lnOk (nLk S) r l) : mWs (nRq S + 1) (updR S (nRq S) r) μ := by
  intro i hi
  have hL := hG.L
  by_cases hin : i = nRq S
  · subst hin
    rw [updR_i]
    refine ⟨hq, hW, hgd.2.1, by omega, fun l hl => ?_⟩
    obtain ⟨a1, a2, a3, a4⟩ := ho l hl
    exact ⟨lt512 hL a1, lt512 hL a2, lt512 hL a3, a4⟩
  · rw [updR_ne hin]
    exact hI.ws hG i (by omega)
theorem nB {S : St} {r : Rq} (hG : Good S) (hgd : GoodD r) : ∀ i, i < nRq S + 1 → (updR S (nRq S) r).2.2 i 0 11 ≤ 3 ∧ ∀ l, l < (updR S (nRq S) r).2.2 i 0 11 → (updR S (nRq S) r).2.2 i 6 l ≤ 20 := by
  intro i hi
  by_cases hin : i = nRq S
  · subst hin
    rw [updR_i]
    exact ⟨hgd.2.1, fun l hl => (hgd.2.2.2.1 l hl).2.2.2.2⟩
  · rw [updR_ne hin]
    exact hG.hB i (by omega)
theorem nSB {S : St} {r : Rq} (h14 : r 0 14 = 0) (f k : Nat) : sm (fun i => qB ((updR S (nRq S) r).2.2 i) f k) (nRq S + 1) = secB S r f k := by
  show sm (fun i => qB ((updR S (nRq S) r).2.2 i) f k) (nRq S) + qB ((updR S (nRq S) r).2.2 (nRq S)) f k = bhS S f k + sm (lB r f k) (r 0 11)
  rw [updR_i, sm_congr (g := fun i => qB (S.2.2 i) f k) (fun i hi => by rw [updR_ne (Nat.ne_of_lt hi)])]
  congr 1
  unfold qB
  rw [if_pos h14]
theorem lB_dis {r : Rq} {k l : Nat} (h : r 10 l &&& r 7 l = 0) : lB r k k l = 0 := by
  have h4 := congrArg (fun x => Nat.testBit x k) h
  simp only [Nat.testBit_and, Nat.zero_testBit] at h4
  unfold lB
  rw [tb_bit, tb_bit (r 7 l)]
  cases h1 : (r 10 l).testBit k with
  | false => simp
  | true =>
    rw [h1, Bool.true_and] at h4
    rw [h4]; simp
theorem s_isWithin {S : St} {r : Rq} {w : Nat} {μ : Mm} {q : Bool → Mm → Prop} (hG : Good S) (hI : mInv S μ) (hgd : GoodD r) (h14 : r 0 14 = 0) (hq : mQ (nRq S) r μ) (hW : mW (nRq S) r μ) (ho : RqOk (nNd S) (nLk S) r) (h89 : ∀ l, l < r 0 11 → r 8 l = r 6 l ∧ r 9 l = 0) (hdis : ∀ l, l < r 0 11 → r 10 l &&& r 7 l = 0) (hw : w < 2 ^ nLk S)
    (h : q (al (fun k => !w.testBit k || decide (secN S r k + mx (fun f => secB S r f k) (nLk S) ≤ S.2.1 2 k)) (nLk S)) μ) : Wp_X8_isWithin (nI w) μ q := by
  have hn := hG.n
  have hL := hG.L
  have h8 : μ p_MO 8 = nI (nRq S) := hI.2.1
  have h3 : μ p_MO 3 = nI (nLk S) := hI.1.1.2.1
  have h11 := hgd.2.1
  unfold Wp_X8_isWithin
  intro K4 K31 h4 h31
  unfold F_X8_isWithin_e
  obtain ⟨g, hg⟩ : ∃ g, g = fun k => !w.testBit k || decide (secN S r k + mx (fun f => secB S r f k) (nLk S) ≤ S.2.1 2 k) := ⟨_, rfl⟩
  rw [← hg] at h
  refine dn (P := fun k => K4 (nI w) (bI (al g k)) (nI k) μ) (n := nLk S) ?_ ?_
  · refine h4 _ _ _ _ ?_
    unfold F_X8_isWithin_4
    rw [h3]
    exact br_t (le_nI (Nat.le_refl _) (by omega)) (ex_bI h)
  · intro k hk hnx
    refine h4 _ _ _ _ ?_
    unfold F_X8_isWithin_4
    rw [h3]
    refine br_f (not_le_nI hk (by omega)) ?_
    refine s_has (lt512 hL hw) (by omega) ?_
    rw [i1]
    have hgk : g k = (!w.testBit k || decide (secN S r k + mx (fun f => secB S r f k) (nLk S) ≤ S.2.1 2 k)) := by rw [hg]
    rw [show al g (k + 1) = (al g k && g k) from rfl] at hnx
    refine bq (fun hb => ?_) (fun hb => ?_)
    · rw [hgk, hb] at hnx
      rw [show (al g k && (!false || decide (secN S r k + mx (fun f => secB S r f k) (nLk S) ≤ S.2.1 2 k))) = al g k by simp] at hnx
      exact hnx
    · rw [hb, Bool.not_true, Bool.false_or] at hgk
      rw [h8, nI_pk3]
      have h9b : ∀ l, l < r 0 11 → lL r k l = tb (r 7 l) k * r 6 l := fun l hl => by
        obtain ⟨a1, a2⟩ := h89 l hl
        unfold lL
        rw [a1, a2, Nat.sub_self, Nat.mul_zero, Nat.add_zero]
      refine dn (P := fun l => K31 (nI w) (bI (al g k)) (nI k) (nI (sm (lL r k) l)) (nI (3 * nRq S + l)) μ) (n := r 0 11) ?_ ?_
      · refine h31 _ _ _ _ _ _ ?_
        unfold F_X8_isWithin_31
        rw [h8, nI_clamp (by omega), nI_pk3, hq.2.1, nI_add]
        refine ⟨inN (by omega) (by omega), br_t (le_nI (Nat.le_refl _) (by omega)) ?_⟩
        rw [i1]
        refine bq (fun ha => ?_) (fun ha => ?_)
        · rw [ha, Bool.false_and] at hnx; exact hnx
        · rw [ha, Bool.true_and] at hnx
          rw [i1 (nRq S)]
          refine s_reserved (S := updR S (nRq S) r) (n := nRq S + 1) (k := k) (by omega) (by omega) hL h3 (nWs hG hI hgd h14 hq hW ho.2) (nB hG hgd) ?_ ?_
          · rw [nSB h14]
            have h1 := hG.hz k (by omega)
            show bhS S k k + sm (lB r k k) (r 0 11) = 0
            rw [h1, Nat.zero_add]
            exact sm_zero fun l hl => lB_dis (hdis l hl)
          · refine ⟨in9 (by omega), ?_⟩
            rw [nI_clamp (by omega)]
            refine s_needs (by omega) hG.2.1 h8 (hI.ws hG) ?_
            rw [hI.1.2.2.2 k hk]
            have e : (fun f => sm (fun i => qB ((updR S (nRq S) r).2.2 i) f k) (nRq S + 1)) = fun f => secB S r f k := funext fun f => nSB h14 f k
            rw [e]
            have b1 := hG.2.2.2.2.2.2.1 k hk
            have b2 := hG.nd k
            have b3 := sL3 hgd ho k
            have b4 : mx (fun f => secB S r f k) (nLk S) ≤ 840 := mx_le fun f _ => by
              have := hG.bh f k
              have := sB3 hgd f k
              show bhS S f k + sm (lB r f k) (r 0 11) ≤ 840
              omega
            show (nI (S.2.1 2 k) - nI (ndS S k) - nI (sm (lL r k) (r 0 11)) < nI (mx (fun f => secB S r f k) (nLk S)) → _) ∧ _
            have hi := lf_toInt (a := S.2.1 2 k) (b := ndS S k) (c := sm (lL r k) (r 0 11)) (by omega) (by omega) (by omega)
            have hm := nI_toInt (n := mx (fun f => secB S r f k) (nLk S)) (by omega)
            have hsn : secN S r k = ndS S k + sm (lL r k) (r 0 11) := rfl
            by_cases hc : secN S r k + mx (fun f => secB S r f k) (nLk S) ≤ S.2.1 2 k
            · rw [hgk, decide_eq_true hc] at hnx
              refine br_f (fun hx => ?_) hnx
              rw [Int32.lt_iff_toInt_lt, hi, hm] at hx
              omega
            · rw [hgk, decide_eq_false hc] at hnx
              refine br_t ?_ hnx
              rw [Int32.lt_iff_toInt_lt, hi, hm]
              omega
      · intro l hl hnl
        refine h31 _ _ _ _ _ _ ?_
        unfold F_X8_isWithin_31
        rw [h8, nI_clamp (show nRq S < 2 ^ 31 by omega), nI_pk3, hq.2.1, nI_add]
        refine ⟨inN (by omega) (by omega), br_f (not_le_nI (by omega) (by omega)) ⟨inN (by omega) (by omega), ?_⟩⟩
        rw [nI_clamp (by omega), (hW l hl).1]
        refine s_has (lt512 hL (ho.2 l hl).1) (by omega) ?_
        rw [i1, Nat.add_assoc]
        rw [show sm (lL r k) (l + 1) = sm (lL r k) l + lL r k l from rfl, h9b l hl, tb_bit] at hnl
        refine bq (fun hb2 => ?_) (fun hb2 => ?_)
        · rw [hb2, if_neg (by decide), Nat.zero_mul, Nat.add_zero] at hnl
          rw [z_add]; exact hnl
        · rw [hb2, if_pos rfl, Nat.one_mul] at hnl
          refine ⟨inN (by omega) (by omega), ?_⟩
          rw [(hq.2.2.2.2 l hl).2.2, nI_add]
          exact hnl
/-- the lines of the draft, but the second way of l -/
def mWn (S : St) (r : Rq) (l : Nat) (μ : Mm) : Prop := ∀ j, j < r 0 11 → mWl (nRq S) r j μ ∧ (j ≠ l → μ p_MO_second (3 * nRq S + j) = nI (r 10 j))
theorem mWn.mW {S : St} {r : Rq} {l w : Nat} {μ : Mm} (h : mWn S r l μ) (hs : μ p_MO_second (3 * nRq S + l) = nI w) : mW (nRq S) (set3 r 10 l w) μ := by
  intro j hj
  rw [set3_ne (Or.inl (by decide))] at hj
  obtain ⟨⟨v1, v2, v3⟩, v4⟩ := h j hj
  rw [set3_ne (Or.inl (by decide)), set3_ne (Or.inl (by decide)), set3_ne (Or.inl (by decide))]
  refine ⟨v1, v2, v3, ?_⟩
  by_cases hjl : j = l
  · subst hjl; rw [set3_eq]; exact hs
  · rw [set3_ne (Or.inr hjl)]; exact v4 hjl
set_option maxHeartbeats 1000000 in
theorem s_secures {S : St} {r : Rq} {μ : Mm} {q : Bool → Mm → Prop} (hG : Good S) (hI : mInv S μ) (hM : Map0 S r) (hx : ∀ a b, a = 0 ∨ a = 1 ∨ a = 2 ∨ (4 ≤ a ∧ a ≤ 6) → r a b = dft S a b) (hA : mA (nRq S) r μ) (hW : mW (nRq S) r μ)
    (h : ∀ μ2, mInv S μ2 → Sm dD μ μ2 → Sm (fun c => c = 37 ∨ dF c) μ μ2 → Oth (nRq S) μ μ2 → (secOk S r = true → mW (nRq S) (secQ S r (r 0 11)) μ2) → q (secOk S r) μ2) : Wp_X8_secures μ q := by
  have hMM := hM
  obtain ⟨hgd, h14, hN, hds, hln⟩ := hM
  have hL := hG.L
  have hn := hG.n
  have h10 := hgd.1
  have h11 := hgd.2.1
  have hn6 := hG.1
  have dDD : ∀ c, (fun c => c = 37 ∨ dF c) c → dD c := fun c hc => by unfold dF at hc; unfold dD; omega
  -- what stays
  have hq : ∀ {μ1}, mInv S μ1 → mQ (nRq S) r μ1 := fun hI1 => by
    have := hI1.2.2.2.1 _ hn
    unfold mQ at *
    rw [hx 0 10 (by omega), hx 0 11 (by omega), hx 0 14 (by omega)]
    refine ⟨this.1, this.2.1, this.2.2.1, fun k hk => ?_, fun l hl => ?_⟩
    · rw [hx 1 k (by omega), hx 2 k (by omega)]; exact this.2.2.2.1 k hk
    · rw [hx 4 l (by omega), hx 5 l (by omega), hx 6 l (by omega)]; exact this.2.2.2.2 l hl
  unfold Wp_X8_secures
  intro K4 K77 K145 h4 h77 h145
  unfold F_X8_secures_e
  have okf : ∀ l, l < r 0 11 → secW1 S (secQ S r l) l = 0 → secOk S r = false := by
    intro l hl hz
    unfold secOk
    cases ha : al (fun l => !decide (secW1 S (secQ S r l) l = 0)) (r 0 11) with
    | false => rfl
    | true =>
      have := (al_iff _ _).1 ha l hl
      rw [decide_eq_true hz] at this
      cases this
  refine dn (P := fun l => al (fun l => !decide (secW1 S (secQ S r l) l = 0)) l = true → ∀ μ1, mInv S μ1 → Sm (fun c => c = 37 ∨ dF c) μ μ1 → Oth (nRq S) μ μ1 → mW (nRq S) (secQ S r l) μ1 → K4 (bI true) (nI l) μ1) (n := r 0 11) ?_ ?_ rfl μ hI Sm.rf Oth.rf hW
  · intro hal μ1 hI1 s1 o1 hW1
    refine h4 _ _ _ ?_
    unfold F_X8_secures_4
    rw [show μ1 p_MO 8 = nI (nRq S) from hI1.2.1, nI_clamp (by omega), (hq hI1).2.1]
    refine ⟨inN (by omega) (by omega), br_t (le_nI (Nat.le_refl _) (by omega)) ?_⟩
    have hok : secOk S r = true := hal
    rw [hok] at h
    exact ex_bI (h μ1 hI1 (s1.mono dDD) s1 o1 (fun _ => hW1))
  · intro l hl hnx hal μ1 hI1 s1 o1 hW1
    refine h4 _ _ _ ?_
    unfold F_X8_secures_4
    have hq1 := hq hI1
    obtain ⟨b1, b2, b3, b4, b5⟩ := hgd.2.2.2.1 l hl
    obtain ⟨a4, a5, a6⟩ := hq1.2.2.2.2 l hl
    have hv3 : vp_in (nI (3 * nRq S + l)) 39 := inN (by omega) (by omega)
    have c3 : (nI (3 * nRq S + l)).toNatClampNeg = 3 * nRq S + l := nI_clamp (by omega)
    rw [show μ1 p_MO 8 = nI (nRq S) from hI1.2.1, nI_clamp (show nRq S < 2 ^ 31 by omega), hq1.2.1, nI_pk3, nI_add, c3, a4, a5, nI_add, nI_add, nI_clamp (show 3 * nRq S + r 4 l < 2 ^ 31 by omega), nI_clamp (show 3 * nRq S + r 5 l < 2 ^ 31 by omega)]
    refine ⟨inN (by omega) (by omega), br_f (not_le_nI hl (by omega)) (br_f (by decide) ⟨hv3, inN (by omega) (by omega), hv3, inN (by omega) (by omega), ?_⟩)⟩
    have hA1 : ∀ k, k < r 0 10 → μ1 p_MO_at (3 * nRq S + k) = nI (r 3 k) := fun k hk => by rw [s1 p_MO_at (by unfold dF; decide)]; exact hA k hk
    rw [hA1 _ b1, hA1 _ b2]
    have hPa : r 3 (r 4 l) < 6 := by have := hN _ b1; omega
    have hPb : r 3 (r 5 l) < 6 := by have := hN _ b2; omega
    have hPab := hds _ _ b1 b2 b3
    obtain ⟨W, hWd⟩ : ∃ W, W = wl S.1 (r 3 (r 4 l)) (r 3 (r 5 l)) := ⟨_, rfl⟩
    have h15 : W.length ≤ 15 := by rw [hWd]; exact wl_15 hG.2.2.1 hPa hPb hPab
    have h9 : W9 (nLk S) W := by rw [hWd]; exact wl_W9 S.1 _ _
    refine s_finds hG.2.2.1 (by omega) hPa hPb hPab hI1.1.1 (fun μ2 hfd hF2 => ?_)
    rw [← hWd] at hfd
    have hI2 : mInv S μ2 := hI1.oth hG (hF2.sm.mono (fun c hc => by unfold dF at hc; unfold dD; omega)) hF2.o
    have s12 : Sm (fun c => c = 37 ∨ dF c) μ μ2 := s1.tr (hF2.sm.mono (fun c hc => Or.inr hc))
    have o12 := o1.tr hF2.o (i := nRq S)
    have e11 : secQ S r l 0 11 = r 0 11 := secQ_x (by decide) l
    have hWn2 : mWn S (secQ S r l) l μ2 := fun j hj => by
      obtain ⟨v1, v2, v3, v4⟩ := hW1 j hj
      unfold mWl
      rw [hF2.sm p_MO_way (by unfold dF; decide), hF2.sm p_MO_amount (by unfold dF; decide), hF2.sm p_MO_rest (by unfold dF; decide), hF2.sm p_MO_second (by unfold dF; decide)]
      exact ⟨⟨v1, v2, v3⟩, fun _ => v4⟩
    obtain ⟨ox, hox⟩ : ∃ ox, ox = okX (nLk S) (S.2.1 2) (secN S (secQ S r l)) (secB S (secQ S r l)) (r 7 l) (r 6 l) := ⟨_, rfl⟩
    have hsw : secW1 S (secQ S r l) l = fwp ox W := by
      unfold secW1
      rw [secQ_x (x := 7) (by decide), secQ_x (x := 6) (by decide), secQ_x (x := 4) (by decide), secQ_x (x := 5) (by decide), secQ_x (x := 3) (by decide), secQ_x (x := 3) (by decide), hox, hWd]
    refine dn (P := fun j => ∀ μ3, mInv S μ3 → Sm (fun c => c = 37 ∨ dF c) μ μ3 → Oth (nRq S) μ μ3 → mWn S (secQ S r l) l μ3 → Fnd l W μ3 → K77 (nI l) (nI (3 * nRq S + l)) (nI (fwp ox (W.take j))) (nI j) μ3) (n := W.length) ?_ ?_ μ2 hI2 s12 o12 hWn2 hfd
    · intro μ3 hI3 s3 o3 hWn3 hfd3
      refine h77 _ _ _ _ _ ?_
      unfold F_X8_secures_77
      rw [nI_clamp (by omega), hfd3.1, c3, List.take_length, ← hsw]
      refine ⟨inN (by omega) (by omega), br_t (le_nI (Nat.le_refl _) (by omega)) ⟨hv3, ?_⟩⟩
      have hs9 := lt512 hL (secW1_lt S (secQ S r l) l)
      rw [e0 (by omega), i1]
      obtain ⟨μ4, hμ4⟩ : ∃ μ4, μ4 = up2 μ3 p_MO_second (3 * nRq S + l) (nI (secW1 S (secQ S r l) l)) := ⟨_, rfl⟩
      rw [← hμ4]
      have s34 : Sm (fun c => c = 37 ∨ dF c) μ3 μ4 := by rw [hμ4]; exact Sm.up (Or.inl rfl)
      have o34 : Oth (nRq S) μ3 μ4 := by rw [hμ4]; exact Oth.up (fun hc => absurd hc (by decide)) (fun _ _ => by omega)
      have hI4 := hI3.oth hG (s34.mono dDD) o34
      by_cases hz : secW1 S (secQ S r l) l = 0
      · refine br_t hz ?_
        rw [okf l hl hz] at h
        refine h4 _ _ _ ?_
        unfold F_X8_secures_4
        have fin : q false μ4 := h μ4 hI4 ((s3.tr s34).mono dDD) (s3.tr s34) (o3.tr o34) (fun hc => by cases hc)
        rw [show μ4 p_MO 8 = nI (nRq S) from hI4.2.1]
        exact ⟨inN (by omega) (by omega), fun _ => ⟨false, rfl, fin⟩, fun _ => br_t rfl ⟨false, rfl, fin⟩⟩
      · refine br_f hz (hnx ?_ μ4 hI4 (s3.tr s34) (o3.tr o34) ?_)
        · show (al _ l && !decide (secW1 S (secQ S r l) l = 0)) = true
          rw [hal, decide_eq_false hz]; rfl
        · refine mWn.mW (l := l) (w := secW1 S (secQ S r l) l) (r := secQ S r l) (fun j hj => ?_) (by rw [hμ4, u_eq, d_eq])
          obtain ⟨⟨v1, v2, v3⟩, v4⟩ := hWn3 j hj
          refine ⟨⟨by rw [hμ4, u_ne (by decide)]; exact v1, by rw [hμ4, u_ne (by decide)]; exact v2, by rw [hμ4, u_ne (by decide)]; exact v3⟩, fun hjl => ?_⟩
          rw [hμ4, u_eq, d_ne (by omega)]
          exact v4 hjl
    · intro j hj hnj μ3 hI3 s3 o3 hWn3 hfd3
      refine h77 _ _ _ _ _ ?_
      unfold F_X8_secures_77
      rw [nI_clamp (show l < 2 ^ 31 by omega), hfd3.1, c3, nI_pk64, nI_add, nI_clamp (show 64 * l + j < 2 ^ 31 by omega), hfd3.2 j hj]
      refine ⟨inN (by omega) (by omega), br_f (not_le_nI hj (by omega)) ⟨inN (by omega) (by omega), hv3, hv3, ?_⟩⟩
      rw [fwp_take _ _ j hj] at hnj
      have hwlt : W[j] < 2 ^ nLk S := (h9 _ (List.getElem_mem hj)).1
      have hwnz : W[j] ≠ 0 := (h9 _ (List.getElem_mem hj)).2
      have hflt : fwp ox (W.take j) < 512 := Nat.lt_of_lt_of_le (fwp_take_lt h9 j) (pow_512 hL)
      generalize W[j] = w at *
      generalize fwp ox (W.take j) = b at *
      have hw9 := lt512 hL hwlt
      rw [u_ne (show p_MO_way ≠ p_MO_second by decide)]
      obtain ⟨⟨w1, w2, w3⟩, -⟩ := hWn3 l (by rw [e11]; exact hl)
      rw [secQ_x (by decide)] at w1
      rw [w1, nx_and, e0 (by have := lt512 hL (hln l hl).1; exact Nat.lt_of_le_of_lt Nat.and_le_left (by omega)), e0 (show b < 2147483648 by omega)]
      obtain ⟨μ4, hμ4⟩ : ∃ μ4, μ4 = up2 μ3 p_MO_second (3 * nRq S + l) (nI w) := ⟨_, rfl⟩
      rw [← hμ4]
      have s34 : Sm (fun c => c = 37 ∨ dF c) μ3 μ4 := by rw [hμ4]; exact Sm.up (Or.inl rfl)
      have o34 : Oth (nRq S) μ3 μ4 := by rw [hμ4]; exact Oth.up (fun hc => absurd hc (by decide)) (fun _ _ => by omega)
      have hI4 := hI3.oth hG (s34.mono dDD) o34
      have s4 := s3.tr s34
      have o4 := o3.tr o34
      have hWn4 : mWn S (secQ S r l) l μ4 := fun j hj => by
        obtain ⟨⟨v1, v2, v3⟩, v4⟩ := hWn3 j hj
        refine ⟨⟨by rw [hμ4, u_ne (by decide)]; exact v1, by rw [hμ4, u_ne (by decide)]; exact v2, by rw [hμ4, u_ne (by decide)]; exact v3⟩, fun hjl => ?_⟩
        rw [hμ4, u_eq, d_ne (by omega)]
        exact v4 hjl
      have hfd4 : Fnd l W μ4 := by rw [hμ4]; exact ⟨hfd3.1, hfd3.2⟩
      have hnj4 := fun b2 (hb2 : fst1 ox b w = b2) => by rw [hb2] at hnj; exact hnj μ4 hI4 s4 o4 hWn4 hfd4
      have k145f : fst1 ox b w = b → K145 (nI l) (nI (3 * nRq S + l)) (nI b) (nI j) (nI w) 0 μ4 := by
        intro hb
        refine h145 _ _ _ _ _ _ _ ?_
        unfold F_X8_secures_145
        rw [i1]
        exact br_t rfl (hnj4 b hb)
      by_cases hz : w &&& r 7 l = 0
      · refine rb_t hz ?_
        have k145t : (b = 0 ∨ pc w < pc b) → K145 (nI l) (nI (3 * nRq S + l)) (nI b) (nI j) (nI w) 1 μ4 := by
          intro hc
          refine h145 _ _ _ _ _ _ _ ?_
          unfold F_X8_secures_145
          rw [i1]
          refine br_f (by decide) ?_
          -- the request with this second way
          obtain ⟨rw', hrw⟩ : ∃ rw', rw' = set3 (secQ S r l) 10 l w := ⟨_, rfl⟩
          have x_ne : ∀ a c, a ≠ 10 → rw' a c = r a c := fun a c ha => by rw [hrw, set3_ne (Or.inl ha), secQ_x ha]
          have x_10 : ∀ c, rw' 10 c = if c = l then w else secQ S r l 10 c := fun c => by
            rw [hrw]
            by_cases hcl : c = l
            · rw [if_pos hcl, hcl, set3_eq]
            · rw [if_neg hcl, set3_ne (Or.inr hcl)]
          have gd' : GoodD rw' := by
            unfold GoodD at *
            simp only [x_ne 0 _ (by decide), x_ne 1 _ (by decide), x_ne 2 _ (by decide), x_ne 4 _ (by decide), x_ne 5 _ (by decide), x_ne 6 _ (by decide)]
            exact hgd
          have q' : mQ (nRq S) rw' μ4 := by
            have := hq hI4
            unfold mQ at *
            simp only [x_ne 0 _ (by decide), x_ne 1 _ (by decide), x_ne 2 _ (by decide), x_ne 4 _ (by decide), x_ne 5 _ (by decide), x_ne 6 _ (by decide)]
            exact this
          have w' : mW (nRq S) rw' μ4 := by rw [hrw]; exact hWn4.mW (by rw [hμ4, u_eq, d_eq])
          have ok' : RqOk (nNd S) (nLk S) rw' := by
            have := secQ_ok hMM l
            refine ⟨fun k hk => ?_, fun m hm => ?_⟩
            · rw [x_ne 0 _ (by decide)] at hk
              rw [x_ne 3 _ (by decide)]; exact hN k hk
            · rw [x_ne 0 _ (by decide)] at hm
              obtain ⟨c1, c2, c3, c4⟩ := this.2 m (by rw [e11]; exact hm)
              refine ⟨?_, ?_, ?_, ?_⟩
              · rw [x_ne 7 _ (by decide)]; rw [secQ_x (by decide)] at c1; exact c1
              · rw [x_ne 9 _ (by decide)]; rw [secQ_x (by decide)] at c2; exact c2
              · rw [x_10]; split
                · exact hwlt
                · exact c3
              · rw [x_ne 8 _ (by decide), x_ne 6 _ (by decide)]; rw [secQ_x (by decide), secQ_x (by decide)] at c4; exact c4
          refine s_isWithin (r := rw') hG hI4 gd' (by rw [x_ne 0 _ (by decide)]; exact h14) q' w' ok' (fun m hm => ?_) (fun m hm => ?_) hwlt ?_
          · rw [x_ne 0 _ (by decide)] at hm
            rw [x_ne 8 _ (by decide), x_ne 6 _ (by decide), x_ne 9 _ (by decide)]
            exact ⟨(hln m hm).2.1, (hln m hm).2.2.1⟩
          · rw [x_ne 0 _ (by decide)] at hm
            rw [x_10, x_ne 7 _ (by decide)]
            by_cases hml : m = l
            · rw [if_pos hml, hml]; exact hz
            · rw [if_neg hml]; exact secQ_dis hMM hm
          have eox : ox w = al (fun k => !w.testBit k || decide (secN S rw' k + mx (fun f => secB S rw' f k) (nLk S) ≤ S.2.1 2 k)) (nLk S) := by
            rw [hox]
            unfold okX
            rw [decide_eq_true hz, Bool.true_and]
            have hb2 : ∀ k, k < nLk S → (!w.testBit k || decide (secN S (secQ S r l) k + mx (fun f => secB S (secQ S r l) f k + tb (r 7 l) f * r 6 l) (nLk S) ≤ S.2.1 2 k)) = (!w.testBit k || decide (secN S rw' k + mx (fun f => secB S rw' f k) (nLk S) ≤ S.2.1 2 k)) := by
              intro k hk
              cases hbk : w.testBit k with
              | false => rfl
              | true =>
                have e1 : secN S (secQ S r l) k = secN S rw' k := by
                  unfold secN
                  rw [e11, x_ne 0 _ (by decide)]
                  congr 1
                  exact sm_congr fun m _ => by
                    unfold lL
                    rw [x_ne 7 _ (by decide), x_ne 8 _ (by decide), x_ne 9 _ (by decide), x_ne 6 _ (by decide), secQ_x (by decide), secQ_x (by decide), secQ_x (by decide), secQ_x (by decide)]
                have e2 : ∀ f, secB S (secQ S r l) f k + tb (r 7 l) f * r 6 l = secB S rw' f k := fun f => by
                  unfold secB
                  have := sB_step (r := secQ S r l) (f := f) (k := k) (l := l) (w := w) (by rw [e11]; exact hl) (by rw [secQ_hi l (Nat.le_refl _)]; exact (hln l hl).2.2.2)
                  rw [← hrw, tb_bit w k, hbk, if_pos rfl, Nat.one_mul, secQ_x (x := 7) (by decide), secQ_x (x := 6) (by decide)] at this
                  rw [x_ne 0 _ (by decide), ← e11, this, Nat.add_assoc]
                rw [e1, show (fun f => secB S (secQ S r l) f k + tb (r 7 l) f * r 6 l) = fun f => secB S rw' f k from funext e2]
            rw [Bool.eq_iff_iff, al_iff, al_iff]
            exact ⟨fun hh k hk => by rw [← hb2 k hk]; exact hh k hk, fun hh k hk => by rw [hb2 k hk]; exact hh k hk⟩
          rw [← eox]
          refine bq (fun hb => ?_) (fun hb => ?_)
          · exact hnj4 b (by unfold fst1; rw [if_neg (fun hx => by rw [hb] at hx; cases hx.1)])
          · exact hnj4 w (by unfold fst1; rw [if_pos ⟨hb, hc⟩])
        by_cases hb0 : b = 0
        · exact br_t hb0 (k145t (Or.inl hb0))
        · refine br_f hb0 ?_
          refine s_bits hw9 (s_bits hflt ?_)
          rw [pcle hw9 hflt]
          by_cases hp : pc w < pc b
          · exact br_f (fun hx => hx hp) (k145t (Or.inr hp))
          · refine br_t hp (k145f ?_)
            unfold fst1
            rw [if_neg (fun hx => hx.2.elim hb0 hp)]
      · refine rb_f hz (k145f ?_)
        unfold fst1
        rw [if_neg (fun hx => ?_)]
        have := hx.1
        rw [hox] at this
        unfold okX at this
        rw [decide_eq_false hz, Bool.false_and] at this
        cases this
