/-! the reference moves -/
theorem mInv.req {S : St} {i : Nat} {r : Rq} {μ μ2 : Mm} (h : mInv S μ) (hd : ∀ j, j < 13 → GoodD (S.2.2 j)) (hn : nRq S < 13) (h0 : ∀ j, j < 9 → μ2 p_MO j = μ p_MO j) (hf : ∀ c, 21 ≤ c → c < 26 → μ2 c = μ c) (ho : Oth i μ μ2) (hq : mQ i r μ2) (hp : i < nRq S → mA i r μ2 ∧ mW i r μ2 ∧ μ2 p_MO_manner i = nI (r 0 12) ∧ μ2 p_MO_time i = nI (r 0 13)) : mInv (updR S i r) μ2 := by
  obtain ⟨⟨h1, h11, h12, h13⟩, h2, h3, h4⟩ := h
  have h4 : mReqs (nRq S) S.2.2 μ := h4
  refine ⟨⟨?_, by rw [h0 1 (by omega)]; exact h11, fun v hv => by rw [hf p_MO_nodeRoom (by decide) (by decide)]; exact h12 v hv, fun k hk => by rw [hf p_MO_linkRoom (by decide) (by decide)]; exact h13 k hk⟩, by rw [h0 8 (by omega)]; exact h2, by rw [h0 0 (by omega)]; exact h3, mReqs.upd h4 hd hn ho hq hp⟩
  unfold HM at *
  rw [h0 3 (by omega), hf p_MO_one (by decide) (by decide), hf p_MO_other (by decide) (by decide), hf p_MO_hasFailed (by decide) (by decide)]
  exact h1
def dX (c : Nat) : Prop := c = 30 ∨ c = 35 ∨ (41 ≤ c ∧ c ≤ 51)
theorem dX.m {μ μ2 : Mm} (h : Sm dX μ μ2) : Sm mCell μ μ2 := Sm.mono h (fun c hc => by unfold dX at hc; unfold mCell; omega)
/-- the reference's memory, part k of request i being at v, its ways w -/
def Mx (S : St) (i k v : Nat) (w : Nat → Nat) (μ0 μ : Mm) : Prop := Sm dX μ0 μ ∧ Oth i μ0 μ ∧ (∀ j, j < S.2.2 i 0 10 → μ p_MO_at (3 * i + j) = nI (if j = k then v else S.2.2 i 3 j)) ∧ ∀ l, l < S.2.2 i 0 11 → μ p_MO_way (3 * i + l) = nI (w l)
theorem Mx.congr {S : St} {i k v : Nat} {w w2 : Nat → Nat} {μ0 μ : Mm} (h : Mx S i k v w μ0 μ) (hw : ∀ l, l < S.2.2 i 0 11 → w l = w2 l) : Mx S i k v w2 μ0 μ := ⟨h.1, h.2.1, h.2.2.1, fun l hl => by rw [h.2.2.2 l hl, hw l hl]⟩
theorem Mx.fr {S : St} {i k v : Nat} {w : Nat → Nat} {μ0 μ μ2 : Mm} (h : Mx S i k v w μ0 μ) (hs : Sm (fun c => 41 ≤ c ∧ c ≤ 51) μ μ2) : Mx S i k v w μ0 μ2 := by
  refine ⟨h.1.tr (hs.mono (fun c hc => by have hc : 41 ≤ c ∧ c ≤ 51 := hc; unfold dX; omega)), h.2.1.tr (Oth.sm hs (fun c hc => by have hc : 41 ≤ c ∧ c ≤ 51 := hc; omega)), fun j hj => ?_, fun l hl => ?_⟩
  · rw [hs p_MO_at (by decide)]; exact h.2.2.1 j hj
  · rw [hs p_MO_way (by decide)]; exact h.2.2.2 l hl
theorem Mx.inv {S : St} {i k v : Nat} {w : Nat → Nat} {μ0 μ : Mm} (hG : Good S) (hI : mInv S μ0) (hi : i < nRq S) (h : Mx S i k v w μ0 μ) : mInv (updR S i (mvQ (S.2.2 i) k v w)) μ := by
  obtain ⟨h1, h2, h3, h4⟩ := h
  have k0 : ∀ c, ¬ dX c → μ c = μ0 c := fun c hc => h1 c hc
  refine hI.req (fun j hj => hG.d hj) hG.n (fun j _ => by rw [k0 p_MO (by unfold dX; decide)]) (fun c c1 c2 => k0 c (by unfold dX; omega)) h2 ?_ (fun _ => ?_)
  · have hq := hI.2.2.2.1 i (hG.i hi)
    unfold mQ at *
    simp only [mvQ_x (r := S.2.2 i) (k := k) (v := v) (w := w) (x := 0) (by omega), mvQ_x (r := S.2.2 i) (k := k) (v := v) (w := w) (x := 1) (by omega), mvQ_x (r := S.2.2 i) (k := k) (v := v) (w := w) (x := 2) (by omega), mvQ_x (r := S.2.2 i) (k := k) (v := v) (w := w) (x := 4) (by omega), mvQ_x (r := S.2.2 i) (k := k) (v := v) (w := w) (x := 5) (by omega), mvQ_x (r := S.2.2 i) (k := k) (v := v) (w := w) (x := 6) (by omega)]
    rw [k0 p_MO_parts (by unfold dX; decide), k0 p_MO_lines (by unfold dX; decide), k0 p_MO_hasEnded (by unfold dX; decide), k0 p_MO_partNeed (by unfold dX; decide), k0 p_MO_partSet (by unfold dX; decide), k0 p_MO_lineFrom (by unfold dX; decide), k0 p_MO_lineTo (by unfold dX; decide), k0 p_MO_lineNeed (by unfold dX; decide)]
    exact hq
  · obtain ⟨a1, a2, a3, a4⟩ := hI.2.2.2.2 i hi
    refine ⟨fun m hm => ?_, fun l hl => ?_, ?_, ?_⟩
    · rw [mvQ_x (by omega)] at hm
      rw [mvQ_3]; exact h3 m hm
    · rw [mvQ_x (by omega)] at hl
      obtain ⟨b1, b2, b3, b4⟩ := a2 l hl
      rw [mvQ_7, mvQ_x (by omega), mvQ_x (by omega), mvQ_x (by omega), k0 p_MO_amount (by unfold dX; decide), k0 p_MO_rest (by unfold dX; decide), k0 p_MO_second (by unfold dX; decide)]
      exact ⟨h4 l hl, b2, b3, b4⟩
    · rw [mvQ_x (by omega), k0 p_MO_manner (by unfold dX; decide)]; exact a3
    · rw [mvQ_x (by omega), k0 p_MO_time (by unfold dX; decide)]; exact a4
theorem Mx.q {S : St} {i k v : Nat} {w : Nat → Nat} {μ0 μ : Mm} (h : Mx S i k v w μ0 μ) (hG : Good S) (hI : mInv S μ0) (hi : i < nRq S) : mQ i (S.2.2 i) μ := by
  have hq := hI.2.2.2.1 i (hG.i hi)
  have k0 : ∀ c, ¬ dX c → μ c = μ0 c := fun c hc => h.1 c hc
  unfold mQ at *
  rw [k0 p_MO_parts (by unfold dX; decide), k0 p_MO_lines (by unfold dX; decide), k0 p_MO_hasEnded (by unfold dX; decide), k0 p_MO_partNeed (by unfold dX; decide), k0 p_MO_partSet (by unfold dX; decide), k0 p_MO_lineFrom (by unfold dX; decide), k0 p_MO_lineTo (by unfold dX; decide), k0 p_MO_lineNeed (by unfold dX; decide)]
  exact hq
theorem Mx.way {S : St} {i k v l x : Nat} {w : Nat → Nat} {μ0 μ : Mm} (h : Mx S i k v w μ0 μ) (hl : l < 3) : Mx S i k v (setw w l x) μ0 (up2 μ p_MO_way (3 * i + l) (nI x)) := by
  obtain ⟨h1, h2, h3, h4⟩ := h
  refine ⟨h1.tr (Sm.up (by unfold dX; decide)), h2.tr (Oth.up (fun hc => absurd hc (by decide)) (fun _ _ => by omega)), fun j hj => ?_, fun j hj => ?_⟩
  · rw [u_ne (by decide)]; exact h3 j hj
  · rw [u_eq]
    unfold setw
    by_cases hjl : j = l
    · rw [if_pos hjl, hjl, d_eq]
    · rw [if_neg hjl, d_ne (by omega)]; exact h4 j hj
theorem Mx.at {S : St} {i k v v2 : Nat} {w : Nat → Nat} {μ0 μ : Mm} (h : Mx S i k v w μ0 μ) (hk : k < 3) : Mx S i k v2 w μ0 (up2 μ p_MO_at (3 * i + k) (nI v2)) := by
  obtain ⟨h1, h2, h3, h4⟩ := h
  refine ⟨h1.tr (Sm.up (by unfold dX; decide)), h2.tr (Oth.up (fun hc => absurd hc (by decide)) (fun _ _ => by omega)), fun j hj => ?_, fun j hj => ?_⟩
  · rw [u_eq]
    by_cases hjk : j = k
    · rw [if_pos hjk, hjk, d_eq]
    · rw [if_neg hjk, d_ne (by omega), h3 j hj, if_neg hjk]
  · rw [u_ne (by decide)]; exact h4 j hj
theorem Mx.start {S : St} {i k : Nat} {μ : Mm} (hI : mInv S μ) (hi : i < nRq S) : Mx S i k (S.2.2 i 3 k) (S.2.2 i 7) μ μ := by
  obtain ⟨a1, a2, -⟩ := hI.2.2.2.2 i hi
  refine ⟨Sm.rf, Oth.rf, fun j hj => ?_, fun l hl => (a2 l hl).1⟩
  rw [a1 j hj]
  by_cases hjk : j = k
  · rw [if_pos hjk, hjk]
  · rw [if_neg hjk]
theorem s_back {S : St} {i k v : Nat} {w : Nat → Nat} {μ0 μ : Mm} {q : Mm → Prop} (hG : Good S) (hI : mInv S μ0) (hi : i < nRq S) (hk : k < S.2.2 i 0 10) (hM : Mx S i k v w μ0 μ) (ho : ∀ l, l < S.2.2 i 0 11 → μ 51 l = nI (S.2.2 i 7 l)) (h : ∀ μ2, Sm dX μ0 μ2 → mInv S μ2 → q μ2) : Wp_X8_back (nI i) (nI k) (nI (S.2.2 i 3 k)) μ q := by
  have hgd := hG.d (hG.i hi)
  have h10 := hgd.1
  have h11 := hgd.2.1
  have hi13 := hG.i hi
  unfold Wp_X8_back
  intro K14 h14
  unfold F_X8_back_e
  rw [nI_pk3, nI_add, nI_clamp (show 3 * i + k < 2 ^ 31 by omega)]
  refine ⟨inN (by omega) (by omega), ?_⟩
  refine dn (P := fun l => ∀ μ2, Mx S i k (S.2.2 i 3 k) (fun j => if j < l then S.2.2 i 7 j else w j) μ0 μ2 → (∀ l, l < S.2.2 i 0 11 → μ2 51 l = nI (S.2.2 i 7 l)) → K14 (nI i) (nI l) μ2) (n := S.2.2 i 0 11) ?_ ?_ _ ((hM.at (v2 := S.2.2 i 3 k) (by omega)).congr (fun l hl => by rw [if_neg (by omega)])) (fun l hl => by rw [u_ne (by decide)]; exact ho l hl)
  · intro μ2 hM2 _
    refine h14 _ _ _ ?_
    unfold F_X8_back_14
    rw [nI_clamp (by omega), (hM2.q hG hI hi).2.1]
    refine ⟨inN (by omega) (by omega), br_t (le_nI (Nat.le_refl _) (by omega)) ?_⟩
    have hM3 := hM2.congr (w2 := S.2.2 i 7) (fun l hl => by rw [if_pos hl])
    have := hM3.inv hG hI hi
    rw [mvQ_id, updR_self] at this
    exact h μ2 hM2.1 this
  · intro l hl hnx μ2 hM2 ho2
    refine h14 _ _ _ ?_
    unfold F_X8_back_14
    rw [nI_clamp (show i < 2 ^ 31 by omega), (hM2.q hG hI hi).2.1, nI_pk3, nI_add, nI_clamp (show 3 * i + l < 2 ^ 31 by omega), nI_clamp (show l < 2 ^ 31 by omega), i1]
    refine ⟨inN (by omega) (by omega), br_f (not_le_nI hl (by omega)) ⟨inN (by omega) (by omega), inN (by omega) (by omega), ?_⟩⟩
    rw [show μ2 p_MO_oldWay l = nI (S.2.2 i 7 l) from ho2 l hl]
    refine hnx _ ((hM2.way (by omega)).congr (fun j hj => ?_)) (fun j hj => by rw [u_ne (by decide)]; exact ho2 j hj)
    unfold setw
    by_cases hjl : j = l
    · rw [if_pos hjl, if_pos (by omega), hjl]
    · rw [if_neg hjl]
      dsimp only
      by_cases hlt : j < l
      · rw [if_pos hlt, if_pos (by omega)]
      · rw [if_neg hlt, if_neg (by omega)]
def nwS (S : St) (i k v : Nat) (n : Nat) : Nat := sm (fun l => if isL (S.2.2 i) l k = true then pc (nwL S i k v l) else 0) n
set_option maxHeartbeats 1000000 in
theorem s_moves {S : St} {i k v : Nat} {μ : Mm} {q : Int32 → Mm → Prop} (hG : Good S) (hI : mInv S μ) (hi : i < nRq S) (hk : k < S.2.2 i 0 10) (hv : v < nNd S)
    (h : ∀ μ2, Sm dX μ μ2 → (mvOk S i k v = true → Mx S i k v (nwW S i k v) μ μ2 ∧ ∀ l, l < S.2.2 i 0 11 → μ2 51 l = nI (S.2.2 i 7 l)) → (mvOk S i k v = false → mInv S μ2) → q (if mvOk S i k v = true then nI (nwS S i k v (S.2.2 i 0 11)) else -1) μ2) : Wp_X8_moves (nI i) (nI k) (nI v) μ q := by
  have hb := hG.b hi
  have h11 := hb.1
  have hgd := hG.d (hG.i hi)
  have h10 := hgd.1
  have hi13 := hG.i hi
  have hN := hG.1
  have hL := hG.L
  unfold Wp_X8_moves
  intro K53 K127 K205 K370 h53 h127 h205 h370
  unfold F_X8_moves_e
  refine r_sums hG hI (fun μ1 f1 hR1 hI1 => ?_)
  have s01 : Sm dX μ μ1 := Sm.mono f1 (fun c hc => by unfold dX; rcases hc with rfl | rfl <;> decide)
  have M1 : Mx S i k (S.2.2 i 3 k) (S.2.2 i 7) μ μ1 := (Mx.start hI hi).fr (Sm.mono f1 (fun c hc => by rcases hc with rfl | rfl <;> decide))
  have hq1 := hI1.2.2.2.1 i hi13
  have v39 : vp_in (nI (3 * i + k)) 39 := inN (by omega) (by omega)
  rw [nI_pk3, nI_add, nI_clamp (show 3 * i + k < 2 ^ 31 by omega), nI_clamp (show v < 2 ^ 31 by omega)]
  refine ⟨v39, ?_⟩
  rw [(hq1.2.2.2.1 k hk).2]
  refine s_has (by have := (hgd.2.2.1 k hk).2.2; omega) (by omega) ?_
  -- behind the look at the parts
  have k127 : mayB S i k v = true → K127 (nI i) (nI k) (nI (3 * i)) 1 (nI (S.2.2 i 3 k)) (nI 0) (up2 μ1 p_MO_at (3 * i + k) (nI v)) := by
    intro hmay
    obtain ⟨hPn, hPd⟩ := mvP_ok hG hi hv hmay
    have eqA : ∀ l q, q < nLk S → mvA (nLk S) (S.2.2 i) k (μ1 p_MO_free) l q = mvA (nLk S) (S.2.2 i) k (lfL S) l q := mvA_congr hR1.2
    obtain ⟨FA, hFA⟩ : ∃ FA, FA = mvA (nLk S) (S.2.2 i) k (μ1 p_MO_free) (S.2.2 i 0 11) := ⟨_, rfl⟩
    obtain ⟨W, hW⟩ : ∃ W, W = Wof S.1 (S.2.2 i) (mvP (S.2.2 i) k v) := ⟨_, rfl⟩
    have enw : ∀ l, mvw (nLk S) W (S.2.2 i) k FA l = nwL S i k v l := fun l => by
      rw [hFA, hW]
      exact (mvG_congr (eqA _) l).2
    have h9 : ∀ l, W9 (nLk S) (W l) := fun l => by rw [hW]; exact wl_W9 S.1 _ _
    have hnl : ∀ l, nwL S i k v l < 2 ^ nLk S := fun l => by rw [← enw l]; exact fwp_lt (h9 l)
    have k370f : mvOk S i k v = false → ∀ (n : Int32) (w : Nat → Nat) (μ2 : Mm), Mx S i k v w μ μ2 → (∀ l, l < S.2.2 i 0 11 → μ2 51 l = nI (S.2.2 i 7 l)) → K370 (nI i) (nI k) 0 (nI (S.2.2 i 3 k)) n μ2 := by
      intro hok n w μ2 hM2 ho2
      rw [hok] at h
      refine h370 _ _ _ _ _ _ ?_
      unfold F_X8_moves_370
      refine rb_t rfl ?_
      refine s_back hG hI hi hk hM2 ho2 (fun μ3 s3 hI3 => br_t rfl ?_)
      exact h μ3 s3 (fun hc => by cases hc) (fun _ => hI3)
    -- the ways given anew
    have k205 : ∀ μ2, Mx S i k v (S.2.2 i 7) μ μ2 → μ2 p_MO_free = FA → (∀ l, l < S.2.2 i 0 11 → μ2 51 l = nI (S.2.2 i 7 l)) → K205 (nI i) (nI k) (nI (3 * i)) 1 (nI (S.2.2 i 3 k)) (nI 0) (nI 0) μ2 := by
      intro μ2 hM2 hf2 ho2
      refine dn (P := fun l => al (fun l => !isL (S.2.2 i) l k || !decide (nwL S i k v l = 0)) l = true → ∀ μ2, Mx S i k v (fun j => if isL (S.2.2 i) j k = true ∧ j < l then nwL S i k v j else S.2.2 i 7 j) μ μ2 → μ2 p_MO_free = mvG (nLk S) W (S.2.2 i) k FA l → (∀ l, l < S.2.2 i 0 11 → μ2 51 l = nI (S.2.2 i 7 l)) → K205 (nI i) (nI k) (nI (3 * i)) 1 (nI (S.2.2 i 3 k)) (nI (nwS S i k v l)) (nI l) μ2) (n := S.2.2 i 0 11) ?_ ?_ rfl μ2 (hM2.congr (fun j hj => by rw [if_neg (fun hx => by omega)])) hf2 ho2
      · intro hal μ2 hM2 hf2 ho2
        refine h205 _ _ _ _ _ _ _ _ ?_
        unfold F_X8_moves_205
        rw [nI_clamp (by omega), (hM2.q hG hI hi).2.1]
        refine ⟨inN (by omega) (by omega), br_t (le_nI (Nat.le_refl _) (by omega)) (h370 _ _ _ _ _ _ ?_)⟩
        unfold F_X8_moves_370
        have hok : mvOk S i k v = true := by unfold mvOk; rw [hmay, hal]; rfl
        rw [hok] at h
        have hM3 := hM2.congr (w2 := nwW S i k v) (fun j hj => by
          unfold nwW
          by_cases hy : isL (S.2.2 i) j k = true
          · rw [if_pos ⟨hy, hj⟩, if_pos hy]
          · rw [if_neg (fun hx => hy hx.1), if_neg hy])
        exact rb_f (by decide) (br_f (by decide) (h μ2 hM3.1 (fun _ => ⟨hM3, ho2⟩) (fun hc => by cases hc)))
      · intro l hl hnx hal μ2 hM2 hf2 ho2
        refine h205 _ _ _ _ _ _ _ _ ?_
        unfold F_X8_moves_205
        have hq2 := hM2.q hG hI hi
        have hI2 := hM2.inv hG hI hi
        obtain ⟨b1, b2, b3, b4, b5⟩ := hgd.2.2.2.1 l hl
        obtain ⟨a4, a5, a6⟩ := hq2.2.2.2.2 l hl
        have v39l : vp_in (nI (3 * i + l)) 39 := inN (by omega) (by omega)
        have c39 : (nI (3 * i + l)).toNatClampNeg = 3 * i + l := nI_clamp (by omega)
        rw [nI_clamp (show i < 2 ^ 31 by omega), hq2.2.1, nI_add, i1]
        refine ⟨inN (by omega) (by omega), br_f (not_le_nI hl (by omega)) (br_f (by decide) ?_)⟩
        refine s_isOf hi13 hb hq2 hl (by omega) ?_
        have stepAl : al (fun l => !isL (S.2.2 i) l k || !decide (nwL S i k v l = 0)) (l + 1) = (al (fun l => !isL (S.2.2 i) l k || !decide (nwL S i k v l = 0)) l && (!isL (S.2.2 i) l k || !decide (nwL S i k v l = 0))) := rfl
        have stepS : nwS S i k v (l + 1) = nwS S i k v l + (if isL (S.2.2 i) l k = true then pc (nwL S i k v l) else 0) := rfl
        refine bq (fun hx => ?_) (fun hx => ?_)
        · rw [stepS, if_neg (by rw [hx]; decide), Nat.add_zero] at hnx
          refine hnx (by rw [stepAl, hal, hx]; rfl) μ2 (hM2.congr (fun j hj => ?_)) ?_ ho2
          · by_cases hjl : j = l
            · subst hjl
              rw [if_neg (fun hy => by rw [hx] at hy; cases hy.1), if_neg (fun hy => by rw [hx] at hy; cases hy.1)]
            · by_cases hy : isL (S.2.2 i) j k = true ∧ j < l
              · rw [if_pos hy, if_pos ⟨hy.1, by omega⟩]
              · rw [if_neg hy, if_neg (fun hz => hy ⟨hz.1, by omega⟩)]
          · rw [hf2]
            show _ = if isL (S.2.2 i) l k = true then _ else mvG (nLk S) W (S.2.2 i) k FA l
            rw [if_neg (by rw [hx]; decide)]
        · rw [c39, a4, a5, nI_add, nI_add, nI_clamp (show 3 * i + S.2.2 i 4 l < 2 ^ 31 by omega), nI_clamp (show 3 * i + S.2.2 i 5 l < 2 ^ 31 by omega)]
          refine ⟨v39l, inN (by omega) (by omega), v39l, inN (by omega) (by omega), ?_⟩
          rw [hM2.2.2.1 _ b1, hM2.2.2.1 _ b2]
          have hPa : mvP (S.2.2 i) k v (S.2.2 i 4 l) < 6 := by have := hPn _ b1; omega
          have hPb : mvP (S.2.2 i) k v (S.2.2 i 5 l) < 6 := by have := hPn _ b2; omega
          have hPab := hPd _ _ b1 b2 b3
          have h15 := wl_15 hG.2.2.1 hPa hPb hPab
          change Wp_X8_finds (nI l) (nI (mvP (S.2.2 i) k v (S.2.2 i 4 l))) (nI (mvP (S.2.2 i) k v (S.2.2 i 5 l))) μ2 _
          refine s_finds hG.2.2.1 (by omega) hPa hPb hPab hI2.1.1 (fun μ3 hfd hF3 => ?_)
          have hM3 := hM2.fr (hF3.sm.mono (fun c hc => by unfold dF at hc; show 41 ≤ c ∧ c ≤ 51; omega))
          have hq3 := hM3.q hG hI hi
          have hI3 := hM3.inv hG hI hi
          rw [(hq3.2.2.2.2 l hl).2.2]
          have hfd : Fnd l (W l) μ3 := by rw [hW]; exact hfd
          refine ⟨v39l, ?_⟩
          refine s_fewest (by omega) hL hI3.1.1.2.1 (h9 l) (by rw [hW]; exact h15) hfd ?_
          have f3 : μ3 p_MO_free = mvG (nLk S) W (S.2.2 i) k FA l := by rw [hF3.sm p_MO_free (by unfold dF; decide)]; exact hf2
          have ew : fwp (okF (nLk S) (μ3 p_MO_free) (nI (S.2.2 i 6 l))) (W l) = nwL S i k v l := by rw [f3]; exact enw l
          rw [ew]
          have hx9 := lt512 hL (hnl l)
          obtain ⟨μ4, hμ4⟩ : ∃ μ4, μ4 = up2 μ3 p_MO_way (3 * i + l) (nI (nwL S i k v l)) := ⟨_, rfl⟩
          rw [← hμ4]
          have hM4 : Mx S i k v (setw (fun j => if isL (S.2.2 i) j k = true ∧ j < l then nwL S i k v j else S.2.2 i 7 j) l (nwL S i k v l)) μ μ4 := by rw [hμ4]; exact hM3.way (by omega)
          have e35 : μ4 p_MO_way (3 * i + l) = nI (nwL S i k v l) := by rw [hμ4, u_eq, d_eq]
          have hq4 := hM4.q hG hI hi
          have hI4 := hM4.inv hG hI hi
          have f4 : μ4 p_MO_free = mvG (nLk S) W (S.2.2 i) k FA l := by rw [hμ4, u_ne (by decide)]; exact f3
          rw [e35, (hq4.2.2.2.2 l hl).2.2]
          refine ⟨v39l, v39l, v39l, ?_⟩
          refine s_takes hL hI4.1.1.2.1 hx9 ?_
          obtain ⟨μ5, hμ5⟩ : ∃ μ5, μ5 = setr μ4 p_MO_free (tkF (nLk S) (nwL S i k v l) (nI (S.2.2 i 6 l)) (μ4 p_MO_free)) := ⟨_, rfl⟩
          rw [← hμ5]
          have s45 : Sm (fun c => 41 ≤ c ∧ c ≤ 51) μ4 μ5 := by rw [hμ5]; exact Sm.set (by decide)
          have hM5 := hM4.fr s45
          have e355 : μ5 p_MO_way (3 * i + l) = nI (nwL S i k v l) := by rw [s45 p_MO_way (by decide)]; exact e35
          have o5 : ∀ l, l < S.2.2 i 0 11 → μ5 51 l = nI (S.2.2 i 7 l) := fun j hj => by
            rw [hμ5, setr_ne (by decide), hμ4, u_ne (by decide), hF3.sm 51 (by unfold dF; omega)]; exact ho2 j hj
          refine ⟨v39l, ?_⟩
          rw [e355]
          refine s_bits hx9 ⟨v39l, ?_⟩
          rw [e355, e0 (by omega)]
          have hM6 := hM5.congr (w2 := fun j => if isL (S.2.2 i) j k = true ∧ j < l + 1 then nwL S i k v j else S.2.2 i 7 j) (fun j hj => by
            unfold setw
            by_cases hjl : j = l
            · subst hjl
              rw [if_pos rfl, if_pos ⟨hx, by omega⟩]
            · rw [if_neg hjl]
              dsimp only
              by_cases hy : isL (S.2.2 i) j k = true ∧ j < l
              · rw [if_pos hy, if_pos ⟨hy.1, by omega⟩]
              · rw [if_neg hy, if_neg (fun hz => hy ⟨hz.1, by omega⟩)])
          rw [nI_add]
          rw [stepS, if_pos hx] at hnx
          by_cases hz : nwL S i k v l = 0
          · have hok : mvOk S i k v = false := by
              unfold mvOk
              cases ha : al (fun l => !isL (S.2.2 i) l k || !decide (nwL S i k v l = 0)) (S.2.2 i 0 11) with
              | false => rw [Bool.and_false]
              | true =>
                have := (al_iff _ _).1 ha l hl
                rw [hx, decide_eq_true hz] at this
                cases this
            refine br_t hz (h205 _ _ _ _ _ _ _ _ ?_)
            unfold F_X8_moves_205
            rw [nI_clamp (show i < 2 ^ 31 by omega), (hM6.q hG hI hi).2.1]
            exact ⟨inN (by omega) (by omega), fun _ => k370f hok _ _ μ5 hM6 o5, fun _ => br_t rfl (k370f hok _ _ μ5 hM6 o5)⟩
          · refine br_f hz (hnx (by rw [stepAl, hal, hx, decide_eq_false hz]; rfl) μ5 hM6 ?_ o5)
            rw [hμ5, setr_self, f4]
            show _ = if isL (S.2.2 i) l k = true then tkF (nLk S) (mvw (nLk S) W (S.2.2 i) k FA l) (nI (S.2.2 i 6 l)) (mvG (nLk S) W (S.2.2 i) k FA l) else _
            rw [if_pos hx, enw l]
    refine dn (P := fun l => ∀ μ2, Mx S i k v (S.2.2 i 7) μ μ2 → μ2 p_MO_free = mvA (nLk S) (S.2.2 i) k (μ1 p_MO_free) l → (∀ j, j < l → μ2 51 j = nI (S.2.2 i 7 j)) → K127 (nI i) (nI k) (nI (3 * i)) 1 (nI (S.2.2 i 3 k)) (nI l) μ2) (n := S.2.2 i 0 11) ?_ ?_ _ (M1.at (by omega)) (u_ne (by decide)) (fun j hj => by omega)
    · intro μ2 hM2 hf2 ho2
      refine h127 _ _ _ _ _ _ _ ?_
      unfold F_X8_moves_127
      rw [nI_clamp (by omega), (hM2.q hG hI hi).2.1]
      exact ⟨inN (by omega) (by omega), br_t (le_nI (Nat.le_refl _) (by omega)) (k205 μ2 hM2 (by rw [hf2, hFA]) ho2)⟩
    · intro l hl hnx μ2 hM2 hf2 ho2
      refine h127 _ _ _ _ _ _ _ ?_
      unfold F_X8_moves_127
      have v39l : vp_in (nI (3 * i + l)) 39 := inN (by omega) (by omega)
      rw [nI_clamp (show i < 2 ^ 31 by omega), (hM2.q hG hI hi).2.1, nI_add, i1, nI_clamp (show 3 * i + l < 2 ^ 31 by omega), nI_clamp (show l < 2 ^ 31 by omega), hM2.2.2.2 l hl]
      refine ⟨inN (by omega) (by omega), br_f (not_le_nI hl (by omega)) ⟨v39l, inN (by omega) (by omega), ?_⟩⟩
      have s3 : Sm (fun c => 41 ≤ c ∧ c ≤ 51) μ2 (up2 μ2 p_MO_oldWay l (nI (S.2.2 i 7 l))) := Sm.up (by decide)
      have hM3 := hM2.fr s3
      have ho3 : ∀ j, j < l + 1 → (up2 μ2 p_MO_oldWay l (nI (S.2.2 i 7 l))) 51 j = nI (S.2.2 i 7 j) := fun j hj => by
        rw [show (51 : Nat) = p_MO_oldWay from rfl, u_eq]
        by_cases hjl : j = l
        · rw [hjl, d_eq]
        · rw [d_ne hjl]; exact ho2 j (by omega)
      have f3 : (up2 μ2 p_MO_oldWay l (nI (S.2.2 i 7 l))) p_MO_free = mvA (nLk S) (S.2.2 i) k (μ1 p_MO_free) l := by rw [u_ne (by decide)]; exact hf2
      generalize up2 μ2 p_MO_oldWay l (nI (S.2.2 i 7 l)) = μ3 at hM3 ho3 f3 ⊢
      have hq3 := hM3.q hG hI hi
      refine s_isOf hi13 hb hq3 hl (by omega) ?_
      have stepA : mvA (nLk S) (S.2.2 i) k (μ1 p_MO_free) (l + 1) = if isL (S.2.2 i) l k = true then tkF (nLk S) (S.2.2 i 7 l) (-nI (S.2.2 i 6 l)) (mvA (nLk S) (S.2.2 i) k (μ1 p_MO_free) l) else mvA (nLk S) (S.2.2 i) k (μ1 p_MO_free) l := rfl
      refine bq (fun hx => ?_) (fun hx => ?_)
      · exact hnx μ3 hM3 (by rw [stepA, if_neg (by rw [hx]; decide)]; exact f3) ho3
      · refine ⟨v39l, v39l, ?_⟩
        rw [hM3.2.2.2 l hl, (hq3.2.2.2.2 l hl).2.2]
        refine s_takes hL (hM3.inv hG hI hi).1.1.2.1 (hb.2.2.2 l hl).1 ?_
        refine hnx _ (hM3.fr (Sm.set (by decide))) ?_ (fun j hj => by rw [setr_ne (by decide)]; exact ho3 j hj)
        rw [setr_self, stepA, if_pos hx, f3]
  -- the parts
  have k53 : ∀ b, b = ((S.2.2 i 2 k).testBit v && !decide (lfN S v < nI (S.2.2 i 1 k))) → K53 (nI i) (nI k) (nI v) (nI (3 * i)) (bI b) (nI 0) μ1 := by
    intro b hbb
    rw [show b = (b && al (fun j => !decide (S.2.2 i 3 j = v)) 0) by show b = (b && true); rw [Bool.and_true]]
    refine dn (P := fun j => K53 (nI i) (nI k) (nI v) (nI (3 * i)) (bI (b && al (fun j => !decide (S.2.2 i 3 j = v)) j)) (nI j) μ1) (n := S.2.2 i 0 10) ?_ ?_
    · refine h53 _ _ _ _ _ _ _ ?_
      unfold F_X8_moves_53
      rw [nI_clamp (by omega), hq1.1]
      refine ⟨inN (by omega) (by omega), br_t (le_nI (Nat.le_refl _) (by omega)) ?_⟩
      rw [nI_add, nI_clamp (show 3 * i + k < 2 ^ 31 by omega)]
      have hmay : mayB S i k v = (b && al (fun j => !decide (S.2.2 i 3 j = v)) (S.2.2 i 0 10)) := by
        unfold mayB
        rw [hbb]
        cases (S.2.2 i 2 k).testBit v <;> cases al (fun j => !decide (S.2.2 i 3 j = v)) (S.2.2 i 0 10) <;> cases decide (lfN S v < nI (S.2.2 i 1 k)) <;> rfl
      rw [← hmay]
      refine bqr (fun hm => ?_) (fun hm => ?_)
      · have hok : mvOk S i k v = false := by unfold mvOk; rw [hm]; rfl
        rw [hok] at h
        exact h μ1 s01 (fun hc => by cases hc) (fun _ => hI1)
      · have := k127 hm
        rw [M1.2.2.1 k hk, if_pos rfl, hm]
        exact ⟨v39, v39, this⟩
    · intro j hj hn
      refine h53 _ _ _ _ _ _ _ ?_
      unfold F_X8_moves_53
      rw [nI_clamp (show i < 2 ^ 31 by omega), hq1.1, nI_add (3 * i) j, i1, nI_clamp (show 3 * i + j < 2 ^ 31 by omega), (hI1.2.2.2.2 i hi).1 j hj]
      refine ⟨inN (by omega) (by omega), br_f (not_le_nI hj (by omega)) ?_⟩
      have hrj := (hG.ok hi).1 j hj
      rw [e1 (by omega) (by omega)]
      rw [show (b && al (fun j => !decide (S.2.2 i 3 j = v)) (j + 1)) = (b && al (fun j => !decide (S.2.2 i 3 j = v)) j && !decide (S.2.2 i 3 j = v)) from (Bool.and_assoc _ _ _).symm] at hn
      refine bq (fun hx => ?_) (fun hx => ⟨inN (by omega) (by omega), ?_⟩)
      · rw [hx, Bool.false_and] at hn; exact hn
      · rw [hx, Bool.true_and] at hn
        by_cases hc : S.2.2 i 3 j = v
        · rw [decide_eq_true hc] at hn; exact br_t hc hn
        · rw [decide_eq_false hc] at hn; exact br_f hc hn
  refine bq (fun hx => k53 false (by rw [hx]; rfl)) (fun hx => ⟨inN (by omega) (by omega), v39, ?_⟩)
  rw [hR1.1 v hv, (hq1.2.2.2.1 k hk).1]
  by_cases hlt : lfN S v < nI (S.2.2 i 1 k)
  · exact br_t hlt (k53 false (by rw [hx, decide_eq_true hlt]; rfl))
  · exact br_f hlt (k53 true (by rw [hx, decide_eq_false hlt]; rfl))
