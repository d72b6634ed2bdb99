theorem mvS_good {S : St} {i k v : Nat} (hG : Good S) (hi : i < nRq S) (hm : Mvb (S.2.2 i)) (hv : v < nNd S) (hok : mvOk S i k v = true) : Good (mvS S i k v) := by
  have hmay : mayB S i k v = true := by unfold mvOk at hok; rw [Bool.and_eq_true] at hok; exact hok.1
  obtain ⟨hPn, hPd⟩ := mvP_ok hG hi hv hmay
  have hnw : ∀ l, l < S.2.2 i 0 11 → nwW S i k v l < 2 ^ nLk S := fun l hl => by
    unfold nwW
    split
    · exact fwp_lt (wl_W9 S.1 _ _)
    · exact ((hG.ok hi).2 l hl).1
  obtain ⟨g1, g2, g3, g4, g5, g6, g7, g8, g9, g10, g11⟩ := hG
  refine ⟨g1, g2, g3, g4, g5, g6, g7, fun j hj => ?_, fun j hj => ?_, fun j hj hn => ?_, fun j hj hn => ?_⟩
  · by_cases hji : j = i
    · subst hji
      show GoodD ((updR S j (mvQ (S.2.2 j) k v (nwW S j k v))).2.2 j)
      rw [updR_i]
      have := g8 j hj
      unfold GoodD at *
      simp only [mvQ_x (r := S.2.2 j) (k := k) (v := v) (w := nwW S j k v) (x := 0) (by omega), mvQ_x (r := S.2.2 j) (k := k) (v := v) (w := nwW S j k v) (x := 1) (by omega), mvQ_x (r := S.2.2 j) (k := k) (v := v) (w := nwW S j k v) (x := 2) (by omega), mvQ_x (r := S.2.2 j) (k := k) (v := v) (w := nwW S j k v) (x := 4) (by omega), mvQ_x (r := S.2.2 j) (k := k) (v := v) (w := nwW S j k v) (x := 5) (by omega), mvQ_x (r := S.2.2 j) (k := k) (v := v) (w := nwW S j k v) (x := 6) (by omega)]
      exact this
    · show GoodD ((updR S i (mvQ (S.2.2 i) k v (nwW S i k v))).2.2 j)
      rw [updR_ne hji]; exact g8 j hj
  · have hj : j < nRq S := hj
    by_cases hji : j = i
    · subst hji
      show GoodP (nNd S) (nLk S) ((updR S j (mvQ (S.2.2 j) k v (nwW S j k v))).2.2 j) ∧ (updR S j (mvQ (S.2.2 j) k v (nwW S j k v))).2.2 j 0 12 ≤ 2
      rw [updR_i]
      have hp := g9 j hj
      refine ⟨⟨?_, fun m hm2 => ?_, fun a b ha hb hab => ?_, fun l hl => ?_⟩, ?_⟩
      · rw [mvQ_x (by omega)]; exact hp.1.1
      · rw [mvQ_x (by omega)] at hm2; exact hPn m hm2
      · rw [mvQ_x (by omega)] at ha hb; exact hPd a b ha hb hab
      · rw [mvQ_x (by omega)] at hl
        obtain ⟨a1, a2, a3, a4, a5, a6, a7⟩ := hp.1.2.2.2 l hl
        have h10 := (hm.2.2 l hl).2.2
        rw [mvQ_7, mvQ_x (x := 9) (by omega), mvQ_x (x := 10) (by omega), mvQ_x (x := 8) (by omega), mvQ_x (x := 6) (by omega), mvQ_x (x := 0) (y := 12) (by omega)]
        exact ⟨hnw l hl, a2, a3, a4, a5, fun q _ _ => by rw [h10]; exact Nat.zero_testBit q, a7⟩
      · rw [mvQ_x (by omega)]; exact hp.2
    · show GoodP (nNd S) (nLk S) ((updR S i (mvQ (S.2.2 i) k v (nwW S i k v))).2.2 j) ∧ (updR S i (mvQ (S.2.2 i) k v (nwW S i k v))).2.2 j 0 12 ≤ 2
      rw [updR_ne hji]; exact g9 j hj
  · have hn : nRq S ≤ j := hn
    show (updR S i (mvQ (S.2.2 i) k v (nwW S i k v))).2.2 j 0 14 = 0
    rw [updR_ne (by omega)]; exact g10 j hj hn
  · have hn : nRq S < j := hn
    show (updR S i (mvQ (S.2.2 i) k v (nwW S i k v))).2.2 j 0 10 = 0 ∧ (updR S i (mvQ (S.2.2 i) k v (nwW S i k v))).2.2 j 0 11 = 0
    rw [updR_ne (by omega)]; exact g11 j hj hn
def o_move (S : St) (x y z : Int32) : Ans :=
  if (inR (nRq S) x && inR (nNd S) z && inR (S.2.2 (toN x) 0 10) y) = true then
    (if S.2.2 (toN x) 3 (toN y) = toN z then (2, 0, S) else if mvb (S.2.2 (toN x)) = false then (3, 0, S) else if mvOk S (toN x) (toN y) (toN z) = true then (0, nI (nwS S (toN x) (toN y) (toN z) (S.2.2 (toN x) 0 11)), mvS S (toN x) (toN y) (toN z)) else (0, -1, S))
  else (1, 0, S)
theorem g_move {S : St} {x y z : Int32} (hG : Good S) : Good (o_move S x y z).2.2 := by
  have h6 := hG.1
  have hn := hG.n
  unfold o_move
  split
  · rename_i hb
    rw [Bool.and_eq_true, Bool.and_eq_true] at hb
    split
    · exact hG
    · split
      · exact hG
      · rename_i hmb
        split
        · rename_i hok
          have hx := inR_to (by omega) hb.1.1
          have hz := inR_to (by omega) hb.1.2
          refine mvS_good hG hx.1 (Mvb.of (hG.p hx.1).1 ?_) hz.1 hok
          cases hm : mvb (S.2.2 (toN x)) with
          | true => rfl
          | false => exact absurd hm hmb
        · exact hG
  · exact hG
theorem tt_move {S : St} {x y z : Int32} {μ : Mm} {q : Int32 → Mm → Prop} (hG : Good S) (hI : cInv S μ) (h : tE (o_move S x y z) μ q) : Wp_L_move x y z μ q := by
  unfold Wp_L_move Wp_X7_move F_X7_move_e
  unfold o_move at h
  have hn := hG.n
  have h6 := hG.1
  refine s_isPlaced hI.2.2.1 ?_
  refine bq (fun hx => ?_) (fun hx => ?_)
  · rw [hx, Bool.false_and, Bool.false_and, if_neg (by decide)] at h
    exact Or.inl ⟨rfl, h.no (by decide) hI⟩
  obtain ⟨xa, xe⟩ := inR_to (by omega) hx
  rw [hx, Bool.true_and] at h
  obtain ⟨i, hi'⟩ : ∃ i, i = toN x := ⟨_, rfl⟩
  rw [← hi'] at xa xe h
  rw [xe]
  have ce : (nI i).toNatClampNeg = i := nI_clamp (by omega)
  have hc := hI.rq hG xa
  have hgd := hG.d (hG.i xa)
  have h10 := hgd.1
  have v13 : vp_in (nI i) 13 := inN (by omega) (by omega)
  rw [ce]
  refine ⟨v13, ?_⟩
  refine s_hasPart hc.1.1 ?_
  refine bq (fun hy => ?_) (fun hy => ?_)
  · rw [hy, Bool.and_false, if_neg (by decide)] at h
    exact Or.inl ⟨rfl, h.no (by decide) hI⟩
  obtain ⟨ya, ye⟩ := inR_to (by omega) hy
  rw [hy, Bool.and_true] at h
  obtain ⟨k, hk'⟩ : ∃ k, k = toN y := ⟨_, rfl⟩
  rw [← hk'] at ya ye h
  rw [ye]
  refine s_hasNode (by omega) hI.1.2.1 ?_
  refine bqr (fun hz => ?_) (fun hz => ?_)
  · rw [hz, if_neg (by decide)] at h
    exact Or.inl ⟨rfl, h.no (by decide) hI⟩
  obtain ⟨za, ze⟩ := inR_to (by omega) hz
  rw [hz, if_pos rfl] at h
  obtain ⟨v, hv'⟩ : ∃ v, v = toN z := ⟨_, rfl⟩
  rw [← hv'] at za ze h
  rw [ze]
  refine ⟨v13, ?_⟩
  refine s_nodeOf h10 hc.1.1 ya ?_
  have hr3 := (hG.ok xa).1 k ya
  rw [hc.2.1 k ya, e1 (by omega) (by omega)]
  by_cases hkv : S.2.2 i 3 k = v
  · rw [if_pos hkv] at h
    exact rb_t hkv (Or.inr (Or.inl ⟨rfl, h.no (by decide) hI⟩))
  rw [if_neg hkv] at h
  refine rb_f hkv ?_
  have hb := hG.b xa
  refine s_isMovable hb hc.1 hc.2.2 (hI.2.2.2.2.2 i xa).2.2.1 ?_
  refine bqr (fun hm => ?_) (fun hm => ?_)
  · rw [if_pos hm] at h
    exact Or.inr (Or.inr ⟨rfl, h.no (by decide) hI⟩)
  rw [if_neg (by rw [hm]; decide)] at h
  have hM : Mvb (S.2.2 i) := Mvb.of (hG.p xa).1 hm
  refine s_shift hG hI xa hm ya za (fun μ2 h1 h2 hmc => ?_)
  cases hok : mvOk S i k v with
  | false =>
    rw [if_neg (by rw [hok]; decide)] at h
    exact ⟨fun _ => h.ok (h2 hok) hmc, fun hc => absurd rfl hc⟩
  | true =>
    rw [if_pos hok] at h
    refine ⟨fun hc => absurd hc (by decide), fun _ => ?_⟩
    obtain ⟨hMs, -, -⟩ := h1 hok
    have hI2 : cInv (mvS S i k v) μ2 := hMs.inv hG hI xa hM
    have hG2 := mvS_good hG xa hM za hok
    have hc2 := hI2.rq hG2 (i := i) xa
    have hb2 := hG2.b (i := i) xa
    have er : (mvS S i k v).2.2 i = mvQ (S.2.2 i) k v (nwW S i k v) := updR_i
    refine s_linksOfPart hb2 hc2.1 hc2.2.2 (by omega) ?_
    have el : lnks ((mvS S i k v).2.2 i) k = nwS S i k v (S.2.2 i 0 11) := by
      rw [er]
      unfold lnks nwS
      rw [mvQ_x (by omega)]
      refine sm_congr fun l _ => ?_
      have e1 : isL (mvQ (S.2.2 i) k v (nwW S i k v)) l k = isL (S.2.2 i) l k := by unfold isL; rw [mvQ_x (by omega), mvQ_x (by omega)]
      rw [e1, mvQ_7]
      by_cases hl : isL (S.2.2 i) l k = true
      · rw [if_pos hl, if_pos hl]
        unfold nwW
        rw [if_pos hl]
      · rw [if_neg hl, if_neg hl]
    rw [el]
    exact h.ok hI2 hmc
theorem rr_move {S : St} {x y z : Int32} {μ : Mm} {q : Int32 → Mm → Prop} (hG : Good S) (hI : mInv S μ) (h : rE (o_move S x y z) μ q) : Wp_X8_move x y z μ q := by
  have hn := hG.n
  have h6 := hG.1
  unfold o_move at h
  unfold Wp_X8_move
  intro K37 K80 h37 h80
  unfold F_X8_move_e
  have k80 : ∀ c : Nat, 0 < c → c < 10 → o_move S x y z = (c, 0, S) → K80 x y z (nI c) μ := by
    intro c hc hc9 ho
    unfold o_move at ho
    rw [ho] at h
    refine h80 _ _ _ _ _ ?_
    unfold F_X8_move_80
    refine s_can ?_
    rw [decide_eq_false (by rw [nI_eq0 (by omega)]; omega)]
    exact ⟨fun hc => absurd rfl hc, fun _ => h.no (by omega) hI⟩
  have k37f : (inR (nRq S) x && inR (nNd S) z && inR (S.2.2 (toN x) 0 10) y) = false → K37 x y z 0 μ := by
    intro hf
    refine h37 _ _ _ _ _ ?_
    unfold F_X8_move_37
    exact rb_t rfl (k80 1 (by omega) (by omega) (by unfold o_move; rw [if_neg (by rw [hf]; decide)]))
  refine s_isRequest (by omega) hI.2.1 ?_
  refine bq (fun hx => k37f (by rw [hx]; rfl)) (fun hx => ?_)
  refine s_isNode (by omega) hI.1.2.1 ?_
  refine bq (fun hz => k37f (by rw [hx, hz]; rfl)) (fun hz => ?_)
  obtain ⟨xa, xe⟩ := inR_to (by omega) hx
  have ce : x.toNatClampNeg = toN x := rfl
  have hq := hI.2.2.2.1 (toN x) (hG.i xa)
  have hgd := hG.d (hG.i xa)
  have h10 := hgd.1
  have hv : vp_in x 13 := by rw [xe]; exact inN (by omega) (by omega)
  refine ⟨hv, ?_⟩
  rw [ce, hq.1]
  refine s_isIn ?_
  rw [inR_is y (by omega)]
  refine bq (fun hy => k37f (by rw [hx, hz, hy]; rfl)) (fun hy => ?_)
  have hall : (inR (nRq S) x && inR (nNd S) z && inR (S.2.2 (toN x) 0 10) y) = true := by rw [hx, hz, hy]; rfl
  obtain ⟨ya, ye⟩ := inR_to (by omega) hy
  obtain ⟨za, ze⟩ := inR_to (by omega) hz
  refine h37 _ _ _ _ _ ?_
  unfold F_X8_move_37
  refine rb_f (by decide) ?_
  have hr3 := (hG.ok xa).1 _ ya
  have e39 : (3 : Int32) * x + y = nI (3 * toN x + toN y) := by
    conv => lhs; rw [xe, ye]
    rw [nI_pk3, nI_add]
  rw [e39, nI_clamp (by omega)]
  refine ⟨inN (by omega) (by omega), ?_⟩
  rw [(hI.2.2.2.2 _ xa).1 _ ya]
  have ez : (nI (S.2.2 (toN x) 3 (toN y)) = z) = (S.2.2 (toN x) 3 (toN y) = toN z) := by
    conv => lhs; rw [ze]
    exact e1 (by omega) (by omega)
  rw [ez]
  by_cases hkv : S.2.2 (toN x) 3 (toN y) = toN z
  · exact rb_t hkv (k80 2 (by omega) (by omega) (by unfold o_move; rw [if_pos hall, if_pos hkv]))
  refine rb_f hkv ?_
  have hb := hG.b xa
  have ec : Wp_X8_canMove x = Wp_X8_canMove (nI (toN x)) := by rw [← xe]
  rw [ec]
  refine s_canMove (hG.i xa) hb hq (hI.2.2.2.2 _ xa).2.1 (hI.2.2.2.2 _ xa).2.2.1 ?_
  refine bq (fun hm => k80 3 (by omega) (by omega) (by unfold o_move; rw [if_pos hall, if_neg hkv, if_pos hm])) (fun hm => ?_)
  have hM : Mvb (S.2.2 (toN x)) := Mvb.of (hG.p xa).1 hm
  rw [if_pos hall, if_neg hkv, if_neg (by rw [hm]; decide)] at h
  refine h80 _ _ _ _ _ ?_
  unfold F_X8_move_80
  refine s_can ?_
  refine ⟨fun _ => ?_, fun hc => absurd hc (by decide)⟩
  have em : Wp_X8_moves x y z = Wp_X8_moves (nI (toN x)) (nI (toN y)) (nI (toN z)) := by rw [← xe, ← ye, ← ze]
  rw [em]
  have hI1 : mInv S (up2 μ p_MO 35 0) := hI.can
  have t1 : (up2 μ p_MO 35 0) p_MO 35 = 0 := by rw [u_eq, d_eq]
  have s1 : Sm mCell μ (up2 μ p_MO 35 0) := Sm.up (Or.inl rfl)
  change Wp_X8_moves _ _ _ (up2 μ p_MO 35 0) _
  generalize up2 μ p_MO 35 (0 : Int32) = μ1 at hI1 t1 s1 ⊢
  refine s_moves hG hI1 xa ya za (fun μ2 s2 h1 h2 => ?_)
  have t2 : μ2 p_MO 35 = 0 := by rw [s2 p_MO (by unfold dX; decide)]; exact t1
  have s12 := s1.tr (dX.m s2)
  by_cases hok : mvOk S (toN x) (toN y) (toN z) = true
  · rw [if_pos hok] at h ⊢
    exact h.ok ((h1 hok).1.inv hG hI1 xa) s12 t2
  · rw [if_neg hok] at h ⊢
    have hok : mvOk S (toN x) (toN y) (toN z) = false := by
      cases hm : mvOk S (toN x) (toN y) (toN z) with
      | false => rfl
      | true => exact absurd hm hok
    exact h.ok (h2 hok) s12 t2
