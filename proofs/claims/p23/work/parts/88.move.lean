theorem mvS_good {S : St} {i k v : Nat} (hG : Good S) (hi : i < nRq S) (hm : Mvb (S.2.2 i)) (hv : v < nNd S) (hok : mvOk S i k v = true) : Good (mvS S i k v) := by
  have hmay : mayB S i k v = true := by unfold mvOk at hok; rw [Bool.and_eq_true] at hok; exact hok.1
  obtain ⟨hPn, hPd⟩ := mvP_ok hG hi hv hmay
  have hnw : ∀ l, l < S.2.2 i 0 11 → nwW S i k v l < 2 ^ nLk S := fun l hl => by
    unfold nwW
    split
    · exact fwp_lt (wl_W9 S.1 _ _)
    · exact ((hG.ok hi).2 l hl).1
  obtain ⟨g1, g2, g3, g4, g5, g6, g7, g8, g9, g10, g11⟩ := hG
  refine ⟨g1, g2, g3, g4, g5, g6, g7, fun j hj => ?_, fun j hj => ?_, fun j hj hn => ?_, fun j hj hn => ?_⟩
  · by_cases hji : j = i
    · subst hji
      show GoodD ((updR S j (mvQ (S.2.2 j) k v (nwW S j k v))).2.2 j)
      rw [updR_i]
      have := g8 j hj
      unfold GoodD at *
      simp only [mvQ_x (r := S.2.2 j) (k := k) (v := v) (w := nwW S j k v) (x := 0) (by omega), mvQ_x (r := S.2.2 j) (k := k) (v := v) (w := nwW S j k v) (x := 1) (by omega), mvQ_x (r := S.2.2 j) (k := k) (v := v) (w := nwW S j k v) (x := 2) (by omega), mvQ_x (r := S.2.2 j) (k := k) (v := v) (w := nwW S j k v) (x := 4) (by omega), mvQ_x (r := S.2.2 j) (k := k) (v := v) (w := nwW S j k v) (x := 5) (by omega), mvQ_x (r := S.2.2 j) (k := k) (v := v) (w := nwW S j k v) (x := 6) (by omega)]
      exact this
    · show GoodD ((updR S i (mvQ (S.2.2 i) k v (nwW S i k v))).2.2 j)
      rw [updR_ne hji]; exact g8 j hj
  · have hj : j < nRq S := hj
    by_cases hji : j = i
    · subst hji
      show GoodP (nNd S) (nLk S) ((updR S j (mvQ (S.2.2 j) k v (nwW S j k v))).2.2 j) ∧ (updR S j (mvQ (S.2.2 j) k v (nwW S j k v))).2.2 j 0 12 ≤ 2
      rw [updR_i]
      have hp := g9 j hj
      refine ⟨⟨?_, fun m hm2 => ?_, fun a b ha hb hab => ?_, fun l hl => ?_⟩, ?_⟩
      · rw [mvQ_x (by omega)]; exact hp.1.1
      · rw [mvQ_x (by omega)] at hm2; exact hPn m hm2
      · rw [mvQ_x (by omega)] at ha hb; exact hPd a b ha hb hab
      · rw [mvQ_x (by omega)] at hl
        obtain ⟨a1, a2, a3, a4, a5, a6, a7⟩ := hp.1.2.2.2 l hl
        have h10 := (hm.2.2 l hl).2.2
        rw [mvQ_7, mvQ_x (x := 9) (by omega), mvQ_x (x := 10) (by omega), mvQ_x (x := 8) (by omega), mvQ_x (x := 6) (by omega), mvQ_x (x := 0) (y := 12) (by omega)]
        exact ⟨hnw l hl, a2, a3, a4, a5, fun q _ _ => by rw [h10]; exact Nat.zero_testBit q, a7⟩
      · rw [mvQ_x (by omega)]; exact hp.2
    · show GoodP (nNd S) (nLk S) ((updR S i (mvQ (S.2.2 i) k v (nwW S i k v))).2.2 j) ∧ (updR S i (mvQ (S.2.2 i) k v (nwW S i k v))).2.2 j 0 12 ≤ 2
      rw [updR_ne hji]; exact g9 j hj
  · have hn : nRq S ≤ j := hn
    show (updR S i (mvQ (S.2.2 i) k v (nwW S i k v))).2.2 j 0 14 = 0
    rw [updR_ne (by omega)]; exact g10 j hj hn
  · have hn : nRq S < j := hn
    show (updR S i (mvQ (S.2.2 i) k v (nwW S i k v))).2.2 j 0 10 = 0 ∧ (updR S i (mvQ (S.2.2 i) k v (nwW S i k v))).2.2 j 0 11 = 0
    rw [updR_ne (by omega)]; exact g11 j hj hn
def o_move (S : St) (x y z : Int32) : Ans :=
  if (inR (nRq S) x && inR (nNd S) z && inR (S.2.2 (toN x) 0 10) y) = true then
    (if S.2.2 (toN x) 3 (toN y) = toN z then (2, 0, S) else if mvb (S.2.2 (toN x)) = false then (3, 0, S) else if mvOk S (toN x) (toN y) (toN z) = true then (0, nI (nwS S (toN x) (toN y) (toN z) (S.2.2 (toN x) 0 11)), mvS S (toN x) (toN y) (toN z)) else (0, -1, S))
  else (1, 0, S)
theorem g_move {S : St} {x y z : Int32} (hG : Good S) : Good (o_move S x y z).2.2 := by
  have h6 := hG.1
  have hn := hG.n
  unfold o_move
  split
  · rename_i hb
    rw [Bool.and_eq_true, Bool.and_eq_true] at hb
    split
    · exact hG
    · split
      · exact hG
      · rename_i hmb
        split
        · rename_i hok
          have hx := inR_to (by omega) hb.1.1
          have hz := inR_to (by omega) hb.1.2
          refine mvS_good hG hx.1 (Mvb.of (hG.p hx.1).1 ?_) hz.1 hok
          cases hm : mvb (S.2.2 (toN x)) with
          | true => rfl
          | false => exact absurd hm hmb
        · exact hG
  · exact hG
theorem tt_move {S : St} {x y z : Int32} {μ : Mm} {q : Int32 → Mm → Prop} (hG : Good S) (hI : cInv S μ) (h : tE (o_move S x y z) μ q) : Wp_L_move x y z μ q := by
  unfold Wp_L_move Wp_X7_move F_X7_move_e
  unfold o_move at h
  have hn := hG.n
  have h6 := hG.1
  refine s_isPlaced hI.2.2.1 ?_
  refine bq (fun hx => ?_) (fun hx => ?_)
  · rw [hx, Bool.false_and, Bool.false_and, if_neg (by decide)] at h
    exact Or.inl ⟨rfl, h.no (by decide) hI⟩
  obtain ⟨xa, xe⟩ := inR_to (by omega) hx
  rw [hx, Bool.true_and] at h
  obtain ⟨i, hi'⟩ : ∃ i, i = toN x := ⟨_, rfl⟩
  rw [← hi'] at xa xe h
  rw [xe]
  have ce : (nI i).toNatClampNeg = i := nI_clamp (by omega)
  have hc := hI.rq hG xa
  have hgd := hG.d (hG.i xa)
  have h10 := hgd.1
  have v13 : vp_in (nI i) 13 := inN (by omega) (by omega)
  rw [ce]
  refine ⟨v13, ?_⟩
  refine s_hasPart hc.1.1 ?_
  refine bq (fun hy => ?_) (fun hy => ?_)
  · rw [hy, Bool.and_false, if_neg (by decide)] at h
    exact Or.inl ⟨rfl, h.no (by decide) hI⟩
  obtain ⟨ya, ye⟩ := inR_to (by omega) hy
  rw [hy, Bool.and_true] at h
  obtain ⟨k, hk'⟩ : ∃ k, k = toN y := ⟨_, rfl⟩
  rw [← hk'] at ya ye h
  rw [ye]
  refine s_hasNode (by omega) hI.1.2.1 ?_
  refine bqr (fun hz => ?_) (fun hz => ?_)
  · rw [hz, if_neg (by decide)] at h
    exact Or.inl ⟨rfl, h.no (by decide) hI⟩
  obtain ⟨za, ze⟩ := inR_to (by omega) hz
  rw [hz, if_pos rfl] at h
  obtain ⟨v, hv'⟩ : ∃ v, v = toN z := ⟨_, rfl⟩
  rw [← hv'] at za ze h
  rw [ze]
  refine ⟨v13, ?_⟩
  refine s_nodeOf h10 hc.1.1 ya ?_
  have hr3 := (hG.ok xa).1 k ya
  rw [hc.2.1 k ya, e1 (by omega) (by omega)]
  by_cases hkv : S.2.2 i 3 k = v
  · rw [if_pos hkv] at h
    exact rb_t hkv (Or.inr (Or.inl ⟨rfl, h.no (by decide) hI⟩))
  rw [if_neg hkv] at h
  refine rb_f hkv ?_
  have hb := hG.b xa
  refine s_isMovable hb hc.1 hc.2.2 (hI.2.2.2.2.2 i xa).2.2.1 ?_
  refine bqr (fun hm => ?_) (fun hm => ?_)
  · rw [if_pos hm] at h
    exact Or.inr (Or.inr ⟨rfl, h.no (by decide) hI⟩)
  rw [if_neg (by rw [hm]; decide)] at h
  have hM : Mvb (S.2.2 i) := Mvb.of (hG.p xa).1 hm
  refine s_shift hG hI xa hm ya za (fun μ2 h1 h2 hmc => ?_)
  cases hok : mvOk S i k v with
  | false =>
    rw [if_neg (by rw [hok]; decide)] at h
    exact ⟨fun _ => h.ok (h2 hok) hmc, fun hc => absurd rfl hc⟩
  | true =>
    rw [if_pos hok] at h
    refine ⟨fun hc => absurd hc (by decide), fun _ => ?_⟩
    obtain ⟨hMs, -, -⟩ := h1 hok
    have hI2 : cInv (mvS S i k v) μ2 := hMs.inv hG hI xa hM
    have hG2 := mvS_good hG xa hM za hok
    have hc2 := hI2.rq hG2 (i := i) xa
    have hb2 := hG2.b (i := i) xa
    have er : (mvS S i k v).2.2 i = mvQ (S.2.2 i) k v (nwW S i k v) := updR_i
    refine s_linksOfPart hb2 hc2.1 hc2.2.2 (by omega) ?_
    have el : lnks ((mvS S i k v).2.2 i) k = nwS S i k v (S.2.2 i 0 11) := by
      rw [er]
      unfold lnks nwS
      rw [mvQ_x (by omega)]
      refine sm_congr fun l _ => ?_
      have e1 : isL (mvQ (S.2.2 i) k v (nwW S i k v)) l k = isL (S.2.2 i) l k := by unfold isL; rw [mvQ_x (by omega), mvQ_x (by omega)]
      rw [e1, mvQ_7]
      by_cases hl : isL (S.2.2 i) l k = true
      · rw [if_pos hl, if_pos hl]
        unfold nwW
        rw [if_pos hl]
      · rw [if_neg hl, if_neg hl]
    rw [el]
    exact h.ok hI2 hmc
