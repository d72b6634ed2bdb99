/-! link -/
def lkd (G : GD) (a b : Nat) : Bool := an (fun k => decide (oth G k a = b)) G.1
def addL (G : GD) (a b : Nat) : GD := (G.1 + 1, updN G.2.1 G.1 a, updN G.2.2.1 G.1 b, G.2.2.2)
def o_link (S : St) (x y z : Int32) : Ans :=
  if (inR (nNd S) x && inR (nNd S) y) = true then
    (if x = y ∨ rg 1 99 z = false then (2, 0, S) else if nLk S = 9 ∨ lkd S.1 (toN x) (toN y) = true then (3, 0, S) else (0, nI (nLk S), (addL S.1 (toN x) (toN y), set2 S.2.1 2 (nLk S) (toN z), S.2.2)))
  else (1, 0, S)
theorem oth_add {G : GD} {a b k v : Nat} (hk : k < G.1) : oth (addL G a b) k v = oth G k v := by
  unfold oth addL updN
  simp only [if_neg (Nat.ne_of_lt hk)]
theorem oth_new {G : GD} {a b v : Nat} : oth (addL G a b) G.1 v = if a = v then b else if b = v then a else 6 := by
  unfold oth addL updN
  simp only [if_true]
theorem oth_sym {G : GD} {k a b : Nat} (ha : a < 6) (hb : b < 6) (hd : G.2.1 k ≠ G.2.2.1 k) (h : oth G k a = b) : oth G k b = a := by
  unfold oth at *
  by_cases h1 : G.2.1 k = a
  · rw [if_pos h1] at h
    rw [if_neg (by omega), if_pos h]
    exact h1
  · rw [if_neg h1] at h
    by_cases h2 : G.2.2.1 k = a
    · rw [if_pos h2] at h
      rw [if_pos h]
      exact h2
    · rw [if_neg h2] at h
      omega
theorem net_add {G : GD} {a b : Nat} (hG : NetOk G) (h9 : G.1 < 9) (ha : a < 6) (hb : b < 6) (hab : a ≠ b) (hl : lkd G a b = false) : NetOk (addL G a b) := by
  obtain ⟨g1, g2, g3, g4⟩ := hG
  have hno : ∀ k, k < G.1 → oth G k a ≠ b := by
    intro k hk hc
    have : lkd G a b = true := (an_iff _ _).2 ⟨k, hk, decide_eq_true hc⟩
    rw [hl] at this; cases this
  have key : ∀ j, j < G.1 → ∀ v, v < 6 → oth G j v = (if a = v then b else if b = v then a else 6) → oth G j v = 6 := by
    intro j hj v hv h
    by_cases h1 : a = v
    · rw [if_pos h1] at h
      subst h1
      exact absurd h (hno j hj)
    · rw [if_neg h1] at h
      by_cases h2 : b = v
      · rw [if_pos h2] at h
        subst h2
        exact absurd (oth_sym hb ha (g3 j hj) h) (hno j hj)
      · rw [if_neg h2] at h; exact h
  refine ⟨show G.1 + 1 ≤ 9 by omega, fun k hk => ?_, fun k hk => ?_, fun j k hj hk hjk v hv h => ?_⟩
  · have hk : k < G.1 + 1 := hk
    show updN G.2.1 G.1 a k < 6 ∧ updN G.2.2.1 G.1 b k < 6
    unfold updN
    by_cases hkn : k = G.1
    · simp only [if_pos hkn]; exact ⟨ha, hb⟩
    · simp only [if_neg hkn]; exact g2 k (by omega)
  · have hk : k < G.1 + 1 := hk
    show updN G.2.1 G.1 a k ≠ updN G.2.2.1 G.1 b k
    unfold updN
    by_cases hkn : k = G.1
    · simp only [if_pos hkn]; exact hab
    · simp only [if_neg hkn]; exact g3 k (by omega)
  · have hj : j < G.1 + 1 := hj
    have hk : k < G.1 + 1 := hk
    by_cases hj2 : j = G.1
    · subst hj2
      have hk2 : k < G.1 := by omega
      rw [oth_add hk2, oth_new] at h
      rw [oth_new, h]
      exact key k hk2 v hv h.symm
    · have hj3 : j < G.1 := by omega
      rw [oth_add hj3] at h ⊢
      by_cases hk2 : k = G.1
      · subst hk2
        rw [oth_new] at h
        exact key j hj3 v hv h
      · rw [oth_add (by omega)] at h
        exact g4 j k hj3 (by omega) hjk v hv h
theorem g_link {S : St} {x y z : Int32} (h : Good S) : Good (o_link S x y z).2.2 := by
  unfold o_link
  split
  · rename_i hb
    rw [Bool.and_eq_true] at hb
    split
    · exact h
    · rename_i hc
      split
      · exact h
      · rename_i hd
        obtain ⟨g1, g2, g3, g4, g5, g6, g7, g8, g9, g10⟩ := h
        have hx := inR_to (by omega) hb.1
        have hy := inR_to (by omega) hb.2
        have hz : rg 1 99 z = true := by
          cases hz : rg 1 99 z with
          | true => rfl
          | false => exact absurd (Or.inr hz) hc
        have hz := rg_ex (a := 1) (b := 99) (by omega) (by omega) hz
        have hab : toN x ≠ toN y := fun he => hc (Or.inl (by rw [hx.2, hy.2, he]))
        have hl : lkd S.1 (toN x) (toN y) = false := by
          cases hl : lkd S.1 (toN x) (toN y) with
          | false => rfl
          | true => exact absurd (Or.inr hl) hd
        have h9 : nLk S < 9 := by
          have := (show nLk S ≤ 9 from g3.1)
          have : nLk S ≠ 9 := fun hx => hd (Or.inl hx)
          omega
        refine ⟨g1, g2, net_add g3 h9 (by omega) (by omega) hab hl, fun k hk => ?_, g5, fun v hv => ?_, fun k hk => ?_, g8, fun i hi => ?_, g10⟩
        · have hk : k < nLk S + 1 := hk
          show updN S.1.2.1 S.1.1 (toN x) k < nNd S ∧ updN S.1.2.2.1 S.1.1 (toN y) k < nNd S
          unfold updN
          by_cases hkn : k = S.1.1
          · simp only [if_pos hkn]; exact ⟨hx.1, hy.1⟩
          · simp only [if_neg hkn]; exact g4 k (Nat.lt_of_le_of_ne (Nat.le_of_lt_succ hk) hkn)
        · show (if (1 = 2 ∧ v = nLk S) then toN z else S.2.1 1 v) ≤ 99
          rw [if_neg (by omega)]
          exact g6 v hv
        · have hk : k < nLk S + 1 := hk
          show (if (2 = 2 ∧ k = nLk S) then toN z else S.2.1 2 k) ≤ 99
          split
          · exact hz.2.1
          · exact g7 k (by omega)
        · obtain ⟨⟨a1, a2, a3, a4⟩, a5⟩ := g9 i hi
          have hp : 2 ^ nLk S ≤ 2 ^ (nLk S + 1) := Nat.pow_le_pow_right (by decide) (by omega)
          refine ⟨⟨a1, a2, a3, fun l hl => ?_⟩, a5⟩
          obtain ⟨c1, c2, c3, c4⟩ := a4 l hl
          exact ⟨Nat.lt_of_lt_of_le c1 hp, Nat.lt_of_lt_of_le c2 hp, Nat.lt_of_lt_of_le c3 hp, c4⟩
  · exact h
/-- rows of ways out of findWays -/
theorem WR.of {G : GD} {nN : Nat} {μ : Mm} (hG : NetOk G) (hn : ∀ k, k < G.1 → G.2.1 k < nN ∧ G.2.2.1 k < nN) (hR : Rows (rowsOf G nN) μ) : WR G μ := by
  intro a b ha hb hab
  have hab2 : (a * 6 + b) / 6 = a ∧ (a * 6 + b) % 6 = b := by omega
  obtain ⟨h1, h2, h3⟩ := hR (a * 6 + b) (by omega)
  have e : rowsOf G nN (a * 6 + b) = wl G a b := by
    unfold rowsOf
    rw [hab2.1, hab2.2]
    split
    · rw [wd_wl hb hab, List.take_of_length_le (wl_15 hG ha hb hab)]
    · rename_i hna
      symm
      unfold wl
      show (List.range G.1).flatMap (itT G b (Tw G b 5) a (2 ^ a) 0) = []
      rw [List.flatMap_eq_nil_iff]
      intro k hk
      have hk := List.mem_range.mp hk
      have := hn k hk
      have ho : oth G k a = 6 := by
        unfold oth
        rw [if_neg (by omega), if_neg (by omega)]
      unfold itT
      rw [ho]
      split
      · rfl
      · rw [if_neg (by omega), if_pos (Or.inl rfl)]
  simp only [e] at h2 h3
  exact ⟨h2, h3⟩
theorem s_careLinked {G : GD} {a b : Nat} {μ : Mm} {q : Bool → Mm → Prop} (hG : HG G μ) (ha : a < 6) (hb : b < 6) (h : q (lkd G a b) μ) : Wp_X2_areLinked (nI a) (nI b) μ q := by
  have hL := hG.1
  unfold Wp_X2_areLinked
  intro K2 h2
  unfold F_X2_areLinked_e
  have go : (∀ b2, b2 = lkd G a b → q b2 μ) := fun b2 e => by rw [e]; exact h
  refine dn (P := fun k => an (fun k => decide (oth G k a = b)) k = false → K2 (nI a) (nI b) (nI k) μ) (n := G.1) ?_ ?_ rfl
  · intro hf
    refine h2 _ _ _ _ ?_
    unfold F_X2_areLinked_2
    rw [hG.2.1]
    simp (disch := omega) only [vpT, vpT0, vpT1, vpT2, clT, clT0, clT1, clT2, leT, leF, leT0, ltT, ltF, i1, true_and, and_true, true_implies, false_implies, not_true_eq_false, not_false_eq_true, forall_const, implies_true]
    exact go _ hf.symm
  · intro k hk hn hf
    refine h2 _ _ _ _ ?_
    unfold F_X2_areLinked_2
    rw [hG.2.1]
    simp (disch := omega) only [vpT, vpT0, vpT1, vpT2, clT, clT0, clT1, clT2, leT, leF, leT0, ltT, ltF, i1, true_and, and_true, true_implies, false_implies, not_true_eq_false, not_false_eq_true, forall_const, implies_true]
    obtain ⟨g1, g2, g3, g4⟩ := hG.2.2.1 k hk
    refine s_beyond (by omega) ?_
    rw [g1, g2, bynd_nI g3 g4 ha]
    have eo : (if G.2.1 k = a then G.2.2.1 k else if G.2.2.1 k = a then G.2.1 k else 6) = oth G k a := rfl
    rw [eo]
    have hol := oth_le (G := G) (k := k) (v := a) g3 g4
    by_cases ho : oth G k a = b
    · rw [if_neg (by omega)]
      refine rb_t (by rw [ho]) (go _ ?_)
      exact ((an_iff _ _).2 ⟨k, hk, decide_eq_true ho⟩).symm
    · refine rb_f ?_ (hn ?_)
      · split
        · exact fun hc => nm1 (n := b) (by omega) hc.symm
        · rw [nI_eq (by omega) (by omega)]; exact ho
      · show (an _ k || decide (oth G k a = b)) = false
        rw [hf, decide_eq_false ho]; rfl
theorem tt_link {S : St} {x y z : Int32} {μ : Mm} {q : Int32 → Mm → Prop} (hG : Good S) (hI : cInv S μ) (h : tE (o_link S x y z) μ q) : Wp_L_link x y z μ q := by
  unfold Wp_L_link Wp_X7_link F_X7_link_e
  have hN := hG.1
  have hL := hG.L
  have h6 : μ p_GR 6 = nI (nNd S) := hI.1.2.1
  have h7 : μ p_GR 7 = nI (nLk S) := hI.1.1.2.1
  unfold o_link at h
  refine s_hasNode (by omega) h6 ?_
  refine bq (fun hx => ?_) (fun hx => ?_)
  · rw [hx, Bool.false_and, if_neg (by decide)] at h
    exact Or.inl ⟨rfl, h.no (by decide) hI⟩
  refine s_hasNode (by omega) h6 ?_
  refine bqr (fun hy => ?_) (fun hy => ?_)
  · rw [hy, Bool.and_false, if_neg (by decide)] at h
    exact Or.inl ⟨rfl, h.no (by decide) hI⟩
  rw [hx, hy, if_pos (by decide)] at h
  by_cases hxy : x = y
  · rw [if_pos (Or.inl hxy)] at h
    exact br_t hxy (Or.inr (Or.inl ⟨rfl, h.no (by decide) hI⟩))
  refine br_f hxy ?_
  refine rg_c1 (fun hz => ?_) (fun hz => ?_)
  · rw [if_pos (Or.inr hz)] at h
    exact Or.inr (Or.inl ⟨rfl, h.no (by decide) hI⟩)
  rw [if_neg (by rintro (h1 | h1); · exact hxy h1
                 · rw [hz] at h1; cases h1)] at h
  obtain ⟨xa, xe⟩ := inR_to (by omega) hx
  obtain ⟨ya, ye⟩ := inR_to (by omega) hy
  obtain ⟨-, za, ze⟩ := rg_ex (a := 1) (b := 99) (by omega) (by omega) hz
  have hab : toN x ≠ toN y := fun he => hxy (by rw [xe, ye, he])
  rw [h7]
  by_cases h9 : nLk S = 9
  · rw [if_pos (Or.inl h9)] at h
    exact br_t (by rw [h9]; exact Int32.le_refl _) (Or.inr (Or.inr ⟨rfl, h.no (by decide) hI⟩))
  refine br_f (not_le_nI (n := 9) (by omega) (by omega)) ?_
  obtain ⟨a, ha⟩ : ∃ a, a = toN x := ⟨_, rfl⟩
  obtain ⟨b, hb⟩ : ∃ b, b = toN y := ⟨_, rfl⟩
  obtain ⟨w, hw⟩ : ∃ w, w = toN z := ⟨_, rfl⟩
  rw [← ha] at xa xe hab h
  rw [← hb] at ya ye hab h
  rw [← hw] at za ze h
  rw [xe, ye, ze]
  refine s_careLinked hI.1.1 (by omega) (by omega) ?_
  refine bq (fun hl => ?_) (fun hl => ?_)
  · rw [if_neg (by rintro (h1 | h1); · exact h9 h1
                   · rw [hl] at h1; cases h1)] at h
    unfold Wp_X2_addLink F_X2_addLink_e
    rw [u_ne (show p_GR ≠ p_GR_linkRooms by decide), u_ne (show p_GR ≠ p_GR_linkStarts by decide), u_ne (show p_GR ≠ p_GR_linkRooms by decide), u_ne (show p_GR ≠ p_GR_linkEnds by decide), u_ne (show p_GR ≠ p_GR_linkStarts by decide), u_ne (show p_GR ≠ p_GR_linkRooms by decide), h7]
    simp (disch := omega) only [vpT, vpT0, vpT1, vpT2, clT, clT0, clT1, clT2, leT, leF, leT0, ltT, ltF, i1, true_and, and_true, true_implies, false_implies, not_true_eq_false, not_false_eq_true, forall_const, implies_true]
    obtain ⟨μ1, hμ1⟩ : ∃ μ1, μ1 = up2 (up2 (up2 (up2 μ p_GR_linkRooms (nLk S) (nI w)) p_GR_linkStarts (nLk S) (nI a)) p_GR_linkEnds (nLk S) (nI b)) p_GR 7 (nI (nLk S + 1)) := ⟨_, rfl⟩
    rw [← hμ1]
    obtain ⟨⟨⟨gg1, gg2, gg3, gg4, gg5⟩, g2, g3, g4, g5⟩, hB, h3, h4, h5⟩ := hI
    have e : ∀ c, c ≠ 1 → c ≠ 8 → c ≠ 9 → c ≠ 10 → μ1 c = μ c := fun c p1 p2 p3 p4 => by rw [hμ1, u_ne p1, u_ne p4, u_ne p3, u_ne p2]
    have e1 : ∀ j, j ≠ 7 → μ1 p_GR j = μ p_GR j := fun j hj => by rw [hμ1, u_eq, d_ne hj, u_ne (by decide), u_ne (by decide), u_ne (by decide)]
    have hnet := net_add hG.2.2.1 (by show nLk S < 9; omega) (show a < 6 by omega) (show b < 6 by omega) hab hl
    have hg1 : HG (addL S.1 a b) μ1 := by
      refine ⟨(show nLk S + 1 ≤ 9 by omega), by rw [hμ1, u_eq, d_eq]; rfl, fun k hk => ?_, by rw [e1 8 (by decide)]; exact gg4, gg5⟩
      have hk : k < S.1.1 + 1 := hk
      show μ1 p_GR_linkStarts k = nI (updN S.1.2.1 S.1.1 a k) ∧ μ1 p_GR_linkEnds k = nI (updN S.1.2.2.1 S.1.1 b k) ∧ updN S.1.2.1 S.1.1 a k < 6 ∧ updN S.1.2.2.1 S.1.1 b k < 6
      have es : μ1 p_GR_linkStarts k = upd (μ p_GR_linkStarts) (nLk S) (nI a) k := by rw [hμ1, u_ne (by decide), u_ne (by decide), u_eq, u_ne (by decide)]
      have ee : μ1 p_GR_linkEnds k = upd (μ p_GR_linkEnds) (nLk S) (nI b) k := by rw [hμ1, u_ne (by decide), u_eq, u_ne (by decide), u_ne (by decide)]
      rw [es, ee]
      unfold updN upd
      by_cases hkn : k = S.1.1
      · simp only [if_pos hkn]; exact ⟨trivial, trivial, by omega, by omega⟩
      · simp only [if_neg hkn]; exact gg3 k (Nat.lt_of_le_of_ne (Nat.le_of_lt_succ hk) hkn)
    refine s_findWays (G := addL S.1 a b) hN (by rw [e1 6 (by decide)]; exact g2) hg1 (fun μ2 hR hF => ?_)
    have hn2 : ∀ k, k < (addL S.1 a b).1 → (addL S.1 a b).2.1 k < nNd S ∧ (addL S.1 a b).2.2.1 k < nNd S := by
      intro k hk
      have hk : k < S.1.1 + 1 := hk
      show updN S.1.2.1 S.1.1 a k < nNd S ∧ updN S.1.2.2.1 S.1.1 b k < nNd S
      unfold updN
      by_cases hkn : k = S.1.1
      · simp only [if_pos hkn]; exact ⟨xa, ya⟩
      · simp only [if_neg hkn]; exact hG.2.2.2.1 k (Nat.lt_of_le_of_ne (Nat.le_of_lt_succ hk) hkn)
    have f : ∀ c, c ≠ 11 → (c < 60 ∨ 96 ≤ c) → μ2 c = μ1 c := fun c p1 p2 => hF c p1 p2
    have hG2 := hg1.fr hF
    rw [hG2.2.1]
    show q 0 (up2 μ2 p_OUT 0 (nI (S.1.1 + 1) - 1))
    rw [show nI (S.1.1 + 1) - (1 : Int32) = nI (nLk S) from nI_pred _]
    refine h.ok ⟨⟨hG2, ?_, fun v hv => ?_, fun k hk => ?_, WR.of hnet hn2 hR⟩, ?_, ?_, ?_, cReqs.fr h5 hG.n (fun c h1 h2 => by rw [f c (by omega) (by omega), e c (by omega) (by omega) (by omega) (by omega)])⟩ (fun c hc => by unfold mCell at hc; rw [f c (by omega) (by omega), e c (by omega) (by omega) (by omega) (by omega)])
    · rw [f p_GR (by decide) (by decide), e1 6 (by decide)]; exact g2
    · rw [f p_GR_nodeRooms (by decide) (by decide), e p_GR_nodeRooms (by decide) (by decide) (by decide) (by decide)]
      show _ = nI (if (1 = 2 ∧ v = nLk S) then w else S.2.1 1 v)
      rw [if_neg (by omega)]
      exact g3 v hv
    · have hk : k < nLk S + 1 := hk
      rw [f p_GR_linkRooms (by decide) (by decide), hμ1, u_ne (by decide), u_ne (by decide), u_ne (by decide), u_eq]
      show upd (μ p_GR_linkRooms) (nLk S) (nI w) k = nI (if (2 = 2 ∧ k = nLk S) then w else S.2.1 2 k)
      by_cases hkn : k = nLk S
      · rw [if_pos ⟨rfl, hkn⟩, hkn, d_eq]
      · rw [if_neg (fun hx => hkn hx.2), d_ne hkn]
        exact g4 k (by omega)
    · have hB : Bk9 (nLk S) (atS S) (cnS S) (ndS S) (bhS S) μ := hB
      have hB2 : Bk9 (nLk S) (atS S) (cnS S) (ndS S) (bhS S) μ2 := hB.fr (fun c hc => by unfold dK at hc; rw [f c (by omega) (by omega), e c (by omega) (by omega) (by omega) (by omega)])
      refine ⟨hB2.1, fun k hk => ?_⟩
      obtain ⟨c1, c2, c3⟩ := hB2.2 k hk
      refine ⟨c1, ?_, c3⟩
      rw [c2]
      congr 1
      show mx (fun f => bhS S f k) (nLk S) = max (mx (fun f => bhS S f k) (nLk S)) (bhS S (nLk S) k)
      have : bhS S (nLk S) k = 0 := sm_zero fun i hi => by
        unfold qB
        split
        · refine sm_zero fun l hl => ?_
          unfold lB
          rw [tb_hi ((hG.ok hi).2 l hl).1 (Nat.le_refl _), Nat.zero_mul, Nat.mul_zero]
        · rfl
      rw [this, Nat.max_zero]
    · rw [f p_ML (by decide) (by decide), e p_ML (by decide) (by decide) (by decide) (by decide)]; exact h3
    · rw [f p_ML (by decide) (by decide), e p_ML (by decide) (by decide) (by decide) (by decide)]; exact h4
  · rw [if_pos (Or.inr hl)] at h
    exact Or.inr (Or.inr ⟨rfl, h.no (by decide) hI⟩)
