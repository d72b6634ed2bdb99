/-- the class's ground holds G -/
def HG (G : GD) (μ : Mm) : Prop := G.1 ≤ 9 ∧ μ p_GR 7 = nI G.1 ∧ (∀ k, k < G.1 → μ p_GR_linkStarts k = nI (G.2.1 k) ∧ μ p_GR_linkEnds k = nI (G.2.2.1 k) ∧ G.2.1 k < 6 ∧ G.2.2.1 k < 6) ∧ μ p_GR 8 = nI G.2.2.2 ∧ G.2.2.2 < 512
theorem HG.fr {G : GD} {μ μ2 : Mm} (h : HG G μ) (hf : FrW μ μ2) : HG G μ2 := by
  have e1 : μ2 p_GR = μ p_GR := hf _ (by decide) (by decide)
  have e2 : μ2 p_GR_linkStarts = μ p_GR_linkStarts := hf _ (by decide) (by decide)
  have e3 : μ2 p_GR_linkEnds = μ p_GR_linkEnds := hf _ (by decide) (by decide)
  unfold HG
  rw [e1, e2, e3]
  exact h
theorem FrW.rf {μ : Mm} : FrW μ μ := fun _ _ _ => rfl
theorem FrW.tr {a b c : Mm} (h1 : FrW a b) (h2 : FrW b c) : FrW a c := fun x p q => (h2 x p q).trans (h1 x p q)
theorem oth_le {G : GD} {k v : Nat} (h1 : G.2.1 k < 6) (h2 : G.2.2.1 k < 6) : oth G k v ≤ 6 := by
  unfold oth
  split
  · omega
  · split <;> omega
theorem bynd_nI {a b v : Nat} (ha : a < 6) (hb : b < 6) (hv : v < 6) : bynd (nI a) (nI b) (nI v) = if (if a = v then b else if b = v then a else 6) = 6 then -1 else nI (if a = v then b else if b = v then a else 6) := by
  unfold bynd
  have e1 : (nI a = nI v) = (a = v) := propext (nI_eq (by omega) (by omega))
  have e2 : (nI b = nI v) = (b = v) := propext (nI_eq (by omega) (by omega))
  simp only [e1, e2]
  by_cases h1 : a = v
  · simp only [h1, if_true]
    rw [if_neg (by omega)]
  · by_cases h2 : b = v
    · simp only [h1, h2, if_true, if_false]
      rw [if_neg (by omega)]
    · simp only [h1, h2, if_false, if_true]
theorem or64 : ∀ s, s < 64 → ∀ v, v < 6 → s ||| 2 ^ v < 64 := by decide +kernel
theorem pc_or : ∀ s, s < 64 → ∀ v, v < 6 → s.testBit v = false → pc (s ||| 2 ^ v) = pc s + 1 := by decide +kernel
theorem pc_6 : ∀ s, s < 64 → pc s ≤ 6 := by decide +kernel
theorem pc_63 : ∀ s, s < 64 → 6 ≤ pc s → ∀ v, v < 6 → s.testBit v = true := by decide +kernel
theorem rg_succ {k n : Nat} (h : k < n) : List.range' k (n - k) = k :: List.range' (k + 1) (n - (k + 1)) := by
  rw [show n - k = (n - (k + 1)) + 1 by omega, List.range'_succ]
def fW (a : Nat) : (Nat → List Nat) → Nat × Nat → Nat → List Nat := fun R x => adW (a * 6 + x.1) x.2 R
theorem s_walk (G : GD) : ∀ (d a here seen way : Nat) (R : Nat → List Nat) (μ : Mm) (q : Mm → Prop), a < 6 → here < 6 → seen < 64 → way < 512 → pc seen + d = 7 → HG G μ → Rows R μ →
    (∀ μ2, Rows ((Dw G d here seen way).foldl (fW a) R) μ2 → FrW μ μ2 → q μ2) → Wp_X2_walk d (nI a) (nI here) (nI seen) (nI way) μ q := by
  intro d
  induction d with
  | zero =>
    intro a here seen way R μ q _ _ hs _ hd
    have := pc_6 seen hs
    omega
  | succ d ih =>
    intro a here seen way R μ q ha hh hs hw hd hG hR hq
    unfold Wp_X2_walk
    intro K3 h3
    unfold F_X2_walk_e
    have hL := hG.1
    suffices key : ∀ R1 μ1, HG G μ1 → Rows R1 μ1 → FrW μ μ1 → (∀ μ2, Rows (((List.range' 0 (G.1 - 0)).flatMap (itD G (Dw G d) here seen way)).foldl (fW a) R1) μ2 → FrW μ1 μ2 → q μ2) → K3 (nI a) (nI here) (nI seen) (nI way) (nI 0) μ1 by
      refine key R μ hG hR FrW.rf (fun μ2 h1 h2 => hq μ2 ?_ h2)
      unfold Dw
      rw [List.range_eq_range']
      exact h1
    refine dn (P := fun k => ∀ R1 μ1, HG G μ1 → Rows R1 μ1 → FrW μ μ1 → (∀ μ2, Rows (((List.range' k (G.1 - k)).flatMap (itD G (Dw G d) here seen way)).foldl (fW a) R1) μ2 → FrW μ1 μ2 → q μ2) → K3 (nI a) (nI here) (nI seen) (nI way) (nI k) μ1) (n := G.1) ?_ ?_
    · intro R1 μ1 hG1 hR1 hf1 hq1
      refine h3 _ _ _ _ _ _ ?_
      unfold F_X2_walk_3
      rw [hG1.2.1]
      refine br_t (le_nI (Nat.le_refl _) (by omega)) (hq1 μ1 ?_ FrW.rf)
      rw [Nat.sub_self]
      exact hR1
    · intro k hk hn R1 μ1 hG1 hR1 hf1 hq1
      have hk9 : k < 9 := by omega
      obtain ⟨g1, g2, g3, g4⟩ := hG1.2.2.1 k hk
      rw [rg_succ hk, List.flatMap_cons, List.foldl_append] at hq1
      refine h3 _ _ _ _ _ _ ?_
      unfold F_X2_walk_3
      rw [hG1.2.1]
      refine br_f (not_le_nI hk (by omega)) ?_
      refine s_bitCount (by omega) ?_
      have hol := oth_le (G := G) (k := k) (v := here) g3 g4
      have hp6 := pc_6 seen hs
      by_cases h6 : 6 ≤ pc seen
      · refine br_t (le_nI (n := 6) h6 (by omega)) (hq1 μ1 ?_ FrW.rf)
        have hb := pc_63 seen hs h6
        have e0 : ∀ k2, k2 ∈ List.range' k (G.1 - k) → itD G (Dw G d) here seen way k2 = [] := by
          intro k2 hk2
          have hk3 : k2 < G.1 := by
            have := List.mem_range'_1.mp hk2
            omega
          obtain ⟨-, -, j3, j4⟩ := hG1.2.2.1 k2 hk3
          have hol2 := oth_le (G := G) (k := k2) (v := here) j3 j4
          unfold itD
          rw [if_pos ?_]
          by_cases h7 : oth G k2 here = 6
          · exact Or.inl h7
          · exact Or.inr (Or.inl (hb _ (by omega)))
        have e1 : (List.range' (k + 1) (G.1 - (k + 1))).flatMap (itD G (Dw G d) here seen way) = [] := by
          rw [List.flatMap_eq_nil_iff]
          intro k2 hk2
          refine e0 k2 ?_
          rw [rg_succ hk]
          exact List.mem_cons_of_mem _ hk2
        rw [e0 k (by rw [rg_succ hk]; exact List.mem_cons_self), e1]
        exact hR1
      · refine br_f (not_le_nI (n := 6) (by omega) (by omega)) ?_
        refine s_beyond hk9 ?_
        rw [g1, g2, bynd_nI g3 g4 hh]
        have eo : (if G.2.1 k = here then G.2.2.1 k else if G.2.2.1 k = here then G.2.1 k else 6) = oth G k here := rfl
        rw [eo, i1]
        by_cases h7 : oth G k here = 6
        · rw [if_pos h7]
          refine br_t rfl (hn R1 μ1 hG1 hR1 hf1 ?_)
          have e0 : itD G (Dw G d) here seen way k = [] := by unfold itD; rw [if_pos (Or.inl h7)]
          rw [e0] at hq1
          exact hq1
        · rw [if_neg h7]
          have hv : oth G k here < 6 := by omega
          have hne : ¬ nI (oth G k here) = (-1 : Int32) := by
            intro hc
            have h9 := nI_pos' (n := oth G k here) (by omega)
            rw [hc] at h9
            exact absurd h9 (by decide)
          refine br_f hne ?_
          rw [m_sh seen (by omega) _ (by omega), tb_bit]
          cases hb : seen.testBit (oth G k here) with
          | true =>
            refine ⟨fun _ => hn R1 μ1 hG1 hR1 hf1 ?_, fun hc => absurd hc (by decide)⟩
            have e0 : itD G (Dw G d) here seen way k = [] := by unfold itD; rw [if_pos (Or.inr (Or.inl hb))]
            rw [e0] at hq1
            exact hq1
          | false =>
            refine ⟨fun hc => absurd rfl hc, fun _ => ?_⟩
            rw [hG1.2.2.2.1, m_sh _ hG1.2.2.2.2 _ hk9, tb_bit]
            cases hf : G.2.2.2.testBit k with
            | true =>
              refine ⟨fun hc => absurd hc (by decide), fun _ => hn R1 μ1 hG1 hR1 hf1 ?_⟩
              have e0 : itD G (Dw G d) here seen way k = [] := by unfold itD; rw [if_pos (Or.inr (Or.inr hf))]
              rw [e0] at hq1
              exact hq1
            | false =>
              refine ⟨fun _ => ?_, fun hc => absurd rfl hc⟩
              have e0 : itD G (Dw G d) here seen way k = (oth G k here, way ||| 2 ^ k) :: Dw G d (oth G k here) (seen ||| 2 ^ oth G k here) (way ||| 2 ^ k) := by
                unfold itD
                rw [if_neg (by rintro (h | h | h); · exact h7 h
                               · rw [hb] at h; cases h
                               · rw [hf] at h; cases h)]
              rw [e0, List.foldl_cons] at hq1
              unfold Wp_X2_pairOf F_X2_pairOf_e
              have e6 : nI a * (6 : Int32) + nI (oth G k here) = nI (a * 6 + oth G k here) := by
                rw [show (6 : Int32) = nI 6 from rfl, pk_mul, nI_add]
              rw [e6, m_or _ hw _ hk9]
              have hwo := or_lt way hw k hk9
              refine s_keepWay (by omega) hR1 (fun μ2 hR2 hf2 => ?_)
              rw [m_or seen (by omega) _ (by omega)]
              have hso := or64 seen hs _ hv
              have hpo := pc_or seen hs _ hv hb
              refine ih a (oth G k here) (seen ||| 2 ^ oth G k here) (way ||| 2 ^ k) _ μ2 _ ha hv hso hwo (by omega) (hG1.fr hf2) hR2 (fun μ3 hR3 hf3 => ?_)
              exact hn _ μ3 ((hG1.fr hf2).fr hf3) hR3 ((hf1.tr hf2).tr hf3) (fun μ4 hR4 hf4 => hq1 μ4 hR4 ((hf2.tr hf3).tr hf4))
