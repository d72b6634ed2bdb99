/-- the reference's ground holds G -/
def HM (G : GD) (μ : Mm) : Prop := G.1 ≤ 9 ∧ μ p_MO 3 = nI G.1 ∧ (∀ k, k < G.1 → μ p_MO_one k = nI (G.2.1 k) ∧ μ p_MO_other k = nI (G.2.2.1 k) ∧ G.2.1 k < 6 ∧ G.2.2.1 k < 6) ∧ ∀ k, k < 9 → μ p_MO_hasFailed k = bI (G.2.2.2.testBit k)
/-- what finds leaves as it is -/
def FFn (line : Nat) (μ μ2 : Mm) : Prop := (∀ c, c ≠ p_MO_found → c ≠ p_MO_many → c ≠ p_MO_spot → c ≠ p_MO_next → c ≠ p_MO_gone → μ2 c = μ c) ∧ (∀ j, j ≠ line → μ2 p_MO_many j = μ p_MO_many j) ∧ ∀ j, (j < 64 * line ∨ 64 * line + 64 ≤ j) → μ2 p_MO_found j = μ p_MO_found j
theorem FFn.rf {line : Nat} {μ : Mm} : FFn line μ μ := ⟨fun _ _ _ _ _ _ => rfl, fun _ _ => rfl, fun _ _ => rfl⟩
theorem FFn.tr {line : Nat} {a b c : Mm} (h1 : FFn line a b) (h2 : FFn line b c) : FFn line a c := ⟨fun x p1 p2 p3 p4 p5 => (h2.1 x p1 p2 p3 p4 p5).trans (h1.1 x p1 p2 p3 p4 p5), fun j hj => (h2.2.1 j hj).trans (h1.2.1 j hj), fun j hj => (h2.2.2 j hj).trans (h1.2.2 j hj)⟩
theorem FFn.up {line c k : Nat} {v : Int32} {μ : Mm} (h : c = p_MO_spot ∨ c = p_MO_next ∨ c = p_MO_gone) : FFn line μ (up2 μ c k v) := by
  have h1 : c ≠ p_MO_found ∧ c ≠ p_MO_many := by rcases h with rfl | rfl | rfl <;> decide
  refine ⟨fun x p1 p2 p3 p4 p5 => ?_, fun j _ => ?_, fun j _ => ?_⟩
  · have : x ≠ c := by rcases h with rfl | rfl | rfl <;> assumption
    simp only [up2, if_neg this]
  · simp only [up2, if_neg (Ne.symm h1.2)]
  · simp only [up2, if_neg (Ne.symm h1.1)]
theorem HM.fr {line : Nat} {G : GD} {μ μ2 : Mm} (h : HM G μ) (hf : FFn line μ μ2) : HM G μ2 := by
  have e1 : μ2 p_MO = μ p_MO := hf.1 _ (by decide) (by decide) (by decide) (by decide) (by decide)
  have e2 : μ2 p_MO_one = μ p_MO_one := hf.1 _ (by decide) (by decide) (by decide) (by decide) (by decide)
  have e3 : μ2 p_MO_other = μ p_MO_other := hf.1 _ (by decide) (by decide) (by decide) (by decide) (by decide)
  have e4 : μ2 p_MO_hasFailed = μ p_MO_hasFailed := hf.1 _ (by decide) (by decide) (by decide) (by decide) (by decide)
  unfold HM
  rw [e1, e2, e3, e4]
  exact h
/-- the ways that the reference has found for a line -/
def Fnd (line : Nat) (l : List Nat) (μ : Mm) : Prop := μ p_MO_many line = nI l.length ∧ ∀ (j : Nat) (h : j < l.length), μ p_MO_found (64 * line + j) = nI (l[j])
theorem m_clr : ∀ s, s < 64 → ∀ v, v < 6 → nI s &&& (((1 : Int32) <<< (nI v &&& 31)) ^^^ (-1 : Int32)) = nI (s &&& (63 ^^^ 2 ^ v)) := by decide +kernel
theorem clr_or : ∀ s, s < 64 → ∀ v, v < 6 → s.testBit v = false → (s ||| 2 ^ v) &&& (63 ^^^ 2 ^ v) = s := by decide +kernel
theorem pc_5 : ∀ s, s < 64 → ∀ v, v < 6 → s.testBit v = false → pc s ≤ 5 := by decide +kernel
def SK (δ here way k : Nat) (μ : Mm) : Prop := μ p_MO_spot δ = nI here ∧ μ p_MO_gone δ = nI way ∧ μ p_MO_next δ = nI k
def below (δ : Nat) (μ μ2 : Mm) : Prop := ∀ j, j < δ → μ2 p_MO_spot j = μ p_MO_spot j ∧ μ2 p_MO_next j = μ p_MO_next j ∧ μ2 p_MO_gone j = μ p_MO_gone j
set_option maxHeartbeats 1000000 in
theorem finds_core (G : GD) {line to : Nat} (hl3 : line < 3) (hto : to < 6) {q : Mm → Prop} {K36 : Int32 → Int32 → Int32 → Int32 → Mm → Prop} {K124 : Int32 → Int32 → Int32 → Int32 → Int32 → Int32 → Mm → Prop}
    (h36 : ∀ (x1 : Int32) (x3 : Int32) (x4 : Int32) (x5 : Int32) (μ : Mm), F_X8_finds_36 K36 K124 q x1 x3 x4 x5 μ → K36 x1 x3 x4 x5 μ) (h124 : ∀ (x1 : Int32) (x3 : Int32) (x4 : Int32) (x5 : Int32) (x6 : Int32) (y0 : Int32) (μ : Mm), F_X8_finds_124 K36 K124 q x1 x3 x4 x5 x6 y0 μ → K124 x1 x3 x4 x5 x6 y0 μ) :
    ∀ (d δ here seen way : Nat), pc seen = δ + 1 → d + δ = 5 → here < 6 → seen < 64 → way < 512 → seen.testBit to = false → ∀ (l : List Nat) (μ : Mm), HM G μ → SK δ here way 0 μ → Fnd line l μ → (l ++ Tw G to (d + 1) here seen way).length ≤ 15 →
      (∀ μ2, Fnd line (l ++ Tw G to (d + 1) here seen way) μ2 → FFn line μ μ2 → below δ μ μ2 → K36 (nI line) (nI to) (nI δ + (-1 : Int32)) (nI (seen &&& (63 ^^^ 2 ^ here))) μ2) → K36 (nI line) (nI to) (nI δ) (nI seen) μ := by
  intro d
  induction d with
  | zero =>
    intro δ here seen way hpc hd _ hs _ hu
    have := pc_5 seen hs to hto hu
    omega
  | succ d ih =>
    intro δ here seen way hpc hd hh hs hw hu l μ hG hsk hfd hlen hk
    have hδ := pc_5 seen hs to hto hu
    have hL := hG.1
    have hvδ : vp_in (nI δ) 7 := inN (by omega) (by omega)
    suffices key : ∀ l1 μ1, HM G μ1 → SK δ here way 0 μ1 → Fnd line l1 μ1 → FFn line μ μ1 → below δ μ μ1 → (l1 ++ (List.range' 0 (G.1 - 0)).flatMap (itT G to (Tw G to (d + 1)) here seen way)).length ≤ 15 →
        (∀ μ2, Fnd line (l1 ++ (List.range' 0 (G.1 - 0)).flatMap (itT G to (Tw G to (d + 1)) here seen way)) μ2 → FFn line μ1 μ2 → below δ μ1 μ2 → K36 (nI line) (nI to) (nI δ + (-1 : Int32)) (nI (seen &&& (63 ^^^ 2 ^ here))) μ2) → K36 (nI line) (nI to) (nI δ) (nI seen) μ1 by
      have e : Tw G to (d + 1 + 1) here seen way = (List.range' 0 (G.1 - 0)).flatMap (itT G to (Tw G to (d + 1)) here seen way) := by
        rw [Nat.sub_zero, ← List.range_eq_range']; rfl
      rw [e] at hlen hk
      exact key l μ hG hsk hfd FFn.rf (fun j _ => ⟨rfl, rfl, rfl⟩) hlen hk
    refine dn (P := fun k => ∀ l1 μ1, HM G μ1 → SK δ here way k μ1 → Fnd line l1 μ1 → FFn line μ μ1 → below δ μ μ1 → (l1 ++ (List.range' k (G.1 - k)).flatMap (itT G to (Tw G to (d + 1)) here seen way)).length ≤ 15 →
        (∀ μ2, Fnd line (l1 ++ (List.range' k (G.1 - k)).flatMap (itT G to (Tw G to (d + 1)) here seen way)) μ2 → FFn line μ1 μ2 → below δ μ1 μ2 → K36 (nI line) (nI to) (nI δ + (-1 : Int32)) (nI (seen &&& (63 ^^^ 2 ^ here))) μ2) → K36 (nI line) (nI to) (nI δ) (nI seen) μ1) (n := G.1) ?_ ?_
    · intro l1 μ1 hG1 hsk1 hfd1 _ _ _ hk1
      refine h36 _ _ _ _ _ ?_
      unfold F_X8_finds_36
      refine br_f (nI_pos (by omega)) ⟨hvδ, ?_⟩
      rw [nI_clamp (show δ < 2 ^ 31 by omega), hsk1.2.2, hG1.2.1, hsk1.1, m_clr seen hs here hh]
      refine ⟨fun hc => absurd rfl hc, fun _ => ⟨hvδ, hk1 μ1 ?_ FFn.rf (fun j _ => ⟨rfl, rfl, rfl⟩)⟩⟩
      rw [Nat.sub_self]
      simpa using hfd1
    · intro k hk0 hn l1 μ1 hG1 hsk1 hfd1 hF1 hB1 hlen1 hk1
      have hk9 : k < 9 := by omega
      obtain ⟨g1, g2, g3, g4⟩ := hG1.2.2.1 k hk0
      rw [rg_succ hk0, List.flatMap_cons, ← List.append_assoc] at hlen1 hk1
      refine h36 _ _ _ _ _ ?_
      unfold F_X8_finds_36
      refine br_f (nI_pos (by omega)) ⟨hvδ, ?_⟩
      rw [nI_clamp (show δ < 2 ^ 31 by omega), hsk1.2.2, hG1.2.1]
      have hne : ¬ nI k = nI G.1 := by rw [nI_eq (by omega) (by omega)]; omega
      refine ⟨fun _ => ⟨hvδ, hvδ, hvδ, in9 hk9, ?_⟩, fun hc => absurd hc hne⟩
      rw [i1, nI_clamp (show k < 2 ^ 31 by omega)]
      -- the memory with next at k + 1
      obtain ⟨μa, hμa⟩ : ∃ μa, μa = up2 μ1 p_MO_next δ (nI (k + 1)) := ⟨_, rfl⟩
      rw [← hμa]
      have hFa : FFn line μ1 μa := by rw [hμa]; exact FFn.up (Or.inr (Or.inl rfl))
      have hGa : HM G μa := hG1.fr hFa
      have hska : SK δ here way (k + 1) μa := by
        rw [hμa]
        refine ⟨?_, ?_, ?_⟩
        · rw [← hsk1.1]; simp only [up2]; rw [if_neg (by decide)]
        · rw [← hsk1.2.1]; simp only [up2]; rw [if_neg (by decide)]
        · simp only [up2, if_pos, upd]
      have hBa : below δ μ1 μa := by
        rw [hμa]
        intro j hj
        refine ⟨?_, ?_, ?_⟩
        · simp only [up2]; rw [if_neg (by decide)]
        · simp only [up2, if_pos, upd]; rw [if_neg (by omega)]
        · simp only [up2]; rw [if_neg (by decide)]
      have hfda : Fnd line l1 μa := by
        rw [hμa]
        refine ⟨?_, fun j hj => ?_⟩
        · rw [← hfd1.1]; simp only [up2]; rw [if_neg (by decide)]
        · rw [← hfd1.2 j hj]; simp only [up2]; rw [if_neg (by decide)]
      have hBt : ∀ {a b c : Mm}, below δ a b → below δ b c → below δ a c := fun h1 h2 j hj => ⟨(h2 j hj).1.trans (h1 j hj).1, (h2 j hj).2.1.trans (h1 j hj).2.1, (h2 j hj).2.2.trans (h1 j hj).2.2⟩
      -- going on with the next link, nothing found
      have skip : itT G to (Tw G to (d + 1)) here seen way k = [] → K36 (nI line) (nI to) (nI δ) (nI seen) μa := by
        intro e
        rw [e, List.append_nil] at hlen1 hk1
        exact hn l1 μa hGa hska hfda (hF1.tr hFa) (hBt hB1 hBa) hlen1 (fun μ2 a1 a2 a3 => hk1 μ2 a1 (hFa.tr a2) (hBt hBa a3))
      have hne1 : ¬ (-1 : Int32) = nI to := by
        intro hc
        have h9 := nI_pos' (n := to) (by omega)
        rw [← hc] at h9
        exact absurd h9 (by decide)
      have hskip1 : itT G to (Tw G to (d + 1)) here seen way k = [] → K124 (nI line) (nI to) (nI δ) (nI seen) (nI k) (-1 : Int32) μa := by
        intro e
        refine h124 _ _ _ _ _ _ _ ?_
        unfold F_X8_finds_124
        exact ⟨fun _ => br_t rfl (skip e), fun hc => absurd hc hne1⟩
      rw [hGa.2.2.2 k hk9]
      cases hf : G.2.2.2.testBit k with
      | true =>
        refine ⟨fun hc => absurd hc (by decide), fun _ => hskip1 ?_⟩
        unfold itT
        rw [if_pos hf]
      | false =>
        refine ⟨fun _ => ⟨hvδ, ?_⟩, fun hc => absurd rfl hc⟩
        rw [hska.1]
        refine s_end hk9 ?_
        obtain ⟨a1, a2, -, -⟩ := hGa.2.2.1 k hk0
        rw [a1, a2, bynd_nI g3 g4 hh]
        have eo : (if G.2.1 k = here then G.2.2.1 k else if G.2.2.1 k = here then G.2.1 k else 6) = oth G k here := rfl
        rw [eo]
        have hfn : ¬ G.2.2.2.testBit k = true := by rw [hf]; decide
        have hol := oth_le (G := G) (k := k) (v := here) g3 g4
        by_cases h7 : oth G k here = 6
        · rw [if_pos h7]
          refine hskip1 ?_
          unfold itT
          rw [if_neg hfn, if_neg (by omega), if_pos (Or.inl h7)]
        · rw [if_neg h7]
          have hv : oth G k here < 6 := by omega
          refine h124 _ _ _ _ _ _ _ ?_
          unfold F_X8_finds_124
          have hnm1 : ¬ nI (oth G k here) = (-1 : Int32) := by
            intro hc
            have h9 := nI_pos' (n := oth G k here) (by omega)
            rw [hc] at h9
            exact absurd h9 (by decide)
          by_cases ht : oth G k here = to
          · -- a way is found
            rw [ht]
            have e : itT G to (Tw G to (d + 1)) here seen way k = [way ||| 2 ^ k] := by
              unfold itT
              rw [if_neg hfn, if_pos ht]
            rw [e] at hlen1 hk1
            have hl1 : l1.length < 15 := by
              simp only [List.length_append, List.length_cons, List.length_nil] at hlen1
              omega
            refine ⟨fun hc => absurd rfl hc, fun _ => ?_⟩
            rw [nI_clamp (show line < 2 ^ 31 by omega), nI_clamp (show δ < 2 ^ 31 by omega), hfda.1, hska.2.1, m_or way hw k hk9]
            have e64 : (64 : Int32) * nI line + nI l1.length = nI (64 * line + l1.length) := by
              rw [show (64 : Int32) = nI 64 from rfl, pk_mul, nI_add]
            rw [e64, nI_clamp (show 64 * line + l1.length < 2 ^ 31 by omega)]
            have hv3 : vp_in (nI line) 3 := inN hl3 (by omega)
            refine ⟨hv3, hvδ, inN (by omega) (by omega), hv3, hv3, ?_⟩
            have hdf : p_MO_many ≠ p_MO_found := by decide
            have em : (up2 μa p_MO_found (64 * line + l1.length) (nI (way ||| 2 ^ k))) p_MO_many line = nI l1.length := by
              rw [← hfda.1]; simp only [up2]; rw [if_neg hdf]
            rw [em, i1]
            obtain ⟨μb, hμb⟩ : ∃ μb, μb = up2 (up2 μa p_MO_found (64 * line + l1.length) (nI (way ||| 2 ^ k))) p_MO_many line (nI (l1.length + 1)) := ⟨_, rfl⟩
            rw [← hμb]
            have hFb : FFn line μa μb := by
              rw [hμb]
              refine ⟨fun x p1 p2 p3 p4 p5 => by simp only [up2, if_neg p1, if_neg p2], fun j hj => ?_, fun j hj => ?_⟩
              · simp only [up2, if_pos, upd, if_neg hj, if_neg hdf]
              · simp only [up2, if_neg (Ne.symm hdf), if_pos, upd]
                rw [if_neg (by omega)]
            have hskb : SK δ here way (k + 1) μb := by
              rw [hμb]
              refine ⟨?_, ?_, ?_⟩
              · rw [← hska.1]; simp only [up2]; rw [if_neg (by decide), if_neg (by decide)]
              · rw [← hska.2.1]; simp only [up2]; rw [if_neg (by decide), if_neg (by decide)]
              · rw [← hska.2.2]; simp only [up2]; rw [if_neg (by decide), if_neg (by decide)]
            have hBb : below δ μa μb := by
              rw [hμb]
              intro j hj
              refine ⟨?_, ?_, ?_⟩ <;> simp only [up2] <;> rw [if_neg (by decide), if_neg (by decide)]
            have hfdb : Fnd line (l1 ++ [way ||| 2 ^ k]) μb := by
              rw [hμb]
              refine ⟨?_, fun j hj => ?_⟩
              · simp only [up2, if_pos, upd, List.length_append, List.length_singleton]
              · simp only [up2, if_neg (Ne.symm hdf), if_pos, upd]
                by_cases hjl : j = l1.length
                · subst hjl
                  simp
                · have hj2 : j < l1.length := by simp at hj; omega
                  rw [if_neg (by omega), hfda.2 j hj2, List.getElem_append_left hj2]
            exact hn (l1 ++ [way ||| 2 ^ k]) μb (hGa.fr hFb) hskb hfdb ((hF1.tr hFa).tr hFb) (hBt (hBt hB1 hBa) hBb) hlen1 (fun μ2 b1 b2 b3 => hk1 μ2 b1 ((hFa.tr hFb).tr b2) (hBt (hBt hBa hBb) b3))
          · have hnt : ¬ nI (oth G k here) = nI to := by rw [nI_eq (by omega) (by omega)]; exact ht
            refine ⟨fun _ => br_f hnm1 ?_, fun hc => absurd hc hnt⟩
            refine s_has (by omega) (by omega) ?_
            cases hb : seen.testBit (oth G k here) with
            | true =>
              refine ⟨fun _ => skip ?_, fun hc => absurd hc (by decide)⟩
              unfold itT
              rw [if_neg hfn, if_neg ht, if_pos (Or.inr hb)]
            | false =>
              refine ⟨fun hc => absurd rfl hc, fun _ => ?_⟩
              have e : itT G to (Tw G to (d + 1)) here seen way k = Tw G to (d + 1) (oth G k here) (seen ||| 2 ^ oth G k here) (way ||| 2 ^ k) := by
                unfold itT
                rw [if_neg hfn, if_neg ht, if_neg (by rintro (h | h); · exact h7 h
                                                      · rw [hb] at h; cases h)]
              rw [e] at hlen1 hk1
              have hso := or64 seen hs _ hv
              have hpo := pc_or seen hs _ hv hb
              have hwo := or_lt way hw k hk9
              have huo : (seen ||| 2 ^ oth G k here).testBit to = false := by
                rw [Nat.testBit_or, hu, Nat.testBit_two_pow_of_ne ht]; rfl
              have hp5 := pc_5 _ hso to hto huo
              have hv2 : vp_in (nI (δ + 1)) 7 := inN (by omega) (by omega)
              rw [i1]
              have em1 : nI (δ + 1) - (1 : Int32) = nI δ := nI_pred δ
              rw [em1, nI_clamp (show δ < 2 ^ 31 by omega), nI_clamp (show δ + 1 < 2 ^ 31 by omega)]
              refine ⟨hv2, hv2, hvδ, hv2, ?_⟩
              have eg : (up2 (up2 μa p_MO_spot (δ + 1) (nI (oth G k here))) p_MO_next (δ + 1) (0 : Int32)) p_MO_gone δ = nI way := by
                rw [← hska.2.1]; simp only [up2]; rw [if_neg (by decide), if_neg (by decide)]
              rw [eg, m_or way hw k hk9, m_or seen (by omega) _ (by omega)]
              obtain ⟨μb, hμb⟩ : ∃ μb, μb = up2 (up2 (up2 μa p_MO_spot (δ + 1) (nI (oth G k here))) p_MO_next (δ + 1) (0 : Int32)) p_MO_gone (δ + 1) (nI (way ||| 2 ^ k)) := ⟨_, rfl⟩
              rw [← hμb]
              have hFb : FFn line μa μb := by
                rw [hμb]
                exact ((FFn.up (Or.inl rfl)).tr (FFn.up (Or.inr (Or.inl rfl)))).tr (FFn.up (Or.inr (Or.inr rfl)))
              have hskb : SK (δ + 1) (oth G k here) (way ||| 2 ^ k) 0 μb := by
                rw [hμb]
                refine ⟨?_, ?_, ?_⟩
                · simp only [up2]; rw [if_neg (by decide), if_neg (by decide)]; simp [upd]
                · simp only [up2]; simp [upd]
                · simp only [up2]; rw [if_neg (by decide)]; simp [upd]; rfl
              have hBb : below (δ + 1) μa μb := by
                rw [hμb]
                intro j hj
                refine ⟨?_, ?_, ?_⟩
                · simp only [up2]; rw [if_neg (by decide), if_neg (by decide)]; simp only [if_pos, upd]; rw [if_neg (by omega)]
                · simp only [up2]; rw [if_neg (by decide)]; simp only [if_pos, upd]; rw [if_neg (by omega), if_neg (by decide)]
                · simp only [up2, if_pos, upd]; rw [if_neg (by omega), if_neg (by decide), if_neg (by decide)]
              have hfdb : Fnd line l1 μb := by
                rw [hμb]
                refine ⟨?_, fun j hj => ?_⟩
                · rw [← hfda.1]; simp only [up2]; rw [if_neg (by decide), if_neg (by decide), if_neg (by decide)]
                · rw [← hfda.2 j hj]; simp only [up2]; rw [if_neg (by decide), if_neg (by decide), if_neg (by decide)]
              refine ih (δ + 1) (oth G k here) (seen ||| 2 ^ oth G k here) (way ||| 2 ^ k) (by omega) (by omega) hv hso hwo huo l1 μb (hGa.fr hFb) hskb hfdb ?_ (fun μ2 b1 b2 b3 => ?_)
              · refine Nat.le_trans ?_ hlen1
                simp only [List.length_append]
                omega
              · rw [clr_or seen hs _ hv hb, pk_m1]
                obtain ⟨c1, c2, c3⟩ := b3 δ (by omega)
                obtain ⟨d1, d2, d3⟩ := hBb δ (by omega)
                have hsk2 : SK δ here way (k + 1) μ2 := ⟨by rw [c1, d1]; exact hska.1, by rw [c3, d3]; exact hska.2.1, by rw [c2, d2]; exact hska.2.2⟩
                have hB2 : below δ μa μ2 := fun j hj => ⟨(b3 j (by omega)).1.trans (hBb j (by omega)).1, (b3 j (by omega)).2.1.trans (hBb j (by omega)).2.1, (b3 j (by omega)).2.2.trans (hBb j (by omega)).2.2⟩
                exact hn _ μ2 ((hGa.fr hFb).fr b2) hsk2 b1 ((hF1.tr hFa).tr (hFb.tr b2)) (hBt (hBt hB1 hBa) hB2) hlen1 (fun μ3 e1 e2 e3 => hk1 μ3 e1 (hFa.tr ((hFb.tr b2).tr e2)) (hBt (hBt hBa hB2) e3))
