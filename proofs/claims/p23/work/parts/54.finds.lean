/-- the ends of links are nodes -/
def GE6 (G : GD) : Prop := ∀ k, k < G.1 → G.2.1 k < 6 ∧ G.2.2.1 k < 6
theorem HG.ge {G : GD} {μ : Mm} (h : HG G μ) : GE6 G := fun k hk => ⟨(h.2.2.1 k hk).2.2.1, (h.2.2.1 k hk).2.2.2⟩
theorem Dw_lt {G : GD} (hG : GE6 G) : ∀ (d here seen way : Nat), ∀ x ∈ Dw G d here seen way, x.1 < 6
  | 0, _, _, _, x, hx => by cases hx
  | d + 1, here, seen, way, x, hx => by
    unfold Dw at hx
    obtain ⟨k, hk0, hk⟩ := List.mem_flatMap.mp hx
    have h1 := hG k (List.mem_range.mp hk0)
    have h2 := oth_le (G := G) (k := k) (v := here) h1.1 h1.2
    unfold itD at hk
    split at hk
    · cases hk
    · rename_i hn
      rcases List.mem_cons.mp hk with rfl | hk
      · have : ¬ oth G k here = 6 := fun h => hn (Or.inl h)
        show oth G k here < 6
        omega
      · exact Dw_lt hG d _ _ _ x hk
theorem take_take_app {α : Type} (n : Nat) (A L : List α) : (A.take n ++ L).take n = (A ++ L).take n := by
  by_cases h : A.length ≤ n
  · rw [List.take_of_length_le h]
  · rw [List.take_append_of_le_length (by rw [List.length_take]; omega), List.take_append_of_le_length (by omega), List.take_take, Nat.min_self]
theorem fold_fW (a : Nat) : ∀ (X : List (Nat × Nat)) (R : Nat → List Nat), (∀ x ∈ X, x.1 < 6) → (∀ p, (R p).length ≤ 15) → ∀ p, (X.foldl (fW a) R) p = if p / 6 = a then (R p ++ (X.filter (fun x => x.1 == p % 6)).map Prod.snd).take 15 else R p
  | [], R, _, hR, p => by
    show R p = _
    split
    · simp only [List.filter_nil, List.map_nil, List.append_nil]
      rw [List.take_of_length_le (hR p)]
    · rfl
  | x :: X, R, hX, hR, p => by
    have hx := hX x List.mem_cons_self
    have hR2 : ∀ p2, ((fW a R x) p2).length ≤ 15 := by
      intro p2
      unfold fW adW
      split
      · rw [List.length_take]; omega
      · exact hR p2
    rw [List.foldl_cons, fold_fW a X (fW a R x) (fun y hy => hX y (List.mem_cons_of_mem _ hy)) hR2 p]
    by_cases hp : p / 6 = a
    · rw [if_pos hp, if_pos hp]
      by_cases hv : x.1 = p % 6
      · have e : p = a * 6 + x.1 := by omega
        have e2 : fW a R x p = (R p ++ [x.2]).take 15 := by
          unfold fW adW
          rw [if_pos e, e]
        rw [e2, take_take_app, List.filter_cons, if_pos (by simp [hv]), List.map_cons, List.append_assoc]
        rfl
      · have e2 : fW a R x p = R p := by
          unfold fW adW
          rw [if_neg (by omega)]
        rw [e2, List.filter_cons, if_neg (by simpa using hv)]
    · rw [if_neg hp, if_neg hp]
      unfold fW adW
      rw [if_neg (by omega)]
/-- all ways from a to b, as the class finds them -/
def wd (G : GD) (a b : Nat) : List Nat := ((Dw G 6 a (2 ^ a) 0).filter (fun x => x.1 == b)).map Prod.snd
theorem wd_wl {G : GD} {a b : Nat} (hb : b < 6) (hab : a ≠ b) : wd G a b = wl G a b := Dw_Tw G b hb 6 a (2 ^ a) 0 (by rw [Nat.testBit_two_pow_of_ne hab])
theorem pc_pow : ∀ a, a < 6 → pc (2 ^ a) + 6 = 7 := by decide +kernel
theorem pow64 : ∀ a, a < 6 → 2 ^ a < 64 := by decide +kernel
def rowsOf (G : GD) (n : Nat) : Nat → List Nat := fun p => if p / 6 < n then (wd G (p / 6) (p % 6)).take 15 else []
theorem s_findWays {G : GD} {nN : Nat} {μ : Mm} {q : Mm → Prop} (hN : nN ≤ 6) (hn : μ p_GR 6 = nI nN) (hG : HG G μ) (h : ∀ μ2, Rows (rowsOf G nN) μ2 → FrW μ μ2 → q μ2) : Wp_X2_findWays μ q := by
  unfold Wp_X2_findWays
  intro K2 K26 h2 h26
  unfold F_X2_findWays_e
  have key26 : ∀ μ1, Rows (rowsOf G 0) μ1 → FrW μ μ1 → K26 (nI 0) μ1 := by
    refine dn (P := fun s => ∀ μ1, Rows (rowsOf G s) μ1 → FrW μ μ1 → K26 (nI s) μ1) (n := nN) ?_ ?_
    · intro μ1 hR hf
      refine h26 _ _ ?_
      unfold F_X2_findWays_26
      rw [show μ1 p_GR 6 = nI nN by rw [hf p_GR (by decide) (by decide)]; exact hn]
      exact br_t (le_nI (Nat.le_refl _) (by omega)) (h μ1 hR hf)
    · intro s hs hnx μ1 hR hf
      refine h26 _ _ ?_
      unfold F_X2_findWays_26
      rw [show μ1 p_GR 6 = nI nN by rw [hf p_GR (by decide) (by decide)]; exact hn]
      refine br_f (not_le_nI hs (by omega)) ?_
      rw [m_1 s (by omega), i1]
      refine s_walk G 6 s s (2 ^ s) 0 (rowsOf G s) μ1 _ (by omega) (by omega) (pow64 s (by omega)) (by omega) (pc_pow s (by omega)) (hG.fr hf) hR (fun μ2 hR2 hf2 => hnx μ2 ?_ (hf.tr hf2))
      have e : (Dw G 6 s (2 ^ s) 0).foldl (fW s) (rowsOf G s) = rowsOf G (s + 1) := by
        funext p
        rw [fold_fW s _ _ (Dw_lt hG.ge 6 s (2 ^ s) 0) (fun p => by unfold rowsOf; split <;> simp [List.length_take]; omega) p]
        unfold rowsOf
        by_cases hp : p / 6 = s
        · rw [if_pos hp, if_neg (by omega), if_pos (by omega), hp]
          rfl
        · rw [if_neg hp]
          by_cases hp2 : p / 6 < s
          · rw [if_pos hp2, if_pos (by omega)]
          · rw [if_neg hp2, if_neg (by omega)]
      rw [e] at hR2
      exact hR2
  have e0 : rowsOf G 0 = fun _ => [] := by
    funext p
    unfold rowsOf
    rw [if_neg (by omega)]
  refine dn (P := fun k => ∀ μ1, (∀ p, p < k → μ1 p_GR_wayCounts p = nI 0) → FrW μ μ1 → K2 (nI k) μ1) (n := 36) ?_ ?_ μ (fun p hp => by omega) FrW.rf
  · intro μ1 hz hf
    refine h2 _ _ ?_
    unfold F_X2_findWays_2
    refine br_t (by decide) (key26 μ1 ?_ hf)
    rw [e0]
    intro p hp
    exact ⟨Nat.zero_le _, hz p hp, fun j hj => absurd hj (Nat.not_lt_zero j)⟩
  · intro k hk hnx μ1 hz hf
    refine h2 _ _ ?_
    unfold F_X2_findWays_2
    refine br_f (not_le_nI (n := 36) hk (by omega)) ⟨inN hk (by omega), ?_⟩
    rw [i1, nI_clamp (by omega)]
    refine hnx _ (fun p hp => ?_) (hf.tr (fun c hc _ => by simp only [up2, if_neg hc]))
    simp only [up2, if_pos, upd]
    by_cases hpk : p = k
    · rw [if_pos hpk]; rfl
    · rw [if_neg hpk]; exact hz p (by omega)
