/-! ways, as lists of sets of links -/
abbrev GD : Type := Nat × (Nat → Nat) × (Nat → Nat) × Nat
/-- the node at the other end of link k, seen from v; 6 if v is no end of it -/
def oth (G : GD) (k v : Nat) : Nat := if G.2.1 k = v then G.2.2.1 k else if G.2.2.1 k = v then G.2.1 k else 6
def itD (G : GD) (r : Nat → Nat → Nat → List (Nat × Nat)) (here seen way k : Nat) : List (Nat × Nat) :=
  if oth G k here = 6 ∨ seen.testBit (oth G k here) = true ∨ G.2.2.2.testBit k = true then [] else (oth G k here, way ||| 2 ^ k) :: r (oth G k here) (seen ||| 2 ^ oth G k here) (way ||| 2 ^ k)
/-- all ways from here on, by no node seen, in order: where each leads, its links -/
def Dw (G : GD) : Nat → Nat → Nat → Nat → List (Nat × Nat)
  | 0, _, _, _ => []
  | d + 1, here, seen, way => (List.range G.1).flatMap (itD G (Dw G d) here seen way)
def itT (G : GD) (to : Nat) (r : Nat → Nat → Nat → List Nat) (here seen way k : Nat) : List Nat :=
  if G.2.2.2.testBit k = true then [] else if oth G k here = to then [way ||| 2 ^ k] else if oth G k here = 6 ∨ seen.testBit (oth G k here) = true then [] else r (oth G k here) (seen ||| 2 ^ oth G k here) (way ||| 2 ^ k)
/-- all ways from here to a node, in order -/
def Tw (G : GD) (to : Nat) : Nat → Nat → Nat → Nat → List Nat
  | 0, _, _, _ => []
  | d + 1, here, seen, way => (List.range G.1).flatMap (itT G to (Tw G to d) here seen way)
theorem Dw_unseen (G : GD) : ∀ (d here seen way : Nat), ∀ x ∈ Dw G d here seen way, seen.testBit x.1 = false
  | 0, _, _, _, x, hx => by cases hx
  | d + 1, here, seen, way, x, hx => by
    unfold Dw at hx
    obtain ⟨k, -, hk⟩ := List.mem_flatMap.mp hx
    unfold itD at hk
    split at hk
    · cases hk
    · rename_i hn
      rcases List.mem_cons.mp hk with rfl | hk
      · cases h : seen.testBit (oth G k here) with
        | false => rfl
        | true => exact absurd (Or.inr (Or.inl h)) hn
      · have := Dw_unseen G d _ _ _ x hk
        rw [Nat.testBit_or] at this
        cases h : seen.testBit x.1 with
        | false => rfl
        | true => rw [h] at this; cases this
theorem Dw_Tw (G : GD) (to : Nat) (hto : to < 6) : ∀ (d here seen way : Nat), seen.testBit to = false → ((Dw G d here seen way).filter (fun x => x.1 == to)).map Prod.snd = Tw G to d here seen way
  | 0, _, _, _, _ => rfl
  | d + 1, here, seen, way, hs => by
    unfold Dw Tw
    rw [List.filter_flatMap, List.map_flatMap]
    congr 1
    funext k
    unfold itD itT
    by_cases hf : G.2.2.2.testBit k = true
    · rw [if_pos (Or.inr (Or.inr hf)), if_pos hf]
      rfl
    · rw [if_neg hf]
      by_cases ht : oth G k here = to
      · have h6 : ¬ oth G k here = 6 := by omega
        rw [if_pos ht, if_neg (by rw [ht]; rintro (h | h | h); · omega
                                  · rw [hs] at h; cases h
                                  · exact hf h)]
        rw [List.filter_cons, if_pos (by simp [ht])]
        have e : (Dw G d (oth G k here) (seen ||| 2 ^ oth G k here) (way ||| 2 ^ k)).filter (fun x => x.1 == to) = [] := by
          rw [List.filter_eq_nil_iff]
          intro x hx hc
          have h1 := Dw_unseen G d _ _ _ x hx
          rw [beq_iff_eq] at hc
          rw [Nat.testBit_or, ht, hc, Nat.testBit_two_pow_self, Bool.or_true] at h1
          cases h1
        rw [e]
        rfl
      · rw [if_neg ht]
        by_cases h6 : oth G k here = 6 ∨ seen.testBit (oth G k here) = true
        · rw [if_pos h6, if_pos (h6.elim Or.inl (fun h => Or.inr (Or.inl h)))]
          rfl
        · rw [if_neg h6, if_neg (by rintro (h | h | h); · exact h6 (Or.inl h)
                                    · exact h6 (Or.inr h)
                                    · exact hf h)]
          rw [List.filter_cons, if_neg (by simp [ht])]
          refine Dw_Tw G to hto d _ _ _ ?_
          rw [Nat.testBit_or, hs, Nat.testBit_two_pow_of_ne (by omega)]
          rfl
/-- the ways from a to b, in their order -/
def wl (G : GD) (a b : Nat) : List Nat := Tw G b 6 a (2 ^ a) 0
/-! the class's rows of ways -/
def Rows (R : Nat → List Nat) (μ : Mm) : Prop := ∀ p, p < 36 → (R p).length ≤ 15 ∧ μ p_GR_wayCounts p = nI (R p).length ∧ ∀ (j : Nat) (h : j < (R p).length), μ (p_WY + p) j = nI ((R p)[j])
/-- the same but for the rows of ways -/
def FrW (μ μ2 : Mm) : Prop := ∀ c, c ≠ p_GR_wayCounts → (c < p_WY ∨ p_WY + 36 ≤ c) → μ2 c = μ c
def adW (p m : Nat) (R : Nat → List Nat) : Nat → List Nat := fun p2 => if p2 = p then (R p ++ [m]).take 15 else R p2
theorem s_keepWay {p m : Nat} {R : Nat → List Nat} {μ : Mm} {q : Mm → Prop} (hp : p < 36) (hR : Rows R μ) (h : ∀ μ2, Rows (adW p m R) μ2 → FrW μ μ2 → q μ2) : Wp_X2_keepWay (nI p) (nI m) μ q := by
  have hv : vp_in (nI p) 36 := inN hp (by omega)
  obtain ⟨h1, h2, h3⟩ := hR p hp
  unfold Wp_X2_keepWay F_X2_keepWay_e
  rw [nI_clamp (show p < 2 ^ 31 by omega)]
  refine ⟨fun hc => absurd hc (nI_pos (by omega)), fun _ => ⟨fun hc => absurd hc (not_le_nI (n := 36) hp (by omega)), fun _ => ⟨hv, fun hc => ?_, fun hc => ?_⟩⟩⟩
  · rw [h2] at hc
    have hl : (R p).length = 15 := by
      have : ¬ (R p).length < 15 := fun h9 => (not_le_nI (n := 15) h9 (by omega)) hc
      omega
    refine h μ ?_ (fun c _ _ => rfl)
    have e : adW p m R = R := by
      funext p2
      unfold adW
      by_cases hp2 : p2 = p
      · rw [if_pos hp2, hp2, List.take_append_of_le_length (by omega), List.take_of_length_le (by omega)]
      · rw [if_neg hp2]
    rw [e]
    exact hR
  · rw [h2] at hc ⊢
    have hl : (R p).length < 15 := by
      have : ¬ 15 ≤ (R p).length := fun h9 => hc (le_nI (n := 15) h9 (by omega))
      omega
    rw [nI_clamp (show (R p).length < 2 ^ 31 by omega)]
    refine ⟨hv, hv, inN hl (by omega), hv, hv, ?_⟩
    have hne : p_GR_wayCounts ≠ p_WY + p := by show 11 ≠ 60 + p; omega
    refine h _ ?_ ?_
    · intro p2 hp2
      by_cases he : p2 = p
      · subst he
        have e : adW p2 m R p2 = R p2 ++ [m] := by
          unfold adW
          rw [if_pos rfl, List.take_of_length_le (by simp; omega)]
        rw [e]
        refine ⟨by simp; omega, ?_, fun j hj => ?_⟩
        · simp only [up2, if_pos, upd, if_neg hne, h2, List.length_append, List.length_singleton]
          exact i1 _
        · simp only [up2, if_neg (Ne.symm hne), upd, if_pos]
          by_cases hjl : j = (R p2).length
          · subst hjl
            simp
          · have hj2 : j < (R p2).length := by simp at hj; omega
            rw [if_neg hjl, h3 j hj2, List.getElem_append_left hj2]
      · have e : adW p m R p2 = R p2 := by unfold adW; rw [if_neg he]
        obtain ⟨g1, g2, g3⟩ := hR p2 hp2
        rw [e]
        have hn2 : p_WY + p2 ≠ p_GR_wayCounts := by show 60 + p2 ≠ 11; omega
        refine ⟨g1, ?_, fun j hj => ?_⟩
        · simp only [up2, if_pos, upd, if_neg he, if_neg hne]
          exact g2
        · simp only [up2, if_neg hn2, if_neg (show p_WY + p2 ≠ p_WY + p by show 60 + p2 ≠ 60 + p; omega)]
          exact g3 j hj
    · intro c hc1 hc2
      have : c ≠ p_WY + p := by
        rcases hc2 with h9 | h9
        · have h9 : c < 60 := h9
          show c ≠ 60 + p; omega
        · have h9 : 60 + 36 ≤ c := h9
          show c ≠ 60 + p; omega
      simp only [up2, if_neg hc1, if_neg this]
