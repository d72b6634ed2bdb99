/-! calls: the small ones -/
abbrev Ans : Type := Nat × Int32 × St
/-- what the class's call leaves (by the law's helper) -/
def tE (o : Ans) (μ : Mm) (q : Int32 → Mm → Prop) : Prop := ∀ μ2, cInv o.2.2 μ2 → (∀ c, mCell c → μ2 c = μ c) → (o.1 = 0 → μ2 p_OUT 0 = o.2.1) → q (nI o.1) μ2
theorem tE.ok {z : Int32} {S2 : St} {μ μ2 : Mm} {q : Int32 → Mm → Prop} (h : tE (0, z, S2) μ q) (hI : cInv S2 μ2) (hf : ∀ c, mCell c → μ2 c = μ c) : q (0 : Int32) (up2 μ2 p_OUT 0 z) := by
  refine h _ (hI.fr (fun c hc => u_ne (by unfold cCell at hc; show c ≠ 56; omega))) (fun c hc => ?_) (fun _ => ?_)
  · rw [u_ne (by unfold mCell at hc; show c ≠ 56; omega)]; exact hf c hc
  · rw [u_eq, d_eq]
theorem tE.no {k : Nat} {z : Int32} {S2 : St} {μ : Mm} {q : Int32 → Mm → Prop} (h : tE (k, z, S2) μ q) (hk : k ≠ 0) (hI : cInv S2 μ) : q (nI k) μ := h μ hI (fun _ _ => rfl) (fun hc => absurd hc hk)
def rg (a b x : Int32) : Bool := decide (a ≤ x ∧ x ≤ b)
theorem i_nlt {a x : Int32} : (¬ x < a) = (a ≤ x) := by
  rw [Int32.lt_iff_toInt_lt, Int32.le_iff_toInt_le]
  exact propext ⟨fun h => by omega, fun h => by omega⟩
theorem i_nle {a x : Int32} : (¬ x ≤ a) = (a < x) := by
  rw [Int32.lt_iff_toInt_lt, Int32.le_iff_toInt_le]
  exact propext ⟨fun h => by omega, fun h => by omega⟩
theorem rg_c1 {a b x : Int32} {E A : Prop} (hf : rg a b x = false → E) (ht : rg a b x = true → A) : (x < a → E) ∧ (¬ x < a → ((x ≤ b → A) ∧ (¬ x ≤ b → E))) := by
  refine ⟨fun h1 => hf (decide_eq_false (fun hc => ?_)), fun h1 => ⟨fun h2 => ht (decide_eq_true ⟨?_, h2⟩), fun h2 => hf (decide_eq_false (fun hc => h2 hc.2))⟩⟩
  · rw [← i_nlt] at hc; exact hc.1 h1
  · rw [← i_nlt]; exact h1
theorem rg_c2 {a b x : Int32} {E A : Prop} (hf : rg a b x = false → E) (ht : rg a b x = true → A) : (x < a → E) ∧ (¬ x < a → ((b < x → E) ∧ (¬ b < x → A))) := by
  refine ⟨fun h1 => hf (decide_eq_false (fun hc => ?_)), fun h1 => ⟨fun h2 => hf (decide_eq_false (fun hc => ?_)), fun h2 => ht (decide_eq_true ⟨?_, ?_⟩)⟩⟩
  · rw [← i_nlt] at hc; exact hc.1 h1
  · rw [← i_nle] at h2; exact h2 hc.2
  · rw [← i_nlt]; exact h1
  · rw [i_nlt] at h2; exact h2
def toN (x : Int32) : Nat := x.toNatClampNeg
theorem rg_ex {a b : Nat} {x : Int32} (hb : b < 2147483648) (hab : a < 2147483648) (h : rg (nI a) (nI b) x = true) : a ≤ toN x ∧ toN x ≤ b ∧ x = nI (toN x) := by
  have h1 := of_decide_eq_true h
  rw [Int32.le_iff_toInt_le, Int32.le_iff_toInt_le, nI_toInt (by omega), nI_toInt (by omega)] at h1
  have e : x = nI x.toInt.toNat := by
    rw [← Int32.toInt_inj, nI_toInt (by omega)]
    omega
  have e2 : toN x = x.toInt.toNat := by
    unfold toN
    conv => lhs; rw [e]
    exact nI_clamp (by omega)
  rw [e2]
  exact ⟨by omega, by omega, e⟩
theorem inR_to {n : Nat} {x : Int32} (hn : n < 2147483648) (h : inR n x = true) : toN x < n ∧ x = nI (toN x) := by
  obtain ⟨k, hk, rfl⟩ := inR_ex hn h
  have : toN (nI k) = k := nI_clamp (by omega)
  rw [this]
  exact ⟨hk, rfl⟩
def set2 (f : Nat → Nat → Nat) (a b v : Nat) : Nat → Nat → Nat := fun x y => if x = a ∧ y = b then v else f x y
def updN (f : Nat → Nat) (k v : Nat) : Nat → Nat := fun j => if j = k then v else f j
/-! node -/
def o_node (S : St) (x : Int32) : Ans := if rg 1 99 x = true then (if nNd S = 6 then (2, 0, S) else (0, nI (nNd S), (S.1, set2 (set2 S.2.1 1 (nNd S) (toN x)) 0 0 (nNd S + 1), S.2.2))) else (1, 0, S)
theorem g_node {S : St} {x : Int32} (h : Good S) : Good (o_node S x).2.2 := by
  unfold o_node
  split
  · rename_i hb
    split
    · exact h
    · rename_i h6
      obtain ⟨g1, g2, g3, g4, g5, g6, g7, g8, g9, g10⟩ := h
      have hx := rg_ex (a := 1) (b := 99) (by omega) (by omega) hb
      refine ⟨show nNd S + 1 ≤ 6 by omega, g2, g3, fun k hk => ?_, g5, fun v hv => ?_, g7, g8, fun i hi => ?_, g10⟩
      · have := g4 k hk
        exact ⟨show _ < nNd S + 1 from Nat.lt_succ_of_lt this.1, show _ < nNd S + 1 from Nat.lt_succ_of_lt this.2⟩
      · show (if (1 = 0 ∧ v = 0) then nNd S + 1 else if (1 = 1 ∧ v = nNd S) then toN x else S.2.1 1 v) ≤ 99
        rw [if_neg (by omega)]
        split
        · exact hx.2.1
        · have hv : v < nNd S + 1 := hv
          exact g6 v (by omega)
      · obtain ⟨⟨a1, a2, a3, a4⟩, a5⟩ := g9 i hi
        exact ⟨⟨a1, fun k hk => show _ < nNd S + 1 from Nat.lt_succ_of_lt (a2 k hk), a3, a4⟩, a5⟩
  · exact h
theorem tt_node {S : St} {x : Int32} {μ : Mm} {q : Int32 → Mm → Prop} (hG : Good S) (hI : cInv S μ) (h : tE (o_node S x) μ q) : Wp_L_node x μ q := by
  unfold Wp_L_node Wp_X7_node F_X7_node_e
  have hN := hG.1
  have h6 : μ p_GR 6 = nI (nNd S) := hI.1.2.1
  refine rg_c1 (fun hb => ?_) (fun hb => ?_)
  · rw [show o_node S x = (1, 0, S) by unfold o_node; rw [hb]; rfl] at h
    exact Or.inl ⟨rfl, h.no (by decide) hI⟩
  · obtain ⟨-, -, hx⟩ := rg_ex (a := 1) (b := 99) (by omega) (by omega) hb
    rw [h6]
    by_cases hn : nNd S = 6
    · rw [show o_node S x = (2, 0, S) by unfold o_node; rw [if_pos hb, if_pos hn]] at h
      exact br_f (fun hc => by rw [hn] at hc; exact absurd hc (by decide)) (Or.inr ⟨rfl, h.no (by decide) hI⟩)
    · rw [show o_node S x = (0, nI (nNd S), (S.1, set2 (set2 S.2.1 1 (nNd S) (toN x)) 0 0 (nNd S + 1), S.2.2)) by unfold o_node; rw [if_pos hb, if_neg hn]] at h
      refine br_t (of_eq_true (ltT (n := nNd S) (k := 6) (by omega) (by omega))) ?_
      unfold Wp_X2_addNode F_X2_addNode_e
      rw [h6]
      simp (disch := omega) only [vpT, vpT0, vpT1, vpT2, clT, clT0, clT1, clT2, leT, leF, leT0, ltT, ltF, i1, true_and, and_true, true_implies, false_implies, not_true_eq_false, not_false_eq_true, forall_const, implies_true, u_eq, d_eq]
      rw [u_ne (show p_GR ≠ p_GR_nodeRooms by decide), h6, i1, show nI (nNd S + 1) - (1 : Int32) = nI (nNd S) from nI_pred _]
      refine h.ok ?_ (fun c hc => by rw [u_ne (by unfold mCell at hc; show c ≠ 1; omega), u_ne (by unfold mCell at hc; show c ≠ 7; omega)])
      obtain ⟨⟨g1, g2, g3, g4, g5⟩, hB, h3, h4, h5⟩ := hI
      have e : ∀ c, c ≠ 1 → c ≠ 7 → (up2 (up2 μ p_GR_nodeRooms (nNd S) x) p_GR 6 (nI (nNd S + 1))) c = μ c := fun c h1 h2 => by rw [u_ne h1, u_ne h2]
      have e1 : ∀ j, j ≠ 6 → (up2 (up2 μ p_GR_nodeRooms (nNd S) x) p_GR 6 (nI (nNd S + 1))) p_GR j = μ p_GR j := fun j hj => by rw [u_eq, d_ne hj, u_ne (by decide)]
      refine ⟨⟨?_, ?_, fun v hv => ?_, fun k hk => ?_, g5.fr2 (e 11 (by decide) (by decide)) (fun c h1 h2 => e c (by omega) (by omega))⟩, ?_, ?_, ?_, cReqs.fr h5 hG.n (fun c h1 h2 => e c (by omega) (by omega))⟩
      · unfold HG at *
        rw [e1 7 (by decide), e1 8 (by decide), e p_GR_linkStarts (by decide) (by decide), e p_GR_linkEnds (by decide) (by decide)]
        exact g1
      · rw [u_eq, d_eq]; rfl
      · rw [u_ne (by decide), u_eq]
        show upd (μ p_GR_nodeRooms) (nNd S) x v = nI (if (1 = 0 ∧ v = 0) then nNd S + 1 else if (1 = 1 ∧ v = nNd S) then toN x else S.2.1 1 v)
        have hv : v < nNd S + 1 := hv
        by_cases hvn : v = nNd S
        · subst hvn
          rw [if_neg (by omega), if_pos ⟨rfl, rfl⟩, d_eq]
          exact hx
        · rw [if_neg (by omega), if_neg (fun hc => hvn hc.2), d_ne hvn]
          exact g3 v (by omega)
      · rw [e p_GR_linkRooms (by decide) (by decide)]; exact g4 k hk
      · exact Bk9.fr hB (fun c hc => e c (by unfold dK at hc; omega) (by unfold dK at hc; omega))
      · rw [e p_ML (by decide) (by decide)]; exact h3
      · rw [e p_ML (by decide) (by decide)]; exact h4
