/-! ranges -/
def inR (n : Nat) (x : Int32) : Bool := decide (0 ≤ x ∧ x < nI n)
theorem inR_ex {n : Nat} {x : Int32} (hn : n < 2147483648) (h : inR n x = true) : ∃ k, k < n ∧ x = nI k := by
  have h1 := of_decide_eq_true h
  rw [Int32.le_iff_toInt_le, Int32.lt_iff_toInt_lt, nI_toInt (by omega)] at h1
  have h0 : (0 : Int32).toInt = 0 := rfl
  rw [h0] at h1
  refine ⟨x.toInt.toNat, by omega, ?_⟩
  rw [← Int32.toInt_inj, nI_toInt (by omega)]
  omega
theorem inR_nI {n k : Nat} (hn : n < 2147483648) (hk : k < 2147483648) : inR n (nI k) = decide (k < n) := by
  unfold inR
  by_cases h : k < n
  · rw [decide_eq_true h, decide_eq_true ⟨of_eq_true (leT0 hk), of_eq_true (ltT h hn)⟩]
  · rw [decide_eq_false h, decide_eq_false (fun hc => by have := ltF (n := k) (k := n) (by omega) hk; rw [this] at hc; exact hc.2)]
theorem inR_is {n : Nat} (x : Int32) (hn : n < 2147483648) : decide (0 ≤ x ∧ x ≤ nI n - 1) = inR n x := by
  unfold inR
  congr 1
  apply propext
  rw [Int32.le_iff_toInt_le, Int32.le_iff_toInt_le, Int32.lt_iff_toInt_lt, nI_toInt (by omega)]
  have h0 : (0 : Int32).toInt = 0 := rfl
  have h1 : (nI n - 1).toInt = (n : Int) - 1 := by
    rw [Int32.toInt_sub, nI_toInt (by omega), show (1 : Int32).toInt = 1 from rfl]
    rw [Int.bmod_eq_of_le (by omega) (by omega)]
  rw [h0, h1]
  omega
theorem s_hasNode {n : Nat} {x : Int32} {μ : Mm} {q : Bool → Mm → Prop} (hn : n < 2147483648) (h6 : μ p_GR 6 = nI n) (h : q (inR n x) μ) : Wp_X2_hasNode x μ q := by
  unfold Wp_X2_hasNode F_X2_hasNode_e
  rw [h6]
  unfold inR at h
  refine ⟨fun h1 => ?_, fun h1 => ⟨fun h2 => ?_, fun h2 => ?_⟩⟩
  · rw [decide_eq_false (by rw [Int32.le_iff_toInt_le]; rw [Int32.lt_iff_toInt_lt] at h1; omega)] at h; exact h
  · rw [decide_eq_false (by rw [Int32.lt_iff_toInt_lt]; rw [Int32.le_iff_toInt_le] at h2; omega)] at h; exact h
  · rw [decide_eq_true (by rw [Int32.le_iff_toInt_le, Int32.lt_iff_toInt_lt]; rw [Int32.lt_iff_toInt_lt] at h1; rw [Int32.le_iff_toInt_le] at h2; omega)] at h; exact h
theorem s_hasLink {n : Nat} {x : Int32} {μ : Mm} {q : Bool → Mm → Prop} (h6 : μ p_GR 7 = nI n) (h : q (inR n x) μ) : Wp_X2_hasLink x μ q := by
  unfold Wp_X2_hasLink F_X2_hasLink_e
  rw [h6]
  unfold inR at h
  refine ⟨fun h1 => ?_, fun h1 => ⟨fun h2 => ?_, fun h2 => ?_⟩⟩
  · rw [decide_eq_false (by rw [Int32.le_iff_toInt_le]; rw [Int32.lt_iff_toInt_lt] at h1; omega)] at h; exact h
  · rw [decide_eq_false (by rw [Int32.lt_iff_toInt_lt]; rw [Int32.le_iff_toInt_le] at h2; omega)] at h; exact h
  · rw [decide_eq_true (by rw [Int32.le_iff_toInt_le, Int32.lt_iff_toInt_lt]; rw [Int32.lt_iff_toInt_lt] at h1; rw [Int32.le_iff_toInt_le] at h2; omega)] at h; exact h
theorem s_hasPart {n p : Nat} {x : Int32} {μ : Mm} {q : Bool → Mm → Prop} (h6 : μ p 10 = nI n) (h : q (inR n x) μ) : Wp_X5_hasPart p x μ q := by
  unfold Wp_X5_hasPart F_X5_hasPart_e
  rw [h6]
  unfold inR at h
  refine ⟨fun h1 => ?_, fun h1 => ⟨fun h2 => ?_, fun h2 => ?_⟩⟩
  · rw [decide_eq_false (by rw [Int32.le_iff_toInt_le]; rw [Int32.lt_iff_toInt_lt] at h1; omega)] at h; exact h
  · rw [decide_eq_false (by rw [Int32.lt_iff_toInt_lt]; rw [Int32.le_iff_toInt_le] at h2; omega)] at h; exact h
  · rw [decide_eq_true (by rw [Int32.le_iff_toInt_le, Int32.lt_iff_toInt_lt]; rw [Int32.lt_iff_toInt_lt] at h1; rw [Int32.le_iff_toInt_le] at h2; omega)] at h; exact h
theorem s_hasLine {n p : Nat} {x : Int32} {μ : Mm} {q : Bool → Mm → Prop} (h6 : μ p 11 = nI n) (h : q (inR n x) μ) : Wp_X5_hasLine p x μ q := by
  unfold Wp_X5_hasLine F_X5_hasLine_e
  rw [h6]
  unfold inR at h
  refine ⟨fun h1 => ?_, fun h1 => ⟨fun h2 => ?_, fun h2 => ?_⟩⟩
  · rw [decide_eq_false (by rw [Int32.le_iff_toInt_le]; rw [Int32.lt_iff_toInt_lt] at h1; omega)] at h; exact h
  · rw [decide_eq_false (by rw [Int32.lt_iff_toInt_lt]; rw [Int32.le_iff_toInt_le] at h2; omega)] at h; exact h
  · rw [decide_eq_true (by rw [Int32.le_iff_toInt_le, Int32.lt_iff_toInt_lt]; rw [Int32.lt_iff_toInt_lt] at h1; rw [Int32.le_iff_toInt_le] at h2; omega)] at h; exact h
theorem s_isPlaced {n : Nat} {x : Int32} {μ : Mm} {q : Bool → Mm → Prop} (h6 : μ p_ML 6 = nI n) (h : q (inR n x) μ) : Wp_X7_isPlaced x μ q := by
  unfold Wp_X7_isPlaced F_X7_isPlaced_e
  rw [h6]
  unfold inR at h
  refine ⟨fun h1 => ?_, fun h1 => ⟨fun h2 => ?_, fun h2 => ?_⟩⟩
  · rw [decide_eq_false (by rw [Int32.le_iff_toInt_le]; rw [Int32.lt_iff_toInt_lt] at h1; omega)] at h; exact h
  · rw [decide_eq_false (by rw [Int32.lt_iff_toInt_lt]; rw [Int32.le_iff_toInt_le] at h2; omega)] at h; exact h
  · rw [decide_eq_true (by rw [Int32.le_iff_toInt_le, Int32.lt_iff_toInt_lt]; rw [Int32.lt_iff_toInt_lt] at h1; rw [Int32.le_iff_toInt_le] at h2; omega)] at h; exact h
/-! the way with the fewest links -/
def fst1 (p : Nat → Bool) (b w : Nat) : Nat := if p w = true ∧ (b = 0 ∨ pc w < pc b) then w else b
def fwp (p : Nat → Bool) (l : List Nat) : Nat := l.foldl (fst1 p) 0
theorem fwp_congr {p p2 : Nat → Bool} {l : List Nat} (h : ∀ w, w ∈ l → p w = p2 w) : fwp p l = fwp p2 l := by
  unfold fwp
  generalize 0 = b
  induction l generalizing b with
  | nil => rfl
  | cons w l ih =>
    simp only [List.foldl_cons]
    rw [show fst1 p b w = fst1 p2 b w by unfold fst1; rw [h w List.mem_cons_self]]
    exact ih (fun x hx => h x (List.mem_cons_of_mem _ hx)) _
theorem foldl_take {α β : Type} (f : β → α → β) (b : β) (l : List α) (j : Nat) (h : j < l.length) : (l.take (j + 1)).foldl f b = f ((l.take j).foldl f b) l[j] := by
  rw [List.take_succ_eq_append_getElem h, List.foldl_append]
  rfl
theorem fwp_take (p : Nat → Bool) (l : List Nat) (j : Nat) (h : j < l.length) : fwp p (l.take (j + 1)) = fst1 p (fwp p (l.take j)) l[j] := foldl_take _ _ _ _ h
theorem fwp_mem (p : Nat → Bool) (l : List Nat) : fwp p l = 0 ∨ (fwp p l ∈ l ∧ p (fwp p l) = true) := by
  have key : ∀ (l2 : List Nat) (b : Nat), (b = 0 ∨ (b ∈ l ∧ p b = true)) → (∀ w, w ∈ l2 → w ∈ l) → (l2.foldl (fst1 p) b = 0 ∨ (l2.foldl (fst1 p) b ∈ l ∧ p (l2.foldl (fst1 p) b) = true)) := by
    intro l2
    induction l2 with
    | nil => intro b hb _; exact hb
    | cons w l2 ih =>
      intro b hb hl
      refine ih _ ?_ (fun x hx => hl x (List.mem_cons_of_mem _ hx))
      unfold fst1
      by_cases hc : p w = true ∧ (b = 0 ∨ pc w < pc b)
      · rw [if_pos hc]; exact Or.inr ⟨hl w List.mem_cons_self, hc.1⟩
      · rw [if_neg hc]; exact hb
  exact key l 0 (Or.inl rfl) (fun w hw => hw)
/-- all numbers of a list are ways -/
def W9 (n : Nat) (l : List Nat) : Prop := ∀ w, w ∈ l → w < 2 ^ n ∧ w ≠ 0
theorem pow_512 {n : Nat} (h : n ≤ 9) : 2 ^ n ≤ 512 := Nat.pow_le_pow_right (by decide) h
theorem W9.lt {n : Nat} {l : List Nat} (h : W9 n l) (hn : n ≤ 9) {w : Nat} (hw : w ∈ l) : w < 512 := Nat.lt_of_lt_of_le (h w hw).1 (pow_512 hn)
theorem fwp_lt {p : Nat → Bool} {n : Nat} {l : List Nat} (h : W9 n l) : fwp p l < 2 ^ n := by
  rcases fwp_mem p l with h0 | h0
  · rw [h0]; exact Nat.pow_pos (by decide)
  · exact (h _ h0.1).1
theorem fwp_take_lt {p : Nat → Bool} {n : Nat} {l : List Nat} (h : W9 n l) (j : Nat) : fwp p (l.take j) < 2 ^ n := fwp_lt (fun w hw => h w (List.mem_of_mem_take hw))
theorem Tw_W9 (G : GD) (to : Nat) : ∀ (d here seen way : Nat), way < 2 ^ G.1 → W9 G.1 (Tw G to d here seen way)
  | 0, _, _, _, _ => fun w hw => by cases hw
  | d + 1, here, seen, way, hy => by
    intro w hw
    obtain ⟨k, hk, hk2⟩ := List.mem_flatMap.mp hw
    have hk3 := List.mem_range.mp hk
    have hor : way ||| 2 ^ k < 2 ^ G.1 := Nat.or_lt_two_pow hy (Nat.pow_lt_pow_right (by decide) hk3)
    unfold itT at hk2
    split at hk2
    · cases hk2
    · split at hk2
      · rw [List.mem_singleton] at hk2
        subst hk2
        refine ⟨hor, fun hc => ?_⟩
        have := congrArg (fun x => Nat.testBit x k) hc
        simp [Nat.testBit_or, Nat.testBit_two_pow_self] at this
      · split at hk2
        · cases hk2
        · exact Tw_W9 G to d _ _ _ hor w hk2
theorem wl_W9 (G : GD) (a b : Nat) : W9 G.1 (wl G a b) := Tw_W9 G b 6 a (2 ^ a) 0 (Nat.pow_pos (by decide))
theorem pc9 {w : Nat} (h : w < 512) : pc w < 2147483648 := by have := pc_le w h; omega
/-! the class's way with the fewest links -/
def sbb (w o : Nat) : Bool := al (fun k => !w.testBit k || o.testBit k) 9
theorem sbb_sub {w o : Nat} : sbb w o = true ↔ sub9 w o := by
  unfold sbb sub9
  rw [al_iff]
  constructor
  · intro h k hk hb
    have := h k hk
    rw [hb] at this
    simpa using this
  · intro h k hk
    cases hb : w.testBit k
    · rfl
    · rw [h k hk hb]; rfl
theorem s_wayOf {p j : Nat} {μ : Mm} {q : Int32 → Mm → Prop} (hp : p < 36) (hj : j < 15) (h : q (μ (p_WY + p) j) μ) : Wp_X2_wayOf (nI p) (nI j) μ q := by
  unfold Wp_X2_wayOf
  intro K28 h28
  unfold F_X2_wayOf_e
  refine br_f (nI_pos (by omega)) (br_f (not_le_nI (n := 36) hp (by omega)) (br_f (nI_pos (by omega)) (br_f (not_le_nI (n := 15) hj (by omega)) (h28 _ _ _ _ ?_))))
  unfold F_X2_wayOf_28
  refine br_f (by decide) ?_
  simp (disch := omega) only [vpT, vpT0, vpT1, vpT2, clT, clT0, clT1, clT2, leT, leF, leT0, ltT, ltF, i1, true_and, and_true, true_implies, false_implies, not_true_eq_false, not_false_eq_true, forall_const, implies_true]
  exact h
theorem s_countOfWays {p : Nat} {μ : Mm} {q : Int32 → Mm → Prop} (hp : p < 36) (h : q (μ p_GR_wayCounts p) μ) : Wp_X2_countOfWays (nI p) μ q := by
  unfold Wp_X2_countOfWays F_X2_countOfWays_e
  refine br_f (nI_pos (by omega)) (br_f (not_le_nI (n := 36) hp (by omega)) ?_)
  simp (disch := omega) only [vpT, vpT0, vpT1, vpT2, clT, clT0, clT1, clT2, leT, leF, leT0, ltT, ltF, i1, true_and, and_true, true_implies, false_implies, not_true_eq_false, not_false_eq_true, forall_const, implies_true]
  exact h
theorem pcle {a b : Nat} (ha : a < 512) (hb : b < 512) : (nI (pc b) ≤ nI (pc a)) = (¬ pc a < pc b) := by
  by_cases h : pc a < pc b
  · rw [leF h (pc9 hb)]; simp [h]
  · rw [leT (by omega) (pc9 ha)]; simp [h]
theorem s_shortest {G : GD} {a b o : Nat} {μ : Mm} {q : Int32 → Mm → Prop} (hG : NetOk G) (hW : WR G μ) (ha : a < 6) (hb : b < 6) (hab : a ≠ b) (ho : o < 512) (h : q (nI (fwp (fun w => sbb w o) (wl G a b))) μ) : Wp_X2_shortest (nI (a * 6 + b)) (nI o) μ q := by
  obtain ⟨h1, h2⟩ := hW a b ha hb hab
  have h15 := wl_15 hG ha hb hab
  have h9 := wl_W9 G a b
  unfold Wp_X2_shortest
  intro K12 K49 h12 h49
  unfold F_X2_shortest_e
  refine s_countOfWays (by omega) ?_
  rw [h1]
  refine dn (P := fun j => K12 (nI (a * 6 + b)) (nI o) (nI (fwp (fun w => sbb w o) ((wl G a b).take j))) (nI (wl G a b).length) (nI j) μ) (n := (wl G a b).length) ?_ ?_
  · refine h12 _ _ _ _ _ _ ?_
    unfold F_X2_shortest_12
    rw [List.take_length]
    simp (disch := omega) only [vpT, vpT0, vpT1, vpT2, clT, clT0, clT1, clT2, leT, leF, leT0, ltT, ltF, i1, true_and, and_true, true_implies, false_implies, not_true_eq_false, not_false_eq_true, forall_const, implies_true]
    exact h
  · intro j hj hn
    refine h12 _ _ _ _ _ _ ?_
    unfold F_X2_shortest_12
    simp (disch := omega) only [vpT, vpT0, vpT1, vpT2, clT, clT0, clT1, clT2, leT, leF, leT0, ltT, ltF, i1, true_and, and_true, true_implies, false_implies, not_true_eq_false, not_false_eq_true, forall_const, implies_true]
    refine s_wayOf (by omega) (by omega) ?_
    rw [h2 j hj]
    rw [fwp_take _ _ j hj] at hn
    have hwl : (wl G a b)[j] < 512 := h9.lt hG.1 (List.getElem_mem hj)
    have hfl : fwp (fun w => sbb w o) ((wl G a b).take j) < 512 := Nat.lt_of_lt_of_le (fwp_take_lt h9 j) (pow_512 hG.1)
    generalize (wl G a b)[j] = w at *
    generalize fwp (fun w => sbb w o) ((wl G a b).take j) = f at *
    have key1 : (f = 0 ∨ pc w < pc f) → K49 (nI (a * 6 + b)) (nI o) (nI f) (nI (wl G a b).length) (nI j) (nI w) 1 μ := by
      intro hc
      refine h49 _ _ _ _ _ _ _ _ ?_
      unfold F_X2_shortest_49
      refine br_f (by decide) ?_
      rw [i1]
      unfold fst1 at hn
      by_cases hs : sbb w o = true
      · rw [if_pos ⟨hs, hc⟩] at hn
        exact rb_t ((m_sub hwl ho).2 (sbb_sub.1 hs)) hn
      · rw [if_neg (fun hx => hs hx.1)] at hn
        exact rb_f (fun hx => hs (sbb_sub.2 ((m_sub hwl ho).1 hx))) hn
    by_cases hf0 : f = 0
    · exact br_t (by rw [hf0]; rfl) (key1 (Or.inl hf0))
    · refine br_f (by rw [e0 (by omega)]; exact hf0) ?_
      refine s_bitCount hwl (s_bitCount hfl ?_)
      rw [pcle hwl hfl]
      by_cases hp : pc w < pc f
      · exact br_f (fun hx => hx hp) (key1 (Or.inr hp))
      · refine br_t hp (h49 _ _ _ _ _ _ _ _ ?_)
        unfold F_X2_shortest_49
        refine br_t rfl ?_
        rw [i1]
        unfold fst1 at hn
        rw [if_neg (fun hx => hx.2.elim hf0 hp)] at hn
        exact hn
/-! room -/
def okF (nL : Nat) (F : Nat → Int32) (x : Int32) (w : Nat) : Bool := al (fun k => !w.testBit k || !decide (F k < x)) nL
theorem ok_om {nL : Nat} {F : Nat → Int32} {x : Int32} {w : Nat} (hL : nL ≤ 9) (hw : w < 2 ^ nL) : sbb w (om9 (fun k => !decide (F k < x)) nL) = okF nL F x w := by
  rw [Bool.eq_iff_iff, sbb_sub]
  unfold okF sub9
  rw [al_iff]
  constructor
  · intro h k hk
    cases hb : w.testBit k
    · rfl
    · have := h k (by omega) hb
      rw [om9_bit] at this
      simp only [Bool.and_eq_true] at this
      rw [this.2]; rfl
  · intro h k hk hb
    have hk2 : k < nL := by
      by_cases hc : k < nL
      · exact hc
      · rw [Nat.testBit_lt_two_pow (Nat.lt_of_lt_of_le hw (Nat.pow_le_pow_right (by decide) (by omega)))] at hb
        cases hb
    rw [om9_bit, decide_eq_true hk2]
    have := h k hk2
    rw [hb] at this
    simpa using this
theorem okF_congr {nL : Nat} {F F2 : Nat → Int32} {x : Int32} {w : Nat} (h : ∀ k, k < nL → F k = F2 k) : okF nL F x w = okF nL F2 x w := by
  rw [Bool.eq_iff_iff]
  unfold okF
  rw [al_iff, al_iff]
  constructor
  · intro hh k hk; rw [← h k hk]; exact hh k hk
  · intro hh k hk; rw [h k hk]; exact hh k hk
/-- the class: the way with the fewest links and room -/
theorem s_shortFor {G : GD} {a b : Nat} {x : Int32} {μ : Mm} {q : Int32 → Mm → Prop} (hG : NetOk G) (hg : HG G μ) (hW : WR G μ) (ha : a < 6) (hb : b < 6) (hab : a ≠ b) (h : q (nI (fwp (okF G.1 (lft μ) x) (wl G a b))) μ) : Wp_X0_openFor x μ (fun z μ1 => Wp_X2_shortest (nI (a * 6 + b)) z μ1 q) := by
  refine s_openFor hG.1 hg.2.1 ?_
  refine s_shortest hG hW ha hb hab (om9_lt _ _ hG.1) ?_
  rw [fwp_congr (p2 := okF G.1 (lft μ) x) (fun w hw => ok_om hG.1 (wl_W9 G a b w hw).1)]
  exact h
/-! needs on links -/
def tkF (nL w : Nat) (x : Int32) (F : Nat → Int32) : Nat → Int32 := fun k => if k < nL ∧ w.testBit k = true then F k - x else F k
def crF (nL w : Nat) (x : Int32) (F : Nat → Int32) : Nat → Int32 := fun k => if k < nL ∧ w.testBit k = true then F k + x else F k
theorem s_carry {nL w : Nat} {x : Int32} {μ : Mm} {q : Mm → Prop} (hL : nL ≤ 9) (h3 : μ p_GR 7 = nI nL) (hw : w < 512) (h : q (setr μ p_BK_linkNeeds (crF nL w x (μ p_BK_linkNeeds)))) : Wp_X0_carry (nI w) x μ q := by
  unfold Wp_X0_carry
  intro K2 h2
  unfold F_X0_carry_e
  have h0 : μ = setr μ p_BK_linkNeeds (crF 0 w x (μ p_BK_linkNeeds)) := by
    rw [show crF 0 w x (μ p_BK_linkNeeds) = μ p_BK_linkNeeds from by funext k; unfold crF; rw [if_neg (by omega)], setr_id]
  refine (show ∀ μ0, μ0 = setr μ p_BK_linkNeeds (crF 0 w x (μ p_BK_linkNeeds)) → K2 (nI w) x (nI 0) μ0 from ?_) μ h0
  intro μ0 hμ0
  rw [hμ0]
  refine dn (P := fun j => K2 (nI w) x (nI j) (setr μ p_BK_linkNeeds (crF j w x (μ p_BK_linkNeeds)))) (n := nL) ?_ ?_
  · refine h2 _ _ _ _ ?_
    unfold F_X0_carry_2
    rw [setr_ne (by decide), h3]
    simp (disch := omega) only [vpT, vpT0, vpT1, vpT2, clT, clT0, clT1, clT2, leT, leF, leT0, ltT, ltF, i1, true_and, and_true, true_implies, false_implies, not_true_eq_false, not_false_eq_true, forall_const, implies_true]
    exact h
  · intro j hj hn
    refine h2 _ _ _ _ ?_
    unfold F_X0_carry_2
    rw [setr_ne (by decide), h3]
    simp (disch := omega) only [vpT, vpT0, vpT1, vpT2, clT, clT0, clT1, clT2, leT, leF, leT0, ltT, ltF, i1, true_and, and_true, true_implies, false_implies, not_true_eq_false, not_false_eq_true, forall_const, implies_true]
    rw [m_sh w hw j (by omega)]
    simp only [up2_setr, setr_setr, setr_self]
    have e : crF j w x (μ p_BK_linkNeeds) j = μ p_BK_linkNeeds j := by unfold crF; rw [if_neg (by omega)]
    rw [e]
    have e2 : upd (crF j w x (μ p_BK_linkNeeds)) j (μ p_BK_linkNeeds j + nI (tb w j) * x) = crF (j + 1) w x (μ p_BK_linkNeeds) := by
      funext k
      unfold upd crF
      by_cases hk : k = j
      · subst hk
        rw [if_pos rfl, tb_bit]
        cases hb : w.testBit k
        · rw [if_neg (by simp), if_neg (by simp)]
          show μ p_BK_linkNeeds k + 0 * x = _
          rw [Int32.zero_mul, Int32.add_zero]
        · rw [if_pos rfl, if_pos ⟨by omega, rfl⟩]
          show μ p_BK_linkNeeds k + 1 * x = _
          rw [Int32.one_mul]
      · rw [if_neg hk]
        by_cases hkj : k < j ∧ w.testBit k = true
        · rw [if_pos hkj, if_pos ⟨by omega, hkj.2⟩]
        · rw [if_neg hkj, if_neg (fun hx => hkj ⟨by omega, hx.2⟩)]
    rw [e2]
    exact hn
theorem crF_back (nL w : Nat) (x : Int32) (F : Nat → Int32) : crF nL w (-x) (crF nL w x F) = F := by
  funext k
  unfold crF
  by_cases h : k < nL ∧ w.testBit k = true
  · rw [if_pos h, if_pos h, Int32.add_assoc, Int32.add_right_neg, Int32.add_zero]
  · rw [if_neg h, if_neg h]
theorem tkF_back (nL w : Nat) (x : Int32) (F : Nat → Int32) : tkF nL w (-x) (tkF nL w x F) = F := by
  funext k
  unfold tkF
  by_cases h : k < nL ∧ w.testBit k = true
  · rw [if_pos h, if_pos h, Int32.sub_eq_add_neg, Int32.sub_eq_add_neg, Int32.neg_neg, Int32.add_assoc, Int32.add_left_neg, Int32.add_zero]
  · rw [if_neg h, if_neg h]
theorem lft_carry (nL w : Nat) (x : Int32) (μ : Mm) : lft (setr μ p_BK_linkNeeds (crF nL w x (μ p_BK_linkNeeds))) = tkF nL w x (lft μ) := by
  funext k
  unfold lft tkF
  rw [setr_self, setr_ne (by decide), setr_ne (by decide)]
  unfold crF
  by_cases h : k < nL ∧ w.testBit k = true
  · rw [if_pos h, if_pos h]
    simp only [Int32.sub_eq_add_neg, Int32.neg_add, Int32.add_assoc]
    congr 1
    congr 1
    exact Int32.add_comm _ _
  · rw [if_neg h, if_neg h]
