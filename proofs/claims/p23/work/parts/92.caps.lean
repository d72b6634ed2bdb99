/-! room on links: what is left stays at 0 or more -/
def FB (nL : Nat) (F : Nat → Int32) : Prop := ∀ k, k < nL → 0 ≤ (F k).toInt ∧ (F k).toInt ≤ 9999
theorem okF_ge {nL t w k : Nat} {F : Nat → Int32} (ht : t < 2147483648) (h : okF nL F (nI t) w = true) (hk : k < nL) (hb : w.testBit k = true) : (t : Int) ≤ (F k).toInt := by
  have h1 := (al_iff _ _).1 h k hk
  rw [hb] at h1
  have h2 : ¬ F k < nI t := by simpa using h1
  rw [Int32.lt_iff_toInt_lt, nI_toInt (by omega)] at h2
  omega
theorem sub_toIntR {x : Int32} {t : Nat} (h0 : 0 ≤ x.toInt) (h1 : (t : Int) ≤ x.toInt) (h2 : x.toInt ≤ 9999) : (x - nI t).toInt = x.toInt - t := by
  have hx : x = nI x.toInt.toNat := by
    apply Int32.toInt_inj.mp
    rw [nI_toInt (by omega)]
    omega
  rw [hx, pk_sub_toInt (by omega) (by omega), nI_toInt (by omega)]
theorem tk_cap {nL w t : Nat} {F : Nat → Int32} (ht : t < 2147483648) (hF : FB nL F) (ho : okF nL F (nI t) w = true) : FB nL (tkF nL w (nI t) F) ∧ ∀ k, k < nL → (tkF nL w (nI t) F k).toInt = (F k).toInt - (tb w k * t : Nat) := by
  have key : ∀ k, k < nL → (tkF nL w (nI t) F k).toInt = (F k).toInt - (tb w k * t : Nat) ∧ ((tb w k * t : Nat) : Int) ≤ (F k).toInt := by
    intro k hk
    unfold tkF
    rw [tb_bit]
    cases hb : w.testBit k with
    | true =>
      rw [if_pos ⟨hk, rfl⟩, if_pos rfl, Nat.one_mul]
      have h1 := okF_ge ht ho hk hb
      exact ⟨sub_toIntR (hF k hk).1 h1 (hF k hk).2, h1⟩
    | false =>
      rw [if_neg (by simp), if_neg (by decide), Nat.zero_mul]
      exact ⟨by simp, (hF k hk).1⟩
  refine ⟨fun k hk => ?_, fun k hk => (key k hk).1⟩
  have h1 := key k hk
  have h2 := hF k hk
  omega
theorem fwp_ok {p : Nat → Bool} {l : List Nat} (h : fwp p l ≠ 0) : fwp p l ∈ l ∧ p (fwp p l) = true := by
  rcases fwp_mem p l with h1 | h1
  · exact absurd h1 h
  · exact h1
/-- the terms of a sum from l on -/
def smf (f : Nat → Nat) (l m : Nat) : Nat := sm (fun j => f (l + j)) m
theorem smf_succ (f : Nat → Nat) (l m : Nat) : smf f l (m + 1) = f l + smf f (l + 1) m := by
  induction m with
  | zero => simp [smf, sm]
  | succ m ih =>
    have e1 : smf f l (m + 1 + 1) = smf f l (m + 1) + f (l + (m + 1)) := rfl
    have e2 : smf f (l + 1) (m + 1) = smf f (l + 1) m + f (l + 1 + m) := rfl
    rw [e1, ih, e2, show l + 1 + m = l + (m + 1) by omega]
    omega
theorem smf_zero (f : Nat → Nat) (m : Nat) : smf f 0 m = sm f m := sm_congr fun k _ => by rw [Nat.zero_add]
theorem mps_cap {nL : Nat} {W : Nat → List Nat} {need P : Nat → Nat} (hn : ∀ l, need l < 2147483648) : ∀ (m l : Nat) (F : Nat → Int32) (c : Nat) (T : Nat → Nat), FB nL F → ∀ y, y ∈ mps nL W need P m l F c T → y.2.1 = P ∧ (∀ j, j < l → y.2.2 j = T j) ∧ y.1 = c + smf (fun j => need j * pc (y.2.2 j)) l m ∧
    ∀ k, k < nL → ((smf (fun j => tb (y.2.2 j) k * need j) l m : Nat) : Int) ≤ (F k).toInt
  | 0, l, F, c, T, hF, y, hy => by
    have hy : y = (c, P, T) := by simpa [mps] using hy
    rw [hy]
    exact ⟨rfl, fun _ _ => rfl, rfl, fun k hk => (hF k hk).1⟩
  | m + 1, l, F, c, T, hF, y, hy => by
    unfold mps at hy
    obtain ⟨w, hw, hy⟩ := List.mem_flatMap.mp hy
    by_cases ho : okF nL F (nI (need l)) w = true
    · rw [if_pos ho] at hy
      obtain ⟨h1, h2⟩ := tk_cap (hn l) hF ho
      obtain ⟨a1, a2, a3, a4⟩ := mps_cap hn m (l + 1) _ _ _ h1 y hy
      have hl : y.2.2 l = w := by rw [a2 l (by omega)]; exact if_pos rfl
      refine ⟨a1, fun j hj => by rw [a2 j (by omega)]; exact if_neg (by omega), ?_, fun k hk => ?_⟩
      · rw [a3, smf_succ, hl]; omega
      · have h3 := a4 k hk
        rw [h2 k hk] at h3
        rw [smf_succ, hl]
        push_cast at h3 ⊢
        omega
    · rw [if_neg ho] at hy; cases hy
/-! a line that is split -/
theorem dwn_spec {g : Nat → Nat} : ∀ n, (dwn g n).1 ≠ 0 → (dwn g n).1 = g (dwn g n).2 ∧ ∀ t, (dwn g n).2 < t → t ≤ n → g t = 0
  | 0, h => absurd rfl h
  | s + 1, h => by
    unfold dwn at h ⊢
    by_cases h1 : g (s + 1) ≠ 0
    · rw [if_pos h1] at h ⊢
      exact ⟨rfl, fun t h2 h3 => by omega⟩
    · rw [if_neg h1] at h ⊢
      by_cases h2 : s = 0
      · rw [if_pos h2] at h; exact absurd rfl h
      · rw [if_neg h2] at h ⊢
        obtain ⟨a1, a2⟩ := dwn_spec s h
        refine ⟨a1, fun t h3 h4 => ?_⟩
        by_cases h5 : t = s + 1
        · rw [h5]; exact Decidable.byContradiction h1
        · exact a2 t h3 (by omega)
/-- what is known of a split line's ways: it is done, its links have room, and the two ways differ -/
theorem spl_cap {nL n : Nat} {F : Nat → Int32} {l : List Nat} (hn : n < 2147483648) (h9 : W9 nL l) (hF : FB nL F) (h : (spl nL F l n).1 = true) :
    (spl nL F l n).2.1 ∈ l ∧ ((spl nL F l n).2.2.2 = 0 ∨ ((spl nL F l n).2.2.2 ∈ l ∧ (spl nL F l n).2.2.2 ≠ (spl nL F l n).2.1)) ∧
    FB nL (tkF nL (spl nL F l n).2.2.2 (nI (n - (spl nL F l n).2.2.1)) (tkF nL (spl nL F l n).2.1 (nI (spl nL F l n).2.2.1) F)) ∧
    ∀ k, k < nL → (tkF nL (spl nL F l n).2.2.2 (nI (n - (spl nL F l n).2.2.1)) (tkF nL (spl nL F l n).2.1 (nI (spl nL F l n).2.2.1) F) k).toInt = (F k).toInt - ((tb (spl nL F l n).2.1 k * (spl nL F l n).2.2.1 + tb (spl nL F l n).2.2.2 k * (n - (spl nL F l n).2.2.1) : Nat) : Int) := by
  have h0 : (!decide ((dwn (gw nL F l) n).1 = 0) && (decide (n - (dwn (gw nL F l) n).2 = 0) || !decide (spO nL F l n (dwn (gw nL F l) n) = 0))) = true := h
  simp only [Bool.and_eq_true, Bool.or_eq_true, Bool.not_eq_true', decide_eq_false_iff_not, decide_eq_true_eq] at h0
  obtain ⟨h1, h2⟩ := h0
  obtain ⟨d1, d2⟩ := dwn_spec n h1
  have dle := dwn_le (g := gw nL F l) n
  show (dwn (gw nL F l) n).1 ∈ l ∧ (spO nL F l n (dwn (gw nL F l) n) = 0 ∨ (spO nL F l n (dwn (gw nL F l) n) ∈ l ∧ spO nL F l n (dwn (gw nL F l) n) ≠ (dwn (gw nL F l) n).1)) ∧
    FB nL (tkF nL (spO nL F l n (dwn (gw nL F l) n)) (nI (n - (dwn (gw nL F l) n).2)) (tkF nL (dwn (gw nL F l) n).1 (nI (dwn (gw nL F l) n).2) F)) ∧
    ∀ k, k < nL → (tkF nL (spO nL F l n (dwn (gw nL F l) n)) (nI (n - (dwn (gw nL F l) n).2)) (tkF nL (dwn (gw nL F l) n).1 (nI (dwn (gw nL F l) n).2) F) k).toInt = (F k).toInt - ((tb (dwn (gw nL F l) n).1 k * (dwn (gw nL F l) n).2 + tb (spO nL F l n (dwn (gw nL F l) n)) k * (n - (dwn (gw nL F l) n).2) : Nat) : Int)
  generalize hd : dwn (gw nL F l) n = d at *
  obtain ⟨w, t⟩ := d
  simp only at *
  have hw : fwp (okF nL F (nI t)) l ≠ 0 := by
    have : gw nL F l t ≠ 0 := by rw [← d1]; exact h1
    exact this
  obtain ⟨m1, m2⟩ := fwp_ok hw
  have d1 : w = fwp (okF nL F (nI t)) l := d1
  rw [← d1] at m1 m2
  obtain ⟨c1, c2⟩ := tk_cap (show t < 2147483648 by omega) hF m2
  by_cases hr : n - t = 0
  · have e : spO nL F l n (w, t) = 0 := by unfold spO; rw [if_pos hr]
    have e2 : tkF nL 0 (nI (n - t)) (tkF nL w (nI t) F) = tkF nL w (nI t) F := by
      funext k
      unfold tkF
      rw [Nat.zero_testBit, if_neg (by simp)]
    rw [e, e2]
    refine ⟨m1, Or.inl rfl, c1, fun k hk => ?_⟩
    rw [c2 k hk, hr]
    simp
  · have h3 : spO nL F l n (w, t) ≠ 0 := by
      rcases h2 with h2 | h2
      · exact absurd h2 hr
      · exact h2
    have e : spO nL F l n (w, t) = fwp (okF nL (tkF nL w (nI t) F) (nI (n - t))) l := by unfold spO; rw [if_neg hr]; rfl
    rw [e] at h3 ⊢
    obtain ⟨o1, o2⟩ := fwp_ok h3
    obtain ⟨c3, c4⟩ := tk_cap (show n - t < 2147483648 by omega) c1 o2
    refine ⟨m1, Or.inr ⟨o1, fun hc => ?_⟩, c3, fun k hk => ?_⟩
    · -- one more than t has no way: some link of w has just t left, then nothing
      rw [hc] at o2
      have hz : fwp (okF nL F (nI (t + 1))) l = 0 := d2 (t + 1) (by omega) (by omega)
      have hno : okF nL F (nI (t + 1)) w = true → False := fun ho => (fwp_min h9 m1 ho).1 hz
      refine hno ((al_iff _ _).2 fun k hk => ?_)
      cases hb : w.testBit k with
      | false => rfl
      | true =>
        have h5 := okF_ge (show t < 2147483648 by omega) m2 hk hb
        have h6 := okF_ge (show n - t < 2147483648 by omega) o2 hk hb
        rw [c2 k hk, tb_bit, hb, if_pos rfl, Nat.one_mul] at h6
        simp only [Bool.not_true, Bool.false_or, Bool.not_eq_true', decide_eq_false_iff_not]
        rw [Int32.lt_iff_toInt_lt, nI_toInt (by omega)]
        omega
    · rw [c4 k hk, c2 k hk]
      push_cast
      omega
theorem spF_cap {nL nl : Nat} {W : Nat → List Nat} {need : Nat → Nat} {F : Nat → Int32} (hn : ∀ l, l < nl → need l < 2147483648) (hW : ∀ l, l < nl → W9 nL (W l)) (hF : FB nL F) : ∀ l, l ≤ nl → (∀ j, j < l → (spR nL W need F j).1 = true) →
    FB nL (spF nL W need F l) ∧ ∀ k, k < nL → ((sm (fun j => tb (spR nL W need F j).2.1 k * (spR nL W need F j).2.2.1 + tb (spR nL W need F j).2.2.2 k * (need j - (spR nL W need F j).2.2.1)) l : Nat) : Int) + (spF nL W need F l k).toInt = (F k).toInt
  | 0, _, _ => ⟨hF, fun k hk => by simp [sm, spF]⟩
  | l + 1, hl, h => by
    obtain ⟨h1, h2⟩ := spF_cap hn hW hF l (by omega) (fun j hj => h j (by omega))
    have h3 := h l (by omega)
    obtain ⟨a1, a2, a3, a4⟩ := spl_cap (hn l (by omega)) (hW l (by omega)) h1 h3
    refine ⟨a3, fun k hk => ?_⟩
    have h4 := h2 k hk
    have h5 := a4 k hk
    show ((sm _ l + (tb (spl nL (spF nL W need F l) (W l) (need l)).2.1 k * (spl nL (spF nL W need F l) (W l) (need l)).2.2.1 + tb (spl nL (spF nL W need F l) (W l) (need l)).2.2.2 k * (need l - (spl nL (spF nL W need F l) (W l) (need l)).2.2.1)) : Nat) : Int) + (tkF nL (spl nL (spF nL W need F l) (W l) (need l)).2.2.2 (nI (need l - (spl nL (spF nL W need F l) (W l) (need l)).2.2.1)) (tkF nL (spl nL (spF nL W need F l) (W l) (need l)).2.1 (nI (spl nL (spF nL W need F l) (W l) (need l)).2.2.1) (spF nL W need F l)) k).toInt = _
    rw [h5]
    push_cast at h4 ⊢
    omega
/-! a part that is moved: its lines' ways are given back, then given anew -/
theorem add_toIntR {x : Int32} {t : Nat} (h0 : 0 ≤ x.toInt) (h2 : x.toInt ≤ 9999) (ht : t ≤ 9999) : (x - (-nI t)).toInt = x.toInt + t := by
  have hx : x = nI x.toInt.toNat := by
    apply Int32.toInt_inj.mp
    rw [nI_toInt (by omega)]
    omega
  have e : x - (-nI t) = nI (x.toInt.toNat + t) := by
    rw [Int32.sub_neg, ← nI_add, ← hx]
  rw [e, nI_toInt (by omega)]
  omega
theorem mvA_cap {nL k : Nat} {r : Rq} {F : Nat → Int32} (hF : ∀ q, q < nL → 0 ≤ (F q).toInt ∧ (F q).toInt ≤ 99) (hn : ∀ l, l < r 0 11 → r 6 l ≤ 20) : ∀ l, l ≤ r 0 11 → l ≤ 3 → ∀ q, q < nL → (mvA nL r k F l q).toInt = (F q).toInt + (sm (fun j => if isL r j k = true then tb (r 7 j) q * r 6 j else 0) l : Nat) ∧ sm (fun j => if isL r j k = true then tb (r 7 j) q * r 6 j else 0) l ≤ 20 * l
  | 0, _, _, q, hq => by simp [mvA, sm]
  | l + 1, h1, h3, q, hq => by
    obtain ⟨a1, a2⟩ := mvA_cap (k := k) hF hn l (by omega) (by omega) q hq
    have hn6 := hn l (by omega)
    have hFq := hF q hq
    show (mvA nL r k F (l + 1) q).toInt = (F q).toInt + ((sm _ l + _ : Nat) : Int) ∧ sm _ l + _ ≤ _
    dsimp only
    unfold mvA
    by_cases hL : isL r l k = true
    · rw [if_pos hL, if_pos hL]
      unfold tkF
      rw [tb_bit]
      cases hb : (r 7 l).testBit q with
      | true =>
        rw [if_pos ⟨hq, rfl⟩, if_pos rfl, Nat.one_mul, add_toIntR (by omega) (by omega) (by omega), a1]
        push_cast
        omega
      | false =>
        rw [if_neg (by simp), if_neg (by decide), Nat.zero_mul, a1]
        omega
    · rw [if_neg hL, if_neg hL, a1]
      omega
theorem mvG_cap {nL nl k : Nat} {W : Nat → List Nat} {r : Rq} {F : Nat → Int32} (hF : FB nL F) (hn : ∀ l, l < nl → r 6 l < 2147483648) : ∀ l, l ≤ nl → (∀ j, j < l → isL r j k = true → mvw nL W r k F j ≠ 0) → FB nL (mvG nL W r k F l) ∧ (∀ q, q < nL → ((sm (fun j => if isL r j k = true then tb (mvw nL W r k F j) q * r 6 j else 0) l : Nat) : Int) + (mvG nL W r k F l q).toInt = (F q).toInt) ∧ ∀ j, j < l → isL r j k = true → mvw nL W r k F j ∈ W j
  | 0, _, _ => ⟨hF, fun q _ => by simp [sm, mvG], fun j hj => absurd hj (Nat.not_lt_zero j)⟩
  | l + 1, h1, h => by
    obtain ⟨b1, b2, b3⟩ := mvG_cap hF hn l (by omega) (fun j hj => h j (by omega))
    by_cases hL : isL r l k = true
    · have hz := h l (by omega) hL
      obtain ⟨m1, m2⟩ := fwp_ok hz
      obtain ⟨c1, c2⟩ := tk_cap (hn l (by omega)) b1 m2
      have e : mvG nL W r k F (l + 1) = tkF nL (mvw nL W r k F l) (nI (r 6 l)) (mvG nL W r k F l) := by
        conv => lhs; unfold mvG
        rw [if_pos hL]
        rfl
      rw [e]
      refine ⟨c1, fun q hq => ?_, fun j hj hjL => ?_⟩
      · have h4 := b2 q hq
        have h5 := c2 q hq
        show ((sm _ l + (if isL r l k = true then _ else 0) : Nat) : Int) + _ = _
        rw [if_pos hL]
        show ((sm _ l + tb (mvw nL W r k F l) q * r 6 l : Nat) : Int) + (tkF nL (mvw nL W r k F l) (nI (r 6 l)) (mvG nL W r k F l) q).toInt = _
        have h5 : (tkF nL (mvw nL W r k F l) (nI (r 6 l)) (mvG nL W r k F l) q).toInt = (mvG nL W r k F l q).toInt - ((tb (mvw nL W r k F l) q * r 6 l : Nat) : Int) := h5
        rw [h5]
        push_cast at h4 ⊢
        omega
      · by_cases hjl : j = l
        · rw [hjl]; exact m1
        · exact b3 j (by omega) hjL
    · have e : mvG nL W r k F (l + 1) = mvG nL W r k F l := by
        conv => lhs; unfold mvG
        rw [if_neg hL]
      rw [e]
      refine ⟨b1, fun q hq => ?_, fun j hj hjL => ?_⟩
      · show ((sm _ l + (if isL r l k = true then _ else 0) : Nat) : Int) + _ = _
        rw [if_neg hL, Nat.add_zero]
        exact b2 q hq
      · exact b3 j (by
          have : j ≠ l := fun e => hL (by rw [← e]; exact hjL)
          omega) hjL
theorem sm_pt {f : Nat → Nat} {k0 : Nat} : ∀ {n : Nat}, (∀ j, j < n → j ≠ k0 → f j = 0) → sm f n = if k0 < n then f k0 else 0
  | 0, _ => by rw [if_neg (by omega)]; rfl
  | n + 1, h => by
    show sm f n + f n = _
    rw [sm_pt (fun j hj hne => h j (by omega) hne)]
    by_cases hn : n = k0
    · rw [hn, if_neg (by omega), if_pos (by omega), Nat.zero_add]
    · rw [h n (by omega) hn]
      by_cases hk : k0 < n
      · rw [if_pos hk, if_pos (by omega), Nat.add_zero]
      · rw [if_neg hk, if_neg (by omega)]
