/-! what the state keeps beside Good: nothing over its room, each request sound -/
def capN (S : St) : Prop := ∀ v, v < nNd S → atS S v ≤ S.2.1 1 v
def capL (S : St) : Prop := ∀ k, k < nLk S → ndS S k + rsS S k ≤ S.2.1 2 k
def LnS (G : GD) (r : Rq) (l : Nat) : Prop := WayOk G (r 7 l) (r 3 (r 4 l)) (r 3 (r 5 l)) ∧ (r 9 l = 0 ∨ (r 0 12 = 1 ∧ r 9 l ≠ r 7 l ∧ WayOk G (r 9 l) (r 3 (r 4 l)) (r 3 (r 5 l)))) ∧ (if r 0 12 = 2 then r 10 l &&& r 7 l = 0 ∧ WayOk G (r 10 l) (r 3 (r 4 l)) (r 3 (r 5 l)) else r 10 l = 0)
def RS (G : GD) (tk : Nat) (r : Rq) : Prop := 1 ≤ r 0 10 ∧ r 0 13 ≤ 9000 ∧ (r 0 14 = 0 → tk < r 0 13) ∧ ∀ l, l < r 0 11 → LnS G r l
def Snd (S : St) : Prop := Good S ∧ capN S ∧ capL S ∧ ∀ i, i < nRq S → RS S.1 (tkS S) (S.2.2 i)
theorem sums_eq {S S2 : St} (hn : nRq S2 = nRq S) (h : ∀ i, i < nRq S → S2.2.2 i = S.2.2 i) : (∀ v, atS S2 v = atS S v) ∧ (∀ v, cnS S2 v = cnS S v) ∧ (∀ k, ndS S2 k = ndS S k) ∧ ∀ f k, bhS S2 f k = bhS S f k := by
  refine ⟨fun v => ?_, fun v => ?_, fun k => ?_, fun f k => ?_⟩ <;> (first | unfold atS | unfold cnS | unfold ndS | unfold bhS) <;> (simp only [hn]; exact sm_congr fun i hi => by rw [h i hi])
theorem rs_eq {S S2 : St} (hL : nLk S2 = nLk S) (h : ∀ f k, bhS S2 f k = bhS S f k) : ∀ k, rsS S2 k = rsS S k := fun k => by
  unfold rsS
  rw [hL]
  exact mx_congr fun f _ => h f k
/-- the draft alone has changed -/
theorem Snd.dftS {S : St} {r : Rq} (h : Snd S) (hr : GoodD r) (h14 : r 0 14 = 0) : Snd (updR S (nRq S) r) := by
  obtain ⟨hG, hN, hL, hR⟩ := h
  have e : ∀ i, i < nRq S → (updR S (nRq S) r).2.2 i = S.2.2 i := fun i hi => updR_ne (by omega)
  obtain ⟨e1, e2, e3, e4⟩ := sums_eq (S := S) (S2 := updR S (nRq S) r) rfl e
  refine ⟨hG.dft hr h14, fun v hv => ?_, fun k hk => ?_, fun i hi => ?_⟩
  · rw [e1]; exact hN v hv
  · rw [e3, rs_eq (S := S) (S2 := updR S (nRq S) r) rfl e4]; exact hL k hk
  · rw [e i hi]; exact hR i hi
theorem Snd.part {S : St} {x y : Int32} (h : Snd S) : Snd (o_part S x y).2.2 := by
  have hg := g_part (x := x) (y := y) h.1
  unfold o_part at hg ⊢
  split at hg
  · rename_i h1
    rw [if_pos h1]
    split at hg
    · rename_i h2
      rw [if_pos h2]; exact h
    · rename_i h2
      rw [if_neg h2]
      have h3 := hg.d hg.n
      have h4 := dft14 hg
      have e : dft (updR S (nRq S) (addP (dft S) (toN x) (toN y))) = addP (dft S) (toN x) (toN y) := updR_i
      have h3 : GoodD (dft (updR S (nRq S) (addP (dft S) (toN x) (toN y)))) := h3
      have h4 : dft (updR S (nRq S) (addP (dft S) (toN x) (toN y))) 0 14 = 0 := h4
      rw [e] at h3 h4
      exact h.dftS h3 h4
  · rename_i h1
    rw [if_neg h1]; exact h
theorem Snd.line {S : St} {x y z : Int32} (h : Snd S) : Snd (o_line S x y z).2.2 := by
  have hg := g_line (x := x) (y := y) (z := z) h.1
  unfold o_line at hg ⊢
  split at hg
  · rename_i h1
    rw [if_pos h1]
    split at hg
    · rename_i h2
      rw [if_pos h2]; exact h
    · rename_i h2
      rw [if_neg h2]
      split at hg
      · rename_i h5
        rw [if_pos h5]; exact h
      · rename_i h5
        rw [if_neg h5]
        have h3 := hg.d hg.n
        have h4 := dft14 hg
        have e : dft (updR S (nRq S) (addLn (dft S) (toN x) (toN y) (toN z))) = addLn (dft S) (toN x) (toN y) (toN z) := updR_i
        have h3 : GoodD (dft (updR S (nRq S) (addLn (dft S) (toN x) (toN y) (toN z)))) := h3
        have h4 : dft (updR S (nRq S) (addLn (dft S) (toN x) (toN y) (toN z))) 0 14 = 0 := h4
        rw [e] at h3 h4
        exact h.dftS h3 h4
  · rename_i h1
    rw [if_neg h1]; exact h
theorem Snd.clear {S : St} (h : Snd S) : Snd (clrS S) := h.dftS (clrR_good _) (by rw [clrR_0 (by decide) (by decide)]; exact dft14 h.1)
theorem Snd.node {S : St} {n : Nat} (h : Snd S) (hn : rg 1 99 (nI n) = true) (h6 : nNd S ≠ 6) (hb : n < 1000) : Snd (S.1, set2 (set2 S.2.1 1 (nNd S) n) 0 0 (nNd S + 1), S.2.2) := by
  obtain ⟨hG, hN, hL, hR⟩ := h
  have hg := g_node (x := nI n) hG
  have et : toN (nI n) = n := clT (by omega)
  unfold o_node at hg
  rw [if_pos hn, if_neg h6, et] at hg
  have hg : Good (S.1, set2 (set2 S.2.1 1 (nNd S) n) 0 0 (nNd S + 1), S.2.2) := hg
  obtain ⟨e1, e2, e3, e4⟩ := sums_eq (S := S) (S2 := (S.1, set2 (set2 S.2.1 1 (nNd S) n) 0 0 (nNd S + 1), S.2.2)) rfl (fun _ _ => rfl)
  refine ⟨hg, fun v hv => ?_, fun k hk => ?_, fun i hi => hR i hi⟩
  · rw [e1]
    by_cases hvn : v = nNd S
    · have : atS S v = 0 := sm_zero fun i hi => by
        unfold qN
        split
        · exact sm_zero fun k hk => by
            have := (hG.p hi).1.2.1 k hk
            rw [if_neg (by omega)]
        · rfl
      rw [this]; exact Nat.zero_le _
    · have hv : v < nNd S + 1 := hv
      have := hN v (by omega)
      show _ ≤ set2 (set2 S.2.1 1 (nNd S) n) 0 0 (nNd S + 1) 1 v
      unfold set2
      rw [if_neg (by omega), if_neg (by omega)]
      exact this
  · rw [e3, rs_eq rfl e4]
    exact hL k hk
theorem tb_hi0 {nL w k : Nat} (hw : w < 2 ^ nL) (hk : nL ≤ k) : tb w k = 0 := tb_hi hw hk
theorem Snd.link {S : St} {a b n : Nat} (h : Snd S) (hg : Good (addL S.1 a b, set2 S.2.1 2 (nLk S) n, S.2.2)) : Snd (addL S.1 a b, set2 S.2.1 2 (nLk S) n, S.2.2) := by
  obtain ⟨hG, hN, hL, hR⟩ := h
  obtain ⟨e1, e2, e3, e4⟩ := sums_eq (S := S) (S2 := (addL S.1 a b, set2 S.2.1 2 (nLk S) n, S.2.2)) rfl (fun _ _ => rfl)
  have hln : ∀ i, i < nRq S → ∀ l, l < S.2.2 i 0 11 → S.2.2 i 7 l < 2 ^ nLk S ∧ S.2.2 i 9 l < 2 ^ nLk S ∧ S.2.2 i 10 l < 2 ^ nLk S := fun i hi l hl => by
    obtain ⟨a1, a2, a3, -⟩ := (hG.p hi).1.2.2.2 l hl
    exact ⟨a1, a2, a3⟩
  have hnd0 : ndS S (nLk S) = 0 := sm_zero fun i hi => by
    unfold qL
    split
    · exact sm_zero fun l hl => by
        unfold lL
        rw [tb_hi0 (hln i hi l hl).1 (Nat.le_refl _), tb_hi0 (hln i hi l hl).2.1 (Nat.le_refl _), Nat.zero_mul, Nat.zero_mul]
    · rfl
  have hbf : ∀ k, bhS S (nLk S) k = 0 := fun k => sm_zero fun i hi => by
    unfold qB
    split
    · exact sm_zero fun l hl => by
        unfold lB
        rw [tb_hi0 (hln i hi l hl).1 (Nat.le_refl _), Nat.zero_mul, Nat.mul_zero]
    · rfl
  have hbk : ∀ f, bhS S f (nLk S) = 0 := fun f => sm_zero fun i hi => by
    unfold qB
    split
    · exact sm_zero fun l hl => by
        unfold lB
        rw [tb_hi0 (hln i hi l hl).2.2 (Nat.le_refl _), Nat.zero_mul]
    · rfl
  have hrs : ∀ k, rsS (addL S.1 a b, set2 S.2.1 2 (nLk S) n, S.2.2) k = rsS S k := fun k => by
    show mx (fun f => bhS (addL S.1 a b, set2 S.2.1 2 (nLk S) n, S.2.2) f k) (nLk S + 1) = mx (fun f => bhS S f k) (nLk S)
    show max (mx _ (nLk S)) (bhS _ (nLk S) k) = _
    rw [e4, hbf, Nat.max_zero]
    exact mx_congr fun f _ => e4 f k
  refine ⟨hg, fun v hv => by rw [e1]; exact hN v hv, fun k hk => ?_, fun i hi => ?_⟩
  · rw [e3, hrs]
    by_cases hkn : k = nLk S
    · rw [hkn, hnd0]
      have : rsS S (nLk S) = 0 := by
        have : rsS S (nLk S) ≤ 0 := mx_le fun f _ => by rw [hbk]; exact Nat.le_refl _
        omega
      rw [this]; exact Nat.zero_le _
    · have hk : k < nLk S + 1 := hk
      have := hL k (by omega)
      show _ ≤ set2 S.2.1 2 (nLk S) n 2 k
      unfold set2
      rw [if_neg (by omega)]
      exact this
  · obtain ⟨r1, r2, r3, r4⟩ := hR i hi
    refine ⟨r1, r2, r3, fun l hl => ?_⟩
    obtain ⟨w1, w2, w3⟩ := r4 l hl
    refine ⟨w1.add, w2.elim Or.inl (fun w2 => Or.inr ⟨w2.1, w2.2.1, w2.2.2.add⟩), ?_⟩
    split at w3
    · rename_i hm
      show if S.2.2 i 0 12 = 2 then _ else _
      rw [if_pos hm]; exact ⟨w3.1, w3.2.add⟩
    · rename_i hm
      show if S.2.2 i 0 12 = 2 then _ else _
      rw [if_neg hm]; exact w3
theorem Snd.fail {S : St} {k : Nat} {b : Bool} (h : Snd S) (hg : Good (setF S k b)) : Snd (setF S k b) := ⟨hg, h.2.1, h.2.2.1, h.2.2.2⟩
theorem Snd.end_ {S : St} {i : Nat} (h : Snd S) (hi : i < nRq S) : Snd (endS S i) := by
  obtain ⟨hG, hN, hL, hR⟩ := h
  have le1 : ∀ v, atS (endS S i) v ≤ atS S v := fun v => by
    have := sum_out hi (fun r => qN r v) qN_end
    have : atS S v = atS (endS S i) v + qN (S.2.2 i) v := this
    omega
  have le2 : ∀ k, ndS (endS S i) k ≤ ndS S k := fun k => by
    have := sum_out hi (fun r => qL r k) qL_end
    have : ndS S k = ndS (endS S i) k + qL (S.2.2 i) k := this
    omega
  have le3 : ∀ f k, bhS (endS S i) f k ≤ bhS S f k := fun f k => by
    have := sum_out hi (fun r => qB r f k) qB_end
    have : bhS S f k = bhS (endS S i) f k + qB (S.2.2 i) f k := this
    omega
  refine ⟨endS_good hG hi, fun v hv => Nat.le_trans (le1 v) (hN v hv), fun k hk => ?_, fun j hj => ?_⟩
  · have h1 := hL k hk
    have h2 := le2 k
    have h3 : rsS (endS S i) k ≤ rsS S k := mx_le fun f hf => Nat.le_trans (le3 f k) (le_mx (f := fun f => bhS S f k) hf)
    show ndS (endS S i) k + rsS (endS S i) k ≤ S.2.1 2 k
    omega
  · by_cases hji : j = i
    · subst hji
      show RS S.1 (tkS S) ((updR S j (endR (S.2.2 j))).2.2 j)
      rw [updR_i]
      obtain ⟨r1, r2, r3, r4⟩ := hR j hi
      refine ⟨by rw [endR_x (by omega)]; exact r1, by rw [endR_x (by omega)]; exact r2, fun hc => by rw [endR_14] at hc; exact absurd hc (by decide), fun l hl => ?_⟩
      rw [endR_x (by omega)] at hl
      have := r4 l hl
      unfold LnS at this ⊢
      simp only [endR_x (show (7 : Nat) ≠ 0 ∨ l ≠ 14 by omega), endR_x (show (9 : Nat) ≠ 0 ∨ l ≠ 14 by omega), endR_x (show (10 : Nat) ≠ 0 ∨ l ≠ 14 by omega), endR_x (show (4 : Nat) ≠ 0 ∨ l ≠ 14 by omega), endR_x (show (5 : Nat) ≠ 0 ∨ l ≠ 14 by omega), endR_x (show (0 : Nat) ≠ 0 ∨ (12 : Nat) ≠ 14 by omega), endR_x (show (3 : Nat) ≠ 0 ∨ _ ≠ 14 from Or.inl (by decide))]
      exact this
    · show RS S.1 (tkS S) ((updR S i (endR (S.2.2 i))).2.2 j)
      rw [updR_ne hji]
      exact hR j hj
/-- ticks pass: what is over has ended -/
theorem psS_snd {S : St} {n : Nat} (h : Snd S) (hn : tkS S + n ≤ 9000) : ∀ k, k ≤ nRq S → Good (psS (tkU S n) k) ∧ capN (psS (tkU S n) k) ∧ capL (psS (tkU S n) k) ∧ ∀ i, i < nRq S → RS S.1 (if i < k then tkS S + n else tkS S) ((psS (tkU S n) k).2.2 i)
  | 0, _ => ⟨h.1, h.2.1, h.2.2.1, fun i hi => by rw [if_neg (by omega)]; exact h.2.2.2 i hi⟩
  | k + 1, hk => by
    obtain ⟨a1, a2, a3, a4⟩ := psS_snd h hn k (by omega)
    have e := psS_k (tkU S n) k
    have hk1 : k < nRq (psS (tkU S n) k) := by show k < (psS (tkU S n) k).2.1 0 1; rw [e.2]; exact (by omega : k < nRq S)
    have hw : (S.1, (psS (tkU S n) k).2.1) = ((psS (tkU S n) k).1, (psS (tkU S n) k).2.1) := by rw [e.1]; rfl
    have tkk : (tkU S n).2.1 0 2 = tkS S + n := by show set2 S.2.1 0 2 (tkS S + n) 0 2 = _; unfold set2; rw [if_pos ⟨rfl, rfl⟩]
    -- as a sound state of an earlier tick
    have hSnd : ∀ j, j < nRq S → RS S.1 (tkS S) ((psS (tkU S n) k).2.2 j) := fun j hj => by
      obtain ⟨r1, r2, r3, r4⟩ := a4 j hj
      refine ⟨r1, r2, fun h0 => ?_, r4⟩
      have := r3 h0
      split at this <;> omega
    unfold psS
    split
    · rename_i hc
      have hX : Snd ((psS (tkU S n) k).1, set2 (psS (tkU S n) k).2.1 0 2 (tkS S), (psS (tkU S n) k).2.2) := by
        refine ⟨a1, a2, a3, fun i hi => ?_⟩
        have hi : i < (psS (tkU S n) k).2.1 0 1 := hi
        rw [e.2] at hi
        show RS (psS (tkU S n) k).1 (set2 (psS (tkU S n) k).2.1 0 2 (tkS S) 0 2) _
        rw [e.1]
        unfold set2
        rw [if_pos ⟨rfl, rfl⟩]
        exact hSnd i hi
      have hY := hX.end_ (i := k) hk1
      refine ⟨endS_good a1 hk1, hY.2.1, hY.2.2.1, fun i hi => ?_⟩
      by_cases hik : i = k
      · subst hik
        rw [if_pos (by omega)]
        have h9 := hY.2.2.2 i hk1
        obtain ⟨r1, r2, r3, r4⟩ := h9
        show RS S.1 _ ((updR (psS (tkU S n) i) i (endR ((psS (tkU S n) i).2.2 i))).2.2 i)
        have r1 : 1 ≤ (updR (psS (tkU S n) i) i (endR ((psS (tkU S n) i).2.2 i))).2.2 i 0 10 := r1
        have r2 : (updR (psS (tkU S n) i) i (endR ((psS (tkU S n) i).2.2 i))).2.2 i 0 13 ≤ 9000 := r2
        have r4 : ∀ l, l < (updR (psS (tkU S n) i) i (endR ((psS (tkU S n) i).2.2 i))).2.2 i 0 11 → LnS (psS (tkU S n) i).1 ((updR (psS (tkU S n) i) i (endR ((psS (tkU S n) i).2.2 i))).2.2 i) l := r4
        rw [e.1] at r4
        refine ⟨r1, r2, fun h0 => ?_, r4⟩
        rw [updR_i, endR_14] at h0
        cases h0
      · have h9 := a4 i hi
        show RS S.1 _ ((updR (psS (tkU S n) k) k (endR ((psS (tkU S n) k).2.2 k))).2.2 i)
        rw [updR_ne hik]
        by_cases hlt : i < k
        · rw [if_pos hlt] at h9
          rw [if_pos (by omega)]; exact h9
        · rw [if_neg hlt] at h9
          rw [if_neg (by omega)]; exact h9
    · rename_i hc
      refine ⟨a1, a2, a3, fun i hi => ?_⟩
      have h9 := a4 i hi
      by_cases hik : i = k
      · subst hik
        rw [if_neg (by omega)] at h9
        rw [if_pos (by omega)]
        obtain ⟨r1, r2, r3, r4⟩ := h9
        refine ⟨r1, r2, fun h0 => ?_, r4⟩
        have h5 : nI (tkS (tkU S n)) < nI ((psS (tkU S n) i).2.2 i 0 13) := Decidable.byContradiction fun hx => hc ⟨h0, hx⟩
        have h6 : tkS (tkU S n) = tkS S + n := tkk
        rw [h6, nI_ltI (by omega) (by omega)] at h5
        exact h5
      · by_cases hlt : i < k
        · rw [if_pos hlt] at h9
          rw [if_pos (by omega)]; exact h9
        · rw [if_neg hlt] at h9
          rw [if_neg (by omega)]; exact h9
theorem Snd.pass {S : St} {n : Nat} (h : Snd S) (hn : tkS S + n ≤ 9000) : Snd (psS (tkU S n) (nRq S)) := by
  obtain ⟨a1, a2, a3, a4⟩ := psS_snd h hn (nRq S) (Nat.le_refl _)
  have e := psS_k (tkU S n) (nRq S)
  refine ⟨a1, a2, a3, fun i hi => ?_⟩
  have hi : i < (psS (tkU S n) (nRq S)).2.1 0 1 := hi
  rw [e.2] at hi
  have hi : i < nRq S := hi
  have h9 := a4 i hi
  rw [if_pos hi] at h9
  show RS (psS (tkU S n) (nRq S)).1 ((psS (tkU S n) (nRq S)).2.1 0 2) _
  rw [e.1, e.2]
  exact h9
