/-! where a draft is placed -/
def lsQ (r : Rq) (y : Mp) : Rq := fun a b => if a = 3 then y.2.1 b else if a = 7 then y.2.2 b else if a = 8 then r 6 b else if a = 9 then 0 else if a = 10 then 0 else r a b
theorem lsQ_x {r : Rq} {y : Mp} {x z : Nat} (h : x ≠ 3 ∧ x < 7) : lsQ r y x z = r x z := by
  unfold lsQ
  rw [if_neg (by omega), if_neg (by omega), if_neg (by omega), if_neg (by omega), if_neg (by omega)]
def plc (S : St) (m : Nat) : Option Rq :=
  match best S with
  | some y => if m = 2 then (if secOk S (lsQ (dft S) y) = true then some (secQ S (lsQ (dft S) y) (dft S 0 11)) else none) else some (lsQ (dft S) y)
  | none => if m = 1 then (spS S).map (sRq S) else none
def agr (S : St) (r : Rq) : Prop := ∀ a b, a = 0 ∨ a = 1 ∨ a = 2 ∨ (4 ≤ a ∧ a ≤ 6) → r a b = dft S a b
def MapR (S : St) (r : Rq) (m : Nat) : Prop := agr S r ∧ (∀ k, k < r 0 10 → r 3 k < nNd S) ∧ (∀ j k, j < r 0 10 → k < r 0 10 → j ≠ k → r 3 j ≠ r 3 k) ∧ ∀ l, l < r 0 11 → r 7 l < 2 ^ nLk S ∧ r 9 l < 2 ^ nLk S ∧ r 10 l < 2 ^ nLk S ∧ r 8 l ≤ r 6 l ∧ (r 9 l = 0 → r 8 l = r 6 l) ∧ (∀ k, k < 9 → (r 7 l).testBit k = true → (r 10 l).testBit k = false) ∧ (m ≠ 2 → r 10 l = 0)
theorem agr.good {S : St} {r : Rq} (h : agr S r) (hG : Good S) : GoodD r := by
  have := hG.d hG.n
  unfold GoodD at *
  simp only [h 0 _ (by omega), h 1 _ (by omega), h 2 _ (by omega), h 4 _ (by omega), h 5 _ (by omega), h 6 _ (by omega)]
  exact this
theorem agr.e14 {S : St} {r : Rq} (h : agr S r) (hG : Good S) : r 0 14 = 0 := by rw [h 0 14 (by omega)]; exact dft14 hG
theorem agr.cq {S : St} {r : Rq} {p : Nat} {μ : Mm} (h : agr S r) (hq : cQ p (dft S) μ) : cQ p r μ := by
  unfold cQ at *
  simp only [h 0 _ (by omega), h 1 _ (by omega), h 2 _ (by omega), h 4 _ (by omega), h 5 _ (by omega), h 6 _ (by omega)]
  exact hq
theorem lsQ_agr (S : St) (y : Mp) : agr S (lsQ (dft S) y) := fun a b h => lsQ_x (by omega)
theorem sRq_agr (S : St) (c : Nat) : agr S (sRq S c) := fun a b h => spQ_x (by omega)
theorem secQ_agr {S : St} {r : Rq} (h : agr S r) (l : Nat) : agr S (secQ S r l) := fun a b hh => by rw [secQ_x (by omega)]; exact h a b hh
theorem best_ok {S : St} (hG : Good S) {y : Mp} (h : best S = some y) : MpOk S.1 (nNd S) (dft S) y := by
  rcases foldl_kp_mem (LSt S) none y h with h1 | h1
  · exact allM_ok hG.2.2.1 (hG.d hG.n) y h1
  · cases h1
theorem lsQ_map {S : St} (hG : Good S) {y : Mp} (h : best S = some y) : Map0 S (lsQ (dft S) y) := by
  obtain ⟨m1, m2, m3, m4, -⟩ := best_ok hG h
  have ha := lsQ_agr S y
  refine ⟨ha.good hG, ha.e14 hG, fun k hk => ?_, fun j k hj hk hjk => ?_, fun l hl => ?_⟩
  · rw [ha 0 10 (by omega)] at hk; exact m2 k hk
  · rw [ha 0 10 (by omega)] at hj hk; exact m3 j k hj hk hjk
  · rw [ha 0 11 (by omega)] at hl
    refine ⟨(wl_W9 S.1 _ _ _ (m4 l hl)).1, ?_, rfl, rfl⟩
    rw [lsQ_x (x := 6) (by omega)]; rfl
theorem spS_ok {S : St} {c : Nat} (h : spS S = some c) : gdC (nNd S) (lfN S) (dft S) (Pc c) = true ∧ okL S.1.1 (Wof S.1 (dft S) (Pc c)) (dft S) (lfL S) = true := by
  have hm := List.mem_of_head? h
  obtain ⟨c2, -, hc2⟩ := List.mem_flatMap.mp hm
  split at hc2
  · unfold spC at hc2
    split at hc2
    · rename_i hb
      rw [List.mem_singleton] at hc2
      subst hc2
      rw [Bool.and_eq_true] at hb
      exact hb
    · cases hc2
  · cases hc2
theorem tb0 {a b : Nat} (h : a &&& b = 0) : ∀ k, b.testBit k = true → a.testBit k = false := fun k hb => by
  have h4 := congrArg (fun x => Nat.testBit x k) h
  simp only [Nat.testBit_and, Nat.zero_testBit, hb, Bool.and_true] at h4
  exact h4
theorem plc_ok {S : St} {m : Nat} {r : Rq} (hG : Good S) (h : plc S m = some r) : MapR S r m := by
  unfold plc at h
  have hp : 0 < 2 ^ nLk S := Nat.pow_pos (by decide)
  cases hb : best S with
  | some y =>
    rw [hb] at h
    dsimp only at h
    have hM := lsQ_map hG hb
    have ha := lsQ_agr S y
    by_cases hm : m = 2
    · rw [if_pos hm] at h
      split at h
      · have h : secQ S (lsQ (dft S) y) (dft S 0 11) = r := Option.some.inj h
        subst h
        refine ⟨secQ_agr ha _, fun k hk => ?_, fun j k hj hk hjk => ?_, fun l hl => ?_⟩
        · rw [secQ_x (by decide)] at hk ⊢; exact hM.2.2.1 k hk
        · rw [secQ_x (by decide)] at hj hk ⊢; rw [secQ_x (by decide)]; exact hM.2.2.2.1 j k hj hk hjk
        · rw [secQ_x (by decide)] at hl
          obtain ⟨a1, a2, a3, a4⟩ := hM.2.2.2.2 l hl
          rw [secQ_x (x := 7) (by decide), secQ_x (x := 9) (by decide), secQ_x (x := 8) (by decide), secQ_x (x := 6) (by decide)]
          refine ⟨a1, by rw [a3]; exact hp, secQ_10lt hM hl, by omega, fun _ => a2, fun k _ hbk => tb0 (secQ_dis hM hl) k hbk, fun hx => absurd hm hx⟩
      · cases h
    · rw [if_neg hm] at h
      have h : lsQ (dft S) y = r := Option.some.inj h
      subst h
      refine ⟨ha, hM.2.2.1, hM.2.2.2.1, fun l hl => ?_⟩
      obtain ⟨a1, a2, a3, a4⟩ := hM.2.2.2.2 l hl
      refine ⟨a1, by rw [a3]; exact hp, by rw [a4]; exact hp, by omega, fun _ => a2, fun k _ _ => by rw [a4]; exact Nat.zero_testBit k, fun _ => a4⟩
  | none =>
    rw [hb] at h
    dsimp only at h
    split at h
    · rename_i hm
      obtain ⟨c, hc, rfl⟩ := Option.map_eq_some_iff.mp h
      obtain ⟨h1, h2⟩ := spS_ok hc
      obtain ⟨hP6, hPd, hPn⟩ := gd_nodes hG.1 h1
      have ha := sRq_agr S c
      refine ⟨ha, fun k hk => ?_, fun j k hj hk hjk => ?_, fun l hl => ?_⟩
      · rw [ha 0 10 (by omega)] at hk; exact hPn k hk
      · rw [ha 0 10 (by omega)] at hj hk; exact hPd j k hj hk hjk
      · rw [ha 0 11 (by omega)] at hl
        rw [ha 6 l (by omega)]
        have hs := (al_iff _ _).1 h2 l hl
        obtain ⟨t1, t2, t3⟩ := spl_lt (nL := S.1.1) (n := dft S 6 l) (F := spF S.1.1 (Wof S.1 (dft S) (Pc c)) (dft S 6) (lfL S) l) (wl_W9 S.1 (Pc c (dft S 4 l)) (Pc c (dft S 5 l)))
        refine ⟨t1, t3, hp, t2, fun hz => spl_full hs hz, fun k _ _ => Nat.zero_testBit k, fun _ => rfl⟩
    · cases h
/-- the state when it is placed -/
def fnR (S : St) (r : Rq) (m t : Nat) : Rq := set3 (set3 r 0 12 m) 0 13 (tkS S + t)
def pcS (S : St) (r : Rq) (m t : Nat) : St := (S.1, set2 S.2.1 0 1 (nRq S + 1), fun j => if j = nRq S then fnR S r m t else S.2.2 j)
theorem fnR_x {S : St} {r : Rq} {m t x y : Nat} (h : x ≠ 0 ∨ (y ≠ 12 ∧ y ≠ 13)) : fnR S r m t x y = r x y := by
  unfold fnR
  rw [set3_ne (by omega), set3_ne (by omega)]
theorem fnR_12 {S : St} {r : Rq} {m t : Nat} : fnR S r m t 0 12 = m := by
  unfold fnR
  rw [set3_ne (by omega), set3_eq]
theorem fnR_13 {S : St} {r : Rq} {m t : Nat} : fnR S r m t 0 13 = tkS S + t := set3_eq
theorem pcS_nR {S : St} {r : Rq} {m t : Nat} : nRq (pcS S r m t) = nRq S + 1 := rfl
theorem pcS_n {S : St} {r : Rq} {m t : Nat} : (pcS S r m t).2.2 (nRq S) = fnR S r m t := if_pos rfl
theorem pcS_ne {S : St} {r : Rq} {m t j : Nat} (h : j ≠ nRq S) : (pcS S r m t).2.2 j = S.2.2 j := if_neg h
theorem fnR_good {S : St} {r : Rq} {m t : Nat} (h : GoodD r) : GoodD (fnR S r m t) := by
  unfold GoodD at *
  simp only [fnR_x (S := S) (r := r) (m := m) (t := t) (x := 0) (y := 10) (by omega), fnR_x (S := S) (r := r) (m := m) (t := t) (x := 0) (y := 11) (by omega), fnR_x (S := S) (r := r) (m := m) (t := t) (x := 1) (by omega), fnR_x (S := S) (r := r) (m := m) (t := t) (x := 2) (by omega), fnR_x (S := S) (r := r) (m := m) (t := t) (x := 4) (by omega), fnR_x (S := S) (r := r) (m := m) (t := t) (x := 5) (by omega), fnR_x (S := S) (r := r) (m := m) (t := t) (x := 6) (by omega)]
  exact h
theorem pcS_good {S : St} {r : Rq} {m t : Nat} (hG : Good S) (hm : m ≤ 2) (h12 : nRq S < 12) (h : MapR S r m) : Good (pcS S r m t) := by
  have hgd := h.1.good hG
  have h14 := h.1.e14 hG
  obtain ⟨ha, m2, m3, m4⟩ := h
  obtain ⟨g1, g2, g3, g4, g5, g6, g7, g8, g9, g10, g11⟩ := hG
  refine ⟨g1, show nRq S + 1 ≤ 12 by omega, g3, g4, g5, g6, g7, fun i hi => ?_, fun i hi => ?_, fun i hi hn => ?_, fun i hi hn => ?_⟩
  · by_cases hin : i = nRq S
    · subst hin; rw [pcS_n]; exact fnR_good hgd
    · rw [pcS_ne hin]; exact g8 i hi
  · have hi : i < nRq S + 1 := hi
    by_cases hin : i = nRq S
    · subst hin
      rw [pcS_n, fnR_12]
      refine ⟨⟨by rw [fnR_x (by omega)]; omega, fun k hk => ?_, fun j k hj hk hjk => ?_, fun l hl => ?_⟩, hm⟩
      · rw [fnR_x (by omega)] at hk ⊢; exact m2 k hk
      · rw [fnR_x (by omega)] at hj hk ⊢; rw [fnR_x (by omega)]; exact m3 j k hj hk hjk
      · rw [fnR_x (by omega)] at hl
        rw [fnR_x (x := 7) (by omega), fnR_x (x := 9) (by omega), fnR_x (x := 10) (by omega), fnR_x (x := 8) (by omega), fnR_x (x := 6) (by omega), fnR_12]
        exact m4 l hl
    · rw [pcS_ne hin]; exact g9 i (by omega)
  · have hn : nRq S + 1 ≤ i := hn
    rw [pcS_ne (by omega)]; exact g10 i hi (by omega)
  · have hn : nRq S + 1 < i := hn
    rw [pcS_ne (by omega)]; exact g11 i hi (by omega)
def o_place (S : St) (x y : Int32) : Ans :=
  if (rg 0 2 x && rg 1 100 y) = true then
    (if nRq S = 12 ∨ dft S 0 10 = 0 then (2, 0, S) else
      match plc S (toN x) with
      | some r => (0, nI (nRq S), pcS S r (toN x) (toN y))
      | none => (0, -1, S))
  else (1, 0, S)
theorem g_place {S : St} {x y : Int32} (hG : Good S) : Good (o_place S x y).2.2 := by
  unfold o_place
  split
  · rename_i hb
    rw [Bool.and_eq_true] at hb
    have hx := rg_ex (a := 0) (b := 2) (by omega) (by omega) hb.1
    split
    · exact hG
    · rename_i hc
      cases hp : plc S (toN x) with
      | some r =>
        have := hG.2.1
        exact pcS_good hG hx.2.1 (by have : nRq S ≠ 12 := fun hx => hc (Or.inl hx); omega) (plc_ok hG hp)
      | none => exact hG
  · exact hG
