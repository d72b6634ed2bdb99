/-! the reference's sums -/
def mWs (n : Nat) (S : St) (μ : Mm) : Prop := ∀ i, i < n → mQ i (S.2.2 i) μ ∧ mW i (S.2.2 i) μ ∧ S.2.2 i 0 11 ≤ 3 ∧ S.2.2 i 0 14 ≤ 1 ∧ ∀ l, l < S.2.2 i 0 11 → S.2.2 i 7 l < 512 ∧ S.2.2 i 9 l < 512 ∧ S.2.2 i 10 l < 512 ∧ S.2.2 i 8 l ≤ S.2.2 i 6 l
def fl (f : Rq → Nat → Nat) (S : St) (j : Nat) : Nat := if S.2.2 (j / 3) 0 14 = 0 then (if j % 3 < S.2.2 (j / 3) 0 11 then f (S.2.2 (j / 3)) (j % 3) else 0) else 0
theorem fl_sum (f : Rq → Nat → Nat) (S : St) (n : Nat) (h : ∀ i, i < n → S.2.2 i 0 11 ≤ 3) : sm (fl f S) (3 * n) = sm (fun i => if S.2.2 i 0 14 = 0 then sm (f (S.2.2 i)) (S.2.2 i 0 11) else 0) n := by
  rw [sm_3]
  refine sm_congr fun i hi => ?_
  by_cases he : S.2.2 i 0 14 = 0
  · rw [if_pos he, ← sm_guard (f (S.2.2 i)) (h i hi)]
    refine sm_congr fun j hj => ?_
    unfold fl
    rw [show (3 * i + j) / 3 = i by omega, show (3 * i + j) % 3 = j by omega, if_pos he]
  · rw [if_neg he]
    refine sm_zero fun j hj => ?_
    unfold fl
    rw [show (3 * i + j) / 3 = i by omega, if_neg he]
theorem s_needs {S : St} {k : Nat} {μ : Mm} {q : Int32 → Mm → Prop} (hk : k < 9) (hn : nRq S ≤ 12) (h8 : μ p_MO 8 = nI (nRq S)) (hw : mWs (nRq S) S μ) (h : q (nI (ndS S k)) μ) : Wp_X8_needs (nI k) μ q := by
  have hs : sm (fl (fun r l => lL r k l) S) (3 * nRq S) = ndS S k := fl_sum _ S _ (fun i hi => (hw i hi).2.2.1)
  unfold Wp_X8_needs
  intro K4 K63 h4 h63
  unfold F_X8_needs_e
  refine dn (P := fun j => K4 (nI k) (nI (sm (fl (fun r l => lL r k l) S) j)) (nI j) μ) (n := 3 * nRq S) ?_ ?_
  · refine h4 _ _ _ _ ?_
    unfold F_X8_needs_4
    rw [h8, hs]
    simp (disch := omega) only [vpT, vpT0, vpT1, vpT2, clT, clT0, clT1, clT2, leT, leF, leT0, ltT, ltF, i1, true_and, and_true, true_implies, false_implies, not_true_eq_false, not_false_eq_true, forall_const, implies_true, nI_pk3]
    exact h
  · intro j hj hnx
    refine h4 _ _ _ _ ?_
    unfold F_X8_needs_4
    obtain ⟨⟨-, hl, he, -, hq⟩, hW, h3, h14, hr⟩ := hw (j / 3) (by omega)
    rw [show sm (fl (fun r l => lL r k l) S) (j + 1) = sm (fl (fun r l => lL r k l) S) j + fl (fun r l => lL r k l) S j from rfl] at hnx
    generalize sm (fl (fun r l => lL r k l) S) j = s at hnx ⊢
    unfold fl at hnx
    dsimp only at hnx
    simp (disch := omega) only [vpT, vpT0, vpT1, vpT2, clT, clT0, clT1, clT2, leT, leF, leT0, ltT, ltF, i1, true_and, and_true, true_implies, false_implies, not_true_eq_false, not_false_eq_true, forall_const, implies_true, h8, nI_pk3, d3, r3, he, hl, e0]
    by_cases hE : S.2.2 (j / 3) 0 14 = 0
    · by_cases hL : S.2.2 (j / 3) 0 11 ≤ j % 3
      · rw [if_pos hE, if_neg (by omega)] at hnx
        simp (disch := omega) only [vpT, vpT0, vpT1, vpT2, clT, clT0, clT1, clT2, leT, leF, leT0, ltT, ltF, i1, true_and, and_true, true_implies, false_implies, not_true_eq_false, not_false_eq_true, forall_const, implies_true, hE]
        exact hnx
      · rw [if_pos hE, if_pos (by omega)] at hnx
        have hjl : j % 3 < S.2.2 (j / 3) 0 11 := by omega
        obtain ⟨w7, w8, w9, -⟩ := hW _ hjl
        obtain ⟨-, -, w6⟩ := hq _ hjl
        obtain ⟨r7, r9, -, r8⟩ := hr _ hjl
        rw [show 3 * (j / 3) + j % 3 = j by omega] at w7 w8 w9 w6
        simp (disch := omega) only [vpT, vpT0, vpT1, vpT2, clT, clT0, clT1, clT2, leT, leF, leT0, ltT, ltF, i1, true_and, and_true, true_implies, false_implies, not_true_eq_false, not_false_eq_true, forall_const, implies_true, hE]
        rw [w7]
        refine s_has r7 hk ?_
        rw [w8]
        have key : ∀ y, (y = tb (S.2.2 (j / 3) 7 (j % 3)) k * S.2.2 (j / 3) 8 (j % 3)) → K63 (nI k) (nI j) (nI y) (nI s) μ := by
          intro y hy
          refine h63 _ _ _ _ _ ?_
          unfold F_X8_needs_63
          simp (disch := omega) only [vpT, vpT0, vpT1, vpT2, clT, clT0, clT1, clT2, leT, leF, leT0, ltT, ltF, i1, true_and, and_true, true_implies, false_implies, not_true_eq_false, not_false_eq_true, forall_const, implies_true, w9]
          refine s_has r9 hk ?_
          simp (disch := omega) only [vpT, vpT0, vpT1, vpT2, clT, clT0, clT1, clT2, leT, leF, leT0, ltT, ltF, i1, true_and, and_true, true_implies, false_implies, not_true_eq_false, not_false_eq_true, forall_const, implies_true, w8, w6, z_add]
          unfold lL at hnx
          refine bq (fun hb => ?_) (fun hb => ?_)
          · rw [tb_bit (S.2.2 (j / 3) 9 (j % 3)), hb, ← hy] at hnx
            simp only [Bool.false_eq_true, if_false, Nat.zero_mul, Nat.add_zero] at hnx
            rw [nI_add]
            exact hnx
          · rw [tb_bit (S.2.2 (j / 3) 9 (j % 3)), hb, ← hy] at hnx
            simp only [if_true, Nat.one_mul] at hnx
            rw [nI_sub r8, nI_add, nI_add, Nat.add_assoc]
            exact hnx
        refine bq (fun hb => ?_) (fun hb => ?_)
        · refine key 0 ?_
          rw [tb_bit, hb]; simp
        · refine key _ ?_
          rw [tb_bit, hb]; simp
    · rw [if_neg hE] at hnx
      simp (disch := omega) only [vpT, vpT0, vpT1, vpT2, clT, clT0, clT1, clT2, leT, leF, leT0, ltT, ltF, i1, true_and, and_true, true_implies, false_implies, not_true_eq_false, not_false_eq_true, forall_const, implies_true, hE]
      exact hnx
theorem s_shared {S : St} {n k f : Nat} {μ : Mm} {q : Int32 → Mm → Prop} (hk : k < 9) (hf : f < 9) (hn : n ≤ 13) (hw : mWs n S μ) (h : q (nI (sm (fun i => qB (S.2.2 i) f k) n)) μ) : Wp_X8_shared (nI k) (nI f) (nI n) μ q := by
  have hs : sm (fl (fun r l => lB r f k l) S) (3 * n) = sm (fun i => qB (S.2.2 i) f k) n := fl_sum _ S _ (fun i hi => (hw i hi).2.2.1)
  unfold Wp_X8_shared
  intro K6 K47 h6 h47
  unfold F_X8_shared_e
  refine dn (P := fun j => K6 (nI k) (nI f) (nI n) (nI (sm (fl (fun r l => lB r f k l) S) j)) (nI j) μ) (n := 3 * n) ?_ ?_
  · refine h6 _ _ _ _ _ _ ?_
    unfold F_X8_shared_6
    rw [hs]
    simp (disch := omega) only [vpT, vpT0, vpT1, vpT2, clT, clT0, clT1, clT2, leT, leF, leT0, ltT, ltF, i1, true_and, and_true, true_implies, false_implies, not_true_eq_false, not_false_eq_true, forall_const, implies_true, nI_pk3]
    exact h
  · intro j hj hnx
    refine h6 _ _ _ _ _ _ ?_
    unfold F_X8_shared_6
    obtain ⟨⟨-, hl, he, -, hq⟩, hW, h3, h14, hr⟩ := hw (j / 3) (by omega)
    rw [show sm (fl (fun r l => lB r f k l) S) (j + 1) = sm (fl (fun r l => lB r f k l) S) j + fl (fun r l => lB r f k l) S j from rfl] at hnx
    generalize sm (fl (fun r l => lB r f k l) S) j = s at hnx ⊢
    unfold fl at hnx
    dsimp only at hnx
    simp (disch := omega) only [vpT, vpT0, vpT1, vpT2, clT, clT0, clT1, clT2, leT, leF, leT0, ltT, ltF, i1, true_and, and_true, true_implies, false_implies, not_true_eq_false, not_false_eq_true, forall_const, implies_true, nI_pk3, d3, r3, he, hl, e0]
    have zero : (if S.2.2 (j / 3) 0 14 = 0 then (if j % 3 < S.2.2 (j / 3) 0 11 then lB (S.2.2 (j / 3)) f k (j % 3) else 0) else 0) = 0 → K6 (nI k) (nI f) (nI n) (nI s) (nI (j + 1)) μ := by
      intro hz
      rw [hz] at hnx
      exact hnx
    by_cases hE : S.2.2 (j / 3) 0 14 = 0
    · by_cases hL : S.2.2 (j / 3) 0 11 ≤ j % 3
      · simp (disch := omega) only [vpT, vpT0, vpT1, vpT2, clT, clT0, clT1, clT2, leT, leF, leT0, ltT, ltF, i1, true_and, and_true, true_implies, false_implies, not_true_eq_false, not_false_eq_true, forall_const, implies_true, hE]
        refine h47 _ _ _ _ _ _ _ ?_
        unfold F_X8_shared_47
        simp (disch := omega) only [vpT, vpT0, vpT1, vpT2, clT, clT0, clT1, clT2, leT, leF, leT0, ltT, ltF, i1, true_and, and_true, true_implies, false_implies, not_true_eq_false, not_false_eq_true, forall_const, implies_true, z_add]
        exact zero (by rw [if_pos hE, if_neg (by omega)])
      · have hjl : j % 3 < S.2.2 (j / 3) 0 11 := by omega
        obtain ⟨w7, w8, w9, w10⟩ := hW _ hjl
        obtain ⟨-, -, w6⟩ := hq _ hjl
        obtain ⟨r7, r9, r10, r8⟩ := hr _ hjl
        rw [show 3 * (j / 3) + j % 3 = j by omega] at w7 w10 w6
        simp (disch := omega) only [vpT, vpT0, vpT1, vpT2, clT, clT0, clT1, clT2, leT, leF, leT0, ltT, ltF, i1, true_and, and_true, true_implies, false_implies, not_true_eq_false, not_false_eq_true, forall_const, implies_true, hE]
        refine h47 _ _ _ _ _ _ _ ?_
        unfold F_X8_shared_47
        have h10 : ¬ (1 : Int32) = 0 := by decide
        simp (disch := omega) only [vpT, vpT0, vpT1, vpT2, clT, clT0, clT1, clT2, leT, leF, leT0, ltT, ltF, i1, true_and, and_true, true_implies, false_implies, not_true_eq_false, not_false_eq_true, forall_const, implies_true, h10, w7]
        refine s_has r7 hf ?_
        rw [if_pos hE, if_pos hjl] at hnx
        rw [if_pos hE, if_pos hjl] at zero
        unfold lB at hnx zero
        refine bq (fun hb => ?_) (fun hb => ?_)
        · rw [z_add]
          exact zero (by rw [tb_bit (S.2.2 (j / 3) 7 (j % 3)), hb]; simp)
        · simp (disch := omega) only [vpT, vpT0, vpT1, vpT2, clT, clT0, clT1, clT2, leT, leF, leT0, ltT, ltF, i1, true_and, and_true, true_implies, false_implies, not_true_eq_false, not_false_eq_true, forall_const, implies_true, w10]
          refine s_has r10 hk ?_
          refine bq (fun hb2 => ?_) (fun hb2 => ?_)
          · rw [z_add]
            exact zero (by rw [tb_bit (S.2.2 (j / 3) 10 (j % 3)), hb2]; simp)
          · simp (disch := omega) only [vpT, vpT0, vpT1, vpT2, clT, clT0, clT1, clT2, leT, leF, leT0, ltT, ltF, i1, true_and, and_true, true_implies, false_implies, not_true_eq_false, not_false_eq_true, forall_const, implies_true, w6]
            rw [tb_bit, hb2, tb_bit, hb] at hnx
            simp only [if_true, Nat.one_mul] at hnx
            rw [nI_add]
            exact hnx
    · simp (disch := omega) only [vpT, vpT0, vpT1, vpT2, clT, clT0, clT1, clT2, leT, leF, leT0, ltT, ltF, i1, true_and, and_true, true_implies, false_implies, not_true_eq_false, not_false_eq_true, forall_const, implies_true, hE]
      refine h47 _ _ _ _ _ _ _ ?_
      unfold F_X8_shared_47
      simp (disch := omega) only [vpT, vpT0, vpT1, vpT2, clT, clT0, clT1, clT2, leT, leF, leT0, ltT, ltF, i1, true_and, and_true, true_implies, false_implies, not_true_eq_false, not_false_eq_true, forall_const, implies_true, z_add]
      exact zero (by rw [if_neg hE])
theorem tb_le (w k : Nat) : tb w k ≤ 1 := by unfold tb; omega
theorem lB_le {r : Rq} {f k l : Nat} (h : r 6 l ≤ 20) : lB r f k l ≤ 20 := by
  unfold lB
  have h1 := tb_le (r 10 l) k
  have h2 := tb_le (r 7 l) f
  generalize tb (r 10 l) k = a at *
  generalize tb (r 7 l) f = b at *
  have ha : a = 0 ∨ a = 1 := by omega
  have hb : b = 0 ∨ b = 1 := by omega
  rcases ha with rfl | rfl <;> rcases hb with rfl | rfl <;> omega
theorem qB_le {r : Rq} {f k : Nat} (h3 : r 0 11 ≤ 3) (h : ∀ l, l < r 0 11 → r 6 l ≤ 20) : qB r f k ≤ 60 := by
  unfold qB
  split
  · have h1 : sm (lB r f k) (r 0 11) ≤ sm (fun _ => 20) (r 0 11) := sm_le fun l hl => lB_le (h l hl)
    rw [sm_const] at h1
    omega
  · omega
theorem sB_le {S : St} {n f k : Nat} (hn : n ≤ 13) (h : ∀ i, i < n → S.2.2 i 0 11 ≤ 3 ∧ ∀ l, l < S.2.2 i 0 11 → S.2.2 i 6 l ≤ 20) : sm (fun i => qB (S.2.2 i) f k) n ≤ 780 := by
  have h1 : sm (fun i => qB (S.2.2 i) f k) n ≤ sm (fun _ => 60) n := sm_le fun i hi => qB_le (h i hi).1 (h i hi).2
  rw [sm_const] at h1
  omega
theorem s_reserved {S : St} {n k : Nat} {μ : Mm} {q : Int32 → Mm → Prop} (hk : k < 9) (hn : n ≤ 13) (hL : nLk S ≤ 9) (h3 : μ p_MO 3 = nI (nLk S)) (hw : mWs n S μ) (hB : ∀ i, i < n → S.2.2 i 0 11 ≤ 3 ∧ ∀ l, l < S.2.2 i 0 11 → S.2.2 i 6 l ≤ 20) (hz : sm (fun i => qB (S.2.2 i) k k) n = 0) (h : q (nI (mx (fun f => sm (fun i => qB (S.2.2 i) f k) n) (nLk S))) μ) : Wp_X8_reserved (nI k) (nI n) μ q := by
  unfold Wp_X8_reserved
  intro K5 K32 h5 h32
  unfold F_X8_reserved_e
  refine dn (P := fun j => K5 (nI k) (nI n) (nI (mx (fun f => sm (fun i => qB (S.2.2 i) f k) n) j)) (nI j) μ) (n := nLk S) ?_ ?_
  · refine h5 _ _ _ _ _ ?_
    unfold F_X8_reserved_5
    simp (disch := omega) only [vpT, vpT0, vpT1, vpT2, clT, clT0, clT1, clT2, leT, leF, leT0, ltT, ltF, i1, true_and, and_true, true_implies, false_implies, not_true_eq_false, not_false_eq_true, forall_const, implies_true, h3]
    exact h
  · intro j hj hnx
    refine h5 _ _ _ _ _ ?_
    unfold F_X8_reserved_5
    simp (disch := omega) only [vpT, vpT0, vpT1, vpT2, clT, clT0, clT1, clT2, leT, leF, leT0, ltT, ltF, i1, true_and, and_true, true_implies, false_implies, not_true_eq_false, not_false_eq_true, forall_const, implies_true, h3]
    have hm : mx (fun f => sm (fun i => qB (S.2.2 i) f k) n) j ≤ 780 := mx_le fun f _ => sB_le hn hB
    have key : ∀ y, y = sm (fun i => qB (S.2.2 i) j k) n → K32 (nI k) (nI n) (nI (mx (fun f => sm (fun i => qB (S.2.2 i) f k) n) j)) (nI j) (nI y) μ := by
      intro y hy
      have hy2 : y ≤ 780 := by rw [hy]; exact sB_le hn hB
      refine h32 _ _ _ _ _ _ ?_
      unfold F_X8_reserved_32
      rw [i1]
      rw [show mx (fun f => sm (fun i => qB (S.2.2 i) f k) n) (j + 1) = max (mx (fun f => sm (fun i => qB (S.2.2 i) f k) n) j) (sm (fun i => qB (S.2.2 i) j k) n) from rfl, ← hy] at hnx
      by_cases hle : y ≤ mx (fun f => sm (fun i => qB (S.2.2 i) f k) n) j
      · refine br_t (le_nI hle (by omega)) ?_
        rw [Nat.max_eq_left hle] at hnx
        exact hnx
      · refine br_f (not_le_nI (by omega) (by omega)) ?_
        rw [Nat.max_eq_right (by omega)] at hnx
        exact hnx
    by_cases hjk : j = k
    · subst hjk
      exact rb_t rfl (key 0 hz.symm)
    · refine rb_f (by rw [nI_eq (by omega) (by omega)]; exact hjk) ?_
      exact s_shared hk (by omega) hn hw (key _ rfl)
def flA (f : Rq → Nat → Nat) (S : St) (j : Nat) : Nat := if S.2.2 (j / 3) 0 14 = 0 then (if j % 3 < S.2.2 (j / 3) 0 10 then f (S.2.2 (j / 3)) (j % 3) else 0) else 0
theorem flA_sum (f : Rq → Nat → Nat) (S : St) (n : Nat) (h : ∀ i, i < n → S.2.2 i 0 10 ≤ 3) : sm (flA f S) (3 * n) = sm (fun i => if S.2.2 i 0 14 = 0 then sm (f (S.2.2 i)) (S.2.2 i 0 10) else 0) n := by
  rw [sm_3]
  refine sm_congr fun i hi => ?_
  by_cases he : S.2.2 i 0 14 = 0
  · rw [if_pos he, ← sm_guard (f (S.2.2 i)) (h i hi)]
    refine sm_congr fun j hj => ?_
    unfold flA
    rw [show (3 * i + j) / 3 = i by omega, show (3 * i + j) % 3 = j by omega, if_pos he]
  · rw [if_neg he]
    refine sm_zero fun j hj => ?_
    unfold flA
    rw [show (3 * i + j) / 3 = i by omega, if_neg he]
def mAs (n : Nat) (S : St) (μ : Mm) : Prop := ∀ i, i < n → mQ i (S.2.2 i) μ ∧ mA i (S.2.2 i) μ ∧ S.2.2 i 0 10 ≤ 3 ∧ S.2.2 i 0 14 ≤ 1 ∧ ∀ l, l < S.2.2 i 0 10 → S.2.2 i 3 l < 6
theorem s_needsAt {S : St} {v : Nat} {μ : Mm} {q : Int32 → Mm → Prop} (hv : v < 6) (hn : nRq S ≤ 12) (h8 : μ p_MO 8 = nI (nRq S)) (hw : mAs (nRq S) S μ) (h : q (nI (atS S v)) μ) : Wp_X8_needsAt (nI v) μ q := by
  have hs : sm (flA (fun r p => if r 3 p = v then r 1 p else 0) S) (3 * nRq S) = atS S v := flA_sum _ S _ (fun i hi => (hw i hi).2.2.1)
  unfold Wp_X8_needsAt
  intro K4 K54 h4 h54
  unfold F_X8_needsAt_e
  refine dn (P := fun j => K4 (nI v) (nI (sm (flA (fun r p => if r 3 p = v then r 1 p else 0) S) j)) (nI j) μ) (n := 3 * nRq S) ?_ ?_
  · refine h4 _ _ _ _ ?_
    unfold F_X8_needsAt_4
    rw [h8, hs]
    simp (disch := omega) only [vpT, vpT0, vpT1, vpT2, clT, clT0, clT1, clT2, leT, leF, leT0, ltT, ltF, i1, true_and, and_true, true_implies, false_implies, not_true_eq_false, not_false_eq_true, forall_const, implies_true, nI_pk3]
    exact h
  · intro j hj hnx
    refine h4 _ _ _ _ ?_
    unfold F_X8_needsAt_4
    obtain ⟨⟨hp, -, he, hq, -⟩, hA, h3, h14, hr⟩ := hw (j / 3) (by omega)
    rw [show sm (flA (fun r p => if r 3 p = v then r 1 p else 0) S) (j + 1) = sm (flA (fun r p => if r 3 p = v then r 1 p else 0) S) j + flA (fun r p => if r 3 p = v then r 1 p else 0) S j from rfl] at hnx
    generalize sm (flA (fun r p => if r 3 p = v then r 1 p else 0) S) j = s at hnx ⊢
    have zero : flA (fun r p => if r 3 p = v then r 1 p else 0) S j = 0 → K54 (nI v) (nI s) (nI j) 0 μ := by
      intro hz
      rw [hz] at hnx
      refine h54 _ _ _ _ _ ?_
      unfold F_X8_needsAt_54
      simp (disch := omega) only [vpT, vpT0, vpT1, vpT2, clT, clT0, clT1, clT2, leT, leF, leT0, ltT, ltF, i1, true_and, and_true, true_implies, false_implies, not_true_eq_false, not_false_eq_true, forall_const, implies_true, z_add]
      exact hnx
    unfold flA at hnx zero
    dsimp only at hnx zero
    simp (disch := omega) only [vpT, vpT0, vpT1, vpT2, clT, clT0, clT1, clT2, leT, leF, leT0, ltT, ltF, i1, true_and, and_true, true_implies, false_implies, not_true_eq_false, not_false_eq_true, forall_const, implies_true, h8, nI_pk3, d3, r3, he, hp, e0]
    by_cases hE : S.2.2 (j / 3) 0 14 = 0
    · by_cases hL : S.2.2 (j / 3) 0 10 ≤ j % 3
      · simp (disch := omega) only [vpT, vpT0, vpT1, vpT2, clT, clT0, clT1, clT2, leT, leF, leT0, ltT, ltF, i1, true_and, and_true, true_implies, false_implies, not_true_eq_false, not_false_eq_true, forall_const, implies_true, hE]
        exact zero (by rw [if_pos hE, if_neg (by omega)])
      · have hjl : j % 3 < S.2.2 (j / 3) 0 10 := by omega
        have w3 := hA _ hjl
        have w1 := (hq _ hjl).1
        have r3' := hr _ hjl
        rw [show 3 * (j / 3) + j % 3 = j by omega] at w3 w1
        rw [if_pos hE, if_pos hjl] at hnx zero
        simp (disch := omega) only [vpT, vpT0, vpT1, vpT2, clT, clT0, clT1, clT2, leT, leF, leT0, ltT, ltF, i1, true_and, and_true, true_implies, false_implies, not_true_eq_false, not_false_eq_true, forall_const, implies_true, hE, w3, e1]
        by_cases hvv : S.2.2 (j / 3) 3 (j % 3) = v
        · rw [if_pos hvv] at hnx
          refine rb_t hvv (h54 _ _ _ _ _ ?_)
          unfold F_X8_needsAt_54
          have h10 : ¬ (1 : Int32) = 0 := by decide
          simp (disch := omega) only [vpT, vpT0, vpT1, vpT2, clT, clT0, clT1, clT2, leT, leF, leT0, ltT, ltF, i1, true_and, and_true, true_implies, false_implies, not_true_eq_false, not_false_eq_true, forall_const, implies_true, h10, w1]
          rw [nI_add]
          exact hnx
        · refine rb_f hvv (zero (by rw [if_neg hvv]))
    · simp (disch := omega) only [vpT, vpT0, vpT1, vpT2, clT, clT0, clT1, clT2, leT, leF, leT0, ltT, ltF, i1, true_and, and_true, true_implies, false_implies, not_true_eq_false, not_false_eq_true, forall_const, implies_true, hE]
      exact zero (by rw [if_neg hE])
def frRooms (S : St) (μ μ2 : Mm) : Prop := Sm (fun c => c = p_MO_left ∨ c = p_MO_free) μ μ2
def RM (S : St) (μ : Mm) : Prop := (∀ v, v < nNd S → μ p_MO_left v = lfN S v) ∧ ∀ k, k < nLk S → μ p_MO_free k = lfL S k
theorem mWs.fr {n : Nat} {S : St} {μ μ2 : Mm} (h : mWs n S μ) (hf : Sm (fun c => c < 26 ∨ 40 < c ∨ c = p_MO_at ∨ c = p_MO_manner ∨ c = p_MO_time) μ μ2) : mWs n S μ2 := by
  unfold mWs mQ mW at *
  rw [hf p_MO_parts (by decide), hf p_MO_lines (by decide), hf p_MO_hasEnded (by decide), hf p_MO_partNeed (by decide), hf p_MO_partSet (by decide), hf p_MO_lineFrom (by decide), hf p_MO_lineTo (by decide), hf p_MO_lineNeed (by decide), hf p_MO_way (by decide), hf p_MO_amount (by decide), hf p_MO_rest (by decide), hf p_MO_second (by decide)]
  exact h
theorem mAs.fr {n : Nat} {S : St} {μ μ2 : Mm} (h : mAs n S μ) (hf : Sm (fun c => c < 26 ∨ 40 < c ∨ c = p_MO_way ∨ c = p_MO_amount ∨ c = p_MO_rest ∨ c = p_MO_second ∨ c = p_MO_manner ∨ c = p_MO_time) μ μ2) : mAs n S μ2 := by
  unfold mAs mQ mA at *
  rw [hf p_MO_parts (by decide), hf p_MO_lines (by decide), hf p_MO_hasEnded (by decide), hf p_MO_partNeed (by decide), hf p_MO_partSet (by decide), hf p_MO_lineFrom (by decide), hf p_MO_lineTo (by decide), hf p_MO_lineNeed (by decide), hf p_MO_at (by decide)]
  exact h
theorem s_sumsRooms {S : St} {μ : Mm} {q : Mm → Prop} (hG : Good S) (hM : mG S μ) (h8 : μ p_MO 8 = nI (nRq S)) (hw : mWs (nRq S) S μ) (ha : mAs (nRq S) S μ) (hz : ∀ k, k < 9 → bhS S k k = 0) (h : ∀ μ2, frRooms S μ μ2 → RM S μ2 → q μ2) : Wp_X8_sumsRooms μ q := by
  have hL : nLk S ≤ 9 := hG.2.2.1.1
  have h3 : μ p_MO 3 = nI (nLk S) := hM.1.2.1
  have hN := hG.1
  have hR := hG.2.1
  have hB : ∀ i, i < nRq S → S.2.2 i 0 11 ≤ 3 ∧ ∀ l, l < S.2.2 i 0 11 → S.2.2 i 6 l ≤ 20 := fun i hi => by
    have := hG.2.2.2.2.2.2.2.1 i (by omega)
    exact ⟨this.2.1, fun l hl => (this.2.2.2.1 l hl).2.2.2.2⟩
  have fw : ∀ {μ2}, frRooms S μ μ2 → mWs (nRq S) S μ2 := fun hf => hw.fr (hf.mono (fun c hc => by rcases hc with rfl | rfl <;> decide))
  have fa : ∀ {μ2}, frRooms S μ μ2 → mAs (nRq S) S μ2 := fun hf => ha.fr (hf.mono (fun c hc => by rcases hc with rfl | rfl <;> decide))
  have f6 : ∀ {μ2}, frRooms S μ μ2 → μ2 p_MO = μ p_MO := fun hf => hf p_MO (by decide)
  have f21 : ∀ {μ2}, frRooms S μ μ2 → μ2 p_MO_nodeRoom = μ p_MO_nodeRoom := fun hf => hf p_MO_nodeRoom (by decide)
  have f24 : ∀ {μ2}, frRooms S μ μ2 → μ2 p_MO_linkRoom = μ p_MO_linkRoom := fun hf => hf p_MO_linkRoom (by decide)
  unfold Wp_X8_sumsRooms
  intro K2 K36 h2 h36
  unfold F_X8_sumsRooms_e
  have key36 : ∀ μ1, frRooms S μ μ1 → (∀ v, v < nNd S → μ1 p_MO_left v = lfN S v) → K36 (nI 0) μ1 := by
    intro μ1 hf1 hl1
    refine dn (P := fun k => ∀ μ1, frRooms S μ μ1 → (∀ v, v < nNd S → μ1 p_MO_left v = lfN S v) → (∀ j, j < k → μ1 p_MO_free j = lfL S j) → K36 (nI k) μ1) (n := nLk S) ?_ ?_ μ1 hf1 hl1 (fun j hj => by omega)
    · intro μ1 hf1 hl1 hfr
      refine h36 _ _ ?_
      unfold F_X8_sumsRooms_36
      rw [f6 hf1, h3]
      simp (disch := omega) only [vpT, vpT0, vpT1, vpT2, clT, clT0, clT1, clT2, leT, leF, leT0, ltT, ltF, i1, true_and, and_true, true_implies, false_implies, not_true_eq_false, not_false_eq_true, forall_const, implies_true]
      exact h μ1 hf1 ⟨hl1, hfr⟩
    · intro k hk hnx μ1 hf1 hl1 hfr
      refine h36 _ _ ?_
      unfold F_X8_sumsRooms_36
      rw [f6 hf1, h3]
      simp (disch := omega) only [vpT, vpT0, vpT1, vpT2, clT, clT0, clT1, clT2, leT, leF, leT0, ltT, ltF, i1, true_and, and_true, true_implies, false_implies, not_true_eq_false, not_false_eq_true, forall_const, implies_true]
      refine s_needs (by omega) hR (by rw [f6 hf1, h8]) (fw hf1) ?_
      rw [f6 hf1, h8]
      refine s_reserved (by omega) (by omega) hL (by rw [f6 hf1]; exact h3) (fw hf1) hB (hz k (by omega)) ?_
      refine hnx _ (hf1.tr (Sm.up (Or.inr rfl))) (fun v hv => ?_) (fun j hj => ?_)
      · rw [u_ne (by decide)]; exact hl1 v hv
      · rw [u_eq]
        by_cases hjk : j = k
        · subst hjk
          rw [d_eq, f24 hf1, hM.2.2.2 j hk]
          rfl
        · rw [d_ne hjk]; exact hfr j (by omega)
  refine dn (P := fun k => ∀ μ1, frRooms S μ μ1 → (∀ v, v < k → μ1 p_MO_left v = lfN S v) → K2 (nI k) μ1) (n := nNd S) ?_ ?_ μ Sm.rf (fun v hv => by omega)
  · intro μ1 hf1 hl1
    refine h2 _ _ ?_
    unfold F_X8_sumsRooms_2
    rw [f6 hf1, hM.2.1]
    simp (disch := omega) only [vpT, vpT0, vpT1, vpT2, clT, clT0, clT1, clT2, leT, leF, leT0, ltT, ltF, i1, true_and, and_true, true_implies, false_implies, not_true_eq_false, not_false_eq_true, forall_const, implies_true]
    exact key36 μ1 hf1 hl1
  · intro k hk hnx μ1 hf1 hl1
    refine h2 _ _ ?_
    unfold F_X8_sumsRooms_2
    rw [f6 hf1, hM.2.1]
    simp (disch := omega) only [vpT, vpT0, vpT1, vpT2, clT, clT0, clT1, clT2, leT, leF, leT0, ltT, ltF, i1, true_and, and_true, true_implies, false_implies, not_true_eq_false, not_false_eq_true, forall_const, implies_true]
    refine s_needsAt (by omega) hR (by rw [f6 hf1, h8]) (fa hf1) ?_
    refine hnx _ (hf1.tr (Sm.up (Or.inl rfl))) (fun v hv => ?_)
    rw [u_eq]
    by_cases hjk : v = k
    · subst hjk
      rw [d_eq, f21 hf1, hM.2.2.1 v hk]
      rfl
    · rw [d_ne hjk]; exact hl1 v (by omega)
