def bN (B : Bs) : Nat := match B with
  | none => 9999
  | some y => y.1
/-- the best that the reference holds -/
def HMb (B : Bs) (μ : Mm) : Prop := match B with
  | none => True
  | some y => y.1 < 9999 ∧ ∀ k, k < 3 → μ p_MO_bestAt k = nI (y.2.1 k) ∧ μ p_MO_bestWay k = nI (y.2.2 k)
theorem HMb.fr {B : Bs} {μ μ2 : Mm} (h : HMb B μ) (h1 : μ2 49 = μ 49) (h2 : μ2 50 = μ 50) : HMb B μ2 := by
  unfold HMb at *
  rw [show μ2 p_MO_bestAt = μ p_MO_bestAt from h1, show μ2 p_MO_bestWay = μ p_MO_bestWay from h2]
  exact h
theorem HMb.lt {B : Bs} {μ : Mm} (h : HMb B μ) : bN B ≤ 9999 := by
  cases B with
  | none => exact Nat.le_refl _
  | some y => have := h.1; show y.1 ≤ _; omega
theorem kp_cut {B : Bs} {L : List Mp} (h : ∀ x, x ∈ L → bN B ≤ x.1) (hs : ∀ x, x ∈ L → x.1 < 9999) : L.foldl kp B = B := by
  induction L with
  | nil => rfl
  | cons x L ih =>
    rw [List.foldl_cons]
    have h1 := h x List.mem_cons_self
    have h2 := hs x List.mem_cons_self
    have : kp B x = B := by
      cases B with
      | none => have h3 : 9999 ≤ x.1 := h1; omega
      | some y => unfold kp; have h3 : y.1 ≤ x.1 := h1; dsimp only; rw [if_neg (by omega)]
    rw [this]
    exact ih (fun z hz => h z (List.mem_cons_of_mem _ hz)) (fun z hz => hs z (List.mem_cons_of_mem _ hz))
theorem kp_new {B : Bs} {x : Mp} (h : x.1 < bN B) : kp B x = some x := by
  unfold kp
  cases B with
  | none => rfl
  | some y =>
    have h2 : x.1 < y.1 := h
    dsimp only; rw [if_pos h2]
/-- keeps the tried one -/
theorem s_keeps {a b c w0 w1 w2 : Nat} {P : Nat → Nat} {μ : Mm} {q : Mm → Prop} (ha : a < 64) (hb : b < 64) (hc : c < 64) (h0 : μ p_MO_found a = nI w0) (h1 : μ p_MO_found (64 + b) = nI w1) (h2 : μ p_MO_found (128 + c) = nI w2) (hT : ∀ k, k < 3 → μ p_MO_tries k = nI (P k))
    (h : ∀ μ2, Sm (fun c => c = 49 ∨ c = 50) μ μ2 → (∀ k, k < 3 → μ2 p_MO_bestAt k = nI (P k)) → μ2 p_MO_bestWay 0 = nI w0 → μ2 p_MO_bestWay 1 = nI w1 → μ2 p_MO_bestWay 2 = nI w2 → q μ2) : Wp_X8_keeps (nI a) (nI b) (nI c) μ q := by
  unfold Wp_X8_keeps
  intro K3 h3
  unfold F_X8_keeps_e
  refine dn (P := fun k => ∀ μ1, Sm (fun c => c = 49 ∨ c = 50) μ μ1 → (∀ j, j < k → μ1 p_MO_bestAt j = nI (P j)) → K3 (nI a) (nI b) (nI c) (nI k) μ1) (n := 3) ?_ ?_ μ Sm.rf (fun j hj => by omega)
  · intro μ1 s1 hm
    refine h3 _ _ _ _ _ ?_
    unfold F_X8_keeps_3
    refine br_t (by decide) ?_
    rw [show (64 : Int32) = nI 64 from rfl, show (128 : Int32) = nI 128 from rfl, nI_add, nI_add]
    simp (disch := omega) only [vpT, vpT0, vpT1, vpT2, clT, clT0, clT1, clT2, leT, leF, leT0, ltT, ltF, i1, true_and, and_true, true_implies, false_implies, not_true_eq_false, not_false_eq_true, forall_const, implies_true]
    rw [u_ne (show p_MO_found ≠ p_MO_bestWay by decide), u_ne (show p_MO_found ≠ p_MO_bestWay by decide), u_ne (show p_MO_found ≠ p_MO_bestWay by decide), s1 p_MO_found (by decide), h0, h1, h2]
    refine h _ (((s1.tr (Sm.up (Or.inr rfl))).tr (Sm.up (Or.inr rfl))).tr (Sm.up (Or.inr rfl))) (fun k hk => ?_) ?_ ?_ ?_
    · rw [u_ne (by decide), u_ne (by decide), u_ne (by decide)]; exact hm k hk
    · rw [u_eq, d_ne (by decide), u_eq, d_ne (by decide), u_eq, d_eq]
    · rw [u_eq, d_ne (by decide), u_eq, d_eq]
    · rw [u_eq, d_eq]
  · intro k hk hnx μ1 s1 hm
    refine h3 _ _ _ _ _ ?_
    unfold F_X8_keeps_3
    refine br_f (not_le_nI (n := 3) hk (by omega)) ?_
    simp (disch := omega) only [vpT, vpT0, vpT1, vpT2, clT, clT0, clT1, clT2, leT, leF, leT0, ltT, ltF, i1, true_and, and_true, true_implies, false_implies, not_true_eq_false, not_false_eq_true, forall_const, implies_true]
    rw [s1 p_MO_tries (by decide), hT k hk]
    refine hnx _ (s1.tr (Sm.up (Or.inl rfl))) (fun j hj => ?_)
    rw [u_eq]
    by_cases hjk : j = k
    · subst hjk; rw [d_eq]
    · rw [d_ne hjk]; exact hm j (by omega)
def dB (c : Nat) : Prop := c = 42 ∨ c = 49 ∨ c = 50
theorem mps_cost {nL : Nat} {W : Nat → List Nat} {need P : Nat → Nat} (hn : ∀ l, need l ≤ 20) (hW : ∀ l w, w ∈ W l → w < 512) : ∀ m l F c T, ∀ e ∈ mps nL W need P m l F c T, e.1 ≤ c + 180 * m
  | 0, l, F, c, T, e, he => by
    rw [show mps nL W need P 0 l F c T = [(c, P, T)] from rfl, List.mem_singleton] at he
    subst he
    show c ≤ _
    omega
  | m + 1, l, F, c, T, e, he => by
    obtain ⟨w, hw, hw2⟩ := List.mem_flatMap.mp he
    split at hw2
    · have a1 := mps_cost hn hW m (l + 1) _ _ _ e hw2
      have hp := pc_le w (hW l w hw)
      have hb : need l * pc w ≤ 180 := Nat.mul_le_mul (hn l) hp
      omega
    · cases hw2
set_option maxHeartbeats 1000000 in
theorem s_leastBy {G : GD} {i : Nat} {r : Rq} {P : Nat → Nat} {B : Bs} {μ : Mm} {q : Int32 → Mm → Prop} (hG : NetOk G) (hi : i < 13) (hr : GoodD r) (hE : MEnv G i r μ) (hT : ∀ k, k < 3 → μ p_MO_tries k = nI (P k)) (hP6 : ∀ k, k < r 0 10 → P k < 6) (hPd : ∀ j k, j < r 0 10 → k < r 0 10 → j ≠ k → P j ≠ P k)
    (hf : ∀ l, l < 3 → Fnd l (WM G r P l) μ) (hB : HMb B μ)
    (h : ∀ μ2, Sm dB μ μ2 → μ2 p_MO_free = μ p_MO_free → HMb ((mps G.1 (Wof G r P) (r 6) P (r 0 11) 0 (μ p_MO_free) 0 (fun _ => 0)).foldl kp B) μ2 → q (nI (bN ((mps G.1 (Wof G r P) (r 6) P (r 0 11) 0 (μ p_MO_free) 0 (fun _ => 0)).foldl kp B))) μ2) : Wp_X8_leastBy (nI (bN B)) μ q := by
  have h15 := WM_15 hG hr hP6 hPd
  have hL := hG.1
  have hnd := nd_le hr
  rw [mps_pad hr.2.1 (r 0 11) 0 _ _ _ (by omega) (fun _ _ => rfl)] at h
  have hcost := mps_cost (nL := G.1) (P := P) hnd (fun l w hw => (h15 l).2 w hw)
  have dE : ∀ c, dB c → ¬ menvC c := fun c hc => by unfold dB at hc; unfold menvC; omega
  have fnd : ∀ {μ1}, Sm dB μ μ1 → ∀ l, l < 3 → Fnd l (WM G r P l) μ1 := fun s l hl => by
    have := hf l hl
    unfold Fnd at *
    rw [s p_MO_many (by unfold dB; decide), s p_MO_found (by unfold dB; decide)]
    exact this
  have mone : ∀ {μ1}, Sm dB μ μ1 → MEnv G i r μ1 := fun s => hE.fr s dE
  have m3 : ∀ {μ1}, Sm dB μ μ1 → μ1 p_MO 3 = nI G.1 := fun s => (mone s).1.2.1
  obtain ⟨W0, hW0⟩ : ∃ W, W = WM G r P 0 := ⟨_, rfl⟩
  obtain ⟨W1, hW1⟩ : ∃ W, W = WM G r P 1 := ⟨_, rfl⟩
  obtain ⟨W2, hW2⟩ : ∃ W, W = WM G r P 2 := ⟨_, rfl⟩
  have f0 : ∀ {μ1}, Sm dB μ μ1 → Fnd 0 W0 μ1 := fun s => by rw [hW0]; exact fnd s 0 (by omega)
  have f1 : ∀ {μ1}, Sm dB μ μ1 → Fnd 1 W1 μ1 := fun s => by rw [hW1]; exact fnd s 1 (by omega)
  have f2 : ∀ {μ1}, Sm dB μ μ1 → Fnd 2 W2 μ1 := fun s => by rw [hW2]; exact fnd s 2 (by omega)
  have l0 : W0.length ≤ 15 := by rw [hW0]; exact (h15 0).1
  have l1 : W1.length ≤ 15 := by rw [hW1]; exact (h15 1).1
  have l2 : W2.length ≤ 15 := by rw [hW2]; exact (h15 2).1
  have w0 : ∀ j (hj : j < W0.length), W0[j] < 512 := fun j hj => (h15 0).2 _ (by rw [← hW0]; exact List.getElem_mem hj)
  have w1 : ∀ j (hj : j < W1.length), W1[j] < 512 := fun j hj => (h15 1).2 _ (by rw [← hW1]; exact List.getElem_mem hj)
  have w2 : ∀ j (hj : j < W2.length), W2[j] < 512 := fun j hj => (h15 2).2 _ (by rw [← hW2]; exact List.getElem_mem hj)
  have hcb : ∀ l w, w < 512 → nd r l * pc w ≤ 180 := fun l w hw => Nat.mul_le_mul (hnd l) (pc_le w hw)
  have found0 : ∀ {μ1}, Sm dB μ μ1 → ∀ j (hj : j < W0.length), μ1 p_MO_found j = nI W0[j] := fun s j hj => by have := (f0 s).2 j hj; rwa [Nat.mul_zero, Nat.zero_add] at this
  have found1 : ∀ {μ1}, Sm dB μ μ1 → ∀ j (hj : j < W1.length), μ1 p_MO_found (64 + j) = nI W1[j] := fun s j hj => (f1 s).2 j hj
  have found2 : ∀ {μ1}, Sm dB μ μ1 → ∀ j (hj : j < W2.length), μ1 p_MO_found (128 + j) = nI W2[j] := fun s j hj => (f2 s).2 j hj
  have tkSm : ∀ {μ1 : Mm} {f : Nat → Int32}, Sm dB μ1 (setr μ1 p_MO_free f) := fun {_ _} => Sm.set (Or.inl rfl)
  have bwd : ∀ {μ1 : Mm} {B1 : Bs} {f : Nat → Int32}, HMb B1 μ1 → HMb B1 (setr μ1 p_MO_free f) := fun {_ _ _} hb => hb.fr (setr_ne (by decide)) (setr_ne (by decide))
  unfold Wp_X8_leastBy
  intro K4 K64 K137 h4 h64 h137
  unfold F_X8_leastBy_e
  -- the third line's ways
  have lev2 : ∀ (a b : Nat) (ha : a < W0.length) (hb : b < W1.length) (c1 c2 : Nat) (F2 : Nat → Int32) (T2 : Nat → Nat) (B1 : Bs) (μ1 : Mm), c2 ≤ 360 → T2 0 = W0[a] → T2 1 = W1[b] → Sm dB μ μ1 → μ1 p_MO_free = F2 → HMb B1 μ1 →
      (∀ μ2, Sm dB μ μ2 → μ2 p_MO_free = tkF G.1 W1[b] (-nI (nd r 1)) F2 → HMb ((mps G.1 (WM G r P) (nd r) P 1 2 F2 c2 T2).foldl kp B1) μ2 → K64 (nI (bN ((mps G.1 (WM G r P) (nd r) P 1 2 F2 c2 T2).foldl kp B1))) (nI a) (nI c1) (nI (b + 1)) μ2) →
      K137 (nI (bN B1)) (nI a) (nI c1) (nI b) (nI c2) (nI 0) μ1 := by
    intro a b ha hb c1 c2 F2 T2 B1 μ1 hc2 hT0 hT1 s1 hF1 hB1 hk
    obtain ⟨g, hg⟩ : ∃ g : Nat → List Mp, g = fun w => if okF G.1 F2 (nI (nd r 2)) w = true then mps G.1 (WM G r P) (nd r) P 0 3 (tkF G.1 w (nI (nd r 2)) F2) (c2 + nd r 2 * pc w) (setl T2 2 w) else [] := ⟨_, rfl⟩
    have hm : mps G.1 (WM G r P) (nd r) P 1 2 F2 c2 T2 = W2.flatMap g := by rw [hg, hW2]; rfl
    rw [hm] at hk
    refine dn (P := fun c => ∀ μ1, Sm dB μ μ1 → μ1 p_MO_free = F2 → HMb (((W2.take c).flatMap g).foldl kp B1) μ1 → K137 (nI (bN (((W2.take c).flatMap g).foldl kp B1))) (nI a) (nI c1) (nI b) (nI c2) (nI c) μ1) (n := W2.length) ?_ ?_ μ1 s1 hF1 hB1
    · intro μ1 s1 hF1 hB1
      refine h137 _ _ _ _ _ _ _ ?_
      unfold F_X8_leastBy_137
      rw [show (64 : Int32) = nI 64 from rfl, nI_add]
      simp (disch := omega) only [vpT, vpT0, vpT1, vpT2, clT, clT0, clT1, clT2, leT, leF, leT0, ltT, ltF, i1, true_and, and_true, true_implies, false_implies, not_true_eq_false, not_false_eq_true, forall_const, implies_true, (f2 s1).1]
      rw [List.take_length] at hB1 ⊢
      refine s_needOf hi hr (mone s1) (l := 1) (by omega) ?_
      rw [found1 s1 b hb]
      refine s_takes hL (m3 s1) (w1 b hb) ?_
      rw [hF1]
      exact hk _ (s1.tr tkSm) (setr_self _ _ _) (bwd hB1)
    · intro c hc hnx μ1 s1 hF1 hB1
      refine h137 _ _ _ _ _ _ _ ?_
      unfold F_X8_leastBy_137
      rw [show (128 : Int32) = nI 128 from rfl, nI_add]
      simp (disch := omega) only [vpT, vpT0, vpT1, vpT2, clT, clT0, clT1, clT2, leT, leF, leT0, ltT, ltF, i1, true_and, and_true, true_implies, false_implies, not_true_eq_false, not_false_eq_true, forall_const, implies_true, (f2 s1).1]
      have htk : (W2.take (c + 1)).flatMap g = (W2.take c).flatMap g ++ g W2[c] := by
        rw [List.take_succ_eq_append_getElem hc, List.flatMap_append]; simp
      rw [htk, List.foldl_append] at hnx
      obtain ⟨B2, hB2⟩ : ∃ B2, B2 = ((W2.take c).flatMap g).foldl kp B1 := ⟨_, rfl⟩
      rw [← hB2] at hB1 hnx ⊢
      refine s_cost hi hr (mone s1) (l := 2) (by omega) (f2 s1) hc l2 (w2 c hc) ?_
      rw [nI_add]
      have hlt := hB1.lt
      have hwc := w2 c hc
      have hf2c := found2 s1 c hc
      generalize W2[c] = w at *
      have hb2 := hcb 2 w hwc
      have hgw : ∀ x ∈ g w, x.1 = c2 + nd r 2 * pc w := by
        intro x hx
        rw [hg] at hx
        dsimp only at hx
        split at hx
        · rw [show mps G.1 (WM G r P) (nd r) P 0 3 (tkF G.1 w (nI (nd r 2)) F2) (c2 + nd r 2 * pc w) (setl T2 2 w) = [(c2 + nd r 2 * pc w, P, setl T2 2 w)] from rfl, List.mem_singleton] at hx
          rw [hx]
        · cases hx
      by_cases hcut : bN B2 ≤ c2 + nd r 2 * pc w
      · refine br_t (le_nI hcut (by omega)) ?_
        rw [kp_cut (fun x hx => by rw [hgw x hx]; exact hcut) (fun x hx => by rw [hgw x hx]; omega)] at hnx
        exact hnx μ1 s1 hF1 hB1
      · refine br_f (not_le_nI (by omega) (by omega)) ?_
        refine s_needOf hi hr (mone s1) (l := 2) (by omega) ?_
        rw [hf2c]
        refine s_fits hL (m3 s1) hwc ?_
        rw [hF1]
        change (bI (okF G.1 F2 (nI (nd r 2)) w) = 0 → _) ∧ (¬ bI (okF G.1 F2 (nI (nd r 2)) w) = 0 → _)
        refine bq (fun hok => ?_) (fun hok => ?_)
        · have : g w = [] := by rw [hg]; exact if_neg (by rw [hok]; decide)
          rw [this] at hnx
          exact hnx μ1 s1 hF1 hB1
        · have : g w = [(c2 + nd r 2 * pc w, P, setl T2 2 w)] := by rw [hg]; exact if_pos hok
          rw [this] at hnx
          rw [show ([(c2 + nd r 2 * pc w, P, setl T2 2 w)] : List Mp).foldl kp B2 = kp B2 (c2 + nd r 2 * pc w, P, setl T2 2 w) from rfl, kp_new (by show c2 + nd r 2 * pc w < _; omega)] at hnx
          refine s_keeps (a := a) (b := b) (c := c) (by omega) (by omega) (by omega) (found0 s1 a ha) (found1 s1 b hb) hf2c (fun k hk => by rw [s1 p_MO_tries (by unfold dB; decide)]; exact hT k hk) (fun μ2 s2 k1 k2 k3 k4 => ?_)
          refine hnx μ2 (s1.tr (s2.mono (fun x hx => Or.inr hx))) (by rw [s2 p_MO_free (by decide)]; exact hF1) ⟨by show c2 + nd r 2 * pc w < 9999; omega, fun k hk => ⟨k1 k hk, ?_⟩⟩
          have : k = 0 ∨ k = 1 ∨ k = 2 := by omega
          rcases this with rfl | rfl | rfl
          · rw [k2, ← hT0]; rfl
          · rw [k3, ← hT1]; rfl
          · rw [k4]; rfl
  -- the second line's
  have lev1 : ∀ (a : Nat) (ha : a < W0.length) (c1 : Nat) (F1 : Nat → Int32) (T1 : Nat → Nat) (B1 : Bs) (μ1 : Mm), c1 ≤ 180 → T1 0 = W0[a] → Sm dB μ μ1 → μ1 p_MO_free = F1 → HMb B1 μ1 →
      (∀ μ2, Sm dB μ μ2 → μ2 p_MO_free = tkF G.1 W0[a] (-nI (nd r 0)) F1 → HMb ((mps G.1 (WM G r P) (nd r) P 2 1 F1 c1 T1).foldl kp B1) μ2 → K4 (nI (bN ((mps G.1 (WM G r P) (nd r) P 2 1 F1 c1 T1).foldl kp B1))) (nI (a + 1)) μ2) →
      K64 (nI (bN B1)) (nI a) (nI c1) (nI 0) μ1 := by
    intro a ha c1 F1 T1 B1 μ1 hc1 hT0 s1 hF1 hB1 hk
    obtain ⟨g, hg⟩ : ∃ g : Nat → List Mp, g = fun w => if okF G.1 F1 (nI (nd r 1)) w = true then mps G.1 (WM G r P) (nd r) P 1 2 (tkF G.1 w (nI (nd r 1)) F1) (c1 + nd r 1 * pc w) (setl T1 1 w) else [] := ⟨_, rfl⟩
    have hm : mps G.1 (WM G r P) (nd r) P 2 1 F1 c1 T1 = W1.flatMap g := by rw [hg, hW1]; rfl
    rw [hm] at hk
    refine dn (P := fun b => ∀ μ1, Sm dB μ μ1 → μ1 p_MO_free = F1 → HMb (((W1.take b).flatMap g).foldl kp B1) μ1 → K64 (nI (bN (((W1.take b).flatMap g).foldl kp B1))) (nI a) (nI c1) (nI b) μ1) (n := W1.length) ?_ ?_ μ1 s1 hF1 hB1
    · intro μ1 s1 hF1 hB1
      refine h64 _ _ _ _ _ ?_
      unfold F_X8_leastBy_64
      simp (disch := omega) only [vpT, vpT0, vpT1, vpT2, clT, clT0, clT1, clT2, leT, leF, leT0, ltT, ltF, i1, true_and, and_true, true_implies, false_implies, not_true_eq_false, not_false_eq_true, forall_const, implies_true, (f1 s1).1]
      rw [List.take_length] at hB1 ⊢
      refine s_needOf hi hr (mone s1) (l := 0) (by omega) ?_
      rw [found0 s1 a ha]
      refine s_takes hL (m3 s1) (w0 a ha) ?_
      rw [hF1]
      exact hk _ (s1.tr tkSm) (setr_self _ _ _) (bwd hB1)
    · intro b hb hnx μ1 s1 hF1 hB1
      refine h64 _ _ _ _ _ ?_
      unfold F_X8_leastBy_64
      rw [show (64 : Int32) = nI 64 from rfl, nI_add]
      simp (disch := omega) only [vpT, vpT0, vpT1, vpT2, clT, clT0, clT1, clT2, leT, leF, leT0, ltT, ltF, i1, true_and, and_true, true_implies, false_implies, not_true_eq_false, not_false_eq_true, forall_const, implies_true, (f1 s1).1]
      have htk : (W1.take (b + 1)).flatMap g = (W1.take b).flatMap g ++ g W1[b] := by
        rw [List.take_succ_eq_append_getElem hb, List.flatMap_append]; simp
      rw [htk, List.foldl_append] at hnx
      obtain ⟨B2, hB2⟩ : ∃ B2, B2 = ((W1.take b).flatMap g).foldl kp B1 := ⟨_, rfl⟩
      rw [← hB2] at hB1 hnx ⊢
      refine s_cost hi hr (mone s1) (l := 1) (by omega) (f1 s1) hb l1 (w1 b hb) ?_
      rw [nI_add]
      have hlt := hB1.lt
      have hwb := w1 b hb
      have hb1 := hcb 1 W1[b] hwb
      by_cases hcut : bN B2 ≤ c1 + nd r 1 * pc W1[b]
      · refine br_t (le_nI hcut (by omega)) ?_
        have : (g W1[b]).foldl kp B2 = B2 := by
          refine kp_cut (fun x hx => ?_) (fun x hx => ?_) <;> rw [hg] at hx <;> dsimp only at hx <;> split at hx
          · have := mps_ge _ _ _ _ _ _ _ _ _ x hx; omega
          · cases hx
          · have := hcost _ _ _ _ _ x hx; omega
          · cases hx
        rw [this] at hnx
        exact hnx μ1 s1 hF1 hB1
      · refine br_f (not_le_nI (by omega) (by omega)) ?_
        refine s_needOf hi hr (mone s1) (l := 1) (by omega) ?_
        rw [found1 s1 b hb]
        refine s_fits hL (m3 s1) hwb ?_
        rw [hF1]
        change (bI (okF G.1 F1 (nI (nd r 1)) W1[b]) = 0 → _) ∧ (¬ bI (okF G.1 F1 (nI (nd r 1)) W1[b]) = 0 → _)
        refine bq (fun hok => ?_) (fun hok => ?_)
        · have : g W1[b] = [] := by rw [hg]; exact if_neg (by rw [hok]; decide)
          rw [this] at hnx
          exact hnx μ1 s1 hF1 hB1
        · have : g W1[b] = mps G.1 (WM G r P) (nd r) P 1 2 (tkF G.1 W1[b] (nI (nd r 1)) F1) (c1 + nd r 1 * pc W1[b]) (setl T1 1 W1[b]) := by rw [hg]; exact if_pos hok
          rw [this] at hnx
          refine s_needOf hi hr (mone s1) (l := 1) (by omega) ?_
          rw [found1 s1 b hb]
          refine s_takes hL (m3 s1) hwb ?_
          rw [hF1]
          refine lev2 a b ha hb c1 _ (tkF G.1 W1[b] (nI (nd r 1)) F1) (setl T1 1 W1[b]) B2 _ (by omega) (by rw [← hT0]; rfl) rfl (s1.tr tkSm) (setr_self _ _ _) (bwd hB1) (fun μ2 s2 hF2 hB3 => ?_)
          rw [tkF_back] at hF2
          exact hnx μ2 s2 hF2 hB3
  obtain ⟨g, hg⟩ : ∃ g : Nat → List Mp, g = fun w => if okF G.1 (μ p_MO_free) (nI (nd r 0)) w = true then mps G.1 (WM G r P) (nd r) P 2 1 (tkF G.1 w (nI (nd r 0)) (μ p_MO_free)) (0 + nd r 0 * pc w) (setl (fun _ => 0) 0 w) else [] := ⟨_, rfl⟩
  have hm : mps G.1 (WM G r P) (nd r) P 3 0 (μ p_MO_free) 0 (fun _ => 0) = W0.flatMap g := by rw [hg, hW0]; rfl
  rw [show 3 - 0 = 3 from rfl, hm] at h
  refine dn (P := fun a => ∀ μ1, Sm dB μ μ1 → μ1 p_MO_free = μ p_MO_free → HMb (((W0.take a).flatMap g).foldl kp B) μ1 → K4 (nI (bN (((W0.take a).flatMap g).foldl kp B))) (nI a) μ1) (n := W0.length) ?_ ?_ μ Sm.rf rfl hB
  · intro μ1 s1 hF1 hB1
    refine h4 _ _ _ ?_
    unfold F_X8_leastBy_4
    simp (disch := omega) only [vpT, vpT0, vpT1, vpT2, clT, clT0, clT1, clT2, leT, leF, leT0, ltT, ltF, i1, true_and, and_true, true_implies, false_implies, not_true_eq_false, not_false_eq_true, forall_const, implies_true, (f0 s1).1]
    rw [List.take_length] at hB1 ⊢
    exact h μ1 s1 hF1 hB1
  · intro a ha hnx μ1 s1 hF1 hB1
    refine h4 _ _ _ ?_
    unfold F_X8_leastBy_4
    simp (disch := omega) only [vpT, vpT0, vpT1, vpT2, clT, clT0, clT1, clT2, leT, leF, leT0, ltT, ltF, i1, true_and, and_true, true_implies, false_implies, not_true_eq_false, not_false_eq_true, forall_const, implies_true, (f0 s1).1]
    have htk : (W0.take (a + 1)).flatMap g = (W0.take a).flatMap g ++ g W0[a] := by
      rw [List.take_succ_eq_append_getElem ha, List.flatMap_append]; simp
    rw [htk, List.foldl_append] at hnx
    obtain ⟨B2, hB2⟩ : ∃ B2, B2 = ((W0.take a).flatMap g).foldl kp B := ⟨_, rfl⟩
    rw [← hB2] at hB1 hnx ⊢
    refine s_cost hi hr (mone s1) (l := 0) (by omega) (f0 s1) ha l0 (w0 a ha) ?_
    have hlt := hB1.lt
    have hwa := w0 a ha
    have hb1 := hcb 0 W0[a] hwa
    by_cases hcut : bN B2 ≤ nd r 0 * pc W0[a]
    · refine br_t (le_nI hcut (by omega)) ?_
      have : (g W0[a]).foldl kp B2 = B2 := by
        refine kp_cut (fun x hx => ?_) (fun x hx => ?_) <;> rw [hg] at hx <;> dsimp only at hx <;> split at hx
        · have := mps_ge _ _ _ _ _ _ _ _ _ x hx; omega
        · cases hx
        · have := hcost _ _ _ _ _ x hx; omega
        · cases hx
      rw [this] at hnx
      exact hnx μ1 s1 hF1 hB1
    · refine br_f (not_le_nI (by omega) (by omega)) ?_
      refine s_needOf hi hr (mone s1) (l := 0) (by omega) ?_
      rw [found0 s1 a ha]
      refine s_fits hL (m3 s1) hwa ?_
      rw [hF1]
      change (bI (okF G.1 (μ p_MO_free) (nI (nd r 0)) W0[a]) = 0 → _) ∧ (¬ bI (okF G.1 (μ p_MO_free) (nI (nd r 0)) W0[a]) = 0 → _)
      refine bq (fun hok => ?_) (fun hok => ?_)
      · have : g W0[a] = [] := by rw [hg]; exact if_neg (by rw [hok]; decide)
        rw [this] at hnx
        exact hnx μ1 s1 hF1 hB1
      · have : g W0[a] = mps G.1 (WM G r P) (nd r) P 2 1 (tkF G.1 W0[a] (nI (nd r 0)) (μ p_MO_free)) (0 + nd r 0 * pc W0[a]) (setl (fun _ => 0) 0 W0[a]) := by rw [hg]; exact if_pos hok
        rw [this, Nat.zero_add] at hnx
        refine s_needOf hi hr (mone s1) (l := 0) (by omega) ?_
        rw [found0 s1 a ha]
        refine s_takes hL (m3 s1) hwa ?_
        rw [hF1]
        refine lev1 a ha _ (tkF G.1 W0[a] (nI (nd r 0)) (μ p_MO_free)) (setl (fun _ => 0) 0 W0[a]) B2 _ hb1 rfl (s1.tr tkSm) (setr_self _ _ _) (bwd hB1) (fun μ2 s2 hF2 hB3 => ?_)
        rw [tkF_back] at hF2
        exact hnx μ2 s2 hF2 hB3
def dL (c : Nat) : Prop := 43 ≤ c ∧ c ≤ 50
/-- the least mapping, or (any) whether there is one -/
theorem s_leastOf {G : GD} {i nN : Nat} {r : Rq} {L F : Nat → Int32} {any : Bool} {μ : Mm} {q : Int32 → Mm → Prop} (hG : NetOk G) (hi : i < 13) (hr : GoodD r) (hr1 : 1 ≤ r 0 10) (hN : nN ≤ 6) (hE : MEnv G i r μ) (h1 : μ p_MO 1 = nI nN) (hL : ∀ v, v < nN → μ p_MO_left v = L v) (hF : ∀ k, k < G.1 → μ p_MO_free k = F k)
    (h : ∀ μ2 B, HMb B μ2 → RB (if any = true then 2 else 0) none (allM G nN L F r) B → Sm dL μ μ2 → q (vB B) μ2) : Wp_X8_leastOf (bI any) μ q := by
  have g1 := hr.1
  have mcong : ∀ c, mpC G nN L (μ p_MO_free) r c = mpC G nN L F r c := by
    intro c
    unfold mpC
    have key : ∀ m l F1 F2 c0 T, (∀ k, k < G.1 → F1 k = F2 k) → mps G.1 (Wof G r (Pc c)) (r 6) (Pc c) m l F1 c0 T = mps G.1 (Wof G r (Pc c)) (r 6) (Pc c) m l F2 c0 T := by
      intro m
      induction m with
      | zero => intros; rfl
      | succ m ih =>
        intro l F1 F2 c0 T hh
        show (Wof G r (Pc c) l).flatMap _ = (Wof G r (Pc c) l).flatMap _
        congr 1
        funext w
        rw [okF_congr hh, ih (l + 1) _ (tkF G.1 w (nI (r 6 l)) F2) _ _ (fun k hk => by unfold tkF; rw [hh k hk])]
    rw [key _ _ _ F _ _ hF]
  unfold Wp_X8_leastOf
  intro K6 K36 h6 h36
  unfold F_X8_leastOf_e
  obtain ⟨gi, hgi⟩ : ∃ gi, gi = fun c => if tzC r c = true then mpC G nN L F r c else [] := ⟨_, rfl⟩
  have hall : allM G nN L F r = (List.range 216).flatMap gi := by rw [hgi]; rfl
  rw [hall] at h
  have dE : ∀ c, dL c → ¬ menvC c := fun c hc => by unfold dL at hc; unfold menvC; omega
  have vbn : ∀ {B : Bs} {μ1 : Mm}, HMb B μ1 → q (vB B) μ1 → (¬ nI (bN B) = (9999 : Int32) → q (nI (bN B)) μ1) ∧ (nI (bN B) = (9999 : Int32) → q (-1 : Int32) μ1) := by
    intro B μ1 hB hq
    cases B with
    | none => exact rb_t rfl hq
    | some y =>
      have := hB.1
      exact rb_f (by show ¬ nI y.1 = nI 9999; rw [nI_eq (show y.1 < 2 ^ 31 by omega) (by omega)]; omega) hq
  refine dn (P := fun c => ∀ μ2 B2, HMb B2 μ2 → RB (if any = true then 2 else 0) none ((List.range c).flatMap gi) B2 → Sm dL μ μ2 → μ2 p_MO_free = μ p_MO_free → K6 (bI any) (nI (bN B2)) (nI c) μ2) (n := 216) ?_ ?_ μ none trivial RB.nil Sm.rf rfl
  · intro μ2 B2 hB2 hR2 s2 _
    refine h6 _ _ _ _ ?_
    unfold F_X8_leastOf_6
    exact br_t (by decide) (vbn hB2 (h μ2 B2 hB2 hR2 s2))
  · intro c hc hnx μ2 B2 hB2 hR2 s2 hF2
    refine h6 _ _ _ _ ?_
    unfold F_X8_leastOf_6
    refine br_f (not_le_nI (n := 216) hc (by omega)) ?_
    have hE2 := hE.fr s2 dE
    rw [hE2.2.2]
    simp (disch := omega) only [vpT, vpT0, vpT1, vpT2, clT, clT0, clT1, clT2, leT, leF, leT0, ltT, ltF, i1, true_and, and_true, true_implies, false_implies, not_true_eq_false, not_false_eq_true, forall_const, implies_true, hE2.2.1.1]
    refine br_f (by
      intro hx
      rw [show (0 : Int32) = nI 0 from rfl] at hx
      exact (not_le_nI (n := r 0 10) (k := 0) (by omega) (by omega)) hx) ?_
    have hlt := hB2.lt
    rw [show (List.range (c + 1)).flatMap gi = (List.range c).flatMap gi ++ gi c by rw [List.range_succ, List.flatMap_append]; simp] at hnx
    have hgc : gi c = if tzC r c = true then mpC G nN L F r c else [] := by rw [hgi]
    have k36 : (any = true → B2 = none) → K36 (bI any) (nI (bN B2)) (nI c) μ2 := by
      intro hany
      refine h36 _ _ _ _ ?_
      unfold F_X8_leastOf_36
      refine s_chooses (nN := nN) (L := L) hi hr hN hE2 (by rw [s2 p_MO (by unfold dL; decide)]; exact h1) (fun v hv => by rw [s2 p_MO_left (by unfold dL; decide)]; exact hL v hv) hc (fun μ3 s3 hT3 => ?_)
      have d3 : ∀ x, (fun c => c = 48) x → dL x := fun x hx => by have hx : x = 48 := hx; unfold dL; omega
      have s23 := s2.tr (s3.mono d3)
      have hB3 : HMb B2 μ3 := hB2.fr (s3 49 (by decide)) (s3 50 (by decide))
      have hF3 : μ3 p_MO_free = μ p_MO_free := by rw [s3 p_MO_free (by decide)]; exact hF2
      refine bq (fun hb => ?_) (fun hb => ?_)
      · have : gi c = [] := by
          rw [hgc]
          cases htz : tzC r c with
          | false => rfl
          | true =>
            rw [htz, Bool.true_and] at hb
            rw [if_pos rfl]
            unfold mpC
            rw [hb]; rfl
        rw [i1]
        exact hnx μ3 B2 hB3 (hR2.app (by rw [this]; exact RB.nil)) s23 hF3
      · rw [Bool.and_eq_true] at hb
        have hg2 := gdC_iff.1 hb.2
        have hP6 : ∀ k, k < r 0 10 → Pc c k < 6 := fun k hk => by have := (hg2 k hk).1.1; omega
        have hPd : ∀ j k, j < r 0 10 → k < r 0 10 → j ≠ k → Pc c j ≠ Pc c k := fun j k hj hk hjk => by
          by_cases hlt2 : j < k
          · exact (hg2 k hk).2 j hlt2
          · exact fun hx => (hg2 j hj).2 k (by omega) hx.symm
        refine s_findsAll hG hi hr (hE.fr s23 dE) hT3 hP6 hPd (fun μ4 s4 hf4 => ?_)
        have s24 : Sm dL μ μ4 := s23.tr (s4.mono (fun x hx => by unfold dF at hx; unfold dL; omega))
        have hF4 : μ4 p_MO_free = μ p_MO_free := by rw [s4 p_MO_free (by unfold dF; decide)]; exact hF3
        have hB4 : HMb B2 μ4 := hB3.fr (s4 49 (by unfold dF; decide)) (s4 50 (by unfold dF; decide))
        refine s_leastBy hG hi hr (hE.fr s24 dE) (fun k hk => by rw [s4 p_MO_tries (by unfold dF; decide)]; exact hT3 k hk) hP6 hPd hf4 hB4 (fun μ5 s5 hF5 hB5 => ?_)
        have hgm : gi c = mps G.1 (Wof G r (Pc c)) (r 6) (Pc c) (r 0 11) 0 (μ4 p_MO_free) 0 (fun _ => 0) := by
          rw [hgc, if_pos hb.1, ← mcong]
          unfold mpC
          rw [if_pos hb.2, hF4]
        rw [← hgm] at hB5 ⊢
        rw [i1]
        refine hnx μ5 _ hB5 (hR2.app ⟨fun _ => rfl, ?_⟩) (fun x hx => ?_) (by rw [hF5]; exact hF4)
        · cases hgx : gi c with
          | nil => simp
          | cons x l =>
            have : ∀ (l : List Mp) (B : Bs), B.isSome = true → (l.foldl kp B).isSome = true := by
              intro l
              induction l with
              | nil => intro B hB; exact hB
              | cons x l ih => intro B _; exact ih _ (kp_some B x)
            rw [List.foldl_cons, this l _ (kp_some B2 x)]
            simp
        · by_cases hx42 : x = 42
          · subst hx42
            rw [show μ5 42 = μ4 42 from hF5]
            exact s24 42 hx
          · rw [s5 x (by unfold dB; unfold dL at hx; omega)]
            exact s24 x hx
    cases hany : any with
    | false =>
      rw [hany] at k36
      exact br_t rfl (k36 (fun hx => by cases hx))
    | true =>
      rw [hany] at k36 hR2 h
      refine br_f (by decide) ?_
      cases hB2c : B2 with
      | none =>
        rw [hB2c] at k36
        exact br_f (by decide) (k36 (fun _ => rfl))
      | some y =>
        rw [hB2c] at hB2 hR2
        have hy := hB2.1
        refine br_t (of_eq_true (ltT (n := y.1) (k := 9999) hy (by omega))) (vbn hB2 (h μ2 (some y) hB2 ⟨fun hx => absurd rfl hx, ?_⟩ s2))
        have h2 := hR2.2
        rw [show (216 : Nat) = c + (216 - c) by omega, List.range_add, List.flatMap_append]
        cases hl : (List.range c).flatMap gi with
        | nil => rw [hl] at h2; simp at h2
        | cons x l => simp
