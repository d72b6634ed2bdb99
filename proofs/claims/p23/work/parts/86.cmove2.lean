theorem Ms.cell {S : St} {i k v c j : Nat} {x : Int32} {w : Nat → Nat} {μ0 μ : Mm} (h : Ms S i k v w μ0 μ) (hc : c = 5 ∨ c = 20) : Ms S i k v w μ0 (up2 μ c j x) := by
  obtain ⟨h1, h2, h3, h4, h5⟩ := h
  have e : ∀ d, d ≠ c → (up2 μ c j x) d = μ d := fun d hd => u_ne hd
  refine ⟨h1.tr (Sm.up (by unfold dM; omega)), h2.fr (fun d hd => e d (by unfold dK at hd; omega)), fun j2 hj => ?_, fun l hl => ?_, h5⟩
  · rw [e _ (by show 105 + 11 * i + 3 ≠ c; omega)]; exact h3 j2 hj
  · rw [e _ (by show 105 + 11 * i + 7 ≠ c; omega)]; exact h4 l hl
theorem Ms.start {S : St} {i k : Nat} {μ : Mm} (hG : Good S) (hI : cInv S μ) (hi : i < nRq S) (hm : Mvb (S.2.2 i)) : Ms S i k (S.2.2 i 3 k) (S.2.2 i 7) μ μ := by
  have hc := hI.rq hG hi
  refine ⟨Sm.rf, ?_, fun j hj => ?_, fun l hl => (hc.2.2 l hl).1, fun l hl => ((hG.ok hi).2 l hl).1⟩
  · rw [mvQ_id, BkM_iff hi hm.1 (fun l hl => (hm.2.2 l hl).2.2) (fun l hl => (hm.2.2 l hl).2.2), updR_self]
    exact hI.2.1
  · rw [hc.2.1 j hj]
    by_cases hjk : j = k
    · rw [if_pos hjk, hjk]
    · rw [if_neg hjk]
theorem Ms.inv {S : St} {i k v : Nat} {w : Nat → Nat} {μ0 μ : Mm} (hG : Good S) (hI : cInv S μ0) (hi : i < nRq S) (hm : Mvb (S.2.2 i)) (h : Ms S i k v w μ0 μ) : cInv (updR S i (mvQ (S.2.2 i) k v w)) μ := by
  obtain ⟨h1, h2, h3, h4, h5⟩ := h
  have hn := hG.n
  have k0 : ∀ c, ¬ dM (nRq S) (p_RQ + 11 * i) c → μ c = μ0 c := fun c hc => h1 c hc
  have hp : p_RQ + 11 * i = 105 + 11 * i := rfl
  rw [BkM_iff hi (by rw [mvQ_x (by omega)]; exact hm.1) (fun l hl => by rw [mvQ_x (by omega)] at hl ⊢; exact (hm.2.2 l hl).2.2) (fun l hl => (hm.2.2 l hl).2.2)] at h2
  obtain ⟨g1, -, g3, g4, g5⟩ := hI
  have g5 : cReqs (nRq S) S.2.2 μ0 := g5
  refine ⟨g1.fr (fun c hc => k0 c (by unfold dM; omega)), h2, ?_, ?_, ?_⟩
  · rw [show μ p_ML = μ0 p_ML from k0 0 (by unfold dM; omega)]; exact g3
  · rw [show μ p_ML = μ0 p_ML from k0 0 (by unfold dM; omega)]; exact g4
  · -- the draft's places may have changed
    have kj : ∀ j, j < 13 → j ≠ i → j ≠ nRq S → ∀ c, p_RQ + 11 * j ≤ c → c < p_RQ + 11 * j + 11 → μ c = μ0 c := by
      intro j hj hji hjn c c1 c2
      have c1 : 105 + 11 * j ≤ c := c1
      have c2 : c < 105 + 11 * j + 11 := c2
      exact k0 c (by unfold dM; omega)
    refine ⟨fun j hj => ?_, fun j hj => ?_⟩
    · by_cases hji : j = i
      · subst hji
        rw [updR_i]
        have hq := g5.1 j hj
        unfold cQ at *
        simp only [mvQ_x (r := S.2.2 j) (k := k) (v := v) (w := w) (x := 0) (by omega), mvQ_x (r := S.2.2 j) (k := k) (v := v) (w := w) (x := 1) (by omega), mvQ_x (r := S.2.2 j) (k := k) (v := v) (w := w) (x := 2) (by omega), mvQ_x (r := S.2.2 j) (k := k) (v := v) (w := w) (x := 4) (by omega), mvQ_x (r := S.2.2 j) (k := k) (v := v) (w := w) (x := 5) (by omega), mvQ_x (r := S.2.2 j) (k := k) (v := v) (w := w) (x := 6) (by omega)]
        rw [k0 (p_RQ + 11 * j) (by unfold dM; omega), k0 (p_RQ + 11 * j + 1) (by unfold dM; omega), k0 (p_RQ + 11 * j + 2) (by unfold dM; omega), k0 (p_RQ + 11 * j + 4) (by unfold dM; omega), k0 (p_RQ + 11 * j + 5) (by unfold dM; omega), k0 (p_RQ + 11 * j + 6) (by unfold dM; omega)]
        exact hq
      · rw [updR_ne hji]
        by_cases hjn : j = nRq S
        · subst hjn
          have k2 : ∀ d, d ≠ 3 → d < 11 → μ (p_RQ + 11 * nRq S + d) = μ0 (p_RQ + 11 * nRq S + d) := fun d h3 h4 => k0 _ (by show ¬ dM (nRq S) (105 + 11 * i) (105 + 11 * nRq S + d); unfold dM; omega)
          exact (g5.1 _ hj).fr2 (k2 0 (by omega) (by omega)) (k2 1 (by omega) (by omega)) (k2 2 (by omega) (by omega)) (k2 4 (by omega) (by omega)) (k2 5 (by omega) (by omega)) (k2 6 (by omega) (by omega))
        · exact (g5.1 j hj).fr3 (kj j hj hji hjn)
    · have hj : j < nRq S := hj
      by_cases hji : j = i
      · subst hji
        rw [updR_i]
        obtain ⟨a1, a2, a3, a4⟩ := g5.2 j hj
        refine ⟨fun m hm2 => ?_, fun l hl => ?_, ?_, ?_⟩
        · rw [mvQ_x (by omega)] at hm2
          rw [mvQ_3]; exact h3 m hm2
        · rw [mvQ_x (by omega)] at hl
          obtain ⟨b1, b2, b3, b4⟩ := a2 l hl
          rw [mvQ_7, mvQ_x (by omega), mvQ_x (by omega), mvQ_x (by omega), k0 (p_RQ + 11 * j + 8) (by unfold dM; omega), k0 (p_RQ + 11 * j + 9) (by unfold dM; omega), k0 (p_RQ + 11 * j + 10) (by unfold dM; omega)]
          exact ⟨h4 l hl, b2, b3, b4⟩
        · rw [mvQ_x (by omega), k0 (p_RQ + 11 * j) (by unfold dM; omega)]; exact a3
        · rw [mvQ_x (by omega), k0 (p_RQ + 11 * j) (by unfold dM; omega)]; exact a4
      · rw [updR_ne hji]
        exact cP.fr3 (g5.2 j hj) (kj j (by omega) hji (by omega))
theorem Ms.m {S : St} {i k v : Nat} {w : Nat → Nat} {μ0 μ : Mm} (h : Ms S i k v w μ0 μ) : ∀ c, mCell c → μ c = μ0 c := fun c hc => h.1 c (by
  show ¬ dM (nRq S) (105 + 11 * i) c
  unfold mCell at hc; unfold dM; omega)
theorem Ms.cq {S : St} {i k v : Nat} {w : Nat → Nat} {μ0 μ : Mm} (h : Ms S i k v w μ0 μ) (hG : Good S) (hI : cInv S μ0) (hi : i < nRq S) : Env S.1 (p_RQ + 11 * i) (S.2.2 i) μ :=
  (hI.env (hG.i hi)).fr h.1 (fun c hc he => by
    have hp : p_RQ + 11 * i = 105 + 11 * i := rfl
    unfold dM at hc; unfold envC at he; omega)
theorem s_takeBack {S : St} {i k v : Nat} {w : Nat → Nat} {μ0 μ : Mm} {q : Mm → Prop} (hG : Good S) (hI : cInv S μ0) (hi : i < nRq S) (hm : Mvb (S.2.2 i)) (hk : k < S.2.2 i 0 10) (hv : v < nNd S) (hM : Ms S i k v w μ0 μ) (hw : ∀ l, l < S.2.2 i 0 11 → isL (S.2.2 i) l k = false → w l = S.2.2 i 7 l) (h5 : μ 5 3 = nI (S.2.2 i 3 k)) (h20 : ∀ l, l < S.2.2 i 0 11 → isL (S.2.2 i) l k = true → μ 20 l = nI (S.2.2 i 7 l))
    (h : ∀ μ2, cInv S μ2 → (∀ c, mCell c → μ2 c = μ0 c) → q μ2) : Wp_X3_takeBack (p_RQ + 11 * i) (nI k) μ q := by
  have hb := hG.b hi
  have h11 := hb.1
  have h10 := (hG.d (hG.i hi)).1
  unfold Wp_X3_takeBack
  intro K12 h12
  unfold F_X3_takeBack_e
  rw [show μ p_MV 3 = nI (S.2.2 i 3 k) from h5]
  refine s_putAt hG hI hi hk hv ((hG.ok hi).1 k hk) hM (fun μ1 hM1 _ e5 e20 => ?_)
  refine dn (P := fun l => ∀ μ2, Ms S i k (S.2.2 i 3 k) (fun j => if j < l then S.2.2 i 7 j else w j) μ0 μ2 → μ2 20 = μ 20 → K12 (nI k) (nI l) μ2) (n := S.2.2 i 0 11) ?_ ?_ μ1 (hM1.congr (fun l hl => by rw [if_neg (by omega)])) e20
  · intro μ2 hM2 _
    refine h12 _ _ _ ?_
    unfold F_X3_takeBack_12
    rw [(hM2.cq hG hI hi).2.2.2.1]
    refine br_t (le_nI (Nat.le_refl _) (by omega)) ?_
    have hM3 := hM2.congr (w2 := S.2.2 i 7) (fun l hl => by rw [if_pos hl])
    have := hM3.inv hG hI hi hm
    rw [mvQ_id, updR_self] at this
    exact h μ2 this hM3.m
  · intro l hl hnx μ2 hM2 e20
    refine h12 _ _ _ ?_
    unfold F_X3_takeBack_12
    have hE2 := hM2.cq hG hI hi
    rw [hE2.2.2.2.1]
    refine br_f (not_le_nI hl (by omega)) ?_
    refine s_isLineOf hb hE2.2.2 hl (by omega) ?_
    rw [i1]
    refine bq (fun hx => ?_) (fun hx => ?_)
    · refine hnx μ2 (hM2.congr (fun j hj => ?_)) e20
      by_cases hjl : j = l
      · subst hjl
        rw [if_neg (by omega), if_pos (by omega)]
        exact hw j hj hx
      · by_cases hlt : j < l
        · rw [if_pos hlt, if_pos (by omega)]
        · rw [if_neg hlt, if_neg (by omega)]
    · refine ⟨inN (by omega) (by omega), ?_⟩
      rw [nI_clamp (by omega), show μ2 p_MV_waysBefore = μ 20 from e20, h20 l hl hx]
      refine s_giveWay hG hI hi hm hl ((hG.ok hi).2 l hl).1 hM2 (fun μ3 hM3 _ _ e203 => ?_)
      refine hnx μ3 (hM3.congr (fun j hj => ?_)) (e203.trans e20)
      unfold setw
      by_cases hjl : j = l
      · rw [if_pos hjl, if_pos (by omega), hjl]
      · rw [if_neg hjl]
        dsimp only
        by_cases hlt : j < l
        · rw [if_pos hlt, if_pos (by omega)]
        · rw [if_neg hlt, if_neg (by omega)]
/-- rooms as ways are taken away, and given anew -/
def mvA (nL : Nat) (r : Rq) (k : Nat) (F : Nat → Int32) : Nat → Nat → Int32
  | 0 => F
  | l + 1 => if isL r l k = true then tkF nL (r 7 l) (-nI (r 6 l)) (mvA nL r k F l) else mvA nL r k F l
def mvG (nL : Nat) (W : Nat → List Nat) (r : Rq) (k : Nat) (F : Nat → Int32) : Nat → Nat → Int32
  | 0 => F
  | l + 1 => if isL r l k = true then tkF nL (fwp (okF nL (mvG nL W r k F l) (nI (r 6 l))) (W l)) (nI (r 6 l)) (mvG nL W r k F l) else mvG nL W r k F l
def mvw (nL : Nat) (W : Nat → List Nat) (r : Rq) (k : Nat) (F : Nat → Int32) (l : Nat) : Nat := fwp (okF nL (mvG nL W r k F l) (nI (r 6 l))) (W l)
theorem mvA_congr {nL k : Nat} {r : Rq} {F F2 : Nat → Int32} (h : ∀ q, q < nL → F q = F2 q) : ∀ l q, q < nL → mvA nL r k F l q = mvA nL r k F2 l q
  | 0, q, hq => h q hq
  | l + 1, q, hq => by
    unfold mvA
    split
    · exact tkF_congr (mvA_congr h l) q hq
    · exact mvA_congr h l q hq
theorem mvG_congr {nL k : Nat} {W : Nat → List Nat} {r : Rq} {F F2 : Nat → Int32} (h : ∀ q, q < nL → F q = F2 q) : ∀ l, (∀ q, q < nL → mvG nL W r k F l q = mvG nL W r k F2 l q) ∧ mvw nL W r k F l = mvw nL W r k F2 l
  | 0 => ⟨h, fwp_congr fun w _ => okF_congr h⟩
  | l + 1 => by
    obtain ⟨h1, h2⟩ := mvG_congr (k := k) (W := W) (r := r) h l
    have h3 : ∀ q, q < nL → mvG nL W r k F (l + 1) q = mvG nL W r k F2 (l + 1) q := by
      intro q hq
      unfold mvG
      split
      · have h2 : fwp (okF nL (mvG nL W r k F l) (nI (r 6 l))) (W l) = fwp (okF nL (mvG nL W r k F2 l) (nI (r 6 l))) (W l) := h2
        rw [h2]
        exact tkF_congr h1 q hq
      · exact h1 q hq
    exact ⟨h3, fwp_congr fun w _ => okF_congr h3⟩
def mvP (r : Rq) (k v : Nat) : Nat → Nat := fun j => if j = k then v else r 3 j
def nwL (S : St) (i k v l : Nat) : Nat := mvw (nLk S) (Wof S.1 (S.2.2 i) (mvP (S.2.2 i) k v)) (S.2.2 i) k (mvA (nLk S) (S.2.2 i) k (lfL S) (S.2.2 i 0 11)) l
def nwW (S : St) (i k v : Nat) : Nat → Nat := fun l => if isL (S.2.2 i) l k = true then nwL S i k v l else S.2.2 i 7 l
def mayB (S : St) (i k v : Nat) : Bool := (S.2.2 i 2 k).testBit v && al (fun j => !decide (S.2.2 i 3 j = v)) (S.2.2 i 0 10) && !decide (lfN S v < nI (S.2.2 i 1 k))
def mvOk (S : St) (i k v : Nat) : Bool := mayB S i k v && al (fun l => !isL (S.2.2 i) l k || !decide (nwL S i k v l = 0)) (S.2.2 i 0 11)
def mvS (S : St) (i k v : Nat) : St := updR S i (mvQ (S.2.2 i) k v (nwW S i k v))
theorem mvP_ok {S : St} {i k v : Nat} (hG : Good S) (hi : i < nRq S) (hv : v < nNd S) (hm : mayB S i k v = true) : (∀ j, j < S.2.2 i 0 10 → mvP (S.2.2 i) k v j < nNd S) ∧ ∀ j m, j < S.2.2 i 0 10 → m < S.2.2 i 0 10 → j ≠ m → mvP (S.2.2 i) k v j ≠ mvP (S.2.2 i) k v m := by
  unfold mayB at hm
  rw [Bool.and_eq_true, Bool.and_eq_true, al_iff] at hm
  have hne : ∀ j, j < S.2.2 i 0 10 → S.2.2 i 3 j ≠ v := fun j hj hc => by
    have := hm.1.2 j hj
    rw [decide_eq_true hc] at this
    cases this
  have hd := (hG.p hi).1.2.2.1
  refine ⟨fun j hj => ?_, fun j m hj hm2 hjm => ?_⟩
  · unfold mvP
    split
    · exact hv
    · exact (hG.ok hi).1 j hj
  · unfold mvP
    by_cases h1 : j = k
    · rw [if_pos h1, if_neg (by omega)]
      exact fun hx => hne m hm2 hx.symm
    · rw [if_neg h1]
      by_cases h2 : m = k
      · rw [if_pos h2]; exact hne j hj
      · rw [if_neg h2]; exact hd j m hj hm2 hjm
theorem s_isAt {p v : Nat} {r : Rq} {μ : Mm} {q : Bool → Mm → Prop} (h10 : r 0 10 ≤ 3) (hQ : cQ p r μ) (hA : cA p r μ) (hr : ∀ j, j < r 0 10 → r 3 j < 6) (hv : v < 6) (h : q (!al (fun j => !decide (r 3 j = v)) (r 0 10)) μ) : Wp_X5_isAt p (nI v) μ q := by
  unfold Wp_X5_isAt
  intro K2 h2
  unfold F_X5_isAt_e
  refine dn (P := fun j => al (fun j => !decide (r 3 j = v)) j = true → K2 (nI v) (nI j) μ) (n := r 0 10) ?_ ?_ rfl
  · intro hal
    refine h2 _ _ _ ?_
    unfold F_X5_isAt_2
    rw [hQ.1]
    refine br_t (le_nI (Nat.le_refl _) (by omega)) ?_
    rw [hal] at h
    exact h
  · intro j hj hn hal
    refine h2 _ _ _ ?_
    unfold F_X5_isAt_2
    rw [hQ.1]
    refine br_f (not_le_nI hj (by omega)) ⟨inN (by omega) (by omega), ?_⟩
    have hrj := hr j hj
    rw [nI_clamp (by omega), hA j hj, e1 (by omega) (by omega), i1]
    by_cases hc : r 3 j = v
    · refine rb_t hc ?_
      have : al (fun j => !decide (r 3 j = v)) (r 0 10) = false := by
        cases ha : al (fun j => !decide (r 3 j = v)) (r 0 10) with
        | false => rfl
        | true =>
          have := (al_iff _ _).1 ha j hj
          rw [decide_eq_true hc] at this
          cases this
      rw [this] at h
      exact h
    · refine rb_f hc (hn ?_)
      show (al _ j && !decide (r 3 j = v)) = true
      rw [hal, decide_eq_false hc]; rfl
set_option maxHeartbeats 1000000 in
theorem s_shift {S : St} {i k v : Nat} {μ : Mm} {q : Bool → Mm → Prop} (hG : Good S) (hI : cInv S μ) (hi : i < nRq S) (hmb : mvb (S.2.2 i) = true) (hk : k < S.2.2 i 0 10) (hv : v < nNd S)
    (h : ∀ μ2, (mvOk S i k v = true → Ms S i k v (nwW S i k v) μ μ2 ∧ μ2 5 3 = nI (S.2.2 i 3 k) ∧ ∀ l, l < S.2.2 i 0 11 → isL (S.2.2 i) l k = true → μ2 20 l = nI (S.2.2 i 7 l)) → (mvOk S i k v = false → cInv S μ2) → (∀ c, mCell c → μ2 c = μ c) → q (mvOk S i k v) μ2) : Wp_X3_shift (p_RQ + 11 * i) (nI k) (nI v) μ q := by
  have hm : Mvb (S.2.2 i) := Mvb.of (hG.p hi).1 hmb
  have hb := hG.b hi
  have h11 := hb.1
  have hgd := hG.d (hG.i hi)
  have h10 := hgd.1
  have hN := hG.1
  have hL := hG.L
  have hc := hI.rq hG hi
  obtain ⟨r, hr⟩ : ∃ r, r = S.2.2 i := ⟨_, rfl⟩
  have p3 : vp_in (nI k) 3 := inN (by omega) (by omega)
  unfold Wp_X3_shift
  intro K26 K72 K122 h26 h72 h122
  unfold F_X3_shift_e
  rw [nI_clamp (show k < 2 ^ 31 by omega), (hc.1.2.2.2.1 k hk).2, m_sh _ (by have := (hgd.2.2.1 k hk).2.2; omega) v (by omega), tb_bit]
  refine ⟨p3, ?_⟩
  have noK : mayB S i k v = false → q false μ := by
    intro hf
    have hok : mvOk S i k v = false := by unfold mvOk; rw [hf]; rfl
    rw [hok] at h
    exact h μ (fun hc => by cases hc) (fun _ => hI) (fun _ _ => rfl)
  have k26f : mayB S i k v = false → K26 (nI k) (nI v) 0 μ := by
    intro hf
    refine h26 _ _ _ _ ?_
    unfold F_X3_shift_26
    exact br_t rfl (noK hf)
  cases hbit : (S.2.2 i 2 k).testBit v with
  | false =>
    exact ⟨fun _ => k26f (by unfold mayB; rw [hbit]; rfl), fun hc => absurd rfl hc⟩
  | true =>
  refine ⟨fun hc => absurd hc (by decide), fun _ => ?_⟩
  refine s_isAt h10 hc.1 hc.2.1 (fun j hj => by have := (hG.ok hi).1 j hj; omega) (by omega) ?_
  refine bqr (fun hat => ?_) (fun hat => k26f (by
    unfold mayB
    rw [hbit]
    have : al (fun j => !decide (S.2.2 i 3 j = v)) (S.2.2 i 0 10) = false := by
      revert hat
      cases al (fun j => !decide (S.2.2 i 3 j = v)) (S.2.2 i 0 10) <;> simp
    rw [this]; rfl))
  have hat : al (fun j => !decide (S.2.2 i 3 j = v)) (S.2.2 i 0 10) = true := by
    revert hat
    cases al (fun j => !decide (S.2.2 i 3 j = v)) (S.2.2 i 0 10) <;> simp
  refine h26 _ _ _ _ ?_
  unfold F_X3_shift_26
  refine br_f (by decide) ?_
  unfold Wp_X0_leftAtNode F_X0_leftAtNode_e
  have v6 : vp_in (nI v) 6 := inN (by omega) (by omega)
  rw [nI_clamp (show v < 2 ^ 31 by omega), hI.lfn hG v hv, nI_clamp (show k < 2 ^ 31 by omega)]
  dsimp only
  rw [(hc.1.2.2.2.1 k hk).1]
  refine ⟨v6, v6, p3, ?_⟩
  have hmay : mayB S i k v = !decide (lfN S v < nI (S.2.2 i 1 k)) := by unfold mayB; rw [hbit, hat]; rfl
  by_cases hlt : lfN S v < nI (S.2.2 i 1 k)
  · rw [decide_eq_true hlt] at hmay
    exact ⟨fun h1 => absurd h1 (by rw [i_nle]; exact hlt), fun _ => noK hmay⟩
  rw [decide_eq_false hlt] at hmay
  have hmay : mayB S i k v = true := hmay
  refine ⟨fun _ => ⟨p3, ?_⟩, fun hx => absurd (by rw [i_nlt] at hlt; exact hlt) hx⟩
  obtain ⟨hPn, hPd⟩ := mvP_ok hG hi hv hmay
  rw [hc.2.1 k hk]
  have hM0 : Ms S i k (S.2.2 i 3 k) (S.2.2 i 7) μ (up2 μ p_MV 3 (nI (S.2.2 i 3 k))) := (Ms.start hG hI hi hm).cell (Or.inl rfl)
  have e53 : (up2 μ p_MV 3 (nI (S.2.2 i 3 k))) 5 3 = nI (S.2.2 i 3 k) := by rw [show (5 : Nat) = p_MV from rfl, u_eq, d_eq]
  refine s_putAt hG hI hi hk ((hG.ok hi).1 k hk) hv hM0 (fun μ1 hM1 lf1 e5 e20 => ?_)
  have lf0 : lft (up2 μ p_MV 3 (nI (S.2.2 i 3 k))) = lft μ := lft_fr (u_ne (by decide)) (u_ne (by decide)) (u_ne (by decide))
  -- the ways as they are taken away, and given anew
  have eqA : ∀ l q, q < nLk S → mvA (nLk S) (S.2.2 i) k (lft μ) l q = mvA (nLk S) (S.2.2 i) k (lfL S) l q := mvA_congr (fun q hq => hI.lfk hG q hq)
  obtain ⟨FA, hFA⟩ : ∃ FA, FA = mvA (nLk S) (S.2.2 i) k (lft μ) (S.2.2 i 0 11) := ⟨_, rfl⟩
  obtain ⟨W, hW⟩ : ∃ W, W = Wof S.1 (S.2.2 i) (mvP (S.2.2 i) k v) := ⟨_, rfl⟩
  have enw : ∀ l, mvw (nLk S) W (S.2.2 i) k FA l = nwL S i k v l := fun l => by
    rw [hFA, hW]
    exact (mvG_congr (eqA _) l).2
  have h9 : ∀ l, W9 (nLk S) (W l) := fun l => by rw [hW]; exact wl_W9 S.1 _ _
  have k122 : ∀ μ2, Ms S i k v (fun j => if isL (S.2.2 i) j k = true then 0 else S.2.2 i 7 j) μ μ2 → lft μ2 = FA → μ2 5 3 = nI (S.2.2 i 3 k) → (∀ l, l < S.2.2 i 0 11 → isL (S.2.2 i) l k = true → μ2 20 l = nI (S.2.2 i 7 l)) → K122 (nI k) (nI 0) μ2 := by
    intro μ2 hM2 lf2 h52 h202
    refine dn (P := fun l => al (fun l => !isL (S.2.2 i) l k || !decide (nwL S i k v l = 0)) l = true → ∀ μ2, Ms S i k v (fun j => if isL (S.2.2 i) j k = true then (if j < l then nwL S i k v j else 0) else S.2.2 i 7 j) μ μ2 → lft μ2 = mvG (nLk S) W (S.2.2 i) k FA l → μ2 5 3 = nI (S.2.2 i 3 k) → (∀ l, l < S.2.2 i 0 11 → isL (S.2.2 i) l k = true → μ2 20 l = nI (S.2.2 i 7 l)) → K122 (nI k) (nI l) μ2) (n := S.2.2 i 0 11) ?_ ?_ rfl μ2 (hM2.congr (fun j hj => by
        split
        · rw [if_neg (by omega)]
        · rfl)) lf2 h52 h202
    · intro hal μ2 hM2 lf2 h52 h202
      refine h122 _ _ _ ?_
      unfold F_X3_shift_122
      rw [(hM2.cq hG hI hi).2.2.2.1]
      refine br_t (le_nI (Nat.le_refl _) (by omega)) ?_
      have hok : mvOk S i k v = true := by unfold mvOk; rw [hmay, hal]; rfl
      rw [hok] at h
      have hM3 := hM2.congr (w2 := nwW S i k v) (fun j hj => by
        unfold nwW
        by_cases hy : isL (S.2.2 i) j k = true
        · rw [if_pos hy, if_pos hy, if_pos hj]
        · rw [if_neg hy, if_neg hy])
      exact h μ2 (fun _ => ⟨hM3, h52, h202⟩) (fun hc => by cases hc) hM3.m
    · intro l hl hnx hal μ2 hM2 lf2 h52 h202
      refine h122 _ _ _ ?_
      unfold F_X3_shift_122
      have hE2 := hM2.cq hG hI hi
      rw [hE2.2.2.2.1]
      refine br_f (not_le_nI hl (by omega)) ?_
      refine s_isLineOf hb hE2.2.2 hl (by omega) ?_
      rw [i1]
      have stepAl : al (fun l => !isL (S.2.2 i) l k || !decide (nwL S i k v l = 0)) (l + 1) = (al (fun l => !isL (S.2.2 i) l k || !decide (nwL S i k v l = 0)) l && (!isL (S.2.2 i) l k || !decide (nwL S i k v l = 0))) := rfl
      refine bq (fun hx => ?_) (fun hx => ?_)
      · refine hnx (by rw [stepAl, hal, hx]; rfl) μ2 (hM2.congr (fun j hj => ?_)) ?_ h52 h202
        · by_cases hjl : j = l
          · subst hjl
            rw [if_neg (by rw [hx]; decide), if_neg (by rw [hx]; decide)]
          · split
            · by_cases hlt2 : j < l
              · rw [if_pos hlt2, if_pos (by omega)]
              · rw [if_neg hlt2, if_neg (by omega)]
            · rfl
        · rw [lf2]
          show _ = if isL (S.2.2 i) l k = true then _ else mvG (nLk S) W (S.2.2 i) k FA l
          rw [if_neg (by rw [hx]; decide)]
      · unfold Wp_X3_findWay F_X3_findWay_e
        obtain ⟨b1, b2, b3, b4, b5⟩ := hgd.2.2.2.1 l hl
        have hP2 : ∀ j, j < S.2.2 i 0 10 → μ2 (p_RQ + 11 * i + 3) j = nI (mvP (S.2.2 i) k v j) := fun j hj => hM2.2.2.1 j hj
        refine s_pairOf hE2 hgd hl hP2 ⟨inN (by omega) (by omega), ?_⟩
        rw [nI_clamp (by omega), (hE2.2.2.2.2.2.2 l hl).2.2]
        refine s_shortFor hG.2.2.1 hE2.1 hE2.2.1 (by have := hPn _ b1; omega) (by have := hPn _ b2; omega) (hPd _ _ b1 b2 b3) ?_
        have ew : fwp (okF S.1.1 (lft μ2) (nI (S.2.2 i 6 l))) (wl S.1 (mvP (S.2.2 i) k v (S.2.2 i 4 l)) (mvP (S.2.2 i) k v (S.2.2 i 5 l))) = nwL S i k v l := by
          rw [← enw l, lf2, hW]; rfl
        rw [ew]
        have hxl : nwL S i k v l < 2 ^ nLk S := by rw [← enw l]; exact fwp_lt (h9 l)
        refine s_giveWay hG hI hi hm hl hxl hM2 (fun μ3 hM3 lf3 e53' e203 => ?_)
        rw [e0 (by have := lt512 hL hxl; omega)]
        have hM4 := hM3.congr (w2 := fun j => if isL (S.2.2 i) j k = true then (if j < l + 1 then nwL S i k v j else 0) else S.2.2 i 7 j) (fun j hj => by
          unfold setw
          by_cases hjl : j = l
          · subst hjl
            rw [if_pos rfl, if_pos hx, if_pos (by omega)]
          · rw [if_neg hjl]
            dsimp only
            by_cases hy : isL (S.2.2 i) j k = true
            · rw [if_pos hy, if_pos hy]
              by_cases hlt2 : j < l
              · rw [if_pos hlt2, if_pos (by omega)]
              · rw [if_neg hlt2, if_neg (by omega)]
            · rw [if_neg hy, if_neg hy])
        have h53 : μ3 5 3 = nI (S.2.2 i 3 k) := by rw [e53']; exact h52
        have h203 : ∀ l, l < S.2.2 i 0 11 → isL (S.2.2 i) l k = true → μ3 20 l = nI (S.2.2 i 7 l) := by rw [e203]; exact h202
        by_cases hz : nwL S i k v l = 0
        · refine ⟨fun _ => ⟨fun hc => absurd rfl hc, fun _ => ?_⟩, fun hn => absurd hz hn⟩
          have hok : mvOk S i k v = false := by
            unfold mvOk
            cases ha : al (fun l => !isL (S.2.2 i) l k || !decide (nwL S i k v l = 0)) (S.2.2 i 0 11) with
            | false => rw [Bool.and_false]
            | true =>
              have := (al_iff _ _).1 ha l hl
              rw [hx, decide_eq_true hz] at this
              cases this
          rw [hok] at h
          refine s_takeBack hG hI hi hm hk hv hM4 (fun j hj hjx => by rw [if_neg (by rw [hjx]; decide)]) h53 h203 (fun μ4 hI4 hm4 => ?_)
          exact h μ4 (fun hc => by cases hc) (fun _ => hI4) hm4
        · refine ⟨fun hn => absurd hn hz, fun _ => ⟨fun _ => ?_, fun hc => absurd hc (by decide)⟩⟩
          refine hnx (by rw [stepAl, hal, hx, decide_eq_false hz]; rfl) μ3 hM4 ?_ h53 h203
          rw [lf3, if_pos hx, if_neg (Nat.lt_irrefl l), tkF_0, lf2]
          show _ = if isL (S.2.2 i) l k = true then tkF (nLk S) (mvw (nLk S) W (S.2.2 i) k FA l) (nI (S.2.2 i 6 l)) (mvG (nLk S) W (S.2.2 i) k FA l) else _
          rw [if_pos hx, enw l]
  refine dn (P := fun l => ∀ μ2, Ms S i k v (fun j => if isL (S.2.2 i) j k = true ∧ j < l then 0 else S.2.2 i 7 j) μ μ2 → lft μ2 = mvA (nLk S) (S.2.2 i) k (lft μ) l → μ2 5 3 = nI (S.2.2 i 3 k) → (∀ j, j < l → isL (S.2.2 i) j k = true → μ2 20 j = nI (S.2.2 i 7 j)) → K72 (nI k) (nI l) μ2) (n := S.2.2 i 0 11) ?_ ?_ μ1 (hM1.congr (fun j hj => by rw [if_neg (by omega)])) (lf1.trans lf0) (by rw [e5]; exact e53) (fun j hj => by omega)
  · intro μ2 hM2 lf2 h52 h202
    refine h72 _ _ _ ?_
    unfold F_X3_shift_72
    rw [(hM2.cq hG hI hi).2.2.2.1]
    refine br_t (le_nI (Nat.le_refl _) (by omega)) ?_
    exact k122 μ2 (hM2.congr (fun j hj => by
      by_cases hx : isL (S.2.2 i) j k = true
      · rw [if_pos ⟨hx, hj⟩, if_pos hx]
      · rw [if_neg (fun hy => hx hy.1), if_neg hx])) (by rw [lf2, hFA]) h52 h202
  · intro l hl hnx μ2 hM2 lf2 h52 h202
    refine h72 _ _ _ ?_
    unfold F_X3_shift_72
    have hE2 := hM2.cq hG hI hi
    rw [hE2.2.2.2.1]
    refine br_f (not_le_nI hl (by omega)) ?_
    refine s_isLineOf hb hE2.2.2 hl (by omega) ?_
    rw [i1]
    refine bq (fun hx => ?_) (fun hx => ?_)
    · refine hnx μ2 (hM2.congr (fun j hj => ?_)) ?_ h52 (fun j hj hjx => h202 j (by
        by_cases hjl : j = l
        · subst hjl; rw [hx] at hjx; cases hjx
        · omega) hjx)
      · by_cases hjl : j = l
        · subst hjl
          rw [if_neg (fun hy => by rw [hx] at hy; cases hy.1), if_neg (fun hy => by rw [hx] at hy; cases hy.1)]
        · by_cases hy : isL (S.2.2 i) j k = true ∧ j < l
          · rw [if_pos hy, if_pos ⟨hy.1, by omega⟩]
          · rw [if_neg hy, if_neg (fun hz => hy ⟨hz.1, by omega⟩)]
      · rw [lf2]
        show _ = if isL (S.2.2 i) l k = true then _ else mvA (nLk S) (S.2.2 i) k (lft μ) l
        rw [if_neg (by rw [hx]; decide)]
    · have hv3 : vp_in (nI l) 3 := inN (by omega) (by omega)
      refine ⟨hv3, hv3, ?_⟩
      rw [nI_clamp (by omega), hM2.2.2.2.1 l hl]
      dsimp only
      rw [if_neg (fun hy => absurd hy.2 (Nat.lt_irrefl l))]
      have hMc : Ms S i k v (fun j => if isL (S.2.2 i) j k = true ∧ j < l then 0 else S.2.2 i 7 j) μ (up2 μ2 p_MV_waysBefore l (nI (S.2.2 i 7 l))) := hM2.cell (Or.inr rfl)
      have lfc : lft (up2 μ2 p_MV_waysBefore l (nI (S.2.2 i 7 l))) = lft μ2 := lft_fr (u_ne (by decide)) (u_ne (by decide)) (u_ne (by decide))
      refine s_giveWay (x := 0) hG hI hi hm hl (Nat.pow_pos (by decide)) hMc (fun μ3 hM3 lf3 e53' e203 => ?_)
      refine hnx μ3 (hM3.congr (fun j hj => ?_)) ?_ ?_ (fun j hj hjx => ?_)
      · unfold setw
        by_cases hjl : j = l
        · subst hjl
          rw [if_pos rfl, if_pos ⟨hx, by omega⟩]
        · rw [if_neg hjl]
          dsimp only
          by_cases hy : isL (S.2.2 i) j k = true ∧ j < l
          · rw [if_pos hy, if_pos ⟨hy.1, by omega⟩]
          · rw [if_neg hy, if_neg (fun hz => hy ⟨hz.1, by omega⟩)]
      · rw [lf3, tkF_0, lfc, lf2, if_neg (fun hy => by omega)]
        show _ = if isL (S.2.2 i) l k = true then tkF (nLk S) (S.2.2 i 7 l) (-nI (S.2.2 i 6 l)) (mvA (nLk S) (S.2.2 i) k (lft μ) l) else _
        rw [if_pos hx]
      · rw [e53', u_ne (by decide)]; exact h52
      · rw [e203, show (20 : Nat) = p_MV_waysBefore from rfl, u_eq]
        by_cases hjl : j = l
        · rw [hjl, d_eq]
        · rw [d_ne hjl]; exact h202 j (by omega) hjx
