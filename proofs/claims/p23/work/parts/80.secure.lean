/-! second ways -/
def okX (nL : Nat) (room nd : Nat → Nat) (b : Nat → Nat → Nat) (w7 need w : Nat) : Bool := decide (w &&& w7 = 0) && al (fun k => !w.testBit k || decide (nd k + mx (fun f => b f k + tb w7 f * need) nL ≤ room k)) nL
theorem sbb_open {nL w w7 : Nat} {P : Nat → Bool} (hL : nL ≤ 9) (hw : w < 2 ^ nL) : sbb w (om9 P nL &&& (w7 ^^^ 4294967295)) = (decide (w &&& w7 = 0) && al (fun k => !w.testBit k || P k) nL) := by
  have hM : ∀ k, k < 9 → (4294967295 : Nat).testBit k = true := fun k hk => by
    rw [show (4294967295 : Nat) = 2 ^ 32 - 1 from rfl, Nat.testBit_two_pow_sub_one]
    exact decide_eq_true (by omega)
  rw [Bool.eq_iff_iff, sbb_sub, Bool.and_eq_true, al_iff]
  unfold sub9
  constructor
  · intro h
    have hk : ∀ k, k < 9 → w.testBit k = true → P k = true ∧ w7.testBit k = false := by
      intro k hk hb
      have h1 := h k hk hb
      rw [Nat.testBit_and, Nat.testBit_xor, om9_bit, hM k hk, Bool.and_eq_true, Bool.and_eq_true] at h1
      refine ⟨h1.1.2, ?_⟩
      have h2 := h1.2
      revert h2
      cases w7.testBit k <;> simp
    refine ⟨decide_eq_true ?_, fun k hkn => ?_⟩
    · apply Nat.eq_of_testBit_eq
      intro i
      rw [Nat.testBit_and, Nat.zero_testBit]
      by_cases hi : i < 9
      · cases hb : w.testBit i with
        | false => rfl
        | true => rw [(hk i hi hb).2]; rfl
      · rw [Nat.testBit_lt_two_pow (Nat.lt_of_lt_of_le hw (Nat.pow_le_pow_right (by decide) (by omega)))]; rfl
    · cases hb : w.testBit k with
      | false => rfl
      | true => rw [(hk k (by omega) hb).1]; rfl
  · rintro ⟨h1, h2⟩ k hk hb
    have h1 := of_decide_eq_true h1
    have hkn : k < nL := by
      by_cases hc : k < nL
      · exact hc
      · rw [Nat.testBit_lt_two_pow (Nat.lt_of_lt_of_le hw (Nat.pow_le_pow_right (by decide) (by omega)))] at hb
        cases hb
    have h3 := h2 k hkn
    rw [hb] at h3
    have h4 := congrArg (fun x => Nat.testBit x k) h1
    simp only [Nat.testBit_and, Nat.zero_testBit, hb, Bool.true_and] at h4
    rw [Nat.testBit_and, Nat.testBit_xor, om9_bit, hM k hk, h4, decide_eq_true hkn]
    simpa using h3
theorem s_openBehind {nL w7 need : Nat} {room nd : Nat → Nat} {b : Nat → Nat → Nat} {μ : Mm} {q : Int32 → Mm → Prop} (hL : nL ≤ 9) (h7 : μ p_GR 7 = nI nL) (hw : w7 < 512) (hn : need ≤ 20) (hr : ∀ k, k < nL → μ p_GR_linkRooms k = nI (room k) ∧ room k ≤ 99) (hd : ∀ k, k < nL → μ p_BK_linkNeeds k = nI (nd k) ∧ nd k ≤ 5000) (hB : BH9 nL b μ) (hb : ∀ f k, b f k ≤ 5000)
    (h : q (nI (om9 (fun k => decide (nd k + mx (fun f => b f k + tb w7 f * need) nL ≤ room k)) nL &&& (w7 ^^^ 4294967295))) μ) : Wp_X0_openBehind (nI w7) (nI need) μ q := by
  unfold Wp_X0_openBehind
  intro K5 K29 h5 h29
  unfold F_X0_openBehind_e
  have tbn : ∀ f, tb w7 f * need ≤ 20 := fun f => by
    have := tb_le w7 f
    have h2 : tb w7 f * need ≤ 1 * need := Nat.mul_le_mul_right need this
    omega
  refine dn (P := fun k => K5 (nI w7) (nI need) (nI (om9 (fun k => decide (nd k + mx (fun f => b f k + tb w7 f * need) nL ≤ room k)) k)) (nI k) μ) (n := nL) ?_ ?_
  · refine h5 _ _ _ _ _ ?_
    unfold F_X0_openBehind_5
    rw [h7]
    refine br_t (le_nI (Nat.le_refl _) (by omega)) ?_
    rw [show (-1 : Int32) = nI 4294967295 by decide +kernel, nx_xor, nx_and]
    exact h
  · intro k hk hnx
    refine h5 _ _ _ _ _ ?_
    unfold F_X0_openBehind_5
    rw [h7]
    refine br_f (not_le_nI hk (by omega)) ⟨in9 (by omega), ?_⟩
    obtain ⟨B1, B2⟩ := hB k (by omega)
    rw [nI_clamp (by omega), B1]
    have bk : ∀ f, b f k + tb w7 f * need ≤ 5020 := fun f => by have := hb f k; have := tbn f; omega
    have mb : ∀ j, mx (fun f => b f k + tb w7 f * need) j ≤ 5020 := fun j => mx_le fun f _ => bk f
    have ma : mx (fun f => b f k) nL ≤ 5000 := mx_le fun f _ => hb f k
    refine dn (P := fun j => K29 (nI w7) (nI need) (nI (om9 (fun k => decide (nd k + mx (fun f => b f k + tb w7 f * need) nL ≤ room k)) k)) (nI k) (nI (max (mx (fun f => b f k) nL) (mx (fun f => b f k + tb w7 f * need) j))) (nI j) μ) (n := nL) ?_ ?_ |> fun hh => by
      rw [show mx (fun f => b f k) nL = max (mx (fun f => b f k) nL) (mx (fun f => b f k + tb w7 f * need) 0) from (Nat.max_zero _).symm]; exact hh
    · refine h29 _ _ _ _ _ _ _ ?_
      unfold F_X0_openBehind_29
      rw [h7]
      refine br_t (le_nI (Nat.le_refl _) (by omega)) ⟨in9 (by omega), in9 (by omega), ?_⟩
      have hle : mx (fun f => b f k) nL ≤ mx (fun f => b f k + tb w7 f * need) nL := mx_le fun f hf => Nat.le_trans (Nat.le_add_right _ _) (le_mx (f := fun f => b f k + tb w7 f * need) hf)
      rw [Nat.max_eq_right hle, nI_clamp (by omega), (hr k hk).1, (hd k hk).1, nI_add, i1]
      have h1 := (hr k hk).2
      have h2 := (hd k hk).2
      have h3 := mb nL
      unfold om9 at hnx
      by_cases hc : nd k + mx (fun f => b f k + tb w7 f * need) nL ≤ room k
      · rw [if_pos (decide_eq_true hc)] at hnx
        refine br_f (fun hx => by rw [ltF (by omega) (by omega)] at hx; exact hx) ?_
        rw [m_or _ (om9_lt _ _ (by omega)) _ (by omega)]
        exact hnx
      · rw [if_neg (by rw [decide_eq_false hc]; decide)] at hnx
        refine br_t (of_eq_true (ltT (by omega) (by omega))) ?_
        have e : ∀ y : Int32, y ||| 0 = y := fun y => by simp
        rw [e]
        exact hnx
    · intro j hj hnj
      refine h29 _ _ _ _ _ _ _ ?_
      unfold F_X0_openBehind_29
      rw [h7]
      refine br_f (not_le_nI hj (by omega)) ⟨in9 (by omega), in9 (by omega), ?_⟩
      rw [nI_clamp (show j < 2 ^ 31 by omega), nI_clamp (show k < 2 ^ 31 by omega), B2 j (by omega), m_sh w7 hw j (by omega), pk_mul, nI_add, i1, imax_nI (by have := mb j; omega) (by have := bk j; omega), Nat.max_assoc]
      exact hnj
/-- what second ways are found, one line after the other -/
def secB (S : St) (r : Rq) (f k : Nat) : Nat := bhS S f k + sm (lB r f k) (r 0 11)
def secN (S : St) (r : Rq) (k : Nat) : Nat := ndS S k + sm (lL r k) (r 0 11)
def secW1 (S : St) (r : Rq) (l : Nat) : Nat := fwp (okX S.1.1 (S.2.1 2) (secN S r) (secB S r) (r 7 l) (r 6 l)) (wl S.1 (r 3 (r 4 l)) (r 3 (r 5 l)))
def secQ (S : St) (r : Rq) : Nat → Rq
  | 0 => r
  | l + 1 => set3 (secQ S r l) 10 l (secW1 S (secQ S r l) l)
theorem secQ_x {S : St} {r : Rq} {x y : Nat} (h : x ≠ 10) : ∀ l, secQ S r l x y = r x y
  | 0 => rfl
  | l + 1 => by
    unfold secQ
    rw [set3_ne (Or.inl h)]
    exact secQ_x h l
theorem secQ_hi {S : St} {r : Rq} {y : Nat} : ∀ l, l ≤ y → secQ S r l 10 y = r 10 y
  | 0, _ => rfl
  | l + 1, h => by
    unfold secQ
    rw [set3_ne (Or.inr (by omega))]
    exact secQ_hi l (by omega)
theorem secQ_lo {S : St} {r : Rq} {y : Nat} : ∀ l, y < l → secQ S r l 10 y = secW1 S (secQ S r y) y
  | 0, h => by omega
  | l + 1, h => by
    show set3 (secQ S r l) 10 l (secW1 S (secQ S r l) l) 10 y = _
    by_cases hy : y = l
    · subst hy; exact set3_eq
    · rw [set3_ne (Or.inr hy)]
      exact secQ_lo l (by omega)
def secOk (S : St) (r : Rq) : Bool := al (fun l => !decide (secW1 S (secQ S r l) l = 0)) (r 0 11)
/-- a draft as it is mapped, without second ways -/
def Map0 (S : St) (r : Rq) : Prop := GoodD r ∧ r 0 14 = 0 ∧ (∀ k, k < r 0 10 → r 3 k < nNd S) ∧ (∀ j k, j < r 0 10 → k < r 0 10 → j ≠ k → r 3 j ≠ r 3 k) ∧ ∀ l, l < r 0 11 → r 7 l < 2 ^ nLk S ∧ r 8 l = r 6 l ∧ r 9 l = 0 ∧ r 10 l = 0
theorem secW1_lt (S : St) (r : Rq) (l : Nat) : secW1 S r l < 2 ^ nLk S := fwp_lt (wl_W9 S.1 _ _)
theorem secQ_10lt {S : St} {r : Rq} (h : Map0 S r) {l y : Nat} (hy : y < r 0 11) : secQ S r l 10 y < 2 ^ nLk S := by
  by_cases hyl : y < l
  · rw [secQ_lo l hyl]; exact secW1_lt _ _ _
  · rw [secQ_hi l (by omega), (h.2.2.2.2 y hy).2.2.2]; exact Nat.pow_pos (by decide)
theorem secQ_good {S : St} {r : Rq} (h : GoodD r) (l : Nat) : GoodD (secQ S r l) := by
  unfold GoodD at *
  simp only [secQ_x (S := S) (r := r) (x := 0) (by decide), secQ_x (S := S) (r := r) (x := 1) (by decide), secQ_x (S := S) (r := r) (x := 2) (by decide), secQ_x (S := S) (r := r) (x := 4) (by decide), secQ_x (S := S) (r := r) (x := 5) (by decide), secQ_x (S := S) (r := r) (x := 6) (by decide)]
  exact h
theorem secQ_ok {S : St} {r : Rq} (h : Map0 S r) (l : Nat) : RqOk (nNd S) (nLk S) (secQ S r l) := by
  refine ⟨fun k hk => ?_, fun j hj => ?_⟩
  · rw [secQ_x (by decide)] at hk ⊢
    exact h.2.2.1 k hk
  · rw [secQ_x (by decide)] at hj
    obtain ⟨a1, a2, a3, a4⟩ := h.2.2.2.2 j hj
    refine ⟨?_, ?_, secQ_10lt h hj, ?_⟩
    · rw [secQ_x (by decide)]; exact a1
    · rw [secQ_x (by decide), a3]; exact Nat.pow_pos (by decide)
    · rw [secQ_x (by decide), secQ_x (by decide), a2]; exact Nat.le_refl _
theorem secW1_dis {S : St} {r : Rq} {l : Nat} : secW1 S r l &&& r 7 l = 0 := by
  rcases fwp_mem (okX S.1.1 (S.2.1 2) (secN S r) (secB S r) (r 7 l) (r 6 l)) (wl S.1 (r 3 (r 4 l)) (r 3 (r 5 l))) with h | ⟨-, h⟩
  · unfold secW1; rw [h]; exact Nat.zero_and _
  · unfold okX at h
    rw [Bool.and_eq_true] at h
    exact of_decide_eq_true h.1
theorem secQ_dis {S : St} {r : Rq} (h : Map0 S r) {l y : Nat} (hy : y < r 0 11) : secQ S r l 10 y &&& r 7 y = 0 := by
  by_cases hyl : y < l
  · rw [secQ_lo l hyl]
    have := secW1_dis (S := S) (r := secQ S r y) (l := y)
    rw [secQ_x (by decide)] at this
    exact this
  · rw [secQ_hi l (by omega), (h.2.2.2.2 y hy).2.2.2]; exact Nat.zero_and _
/-- with one second way more -/
theorem sB_step {r : Rq} {f k l w : Nat} (hl : l < r 0 11) (h0 : r 10 l = 0) : sm (lB (set3 r 10 l w) f k) (r 0 11) = sm (lB r f k) (r 0 11) + tb w k * (tb (r 7 l) f * r 6 l) := by
  have := sm_upd (lB (set3 r 10 l w) f k) (lB r f k) l (fun j hj => by
    unfold lB
    rw [set3_ne (Or.inr hj), set3_ne (Or.inl (by decide)), set3_ne (Or.inl (by decide))]) (r 0 11) hl
  have e1 : lB (set3 r 10 l w) f k l = tb w k * (tb (r 7 l) f * r 6 l) := by
    unfold lB
    rw [set3_eq, set3_ne (Or.inl (by decide)), set3_ne (Or.inl (by decide))]
  have e2 : lB r f k l = 0 := by
    unfold lB
    rw [h0, show tb 0 k = 0 by rw [tb_bit]; simp, Nat.zero_mul]
  omega
theorem sB3 {r : Rq} (hr : GoodD r) (f k : Nat) : sm (lB r f k) (r 0 11) ≤ 60 := by
  have h2 : sm (lB r f k) (r 0 11) ≤ sm (fun _ => 20) (r 0 11) := sm_le fun j hj => lB_le (hr.2.2.2.1 j hj).2.2.2.2
  rw [sm_const] at h2
  have := hr.2.1
  omega
theorem sL3 {nN nL : Nat} {r : Rq} (hr : GoodD r) (ho : RqOk nN nL r) (k : Nat) : sm (lL r k) (r 0 11) ≤ 60 := by
  have h2 : sm (lL r k) (r 0 11) ≤ sm (fun _ => 20) (r 0 11) := sm_le fun j hj => lL_le (hr.2.2.2.1 j hj).2.2.2.2 (ho.2 j hj).2.2.2
  rw [sm_const] at h2
  have := hr.2.1
  omega
theorem s_secure {S : St} {p : Nat} {r : Rq} {μ : Mm} {q : Bool → Mm → Prop} (hG : Good S) (hp : 105 ≤ p) (hM : Map0 S r) (hE : Env S.1 p r μ) (hA : cA p r μ) (hW : cW p r μ) (hr : ∀ k, k < nLk S → μ p_GR_linkRooms k = nI (S.2.1 2 k)) (hd : ∀ k, k < nLk S → μ p_BK_linkNeeds k = nI (secN S r k)) (hB : BH9 (nLk S) (secB S r) μ)
    (h : ∀ μ2 l, l ≤ r 0 11 → Sm (fun c => c = p + 10 ∨ dQ c) μ μ2 → cW p (secQ S r l) μ2 → BH9 (nLk S) (secB S (secQ S r l)) μ2 → (secOk S r = true → l = r 0 11) → q (secOk S r) μ2) : Wp_X4_secure p μ q := by
  have hMM := hM
  obtain ⟨hgd, h14, hN, hdis, hln⟩ := hM
  have hL := hG.L
  have h3 := hgd.2.1
  have dE : ∀ x, (fun c => c = p + 10 ∨ dQ c) x → ¬ envC p x := fun x hx => by unfold dQ at hx; unfold envC; omega
  unfold Wp_X4_secure
  intro K2 h2
  unfold F_X4_secure_e
  refine dn (P := fun l => al (fun l => !decide (secW1 S (secQ S r l) l = 0)) l = true → ∀ μ1, Sm (fun c => c = p + 10 ∨ dQ c) μ μ1 → cW p (secQ S r l) μ1 → BH9 (nLk S) (secB S (secQ S r l)) μ1 → K2 (nI l) μ1) (n := r 0 11) ?_ ?_ rfl μ Sm.rf hW hB
  · intro hal μ1 s1 hW1 hB1
    refine h2 _ _ ?_
    unfold F_X4_secure_2
    have hE1 := hE.fr s1 dE
    rw [hE1.2.2.2.1]
    refine br_t (le_nI (Nat.le_refl _) (by omega)) ?_
    have hok : secOk S r = true := hal
    rw [hok] at h
    exact h μ1 _ (Nat.le_refl _) s1 hW1 hB1 (fun _ => rfl)
  · intro l hl hnx hal μ1 s1 hW1 hB1
    refine h2 _ _ ?_
    unfold F_X4_secure_2
    have hE1 := hE.fr s1 dE
    obtain ⟨b1, b2, b3, b4, b5⟩ := hgd.2.2.2.1 l hl
    have hv : vp_in (nI l) 3 := inN (by omega) (by omega)
    have cl : (nI l).toNatClampNeg = l := nI_clamp (by omega)
    have n6 := (hE1.2.2.2.2.2.2 l hl).2.2
    have hl11 : ∀ l, l < secQ S r l 0 11 ↔ l < r 0 11 := fun l => by rw [secQ_x (by decide)]
    obtain ⟨w7, w8, w9, w10⟩ := hW1 l ((hl11 l).2 hl)
    rw [secQ_x (by decide)] at w7
    rw [hE1.2.2.2.1]
    refine br_f (not_le_nI hl (by omega)) ⟨hv, hv, ?_⟩
    rw [cl, w7, n6]
    have h7l := (hln l hl).1
    have secN_eq : secN S (secQ S r l) = secN S r := by
      funext k
      unfold secN
      rw [secQ_x (by decide)]
      congr 1
      exact sm_congr fun j _ => by
        unfold lL
        rw [secQ_x (by decide), secQ_x (by decide), secQ_x (by decide), secQ_x (by decide)]
    have hgq := secQ_good (S := S) hgd l
    have hbq : ∀ f k, secB S (secQ S r l) f k ≤ 5000 := fun f k => by
      have h1 := hG.bh f k
      have h2 := sB3 hgq f k
      show bhS S f k + sm (lB (secQ S r l) f k) (secQ S r l 0 11) ≤ 5000
      omega
    have hok0 := secQ_ok hMM 0
    refine s_openBehind (nL := nLk S) (room := S.2.1 2) (nd := secN S r) (b := secB S (secQ S r l)) hL hE1.1.2.1 (lt512 hL h7l) b5 (fun k hk => ⟨?_, hG.2.2.2.2.2.2.1 k hk⟩) (fun k hk => ⟨?_, ?_⟩) hB1 hbq ?_
    · rw [show μ1 p_GR_linkRooms = μ p_GR_linkRooms from s1 8 (by unfold dQ; omega)]; exact hr k hk
    · rw [show μ1 p_BK_linkNeeds = μ p_BK_linkNeeds from s1 14 (by unfold dQ; omega)]; exact hd k hk
    · have h1 := hG.nd k
      have h2 := sL3 hgd hok0 k
      show ndS S k + sm (lL r k) (r 0 11) ≤ 5000
      omega
    have hP6 : ∀ k, k < r 0 10 → r 3 k < 6 := fun k hk => by have := hN k hk; have := hG.1; omega
    have hA1 : ∀ k, k < r 0 10 → μ1 (p + 3) k = nI (r 3 k) := fun k hk => by rw [s1 (p + 3) (by unfold dQ; omega)]; exact hA k hk
    refine s_pairOf hE1 hgd hl hA1 ?_
    refine s_shortest hG.2.2.1 hE1.2.1 (hP6 _ b1) (hP6 _ b2) (hdis _ _ b1 b2 b3) (Nat.lt_of_le_of_lt Nat.and_le_left (om9_lt _ _ hL)) ?_
    have hw1 : fwp (fun w => sbb w (om9 (fun k => decide (secN S r k + mx (fun f => secB S (secQ S r l) f k + tb (r 7 l) f * r 6 l) (nLk S) ≤ S.2.1 2 k)) (nLk S) &&& (r 7 l ^^^ 4294967295))) (wl S.1 (r 3 (r 4 l)) (r 3 (r 5 l))) = secW1 S (secQ S r l) l := by
      unfold secW1
      rw [secN_eq, secQ_x (by decide), secQ_x (by decide), secQ_x (x := 4) (by decide), secQ_x (x := 5) (by decide), secQ_x (x := 3) (by decide), secQ_x (x := 3) (by decide)]
      exact fwp_congr fun w hw => sbb_open hL (wl_W9 S.1 _ _ w hw).1
    rw [hw1]
    obtain ⟨w, hw⟩ : ∃ w, w = secW1 S (secQ S r l) l := ⟨_, rfl⟩
    have hwl : w < 2 ^ nLk S := by rw [hw]; exact secW1_lt _ _ _
    have hw9 := lt512 hL hwl
    rw [← hw]
    refine ⟨hv, hv, ?_⟩
    rw [u_eq, d_eq, e0 (by omega)]
    obtain ⟨μ2, hμ2⟩ : ∃ μ2, μ2 = up2 μ1 (p + 10) l (nI w) := ⟨_, rfl⟩
    rw [← hμ2]
    have s12 : Sm (fun c => c = p + 10 ∨ dQ c) μ μ2 := s1.tr (by rw [hμ2]; exact Sm.up (Or.inl rfl))
    have k2 : ∀ c, c ≠ p + 10 → μ2 c = μ1 c := fun c hc => by rw [hμ2, u_ne hc]
    have hB2 : BH9 (nLk S) (secB S (secQ S r l)) μ2 := by
      intro k hk
      obtain ⟨B1, B2⟩ := hB1 k hk
      exact ⟨by rw [k2 p_BK_reserved (by show 15 ≠ _; omega)]; exact B1, fun f hf => by rw [k2 (p_BH + f) (by show 96 + f ≠ _; omega)]; exact B2 f hf⟩
    by_cases hwz : w = 0
    · refine rb_t hwz ?_
      have hok : secOk S r = false := by
        unfold secOk
        cases ha : al (fun l => !decide (secW1 S (secQ S r l) l = 0)) (r 0 11) with
        | false => rfl
        | true =>
          have := (al_iff _ _).1 ha l hl
          rw [← hw, decide_eq_true hwz] at this
          cases this
      rw [hok] at h
      refine h μ2 l (by omega) s12 (fun j hj => ?_) hB2 (fun hc => by cases hc)
      obtain ⟨v7, v8, v9, v10⟩ := hW1 j hj
      refine ⟨by rw [k2 (p + 7) (by omega)]; exact v7, by rw [k2 (p + 8) (by omega)]; exact v8, by rw [k2 (p + 9) (by omega)]; exact v9, ?_⟩
      rw [hμ2, u_eq]
      by_cases hjl : j = l
      · subst hjl
        rw [d_eq, secQ_hi j (Nat.le_refl _), (hln j hl).2.2.2, hwz]
      · rw [d_ne hjl]; exact v10
    · refine rb_f hwz ?_
      have hs1 : ∀ f k, secB S (secQ S r (l + 1)) f k = secB S (secQ S r l) f k + tb w k * (tb (r 7 l) f * r 6 l) := by
        intro f k
        show bhS S f k + sm (lB (set3 (secQ S r l) 10 l (secW1 S (secQ S r l) l)) f k) (secQ S r (l + 1) 0 11) = bhS S f k + sm (lB (secQ S r l) f k) (secQ S r l 0 11) + _
        rw [secQ_x (by decide), ← secQ_x (S := S) (r := r) (x := 0) (y := 11) (by decide) l, sB_step (by rw [secQ_x (by decide)]; exact hl) (by rw [secQ_hi l (Nat.le_refl _)]; exact (hln l hl).2.2.2), ← hw, secQ_x (x := 7) (by decide), secQ_x (x := 6) (by decide), Nat.add_assoc]
      have c7 : μ2 (p + 7) l = nI (secQ S r (l + 1) 7 l) := by rw [secQ_x (by decide), k2 (p + 7) (by omega)]; exact w7
      have c10 : μ2 (p + 10) l = nI (secQ S r (l + 1) 10 l) := by rw [secQ_lo (l + 1) (by omega), ← hw, hμ2, u_eq, d_eq]
      have c6 : μ2 (p + 6) l = nI (secQ S r (l + 1) 6 l) := by rw [secQ_x (by decide), k2 (p + 6) (by omega)]; exact n6
      have q10 : secQ S r (l + 1) 10 l = w := by rw [secQ_lo (l + 1) (by omega), hw]
      refine s_enterSecondWay (s := true) (nL := nLk S) (r := secQ S r (l + 1)) (b := secB S (secQ S r l)) (b2 := secB S (secQ S r (l + 1))) hp (by omega) hL (by rw [k2 p_GR (by show 1 ≠ _; omega)]; exact hE1.1.2.1) c6 c7 c10 (by rw [secQ_x (by decide)]; exact h7l) (by rw [q10]; exact hwl) hB2 ?_ ?_ ?_ (fun μ3 s3 hB3 => ?_)
      · intro f k hf hk hbit
        rw [q10] at hbit
        rw [sgI_t, secQ_x (by decide), secQ_x (by decide), pk_mul, nI_add, hs1 f k, tb_bit w k, hbit, if_pos rfl, Nat.one_mul]
      · intro f k hf hk hnb
        rw [q10] at hnb
        rw [hs1 f k]
        have : tb w k * (tb (r 7 l) f * r 6 l) = 0 := by
          by_cases hfn : f < nLk S
          · by_cases hkn : k < nLk S
            · have : w.testBit k = false := by
                cases hbb : w.testBit k with
                | false => rfl
                | true => exact absurd ⟨hfn, hkn, hbb⟩ hnb
              rw [tb_bit, this]; simp
            · rw [tb_hi hwl (by omega), Nat.zero_mul]
          · rw [tb_hi h7l (show nLk S ≤ f by omega), Nat.zero_mul, Nat.mul_zero]
        omega
      · intro f k _ _
        have h1 := hG.bh f k
        have h2 := sB3 (secQ_good (S := S) hgd (l + 1)) f k
        show bhS S f k + sm (lB (secQ S r (l + 1)) f k) (secQ S r (l + 1) 0 11) < _
        omega
      · rw [i1]
        have k3 : ∀ c, ¬ dQ c → μ3 c = μ2 c := fun c hc => s3 c hc
        refine hnx ?_ μ3 (s12.tr (s3.mono (fun x hx => Or.inr hx))) (fun j hj => ?_) hB3
        · show (al _ l && !decide (secW1 S (secQ S r l) l = 0)) = true
          rw [hal, ← hw, decide_eq_false hwz]; rfl
        · rw [secQ_x (by decide)] at hj
          obtain ⟨v7, v8, v9, v10⟩ := hW1 j (by rw [secQ_x (by decide)]; exact hj)
          rw [secQ_x (by decide)] at v7 v8 v9
          rw [secQ_x (x := 7) (by decide), secQ_x (x := 8) (by decide), secQ_x (x := 9) (by decide)]
          rw [k3 (p + 7) (by unfold dQ; omega), k3 (p + 8) (by unfold dQ; omega), k3 (p + 9) (by unfold dQ; omega), k3 (p + 10) (by unfold dQ; omega)]
          refine ⟨by rw [k2 (p + 7) (by omega)]; exact v7, by rw [k2 (p + 8) (by omega)]; exact v8, by rw [k2 (p + 9) (by omega)]; exact v9, ?_⟩
          rw [hμ2, u_eq]
          by_cases hjl : j = l
          · subst hjl
            rw [d_eq, q10]
          · rw [d_ne hjl, v10]
            by_cases hlt : j < l
            · rw [secQ_lo l hlt, secQ_lo (l + 1) (by omega)]
            · rw [secQ_hi l (by omega), secQ_hi (l + 1) (by omega)]
