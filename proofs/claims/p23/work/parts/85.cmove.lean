/-! moves -/
def mvQ (r : Rq) (k v : Nat) (w : Nat → Nat) : Rq := fun x y => if x = 3 then (if y = k then v else r 3 y) else if x = 7 then w y else r x y
theorem mvQ_x {r : Rq} {k v x y : Nat} {w : Nat → Nat} (h : x ≠ 3 ∧ x ≠ 7) : mvQ r k v w x y = r x y := by
  unfold mvQ
  rw [if_neg h.1, if_neg h.2]
theorem mvQ_3 {r : Rq} {k v y : Nat} {w : Nat → Nat} : mvQ r k v w 3 y = if y = k then v else r 3 y := rfl
theorem mvQ_7 {r : Rq} {k v y : Nat} {w : Nat → Nat} : mvQ r k v w 7 y = w y := rfl
theorem mvQ_id (r : Rq) (k : Nat) : mvQ r k (r 3 k) (r 7) = r := by
  funext x y
  unfold mvQ
  by_cases h3 : x = 3
  · subst h3
    rw [if_pos rfl]
    by_cases hy : y = k
    · rw [if_pos hy, hy]
    · rw [if_neg hy]
  · rw [if_neg h3]
    by_cases h7 : x = 7
    · subst h7; rw [if_pos rfl]
    · rw [if_neg h7]
/-- what a request that can be moved is like -/
def Mvb (r : Rq) : Prop := r 0 14 = 0 ∧ r 0 12 ≠ 2 ∧ ∀ l, l < r 0 11 → r 9 l = 0 ∧ r 8 l = r 6 l ∧ r 10 l = 0
theorem Mvb.of {nN nL : Nat} {r : Rq} (hp : GoodP nN nL r) (h : mvb r = true) : Mvb r := by
  unfold mvb at h
  rw [Bool.and_eq_true, Bool.and_eq_true, al_iff] at h
  obtain ⟨⟨h1, h2⟩, h3⟩ := h
  have h1 := of_decide_eq_true h1
  have h2 : r 0 12 ≠ 2 := by
    intro hc
    rw [decide_eq_true hc] at h2
    cases h2
  refine ⟨h1, h2, fun l hl => ?_⟩
  obtain ⟨-, -, -, -, a5, -, a7⟩ := hp.2.2.2 l hl
  have h9 := of_decide_eq_true (h3 l hl)
  exact ⟨h9, a5 h9, a7 h2⟩
/-- the books, request i being r now -/
def BkM (S : St) (i : Nat) (r : Rq) (μ : Mm) : Prop := Bk9 (nLk S) (fun v => atS (endS S i) v + sm (fN r v) (r 0 10)) (fun v => cnS (endS S i) v + sm (fP r v) (r 0 10)) (fun k => ndS (endS S i) k + sm (lL r k) (r 0 11)) (bhS S) μ
theorem sum_upd {S : St} {i : Nat} (hi : i < nRq S) (r : Rq) (f : Rq → Nat) (h0 : f (endR (S.2.2 i)) = 0) : sm (fun j => f ((updR S i r).2.2 j)) (nRq S) = sm (fun j => f ((endS S i).2.2 j)) (nRq S) + f r := by
  have := sm_upd (fun j => f ((updR S i r).2.2 j)) (fun j => f ((endS S i).2.2 j)) i (fun k hk => by
    show f ((updR S i r).2.2 k) = f ((updR S i (endR (S.2.2 i))).2.2 k)
    rw [updR_ne hk, updR_ne hk]) (nRq S) hi
  have e : f ((endS S i).2.2 i) = 0 := by
    show f ((updR S i (endR (S.2.2 i))).2.2 i) = 0
    rw [updR_i]; exact h0
  simp only [e, updR_i] at this
  omega
theorem BkM_iff {S : St} {i : Nat} (hi : i < nRq S) {r : Rq} (h14 : r 0 14 = 0) (h10 : ∀ l, l < r 0 11 → r 10 l = 0) (hS : ∀ l, l < S.2.2 i 0 11 → S.2.2 i 10 l = 0) {μ : Mm} : BkM S i r μ ↔ Bk9 (nLk S) (atS (updR S i r)) (cnS (updR S i r)) (ndS (updR S i r)) (bhS (updR S i r)) μ := by
  have e1 : atS (updR S i r) = fun v => atS (endS S i) v + sm (fN r v) (r 0 10) := funext fun v => by
    have := sum_upd hi r (fun r => qN r v) qN_end
    have e : qN r v = sm (fN r v) (r 0 10) := by unfold qN; rw [if_pos h14]; rfl
    rw [e] at this; exact this
  have e2 : cnS (updR S i r) = fun v => cnS (endS S i) v + sm (fP r v) (r 0 10) := funext fun v => by
    have := sum_upd hi r (fun r => qP r v) qP_end
    have e : qP r v = sm (fP r v) (r 0 10) := by unfold qP; rw [if_pos h14]; rfl
    rw [e] at this; exact this
  have e3 : ndS (updR S i r) = fun v => ndS (endS S i) v + sm (lL r v) (r 0 11) := funext fun v => by
    have := sum_upd hi r (fun r => qL r v) qL_end
    have e : qL r v = sm (lL r v) (r 0 11) := by unfold qL; rw [if_pos h14]
    rw [e] at this; exact this
  have z : ∀ (r : Rq), (∀ l, l < r 0 11 → r 10 l = 0) → ∀ f v, qB r f v = 0 := fun r hr f v => by
    unfold qB
    split
    · refine sm_zero fun l hl => ?_
      unfold lB
      rw [hr l hl, show tb 0 v = 0 by rw [tb_bit]; simp, Nat.zero_mul]
    · rfl
  have e4 : bhS (updR S i r) = bhS S := funext fun f => funext fun v => by
    have h1 := sum_upd hi r (fun r => qB r f v) qB_end
    have h2 := sum_out hi (fun r => qB r f v) qB_end
    rw [z r h10 f v] at h1
    rw [z (S.2.2 i) hS f v] at h2
    exact h1.trans h2.symm
  unfold BkM
  rw [e1, e2, e3, e4]
theorem swp_i {A x x2 y y2 : Nat} (h : x2 + y = x + y2) : nI (A + x) + (-1 : Int32) * nI y + (1 : Int32) * nI y2 = nI (A + x2) := by
  rw [neg1_mul, Int32.one_mul, Int32.add_assoc, Int32.add_comm (-nI y), ← Int32.add_assoc, nI_add, show A + x + y2 = A + x2 + y by omega, ← nI_add, Int32.add_assoc, Int32.add_right_neg, Int32.add_zero]
/-- the class's memory, part k of request i being at v and its ways w -/
def dM (n p c : Nat) : Prop := c = 5 ∨ c = 20 ∨ c = 12 ∨ c = 13 ∨ c = 14 ∨ c = p + 3 ∨ c = p + 7 ∨ c = 3 ∨ (16 ≤ c ∧ c ≤ 19) ∨ c = 53 ∨ c = 105 + 11 * n + 3
def Ms (S : St) (i k v : Nat) (w : Nat → Nat) (μ0 μ : Mm) : Prop := Sm (dM (nRq S) (p_RQ + 11 * i)) μ0 μ ∧ BkM S i (mvQ (S.2.2 i) k v w) μ ∧ (∀ j, j < S.2.2 i 0 10 → μ (p_RQ + 11 * i + 3) j = nI (if j = k then v else S.2.2 i 3 j)) ∧ (∀ l, l < S.2.2 i 0 11 → μ (p_RQ + 11 * i + 7) l = nI (w l)) ∧ ∀ l, l < S.2.2 i 0 11 → w l < 2 ^ nLk S
theorem Ms.congr {S : St} {i k v : Nat} {w w2 : Nat → Nat} {μ0 μ : Mm} (h : Ms S i k v w μ0 μ) (hw : ∀ l, l < S.2.2 i 0 11 → w l = w2 l) : Ms S i k v w2 μ0 μ := by
  obtain ⟨h1, h2, h3, h4, h5⟩ := h
  refine ⟨h1, ?_, h3, fun l hl => by rw [h4 l hl, hw l hl], fun l hl => by rw [← hw l hl]; exact h5 l hl⟩
  refine ⟨h2.1, fun q hq => ?_⟩
  obtain ⟨a1, a2⟩ := h2.2 q hq
  refine ⟨?_, a2⟩
  rw [a1]
  congr 1
  dsimp only
  congr 1
  rw [mvQ_x (by omega), mvQ_x (by omega)]
  refine sm_congr fun l hl => ?_
  unfold lL
  rw [mvQ_7, mvQ_7, hw l hl, mvQ_x (by omega), mvQ_x (by omega), mvQ_x (by omega), mvQ_x (by omega), mvQ_x (by omega), mvQ_x (by omega)]
theorem s_putAt {S : St} {i k v v2 : Nat} {w : Nat → Nat} {μ0 μ : Mm} {q : Mm → Prop} (hG : Good S) (hI : cInv S μ0) (hi : i < nRq S) (hk : k < S.2.2 i 0 10) (hv : v < nNd S) (hv2 : v2 < nNd S) (hM : Ms S i k v w μ0 μ) (h : ∀ μ2, Ms S i k v2 w μ0 μ2 → lft μ2 = lft μ → μ2 5 = μ 5 → μ2 20 = μ 20 → q μ2) : Wp_X3_putAt (p_RQ + 11 * i) (nI k) (nI v2) μ q := by
  obtain ⟨h1, h2, h3, h4, h5⟩ := hM
  have hd := hG.d (hG.i hi)
  have h10 := hd.1
  have hN := hG.1
  obtain ⟨p, hp⟩ : ∃ p, p = p_RQ + 11 * i := ⟨_, rfl⟩
  have hp5 : p = 105 + 11 * i := hp
  unfold Wp_X3_putAt F_X3_putAt_e
  unfold Ms at h
  rw [← hp] at h h1 h3 h4 ⊢
  have k0 : ∀ c, ¬ dM (nRq S) p c → μ c = μ0 c := fun c hc => h1 c hc
  have hq := hI.2.2.2.2.1 i (hG.i hi)
  rw [← hp] at hq
  have n1 : μ (p + 1) k = nI (S.2.2 i 1 k) := by rw [k0 (p + 1) (by unfold dM; omega)]; exact (hq.2.2.2.1 k hk).1
  have hv3 : vp_in (nI k) 3 := inN (by omega) (by omega)
  refine ⟨hv3, hv3, ?_⟩
  rw [nI_clamp (by omega), h3 k hk, if_pos rfl, n1]
  have g6 : ∀ {μx : Mm}, Sm (dM (nRq S) p) μ0 μx → μx p_GR 6 = nI (nNd S) := by
    intro μx sx
    rw [show μx p_GR = μ0 p_GR from sx 1 (by unfold dM; omega)]; exact hI.1.2.1
  refine s_enterPart hv hN (g6 h1) (fun μ1 s1 m1 m2 => ?_)
  refine ⟨hv3, hv3, ?_⟩
  rw [u_ne (show p + 1 ≠ p + 3 by omega), show μ1 (p + 1) = μ (p + 1) from s1 _ (by unfold dP2; omega), n1]
  obtain ⟨μ2, hμ2⟩ : ∃ μ2, μ2 = up2 μ1 (p + 3) k (nI v2) := ⟨_, rfl⟩
  rw [← hμ2]
  have s12 : Sm (dM (nRq S) p) μ0 μ2 := (h1.tr (s1.mono (fun c hc => by unfold dP2 at hc; unfold dM; omega))).tr (by rw [hμ2]; exact Sm.up (by unfold dM; omega))
  refine s_enterPart hv2 hN (g6 s12) (fun μ3 s3 m3 m4 => ?_)
  have k3 : ∀ c, c ≠ 12 → c ≠ 13 → c ≠ p + 3 → μ3 c = μ c := fun c c1 c2 c3 => by
    rw [s3 c (by unfold dP2; omega), hμ2, u_ne c3, s1 c (by unfold dP2; omega)]
  have e12 : ∀ j, μ2 p_BK_nodeNeeds j = μ1 p_BK_nodeNeeds j := fun j => by rw [hμ2, u_ne (by show 12 ≠ p + 3; omega)]
  have e13 : ∀ j, μ2 p_BK_nodeParts j = μ1 p_BK_nodeParts j := fun j => by rw [hμ2, u_ne (by show 13 ≠ p + 3; omega)]
  refine h μ3 ⟨s12.tr (s3.mono (fun c hc => by unfold dP2 at hc; unfold dM; omega)), ⟨fun u hu => ?_, fun q hq => ?_⟩, fun j hj => ?_, fun l hl => ?_, h5⟩ ?_ ?_ ?_
  · obtain ⟨b1, b2⟩ := h2.1 u hu
    have t1 := sm_upd (fN (mvQ (S.2.2 i) k v2 w) u) (fN (mvQ (S.2.2 i) k v w) u) k (fun j hj => by
      unfold fN
      rw [mvQ_3, mvQ_3, if_neg hj, if_neg hj, mvQ_x (by omega), mvQ_x (by omega)]) (S.2.2 i 0 10) hk
    have t2 := sm_upd (fP (mvQ (S.2.2 i) k v2 w) u) (fP (mvQ (S.2.2 i) k v w) u) k (fun j hj => by
      unfold fP
      rw [mvQ_3, mvQ_3, if_neg hj, if_neg hj]) (S.2.2 i 0 10) hk
    have f1 : ∀ vv, fN (mvQ (S.2.2 i) k vv w) u k = if u = vv then S.2.2 i 1 k else 0 := fun vv => by
      unfold fN
      rw [mvQ_3, if_pos rfl, mvQ_x (by omega)]
      by_cases huv : u = vv
      · rw [if_pos huv.symm, if_pos huv]
      · rw [if_neg (fun hx => huv hx.symm), if_neg huv]
    have f2 : ∀ vv, fP (mvQ (S.2.2 i) k vv w) u k = if u = vv then 1 else 0 := fun vv => by
      unfold fP
      rw [mvQ_3, if_pos rfl]
      by_cases huv : u = vv
      · rw [if_pos huv.symm, if_pos huv]
      · rw [if_neg (fun hx => huv hx.symm), if_neg huv]
    rw [f1, f1] at t1
    rw [f2, f2] at t2
    have b1 : μ p_BK_nodeNeeds u = nI (atS (endS S i) u + sm (fN (mvQ (S.2.2 i) k v w) u) (S.2.2 i 0 10)) := b1
    have b2 : μ p_BK_nodeParts u = nI (cnS (endS S i) u + sm (fP (mvQ (S.2.2 i) k v w) u) (S.2.2 i 0 10)) := b2
    show μ3 p_BK_nodeNeeds u = nI (atS (endS S i) u + sm (fN (mvQ (S.2.2 i) k v2 w) u) (S.2.2 i 0 10)) ∧ μ3 p_BK_nodeParts u = nI (cnS (endS S i) u + sm (fP (mvQ (S.2.2 i) k v2 w) u) (S.2.2 i 0 10))
    constructor
    · rw [← swp_i t1, ← b1, m3 u, e12, m1 u]
      have z : (1 : Int32) * nI 0 = 0 := by decide
      have z2 : (-1 : Int32) * nI 0 = 0 := by decide
      by_cases h11 : u = v
      · by_cases h22 : u = v2
        · rw [if_pos h11, if_pos h22, if_pos h11, if_pos h22]
        · rw [if_pos h11, if_neg h22, if_pos h11, if_neg h22, z, Int32.add_zero]
      · by_cases h22 : u = v2
        · rw [if_neg h11, if_pos h22, if_neg h11, if_pos h22, z2, Int32.add_zero]
        · rw [if_neg h11, if_neg h22, if_neg h11, if_neg h22, z, z2, Int32.add_zero, Int32.add_zero]
    · rw [← swp_i t2, ← b2, m4 u, e13, m2 u]
      have z : (1 : Int32) * nI 0 = 0 := by decide
      have z2 : (-1 : Int32) * nI 0 = 0 := by decide
      have o : (1 : Int32) * nI 1 = 1 := by decide
      have o2 : (-1 : Int32) * nI 1 = -1 := by decide
      by_cases h11 : u = v
      · by_cases h22 : u = v2
        · rw [if_pos h11, if_pos h22, if_pos h11, if_pos h22, o, o2]
        · rw [if_pos h11, if_neg h22, if_pos h11, if_neg h22, z, o2, Int32.add_zero]
      · by_cases h22 : u = v2
        · rw [if_neg h11, if_pos h22, if_neg h11, if_pos h22, z2, o, Int32.add_zero]
        · rw [if_neg h11, if_neg h22, if_neg h11, if_neg h22, z, z2, Int32.add_zero, Int32.add_zero]
  · obtain ⟨c1, c2, c3⟩ := h2.2 q hq
    refine ⟨?_, by rw [k3 p_BK_reserved (by decide) (by decide) (by show 15 ≠ _; omega)]; exact c2, fun f hf => by rw [k3 (p_BH + f) (by show 96 + f ≠ 12; omega) (by show 96 + f ≠ 13; omega) (by show 96 + f ≠ _; omega)]; exact c3 f hf⟩
    rw [k3 p_BK_linkNeeds (by decide) (by decide) (by show 14 ≠ _; omega), c1]
    rfl
  · rw [s3 (p + 3) (by unfold dP2; omega), hμ2, u_eq]
    by_cases hjk : j = k
    · rw [if_pos hjk, hjk, d_eq]
    · rw [if_neg hjk, d_ne hjk, s1 (p + 3) (by unfold dP2; omega), h3 j hj, if_neg hjk]
  · rw [k3 (p + 7) (by omega) (by omega) (by omega)]; exact h4 l hl
  · exact lft_fr (k3 8 (by decide) (by decide) (by omega)) (k3 14 (by decide) (by decide) (by omega)) (k3 15 (by decide) (by decide) (by omega))
  · exact k3 5 (by decide) (by decide) (by omega)
  · exact k3 20 (by decide) (by decide) (by omega)
theorem neg_crF {nL w n : Nat} {F : Nat → Int32} {k : Nat} (hw : w < 2 ^ nL) : crF nL w (-nI n) F k = F k + (-1 : Int32) * nI (tb w k * n) := by
  rw [← neg1_mul, crF_tb hw]
theorem pos_crF {nL w n : Nat} {F : Nat → Int32} {k : Nat} (hw : w < 2 ^ nL) : crF nL w (nI n) F k = F k + (1 : Int32) * nI (tb w k * n) := by
  conv => lhs; rw [← Int32.one_mul (nI n)]
  rw [crF_tb hw]
def setw (w : Nat → Nat) (l x : Nat) : Nat → Nat := fun j => if j = l then x else w j
theorem s_giveWay {S : St} {i k v l x : Nat} {w : Nat → Nat} {μ0 μ : Mm} {q : Mm → Prop} (hG : Good S) (hI : cInv S μ0) (hi : i < nRq S) (hmv : Mvb (S.2.2 i)) (hl : l < S.2.2 i 0 11) (hx : x < 2 ^ nLk S) (hM : Ms S i k v w μ0 μ) (h : ∀ μ2, Ms S i k v (setw w l x) μ0 μ2 → lft μ2 = tkF (nLk S) x (nI (S.2.2 i 6 l)) (tkF (nLk S) (w l) (-nI (S.2.2 i 6 l)) (lft μ)) → μ2 5 = μ 5 → μ2 20 = μ 20 → q μ2) : Wp_X3_giveWay (p_RQ + 11 * i) (nI l) (nI x) μ q := by
  obtain ⟨h1, h2, h3, h4, h5⟩ := hM
  have hd := hG.d (hG.i hi)
  have h11 := hd.2.1
  have hL := hG.L
  obtain ⟨m9, m8, m10⟩ := hmv.2.2 l hl
  obtain ⟨p, hp⟩ : ∃ p, p = p_RQ + 11 * i := ⟨_, rfl⟩
  have hp5 : p = 105 + 11 * i := hp
  unfold Wp_X3_giveWay F_X3_giveWay_e
  unfold Ms at h
  rw [← hp] at h h1 h3 h4 ⊢
  have k0 : ∀ c, ¬ dM (nRq S) p c → μ c = μ0 c := fun c hc => h1 c hc
  have hq := hI.2.2.2.2.1 i (hG.i hi)
  rw [← hp] at hq
  have n6 : μ (p + 6) l = nI (S.2.2 i 6 l) := by rw [k0 (p + 6) (by unfold dM; omega)]; exact (hq.2.2.2.2 l hl).2.2
  have hv3 : vp_in (nI l) 3 := inN (by omega) (by omega)
  refine ⟨hv3, hv3, ?_⟩
  rw [nI_clamp (by omega), h4 l hl, n6]
  have g7 : ∀ {μx : Mm}, Sm (dM (nRq S) p) μ0 μx → μx p_GR 7 = nI (nLk S) := by
    intro μx sx
    rw [show μx p_GR = μ0 p_GR from sx 1 (by unfold dM; omega)]; exact hI.1.1.2.1
  have hwl := h5 l hl
  refine s_carry hL (g7 h1) (lt512 hL hwl) ⟨hv3, hv3, ?_⟩
  obtain ⟨μ1, hμ1⟩ : ∃ μ1, μ1 = setr μ p_BK_linkNeeds (crF (nLk S) (w l) (-nI (S.2.2 i 6 l)) (μ p_BK_linkNeeds)) := ⟨_, rfl⟩
  have lf1 : lft μ1 = tkF (nLk S) (w l) (-nI (S.2.2 i 6 l)) (lft μ) := by rw [hμ1, lft_carry]
  have e14 : μ1 p_BK_linkNeeds = crF (nLk S) (w l) (-nI (S.2.2 i 6 l)) (μ p_BK_linkNeeds) := by rw [hμ1, setr_self]
  have k1 : ∀ c, c ≠ 14 → μ1 c = μ c := fun c hc => by rw [hμ1]; exact setr_ne hc
  rw [← hμ1, u_ne (show p + 6 ≠ p + 7 by omega), k1 (p + 6) (by omega), n6]
  obtain ⟨μ2, hμ2⟩ : ∃ μ2, μ2 = up2 μ1 (p + 7) l (nI x) := ⟨_, rfl⟩
  rw [← hμ2]
  have s01 : Sm (dM (nRq S) p) μ μ1 := by rw [hμ1]; exact Sm.set (show dM (nRq S) p 14 by unfold dM; omega)
  have s2 : Sm (dM (nRq S) p) μ0 μ2 := (h1.tr s01).tr (by rw [hμ2]; exact Sm.up (by unfold dM; omega))
  have lf2 : lft μ2 = lft μ1 := by rw [hμ2]; exact lft_fr (u_ne (by omega)) (u_ne (by omega)) (u_ne (by omega))
  refine s_carry hL (g7 s2) (lt512 hL hx) ?_
  obtain ⟨μ3, hμ3⟩ : ∃ μ3, μ3 = setr μ2 p_BK_linkNeeds (crF (nLk S) x (nI (S.2.2 i 6 l)) (μ2 p_BK_linkNeeds)) := ⟨_, rfl⟩
  rw [← hμ3]
  have k3 : ∀ c, c ≠ 14 → c ≠ p + 7 → μ3 c = μ c := fun c c1 c2 => by rw [hμ3, setr_ne c1, hμ2, u_ne c2, k1 c c1]
  have hlL : ∀ (ww : Nat → Nat) (q j : Nat), j < S.2.2 i 0 11 → lL (mvQ (S.2.2 i) k v ww) q j = tb (ww j) q * S.2.2 i 6 j := fun ww q j hj => by
    obtain ⟨a1, a2, -⟩ := hmv.2.2 j hj
    unfold lL
    rw [mvQ_7, mvQ_x (by omega), mvQ_x (by omega), mvQ_x (by omega), a1, a2, Nat.sub_self, Nat.mul_zero, Nat.add_zero]
  refine h μ3 ⟨s2.tr (by rw [hμ3]; exact Sm.set (show dM (nRq S) p 14 by unfold dM; omega)), ⟨fun u hu => ?_, fun q hq => ?_⟩, fun j hj => ?_, fun j hj => ?_, fun j hj => ?_⟩ ?_ ?_ ?_
  · rw [k3 p_BK_nodeNeeds (by decide) (by show 12 ≠ _; omega), k3 p_BK_nodeParts (by decide) (by show 13 ≠ _; omega)]
    exact h2.1 u hu
  · obtain ⟨c1, c2, c3⟩ := h2.2 q hq
    refine ⟨?_, by rw [k3 p_BK_reserved (by decide) (by show 15 ≠ _; omega)]; exact c2, fun f hf => by rw [k3 (p_BH + f) (by show 96 + f ≠ 14; omega) (by show 96 + f ≠ _; omega)]; exact c3 f hf⟩
    have t1 := sm_upd (lL (mvQ (S.2.2 i) k v (setw w l x)) q) (lL (mvQ (S.2.2 i) k v w) q) l (fun j hj => by
      unfold lL
      rw [mvQ_7, mvQ_7, mvQ_x (by omega), mvQ_x (by omega), mvQ_x (by omega), mvQ_x (by omega), mvQ_x (by omega), mvQ_x (by omega)]
      unfold setw
      rw [if_neg hj]) (S.2.2 i 0 11) hl
    rw [hlL _ q l hl, hlL _ q l hl, show setw w l x l = x from if_pos rfl] at t1
    have c1 : μ p_BK_linkNeeds q = nI (ndS (endS S i) q + sm (lL (mvQ (S.2.2 i) k v w) q) (S.2.2 i 0 11)) := c1
    show μ3 p_BK_linkNeeds q = nI (ndS (endS S i) q + sm (lL (mvQ (S.2.2 i) k v (setw w l x)) q) (S.2.2 i 0 11))
    rw [← swp_i t1, ← c1, hμ3, setr_self, pos_crF hx, hμ2, u_ne (by show 14 ≠ p + 7; omega), e14, neg_crF hwl]
  · rw [k3 (p + 3) (by omega) (by omega)]; exact h3 j hj
  · rw [hμ3, setr_ne (by show p + 7 ≠ 14; omega), hμ2, u_eq]
    unfold setw
    by_cases hjl : j = l
    · rw [if_pos hjl, hjl, d_eq]
    · rw [if_neg hjl, d_ne hjl, k1 (p + 7) (by omega)]; exact h4 j hj
  · unfold setw
    by_cases hjl : j = l
    · rw [if_pos hjl]; exact hx
    · rw [if_neg hjl]; exact h5 j hj
  · rw [hμ3, lft_carry, lf2, lf1]
  · exact k3 5 (by decide) (by omega)
  · exact k3 20 (by decide) (by omega)
