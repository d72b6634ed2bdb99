/-! a request is drafted and placed -/
def LPt (S : St) (μ : Mm) : Prop := (μ p_LC 0 = nI (nNd S) ∧ μ p_LC 1 = nI (nLk S) ∧ μ p_LC 2 = nI (nRq S) ∧ μ p_LC 3 = nI (tkS S)) ∧ LAg S μ ∧ LAr S μ
theorem LPt.fr {S : St} {μ μ2 : Mm} (h : LPt S μ) (hf : ∀ c, 21 ≤ c → c ≤ 26 → μ2 c = μ c) : LPt S μ2 := by
  unfold LPt LAg LAr at *
  rw [hf p_LC (by decide) (by decide), hf p_LG (by decide) (by decide), hf p_LL (by decide) (by decide), hf p_LQ (by decide) (by decide), hf p_LP (by decide) (by decide), hf p_LT (by decide) (by decide)]
  exact h
theorem LA.lp {S : St} {μ : Mm} (h : LA S μ) : LPt S μ := ⟨⟨h.1.1, h.1.2.1, h.1.2.2.1, h.1.2.2.2.1⟩, h.2⟩
theorem dft_up {S : St} {r : Rq} : dft (updR S (nRq S) r) = r := updR_i
theorem updR_2 {S : St} {i : Nat} {r r2 : Rq} : updR (updR S i r) i r2 = updR S i r2 := by
  have e : (fun j => if j = i then r2 else if j = i then r else S.2.2 j) = (fun j => if j = i then r2 else S.2.2 j) := by
    funext j
    by_cases h : j = i
    · rw [if_pos h, if_pos h]
    · rw [if_neg h, if_neg h, if_neg h]
  show (S.1, S.2.1, fun j => if j = i then r2 else if j = i then r else S.2.2 j) = (S.1, S.2.1, fun j => if j = i then r2 else S.2.2 j)
  rw [e]
def Bd (S : St) (r : Rq) (μ : Mm) : Prop := Snd (updR S (nRq S) r) ∧ cInv (updR S (nRq S) r) μ ∧ LPt S μ ∧ (∀ k, k < r 0 10 → μ p_LD k = nI (r 1 k)) ∧ ∀ l, l < r 0 11 → μ p_LD (3 + 3 * l) = nI (r 4 l) ∧ μ p_LD (4 + 3 * l) = nI (r 5 l) ∧ μ p_LD (5 + 3 * l) = nI (r 6 l)
theorem part_ans {S : St} {r : Rq} {n s : Nat} (hn : 1 ≤ n ∧ n ≤ 20) (hs : 1 ≤ s ∧ s ≤ 63) (h3 : r 0 10 < 3) : o_part (updR S (nRq S) r) (nI n) (nI s) = (0, nI (r 0 10), updR S (nRq S) (addP r n s)) := by
  unfold o_part
  rw [show rg 1 20 (nI n) = true from rg_t (a := 1) (b := 20) hn.1 hn.2 (by decide), show rg 1 63 (nI s) = true from rg_t (a := 1) (b := 63) hs.1 hs.2 (by decide), Bool.and_self, if_pos rfl, dft_up, if_neg (by omega), toN_nI (by omega), toN_nI (by omega)]
  show (0, nI (r 0 10), updR (updR S (nRq S) r) (nRq S) (addP r n s)) = _
  rw [updR_2]
theorem Bd.part {S : St} {r : Rq} {n s : Nat} {μ μ1 μ2 : Mm} (h : Bd S r μ) (hn : 1 ≤ n ∧ n ≤ 20) (hs : 1 ≤ s ∧ s ≤ 63) (h3 : r 0 10 < 3) (h11 : r 0 11 = 0) (h1 : μ1 = up2 μ p_LD (r 0 10) (nI n)) (hc : cInv (updR S (nRq S) (addP r n s)) μ2) (hf : Fr μ1 μ2) : Bd S (addP r n s) μ2 := by
  obtain ⟨b1, b2, b3, b4, b5⟩ := h
  have hs2 := b1.part (x := nI n) (y := nI s)
  rw [part_ans hn hs h3] at hs2
  have f1 : ∀ c, c ≠ p_LD → μ1 c = μ c := fun c hc => by rw [h1]; exact u_ne hc
  refine ⟨hs2, hc, b3.fr (fun c c1 c2 => by rw [hf.la c c1 c2]; exact f1 c (fun e => by rw [e] at c2; revert c2; decide)), fun k hk => ?_, fun l hl => ?_⟩
  · rw [addP_10] at hk
    rw [hf.cell (by decide), h1, u_eq, addP_1]
    by_cases hkn : k = r 0 10
    · rw [if_pos hkn, hkn]; exact d_eq
    · rw [if_neg hkn, d_ne hkn]; exact b4 k (by omega)
  · rw [addP_0 (by decide), h11] at hl
    exact absurd hl (Nat.not_lt_zero l)
theorem line_no {S : St} {r : Rq} {a b w : Nat} (hr3 : r 0 10 ≤ 3) (ha : a < r 0 10) (hb : b < r 0 10) (hab : a ≠ b) (hw : 1 ≤ w ∧ w ≤ 20) (hl : lnd r a b = true) : o_line (updR S (nRq S) r) (nI a) (nI b) (nI w) = (3, 0, updR S (nRq S) r) := by
  unfold o_line
  rw [dft_up, inR_t (by omega) ha, inR_t (by omega) hb, Bool.and_self, if_pos rfl, if_neg (by
    rintro (e | e)
    · exact hab ((nI_eq (by omega) (by omega)).1 e)
    · rw [show rg 1 20 (nI w) = true from rg_t (a := 1) (b := 20) hw.1 hw.2 (by decide)] at e; cases e), toN_nI (by omega), toN_nI (by omega), if_pos hl]
theorem line_ok {S : St} {r : Rq} {a b w : Nat} (hr3 : r 0 10 ≤ 3) (ha : a < r 0 10) (hb : b < r 0 10) (hab : a ≠ b) (hw : 1 ≤ w ∧ w ≤ 20) (hl : lnd r a b = false) : o_line (updR S (nRq S) r) (nI a) (nI b) (nI w) = (0, nI (r 0 11), updR S (nRq S) (addLn r a b w)) := by
  unfold o_line
  rw [dft_up, inR_t (by omega) ha, inR_t (by omega) hb, Bool.and_self, if_pos rfl, if_neg (by
    rintro (e | e)
    · exact hab ((nI_eq (by omega) (by omega)).1 e)
    · rw [show rg 1 20 (nI w) = true from rg_t (a := 1) (b := 20) hw.1 hw.2 (by decide)] at e; cases e), toN_nI (by omega), toN_nI (by omega), toN_nI (by omega), if_neg (by rw [hl]; decide)]
  show (0, nI (r 0 11), updR (updR S (nRq S) r) (nRq S) (addLn r a b w)) = _
  rw [updR_2]
theorem Bd.go {S : St} {r : Rq} {μ μ2 : Mm} (h : Bd S r μ) (hc : cInv (updR S (nRq S) r) μ2) (hf : Fr μ μ2) : Bd S r μ2 := by
  obtain ⟨b1, b2, b3, b4, b5⟩ := h
  refine ⟨b1, hc, b3.fr hf.la, ?_, ?_⟩
  · rw [hf.cell (by decide)]; exact b4
  · rw [hf.cell (by decide)]; exact b5
theorem Bd.line {S : St} {r : Rq} {a b w : Nat} {μ μ1 μ2 μ3 μ4 : Mm} (h : Bd S r μ) (hr3 : r 0 10 ≤ 3) (ha : a < r 0 10) (hb : b < r 0 10) (hab : a ≠ b) (hw : 1 ≤ w ∧ w ≤ 20) (hl : lnd r a b = false) (hc : cInv (updR S (nRq S) (addLn r a b w)) μ1) (hf : Fr μ μ1) (h2 : μ2 = up2 μ1 p_LD (3 + 3 * r 0 11) (nI a)) (h3 : μ3 = up2 μ2 p_LD (4 + 3 * r 0 11) (nI b)) (h4 : μ4 = up2 μ3 p_LD (5 + 3 * r 0 11) (nI w)) : Bd S (addLn r a b w) μ4 := by
  obtain ⟨b1, b2, b3, b4, b5⟩ := h
  have hs2 := b1.line (x := nI a) (y := nI b) (z := nI w)
  rw [line_ok hr3 ha hb hab hw hl] at hs2
  have f4 : ∀ c, c ≠ p_LD → μ4 c = μ1 c := fun c hc => by rw [h4, u_ne hc, h3, u_ne hc, h2, u_ne hc]
  have eD : ∀ j, j ≠ 3 + 3 * r 0 11 → j ≠ 4 + 3 * r 0 11 → j ≠ 5 + 3 * r 0 11 → μ4 p_LD j = μ p_LD j := fun j j1 j2 j3 => by
    rw [h4, u_eq, d_ne j3, h3, u_eq, d_ne j2, h2, u_eq, d_ne j1, hf.cell (by decide)]
  refine ⟨hs2, hc.law (fun c hc => f4 c (fun e => hc (by rw [e]; decide))), b3.fr (fun c c1 c2 => by rw [f4 c (fun e => by rw [e] at c2; revert c2; decide)]; exact hf.la c c1 c2), fun k hk => ?_, fun l hl => ?_⟩
  · rw [addLn_0 (by decide)] at hk
    rw [addLn_x (by omega), eD k (by omega) (by omega) (by omega)]
    exact b4 k hk
  · rw [addLn_11] at hl
    rw [addLn_4, addLn_5, addLn_6]
    by_cases hln : l = r 0 11
    · rw [if_pos hln, if_pos hln, if_pos hln, hln]
      refine ⟨?_, ?_, ?_⟩
      · rw [h4, u_eq, d_ne (by omega), h3, u_eq, d_ne (by omega), h2, u_eq]; exact d_eq
      · rw [h4, u_eq, d_ne (by omega), h3, u_eq]; exact d_eq
      · rw [h4, u_eq]; exact d_eq
    · rw [if_neg hln, if_neg hln, if_neg hln, eD _ (by omega) (by omega) (by omega), eD _ (by omega) (by omega) (by omega), eD _ (by omega) (by omega) (by omega)]
      exact b5 l (by omega)
/-- what the places array holds of a draft -/
def Dd (T : St) (μ : Mm) : Prop := (∀ k, k < dft T 0 10 → μ p_LD k = nI (dft T 1 k)) ∧ ∀ l, l < dft T 0 11 → μ p_LD (3 + 3 * l) = nI (dft T 4 l) ∧ μ p_LD (4 + 3 * l) = nI (dft T 5 l) ∧ μ p_LD (5 + 3 * l) = nI (dft T 6 l)
theorem Dd.fr {T : St} {μ μ2 : Mm} (h : Dd T μ) (hf : μ2 p_LD = μ p_LD) : Dd T μ2 := by unfold Dd at *; rw [hf]; exact h
theorem Js.plc {T : St} {r : Rq} {m t : Nat} {μ μ3 : Mm} (hS : Snd (pcS T r m t)) (hc : cInv (pcS T r m t) μ3) (hG : Good T) (h12 : nRq T < 12) (ha : agr T r) (hA : LA T μ) (hD : Dd T μ) (hq : ∀ i, i < 9 → μ p_LQ (9 * nRq T + i) = μ p_LD (3 + i)) (hp : ∀ i, i < 3 → μ p_LP (3 * nRq T + i) = μ p_LD i) (f : ∀ c, c ≠ p_LT → c ≠ p_LC → μ3 c = μ c) (fT : μ3 p_LT = upd (μ p_LT) (nRq T) (nI (tkS T + t))) (fC : ∀ j, j ≠ 2 → j ≠ 4 → μ3 p_LC j = μ p_LC j) (f2 : μ3 p_LC 2 = nI (nRq T + 1)) (f4 : μ3 p_LC 4 = 0) : Js (pcS T r m t) μ3 := by
  have hd := gd_d hG
  have d10 := hd.1
  have d11 := hd.2.1
  have e0 : dft (pcS T r m t) 0 10 = 0 := by
    have : (pcS T r m t).2.2 (nRq T + 1) = T.2.2 (nRq T + 1) := pcS_ne (by omega)
    show (pcS T r m t).2.2 (nRq T + 1) 0 10 = 0
    rw [this]
    exact (hG.2.2.2.2.2.2.2.2.2.2 _ (by omega) (by omega)).1
  refine ⟨hS, hc, ⟨?_, ?_, f2, ?_, ?_⟩, ?_, fun i hi => ?_⟩
  · rw [fC 0 (by decide) (by decide)]; exact hA.1.1
  · rw [fC 1 (by decide) (by decide)]; exact hA.1.2.1
  · rw [fC 3 (by decide) (by decide)]; exact hA.1.2.2.2.1
  · rw [e0]; exact f4
  · unfold LAg
    rw [f p_LG (by decide) (by decide), f p_LL (by decide) (by decide)]
    exact hA.2.1
  · have hi : i < nRq T + 1 := hi
    rw [f p_LP (by decide) (by decide), f p_LQ (by decide) (by decide), fT]
    by_cases hin : i = nRq T
    · subst hin
      rw [pcS_n, fnR_13, fnR_x (x := 0) (y := 10) (by omega), fnR_x (x := 0) (y := 11) (by omega)]
      refine ⟨d_eq, fun k hk => ?_, fun l hl => ?_⟩
      · rw [ha 0 10 (by omega)] at hk
        rw [fnR_x (by omega), ha 1 k (by omega), hp k (by omega)]
        exact hD.1 k hk
      · rw [ha 0 11 (by omega)] at hl
        rw [fnR_x (x := 4) (by omega), fnR_x (x := 5) (by omega), fnR_x (x := 6) (by omega), ha 4 l (by omega), ha 5 l (by omega), ha 6 l (by omega)]
        obtain ⟨d1, d2, d3⟩ := hD.2 l hl
        have q1 := hq (3 * l) (by omega)
        have q2 := hq (3 * l + 1) (by omega)
        have q3 := hq (3 * l + 2) (by omega)
        rw [show 3 + (3 * l + 1) = 4 + 3 * l by omega] at q2
        rw [show 3 + (3 * l + 2) = 5 + 3 * l by omega] at q3
        rw [Nat.add_assoc (9 * nRq T) (3 * l) 1, Nat.add_assoc (9 * nRq T) (3 * l) 2, q1, q2, q3]
        exact ⟨d1, d2, d3⟩
    · rw [pcS_ne hin, d_ne hin]
      exact hA.2.2 i (by omega)
theorem d20 {y k : Nat} (hy : y < 2147483648) (hk : k < 32) : (1 : Int32) + irm (nI y >>> (nI k &&& 31)) (20 : Int32) = nI (1 + y / 2 ^ k % 20) := by
  have := Nat.div_le_self y (2 ^ k)
  rw [shr_nI hy hk, show (20 : Int32) = nI 20 from rfl, irm_nI (by omega) (by omega) (by omega)]
  exact nI_add 1 _
theorem d63 {y k : Nat} (hy : y < 2147483648) (hk : k < 32) : (1 : Int32) + irm (nI y >>> (nI k &&& 31)) (63 : Int32) = nI (1 + y / 2 ^ k % 63) := by
  have := Nat.div_le_self y (2 ^ k)
  rw [shr_nI hy hk, show (63 : Int32) = nI 63 from rfl, irm_nI (by omega) (by omega) (by omega)]
  exact nI_add 1 _
theorem nStop_fn {S : St} {r : Rq} {m t f : Nat} : nStop (fnR S r m t) f = nStop r f := rfl
theorem nSec_fn {S : St} {r : Rq} {m t f : Nat} : nSec (fnR S r m t) f = nSec r f := rfl
theorem cst_fn {S : St} {r : Rq} {m t : Nat} : cst (fnR S r m t) = cst r := rfl
theorem w_places {z : ScT} {S : St} {x y : Nat} {μ : Mm} {q : Mm → Prop} (hJ : Js S μ) (hx : x < 2147483648) (hy : y < 2147483648) (h6 : nRq S ≤ 6) (ht : tkS S + 40 ≤ 9000) (h : ∀ S2 μ2, Js S2 μ2 → nRq S2 ≤ nRq S + 1 → tkS S2 = tkS S → nNd S2 = nNd S → q μ2) : Wp_L_places z (nI x) (nI y) μ q := by
  have hS := hJ.1
  have hG := hS.1
  have hN := hG.1
  have hL := hG.L
  have rmx : ∀ {a n : Nat}, a < 2147483648 → 0 < n → n < 1000 → irm (nI a) (nI n) = nI (a % n) := fun ha h0 hn => irm_nI ha h0 (by omega)
  have dvx : ∀ (a n : Nat), a < 2147483648 → 0 < n → n < 1000 → nI a / nI n = nI (a / n) := fun a n ha h0 hn => pk_div ha h0 (by omega)
  unfold Wp_L_places
  intro K36 K116 K175 K221 K278 K340 K407 K437 K472 K549 K624 h36 h116 h175 h221 h278 h340 h407 h437 h472 h549 h624
  -- it was not placed
  have k407 : ∀ (T : St) (μ1 : Mm) (z5 md : Int32) (n : Nat), Js T μ1 → frS T z5 → nRq T = nRq S → tkS T = tkS S → nNd T = nNd S → n ≤ 50 → K407 (o_least T) z5 md n μ1 := by
    intro T μ1 z5 md n hJ1 hz e1 e2 e3 hn
    refine h407 _ _ _ _ _ ?_
    unfold F_L_places_407
    refine ⟨by omega, tt_least hJ1.1.1 hJ1.2.1 (fun μ2 a b => ?_)⟩
    exact ⟨fun hc => hc rfl, fun _ => w_frees (hJ1.go a b) hz (fun S2 μ3 hJ3 a1 a2 a3 => h S2 μ3 hJ3 (by omega) (a2.trans e2) (a3.trans e3))⟩
  -- it was placed
  have k549 : ∀ (T : St) (r : Rq) (md t n : Nat) (μ1 : Mm), Snd T → Js (pcS T r md t) μ1 → nRq T = nRq S → tkS T = tkS S → nNd T = nNd S → md ≤ 2 → 1 ≤ dft T 0 10 → plc T md = some r → n ≤ 20 → K549 (nI (dft T 0 10)) (nI (dft T 0 11)) (o_least T) (nI md) (nI (nRq T)) n μ1 := by
    intro T r md t n μ1 hT hJ1 e1 e2 e3 hmd h1 hp hn
    obtain ⟨p1, p2, p3, p4, p5⟩ := plc_pf hT hp
    obtain ⟨s1, s2⟩ := (plc_pf hT hp).runs
    have hG1 := hJ1.1.1
    have hi : nRq T < nRq (pcS T r md t) := Nat.lt_succ_self _
    have k624 : ∀ (m : Nat) (μ2 : Mm), Js (pcS T r md t) μ2 → m ≤ 60 → K624 m μ2 := by
      intro m μ2 hJ2 hm
      refine h624 _ _ ?_
      unfold F_L_places_624
      refine ⟨by omega, tt_least hG1 hJ2.2.1 (fun μ3 a b => ?_)⟩
      have hJ3 := hJ2.go a b
      have e0 : dft (pcS T r md t) 0 10 = 0 := by
        have hTG := hT.1
        have : (pcS T r md t).2.2 (nRq T + 1) = T.2.2 (nRq T + 1) := pcS_ne (by omega)
        show (pcS T r md t).2.2 (nRq T + 1) 0 10 = 0
        rw [this]
        exact (hTG.2.2.2.2.2.2.2.2.2.2 _ (by omega) (by omega)).1
      rw [o_least_none e0]
      exact ⟨fun hc => hc rfl, fun _ => h _ μ3 hJ3 (by show nRq T + 1 ≤ _; omega) e2 e3⟩
    refine h549 _ _ _ _ _ _ _ ?_
    unfold F_L_places_549
    refine ⟨by omega, T_told_ok (y := 1) hG1 hJ1.2.1 hi (by omega) (fun μ2 a b => ?_)⟩
    have hJ2 := hJ1.go a b
    rw [vT_1, pcS_n, fnR_12]
    refine ⟨fun hc => hc rfl, fun _ => T_told_ok (y := 3) hG1 hJ2.2.1 hi (by omega) (fun μ3 a b => ?_)⟩
    have hJ3 := hJ2.go a b
    rw [vT_3, pcS_n, fnR_x (by omega), p1 0 10 (by omega)]
    refine ⟨fun hc => hc rfl, fun _ => T_told_ok (y := 4) hG1 hJ3.2.1 hi (by omega) (fun μ4 a b => ?_)⟩
    have hJ4 := hJ3.go a b
    rw [vT_4, pcS_n, fnR_x (by omega), p1 0 11 (by omega)]
    refine ⟨fun hc => hc rfl, fun _ => T_told_ok (y := 5) hG1 hJ4.2.1 hi (by omega) (fun μ5 a b => ?_)⟩
    have hJ5 := hJ4.go a b
    rw [vT_5, pcS_n, nStop_fn, show (pcS T r md t).1.2.2.2 = T.1.2.2.2 from rfl, s1]
    refine ⟨fun hc => absurd rfl hc, fun _ => T_told_ok (y := 6) hG1 hJ5.2.1 hi (by omega) (fun μ6 a b => ?_)⟩
    have hJ6 := hJ5.go a b
    rw [vT_6, pcS_n, nSec_fn, show (pcS T r md t).1.2.2.2 = T.1.2.2.2 from rfl, s2]
    refine ⟨fun hc => absurd rfl hc, fun _ => ⟨fun _ => k624 _ _ hJ6 (by omega), fun hge => T_told_ok (y := 7) hG1 hJ6.2.1 hi (by omega) (fun μ7 a b => ?_)⟩⟩
    have hJ7 := hJ6.go a b
    rw [vT_7, pcS_n, cst_fn]
    rcases least_cases hT.1 (by omega) with ⟨-, -, e⟩ | ⟨w, hb, -, -, e⟩
    · rw [e] at hge; exact absurd (by decide : (-1 : Int32) < 0) hge
    · rw [e, p5 w hb]
      exact ⟨fun hc => hc rfl, fun _ => k624 _ _ hJ7 (by omega)⟩
  have k472 : ∀ (T : St) (r : Rq) (md t n : Nat) (μ1 : Mm), Snd T → Snd (pcS T r md t) → cInv (pcS T r md t) μ1 → LA T μ1 → Dd T μ1 → (∀ i, i < 9 → μ1 p_LQ (9 * nRq T + i) = μ1 p_LD (3 + i)) → nRq T = nRq S → tkS T = tkS S → nNd T = nNd S → md ≤ 2 → 1 ≤ dft T 0 10 → plc T md = some r → n ≤ 20 → K472 (nI (dft T 0 10)) (nI (dft T 0 11)) (o_least T) (nI md) (nI t) (nI (nRq T)) (nI 0) n μ1 := by
    intro T r md t n μ0 hT hT2 hc0 hA0 hD0 hq0 e1 e2 e3 hmd h1 hp hn
    have key := dn (P := fun j => ∀ μ1, cInv (pcS T r md t) μ1 → LA T μ1 → Dd T μ1 → (∀ i, i < 9 → μ1 p_LQ (9 * nRq T + i) = μ1 p_LD (3 + i)) → (∀ i, i < j → μ1 p_LP (3 * nRq T + i) = μ1 p_LD i) → K472 (nI (dft T 0 10)) (nI (dft T 0 11)) (o_least T) (nI md) (nI t) (nI (nRq T)) (nI j) n μ1) (n := 3) ?_ ?_
    · exact key μ0 hc0 hA0 hD0 hq0 (fun i hi => absurd hi (Nat.not_lt_zero i))
    · intro μ1 hc hA hD hq hpp
      refine h472 _ _ _ _ _ _ _ _ _ ?_
      unfold F_L_places_472
      refine ⟨by omega, fun _ => ?_, fun hc => absurd (le_nI (n := 3) (Nat.le_refl _) (by omega)) hc⟩
      have c2 : μ1 p_LC ((2 : Int32)).toNatClampNeg = nI (nRq T) := by rw [clT2]; exact hA.1.2.2.1
      have c3 : μ1 p_LC ((3 : Int32)).toNatClampNeg = nI (tkS T) := by rw [show ((3 : Int32)).toNatClampNeg = 3 from rfl]; exact hA.1.2.2.2.1
      rw [c2, c3, clT (show nRq T < 2147483648 by omega), nI_add]
      refine ⟨inN (k := 2) (by omega) (by omega), inN (k := 3) (by omega) (by omega), inN (by omega) (by omega), fun μ2 hμ2 => ?_⟩
      have c22 : μ2 p_LC ((2 : Int32)).toNatClampNeg = nI (nRq T) := by rw [hμ2, u_ne (by decide)]; exact c2
      rw [c22, i1]
      refine ⟨inN (k := 2) (by omega) (by omega), inN (k := 2) (by omega) (by omega), fun μ3 hμ3 => ⟨inN (k := 4) (by omega) (by omega), fun μ4 hμ4 => ?_⟩⟩
      have e42 : μ4 p_LC ((2 : Int32)).toNatClampNeg = nI (nRq T + 1) := by
        rw [hμ4, u_eq, show ((4 : Int32)).toNatClampNeg = 4 from rfl, clT2, d_ne (by decide), hμ3, u_eq, clT2]; exact d_eq
      rw [e42, one_sub]
      have f4 : ∀ c, c ≠ p_LT → c ≠ p_LC → μ4 c = μ1 c := fun c h1 h2 => by rw [hμ4, u_ne h2, hμ3, u_ne h2, hμ2, u_ne h1]
      have hJ4 : Js (pcS T r md t) μ4 := by
        refine Js.plc hT2 (hc.law (fun c hc => f4 c (fun e => hc (by rw [e]; decide)) (fun e => hc (by rw [e]; decide)))) hT.1 (by omega) (plc_pf hT hp).1 hA hD hq hpp f4 ?_ (fun j j2 j4 => ?_) ?_ ?_
        · rw [hμ4, u_ne (by decide), hμ3, u_ne (by decide), hμ2, u_eq]
        · rw [hμ4, u_eq, show ((4 : Int32)).toNatClampNeg = 4 from rfl, d_ne j4, hμ3, u_eq, clT2, d_ne j2, hμ2, u_ne (by decide)]
        · rw [← e42, clT2]
        · rw [hμ4, u_eq]; exact d_eq
      have last : K549 (nI (dft T 0 10)) (nI (dft T 0 11)) (o_least T) (nI md) (nI (nRq T)) n μ4 := k549 T r md t n μ4 hT hJ4 e1 e2 e3 hmd h1 hp hn
      refine ⟨inN (k := 2) (by omega) (by omega), fun hc => hc rfl, fun _ => ⟨fun _ => last, fun hlt => ⟨fun hne => ?_, fun _ => last⟩⟩⟩
      have hb : best T = none := by
        rcases least_cases hT.1 (by omega) with ⟨hb, -, -⟩ | ⟨w, -, -, hw, e⟩
        · exact hb
        · rw [e] at hlt; exact absurd (le_nI (n := 0) (by omega) (by omega)) hlt
      unfold plc at hp
      rw [hb] at hp
      dsimp only at hp
      split at hp
      · rename_i hm; exact hne (by rw [hm]; rfl)
      · cases hp
    · intro j hj hnx μ1 hc hA hD hq hpp
      refine h472 _ _ _ _ _ _ _ _ _ ?_
      unfold F_L_places_472
      have c2 : μ1 p_LC ((2 : Int32)).toNatClampNeg = nI (nRq T) := by rw [clT2]; exact hA.1.2.2.1
      rw [c2, nI_pk3, nI_add, clT (show 3 * nRq T + j < 2147483648 by omega), clT (show j < 2147483648 by omega), i1]
      refine ⟨by omega, fun hc => absurd hc (not_le_nI (n := 3) hj (by omega)), fun _ => ⟨inN (k := 2) (by omega) (by omega), inN (by omega) (by omega), inN (by omega) (by omega), fun μ2 hμ2 => ?_⟩⟩
      have f2 : ∀ c, c ≠ p_LP → μ2 c = μ1 c := fun c hc => by rw [hμ2]; exact u_ne hc
      have fP : ∀ i, i ≠ 3 * nRq T + j → μ2 p_LP i = μ1 p_LP i := fun i hi => by rw [hμ2, u_eq]; exact d_ne hi
      refine hnx μ2 (hc.law (fun c hc => f2 c (fun e => hc (by rw [e]; decide)))) ⟨?_, ?_, fun i hi => ?_⟩ (hD.fr (f2 _ (by decide))) (fun i hi => ?_) (fun i hi => ?_)
      · unfold LAc; rw [f2 _ (by decide)]; exact hA.1
      · unfold LAg; rw [f2 _ (by decide), f2 _ (by decide)]; exact hA.2.1
      · obtain ⟨t1, t2, t3⟩ := hA.2.2 i hi
        have h10 := (hT.1.d (hT.1.i hi)).1
        refine ⟨by rw [f2 _ (by decide)]; exact t1, fun k hk => by rw [fP _ (by omega)]; exact t2 k hk, fun l hl => ?_⟩
        rw [f2 _ (by decide)]; exact t3 l hl
      · rw [f2 _ (by decide), f2 _ (by decide)]; exact hq i hi
      · rw [f2 p_LD (by decide)]
        by_cases hij : i = j
        · rw [hij, hμ2, u_eq]; exact d_eq
        · rw [fP _ (by omega)]; exact hpp i (by omega)
  have k437 : ∀ (T : St) (r : Rq) (md t n : Nat) (μ1 : Mm), Snd T → Snd (pcS T r md t) → cInv (pcS T r md t) μ1 → LA T μ1 → Dd T μ1 → nRq T = nRq S → tkS T = tkS S → nNd T = nNd S → md ≤ 2 → 1 ≤ dft T 0 10 → plc T md = some r → n ≤ 20 → K437 (nI (dft T 0 10)) (nI (dft T 0 11)) (o_least T) (nI md) (nI t) (nI (nRq T)) (nI 0) n μ1 := by
    intro T r md t n μ0 hT hT2 hc0 hA0 hD0 e1 e2 e3 hmd h1 hp hn
    have key := dn (P := fun j => ∀ μ1, cInv (pcS T r md t) μ1 → LA T μ1 → Dd T μ1 → (∀ i, i < j → μ1 p_LQ (9 * nRq T + i) = μ1 p_LD (3 + i)) → K437 (nI (dft T 0 10)) (nI (dft T 0 11)) (o_least T) (nI md) (nI t) (nI (nRq T)) (nI j) n μ1) (n := 9) ?_ ?_
    · exact key μ0 hc0 hA0 hD0 (fun i hi => absurd hi (Nat.not_lt_zero i))
    · intro μ1 hc hA hD hq
      refine h437 _ _ _ _ _ _ _ _ _ ?_
      unfold F_L_places_437
      exact ⟨by omega, fun _ => k472 T r md t n μ1 hT hT2 hc hA hD hq e1 e2 e3 hmd h1 hp hn, fun hc => absurd (le_nI (n := 9) (Nat.le_refl _) (by omega)) hc⟩
    · intro j hj hnx μ1 hc hA hD hq
      refine h437 _ _ _ _ _ _ _ _ _ ?_
      unfold F_L_places_437
      have c2 : μ1 p_LC ((2 : Int32)).toNatClampNeg = nI (nRq T) := by rw [clT2]; exact hA.1.2.2.1
      have e3j : (3 : Int32) + nI j = nI (3 + j) := nI_add 3 j
      rw [c2, nI_pk9, nI_add, e3j, clT (show 9 * nRq T + j < 2147483648 by omega), clT (show 3 + j < 2147483648 by omega), i1]
      refine ⟨by omega, fun hc => absurd hc (not_le_nI (n := 9) hj (by omega)), fun _ => ⟨inN (k := 2) (by omega) (by omega), inN (by omega) (by omega), inN (by omega) (by omega), fun μ2 hμ2 => ?_⟩⟩
      have f2 : ∀ c, c ≠ p_LQ → μ2 c = μ1 c := fun c hc => by rw [hμ2]; exact u_ne hc
      have fP : ∀ i, i ≠ 9 * nRq T + j → μ2 p_LQ i = μ1 p_LQ i := fun i hi => by rw [hμ2, u_eq]; exact d_ne hi
      refine hnx μ2 (hc.law (fun c hc => f2 c (fun e => hc (by rw [e]; decide)))) ⟨?_, ?_, fun i hi => ?_⟩ (hD.fr (f2 _ (by decide))) (fun i hi => ?_)
      · unfold LAc; rw [f2 _ (by decide)]; exact hA.1
      · unfold LAg; rw [f2 _ (by decide), f2 _ (by decide)]; exact hA.2.1
      · obtain ⟨t1, t2, t3⟩ := hA.2.2 i hi
        have h11 := (hT.1.d (hT.1.i hi)).2.1
        refine ⟨by rw [f2 _ (by decide)]; exact t1, fun k hk => by rw [f2 _ (by decide)]; exact t2 k hk, fun l hl => ?_⟩
        rw [fP _ (by omega), fP _ (by omega), fP _ (by omega)]; exact t3 l hl
      · rw [f2 p_LD (by decide)]
        by_cases hij : i = j
        · rw [hij, hμ2, u_eq]; exact d_eq
        · rw [fP _ (by omega)]; exact hq i (by omega)
  have k340 : ∀ (T : St) (z5 : Int32) (md t n : Nat) (μ1 : Mm), Js T μ1 → Dd T μ1 → frS T z5 → nRq T = nRq S → tkS T = tkS S → nNd T = nNd S → md ≤ 2 → 1 ≤ t → t ≤ 40 → 1 ≤ dft T 0 10 → n ≤ 19 → K340 (nI (dft T 0 10)) (nI (dft T 0 11)) (o_least T) z5 (nI md) (nI t) n μ1 := by
    intro T z5 md t n μ1 hJ1 hD hz e1 e2 e3 hmd ht1 ht40 h1 hn
    have hT := hJ1.1
    refine h340 _ _ _ _ _ _ _ _ ?_
    unfold F_L_places_340
    refine ⟨by omega, A_place hT.1 hJ1.2.1 ?_⟩
    have hx1 : rg 0 2 (nI md) = true := rg_t (a := 0) (b := 2) (by omega) hmd (by decide)
    have hx2 : rg 1 100 (nI t) = true := rg_t (a := 1) (b := 100) ht1 (by omega) (by decide)
    have tm : toN (nI md) = md := toN_nI (by omega)
    have tt_ : toN (nI t) = t := toN_nI (by omega)
    have h12 : ¬ (nRq T = 12 ∨ dft T 0 10 = 0) := by omega
    cases hp : plc T md with
    | some r =>
      have e : o_place T (nI md) (nI t) = (0, nI (nRq T), pcS T r md t) := by
        unfold o_place
        rw [hx1, hx2, Bool.and_self, if_pos rfl, if_neg h12, tm, tt_, hp]
      rw [e]
      intro μ2 a b
      have a : cInv (pcS T r md t) μ2 := a
      have hT2 : Snd (pcS T r md t) := hT.place hmd (by omega) h1 ht1 (by omega) hp
      have hA := hJ1.2.2.fr b.la
      have hD2 := hD.fr (b.cell (by decide))
      have c2 : μ2 p_LC ((2 : Int32)).toNatClampNeg = nI (nRq T) := by rw [clT2]; exact hA.1.2.2.1
      refine ⟨fun _ => ⟨inN (k := 2) (by omega) (by omega), fun _ => ⟨fun _ => ?_, fun hc => absurd hc (nm1 (show nRq T < 2147483648 by omega))⟩, fun hc => ?_⟩, fun hc => absurd rfl hc⟩
      · exact k437 T r md t _ μ2 hT hT2 a hA hD2 e1 e2 e3 hmd h1 hp (by omega)
      · exfalso
        rw [c2] at hc
        have := (nI_eq (b := 12) (by omega) (by omega)).1 hc
        omega
    | none =>
      have e : o_place T (nI md) (nI t) = (0, -1, T) := by
        unfold o_place
        rw [hx1, hx2, Bool.and_self, if_pos rfl, if_neg h12, tm, tt_, hp]
      rw [e]
      intro μ2 a b
      have hJ2 := hJ1.go a b
      have c2 : μ2 p_LC ((2 : Int32)).toNatClampNeg = nI (nRq T) := by rw [clT2]; exact hJ2.2.2.1.2.2.1
      have go : K407 (o_least T) z5 (nI md) (n + 1) μ2 := k407 T μ2 z5 (nI md) (n + 1) hJ2 hz e1 e2 e3 (by omega)
      refine ⟨fun _ => ⟨inN (k := 2) (by omega) (by omega), fun _ => ⟨fun hc => absurd rfl hc, fun _ => ⟨fun _ => go, fun hge => ⟨fun hne => ?_, fun _ => go⟩⟩⟩, fun hc => ?_⟩, fun hc => absurd rfl hc⟩
      · rcases least_cases hT.1 (by omega) with ⟨-, -, e⟩ | ⟨w, hb, -, -, -⟩
        · rw [e] at hge; exact hge (by decide)
        · unfold plc at hp
          rw [hb] at hp
          dsimp only at hp
          by_cases hm : md = 2
          · exact hne (by rw [hm]; rfl)
          · rw [if_neg hm] at hp; cases hp
      · exfalso
        rw [c2] at hc
        have := (nI_eq (b := 12) (by omega) (by omega)).1 hc
        omega
  have k278 : ∀ (r : Rq) (n : Nat) (μ1 : Mm), Bd S r μ1 → 1 ≤ r 0 10 → r 0 10 ≤ 3 → n ≤ 19 → K278 (nI x) (nI y) (nI (r 0 10)) (nI (r 0 11)) n μ1 := by
    intro r n μ1 hB h1 hr3 hn
    refine h278 _ _ _ _ _ _ ?_
    unfold F_L_places_278
    refine ⟨by omega, inN (k := 4) (by omega) (by omega), fun μ2 hμ2 => ?_⟩
    obtain ⟨b1, b2, b3, b4, b5⟩ := hB
    have f2 : ∀ c, c ≠ p_LC → μ2 c = μ1 c := fun c hc => by rw [hμ2]; exact u_ne hc
    have fC : ∀ j, j ≠ 4 → μ2 p_LC j = μ1 p_LC j := fun j hj => by rw [hμ2, u_eq]; exact d_ne hj
    have ed : dft (updR S (nRq S) r) = r := dft_up
    have hJ2 : Js (updR S (nRq S) r) μ2 := by
      refine ⟨b1, b2.law (fun c hc => f2 c (fun e => hc (by rw [e]; decide))), ⟨?_, ?_, ?_, ?_, ?_⟩, ?_, fun i hi => ?_⟩
      · rw [fC 0 (by decide)]; exact b3.1.1
      · rw [fC 1 (by decide)]; exact b3.1.2.1
      · rw [fC 2 (by decide)]; exact b3.1.2.2.1
      · rw [fC 3 (by decide)]; exact b3.1.2.2.2
      · rw [ed, hμ2, u_eq]; exact d_eq
      · unfold LAg; rw [f2 _ (by decide), f2 _ (by decide)]; exact b3.2.1
      · have hi : i < nRq S := hi
        rw [f2 p_LT (by decide), f2 p_LP (by decide), f2 p_LQ (by decide), updR_ne (by omega)]
        exact b3.2.2 i hi
    have hD2 : Dd (updR S (nRq S) r) μ2 := by
      unfold Dd
      rw [ed, f2 _ (by decide)]; exact ⟨b4, b5⟩
    have hg := b1.1
    refine tt_least hg hJ2.2.1 (fun μ3 a b => ?_)
    have b : Fr μ2 μ3 := b
    have hJ3 := hJ2.go a b
    have hD3 := hD2.fr (b.cell (by decide))
    refine tt_freeing hg hJ3.2.1 (fun μ4 z5 a b hz => ?_)
    have b : Fr μ3 μ4 := b
    have hJ4 := hJ3.go a b
    have hD4 := hD3.fr (b.cell (by decide))
    intro v13 hv13 v14 hv14
    have e200 : nI x / (200 : Int32) = nI (x / 200) := dvx x 200 hx (by omega) (by omega)
    have e7 : nI y / (7 : Int32) = nI (y / 7) := dvx y 7 hy (by omega) (by omega)
    rw [e200, show (3 : Int32) = nI 3 from rfl, rmx (by omega) (by omega) (by omega)] at hv13
    rw [e7, show (40 : Int32) = nI 40 from rfl, rmx (by omega) (by omega) (by omega)] at hv14
    have hv14 : v14 = nI (1 + y / 7 % 40) := hv14.trans (nI_add 1 _)
    have hmd : x / 200 % 3 < 3 := Nat.mod_lt _ (by omega)
    have htt : y / 7 % 40 < 40 := Nat.mod_lt _ (by omega)
    generalize x / 200 % 3 = md at hv13 hmd
    generalize y / 7 % 40 = t at hv14 htt
    subst hv13 hv14
    refine tt_leastAnew hg hJ4.2.1 (fun μ5 a b => ?_)
    have b : Fr μ4 μ5 := b
    have hJ5 := hJ4.go a b
    have hD5 := hD4.fr (b.cell (by decide))
    have go : K340 (nI (r 0 10)) (nI (r 0 11)) (o_least (updR S (nRq S) r)) z5 (nI md) (nI (1 + t)) n μ5 := by
      have := k340 (updR S (nRq S) r) z5 md (1 + t) n μ5 hJ5 hD5 hz rfl rfl rfl (by omega) (by omega) (by omega) (by rw [ed]; exact h1) hn
      rw [ed] at this
      exact this
    refine ⟨fun hc => hc rfl, fun _ => ⟨fun _ => go, fun hge => ⟨fun hne => ?_, fun _ => go⟩⟩⟩
    rcases least_cases hg (by rw [ed]; omega) with ⟨-, -, e⟩ | ⟨w, -, hl, -, -⟩
    · rw [e] at hge; exact hge (by decide)
    · unfold frS at hz
      rw [if_pos (Or.inr (by cases hL : LSt (updR S (nRq S) r) with | nil => exact absurd hL hl | cons a b => rfl))] at hz
      exact hne hz
  -- lines
  have k116 : ∀ (m : Nat) (r0 : Rq) (n0 : Nat) (μ0 : Mm), 1 ≤ m → m ≤ 3 → Bd S r0 μ0 → r0 0 10 = m → r0 0 11 = 0 → n0 ≤ 10 → K116 (nI x) (nI y) (nI m) (nI 0) (nI 0) n0 μ0 := by
    intro m r0 n0 μ0 hm1 hm3 hB0 hr0 hl0 hn0
    have key := dn (P := fun c => ∀ (r : Rq) (n : Nat) (μ1 : Mm), Bd S r μ1 → r 0 10 = m → r 0 11 ≤ c → (∀ l, l < r 0 11 → ∃ d, d < c ∧ r 4 l = d % m ∧ r 5 l = (d + 1) % m) → n ≤ 10 + c → K116 (nI x) (nI y) (nI m) (nI (r 0 11)) (nI c) n μ1) (n := 3) ?_ ?_
    · have := key r0 n0 μ0 hB0 hr0 (by omega) (fun l hl => by omega) (by omega)
      rw [hl0] at this
      exact this
    · intro r n μ1 hB hrm hrl hex hn
      refine h116 _ _ _ _ _ _ _ ?_
      unfold F_L_places_116
      refine ⟨by omega, fun _ => ?_, fun hc => absurd (le_nI (n := 3) (Nat.le_refl _) (by omega)) hc⟩
      rw [← hrm]
      exact k278 r n μ1 hB (by omega) (by omega) (by omega)
    · intro c hc hnx r n μ1 hB hrm hrl hex hn
      refine h116 _ _ _ _ _ _ _ ?_
      unfold F_L_places_116
      refine ⟨by omega, fun hcc => absurd hcc (not_le_nI (n := 3) hc (by omega)), fun _ => ⟨fun _ => ?_, fun hm2 => ?_⟩⟩
      · rw [← hrm]
        exact k278 r n μ1 hB (by omega) (by omega) (by omega)
      · have hm2 : 2 ≤ m := Decidable.byContradiction fun hcc => hm2 (le_nI (k := 1) (by omega) (by omega))
        have hmz : ¬ nI m = 0 := fun e => by have := (nI_eq0 (by omega)).1 e; omega
        refine ⟨hmz, fun v12 hv12 => ⟨hmz, fun v13 hv13 v14 hv14 => ?_⟩⟩
        rw [rmx (by omega) (by omega) (by omega)] at hv12
        rw [i1, rmx (by omega) (by omega) (by omega)] at hv13
        have e25 : (2 : Int32) * nI c + (5 : Int32) = nI (2 * c + 5) := by rw [show (2 : Int32) = nI 2 from rfl, pk_mul]; exact nI_add _ 5
        rw [e25, d20 hy (by omega)] at hv14
        have hw : y / 2 ^ (2 * c + 5) % 20 < 20 := Nat.mod_lt _ (by omega)
        generalize y / 2 ^ (2 * c + 5) % 20 = w at hv14 hw
        subst hv12 hv13 hv14
        have ha : c % m < m := Nat.mod_lt _ (by omega)
        have hb : (c + 1) % m < m := Nat.mod_lt _ (by omega)
        have hab : c % m ≠ (c + 1) % m := by
          rcases (by omega : m = 2 ∨ m = 3) with e | e <;> subst e <;> omega
        -- both cases of what is asked
        have k175 : ∀ (y0 : Int32), (y0 = 0 → ¬ (m = 2 ∧ 0 < r 0 11)) → (y0 ≠ 0 → m = 2 ∧ 0 < r 0 11) → K175 (nI x) (nI y) (nI m) (nI (r 0 11)) (nI c) (nI (c % m)) (nI ((c + 1) % m)) (nI (1 + w)) y0 n μ1 := by
          intro y0 hy0 hy1
          refine h175 _ _ _ _ _ _ _ _ _ _ _ ?_
          unfold F_L_places_175
          rw [i1]
          refine ⟨by omega, fun _ => hnx r n μ1 hB hrm (by omega) (fun l hl => by obtain ⟨d, d1, d2⟩ := hex l hl; exact ⟨d, by omega, d2⟩) (by omega), fun _ => A_line hB.1.1 hB.2.1 ?_⟩
          by_cases hz : y0 = 0
          · have hnd : lnd r (c % m) ((c + 1) % m) = false := by
              cases hl : lnd r (c % m) ((c + 1) % m) with
              | false => rfl
              | true =>
                exfalso
                unfold lnd at hl
                rw [an_iff] at hl
                obtain ⟨l, hl1, hl2⟩ := hl
                rw [Bool.and_eq_true, isL_iff, isL_iff] at hl2
                obtain ⟨d, d1, d2, d3⟩ := hex l hl1
                rw [d2, d3] at hl2
                have := hy0 hz
                have hm : m = 3 := by omega
                subst hm
                omega
            rw [line_ok (by omega) (by omega) (by omega) hab (by omega) hnd]
            intro μ2 a b
            have a : cInv (updR S (nRq S) (addLn r (c % m) ((c + 1) % m) (1 + w))) μ2 := a
            refine ⟨fun _ => ⟨fun _ => ?_, fun hc => absurd hz hc⟩, fun hc => absurd rfl hc⟩
            refine h221 _ _ _ _ _ _ _ _ _ _ _ _ _ ?_
            unfold F_L_places_221
            have e3 : (3 : Int32) + (3 : Int32) * nI (r 0 11) = nI (3 + 3 * r 0 11) := by rw [nI_pk3]; exact nI_add 3 _
            have e4 : (4 : Int32) + (3 : Int32) * nI (r 0 11) = nI (4 + 3 * r 0 11) := by rw [nI_pk3]; exact nI_add 4 _
            have e5 : (5 : Int32) + (3 : Int32) * nI (r 0 11) = nI (5 + 3 * r 0 11) := by rw [nI_pk3]; exact nI_add 5 _
            rw [e3, e4, e5, clT (show 3 + 3 * r 0 11 < 2147483648 by omega), clT (show 4 + 3 * r 0 11 < 2147483648 by omega), clT (show 5 + 3 * r 0 11 < 2147483648 by omega), i1, i1]
            refine ⟨by omega, fun hc => hc rfl, fun _ => ⟨fun hc => absurd hc (nI_pos (show r 0 11 < 2147483648 by omega)), fun _ => ⟨inN (by omega) (by omega), fun μ3 h3 => ⟨inN (by omega) (by omega), fun μ4 h4 => ⟨inN (by omega) (by omega), fun μ5 h5 => ?_⟩⟩⟩⟩⟩
            have hB5 := hB.line (by omega) (by omega) (by omega) hab (by omega) hnd a b h3 h4 h5
            have := hnx (addLn r (c % m) ((c + 1) % m) (1 + w)) (n + 1) μ5 hB5 (by rw [addLn_0 (by decide)]; exact hrm) (by rw [addLn_11]; omega) (fun l hl => by
              rw [addLn_11] at hl
              rw [addLn_4, addLn_5]
              by_cases hln : l = r 0 11
              · rw [if_pos hln, if_pos hln]; exact ⟨c, by omega, rfl, rfl⟩
              · rw [if_neg hln, if_neg hln]
                obtain ⟨d, d1, d2⟩ := hex l (by omega)
                exact ⟨d, by omega, d2⟩) (by omega)
            rw [addLn_11] at this
            exact this
          · obtain ⟨hm, hl0⟩ := hy1 hz
            have hnd : lnd r (c % m) ((c + 1) % m) = true := by
              unfold lnd
              rw [an_iff]
              obtain ⟨d, d1, d2, d3⟩ := hex 0 hl0
              refine ⟨0, hl0, ?_⟩
              rw [Bool.and_eq_true, isL_iff, isL_iff, d2, d3]
              subst hm
              omega
            rw [line_no (by omega) (by omega) (by omega) hab (by omega) hnd]
            intro μ2 a b
            have hB2 := hB.go a b
            refine ⟨fun hc => (by cases hc), fun _ => ⟨fun hc => (by cases hc), fun hc => (by cases hc), fun _ => ⟨fun hc => absurd hc hz, fun _ => ?_⟩⟩⟩
            refine h221 _ _ _ _ _ _ _ _ _ _ _ _ _ ?_
            unfold F_L_places_221
            rw [i1]
            refine ⟨by omega, fun hc => hc rfl, fun _ => ⟨fun _ => ?_, fun hc => absurd (by decide : (-70008 : Int32) < 0) hc⟩⟩
            exact hnx r (n + 1) μ2 hB2 hrm (by omega) (fun l hl => by obtain ⟨d, d1, d2⟩ := hex l hl; exact ⟨d, by omega, d2⟩) (by omega)
        refine ⟨fun hne => k175 0 (fun _ e => hne (by rw [e.1]; rfl)) (fun hc => absurd rfl hc), fun he => ⟨fun hz => k175 0 (fun _ e => absurd hz (not_le_nI (k := 0) e.2 (by omega))) (fun hc => absurd rfl hc), fun hnz => k175 1 (fun hc => absurd hc (by decide)) (fun _ => ⟨(nI_eq (b := 2) (by omega) (by omega)).1 he, ?_⟩)⟩⟩
        exact Decidable.byContradiction fun hc => hnz (le_nI (k := 0) (by omega) (by omega))
  -- parts
  have k36 : ∀ (m : Nat) (r0 : Rq) (μ0 : Mm), 1 ≤ m → m ≤ 3 → Bd S r0 μ0 → r0 0 10 = 0 → r0 0 11 = 0 → K36 (nI x) (nI y) (nI m) (nI 0) 2 μ0 := by
    intro m r0 μ0 hm1 hm3 hB0 hr0 hl0
    have key := dn (P := fun k => ∀ (r : Rq) (n : Nat) (μ1 : Mm), Bd S r μ1 → r 0 10 = k → r 0 11 = 0 → n ≤ 2 + k → K36 (nI x) (nI y) (nI m) (nI k) n μ1) (n := m) ?_ ?_
    · exact key r0 2 μ0 hB0 hr0 hl0 (by omega)
    · intro r n μ1 hB hrk hrl hn
      refine h36 _ _ _ _ _ _ ?_
      unfold F_L_places_36
      exact ⟨by omega, fun _ => k116 m r n μ1 hm1 hm3 hB hrk hrl (by omega), fun hc => absurd (le_nI (Nat.le_refl _) (by omega)) hc⟩
    · intro k hk hnx r n μ1 hB hrk hrl hn
      refine h36 _ _ _ _ _ _ ?_
      unfold F_L_places_36
      have e3 : (3 : Int32) * nI k = nI (3 * k) := nI_pk3 k
      have e4 : (4 : Int32) * nI k = nI (4 * k) := by rw [show (4 : Int32) = nI 4 from rfl, pk_mul]
      have ex3 : nI x / (3 : Int32) = nI (x / 3) := dvx x 3 hx (by omega) (by omega)
      have hc6 : x / 3 % 6 < 6 := Nat.mod_lt _ (by omega)
      have hv1 : y / 2 ^ (3 * k) % 20 < 20 := Nat.mod_lt _ (by omega)
      have hv2 : y / 2 ^ (4 * k) % 63 < 63 := Nat.mod_lt _ (by omega)
      rw [e3, e4, ex3, d20 hy (by omega), d63 hy (by omega), show (6 : Int32) = nI 6 from rfl, rmx (by omega) (by omega) (by omega), m_1 _ (by omega), nx_or, clT (show k < 2147483648 by omega), i1]
      generalize x / 3 % 6 = cc at hc6 ⊢
      generalize y / 2 ^ (3 * k) % 20 = v1 at hv1 ⊢
      generalize y / 2 ^ (4 * k) % 63 = v2 at hv2 ⊢
      have hs : 1 ≤ (1 + v2 ||| 2 ^ cc) ∧ (1 + v2 ||| 2 ^ cc) ≤ 63 := by
        have h1 : 1 + v2 ≤ (1 + v2 ||| 2 ^ cc) := Nat.left_le_or
        have h2 : (1 + v2 ||| 2 ^ cc) < 2 ^ 6 := Nat.or_lt_two_pow (by omega) (Nat.pow_lt_pow_right (by decide) hc6)
        omega
      refine ⟨by omega, fun hc => absurd hc (not_le_nI hk (by omega)), fun _ => ⟨inN (by omega) (by omega), fun μ2 hμ2 => ⟨inN (by omega) (by omega), ?_⟩⟩⟩
      have ev : μ2 p_LD k = nI (1 + v1) := by rw [hμ2, u_eq]; exact d_eq
      rw [ev]
      have hc2 : cInv (updR S (nRq S) r) μ2 := hB.2.1.law (fun c hc => by rw [hμ2]; exact u_ne (fun e => hc (by rw [e]; decide)))
      refine A_part hB.1.1 hc2 ?_
      rw [part_ans (by omega) hs (by omega)]
      intro μ3 a b
      have a : cInv (updR S (nRq S) (addP r (1 + v1) (1 + v2 ||| 2 ^ cc))) μ3 := a
      have hB3 := hB.part (by omega) hs (by omega) hrl (by rw [hrk]; exact hμ2) a b
      refine ⟨fun _ => ⟨fun hc => absurd (by rw [hrk] : nI (r 0 10) = nI k) hc, fun _ => ?_⟩, fun hc => absurd rfl hc⟩
      exact hnx _ _ μ3 hB3 (by rw [addP_10]; omega) (by rw [addP_0 (by decide)]; exact hrl) (by omega)
  unfold F_L_places_e
  refine tt_clear hG hJ.2.1 (fun μ2 a b => ?_)
  have b : Fr μ μ2 := b
  have hA := hJ.2.2.fr b.la
  have c4 : μ2 p_LC ((4 : Int32)).toNatClampNeg = nI (dft S 0 10) := by rw [show ((4 : Int32)).toNatClampNeg = 4 from rfl]; exact hA.1.2.2.2.2
  rw [c4]
  refine ⟨inN (k := 4) (by omega) (by omega), fun hc => hc rfl, fun _ v8 hv8 => ?_⟩
  rw [show (3 : Int32) = nI 3 from rfl, rmx hx (by omega) (by omega)] at hv8
  have hv8 : v8 = nI (1 + x % 3) := hv8.trans (nI_add 1 _)
  have hm : x % 3 < 3 := Nat.mod_lt _ (by omega)
  generalize x % 3 = m at hv8 hm
  subst hv8
  have fz : ∀ c, c ≠ p_LD → zrm μ2 p_LD c = μ2 c := fun c hc => if_neg hc
  have hB : Bd S (clrR (dft S)) (zrm μ2 p_LD) := by
    refine ⟨hS.clear, cInv.law (S := clrS S) a (fun c hc => fz c (fun e => hc (by rw [e]; decide))), hA.lp.fr (fun c c1 c2 => fz c (fun e => by rw [e] at c2; revert c2; decide)), fun k hk => ?_, fun l hl => ?_⟩
    · rw [clrR_10] at hk; exact absurd hk (Nat.not_lt_zero k)
    · rw [clrR_11] at hl; exact absurd hl (Nat.not_lt_zero l)
  exact k36 (1 + m) _ _ (by omega) (by omega) hB clrR_10 clrR_11
