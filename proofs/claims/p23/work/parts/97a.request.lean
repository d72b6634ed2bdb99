/-! each request is as the law wants it -/
theorem vT_1 {S : St} {i : Nat} : vTl S i (nI 1) = nI (S.2.2 i 0 12) := by unfold vTl; rw [if_neg (by decide), if_pos (by decide)]
theorem vT_0 {S : St} {i : Nat} : vTl S i (nI 0) = (if S.2.2 i 0 14 = 0 then 0 else 1) := by unfold vTl; rw [if_pos (by decide)]
theorem vT_2 {S : St} {i : Nat} : vTl S i (nI 2) = nI (S.2.2 i 0 13) := by unfold vTl; rw [if_neg (by decide), if_neg (by decide), if_pos (by decide)]
theorem vT_3 {S : St} {i : Nat} : vTl S i (nI 3) = nI (S.2.2 i 0 10) := by unfold vTl; rw [if_neg (by decide), if_neg (by decide), if_neg (by decide), if_pos (by decide)]
theorem vT_4 {S : St} {i : Nat} : vTl S i (nI 4) = nI (S.2.2 i 0 11) := by unfold vTl; rw [if_neg (by decide), if_neg (by decide), if_neg (by decide), if_neg (by decide), if_pos (by decide)]
theorem vT_5 {S : St} {i : Nat} : vTl S i (nI 5) = nI (nStop (S.2.2 i) S.1.2.2.2) := by unfold vTl; rw [if_neg (by decide), if_neg (by decide), if_neg (by decide), if_neg (by decide), if_neg (by decide), if_pos (by decide)]
theorem vT_6 {S : St} {i : Nat} : vTl S i (nI 6) = nI (nSec (S.2.2 i) S.1.2.2.2) := by unfold vTl; rw [if_neg (by decide), if_neg (by decide), if_neg (by decide), if_neg (by decide), if_neg (by decide), if_neg (by decide), if_pos (by decide)]
theorem vT_7 {S : St} {i : Nat} : vTl S i (nI 7) = nI (cst (S.2.2 i)) := by unfold vTl; rw [if_neg (by decide), if_neg (by decide), if_neg (by decide), if_neg (by decide), if_neg (by decide), if_neg (by decide), if_neg (by decide)]
theorem vW_0 {r : Rq} {l : Nat} : vWy r l (nI 0) = nI (r 7 l) := by unfold vWy; rw [if_pos (by decide)]
theorem vW_1 {r : Rq} {l : Nat} : vWy r l (nI 1) = nI (r 9 l) := by unfold vWy; rw [if_neg (by decide), if_pos (by decide)]
theorem vW_2 {r : Rq} {l : Nat} : vWy r l (nI 2) = nI (r 10 l) := by unfold vWy; rw [if_neg (by decide), if_neg (by decide)]
theorem nI_pk9 (n : Nat) : (9 : Int32) * nI n = nI (9 * n) := by rw [show (9 : Int32) = nI 9 from rfl, pk_mul]
theorem nI_and {a b : Nat} (ha : a < 512) (hb : b < 512) : nI a &&& nI b = nI (a &&& b) := by
  apply Int32.toBitVec_inj.mp
  apply BitVec.eq_of_toNat_eq
  have h : a &&& b < 512 := Nat.lt_of_le_of_lt Nat.and_le_left ha
  rw [Int32.toBitVec_and, BitVec.toNat_and, pk_tn (by omega), pk_tn (by omega), pk_tn (by omega)]
theorem sm2_le (p r : Nat → Bool) : ∀ n, sm (fun l => if (p l && !r l) = true then 1 else 0) n + sm (fun l => if r l = true then 1 else 0) n ≤ n
  | 0 => Nat.le_refl _
  | n + 1 => by
    have ih := sm2_le p r n
    have h1 : (if (p n && !r n) = true then 1 else 0) + (if r n = true then 1 else 0) ≤ 1 := by
      cases p n <;> cases r n <;> decide
    show (sm _ n + (if (p n && !r n) = true then 1 else 0)) + (sm _ n + (if r n = true then 1 else 0)) ≤ n + 1
    omega
theorem Snd.stop {S : St} (_ : Snd S) {i : Nat} (_ : i < nRq S) : nStop (S.2.2 i) S.1.2.2.2 + nSec (S.2.2 i) S.1.2.2.2 ≤ S.2.2 i 0 11 := sm2_le _ _ _
theorem pcs_le {S : St} (h : Snd S) {i : Nat} (hi : i < nRq S) : ∀ l, l ≤ S.2.2 i 0 11 → sm (fun j => S.2.2 i 6 j * pc (S.2.2 i 7 j)) l ≤ 100 * l
  | 0, _ => Nat.le_refl _
  | l + 1, hl => by
    have ih := pcs_le h hi l (by omega)
    have h1 := ((h.1.d (h.1.i hi)).2.2.2.1 l (by omega)).2.2.2.2
    have h2 := ((h.2.2.2 i hi).2.2.2 l (by omega)).1.pc5
    have h3 : S.2.2 i 6 l * pc (S.2.2 i 7 l) ≤ 20 * 5 := Nat.mul_le_mul h1 h2
    show sm _ l + _ ≤ _
    dsimp only
    omega
theorem w_isRequest {z : ScT} {S : St} {i : Nat} {μ : Mm} {q : Mm → Prop} (hJ : Js S μ) (hi : i < nRq S) (h7 : nRq S ≤ 7) (h : ∀ μ2, Js S μ2 → q μ2) : Wp_L_isRequest z (nI i) μ q := by
  have hS := hJ.1
  have hG := hS.1
  have hd := hG.d (hG.i hi)
  obtain ⟨r1, r2, r3, r4⟩ := hS.2.2.2 i hi
  have hp := (hG.p hi).1
  have hm2 := (hG.p hi).2
  have hN := hG.1
  have hL := hG.L
  have hst := hS.stop hi
  have np3 := hd.1
  have nl3 := hd.2.1
  unfold Wp_L_isRequest
  intro K71 K100 K144 K196 K293 K374 K429 h71 h100 h144 h196 h293 h374 h429
  have k429 : ∀ (cost sp n : Nat) (μ1 : Mm), Js S μ1 → n ≤ 99 → cost ≤ 900 → sp ≤ 1 → (sp = 0 → cost = cst (S.2.2 i)) → K429 (nI i) (nI cost) (nI sp) n μ1 := by
    intro cost sp n μ1 hJ1 hn hc hsp hcs
    refine h429 _ _ _ _ _ ?_
    unfold F_L_isRequest_429
    refine ⟨by omega, fun _ => h μ1 hJ1, fun h0 => ?_⟩
    have h0 : sp = 0 := (nI_eq0 (by omega)).1 h0
    refine T_told_ok (y := 7) hG hJ1.2.1 hi (by omega) (fun μ2 a b => ?_)
    rw [vT_7, hcs h0]
    exact ⟨fun hc => hc rfl, fun _ => h μ2 (hJ1.go a b)⟩
  have hcst : ∀ n, n ≤ S.2.2 i 0 11 → (∀ j, j < n → S.2.2 i 9 j = 0) → sm (fun j => S.2.2 i 6 j * pc (S.2.2 i 7 j)) n = sm (fun l => S.2.2 i 8 l * pc (S.2.2 i 7 l) + (S.2.2 i 6 l - S.2.2 i 8 l) * pc (S.2.2 i 9 l)) n := fun n hn h9 => sm_congr fun l hl => by
    have h5 := (hp.2.2.2 l (by omega)).2.2.2.2.1 (h9 l hl)
    rw [h5, Nat.sub_self, Nat.zero_mul, Nat.add_zero]
  have hln := hd.2.2.2.1
  have h512 : ∀ l, l < S.2.2 i 0 11 → S.2.2 i 7 l < 512 ∧ S.2.2 i 9 l < 512 ∧ S.2.2 i 10 l < 512 := fun l hl => by
    have := hp.2.2.2 l hl
    have hp9 := pow_512 hL
    omega
  have hat : ∀ k, k < S.2.2 i 0 10 → S.2.2 i 3 k < nNd S := hp.2.1
  have c1 : ∀ {μ1 : Mm}, Js S μ1 → μ1 p_LC ((1 : Int32)).toNatClampNeg = nI S.1.1 := fun hj => by rw [clT1]; exact hj.2.2.1.2.1
  have llg : ∀ {μ1 : Mm}, Js S μ1 → LLg S.1 μ1 := fun hj k hk => ⟨(hj.2.2.2.1.2 k hk).1, (hj.2.2.2.1.2 k hk).2.1⟩
  have isw : ∀ {μ1 : Mm} {w a b : Nat} {p : Mm → Prop}, Js S μ1 → WayOk S.1 w a b → (∀ μ2, Js S μ2 → p μ2) → Wp_L_isWay z (μ1 p_LC ((1 : Int32)).toNatClampNeg) (nI w) (nI a) (nI b) μ1 p := fun hj hw hp => by
    rw [c1 hj]
    exact w_isWay hG.2.2.1 hw (llg hj) (fun μ2 hf => hp μ2 (hj.loc (fun c hc _ => hf c hc)))
  have k196 : ∀ (n : Nat) (μ1 : Mm), Js S μ1 → n + 30 ≤ 90 → K196 (nI i) (nI (S.2.2 i 0 11)) (0 : Int32) (0 : Int32) (0 : Int32) n μ1 := by
    intro n0 μ0 hJ0 hn0
    have key := dn (P := fun l => ∀ (sp n : Nat) (μ1 : Mm), Js S μ1 → n + 10 * (3 - l) ≤ 90 → sp ≤ 1 → (sp = 0 → ∀ j, j < l → S.2.2 i 9 j = 0) → K196 (nI i) (nI (S.2.2 i 0 11)) (nI (sm (fun j => S.2.2 i 6 j * pc (S.2.2 i 7 j)) l)) (nI sp) (nI l) n μ1) (n := S.2.2 i 0 11) ?_ ?_
    · exact key 0 n0 μ0 hJ0 (by omega) (by omega) (fun _ j hj => absurd hj (Nat.not_lt_zero j))
    · intro sp n μ1 hJ1 hn hsp hs9
      refine h196 _ _ _ _ _ _ _ ?_
      unfold F_L_isRequest_196
      refine ⟨by omega, fun _ => ?_, fun hc => absurd (le_nI (Nat.le_refl _) (by omega)) hc⟩
      have hpl := pcs_le hS hi (S.2.2 i 0 11) (Nat.le_refl _)
      exact k429 _ _ _ _ hJ1 (by omega) (by omega) hsp (fun h0 => hcst _ (Nat.le_refl _) (hs9 h0))
    · intro l hl hnx sp n μ1 hJ1 hn hsp hs9
      obtain ⟨d4, d5, d45, d61, d62⟩ := hln l hl
      obtain ⟨w7, w9, w10⟩ := r4 l hl
      obtain ⟨b7, b9, b10⟩ := h512 l hl
      have hpl := pcs_le hS hi l (by omega)
      have p7 := w7.pc5
      have a4 := hat _ d4
      have a5 := hat _ d5
      have e93 : (9 : Int32) * nI i + (3 : Int32) * nI l = nI (9 * i + 3 * l) := by rw [nI_pk9, nI_pk3, nI_add]
      have e931 : nI (9 * i + 3 * l) + (1 : Int32) = nI (9 * i + 3 * l + 1) := i1 _
      have e932 : nI (9 * i + 3 * l) + (2 : Int32) = nI (9 * i + 3 * l + 2) := nI_add _ 2
      have k374 : ∀ (y m : Nat) (μ2 : Mm), Js S μ2 → m + 2 + 10 * (3 - (l + 1)) ≤ 90 → y ≤ 1 → (y = 0 → ∀ j, j < l + 1 → S.2.2 i 9 j = 0) → K374 (nI i) (nI (S.2.2 i 0 11)) (nI (sm (fun j => S.2.2 i 6 j * pc (S.2.2 i 7 j)) (l + 1))) (nI y) (nI l) (nI (S.2.2 i 3 (S.2.2 i 4 l))) (nI (S.2.2 i 3 (S.2.2 i 5 l))) (nI (S.2.2 i 7 l)) (nI (S.2.2 i 10 l)) m μ2 := by
        intro y m μ2 hJ2 hm hy hy9
        refine h374 _ _ _ _ _ _ _ _ _ _ _ ?_
        unfold F_L_isRequest_374
        refine ⟨by omega, T_told_ok (y := 1) hG hJ2.2.1 hi (by omega) (fun μ3 a b => ?_)⟩
        have hJ3 := hJ2.go a b
        rw [vT_1, i1]
        refine ⟨fun hne => ?_, fun he => ?_⟩
        · rw [if_neg (fun e => hne (by rw [e]; rfl))] at w10
          refine ⟨fun hc => hc (by rw [w10]; rfl), fun _ => ?_⟩
          exact hnx _ _ _ hJ3 (by omega) hy hy9
        · have he : S.2.2 i 0 12 = 2 := (nI_eq (b := 2) (by omega) (by omega)).1 he
          rw [if_pos he] at w10
          rw [nI_and b10 b7, w10.1]
          refine ⟨fun hc => absurd rfl hc, fun _ => ⟨inN (k := 1) (by omega) (by omega), isw hJ3 w10.2 (fun μ4 hJ4 => ?_)⟩⟩
          exact hnx _ _ _ hJ4 (by omega) hy hy9
      have k293 : ∀ (y m : Nat) (μ2 : Mm), Js S μ2 → m + 5 + 10 * (3 - (l + 1)) ≤ 90 → y ≤ 1 → (y = 0 → ∀ j, j < l + 1 → S.2.2 i 9 j = 0) → K293 (nI i) (nI (S.2.2 i 0 11)) (nI (sm (fun j => S.2.2 i 6 j * pc (S.2.2 i 7 j)) l)) (nI l) (nI (S.2.2 i 3 (S.2.2 i 4 l))) (nI (S.2.2 i 3 (S.2.2 i 5 l))) (nI (S.2.2 i 7 l)) (nI (S.2.2 i 9 l)) (nI (S.2.2 i 10 l)) (nI y) m μ2 := by
        intro y m μ2 hJ2 hm hy hy9
        refine h293 _ _ _ _ _ _ _ _ _ _ _ _ ?_
        unfold F_L_isRequest_293
        rw [e93, e932]
        refine ⟨by omega, inN (by omega) (by omega), w_bits b7 (fun v hv => ?_)⟩
        rw [clT (show 9 * i + 3 * l + 2 < 2147483648 by omega), (hJ2.2.2.2.2 i hi).2.2 l hl |>.2.2, pk_mul, nI_add] at hv
        have hv : v = nI (sm (fun j => S.2.2 i 6 j * pc (S.2.2 i 7 j)) (l + 1)) := hv
        subst hv
        refine ⟨inN (k := 1) (by omega) (by omega), isw hJ2 w7 (fun μ3 hJ3 => ⟨fun _ => k374 y _ _ hJ3 (by omega) hy hy9, fun hne => ?_⟩)⟩
        have hne : S.2.2 i 9 l ≠ 0 := fun e => hne (by rw [e]; rfl)
        rcases w9 with w9 | ⟨m1, m2, m3⟩
        · exact absurd w9 hne
        · refine T_told_ok (y := 1) hG hJ3.2.1 hi (by omega) (fun μ4 a b => ?_)
          have hJ4 := hJ3.go a b
          rw [vT_1, m1]
          refine ⟨fun hc => absurd rfl hc, fun _ => ⟨fun hc => m2 ((nI_eq (by omega) (by omega)).1 hc), fun _ => ⟨inN (k := 1) (by omega) (by omega), isw hJ4 m3 (fun μ5 hJ5 => ?_)⟩⟩⟩
          exact k374 y _ _ hJ5 (by omega) hy hy9
      refine h196 _ _ _ _ _ _ _ ?_
      unfold F_L_isRequest_196
      refine ⟨by omega, fun hc => absurd hc (not_le_nI hl (by omega)), fun _ => ?_⟩
      rw [e93, e931, clT (show 9 * i + 3 * l < 2147483648 by omega), clT (show 9 * i + 3 * l + 1 < 2147483648 by omega), (hJ1.2.2.2.2 i hi).2.2 l hl |>.1]
      refine ⟨inN (by omega) (by omega), T_at_ok hG hJ1.2.1 hi d4 (fun μ2 a b => ?_)⟩
      have hJ2 := hJ1.go a b
      rw [(hJ2.2.2.2.2 i hi).2.2 l hl |>.2.1]
      refine ⟨inN (by omega) (by omega), T_at_ok hG hJ2.2.1 hi d5 (fun μ3 a b => ?_)⟩
      have hJ3 := hJ2.go a b
      refine T_way_ok (y := 0) hG hJ3.2.1 hi hl (by omega) (fun μ4 a b => ?_)
      have hJ4 := hJ3.go a b
      refine T_way_ok (y := 1) hG hJ4.2.1 hi hl (by omega) (fun μ5 a b => ?_)
      have hJ5 := hJ4.go a b
      refine T_way_ok (y := 2) hG hJ5.2.1 hi hl (by omega) (fun μ6 a b => ?_)
      have hJ6 := hJ5.go a b
      rw [vW_0, vW_1, vW_2]
      refine ⟨fun _ => k293 1 _ _ hJ6 (by omega) (by omega) (fun hc => (by cases hc)), fun h0 => ⟨fun hz => k293 0 _ _ hJ6 (by omega) (by omega) (fun _ j hj => ?_), fun _ => k293 1 _ _ hJ6 (by omega) (by omega) (fun hc => (by cases hc))⟩⟩
      by_cases hjl : j = l
      · rw [hjl]; exact (nI_eq0 (by omega)).1 hz
      · exact hs9 ((nI_eq0 (by omega)).1 h0) j (by omega)
  have k100 : ∀ (n : Nat) (μ1 : Mm), Js S μ1 → n ≤ 10 → K100 (nI i) (nI (S.2.2 i 0 10)) (nI (S.2.2 i 0 11)) (0 : Int32) n μ1 := by
    intro n0 μ0 hJ0 hn0
    have key := dn (P := fun k => ∀ (n : Nat) (μ1 : Mm), Js S μ1 → n ≤ 10 + 4 * k → K100 (nI i) (nI (S.2.2 i 0 10)) (nI (S.2.2 i 0 11)) (nI k) n μ1) (n := S.2.2 i 0 10) ?_ ?_
    · exact key n0 μ0 hJ0 hn0
    · intro n μ1 hJ1 hn
      refine h100 _ _ _ _ _ _ ?_
      unfold F_L_isRequest_100
      exact ⟨by omega, fun _ => k196 _ _ hJ1 (by omega), fun hc => absurd (le_nI (Nat.le_refl _) (by omega)) hc⟩
    · intro k hk hnx n μ1 hJ1 hn
      have ak := hat k hk
      have k144 : ∀ (m : Nat) (μ2 : Mm), Js S μ2 → m ≤ 11 + 4 * k → K144 (nI i) (nI (S.2.2 i 0 10)) (nI (S.2.2 i 0 11)) (nI k) (nI (S.2.2 i 3 k)) (0 : Int32) m μ2 := by
        intro m0 μ2 hJ2 hm0
        have key2 := dn (P := fun j => ∀ (m : Nat) (μ2 : Mm), Js S μ2 → m ≤ 11 + 4 * k + j → K144 (nI i) (nI (S.2.2 i 0 10)) (nI (S.2.2 i 0 11)) (nI k) (nI (S.2.2 i 3 k)) (nI j) m μ2) (n := k) ?_ ?_
        · exact key2 m0 μ2 hJ2 hm0
        · intro m μ3 hJ3 hm
          refine h144 _ _ _ _ _ _ _ _ ?_
          unfold F_L_isRequest_144
          refine ⟨by omega, fun _ => ?_, fun hc => absurd (le_nI (Nat.le_refl _) (by omega)) hc⟩
          rw [i1]
          exact hnx _ _ hJ3 (by omega)
        · intro j hj hn2 m μ3 hJ3 hm
          have aj := hat j (by omega)
          refine h144 _ _ _ _ _ _ _ _ ?_
          unfold F_L_isRequest_144
          refine ⟨by omega, fun hc => absurd hc (not_le_nI hj (by omega)), fun _ => T_at_ok hG hJ3.2.1 hi (by omega) (fun μ4 a b => ?_)⟩
          have hJ4 := hJ3.go a b
          refine ⟨fun hc => hp.2.2.1 j k (by omega) hk (by omega) ((nI_eq (by omega) (by omega)).1 hc), fun _ => ?_⟩
          rw [i1]
          exact hn2 _ _ hJ4 (by omega)
      refine h100 _ _ _ _ _ _ ?_
      unfold F_L_isRequest_100
      refine ⟨by omega, fun hc => absurd hc (not_le_nI hk (by omega)), fun _ => T_at_ok hG hJ1.2.1 hi hk (fun μ2 a b => ?_)⟩
      have hJ2 := hJ1.go a b
      have e0 : μ2 p_LC ((0 : Int32)).toNatClampNeg = nI (nNd S) := by rw [clT0]; exact hJ2.2.2.1.1
      rw [e0]
      exact ⟨fun hc => absurd hc (nI_pos (by omega)), fun _ => ⟨inN (k := 0) (by omega) (by omega), fun hc => absurd hc (not_le_nI ak (by omega)), fun _ => k144 _ _ hJ2 (by omega)⟩⟩
  have k71 : ∀ (n : Nat) (μ1 : Mm), Js S μ1 → n ≤ 8 → K71 (nI i) (nI (S.2.2 i 0 10)) (nI (S.2.2 i 0 11)) n μ1 := by
    intro n μ1 hJ1 hn
    refine h71 _ _ _ _ _ ?_
    unfold F_L_isRequest_71
    refine ⟨by omega, T_told_ok (y := 5) hG hJ1.2.1 hi (by omega) (fun μ2 a b => ?_)⟩
    have hJ2 := hJ1.go a b
    refine T_told_ok (y := 6) hG hJ2.2.1 hi (by omega) (fun μ3 a b => ?_)
    have hJ3 := hJ2.go a b
    rw [vT_5, vT_6, nI_add]
    refine ⟨fun hc => ?_, fun _ => k100 _ _ hJ3 (by omega)⟩
    rw [nI_ltI (by omega) (by omega)] at hc
    omega
  unfold F_L_isRequest_e
  refine T_told_ok (y := 3) hG hJ.2.1 hi (by omega) (fun μ2 a b => ?_)
  have hJ2 := hJ.go a b
  refine T_told_ok (y := 4) hG hJ2.2.1 hi (by omega) (fun μ3 a b => ?_)
  have hJ3 := hJ2.go a b
  rw [vT_3, vT_4]
  refine ⟨fun hc => absurd hc (not_le_nI (k := 0) (by omega) (by omega)), fun _ => ⟨fun hc => absurd hc (not_le_nI (n := 4) (by omega) (by omega)), fun _ => ⟨fun hc => absurd hc (nI_pos (by omega)), fun _ => ⟨fun hc => absurd hc (not_le_nI (n := 4) (by omega) (by omega)), fun _ => ?_⟩⟩⟩⟩
  refine T_told_ok (y := 2) hG hJ3.2.1 hi (by omega) (fun μ4 a b => ?_)
  have hJ4 := hJ3.go a b
  have et : ∀ {μ1 : Mm}, Js S μ1 → μ1 p_LT (nI i).toNatClampNeg = nI (S.2.2 i 0 13) := fun hj => by rw [clT (by omega)]; exact (hj.2.2.2.2 i hi).1
  rw [vT_2, et hJ4]
  refine ⟨inN (by omega) (by omega), fun hc => absurd rfl hc, fun _ => ?_⟩
  refine T_told_ok (y := 0) hG hJ4.2.1 hi (by omega) (fun μ5 a b => ?_)
  have hJ5 := hJ4.go a b
  have e3 : μ5 p_LC ((3 : Int32)).toNatClampNeg = nI (tkS S) := by rw [show ((3 : Int32)).toNatClampNeg = 3 from rfl]; exact hJ5.2.2.1.2.2.2.1
  rw [vT_0, et hJ5, e3]
  refine ⟨fun _ => k71 _ _ hJ5 (by omega), fun hne => ⟨inN (by omega) (by omega), inN (k := 3) (by omega) (by omega), fun hc => ?_, fun _ => k71 _ _ hJ5 (by omega)⟩⟩
  have h14 : S.2.2 i 0 14 = 0 := Decidable.byContradiction fun e => hne (if_neg e)
  have := r3 h14
  exact not_le_nI this (by omega) hc
