/-! what comes between: an end, a failure, a tick, a move -/
theorem nI_nm {k : Nat} (h : k < 2147483648) : ¬ nI k < (-1 : Int32) := fun hc => nI_pos h (Int32.lt_trans hc (by decide))
theorem LA.of {S S2 : St} {μ : Mm} (h : LA S μ) (e0 : S2.1.1 = S.1.1 ∧ S2.1.2.1 = S.1.2.1 ∧ S2.1.2.2.1 = S.1.2.2.1) (e1 : S2.2.1 = S.2.1) (er : ∀ j x y, (x ≠ 0 ∨ y ≠ 14) → S2.2.2 j x y = S.2.2 j x y) : LA S2 μ := by
  obtain ⟨⟨L2, A2, B2, F2⟩, W2, R2⟩ := S2
  obtain ⟨⟨L, A, B, F⟩, W, R⟩ := S
  obtain ⟨e01, e02, e03⟩ := e0
  have e01 : L2 = L := e01
  have e02 : A2 = A := e02
  have e03 : B2 = B := e03
  have e1 : W2 = W := e1
  subst e01 e02 e03 e1
  have er : ∀ j x y, (x ≠ 0 ∨ y ≠ 14) → R2 j x y = R j x y := er
  obtain ⟨⟨c0, c1, c2, c3, c4⟩, hg, hr⟩ := h
  refine ⟨⟨c0, c1, c2, c3, ?_⟩, hg, fun i hi => ?_⟩
  · show μ p_LC 4 = nI (R2 (W2 0 1) 0 10)
    rw [er _ _ _ (Or.inr (by decide))]; exact c4
  · have := hr i hi
    refine ⟨?_, fun k hk => ?_, fun l hl => ?_⟩
    · show μ p_LT i = nI (R2 i 0 13)
      rw [er _ _ _ (Or.inr (by decide))]; exact this.1
    · have hk : k < R2 i 0 10 := hk
      rw [er _ _ _ (Or.inr (by decide))] at hk
      show _ = nI (R2 i 1 k)
      rw [er _ _ _ (Or.inl (by decide))]; exact this.2.1 k hk
    · have hl : l < R2 i 0 11 := hl
      rw [er _ _ _ (Or.inr (by decide))] at hl
      show _ = nI (R2 i 4 l) ∧ _ = nI (R2 i 5 l) ∧ _ = nI (R2 i 6 l)
      rw [er _ _ _ (Or.inl (by decide)), er _ _ _ (Or.inl (by decide)), er _ _ _ (Or.inl (by decide))]
      exact this.2.2 l hl
theorem psS_x (T : St) (j x y : Nat) (h : x ≠ 0 ∨ y ≠ 14) : ∀ k, (psS T k).2.2 j x y = T.2.2 j x y
  | 0 => rfl
  | k + 1 => by
    have ih := psS_x T j x y h k
    unfold psS
    split
    · show (updR (psS T k) k (endR ((psS T k).2.2 k))).2.2 j x y = _
      by_cases hj : j = k
      · subst hj; rw [updR_i, endR_x h]; exact ih
      · rw [updR_ne hj]; exact ih
    · exact ih
theorem end_x (S : St) (i j x y : Nat) (h : x ≠ 0 ∨ y ≠ 14) : (endS S i).2.2 j x y = S.2.2 j x y := by
  show (updR S i (endR (S.2.2 i))).2.2 j x y = _
  by_cases hj : j = i
  · rw [hj, updR_i, endR_x h]
  · rw [updR_ne hj]
theorem nHit_le (S : St) : nHit S ≤ nRq S := by
  have : nHit S ≤ sm (fun _ => 1) (nRq S) := sm_le fun i _ => by split <;> omega
  rw [sm_const] at this
  omega
theorem w_others {z : ScT} {S : St} {x y : Nat} {μ : Mm} {q : Mm → Prop} (hJ : Js S μ) (hx : x < 2147483648) (hy : y < 2147483648) (hN1 : 1 ≤ nNd S) (h7 : nRq S ≤ 7) (ht : tkS S + 9 ≤ 9000) (h : ∀ S2 μ2, Js S2 μ2 → nRq S2 = nRq S → tkS S2 ≤ tkS S + 9 → nNd S2 = nNd S → q μ2) : Wp_L_others z (nI x) (nI y) μ q := by
  have hS := hJ.1
  have hG := hS.1
  have hN := hG.1
  have hL := hG.L
  have c0 : ∀ {S1 : St} {μ1 : Mm}, Js S1 μ1 → μ1 p_LC ((0 : Int32)).toNatClampNeg = nI (nNd S1) := fun hj => by rw [clT0]; exact hj.2.2.1.1
  have c1 : ∀ {S1 : St} {μ1 : Mm}, Js S1 μ1 → μ1 p_LC ((1 : Int32)).toNatClampNeg = nI (nLk S1) := fun hj => by rw [clT1]; exact hj.2.2.1.2.1
  have c2 : ∀ {S1 : St} {μ1 : Mm}, Js S1 μ1 → μ1 p_LC ((2 : Int32)).toNatClampNeg = nI (nRq S1) := fun hj => by rw [clT2]; exact hj.2.2.1.2.2.1
  have c3 : ∀ {S1 : St} {μ1 : Mm}, Js S1 μ1 → μ1 p_LC ((3 : Int32)).toNatClampNeg = nI (tkS S1) := fun hj => by rw [show ((3 : Int32)).toNatClampNeg = 3 from rfl]; exact hj.2.2.1.2.2.2.1
  have rmx : ∀ {a n : Nat}, a < 2147483648 → 0 < n → n < 1000 → irm (nI a) (nI n) = nI (a % n) := fun ha h0 hn => irm_nI ha h0 (by omega)
  have dvx : ∀ (a n : Nat), a < 2147483648 → 0 < n → n < 1000 → nI a / nI n = nI (a / n) := fun a n ha h0 hn => pk_div ha h0 (by omega)
  unfold Wp_L_others
  intro K58 K78 K125 K206 K250 K382 h58 h78 h125 h206 h250 h382
  -- the end of an ended or an ending request
  have k58 : ∀ (S2 : St) (i : Nat) (μ1 : Mm) (a : Int32), Js S2 μ1 → i < nRq S2 → nRq S2 = nRq S → tkS S2 = tkS S → nNd S2 = nNd S → S2.2.2 i 0 14 ≠ 0 → K58 (nI i) a a 2 μ1 := by
    intro S2 i μ1 a hJ2 hi e1 e2 e3 h14
    refine h58 _ _ _ _ _ ?_
    unfold F_L_others_58
    refine ⟨by omega, fun hc => hc rfl, fun _ => T_told_ok (y := 0) hJ2.1.1 hJ2.2.1 hi (by omega) (fun μ2 a b => ?_)⟩
    rw [vT_0, if_neg h14]
    exact ⟨fun hc => hc rfl, fun _ => h S2 μ2 (hJ2.go a b) e1 (by omega) e3⟩
  -- a move
  have k382 : ∀ (i k v n0 : Nat) (sp0 : Nat) (μ0 : Mm), Js S μ0 → i < nRq S → k < S.2.2 i 0 10 → v < nNd S → n0 ≤ 5 → sp0 ≤ 1 → (sp0 = 0 → S.2.2 i 0 14 = 0 ∧ S.2.2 i 0 12 ≠ 2) → (sp0 = 1 → S.2.2 i 0 14 ≠ 0 ∨ S.2.2 i 0 12 = 2) → K382 (nI i) (nI k) (nI v) (nI (S.2.2 i 3 k)) (nI sp0) (nI 0) n0 μ0 := by
    intro i k v n0 sp0 μ0 hJ0 hi hk hv hn0 hsp0 hs0 hs1
    have hd := hG.d (hG.i hi)
    have hp := (hG.p hi).1
    have h3l := hd.2.1
    have h3p := hd.1
    have hat := hp.2.1 k hk
    have key := dn (P := fun l => ∀ (sp n : Nat) (μ1 : Mm), Js S μ1 → n ≤ 5 + 2 * l → sp ≤ 1 → (sp = 0 → S.2.2 i 0 14 = 0 ∧ S.2.2 i 0 12 ≠ 2 ∧ ∀ j, j < l → S.2.2 i 9 j = 0) → (sp = 1 → mvb (S.2.2 i) = false) → K382 (nI i) (nI k) (nI v) (nI (S.2.2 i 3 k)) (nI sp) (nI l) n μ1) (n := S.2.2 i 0 11) ?_ ?_
    · refine key sp0 n0 μ0 hJ0 (by omega) hsp0 (fun e => ⟨(hs0 e).1, (hs0 e).2, fun j hj => absurd hj (Nat.not_lt_zero j)⟩) (fun e => ?_)
      unfold mvb
      rcases hs1 e with h1 | h1
      · rw [decide_eq_false h1]; rfl
      · rw [decide_eq_true h1]; simp
    · intro sp n μ1 hJ1 hn hsp hs0 hs1
      refine h382 _ _ _ _ _ _ _ _ ?_
      unfold F_L_others_382
      refine ⟨by omega, T_told_ok (y := 4) hG hJ1.2.1 hi (by omega) (fun μ2 a b => ?_)⟩
      have hJ2 := hJ1.go a b
      rw [vT_4]
      refine ⟨fun _ => A_move hG hJ2.2.1 ?_, fun hc => absurd (le_nI (Nat.le_refl _) (by omega)) hc⟩
      rw [mv_ans hG hi hk hv]
      by_cases hsame : S.2.2 i 3 k = v
      · rw [if_pos hsame]
        intro μ3 a b
        have hJ3 := hJ2.go a b
        refine ⟨fun hc => (by cases hc), fun _ => ⟨fun hc => (by cases hc), fun _ => ?_, fun hc => (by cases hc)⟩⟩
        exact ⟨fun hne => absurd (by rw [hsame]) hne, fun _ => ⟨fun hc => hc rfl, fun _ => h S μ3 hJ3 rfl (by omega) rfl⟩⟩
      · rw [if_neg hsame]
        have hne : ¬ nI (S.2.2 i 3 k) = nI v := fun e => hsame ((nI_eq (by omega) (by omega)).1 e)
        have hmv : mvb (S.2.2 i) = decide (sp = 0) := by
          by_cases h0 : sp = 0
          · obtain ⟨a1, a2, a3⟩ := hs0 h0
            rw [decide_eq_true h0]
            unfold mvb
            rw [decide_eq_true a1, decide_eq_false a2, (al_iff _ _).2 (fun j hj => decide_eq_true (a3 j hj))]
            rfl
          · rw [decide_eq_false h0]; exact hs1 (by omega)
        by_cases h0 : sp = 0
        · rw [hmv, if_neg (by rw [decide_eq_true h0]; decide)]
          have hmb : mvb (S.2.2 i) = true := by rw [hmv]; exact decide_eq_true h0
          have hm := Mvb.of hp hmb
          subst h0
          by_cases hok : mvOk S i k v = true
          · rw [if_pos hok]
            intro μ3 a b
            have a : cInv (mvS S i k v) μ3 := a
            have hJ3 := hJ2.mov hi hmb hk hv hok a b
            have hnw := nw_lt hS hi hv hok
            refine ⟨fun _ => ⟨fun _ => ⟨fun _ => ⟨fun hc => absurd hc (nI_nm (by omega)), fun _ => ⟨fun hc => absurd hc (not_le_nI (n := 18) hnw (by omega)), fun _ => ?_⟩⟩, fun hc => absurd rfl hc⟩, fun hc => absurd hc hne⟩, fun hc => absurd rfl hc⟩
            refine T_at_ok (S := mvS S i k v) hJ3.1.1 hJ3.2.1 hi (by rw [mvS_10]; exact hk) (fun μ4 a b => ?_)
            have hJ4 := hJ3.go a b
            rw [mvS_at]
            exact ⟨fun _ => ⟨fun hc => hc rfl, fun _ => h _ μ4 hJ4 rfl (Nat.le_add_right _ _) rfl⟩, fun hc => absurd (le_nI (n := 0) (by omega) (by omega)) hc⟩
          · rw [if_neg hok]
            intro μ3 a b
            have hJ3 := hJ2.go a b
            refine ⟨fun _ => ⟨fun _ => ⟨fun _ => ⟨fun hc => absurd hc (by decide : ¬ (-1 : Int32) < -1), fun _ => ⟨fun hc => absurd hc (by decide : ¬ (18 : Int32) ≤ -1), fun _ => ?_⟩⟩, fun hc => absurd rfl hc⟩, fun hc => absurd hc hne⟩, fun hc => absurd rfl hc⟩
            refine T_at_ok hG hJ3.2.1 hi hk (fun μ4 a b => ?_)
            exact ⟨fun hc => absurd hc (by decide : ¬ (0 : Int32) ≤ -1), fun _ => ⟨fun hc => hc rfl, fun _ => h S μ4 (hJ3.go a b) rfl (Nat.le_add_right _ _) rfl⟩⟩
        · rw [hmv, if_pos (decide_eq_false h0)]
          intro μ3 a b
          have hJ3 := hJ2.go a b
          have hsn : ¬ nI sp = 0 := fun e => h0 ((nI_eq0 (by omega)).1 e)
          refine ⟨fun hc => (by cases hc), fun _ => ⟨fun hc => (by cases hc), fun hc => (by cases hc), fun _ => ⟨fun _ => ⟨fun hc => absurd hc hsn, fun _ => ⟨fun hc => hc rfl, fun _ => ?_⟩⟩, fun hc => absurd hc hne⟩⟩⟩
          refine T_at_ok hG hJ3.2.1 hi hk (fun μ4 a b => ?_)
          exact ⟨fun hc => hc rfl, fun _ => h S μ4 (hJ3.go a b) rfl (Nat.le_add_right _ _) rfl⟩
    · intro l hl hnx sp n μ1 hJ1 hn hsp hs0 hs1
      refine h382 _ _ _ _ _ _ _ _ ?_
      unfold F_L_others_382
      refine ⟨by omega, T_told_ok (y := 4) hG hJ1.2.1 hi (by omega) (fun μ2 a b => ?_)⟩
      have hJ2 := hJ1.go a b
      have h512 := (hp.2.2.2 l hl).2.1
      have h5 := pow_512 hL
      rw [vT_4]
      refine ⟨fun hc => absurd hc (not_le_nI hl (by omega)), fun _ => ⟨fun hne => ?_, fun h0 => ?_⟩⟩
      · rw [i1]
        have h1 : sp = 1 := by
          have : sp ≠ 0 := fun e => hne (by rw [e]; rfl)
          omega
        exact hnx 1 _ _ hJ2 (by omega) (by omega) (fun hc => (by cases hc)) (fun _ => hs1 h1)
      · have h0 : sp = 0 := (nI_eq0 (by omega)).1 h0
        obtain ⟨a1, a2, a3⟩ := hs0 h0
        refine T_way_ok (y := 1) hG hJ2.2.1 hi hl (by omega) (fun μ3 a b => ?_)
        have hJ3 := hJ2.go a b
        rw [vW_1, i1]
        refine ⟨fun hz => ?_, fun hnz => ?_⟩
        · have hz : S.2.2 i 9 l = 0 := (nI_eq0 (by omega)).1 hz
          refine hnx 0 _ _ hJ3 (by omega) (by omega) (fun _ => ⟨a1, a2, fun j hj => ?_⟩) (fun hc => (by cases hc))
          by_cases hjl : j = l
          · rw [hjl]; exact hz
          · exact a3 j (by omega)
        · refine hnx 1 _ _ hJ3 (by omega) (by omega) (fun hc => (by cases hc)) (fun _ => ?_)
          have hz : S.2.2 i 9 l ≠ 0 := fun e => hnz (by rw [e]; rfl)
          cases hm : mvb (S.2.2 i) with
          | false => rfl
          | true => exact absurd ((Mvb.of hp hm).2.2 l hl).1 hz
  -- ticks
  have k250 : ∀ (S2 : St) (μ0 : Mm), Js S2 μ0 → nRq S2 = nRq S → tkS S2 ≤ tkS S + 9 → nNd S2 = nNd S → K250 (nI 0) 1 μ0 := by
    intro S2 μ0 hJ0 e1 e2 e3
    have key := dn (P := fun i => ∀ (n : Nat) (μ1 : Mm), Js S2 μ1 → n ≤ 1 + i → K250 (nI i) n μ1) (n := nRq S2) ?_ ?_
    · exact key 1 μ0 hJ0 (by omega)
    · intro n μ1 hJ1 hn
      refine h250 _ _ _ ?_
      unfold F_L_others_250
      rw [c2 hJ1]
      exact ⟨by omega, inN (k := 2) (by omega) (by omega), fun _ => h S2 μ1 hJ1 e1 e2 e3, fun hc => absurd (le_nI (Nat.le_refl _) (by omega)) hc⟩
    · intro i hi hnx n μ1 hJ1 hn
      refine h250 _ _ _ ?_
      unfold F_L_others_250
      obtain ⟨r1, r2, r3, r4⟩ := hJ1.1.2.2.2 i hi
      rw [c2 hJ1, c3 hJ1, clT (show i < 2147483648 by omega), (hJ1.2.2.2.2 i hi).1, i1]
      refine ⟨by omega, inN (k := 2) (by omega) (by omega), fun hc => absurd hc (not_le_nI hi (by omega)), fun _ => ⟨inN (by omega) (by omega), inN (k := 3) (by omega) (by omega), fun _ => hnx _ _ hJ1 (by omega), fun hge => ?_⟩⟩
      refine T_told_ok (y := 0) hJ1.1.1 hJ1.2.1 hi (by omega) (fun μ2 a b => ?_)
      have h14 : S2.2.2 i 0 14 ≠ 0 := fun e => hge ((nI_ltI (by omega) (by omega)).2 (r3 e))
      rw [vT_0, if_neg h14]
      exact ⟨fun hc => hc rfl, fun _ => hnx _ _ (hJ1.go a b) (by omega)⟩
  have k206 : ∀ (w n : Nat) (μ1 : Mm), Js S μ1 → w < 6 → n ≤ 0 → K206 (nI y) (nI w) n μ1 := by
    intro w n μ1 hJ1 hw hn
    refine h206 _ _ _ _ ?_
    unfold F_L_others_206
    rw [c2 hJ1, c3 hJ1]
    refine ⟨by omega, fun _ => ⟨inN (k := 2) (by omega) (by omega), fun hne => ⟨inN (k := 2) (by omega) (by omega), hne, fun v6 hv6 => ?_⟩, fun _ => h S μ1 hJ1 rfl (by omega) rfl⟩, fun _ => ⟨inN (k := 3) (by omega) (by omega), inN (k := 3) (by omega) (by omega), fun μ2 hμ2 => ?_⟩⟩
    · have hR0 : 0 < nRq S := by
        have : nRq S ≠ 0 := fun e => hne (by rw [e]; rfl)
        omega
      rw [rmx hy hR0 (by omega)] at hv6
      have hi : y % nRq S < nRq S := Nat.mod_lt _ hR0
      generalize y % nRq S = i at hv6 hi
      subst hv6
      have hd := hG.d (hG.i hi)
      have hm2 := (hG.p hi).2
      have r1 := (hS.2.2.2 i hi).1
      have h3p := hd.1
      refine T_told_ok (y := 3) hG hJ1.2.1 hi (by omega) (fun μ2 a b => ?_)
      have hJ2 := hJ1.go a b
      have d12 : nI y / (12 : Int32) = nI (y / 12) := dvx y 12 hy (by omega) (by omega)
      have d36 : nI y / (36 : Int32) = nI (y / 36) := dvx y 36 hy (by omega) (by omega)
      rw [vT_3, c0 hJ2, d12, d36, rmx (by omega) (by omega) (by omega), rmx (by omega) (by omega) (by omega)]
      refine ⟨fun hc => by have := (nI_eq0 (by omega)).1 hc; omega, fun v7 hv7 => ⟨inN (k := 0) (by omega) (by omega), fun hc => by have := (nI_eq0 (by omega)).1 hc; omega, fun v8 hv8 => ?_⟩⟩
      have hk : y / 12 % S.2.2 i 0 10 < S.2.2 i 0 10 := Nat.mod_lt _ (by omega)
      have hv : y / 36 % nNd S < nNd S := Nat.mod_lt _ (by omega)
      generalize y / 12 % S.2.2 i 0 10 = k at hv7 hk
      generalize y / 36 % nNd S = v at hv8 hv
      subst hv7 hv8
      refine T_at_ok hG hJ2.2.1 hi hk (fun μ3 a b => ?_)
      have hJ3 := hJ2.go a b
      refine T_told_ok (y := 0) hG hJ3.2.1 hi (by omega) (fun μ4 a b => ?_)
      have hJ4 := hJ3.go a b
      rw [vT_0]
      by_cases h14 : S.2.2 i 0 14 = 0
      · rw [if_pos h14]
        refine ⟨fun hc => absurd hc (by decide), fun _ => T_told_ok (y := 1) hG hJ4.2.1 hi (by omega) (fun μ5 a b => ?_)⟩
        have hJ5 := hJ4.go a b
        rw [vT_1]
        refine ⟨fun hne2 => ?_, fun he2 => ?_⟩
        · exact k382 i k v _ 0 μ5 hJ5 hi hk hv (by omega) (by omega) (fun _ => ⟨h14, fun e => hne2 (by rw [e]; rfl)⟩) (fun hc => (by cases hc))
        · exact k382 i k v _ 1 μ5 hJ5 hi hk hv (by omega) (by omega) (fun hc => (by cases hc)) (fun _ => Or.inr ((nI_eq (b := 2) (by omega) (by omega)).1 he2))
      · rw [if_neg h14]
        exact ⟨fun _ => k382 i k v _ 1 μ4 hJ4 hi hk hv (by omega) (by omega) (fun hc => (by cases hc)) (fun _ => Or.inl h14), fun hc => absurd rfl hc⟩
    · have e9 : (1 : Int32) + irm (nI y) (9 : Int32) = nI (1 + y % 9) := by
        rw [show (9 : Int32) = nI 9 from rfl, rmx hy (by omega) (by omega)]
        exact nI_add 1 _
      have hr9 : y % 9 < 9 := Nat.mod_lt _ (by omega)
      rw [e9] at hμ2 ⊢
      generalize hr : 1 + y % 9 = r at hμ2 ⊢
      have hr1 : 1 ≤ r ∧ r ≤ 9 := by omega
      clear hr hr9 e9
      rw [nI_add] at hμ2
      have hc2 : cInv S μ2 := hJ1.2.1.law (fun c hc => by rw [hμ2]; exact u_ne (fun e => hc (by rw [e]; decide)))
      have hrg : rg 1 100 (nI r) = true := rg_t (a := 1) (b := 100) hr1.1 (by omega) (by omega)
      have tr : toN (nI r) = r := toN_nI (by omega)
      have e : o_pass S (nI r) = (0, nI (tkS S + r), psS (tkU S r) (nRq S)) := by unfold o_pass; rw [if_pos hrg, tr]
      refine T_pass hG hc2 ?_
      rw [e]
      intro μ3 a b
      have a : cInv (psS (tkU S r) (nRq S)) μ3 := a
      have e3 : μ3 p_LC ((3 : Int32)).toNatClampNeg = nI (tkS S + r) := by
        rw [show ((3 : Int32)).toNatClampNeg = 3 from rfl, b.cell (by decide), hμ2, u_eq]
        exact d_eq
      refine ⟨fun _ => ⟨inN (k := 3) (by omega) (by omega), fun hc => hc e3.symm, fun _ => ?_⟩, fun hc => absurd rfl hc⟩
      have ek := psS_k (tkU S r) (nRq S)
      have hn : n = 0 := by omega
      subst hn
      have hT : tkS (tkU S r) = tkS S + r := by show set2 S.2.1 0 2 (tkS S + r) 0 2 = _; unfold set2; rw [if_pos ⟨rfl, rfl⟩]
      have w1 : nRq (psS (tkU S r) (nRq S)) = nRq S := by show (psS (tkU S r) (nRq S)).2.1 0 1 = _; rw [ek.2]; rfl
      have w2 : tkS (psS (tkU S r) (nRq S)) = tkS S + r := by show (psS (tkU S r) (nRq S)).2.1 0 2 = _; rw [ek.2]; exact hT
      have w3 : nNd (psS (tkU S r) (nRq S)) = nNd S := by show (psS (tkU S r) (nRq S)).2.1 0 0 = _; rw [ek.2]; rfl
      have hla : LA (tkU S r) μ3 := by
        have g0 := hJ1.2.2
        have f2 : ∀ c, 21 ≤ c → c ≤ 26 → c ≠ p_LC → μ3 c = μ1 c := fun c h1 h2 h3 => by rw [b.la c h1 h2, hμ2]; exact u_ne h3
        have f3 : ∀ j, j ≠ 3 → μ3 p_LC j = μ1 p_LC j := fun j hj => by rw [b.cell (by decide), hμ2, u_eq]; exact d_ne hj
        refine ⟨⟨?_, ?_, ?_, ?_, ?_⟩, ?_, fun j hj => ?_⟩
        · rw [f3 0 (by decide)]; exact g0.1.1
        · rw [f3 1 (by decide)]; exact g0.1.2.1
        · rw [f3 2 (by decide)]; exact g0.1.2.2.1
        · rw [hT]; exact e3
        · rw [f3 4 (by decide)]; exact g0.1.2.2.2.2
        · unfold LAg
          rw [f2 _ (by decide) (by decide) (by decide), f2 _ (by decide) (by decide) (by decide)]
          exact g0.2.1
        · rw [f2 p_LT (by decide) (by decide) (by decide), f2 p_LP (by decide) (by decide) (by decide), f2 p_LQ (by decide) (by decide) (by decide)]
          exact g0.2.2 j hj
      have hJ3 : Js (psS (tkU S r) (nRq S)) μ3 := ⟨hS.pass (by omega), a, hla.of ⟨by rw [ek.1], by rw [ek.1], by rw [ek.1]⟩ ek.2 (fun j x y hxy => psS_x _ j x y hxy _)⟩
      exact k250 _ μ3 hJ3 w1 (by omega) w3
  -- a failure
  have k125 : ∀ (S2 : St) (k : Nat) (b : Bool) (μ0 : Mm), S2 = setF S k b → Js S2 μ0 → k < nLk S → (¬ irm (nI y / (9 : Int32)) (3 : Int32) = 0 → b = false) → (irm (nI y / (9 : Int32)) (3 : Int32) = 0 → b = true) → K125 (nI y) (nI k) (nI 0) (nI (nHit S2)) (nI 0) 1 μ0 := by
    intro S2 k b μ0 e2 hJ0 hk hb0 hb1
    have hG2 := hJ0.1.1
    have n2 : nRq S2 = nRq S := by rw [e2]; rfl
    have hh := nHit_le S2
    have key := dn (P := fun i => ∀ (n : Nat) (μ1 : Mm), Js S2 μ1 → n ≤ 1 + 2 * i → K125 (nI y) (nI k) (nI (sm (fun i => if S2.2.2 i 0 14 = 0 ∧ 0 < nStop (S2.2.2 i) S2.1.2.2.2 then 1 else 0) i)) (nI (nHit S2)) (nI i) n μ1) (n := nRq S2) ?_ ?_
    · exact key 1 μ0 hJ0 (by omega)
    · intro n μ1 hJ1 hn
      refine h125 _ _ _ _ _ _ _ ?_
      unfold F_L_others_125
      rw [c2 hJ1]
      refine ⟨by omega, inN (k := 2) (by omega) (by omega), fun _ => ⟨fun hc => hc rfl, fun _ => ?_⟩, fun hc => absurd (le_nI (Nat.le_refl _) (by omega)) hc⟩
      have hk2 : k < nLk S2 := by rw [e2]; exact hk
      refine T_ofLink_ok (y := 3) hG2 hJ1.2.1 hk2 (by omega) (fun μ2 a b2 => ?_)
      have hJ2 := hJ1.go a b2
      have et : tb S2.1.2.2.2 k = if b = true then 1 else 0 := by
        rw [e2, tb_bit]
        show (if (msk S.1.2.2.2 k b).testBit k = true then 1 else 0) = _
        rw [msk_bit hG.2.2.2.2.1 (by omega) (by omega), if_pos rfl]
      have done : q μ2 := h S2 μ2 hJ2 n2 (by rw [e2]; exact Nat.le_add_right _ _) (by rw [e2]; rfl)
      rw [vL_3, et]
      refine ⟨fun hne => ⟨fun hc => hc (by rw [hb0 hne]; rfl), fun _ => done⟩, fun he => ⟨fun hc => hc (by rw [hb1 he]; rfl), fun _ => done⟩⟩
    · intro i hi hnx n μ1 hJ1 hn
      refine h125 _ _ _ _ _ _ _ ?_
      unfold F_L_others_125
      rw [c2 hJ1, i1]
      have es : sm (fun i => if S2.2.2 i 0 14 = 0 ∧ 0 < nStop (S2.2.2 i) S2.1.2.2.2 then 1 else 0) (i + 1) = sm (fun i => if S2.2.2 i 0 14 = 0 ∧ 0 < nStop (S2.2.2 i) S2.1.2.2.2 then 1 else 0) i + (if S2.2.2 i 0 14 = 0 ∧ 0 < nStop (S2.2.2 i) S2.1.2.2.2 then 1 else 0) := rfl
      rw [es] at hnx
      generalize sm (fun i => if S2.2.2 i 0 14 = 0 ∧ 0 < nStop (S2.2.2 i) S2.1.2.2.2 then 1 else 0) i = cnt at hnx ⊢
      refine ⟨by omega, inN (k := 2) (by omega) (by omega), fun hc => absurd hc (not_le_nI hi (by omega)), fun _ => T_told_ok (y := 0) hG2 hJ1.2.1 hi (by omega) (fun μ2 a b2 => ?_)⟩
      have hJ2 := hJ1.go a b2
      rw [vT_0]
      by_cases h14 : S2.2.2 i 0 14 = 0
      · rw [if_pos h14]
        refine ⟨fun hc => absurd rfl hc, fun _ => T_told_ok (y := 5) hG2 hJ2.2.1 hi (by omega) (fun μ3 a b3 => ?_)⟩
        have hJ3 := hJ2.go a b3
        have hst := nStop_le (S2.2.2 i) S2.1.2.2.2 (hG2.d (hG2.i hi)).2.1
        rw [vT_5]
        by_cases hp : 0 < nStop (S2.2.2 i) S2.1.2.2.2
        · rw [if_pos ⟨h14, hp⟩] at hnx
          refine ⟨fun hc => absurd hc (not_le_nI (k := 0) hp (by omega)), fun _ v hv => ?_⟩
          rw [hv, i1]
          exact hnx _ _ hJ3 (by omega)
        · rw [if_neg (fun e => hp e.2)] at hnx
          refine ⟨fun _ v hv => ?_, fun hc => absurd (le_nI (k := 0) (by omega) (by omega)) hc⟩
          rw [hv, z_add]
          exact hnx _ _ hJ3 (by omega)
      · rw [if_neg h14]
        rw [if_neg (fun e => h14 e.1)] at hnx
        refine ⟨fun _ v hv => ?_, fun hc => absurd hc (by decide)⟩
        rw [hv, z_add]
        exact hnx _ _ hJ2 (by omega)
  have k78 : ∀ (w : Nat) (μ1 : Mm), Js S μ1 → w < 6 → K78 (nI y) (nI w) 0 μ1 := by
    intro w μ1 hJ1 hw
    refine h78 _ _ _ _ ?_
    unfold F_L_others_78
    rw [c1 hJ1]
    refine ⟨by omega, fun _ => k206 w 0 μ1 hJ1 hw (Nat.le_refl _), fun _ => ⟨inN (k := 1) (by omega) (by omega), fun _ => k206 w 0 μ1 hJ1 hw (Nat.le_refl _), fun hlt => ⟨inN (k := 1) (by omega) (by omega), fun hc => hlt (by rw [hc]; decide), fun v6 hv6 => ?_⟩⟩⟩
    have hL0 : 0 < nLk S := Decidable.byContradiction fun hc => hlt (le_nI (k := 0) (by omega) (by omega))
    rw [rmx hy hL0 (by omega)] at hv6
    have hk : y % nLk S < nLk S := Nat.mod_lt _ hL0
    generalize y % nLk S = k at hv6 hk
    subst hv6
    have tk : toN (nI k) = k := toN_nI (by omega)
    have ans : ∀ b, o_fail S (nI k) b = (0, nI (nHit (setF S k b)), setF S k b) := fun b => by unfold o_fail; rw [if_pos (inR_t (by omega) hk), tk]
    have step : ∀ (b : Bool) {qx : String → Mm → Prop}, (¬ irm (nI y / (9 : Int32)) (3 : Int32) = 0 → b = false) → (irm (nI y / (9 : Int32)) (3 : Int32) = 0 → b = true) → T_X7_fail (nI k) (bI b) μ1 (fun z3 μ_2 => K125 (nI y) (nI k) (0 : Int32) z3 (0 : Int32) (0 + 1) μ_2) qx := by
      intro b qx hb0 hb1
      have hg : Good (setF S k b) := by have := g_fail (x := nI k) (b := b) hG; rw [ans b] at this; exact this
      refine T_fail hG hJ1.2.1 ?_
      rw [ans b]
      intro μ2 a b2
      have a : cInv (setF S k b) μ2 := a
      have hJ2 : Js (setF S k b) μ2 := ⟨hS.fail hg, a, (hJ1.2.2.fr b2.la).of ⟨rfl, rfl, rfl⟩ rfl (fun _ _ _ _ => rfl)⟩
      exact ⟨fun _ => k125 _ k b μ2 rfl hJ2 hk hb0 hb1, fun hc => absurd rfl hc⟩
    exact ⟨fun hne => step false (fun _ => rfl) (fun hc => absurd hc hne), fun he => step true (fun hc => absurd he hc) (fun _ => rfl)⟩
  unfold F_L_others_e
  intro v5 hv5
  rw [show (6 : Int32) = nI 6 from rfl, rmx hx (by omega) (by omega)] at hv5
  have hw : x % 6 < 6 := Nat.mod_lt _ (by omega)
  generalize x % 6 = w at hv5 hw
  subst hv5
  rw [c2 hJ]
  refine ⟨fun _ => k78 w μ hJ hw, fun _ => ⟨inN (k := 2) (by omega) (by omega), fun _ => k78 w μ hJ hw, fun hlt => ⟨inN (k := 2) (by omega) (by omega), fun hc => hlt (by rw [hc]; decide), fun v6 hv6 => ?_⟩⟩⟩
  have hR0 : 0 < nRq S := Decidable.byContradiction fun hc => hlt (le_nI (k := 0) (by omega) (by omega))
  rw [rmx hy hR0 (by omega)] at hv6
  have hi : y % nRq S < nRq S := Nat.mod_lt _ hR0
  generalize y % nRq S = i at hv6 hi
  subst hv6
  refine T_told_ok (y := 0) hG hJ.2.1 hi (by omega) (fun μ2 a b => ?_)
  have hJ2 := hJ.go a b
  have ti : toN (nI i) = i := toN_nI (by omega)
  refine A_end hG hJ2.2.1 ?_
  rw [vT_0]
  by_cases h14 : S.2.2 i 0 14 = 0
  · have e : o_end S (nI i) = (0, 0, endS S i) := by unfold o_end; rw [if_pos (inR_t (by omega) hi), ti, if_pos h14]
    rw [e, if_pos h14]
    intro μ3 a b
    have a : cInv (endS S i) μ3 := a
    have hJ3 : Js (endS S i) μ3 := ⟨hS.end_ hi, a, (hJ2.2.2.fr b.la).of ⟨rfl, rfl, rfl⟩ rfl (fun j x y hxy => end_x S i j x y hxy)⟩
    have e14 : (endS S i).2.2 i 0 14 ≠ 0 := by
      show (updR S i (endR (S.2.2 i))).2.2 i 0 14 ≠ 0
      rw [updR_i, endR_14]; decide
    exact ⟨fun _ => ⟨fun _ => k58 _ i μ3 0 hJ3 hi rfl rfl rfl e14, fun hc => absurd hc (by decide)⟩, fun hc => absurd rfl hc⟩
  · have e : o_end S (nI i) = (2, 0, S) := by unfold o_end; rw [if_pos (inR_t (by omega) hi), ti, if_neg h14]
    rw [e, if_neg h14]
    intro μ3 a b
    have hJ3 := hJ2.go a b
    exact ⟨fun hc => (by cases hc), fun _ => ⟨fun hc => (by cases hc), fun _ => ⟨fun hc => absurd rfl hc, fun _ => k58 S i μ3 _ hJ3 hi rfl rfl rfl h14⟩⟩⟩
