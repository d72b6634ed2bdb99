/-! the move that lets the draft in -/
def frOk (S : St) (i k v : Nat) : Bool := mvb (S.2.2 i) && !decide (S.2.2 i 3 k = v) && mvOk S i k v && !(LSt (mvS S i k v)).isEmpty
def prT (S : St) (t : Nat) : Bool := decide (t / 6 % 3 < S.2.2 (t / 18) 0 10) && decide (t % 6 < nNd S) && frOk S (t / 18) (t / 6 % 3) (t % 6)
def ndT (S : St) (t : Nat) : Nat := S.2.2 (t / 18) 1 (t / 6 % 3)
def cdT (t : Nat) : Int32 := nI (100 * (t / 18) + 10 * (t / 6 % 3) + t % 6)
def FrR (S : St) (z : Int32) : Prop := (z = -1 ∧ ∀ t, t < 18 * nRq S → prT S t = false) ∨ ∃ t, t < 18 * nRq S ∧ prT S t = true ∧ z = cdT t ∧ (∀ u, u < 18 * nRq S → prT S u = true → ndT S t ≤ ndT S u) ∧ ∀ u, u < t → prT S u = true → ndT S t < ndT S u
theorem FrR.uniq {S : St} {z z2 : Int32} (h : FrR S z) (h2 : FrR S z2) : z = z2 := by
  rcases h with ⟨h, ha⟩ | ⟨t, t1, t2, t3, t4, t5⟩
  · rcases h2 with ⟨h2, -⟩ | ⟨u, u1, u2, -⟩
    · rw [h, h2]
    · rw [ha u u1] at u2; cases u2
  · rcases h2 with ⟨-, ha⟩ | ⟨u, u1, u2, u3, u4, u5⟩
    · rw [ha t t1] at t2; cases t2
    · have : t = u := by
        have a1 := t4 u u1 u2
        have a2 := u4 t t1 t2
        by_cases hlt : t < u
        · have := u5 t hlt t2; omega
        · by_cases hgt : u < t
          · have := t5 u hgt u2; omega
          · omega
      rw [t3, u3, this]
def frS (S : St) (z : Int32) : Prop := if dft S 0 10 = 0 ∨ (LSt S).isEmpty = false then z = -1 else FrR S z
theorem frS.uniq {S : St} {z z2 : Int32} (h : frS S z) (h2 : frS S z2) : z = z2 := by
  unfold frS at *
  by_cases hc : dft S 0 10 = 0 ∨ (LSt S).isEmpty = false
  · rw [if_pos hc] at h h2; rw [h, h2]
  · rw [if_neg hc] at h h2; exact h.uniq h2
theorem mvS_dft {S : St} {i k v : Nat} (hi : i < nRq S) : dft (mvS S i k v) = dft S := updR_ne (show nRq S ≠ i by omega)
theorem Ms.run {S : St} {i k v : Nat} {w : Nat → Nat} {μ0 μ μ2 : Mm} (h : Ms S i k v w μ0 μ) (hi : i < nRq S) (hs : Sm (dR (p_RQ + 11 * nRq S)) μ μ2) : Ms S i k v w μ0 μ2 := by
  obtain ⟨h1, h2, h3, h4, h5⟩ := h
  have hp : p_RQ + 11 * nRq S = 105 + 11 * nRq S := rfl
  have hp2 : p_RQ + 11 * i = 105 + 11 * i := rfl
  have k : ∀ c, ¬ dR (p_RQ + 11 * nRq S) c → μ2 c = μ c := fun c hc => hs c hc
  refine ⟨h1.tr (hs.mono (fun c hc => by unfold dR dS at hc; unfold dM; omega)), h2.fr (fun c hc => k c (by unfold dK at hc; unfold dR dS; omega)), fun j hj => ?_, fun l hl => ?_, h5⟩
  · rw [k _ (by unfold dR dS; omega)]; exact h3 j hj
  · rw [k _ (by unfold dR dS; omega)]; exact h4 l hl
theorem s_freeingNode {S : St} {i k need : Nat} {μ : Mm} {q : Int32 → Mm → Prop} (hG : Good S) (hI : cInv S μ) (hi : i < nRq S) (hk : k < S.2.2 i 0 10) (hr1 : 1 ≤ dft S 0 10) (hnd : need ≤ 20)
    (h1 : ∀ μ2 v, cInv S μ2 → (∀ c, mCell c → μ2 c = μ c) → v < nNd S → S.2.2 i 1 k = need → frOk S i k v = true → (∀ u, u < v → frOk S i k u = false) → q (nI v) μ2)
    (h2 : ∀ μ2, cInv S μ2 → (∀ c, mCell c → μ2 c = μ c) → (S.2.2 i 1 k = need → ∀ v, v < nNd S → frOk S i k v = false) → q (-1) μ2) : Wp_X7_freeingNode (p_RQ + 11 * i) (nI k) (nI need) μ q := by
  have hb := hG.b hi
  have hgd := hG.d (hG.i hi)
  have h10 := hgd.1
  have hN := hG.1
  have hn := hG.n
  have hc := hI.rq hG hi
  have hnk := (hgd.2.2.1 k hk).2.1
  unfold Wp_X7_freeingNode
  intro K29 K83 h29 h83
  unfold F_X7_freeingNode_e
  rw [nI_clamp (by omega), (hc.1.2.2.2.1 k hk).1, e1 (by omega) (by omega)]
  refine ⟨inN (by omega) (by omega), ?_⟩
  by_cases hne : S.2.2 i 1 k = need
  · refine rb_t hne ?_
    refine s_isMovable hb hc.1 hc.2.2 (hI.2.2.2.2.2 i hi).2.2.1 ?_
    refine bqr (fun hm => ?_) (fun hm => ?_)
    · refine h2 μ hI (fun _ _ => rfl) (fun _ v _ => ?_)
      unfold frOk
      rw [hm]; rfl
    · have hM : Mvb (S.2.2 i) := Mvb.of (hG.p hi).1 hm
      refine s_nodeOf h10 hc.1.1 hk ?_
      rw [hc.2.1 k hk]
      have hr3 := (hG.ok hi).1 k hk
      refine dn (P := fun v => (∀ u, u < v → frOk S i k u = false) → ∀ μ2, cInv S μ2 → (∀ c, mCell c → μ2 c = μ c) → K29 (nI k) (nI (S.2.2 i 3 k)) (nI v) μ2) (n := nNd S) ?_ ?_ (fun u hu => by omega) μ hI (fun _ _ => rfl)
      · intro hall μ2 hI2 hm2
        refine h29 _ _ _ _ ?_
        unfold F_X7_freeingNode_29
        rw [hI2.1.2.1]
        refine br_t (le_nI (Nat.le_refl _) (by omega)) (h2 μ2 hI2 hm2 (fun _ => hall))
      · intro v hv hnx hall μ2 hI2 hm2
        refine h29 _ _ _ _ ?_
        unfold F_X7_freeingNode_29
        rw [hI2.1.2.1]
        refine br_f (not_le_nI hv (by omega)) ?_
        rw [e1 (by omega) (by omega), i1]
        have hnx2 : frOk S i k v = false → ∀ μ3, cInv S μ3 → (∀ c, mCell c → μ3 c = μ c) → K29 (nI k) (nI (S.2.2 i 3 k)) (nI (v + 1)) μ3 := fun hf => hnx (fun u hu => by
          by_cases huv : u = v
          · rw [huv]; exact hf
          · exact hall u (by omega))
        by_cases hvh : v = S.2.2 i 3 k
        · refine br_t hvh (hnx2 ?_ μ2 hI2 hm2)
          unfold frOk
          rw [decide_eq_true hvh.symm, Bool.not_true, Bool.and_false, Bool.false_and, Bool.false_and]
        refine br_f hvh ?_
        have hkv : decide (S.2.2 i 3 k = v) = false := decide_eq_false (fun hx => hvh hx.symm)
        refine s_shift hG hI2 hi hm hk hv (fun μ3 g1 g2 hm3 => ?_)
        have hm03 : ∀ c, mCell c → μ3 c = μ c := fun c hc => (hm3 c hc).trans (hm2 c hc)
        cases hok : mvOk S i k v with
        | false =>
          refine ⟨fun _ => hnx2 ?_ μ3 (g2 hok) hm03, fun hc => absurd rfl hc⟩
          unfold frOk
          rw [hok, Bool.and_false, Bool.false_and]
        | true =>
          refine ⟨fun hc => absurd hc (by decide), fun _ => ?_⟩
          obtain ⟨hMs, e53, e20⟩ := g1 hok
          have hI3 : cInv (mvS S i k v) μ3 := hMs.inv hG hI2 hi hM
          have hG3 := mvS_good hG hi hM hv hok
          refine tt_draft hG3 hI3 ?_
          have hr13 : 1 ≤ dft (mvS S i k v) 0 10 := by rw [mvS_dft hi]; exact hr1
          refine c_run (M := 2) hG3 hI3 hr13 (by omega) (fun μ4 B hB hRB hs4 => ?_)
          have hs4 : Sm (dR (p_RQ + 11 * nRq S)) μ3 μ4 := hs4
          have hMs4 := hMs.run hi hs4
          have hp : p_RQ + 11 * nRq S = 105 + 11 * nRq S := rfl
          have tb : ∀ y : Bool, y = !(LSt (mvS S i k v)).isEmpty → K83 (nI k) (nI (S.2.2 i 3 k)) (nI v) (bI y) μ4 := by
            intro y hy
            refine h83 _ _ _ _ _ ?_
            unfold F_X7_freeingNode_83
            refine s_takeBack hG hI2 hi hM hk hv hMs4 (fun l hl hx => by unfold nwW; rw [if_neg (by rw [hx]; decide)]) (by rw [hs4 5 (by unfold dR dS; omega)]; exact e53) (fun l hl hx => by rw [hs4 20 (by unfold dR dS; omega)]; exact e20 l hl hx) (fun μ5 hI5 hm5 => ?_)
            have hm05 : ∀ c, mCell c → μ5 c = μ c := fun c hc => (hm5 c hc).trans (hm2 c hc)
            have hfr : frOk S i k v = y := by unfold frOk; rw [hm, hkv, hok, hy]; rfl
            rw [i1]
            refine bq (fun hyy => ?_) (fun hyy => ?_)
            · exact hnx2 (by rw [hfr, hyy]) μ5 hI5 hm05
            · exact h1 μ5 v hI5 hm05 hv hne (by rw [hfr, hyy]) hall
          rw [vB_none hB.lt]
          have hbs := hRB.b2
          cases hBs : B.isSome with
          | false => exact br_t rfl (tb false (by rw [← hbs, hBs]))
          | true => exact br_f (by decide) (tb true (by rw [← hbs, hBs]))
  · refine rb_f hne (h2 μ hI (fun _ _ => rfl) (fun hx => absurd hx hne))
theorem tt_freeing {S : St} {μ : Mm} {q : Int32 → Mm → Prop} (hG : Good S) (hI : cInv S μ) (h : ∀ μ2 z, cInv S μ2 → (∀ c, mCell c → μ2 c = μ c) → frS S z → q z μ2) : Wp_X7_freeing μ q := by
  have hn := hG.n
  have hd := hG.d hn
  unfold Wp_X7_freeing
  intro K30 K38 K48 h30 h38 h48
  unfold F_X7_freeing_e
  refine tt_draft hG hI ?_
  rw [(hI.2.2.2.2.1 _ hn).1, e0 (by have := hd.1; omega)]
  by_cases hz : dft S 0 10 = 0
  · exact br_t hz (h μ _ hI (fun _ _ => rfl) (by unfold frS; rw [if_pos (Or.inl hz)]))
  refine br_f hz ?_
  refine tt_draft hG hI ?_
  refine c_run (M := 2) hG hI (by omega) (by omega) (fun μ1 B hB hRB hs => ?_)
  have hI1 := hI.run hG hs
  have hm1 : ∀ c, mCell c → μ1 c = μ c := hs.m (by show 105 ≤ 105 + _; omega)
  rw [vB_none hB.lt]
  have hbs := hRB.b2
  cases hBs : B.isSome with
  | true =>
    refine br_f (by decide) (h μ1 _ hI1 hm1 ?_)
    unfold frS
    rw [if_pos (Or.inr ?_)]
    rw [hBs] at hbs
    revert hbs
    cases (LSt S).isEmpty <;> simp
  | false =>
    refine br_t rfl ?_
    have hemp : (LSt S).isEmpty = true := by
      rw [hBs] at hbs
      revert hbs
      cases (LSt S).isEmpty <;> simp
    have hfr : ∀ z, FrR S z → frS S z := fun z hz2 => by
      unfold frS
      rw [if_neg (fun hx => hx.elim hz (fun hy => by rw [hemp] at hy; cases hy))]
      exact hz2
    -- needs from a on
    have key : ∀ m a, a + m = 21 → 1 ≤ a → (∀ t, t < 18 * nRq S → prT S t = true → a ≤ ndT S t) → ∀ μ2, cInv S μ2 → (∀ c, mCell c → μ2 c = μ c) → K30 (nI a) μ2 := by
      intro m
      induction m with
      | zero =>
        intro a ha h1a hmin μ2 hI2 hm2
        refine h30 _ _ ?_
        unfold F_X7_freeing_30
        refine br_t (of_eq_true (ltT (n := 20) (k := a) (by omega) (by omega))) (h μ2 _ hI2 hm2 (hfr _ (Or.inl ⟨rfl, fun t ht => ?_⟩)))
        cases hpt : prT S t with
        | false => rfl
        | true =>
          have h3 := hmin t ht hpt
          unfold prT at hpt
          rw [Bool.and_eq_true, Bool.and_eq_true] at hpt
          have hk := of_decide_eq_true hpt.1.1
          have := ((hG.d (i := t / 18) (by omega)).2.2.1 _ hk).2.1
          unfold ndT at h3
          omega
      | succ m ih =>
        intro a ha h1a hmin μ2 hI2 hm2
        refine h30 _ _ ?_
        unfold F_X7_freeing_30
        refine br_f (fun hx => by rw [show (20 : Int32) = nI 20 from rfl, ltF (by omega) (by omega)] at hx; exact hx) ?_
        -- requests
        refine dn (P := fun i => (∀ t, t < 18 * nRq S → prT S t = true → ndT S t = a → i ≤ t / 18) → ∀ μ2, cInv S μ2 → (∀ c, mCell c → μ2 c = μ c) → K38 (nI a) (nI i) μ2) (n := nRq S) ?_ ?_ (fun t _ _ _ => Nat.zero_le _) μ2 hI2 hm2
        · intro hno μ3 hI3 hm3
          refine h38 _ _ _ ?_
          unfold F_X7_freeing_38
          rw [hI3.2.2.1]
          refine br_t (le_nI (Nat.le_refl _) (by omega)) ?_
          rw [i1]
          refine ih (a + 1) (by omega) (by omega) (fun t ht hpt => ?_) μ3 hI3 hm3
          have h1 := hmin t ht hpt
          by_cases he : ndT S t = a
          · have := hno t ht hpt he; omega
          · omega
        · intro i hi hnxi hno μ3 hI3 hm3
          refine h38 _ _ _ ?_
          unfold F_X7_freeing_38
          rw [hI3.2.2.1]
          refine br_f (not_le_nI hi (by omega)) ?_
          have hgd := hG.d (hG.i hi)
          have h10 := hgd.1
          -- parts
          refine dn (P := fun k => (∀ t, t < 18 * nRq S → prT S t = true → ndT S t = a → i < t / 18 ∨ (t / 18 = i ∧ k ≤ t / 6 % 3)) → ∀ μ3, cInv S μ3 → (∀ c, mCell c → μ3 c = μ c) → K48 (nI a) (nI i) (nI k) μ3) (n := S.2.2 i 0 10) ?_ ?_ (fun t ht hpt he => by have := hno t ht hpt he; omega) μ3 hI3 hm3
          · intro hnok μ4 hI4 hm4
            refine h48 _ _ _ _ ?_
            unfold F_X7_freeing_48
            rw [nI_clamp (by omega), (hI4.2.2.2.2.1 i (hG.i hi)).1, i1]
            refine ⟨inN (by omega) (by omega), br_t (le_nI (Nat.le_refl _) (by omega)) (hnxi (fun t ht hpt he => ?_) μ4 hI4 hm4)⟩
            rcases hnok t ht hpt he with h1 | ⟨h1, h2⟩
            · omega
            · have hpt2 := hpt
              unfold prT at hpt2
              rw [Bool.and_eq_true, Bool.and_eq_true] at hpt2
              have hk := of_decide_eq_true hpt2.1.1
              rw [h1] at hk
              omega
          · intro k hk hnxk hnok μ4 hI4 hm4
            refine h48 _ _ _ _ ?_
            unfold F_X7_freeing_48
            rw [nI_clamp (show i < 2 ^ 31 by omega), (hI4.2.2.2.2.1 i (hG.i hi)).1, i1]
            refine ⟨inN (by omega) (by omega), br_f (not_le_nI hk (by omega)) ⟨inN (by omega) (by omega), ?_⟩⟩
            have hN := hG.1
            refine s_freeingNode hG hI4 hi hk (by omega) (by omega) (fun μ5 v hI5 hm5 hv hne hfrv hlow => ?_) (fun μ5 hI5 hm5 hnone => ?_)
            · refine br_f (nm1 (n := v) (by omega)) ?_
              have hm05 : ∀ c, mCell c → μ5 c = μ c := fun c hc => (hm5 c hc).trans (hm4 c hc)
              have t18 : (18 * i + 6 * k + v) / 18 = i := by omega
              have t63 : (18 * i + 6 * k + v) / 6 % 3 = k := by omega
              have t6 : (18 * i + 6 * k + v) % 6 = v := by omega
              have hpr : prT S (18 * i + 6 * k + v) = true := by
                unfold prT
                rw [t18, t63, t6, decide_eq_true hk, decide_eq_true hv, hfrv]; rfl
              have hnd : ndT S (18 * i + 6 * k + v) = a := by unfold ndT; rw [t18, t63]; exact hne
              have hcd : (100 : Int32) * nI i + (10 : Int32) * nI k + nI v = cdT (18 * i + 6 * k + v) := by
                unfold cdT
                rw [t18, t63, t6, show (100 : Int32) = nI 100 from rfl, show (10 : Int32) = nI 10 from rfl, pk_mul, pk_mul, nI_add, nI_add]
              rw [hcd]
              refine h μ5 _ hI5 hm05 (hfr _ (Or.inr ⟨18 * i + 6 * k + v, by omega, hpr, rfl, fun u hu hpu => ?_, fun u hu hpu => ?_⟩))
              · rw [hnd]; exact hmin u hu hpu
              · rw [hnd]
                have h1 := hmin u (by omega) hpu
                by_cases he : ndT S u = a
                · exfalso
                  rcases hnok u (by omega) hpu he with h2 | ⟨h2, h3⟩
                  · omega
                  · have hk2 : u / 6 % 3 = k := by omega
                    have hv2 : u % 6 < v := by omega
                    unfold prT at hpu
                    rw [Bool.and_eq_true, Bool.and_eq_true, h2, hk2, hlow _ hv2] at hpu
                    cases hpu.2
                · omega
            · rw [i1]
              refine br_t rfl (hnxk (fun t ht hpt he => ?_) μ5 hI5 (fun c hc => (hm5 c hc).trans (hm4 c hc)))
              rcases hnok t ht hpt he with h1 | ⟨h1, h2⟩
              · exact Or.inl h1
              · right
                refine ⟨h1, ?_⟩
                by_cases hk2 : t / 6 % 3 = k
                · exfalso
                  have hpt2 := hpt
                  unfold prT at hpt2
                  rw [Bool.and_eq_true, Bool.and_eq_true, h1, hk2] at hpt2
                  unfold ndT at he
                  rw [h1, hk2] at he
                  rw [hnone he _ (of_decide_eq_true hpt2.1.2)] at hpt2
                  cases hpt2.2
                · omega
    refine key 20 1 (by omega) (by omega) (fun t ht hpt => ?_) μ1 hI1 hm1
    unfold prT at hpt
    rw [Bool.and_eq_true, Bool.and_eq_true] at hpt
    have hk := of_decide_eq_true hpt.1.1
    exact ((hG.d (i := t / 18) (by omega)).2.2.1 _ hk).1
/-! the reference -/
theorem s_letsIn {S : St} {i k v : Nat} {μ : Mm} {q : Bool → Mm → Prop} (hG : Good S) (hI : mInv S μ) (hi : i < nRq S) (hmb : mvb (S.2.2 i) = true) (hk : k < S.2.2 i 0 10) (hv : v < nNd S) (hr1 : 1 ≤ dft S 0 10) (h : ∀ μ2, mInv S μ2 → Sm mCell μ μ2 → q (frOk S i k v) μ2) : Wp_X8_letsIn (nI i) (nI k) (nI v) μ q := by
  have hM : Mvb (S.2.2 i) := Mvb.of (hG.p hi).1 hmb
  have hgd := hG.d (hG.i hi)
  have h10 := hgd.1
  have hN := hG.1
  have hi13 := hG.i hi
  have hr3 := (hG.ok hi).1 k hk
  unfold Wp_X8_letsIn
  intro K49 h49
  unfold F_X8_letsIn_e
  rw [nI_pk3, nI_add, nI_clamp (by omega), (hI.2.2.2.2 i hi).1 k hk, e1 (by omega) (by omega)]
  refine ⟨inN (by omega) (by omega), ?_⟩
  by_cases hkv : S.2.2 i 3 k = v
  · have : frOk S i k v = false := by
      unfold frOk
      rw [decide_eq_true hkv, Bool.not_true, Bool.and_false, Bool.false_and, Bool.false_and]
    rw [this] at h
    exact br_t hkv (h μ hI Sm.rf)
  refine br_f hkv ?_
  refine s_moves hG hI hi hk hv (fun μ1 s1 h1 h2 => ?_)
  cases hok : mvOk S i k v with
  | false =>
    have : frOk S i k v = false := by unfold frOk; rw [hok, Bool.and_false, Bool.false_and]
    rw [this] at h
    rw [if_neg (by decide)]
    exact rb_t rfl (h μ1 (h2 hok) (dX.m s1))
  | true =>
    rw [if_pos rfl]
    have hnw : nwS S i k v (S.2.2 i 0 11) < 2147483648 := by
      have h1 : nwS S i k v (S.2.2 i 0 11) ≤ sm (fun _ => 9) (S.2.2 i 0 11) := sm_le fun l _ => by
        split
        · exact pc_le _ (lt512 hG.L (fwp_lt (wl_W9 S.1 _ _)))
        · omega
      rw [sm_const] at h1
      have := hgd.2.1
      omega
    refine rb_f (nm1 hnw) ?_
    obtain ⟨hMx, ho⟩ := h1 hok
    have hI1 : mInv (mvS S i k v) μ1 := hMx.inv hG hI hi
    have hG1 := mvS_good hG hi hM hv hok
    refine r_sums hG1 hI1 (fun μ2 f2 hR2 hI2 => ?_)
    have hr13 : 1 ≤ dft (mvS S i k v) 0 10 := by rw [mvS_dft hi]; exact hr1
    refine r_least (any := true) hG1 hI2 hR2 hr13 (fun μ3 B hB hRB s3 => ?_)
    have f2' : Sm (fun c => 41 ≤ c ∧ c ≤ 51) μ1 μ2 := Sm.mono f2 (fun c hc => by rcases hc with rfl | rfl <;> decide)
    have hMx3 := (hMx.fr f2').fr (s3.mono (fun c hc => by unfold dL at hc; show 41 ≤ c ∧ c ≤ 51; omega))
    have ho3 : ∀ l, l < S.2.2 i 0 11 → μ3 51 l = nI (S.2.2 i 7 l) := fun l hl => by
      rw [s3 51 (by unfold dL; omega), f2 51 (by decide)]; exact ho l hl
    have tb : ∀ y : Bool, y = !(LSt (mvS S i k v)).isEmpty → K49 (nI i) (nI k) (nI (S.2.2 i 3 k)) (bI y) μ3 := by
      intro y hy
      refine h49 _ _ _ _ _ ?_
      unfold F_X8_letsIn_49
      refine s_back hG hI hi hk hMx3 ho3 (fun μ4 s4 hI4 => ex_bI ?_)
      have hfr : frOk S i k v = y := by unfold frOk; rw [hmb, decide_eq_false hkv, hok, hy]; rfl
      rw [hfr] at h
      exact h μ4 hI4 (dX.m s4)
    rw [vB_none hB.lt2]
    have hbs := hRB.b2
    cases hBs : B.isSome with
    | false => exact br_t rfl (tb false (by rw [← hbs, hBs]))
    | true => exact br_f (by decide) (tb true (by rw [← hbs, hBs]))
theorem d18_all : ∀ t, t < 216 → nI t / (18 : Int32) = nI (t / 18) := by decide +kernel
theorem rr_freeing {S : St} {μ : Mm} {q : Int32 → Mm → Prop} (hG : Good S) (hI : mInv S μ) (h : ∀ μ2 z, mInv S μ2 → Sm mCell μ μ2 → frS S z → q z μ2) : Wp_X8_freeing μ q := by
  have hn := hG.n
  have h12 := hG.2.1
  have hd := hG.d hn
  have hN := hG.1
  unfold Wp_X8_freeing
  intro K39 K123 h39 h123
  unfold F_X8_freeing_e
  refine r_sums hG hI.can (fun μ1 f1 hR1 hI1 => ?_)
  have s1 : Sm mCell μ μ1 := Sm.tr (Sm.up (Or.inl rfl)) (frR.m f1)
  rw [show μ1 p_MO 8 = nI (nRq S) from hI1.2.1, nI_clamp (by omega), (hI1.2.2.2.1 _ hn).1, e0 (by have := hd.1; omega)]
  refine ⟨inN (by omega) (by omega), ?_⟩
  by_cases hz : dft S 0 10 = 0
  · exact br_t hz (h μ1 _ hI1 s1 (by unfold frS; rw [if_pos (Or.inl hz)]))
  have hr1 : 1 ≤ dft S 0 10 := by omega
  refine br_f hz ?_
  refine r_least (any := true) hG hI1 hR1 hr1 (fun μ2 B hB hRB hs => ?_)
  have hI2 : mInv S μ2 := hI1.dL hs
  have s2 := s1.tr (dL.m hs)
  rw [vB_none hB.lt2]
  have hbs := hRB.b2
  cases hBs : B.isSome with
  | true =>
    refine br_f (by decide) (h μ2 _ hI2 s2 ?_)
    unfold frS
    rw [if_pos (Or.inr ?_)]
    rw [hBs] at hbs
    revert hbs
    cases (LSt S).isEmpty <;> simp
  | false =>
    refine br_t rfl ?_
    have hemp : (LSt S).isEmpty = true := by
      rw [hBs] at hbs
      revert hbs
      cases (LSt S).isEmpty <;> simp
    have hfr : ∀ z, FrR S z → frS S z := fun z hz2 => by
      unfold frS
      rw [if_neg (fun hx => hx.elim hz (fun hy => by rw [hemp] at hy; cases hy))]
      exact hz2
    -- the best so far
    refine dn (P := fun t => ∀ (z : Int32) (need : Nat), (z = -1 ∧ need = 99 ∧ ∀ u, u < t → prT S u = false) ∨ (∃ t0, t0 < t ∧ prT S t0 = true ∧ z = cdT t0 ∧ need = ndT S t0 ∧ (∀ u, u < t → prT S u = true → ndT S t0 ≤ ndT S u) ∧ ∀ u, u < t0 → prT S u = true → ndT S t0 < ndT S u) → ∀ μ3, mInv S μ3 → Sm mCell μ μ3 → K39 z (nI need) (nI t) μ3) (n := 18 * nRq S) ?_ ?_ (-1) 99 (Or.inl ⟨rfl, rfl, fun u hu => by omega⟩) μ2 hI2 s2
    · intro z need hst μ3 hI3 s3
      refine h39 _ _ _ _ ?_
      unfold F_X8_freeing_39
      rw [show μ3 p_MO 8 = nI (nRq S) from hI3.2.1, nI_pk3, nI_pk6]
      refine br_t (le_nI (by omega) (by omega)) (h μ3 z hI3 s3 (hfr z ?_))
      rcases hst with ⟨h1, h2, h3⟩ | ⟨t0, h1, h2, h3, h4, h5, h6⟩
      · exact Or.inl ⟨h1, h3⟩
      · exact Or.inr ⟨t0, h1, h2, h3, h5, h6⟩
    · intro t ht hnx z need hst μ3 hI3 s3
      refine h39 _ _ _ _ ?_
      unfold F_X8_freeing_39
      have ht216 : t < 216 := by omega
      obtain ⟨d1, d2⟩ := d6_all t ht216
      rw [show μ3 p_MO 8 = nI (nRq S) from hI3.2.1, nI_pk3, nI_pk6, d18_all t ht216, d1, d2, d3 (by omega), r3 (by omega)]
      refine br_f (not_le_nI (by omega) (by omega)) ?_
      have hi : t / 18 < nRq S := by omega
      have hgd := hG.d (hG.i hi)
      have h10 := hgd.1
      have hb := hG.b hi
      have hq := hI3.2.2.2.1 _ (hG.i hi)
      have hn99 : need ≤ 99 := by
        rcases hst with ⟨h1, h2, h3⟩ | ⟨t0, h1, h2, h3, h4, h5, h6⟩
        · omega
        · unfold prT at h2
          rw [Bool.and_eq_true, Bool.and_eq_true] at h2
          have := ((hG.d (i := t0 / 18) (by omega)).2.2.1 _ (of_decide_eq_true h2.1.1)).2.1
          unfold ndT at h4
          omega
      -- not this one
      have no : (prT S t = true → need ≤ ndT S t) → (prT S t = true → need ≠ 99) → ∀ μ4, mInv S μ4 → Sm mCell μ μ4 → K39 z (nI need) (nI (t + 1)) μ4 := by
        intro hno hno2 μ4 hI4 s4
        refine hnx z need ?_ μ4 hI4 s4
        rcases hst with ⟨h1, h2, h3⟩ | ⟨t0, h1, h2, h3, h4, h5, h6⟩
        · refine Or.inl ⟨h1, h2, fun u hu => ?_⟩
          by_cases hut : u = t
          · subst hut
            cases hpt : prT S u with
            | false => rfl
            | true => exact absurd h2 (hno2 hpt)
          · exact h3 u (by omega)
        · refine Or.inr ⟨t0, by omega, h2, h3, h4, fun u hu hpu => ?_, h6⟩
          by_cases hut : u = t
          · subst hut; rw [← h4]; exact hno hpu
          · exact h5 u (by omega) hpu
      have k123f : prT S t = false → ∀ μ4, mInv S μ4 → Sm mCell μ μ4 → K123 z (nI need) (nI t) (nI (t / 18)) (nI (t / 6 % 3)) (nI (t % 6)) 0 μ4 := by
        intro hf μ4 hI4 s4
        refine h123 _ _ _ _ _ _ _ _ ?_
        unfold F_X8_freeing_123
        rw [i1]
        exact br_t rfl (no (fun hx => by rw [hf] at hx; cases hx) (fun hx => by rw [hf] at hx; cases hx) μ4 hI4 s4)
      refine s_canMove (hG.i hi) hb hq (hI3.2.2.2.2 _ hi).2.1 (hI3.2.2.2.2 _ hi).2.2.1 ?_
      refine bq (fun hm => k123f (by unfold prT frOk; rw [hm]; simp) μ3 hI3 s3) (fun hm => ?_)
      rw [nI_clamp (by omega), hq.1, show μ3 p_MO 1 = nI (nNd S) from hI3.1.2.1, nI_pk3, nI_add, nI_clamp (show 3 * (t / 18) + t / 6 % 3 < 2 ^ 31 by omega)]
      refine ⟨inN (by omega) (by omega), ?_⟩
      by_cases hk : t / 6 % 3 < S.2.2 (t / 18) 0 10
      · refine br_f (not_le_nI hk (by omega)) ?_
        by_cases hv : t % 6 < nNd S
        · refine br_f (not_le_nI hv (by omega)) ⟨inN (by omega) (by omega), ?_⟩
          have hnd := hgd.2.2.1 _ hk
          have hpr : prT S t = frOk S (t / 18) (t / 6 % 3) (t % 6) := by
            unfold prT
            rw [decide_eq_true hk, decide_eq_true hv]; rfl
          rw [(hq.2.2.2.1 _ hk).1]
          by_cases hlt : ndT S t < need
          · have hlt2 : S.2.2 (t / 18) 1 (t / 6 % 3) < need := hlt
            refine br_f (not_le_nI hlt2 (by omega)) (h123 _ _ _ _ _ _ _ _ ?_)
            unfold F_X8_freeing_123
            refine br_f (by decide) ?_
            refine s_letsIn hG hI3 hi hm hk hv hr1 (fun μ4 hI4 s4 => ?_)
            have s04 := s3.tr s4
            rw [← hpr]
            refine bq (fun hp => ?_) (fun hp => ?_)
            · rw [i1]
              exact no (fun hx => by rw [hp] at hx; cases hx) (fun hx => by rw [hp] at hx; cases hx) μ4 hI4 s04
            · rw [i1, nI_pk3, nI_add, nI_clamp (show 3 * (t / 18) + t / 6 % 3 < 2 ^ 31 by omega), ((hI4.2.2.2.1 _ (hG.i hi)).2.2.2.1 _ hk).1]
              refine ⟨inN (by omega) (by omega), ?_⟩
              have hcd : (100 : Int32) * nI (t / 18) + (10 : Int32) * nI (t / 6 % 3) + nI (t % 6) = cdT t := by
                unfold cdT
                rw [show (100 : Int32) = nI 100 from rfl, show (10 : Int32) = nI 10 from rfl, pk_mul, pk_mul, nI_add, nI_add]
              rw [hcd]
              refine hnx (cdT t) (S.2.2 (t / 18) 1 (t / 6 % 3)) (Or.inr ⟨t, by omega, hp, rfl, rfl, fun u hu hpu => ?_, fun u hu hpu => ?_⟩) μ4 hI4 s04
              · by_cases hut : u = t
                · subst hut; exact Nat.le_refl _
                · rcases hst with ⟨h1, h2, h3⟩ | ⟨t0, h1, h2, h3, h4, h5, h6⟩
                  · rw [h3 u (by omega)] at hpu; cases hpu
                  · have := h5 u (by omega) hpu; omega
              · rcases hst with ⟨h1, h2, h3⟩ | ⟨t0, h1, h2, h3, h4, h5, h6⟩
                · rw [h3 u (by omega)] at hpu; cases hpu
                · have := h5 u (by omega) hpu; omega
          · have hle : need ≤ S.2.2 (t / 18) 1 (t / 6 % 3) := by unfold ndT at hlt; omega
            refine br_t (le_nI hle (by omega)) (h123 _ _ _ _ _ _ _ _ ?_)
            unfold F_X8_freeing_123
            rw [i1]
            exact br_t rfl (no (fun _ => hle) (fun _ hx => by omega) μ3 hI3 s3)
        · exact br_t (le_nI (by omega) (by omega)) (k123f (by unfold prT; rw [decide_eq_false hv]; simp) μ3 hI3 s3)
      · exact br_t (le_nI (by omega) (by omega)) (k123f (by unfold prT; rw [decide_eq_false hk]; simp) μ3 hI3 s3)
