/-! the move that lets the draft in -/
def frOk (S : St) (i k v : Nat) : Bool := mvb (S.2.2 i) && !decide (S.2.2 i 3 k = v) && mvOk S i k v && !(LSt (mvS S i k v)).isEmpty
def prT (S : St) (t : Nat) : Bool := decide (t / 6 % 3 < S.2.2 (t / 18) 0 10) && decide (t % 6 < nNd S) && frOk S (t / 18) (t / 6 % 3) (t % 6)
def ndT (S : St) (t : Nat) : Nat := S.2.2 (t / 18) 1 (t / 6 % 3)
def cdT (t : Nat) : Int32 := nI (100 * (t / 18) + 10 * (t / 6 % 3) + t % 6)
def FrR (S : St) (z : Int32) : Prop := (z = -1 ∧ ∀ t, t < 18 * nRq S → prT S t = false) ∨ ∃ t, t < 18 * nRq S ∧ prT S t = true ∧ z = cdT t ∧ (∀ u, u < 18 * nRq S → prT S u = true → ndT S t ≤ ndT S u) ∧ ∀ u, u < t → prT S u = true → ndT S t < ndT S u
theorem FrR.uniq {S : St} {z z2 : Int32} (h : FrR S z) (h2 : FrR S z2) : z = z2 := by
  rcases h with ⟨h, ha⟩ | ⟨t, t1, t2, t3, t4, t5⟩
  · rcases h2 with ⟨h2, -⟩ | ⟨u, u1, u2, -⟩
    · rw [h, h2]
    · rw [ha u u1] at u2; cases u2
  · rcases h2 with ⟨-, ha⟩ | ⟨u, u1, u2, u3, u4, u5⟩
    · rw [ha t t1] at t2; cases t2
    · have : t = u := by
        have a1 := t4 u u1 u2
        have a2 := u4 t t1 t2
        by_cases hlt : t < u
        · have := u5 t hlt t2; omega
        · by_cases hgt : u < t
          · have := t5 u hgt u2; omega
          · omega
      rw [t3, u3, this]
def frS (S : St) (z : Int32) : Prop := if dft S 0 10 = 0 ∨ (LSt S).isEmpty = false then z = -1 else FrR S z
theorem frS.uniq {S : St} {z z2 : Int32} (h : frS S z) (h2 : frS S z2) : z = z2 := by
  unfold frS at *
  by_cases hc : dft S 0 10 = 0 ∨ (LSt S).isEmpty = false
  · rw [if_pos hc] at h h2; rw [h, h2]
  · rw [if_neg hc] at h h2; exact h.uniq h2
theorem mvS_dft {S : St} {i k v : Nat} (hi : i < nRq S) : dft (mvS S i k v) = dft S := updR_ne (show nRq S ≠ i by omega)
theorem Ms.run {S : St} {i k v : Nat} {w : Nat → Nat} {μ0 μ μ2 : Mm} (h : Ms S i k v w μ0 μ) (hi : i < nRq S) (hs : Sm (dR (p_RQ + 11 * nRq S)) μ μ2) : Ms S i k v w μ0 μ2 := by
  obtain ⟨h1, h2, h3, h4, h5⟩ := h
  have hp : p_RQ + 11 * nRq S = 105 + 11 * nRq S := rfl
  have hp2 : p_RQ + 11 * i = 105 + 11 * i := rfl
  have k : ∀ c, ¬ dR (p_RQ + 11 * nRq S) c → μ2 c = μ c := fun c hc => hs c hc
  refine ⟨h1.tr (hs.mono (fun c hc => by unfold dR dS at hc; unfold dM; omega)), h2.fr (fun c hc => k c (by unfold dK at hc; unfold dR dS; omega)), fun j hj => ?_, fun l hl => ?_, h5⟩
  · rw [k _ (by unfold dR dS; omega)]; exact h3 j hj
  · rw [k _ (by unfold dR dS; omega)]; exact h4 l hl
theorem s_freeingNode {S : St} {i k need : Nat} {μ : Mm} {q : Int32 → Mm → Prop} (hG : Good S) (hI : cInv S μ) (hi : i < nRq S) (hk : k < S.2.2 i 0 10) (hr1 : 1 ≤ dft S 0 10) (hnd : need ≤ 20)
    (h1 : ∀ μ2 v, cInv S μ2 → (∀ c, mCell c → μ2 c = μ c) → v < nNd S → S.2.2 i 1 k = need → frOk S i k v = true → (∀ u, u < v → frOk S i k u = false) → q (nI v) μ2)
    (h2 : ∀ μ2, cInv S μ2 → (∀ c, mCell c → μ2 c = μ c) → (S.2.2 i 1 k = need → ∀ v, v < nNd S → frOk S i k v = false) → q (-1) μ2) : Wp_X7_freeingNode (p_RQ + 11 * i) (nI k) (nI need) μ q := by
  have hb := hG.b hi
  have hgd := hG.d (hG.i hi)
  have h10 := hgd.1
  have hN := hG.1
  have hn := hG.n
  have hc := hI.rq hG hi
  have hnk := (hgd.2.2.1 k hk).2.1
  unfold Wp_X7_freeingNode
  intro K29 K83 h29 h83
  unfold F_X7_freeingNode_e
  rw [nI_clamp (by omega), (hc.1.2.2.2.1 k hk).1, e1 (by omega) (by omega)]
  refine ⟨inN (by omega) (by omega), ?_⟩
  by_cases hne : S.2.2 i 1 k = need
  · refine rb_t hne ?_
    refine s_isMovable hb hc.1 hc.2.2 (hI.2.2.2.2.2 i hi).2.2.1 ?_
    refine bqr (fun hm => ?_) (fun hm => ?_)
    · refine h2 μ hI (fun _ _ => rfl) (fun _ v _ => ?_)
      unfold frOk
      rw [hm]; rfl
    · have hM : Mvb (S.2.2 i) := Mvb.of (hG.p hi).1 hm
      refine s_nodeOf h10 hc.1.1 hk ?_
      rw [hc.2.1 k hk]
      have hr3 := (hG.ok hi).1 k hk
      refine dn (P := fun v => (∀ u, u < v → frOk S i k u = false) → ∀ μ2, cInv S μ2 → (∀ c, mCell c → μ2 c = μ c) → K29 (nI k) (nI (S.2.2 i 3 k)) (nI v) μ2) (n := nNd S) ?_ ?_ (fun u hu => by omega) μ hI (fun _ _ => rfl)
      · intro hall μ2 hI2 hm2
        refine h29 _ _ _ _ ?_
        unfold F_X7_freeingNode_29
        rw [hI2.1.2.1]
        refine br_t (le_nI (Nat.le_refl _) (by omega)) (h2 μ2 hI2 hm2 (fun _ => hall))
      · intro v hv hnx hall μ2 hI2 hm2
        refine h29 _ _ _ _ ?_
        unfold F_X7_freeingNode_29
        rw [hI2.1.2.1]
        refine br_f (not_le_nI hv (by omega)) ?_
        rw [e1 (by omega) (by omega), i1]
        have hnx2 : frOk S i k v = false → ∀ μ3, cInv S μ3 → (∀ c, mCell c → μ3 c = μ c) → K29 (nI k) (nI (S.2.2 i 3 k)) (nI (v + 1)) μ3 := fun hf => hnx (fun u hu => by
          by_cases huv : u = v
          · rw [huv]; exact hf
          · exact hall u (by omega))
        by_cases hvh : v = S.2.2 i 3 k
        · refine br_t hvh (hnx2 ?_ μ2 hI2 hm2)
          unfold frOk
          rw [decide_eq_true hvh.symm, Bool.not_true, Bool.and_false, Bool.false_and, Bool.false_and]
        refine br_f hvh ?_
        have hkv : decide (S.2.2 i 3 k = v) = false := decide_eq_false (fun hx => hvh hx.symm)
        refine s_shift hG hI2 hi hm hk hv (fun μ3 g1 g2 hm3 => ?_)
        have hm03 : ∀ c, mCell c → μ3 c = μ c := fun c hc => (hm3 c hc).trans (hm2 c hc)
        cases hok : mvOk S i k v with
        | false =>
          refine ⟨fun _ => hnx2 ?_ μ3 (g2 hok) hm03, fun hc => absurd rfl hc⟩
          unfold frOk
          rw [hok, Bool.and_false, Bool.false_and]
        | true =>
          refine ⟨fun hc => absurd hc (by decide), fun _ => ?_⟩
          obtain ⟨hMs, e53, e20⟩ := g1 hok
          have hI3 : cInv (mvS S i k v) μ3 := hMs.inv hG hI2 hi hM
          have hG3 := mvS_good hG hi hM hv hok
          refine tt_draft hG3 hI3 ?_
          have hr13 : 1 ≤ dft (mvS S i k v) 0 10 := by rw [mvS_dft hi]; exact hr1
          refine c_run (M := 2) hG3 hI3 hr13 (by omega) (fun μ4 B hB hRB hs4 => ?_)
          have hs4 : Sm (dR (p_RQ + 11 * nRq S)) μ3 μ4 := hs4
          have hMs4 := hMs.run hi hs4
          have hp : p_RQ + 11 * nRq S = 105 + 11 * nRq S := rfl
          have tb : ∀ y : Bool, y = !(LSt (mvS S i k v)).isEmpty → K83 (nI k) (nI (S.2.2 i 3 k)) (nI v) (bI y) μ4 := by
            intro y hy
            refine h83 _ _ _ _ _ ?_
            unfold F_X7_freeingNode_83
            refine s_takeBack hG hI2 hi hM hk hv hMs4 (fun l hl hx => by unfold nwW; rw [if_neg (by rw [hx]; decide)]) (by rw [hs4 5 (by unfold dR dS; omega)]; exact e53) (fun l hl hx => by rw [hs4 20 (by unfold dR dS; omega)]; exact e20 l hl hx) (fun μ5 hI5 hm5 => ?_)
            have hm05 : ∀ c, mCell c → μ5 c = μ c := fun c hc => (hm5 c hc).trans (hm2 c hc)
            have hfr : frOk S i k v = y := by unfold frOk; rw [hm, hkv, hok, hy]; rfl
            rw [i1]
            refine bq (fun hyy => ?_) (fun hyy => ?_)
            · exact hnx2 (by rw [hfr, hyy]) μ5 hI5 hm05
            · exact h1 μ5 v hI5 hm05 hv hne (by rw [hfr, hyy]) hall
          rw [vB_none hB.lt]
          have hbs := hRB.b2
          cases hBs : B.isSome with
          | false => exact br_t rfl (tb false (by rw [← hbs, hBs]))
          | true => exact br_f (by decide) (tb true (by rw [← hbs, hBs]))
  · refine rb_f hne (h2 μ hI (fun _ _ => rfl) (fun hx => absurd hx hne))
theorem tt_freeing {S : St} {μ : Mm} {q : Int32 → Mm → Prop} (hG : Good S) (hI : cInv S μ) (h : ∀ μ2 z, cInv S μ2 → (∀ c, mCell c → μ2 c = μ c) → frS S z → q z μ2) : Wp_X7_freeing μ q := by
  have hn := hG.n
  have hd := hG.d hn
  unfold Wp_X7_freeing
  intro K30 K38 K48 h30 h38 h48
  unfold F_X7_freeing_e
  refine tt_draft hG hI ?_
  rw [(hI.2.2.2.2.1 _ hn).1, e0 (by have := hd.1; omega)]
  by_cases hz : dft S 0 10 = 0
  · exact br_t hz (h μ _ hI (fun _ _ => rfl) (by unfold frS; rw [if_pos (Or.inl hz)]))
  refine br_f hz ?_
  refine tt_draft hG hI ?_
  refine c_run (M := 2) hG hI (by omega) (by omega) (fun μ1 B hB hRB hs => ?_)
  have hI1 := hI.run hG hs
  have hm1 : ∀ c, mCell c → μ1 c = μ c := hs.m (by show 105 ≤ 105 + _; omega)
  rw [vB_none hB.lt]
  have hbs := hRB.b2
  cases hBs : B.isSome with
  | true =>
    refine br_f (by decide) (h μ1 _ hI1 hm1 ?_)
    unfold frS
    rw [if_pos (Or.inr ?_)]
    rw [hBs] at hbs
    revert hbs
    cases (LSt S).isEmpty <;> simp
  | false =>
    refine br_t rfl ?_
    have hemp : (LSt S).isEmpty = true := by
      rw [hBs] at hbs
      revert hbs
      cases (LSt S).isEmpty <;> simp
    have hfr : ∀ z, FrR S z → frS S z := fun z hz2 => by
      unfold frS
      rw [if_neg (fun hx => hx.elim hz (fun hy => by rw [hemp] at hy; cases hy))]
      exact hz2
    -- needs from a on
    have key : ∀ m a, a + m = 21 → 1 ≤ a → (∀ t, t < 18 * nRq S → prT S t = true → a ≤ ndT S t) → ∀ μ2, cInv S μ2 → (∀ c, mCell c → μ2 c = μ c) → K30 (nI a) μ2 := by
      intro m
      induction m with
      | zero =>
        intro a ha h1a hmin μ2 hI2 hm2
        refine h30 _ _ ?_
        unfold F_X7_freeing_30
        refine br_t (of_eq_true (ltT (n := 20) (k := a) (by omega) (by omega))) (h μ2 _ hI2 hm2 (hfr _ (Or.inl ⟨rfl, fun t ht => ?_⟩)))
        cases hpt : prT S t with
        | false => rfl
        | true =>
          have h3 := hmin t ht hpt
          unfold prT at hpt
          rw [Bool.and_eq_true, Bool.and_eq_true] at hpt
          have hk := of_decide_eq_true hpt.1.1
          have := ((hG.d (i := t / 18) (by omega)).2.2.1 _ hk).2.1
          unfold ndT at h3
          omega
      | succ m ih =>
        intro a ha h1a hmin μ2 hI2 hm2
        refine h30 _ _ ?_
        unfold F_X7_freeing_30
        refine br_f (fun hx => by rw [show (20 : Int32) = nI 20 from rfl, ltF (by omega) (by omega)] at hx; exact hx) ?_
        -- requests
        refine dn (P := fun i => (∀ t, t < 18 * nRq S → prT S t = true → ndT S t = a → i ≤ t / 18) → ∀ μ2, cInv S μ2 → (∀ c, mCell c → μ2 c = μ c) → K38 (nI a) (nI i) μ2) (n := nRq S) ?_ ?_ (fun t _ _ _ => Nat.zero_le _) μ2 hI2 hm2
        · intro hno μ3 hI3 hm3
          refine h38 _ _ _ ?_
          unfold F_X7_freeing_38
          rw [hI3.2.2.1]
          refine br_t (le_nI (Nat.le_refl _) (by omega)) ?_
          rw [i1]
          refine ih (a + 1) (by omega) (by omega) (fun t ht hpt => ?_) μ3 hI3 hm3
          have h1 := hmin t ht hpt
          by_cases he : ndT S t = a
          · have := hno t ht hpt he; omega
          · omega
        · intro i hi hnxi hno μ3 hI3 hm3
          refine h38 _ _ _ ?_
          unfold F_X7_freeing_38
          rw [hI3.2.2.1]
          refine br_f (not_le_nI hi (by omega)) ?_
          have hgd := hG.d (hG.i hi)
          have h10 := hgd.1
          -- parts
          refine dn (P := fun k => (∀ t, t < 18 * nRq S → prT S t = true → ndT S t = a → i < t / 18 ∨ (t / 18 = i ∧ k ≤ t / 6 % 3)) → ∀ μ3, cInv S μ3 → (∀ c, mCell c → μ3 c = μ c) → K48 (nI a) (nI i) (nI k) μ3) (n := S.2.2 i 0 10) ?_ ?_ (fun t ht hpt he => by have := hno t ht hpt he; omega) μ3 hI3 hm3
          · intro hnok μ4 hI4 hm4
            refine h48 _ _ _ _ ?_
            unfold F_X7_freeing_48
            rw [nI_clamp (by omega), (hI4.2.2.2.2.1 i (hG.i hi)).1, i1]
            refine ⟨inN (by omega) (by omega), br_t (le_nI (Nat.le_refl _) (by omega)) (hnxi (fun t ht hpt he => ?_) μ4 hI4 hm4)⟩
            rcases hnok t ht hpt he with h1 | ⟨h1, h2⟩
            · omega
            · have hpt2 := hpt
              unfold prT at hpt2
              rw [Bool.and_eq_true, Bool.and_eq_true] at hpt2
              have hk := of_decide_eq_true hpt2.1.1
              rw [h1] at hk
              omega
          · intro k hk hnxk hnok μ4 hI4 hm4
            refine h48 _ _ _ _ ?_
            unfold F_X7_freeing_48
            rw [nI_clamp (show i < 2 ^ 31 by omega), (hI4.2.2.2.2.1 i (hG.i hi)).1, i1]
            refine ⟨inN (by omega) (by omega), br_f (not_le_nI hk (by omega)) ⟨inN (by omega) (by omega), ?_⟩⟩
            have hN := hG.1
            refine s_freeingNode hG hI4 hi hk (by omega) (by omega) (fun μ5 v hI5 hm5 hv hne hfrv hlow => ?_) (fun μ5 hI5 hm5 hnone => ?_)
            · refine br_f (nm1 (n := v) (by omega)) ?_
              have hm05 : ∀ c, mCell c → μ5 c = μ c := fun c hc => (hm5 c hc).trans (hm4 c hc)
              have t18 : (18 * i + 6 * k + v) / 18 = i := by omega
              have t63 : (18 * i + 6 * k + v) / 6 % 3 = k := by omega
              have t6 : (18 * i + 6 * k + v) % 6 = v := by omega
              have hpr : prT S (18 * i + 6 * k + v) = true := by
                unfold prT
                rw [t18, t63, t6, decide_eq_true hk, decide_eq_true hv, hfrv]; rfl
              have hnd : ndT S (18 * i + 6 * k + v) = a := by unfold ndT; rw [t18, t63]; exact hne
              have hcd : (100 : Int32) * nI i + (10 : Int32) * nI k + nI v = cdT (18 * i + 6 * k + v) := by
                unfold cdT
                rw [t18, t63, t6, show (100 : Int32) = nI 100 from rfl, show (10 : Int32) = nI 10 from rfl, pk_mul, pk_mul, nI_add, nI_add]
              rw [hcd]
              refine h μ5 _ hI5 hm05 (hfr _ (Or.inr ⟨18 * i + 6 * k + v, by omega, hpr, rfl, fun u hu hpu => ?_, fun u hu hpu => ?_⟩))
              · rw [hnd]; exact hmin u hu hpu
              · rw [hnd]
                have h1 := hmin u (by omega) hpu
                by_cases he : ndT S u = a
                · exfalso
                  rcases hnok u (by omega) hpu he with h2 | ⟨h2, h3⟩
                  · omega
                  · have hk2 : u / 6 % 3 = k := by omega
                    have hv2 : u % 6 < v := by omega
                    unfold prT at hpu
                    rw [Bool.and_eq_true, Bool.and_eq_true, h2, hk2, hlow _ hv2] at hpu
                    cases hpu.2
                · omega
            · rw [i1]
              refine br_t rfl (hnxk (fun t ht hpt he => ?_) μ5 hI5 (fun c hc => (hm5 c hc).trans (hm4 c hc)))
              rcases hnok t ht hpt he with h1 | ⟨h1, h2⟩
              · exact Or.inl h1
              · right
                refine ⟨h1, ?_⟩
                by_cases hk2 : t / 6 % 3 = k
                · exfalso
                  have hpt2 := hpt
                  unfold prT at hpt2
                  rw [Bool.and_eq_true, Bool.and_eq_true, h1, hk2] at hpt2
                  unfold ndT at he
                  rw [h1, hk2] at he
                  rw [hnone he _ (of_decide_eq_true hpt2.1.2)] at hpt2
                  cases hpt2.2
                · omega
    refine key 20 1 (by omega) (by omega) (fun t ht hpt => ?_) μ1 hI1 hm1
    unfold prT at hpt
    rw [Bool.and_eq_true, Bool.and_eq_true] at hpt
    have hk := of_decide_eq_true hpt.1.1
    exact ((hG.d (i := t / 18) (by omega)).2.2.1 _ hk).1
theorem d18_all : ∀ t, t < 216 → nI t / (18 : Int32) = nI (t / 18) := by decide +kernel
