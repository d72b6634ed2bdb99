/-! a part is moved; the move that lets the draft in -/
theorem mv_ans {S : St} {i k v : Nat} (hG : Good S) (hi : i < nRq S) (hk : k < S.2.2 i 0 10) (hv : v < nNd S) : o_move S (nI i) (nI k) (nI v) = if S.2.2 i 3 k = v then (2, 0, S) else if mvb (S.2.2 i) = false then (3, 0, S) else if mvOk S i k v = true then (0, nI (nwS S i k v (S.2.2 i 0 11)), mvS S i k v) else (0, -1, S) := by
  have hn := hG.2.1
  have h6 := hG.1
  have h3 := (hG.d (hG.i hi)).1
  unfold o_move
  rw [toN_nI (show i < 2147483648 by omega), toN_nI (show k < 2147483648 by omega), toN_nI (show v < 2147483648 by omega), inR_t (by omega) hi, inR_t (by omega) hv, inR_t (by omega) hk]
  rfl
theorem nw_lt {S : St} {i k v : Nat} (h : Snd S) (hi : i < nRq S) (hv : v < nNd S) (hok : mvOk S i k v = true) : nwS S i k v (S.2.2 i 0 11) < 18 := by
  have h3 := (h.1.b hi).1
  have hd := h.1.d (h.1.i hi)
  have hmay : mayB S i k v = true := by unfold mvOk at hok; rw [Bool.and_eq_true] at hok; exact hok.1
  obtain ⟨hPn, hPd⟩ := mvP_ok h.1 hi hv hmay
  have : nwS S i k v (S.2.2 i 0 11) ≤ sm (fun _ => 5) (S.2.2 i 0 11) := sm_le fun l hl => by
    by_cases hL : isL (S.2.2 i) l k = true
    · rw [if_pos hL]
      have hnz : nwL S i k v l ≠ 0 := by
        unfold mvOk at hok
        rw [Bool.and_eq_true, al_iff] at hok
        have := hok.2 l hl
        rw [hL] at this
        simpa using this
      have hdl := hd.2.2.2.1 l hl
      have hN := h.1.1
      have m1 : nwL S i k v l ∈ wl S.1 (mvP (S.2.2 i) k v (S.2.2 i 4 l)) (mvP (S.2.2 i) k v (S.2.2 i 5 l)) := (fwp_ok hnz).1
      exact (wl_way h.1.2.2.1 (by have := hPn _ hdl.1; omega) (by have := hPn _ hdl.2.1; omega) (hPd _ _ hdl.1 hdl.2.1 hdl.2.2.1) _ m1).1.pc5
    · rw [if_neg hL]; omega
  rw [sm_const] at this
  omega
theorem mvS_at {S : St} {i k v : Nat} : (mvS S i k v).2.2 i 3 k = v := by
  show (updR S i (mvQ (S.2.2 i) k v (nwW S i k v))).2.2 i 3 k = v
  rw [updR_i, mvQ_3, if_pos rfl]
theorem mvS_10 {S : St} {i k v : Nat} : (mvS S i k v).2.2 i 0 10 = S.2.2 i 0 10 := by
  show (updR S i (mvQ (S.2.2 i) k v (nwW S i k v))).2.2 i 0 10 = _
  rw [updR_i, mvQ_x (by omega)]
theorem mvS_x {S : St} {i k v j x y : Nat} (hx : x ≠ 3 ∧ x ≠ 7) : (mvS S i k v).2.2 j x y = S.2.2 j x y := by
  show (updR S i (mvQ (S.2.2 i) k v (nwW S i k v))).2.2 j x y = _
  by_cases hj : j = i
  · rw [hj, updR_i, mvQ_x hx]
  · rw [updR_ne hj]
theorem Js.mov {S : St} {i k v : Nat} {μ μ2 : Mm} (hJ : Js S μ) (hi : i < nRq S) (hm : mvb (S.2.2 i) = true) (hk : k < S.2.2 i 0 10) (hv : v < nNd S) (hok : mvOk S i k v = true) (hc : cInv (mvS S i k v) μ2) (hf : Fr μ μ2) : Js (mvS S i k v) μ2 := by
  have hS := hJ.1.move hi (Mvb.of (hJ.1.1.p hi).1 hm) hk hv hok
  have hla := hJ.2.2.fr hf.la
  have ed : dft (mvS S i k v) = dft S := mvS_dft hi
  refine ⟨hS, hc, ⟨hla.1.1, hla.1.2.1, hla.1.2.2.1, hla.1.2.2.2.1, ?_⟩, hla.2.1, fun j hj => ?_⟩
  · rw [ed]; exact hla.1.2.2.2.2
  · have hj : j < nRq S := hj
    have := hla.2.2 j hj
    refine ⟨by rw [mvS_x (by omega)]; exact this.1, fun q hq => ?_, fun l hl => ?_⟩
    · rw [mvS_x (by omega)] at hq ⊢
      exact this.2.1 q hq
    · rw [mvS_x (by omega)] at hl
      rw [mvS_x (by omega), mvS_x (by omega), mvS_x (by omega)]
      exact this.2.2 l hl
theorem w_frees {z : ScT} {S : St} {zz x2 : Int32} {μ : Mm} {q : Mm → Prop} (hJ : Js S μ) (hz : frS S zz) (h : ∀ S2 μ2, Js S2 μ2 → nRq S2 = nRq S → tkS S2 = tkS S → nNd S2 = nNd S → q μ2) : Wp_L_frees z zz x2 μ q := by
  have hS := hJ.1
  have hG := hS.1
  have hN := hG.1
  have hn12 := hG.2.1
  unfold Wp_L_frees F_L_frees_e
  have neg : zz = -1 → ((0 ≤ zz → False) ∧ (¬ (0 ≤ zz) → ((¬ (zz = (-1 : Int32)) → False) ∧ (zz = (-1 : Int32) → q μ)))) := fun e => by
    rw [e]
    exact ⟨fun hc => absurd hc (by decide), fun _ => ⟨fun hc => hc rfl, fun _ => h S μ hJ rfl rfl rfl⟩⟩
  by_cases hm1 : zz = -1
  · exact ⟨fun hc => ((neg hm1).1 hc).elim, (neg hm1).2⟩
  · unfold frS at hz
    by_cases hc : dft S 0 10 = 0 ∨ (LSt S).isEmpty = false
    · rw [if_pos hc] at hz; exact absurd hz hm1
    · rw [if_neg hc] at hz
      rcases hz with ⟨hz, -⟩ | ⟨t, t1, t2, t3, -⟩
      · exact absurd hz hm1
      · unfold prT at t2
        rw [Bool.and_eq_true, Bool.and_eq_true] at t2
        obtain ⟨⟨hk, hv⟩, hfr⟩ := t2
        have hk := of_decide_eq_true hk
        have hv := of_decide_eq_true hv
        have hi : t / 18 < nRq S := by omega
        unfold cdT at t3
        have hb : t / 6 % 3 < 3 := Nat.mod_lt _ (by omega)
        have hcc : t % 6 < 6 := Nat.mod_lt _ (by omega)
        generalize t / 18 = i at *
        generalize t / 6 % 3 = k at *
        generalize t % 6 = v at *
        unfold frOk at hfr
        rw [Bool.and_eq_true, Bool.and_eq_true, Bool.and_eq_true] at hfr
        obtain ⟨⟨⟨hmb, hne⟩, hok⟩, hlst⟩ := hfr
        have hne : S.2.2 i 3 k ≠ v := by simpa using hne
        have hlst : (LSt (mvS S i k v)).isEmpty = false := by simpa using hlst
        have hmv := Mvb.of (hG.p hi).1 hmb
        have hm2 := (hG.p hi).2
        have hd := hG.d (hG.i hi)
        have hat := (hG.p hi).1.2.1 k hk
        have hd0 : dft S 0 10 ≠ 0 := fun e => hc (Or.inl e)
        subst t3
        have e4 : nI (100 * i + 10 * k + v) / (100 : Int32) = nI i := by
          rw [show (100 : Int32) = nI 100 from rfl, pk_div (by omega) (by omega) (by omega)]
          congr 1; omega
        have e5 : irm (nI (100 * i + 10 * k + v) / (10 : Int32)) (10 : Int32) = nI k := by
          rw [show (10 : Int32) = nI 10 from rfl, pk_div (by omega) (by omega) (by omega), irm_nI (by omega) (by omega) (by omega)]
          congr 1; omega
        have e6 : irm (nI (100 * i + 10 * k + v)) (10 : Int32) = nI v := by
          rw [show (10 : Int32) = nI 10 from rfl, irm_nI (by omega) (by omega) (by omega)]
          congr 1; omega
        refine ⟨fun _ v4 h4 v5 h5 v6 h6 => ?_, fun hx => absurd (le_nI (n := 0) (by omega) (by omega)) hx⟩
        rw [e4] at h4
        rw [e5] at h5
        rw [e6] at h6
        subst h4 h5 h6
        have c2 : μ p_LC ((2 : Int32)).toNatClampNeg = nI (nRq S) := by rw [clT2]; exact hJ.2.2.1.2.2.1
        rw [c2]
        refine ⟨inN (k := 2) (by omega) (by omega), fun hx => absurd hx (not_le_nI hi (by omega)), fun _ => ?_⟩
        refine T_told_ok (y := 0) hG hJ.2.1 hi (by omega) (fun μ2 a b => ?_)
        have hJ2 := hJ.go a b
        rw [vT_0, if_pos hmv.1]
        refine ⟨fun hx => hx rfl, fun _ => T_told_ok (y := 1) hG hJ2.2.1 hi (by omega) (fun μ3 a b => ?_)⟩
        have hJ3 := hJ2.go a b
        rw [vT_1]
        have hm01 : S.2.2 i 0 12 < 2 := by have := hmv.2.1; omega
        refine ⟨fun hx => absurd hx (not_le_nI (n := 2) hm01 (by omega)), fun _ => T_told_ok (y := 3) hG hJ3.2.1 hi (by omega) (fun μ4 a b => ?_)⟩
        have hJ4 := hJ3.go a b
        rw [vT_3]
        have c0 : μ4 p_LC ((0 : Int32)).toNatClampNeg = nI (nNd S) := by rw [clT0]; exact hJ4.2.2.1.1
        rw [c0]
        have np3 := hd.1
        refine ⟨fun hx => absurd hx (not_le_nI hk (by omega)), fun _ => ⟨inN (k := 0) (by omega) (by omega), fun hx => absurd hx (not_le_nI hv (by omega)), fun _ => T_at_ok hG hJ4.2.1 hi hk (fun μ5 a b => ?_)⟩⟩
        have hJ5 := hJ4.go a b
        refine ⟨fun hx => hne ((nI_eq (by omega) (by omega)).1 hx), fun _ => A_move hG hJ5.2.1 ?_⟩
        rw [mv_ans hG hi hk hv, if_neg hne, if_neg (by rw [hmb]; decide), if_pos hok]
        intro μ6 a b
        have a : cInv (mvS S i k v) μ6 := a
        have hJ6 := hJ5.mov hi hmb hk hv hok a b
        have hG6 := hJ6.1.1
        refine ⟨fun _ => ⟨fun hx => absurd hx (nI_pos (by have := nw_lt hS hi hv hok; omega)), fun _ => T_at_ok (S := mvS S i k v) hG6 hJ6.2.1 hi (by rw [mvS_10]; exact hk) (fun μ7 a b => ?_)⟩, fun hx => absurd rfl hx⟩
        have hJ7 := hJ6.go a b
        rw [mvS_at]
        refine ⟨fun hx => hx rfl, fun _ => tt_least hG6 hJ7.2.1 (fun μ8 a b => ?_)⟩
        have hJ8 := hJ7.go a b
        have ed : dft (mvS S i k v) = dft S := mvS_dft hi
        have hle : ¬ o_least (mvS S i k v) < 0 := by
          rcases least_cases hG6 (by rw [ed]; exact hd0) with ⟨-, e, -⟩ | ⟨y, -, -, hy, e⟩
          · rw [e] at hlst; cases hlst
          · rw [e]; exact nI_pos (by omega)
        refine ⟨fun hx => hle hx, fun _ => tt_freeing hG6 hJ8.2.1 (fun μ9 z9 a b hz9 => ?_)⟩
        have hJ9 := hJ8.go a b
        unfold frS at hz9
        rw [if_pos (Or.inr hlst)] at hz9
        rw [hz9]
        exact ⟨fun hx => hx rfl, fun _ => h _ μ9 hJ9 rfl rfl rfl⟩
