/-! the mesh, from nothing -/
def S00 : St := ((0, (fun _ => 0), (fun _ => 0), 0), (fun _ _ => 0), (fun _ _ _ => 0))
theorem S00_good : Good S00 := by
  refine ⟨by decide, by decide, ⟨by decide, fun k hk => absurd hk (Nat.not_lt_zero k), fun k hk => absurd hk (Nat.not_lt_zero k), fun j k hj => absurd hj (Nat.not_lt_zero j)⟩, fun k hk => absurd hk (Nat.not_lt_zero k), by decide, fun v hv => absurd hv (Nat.not_lt_zero v), fun k hk => absurd hk (Nat.not_lt_zero k), fun i _ => ⟨by show (0 : Nat) ≤ 3; omega, by show (0 : Nat) ≤ 3; omega, fun k hk => absurd hk (Nat.not_lt_zero k), fun l hl => absurd hl (Nat.not_lt_zero l), fun j l hj => absurd hj (Nat.not_lt_zero j)⟩, fun i hi => absurd hi (Nat.not_lt_zero i), fun _ _ _ => rfl, fun _ _ _ => ⟨rfl, rfl⟩⟩
theorem S00_Js : Js S00 (fun _ _ => 0) :=
  ⟨⟨S00_good, fun v hv => absurd hv (Nat.not_lt_zero v), fun k hk => absurd hk (Nat.not_lt_zero k), fun i hi => absurd hi (Nat.not_lt_zero i)⟩,
   ⟨⟨⟨by decide, rfl, fun k hk => absurd hk (Nat.not_lt_zero k), rfl, by decide⟩, rfl, fun v hv => absurd hv (Nat.not_lt_zero v), fun k hk => absurd hk (Nat.not_lt_zero k), fun a b _ _ _ => ⟨rfl, fun j hj => absurd hj (Nat.not_lt_zero j)⟩⟩, ⟨fun v _ => ⟨rfl, rfl⟩, fun k _ => ⟨rfl, rfl, fun f _ => rfl⟩⟩, rfl, rfl, fun i _ => ⟨rfl, rfl, rfl, fun k hk => absurd hk (Nat.not_lt_zero k), fun l hl => absurd hl (Nat.not_lt_zero l)⟩, fun i hi => absurd hi (Nat.not_lt_zero i)⟩,
   ⟨rfl, rfl, rfl, rfl, rfl⟩, ⟨fun v hv => absurd hv (Nat.not_lt_zero v), fun k hk => absurd hk (Nat.not_lt_zero k)⟩, fun i hi => absurd hi (Nat.not_lt_zero i)⟩
theorem Js.addN {S : St} {n : Nat} {μ μ2 : Mm} (hJ : Js S μ) (hrg : rg 1 99 (nI n) = true) (h6 : nNd S ≠ 6) (hn : n < 1000) (hc : cInv (S.1, set2 (set2 S.2.1 1 (nNd S) n) 0 0 (nNd S + 1), S.2.2) μ2) (fG : μ2 p_LG = upd (μ p_LG) (nNd S) (nI n)) (f0 : μ2 p_LC 0 = nI (nNd S + 1)) (fC : ∀ j, j ≠ 0 → μ2 p_LC j = μ p_LC j) (f : ∀ c, 21 ≤ c → c ≤ 26 → c ≠ p_LG → c ≠ p_LC → μ2 c = μ c) : Js (S.1, set2 (set2 S.2.1 1 (nNd S) n) 0 0 (nNd S + 1), S.2.2) μ2 := by
  have hla := hJ.2.2
  have s0 : nNd (S.1, set2 (set2 S.2.1 1 (nNd S) n) 0 0 (nNd S + 1), S.2.2) = nNd S + 1 := by show set2 (set2 S.2.1 1 (nNd S) n) 0 0 (nNd S + 1) 0 0 = _; unfold set2; rw [if_pos ⟨rfl, rfl⟩]
  refine ⟨hJ.1.node hrg h6 hn, hc, ⟨by rw [s0]; exact f0, ?_, ?_, ?_, ?_⟩, ⟨fun v hv => ?_, fun k hk => ?_⟩, fun i hi => ?_⟩
  · rw [fC 1 (by decide)]; exact hla.1.2.1
  · rw [fC 2 (by decide)]; exact hla.1.2.2.1
  · rw [fC 3 (by decide)]; exact hla.1.2.2.2.1
  · rw [fC 4 (by decide)]; exact hla.1.2.2.2.2
  · rw [s0] at hv
    rw [fG]
    show upd (μ p_LG) (nNd S) (nI n) v = nI (set2 (set2 S.2.1 1 (nNd S) n) 0 0 (nNd S + 1) 1 v)
    unfold set2
    rw [if_neg (by omega)]
    by_cases hvn : v = nNd S
    · rw [hvn, d_eq, if_pos ⟨rfl, rfl⟩]
    · rw [d_ne hvn, if_neg (by omega)]
      exact hla.2.1.1 v (by omega)
  · rw [f _ (by decide) (by decide) (by decide) (by decide)]
    exact hla.2.1.2 k hk
  · rw [f p_LT (by decide) (by decide) (by decide) (by decide), f p_LP (by decide) (by decide) (by decide) (by decide), f p_LQ (by decide) (by decide) (by decide) (by decide)]
    exact hla.2.2 i hi
theorem Js.addK {S : St} {a b n : Nat} {μ μ2 : Mm} (hJ : Js S μ) (hg : Good (addL S.1 a b, set2 S.2.1 2 (nLk S) n, S.2.2)) (hc : cInv (addL S.1 a b, set2 S.2.1 2 (nLk S) n, S.2.2) μ2) (old : ∀ j, j ≠ 3 * nLk S → j ≠ 3 * nLk S + 1 → j ≠ 3 * nLk S + 2 → μ2 p_LL j = μ p_LL j) (n0 : μ2 p_LL (3 * nLk S) = nI a) (n1 : μ2 p_LL (3 * nLk S + 1) = nI b) (n2 : μ2 p_LL (3 * nLk S + 2) = nI n) (f1 : μ2 p_LC 1 = nI (nLk S + 1)) (fC : ∀ j, j ≠ 1 → μ2 p_LC j = μ p_LC j) (f : ∀ c, 21 ≤ c → c ≤ 26 → c ≠ p_LL → c ≠ p_LC → μ2 c = μ c) : Js (addL S.1 a b, set2 S.2.1 2 (nLk S) n, S.2.2) μ2 := by
  have hla := hJ.2.2
  refine ⟨hJ.1.link hg, hc, ⟨?_, f1, ?_, ?_, ?_⟩, ⟨fun v hv => by rw [f _ (by decide) (by decide) (by decide) (by decide)]; exact hla.2.1.1 v hv, fun k hk => ?_⟩, fun i hi => ?_⟩
  · rw [fC 0 (by decide)]; exact hla.1.1
  · rw [fC 2 (by decide)]; exact hla.1.2.2.1
  · rw [fC 3 (by decide)]; exact hla.1.2.2.2.1
  · rw [fC 4 (by decide)]; exact hla.1.2.2.2.2
  · have hk : k < nLk S + 1 := hk
    by_cases hkn : k = nLk S
    · rw [hkn]
      have s1 : (addL S.1 a b).2.1 (nLk S) = a := if_pos rfl
      have s2 : (addL S.1 a b).2.2.1 (nLk S) = b := if_pos rfl
      have s3 : set2 S.2.1 2 (nLk S) n 2 (nLk S) = n := if_pos ⟨rfl, rfl⟩
      show μ2 p_LL (3 * nLk S) = nI ((addL S.1 a b).2.1 (nLk S)) ∧ μ2 p_LL (3 * nLk S + 1) = nI ((addL S.1 a b).2.2.1 (nLk S)) ∧ μ2 p_LL (3 * nLk S + 2) = nI (set2 S.2.1 2 (nLk S) n 2 (nLk S))
      rw [s1, s2, s3]
      exact ⟨n0, n1, n2⟩
    · have hk2 : k < nLk S := by omega
      have s1 : (addL S.1 a b).2.1 k = S.1.2.1 k := if_neg hkn
      have s2 : (addL S.1 a b).2.2.1 k = S.1.2.2.1 k := if_neg hkn
      have s3 : set2 S.2.1 2 (nLk S) n 2 k = S.2.1 2 k := if_neg (by omega)
      show μ2 p_LL (3 * k) = nI ((addL S.1 a b).2.1 k) ∧ μ2 p_LL (3 * k + 1) = nI ((addL S.1 a b).2.2.1 k) ∧ μ2 p_LL (3 * k + 2) = nI (set2 S.2.1 2 (nLk S) n 2 k)
      rw [s1, s2, s3, old _ (by omega) (by omega) (by omega), old _ (by omega) (by omega) (by omega), old _ (by omega) (by omega) (by omega)]
      exact hla.2.1.2 k hk2
  · rw [f p_LT (by decide) (by decide) (by decide) (by decide), f p_LP (by decide) (by decide) (by decide) (by decide), f p_LQ (by decide) (by decide) (by decide) (by decide)]
    exact hla.2.2 i hi
theorem w_mesh {z : ScT} {k0 : Nat} {q : Mm → Prop} (hk0 : k0 ≤ 176) (hL : z.2.1 ≤ 260) (hq : ∀ μ, q μ) : Wp_L_mesh z (nI k0) (fun _ _ => 0) q := by
  unfold Wp_L_mesh
  intro K48 K114 K222 K356 K403 h48 h114 h222 h356 h403
  have rmx : ∀ {a n : Nat}, a < 2147483648 → 0 < n → n < 1000 → irm (nI a) (nI n) = nI (a % n) := fun ha h0 hn => irm_nI ha h0 (by omega)
  have dvx : ∀ (a n : Nat), a < 2147483648 → 0 < n → n < 1000 → nI a / nI n = nI (a / n) := fun a n ha h0 hn => pk_div ha h0 (by omega)
  -- the steps
  have k222 : ∀ (S : St) (μ0 : Mm) (n0 : Nat), Js S μ0 → 4 ≤ nNd S → nRq S = 0 → tkS S = 0 → n0 ≤ 278 → K222 (nI k0) (nI 0) n0 μ0 := by
    intro S0 μ0 n0 hJ0 hN0 hR0 hT0 hn0
    have key := dn (P := fun j => ∀ (S : St) (μ1 : Mm) (n : Nat), Js S μ1 → 4 ≤ nNd S → nRq S ≤ 7 → tkS S ≤ 9 * j → n ≤ 278 + 3060 * j → K222 (nI k0) (nI j) n μ1) (n := 40) ?_ ?_
    · exact key S0 μ0 n0 hJ0 hN0 (by omega) (by omega) (by omega)
    · intro S μ1 n hJ hN hR hT hn
      refine h222 _ _ _ _ ?_
      unfold F_L_mesh_222
      refine ⟨by omega, fun _ => ?_, fun hc => absurd (le_nI (n := 40) (Nat.le_refl _) (by omega)) hc⟩
      refine h403 _ _ ?_
      unfold F_L_mesh_403
      exact ⟨by omega, w_isSound hJ hR (fun μ2 _ => hq μ2)⟩
    · intro j hj hnx S μ1 n hJ hN hR hT hn
      have k356 : ∀ (S2 : St) (μ2 : Mm) (m : Nat), Js S2 μ2 → 4 ≤ nNd S2 → nRq S2 ≤ 7 → tkS S2 ≤ 9 * (j + 1) → m ≤ 278 + 3060 * j + 60 → K356 (nI k0) (nI j) m μ2 := by
        intro S2 μ2 m hJ2 hN2 hR2 hT2 hm
        refine h356 _ _ _ _ ?_
        unfold F_L_mesh_356
        rw [i1]
        refine ⟨by omega, fun _ => hnx S2 μ2 m hJ2 hN2 hR2 hT2 (by omega), fun _ => w_isSound hJ2 hR2 (fun μ3 hJ3 => hnx S2 μ3 _ hJ3 hN2 hR2 hT2 (by omega))⟩
      refine h222 _ _ _ _ ?_
      unfold F_L_mesh_222
      have e8 : (nI k0 + (8 : Int32)) + (2 : Int32) * nI j = nI (k0 + 8 + 2 * j) := by
        rw [show (8 : Int32) = nI 8 from rfl, show (2 : Int32) = nI 2 from rfl, pk_mul, nI_add, nI_add]
      have e9 : (nI k0 + (9 : Int32)) + (2 : Int32) * nI j = nI (k0 + 9 + 2 * j) := by
        rw [show (9 : Int32) = nI 9 from rfl, show (2 : Int32) = nI 2 from rfl, pk_mul, nI_add, nI_add]
      rw [e8, e9]
      refine ⟨by omega, fun hc => absurd hc (not_le_nI (n := 40) hj (by omega)), fun _ => ?_⟩
      refine w_draw (m := 1073741824) (by omega) hL (by omega) (by omega) (fun d1 hd1 => ?_)
      refine w_draw (m := 1073741824) (by omega) hL (by omega) (by omega) (fun d2 hd2 => ?_)
      intro v13 hv13
      have ed : nI d1 / (8 : Int32) = nI (d1 / 8) := dvx d1 8 (by omega) (by omega) (by omega)
      have c2 : μ1 p_LC ((2 : Int32)).toNatClampNeg = nI (nRq S) := by rw [clT2]; exact hJ.2.2.1.2.2.1
      rw [ed, c2]
      refine ⟨fun _ => ⟨fun _ => ?_, fun _ => ⟨inN (k := 2) (by omega) (by omega), fun _ => ?_, fun h6 => ?_⟩⟩, fun _ => ?_⟩
      · exact w_others hJ (by omega) (by omega) (by omega) hR (by omega) (fun S2 μ2 hJ2 a1 a2 a3 => k356 S2 μ2 _ hJ2 (by omega) (by omega) (by omega) (by omega))
      · exact k356 S μ1 _ hJ hN hR (by omega) (by omega)
      · have h6 : nRq S ≤ 6 := Decidable.byContradiction fun hc => h6 ((nI_ltI (a := 6) (by omega) (by omega)).2 (by omega))
        exact w_places hJ (by omega) (by omega) h6 (by omega) (fun S2 μ2 hJ2 a1 a2 a3 => k356 S2 μ2 _ hJ2 (by omega) (by omega) (by omega) (by omega))
      · exact w_ground hJ (by omega) (by omega) (by omega) (fun S2 μ2 hJ2 a1 a2 a3 => k356 S2 μ2 _ hJ2 (by omega) (by omega) (by omega) (by omega))
  -- the links
  have k114 : ∀ (S : St) (μ0 : Mm) (n0 : Nat), Js S μ0 → nNd S = 4 → nLk S = 0 → nRq S = 0 → tkS S = 0 → n0 ≤ 274 → K114 (nI k0) (nI 0) n0 μ0 := by
    intro S0 μ0 n0 hJ0 hN0 hL0 hR0 hT0 hn0
    have key := dn (P := fun k => ∀ (S : St) (μ1 : Mm) (n : Nat), Js S μ1 → nNd S = 4 → nLk S = k → nRq S = 0 → tkS S = 0 → (∀ j, j < k → S.1.2.1 j = j ∧ S.1.2.2.1 j = (j + 1) % 4) → n ≤ 274 + k → K114 (nI k0) (nI k) n μ1) (n := 4) ?_ ?_
    · exact key S0 μ0 n0 hJ0 hN0 hL0 hR0 hT0 (fun j hj => absurd hj (Nat.not_lt_zero j)) (by omega)
    · intro S μ1 n hJ hN hLk hR hT hl hn
      refine h114 _ _ _ _ ?_
      unfold F_L_mesh_114
      exact ⟨by omega, fun _ => k222 S μ1 n hJ (by omega) hR hT (by omega), fun hc => absurd (le_nI (n := 4) (Nat.le_refl _) (by omega)) hc⟩
    · intro k hk hnx S μ1 n hJ hN hLk hR hT hl hn
      have hG := hJ.1.1
      have hb : (k + 1) % 4 < 4 := Nat.mod_lt _ (by omega)
      have hab : k ≠ (k + 1) % 4 := by omega
      have hlk : lkd S.1 k ((k + 1) % 4) = false := by
        rw [lkd_iff hG.2.2.1 (by omega) (by omega) hab]
        cases hx : an (fun j => decide ((S.1.2.1 j = k ∧ S.1.2.2.1 j = (k + 1) % 4) ∨ (S.1.2.1 j = (k + 1) % 4 ∧ S.1.2.2.1 j = k))) S.1.1 with
        | false => rfl
        | true =>
          exfalso
          rw [an_iff] at hx
          obtain ⟨j, hj, hd⟩ := hx
          have hj : j < k := by rw [← hLk]; exact hj
          have hd := of_decide_eq_true hd
          obtain ⟨a1, a2⟩ := hl j hj
          rw [a1, a2] at hd
          omega
      have e30 : (3 : Int32) * nI k = nI (3 * k) := nI_pk3 k
      have e32 : nI (3 * k) + (2 : Int32) = nI (3 * k + 2) := nI_add _ 2
      have e4 : (nI k0 + (4 : Int32)) + nI k = nI (k0 + 4 + k) := by
        rw [show (4 : Int32) = nI 4 from rfl, nI_add, nI_add]
      have erm : irm (nI (k + 1)) (4 : Int32) = nI ((k + 1) % 4) := rmx (n := 4) (by omega) (by omega) (by omega)
      refine h114 _ _ _ _ ?_
      unfold F_L_mesh_114
      rw [e30, i1, i1, e32, erm, e4, clT (show 3 * k < 2147483648 by omega), clT (show 3 * k + 1 < 2147483648 by omega), clT (show 3 * k + 2 < 2147483648 by omega)]
      refine ⟨by omega, fun hc => absurd hc (not_le_nI (n := 4) hk (by omega)), fun _ => ⟨inN (by omega) (by omega), fun μ2 h2 => ⟨inN (by omega) (by omega), fun μ3 h3 => ?_⟩⟩⟩
      refine w_draw (m := 40) (by omega) hL (by omega) (by omega) (fun d hd => ⟨inN (by omega) (by omega), fun μ4 h4 => ⟨inN (by omega) (by omega), ?_⟩⟩)
      have e15 : (15 : Int32) + nI d = nI (15 + d) := nI_add 15 d
      rw [e15] at h4
      have ev : μ4 p_LL (3 * k + 2) = nI (15 + d) := by rw [h4, u_eq]; exact d_eq
      have f4 : ∀ c, c ≠ p_LL → μ4 c = μ1 c := fun c hc => by rw [h4, u_ne hc, h3, u_ne hc, h2, u_ne hc]
      have hc4 : cInv S μ4 := hJ.2.1.law (fun c hc => f4 c (fun e => hc (by rw [e]; decide)))
      have hxa : inR (nNd S) (nI k) = true := inR_t (by omega) (by omega)
      have hxb : inR (nNd S) (nI ((k + 1) % 4)) = true := inR_t (by omega) (by omega)
      have hrg : rg 1 99 (nI (15 + d)) = true := rg_t (a := 1) (b := 99) (by omega) (by omega) (by omega)
      have ta : toN (nI k) = k := toN_nI (by omega)
      have tb_ : toN (nI ((k + 1) % 4)) = (k + 1) % 4 := toN_nI (by omega)
      have tr : toN (nI (15 + d)) = 15 + d := toN_nI (by omega)
      have hne : ¬ nI k = nI ((k + 1) % 4) := fun e => hab ((nI_eq (by omega) (by omega)).1 e)
      have e : o_link S (nI k) (nI ((k + 1) % 4)) (nI (15 + d)) = (0, nI (nLk S), (addL S.1 k ((k + 1) % 4), set2 S.2.1 2 (nLk S) (15 + d), S.2.2)) := by
        unfold o_link
        rw [hxa, hxb, Bool.and_self, if_pos rfl, if_neg (by rintro (e | e); exact hne e; rw [hrg] at e; cases e), ta, tb_, tr, if_neg (by rintro (e | e); omega; rw [hlk] at e; cases e)]
      have hg := g_link (x := nI k) (y := nI ((k + 1) % 4)) (z := nI (15 + d)) hG
      rw [e] at hg
      rw [ev]
      refine T_link hG hc4 ?_
      rw [e]
      intro μ5 p1 p2
      have p1 : cInv (addL S.1 k ((k + 1) % 4), set2 S.2.1 2 (nLk S) (15 + d), S.2.2) μ5 := p1
      have c1 : μ5 p_LC ((1 : Int32)).toNatClampNeg = nI k := by rw [clT1, p2.cell (by decide), f4 _ (by decide), ← hLk]; exact hJ.2.2.1.2.1
      refine ⟨fun _ => ⟨fun hc => absurd (by rw [hLk] : nI (nLk S) = nI k) hc, fun _ => ⟨inN (k := 1) (by omega) (by omega), inN (k := 1) (by omega) (by omega), fun μ6 h6 => ?_⟩⟩, fun hc => absurd rfl hc⟩
      have h6 : μ6 = up2 μ5 p_LC ((1 : Int32)).toNatClampNeg (nI (k + 1)) := by rw [h6, c1, i1]
      have f6 : ∀ c, c ≠ p_LC → μ6 c = μ5 c := fun c hc => by rw [h6]; exact u_ne hc
      have eLL : μ6 p_LL = μ4 p_LL := by rw [f6 _ (by decide)]; exact p2.cell (by decide)
      have hJ6 : Js (addL S.1 k ((k + 1) % 4), set2 S.2.1 2 (nLk S) (15 + d), S.2.2) μ6 := by
        refine hJ.addK hg (p1.law (fun c hc => f6 c (fun e => hc (by rw [e]; decide)))) (fun j j1 j2 j3 => ?_) ?_ ?_ ?_ ?_ (fun j hj => ?_) (fun c c1 c2 c3 c4 => ?_)
        · rw [hLk] at j1 j2 j3
          rw [eLL, h4, u_eq, d_ne j3, h3, u_eq, d_ne j2, h2, u_eq, d_ne j1]
        · rw [hLk, eLL, h4, u_eq, d_ne (by omega), h3, u_eq, d_ne (by omega), h2, u_eq]; exact d_eq
        · rw [hLk, eLL, h4, u_eq, d_ne (by omega), h3, u_eq]; exact d_eq
        · rw [hLk, eLL]; exact ev
        · rw [hLk, h6, u_eq]; exact d_eq
        · rw [h6, u_eq, clT1, d_ne hj, p2.cell (by decide), f4 _ (by decide)]
        · rw [f6 c c4, p2.la c c1 c2, f4 c c3]
      refine hnx _ μ6 _ hJ6 hN (by rw [← hLk]; rfl) hR hT (fun j hj => ?_) (by omega)
      by_cases hjk : j = k
      · have s1 : (addL S.1 k ((k + 1) % 4)).2.1 (nLk S) = k := if_pos rfl
        have s2 : (addL S.1 k ((k + 1) % 4)).2.2.1 (nLk S) = (k + 1) % 4 := if_pos rfl
        rw [hLk] at s1 s2
        rw [hjk]
        exact ⟨s1, s2⟩
      · have s1 : (addL S.1 k ((k + 1) % 4)).2.1 j = S.1.2.1 j := if_neg (by show ¬ j = nLk S; omega)
        have s2 : (addL S.1 k ((k + 1) % 4)).2.2.1 j = S.1.2.2.1 j := if_neg (by show ¬ j = nLk S; omega)
        obtain ⟨a1, a2⟩ := hl j (by omega)
        exact ⟨s1.trans a1, s2.trans a2⟩
  -- the nodes
  have k48 : K48 (nI k0) (nI 0) 270 (fun _ _ => 0) := by
    have key := dn (P := fun k => ∀ (S : St) (μ1 : Mm) (n : Nat), Js S μ1 → nNd S = k → nLk S = 0 → nRq S = 0 → tkS S = 0 → n ≤ 270 + k → K48 (nI k0) (nI k) n μ1) (n := 4) ?_ ?_
    · exact key S00 _ 270 S00_Js rfl rfl rfl rfl (by omega)
    · intro S μ1 n hJ hN hLk hR hT hn
      refine h48 _ _ _ _ ?_
      unfold F_L_mesh_48
      exact ⟨by omega, fun _ => k114 S μ1 n hJ hN hLk hR hT (by omega), fun hc => absurd (le_nI (n := 4) (Nat.le_refl _) (by omega)) hc⟩
    · intro k hk hnx S μ1 n hJ hN hLk hR hT hn
      have hG := hJ.1.1
      refine h48 _ _ _ _ ?_
      unfold F_L_mesh_48
      rw [nI_add, clT (show k < 2147483648 by omega), i1]
      refine ⟨by omega, fun hc => absurd hc (not_le_nI (n := 4) hk (by omega)), fun _ => ?_⟩
      refine w_draw (m := 40) (by omega) hL (by omega) (by omega) (fun d hd => ⟨inN (by omega) (by omega), fun μ3 h3 => ⟨inN (by omega) (by omega), ?_⟩⟩)
      have e20 : (20 : Int32) + nI d = nI (20 + d) := nI_add 20 d
      rw [e20] at h3
      have ev : μ3 p_LG k = nI (20 + d) := by rw [h3, u_eq]; exact d_eq
      have f3 : ∀ c, c ≠ p_LG → μ3 c = μ1 c := fun c hc => by rw [h3]; exact u_ne hc
      have hc3 : cInv S μ3 := hJ.2.1.law (fun c hc => f3 c (fun e => hc (by rw [e]; decide)))
      have hrg : rg 1 99 (nI (20 + d)) = true := rg_t (a := 1) (b := 99) (by omega) (by omega) (by omega)
      have tr : toN (nI (20 + d)) = 20 + d := toN_nI (by omega)
      have e : o_node S (nI (20 + d)) = (0, nI (nNd S), (S.1, set2 (set2 S.2.1 1 (nNd S) (20 + d)) 0 0 (nNd S + 1), S.2.2)) := by unfold o_node; rw [if_pos hrg, if_neg (by omega), tr]
      rw [ev]
      refine T_node hG hc3 ?_
      rw [e]
      intro μ4 p1 p2
      have p1 : cInv (S.1, set2 (set2 S.2.1 1 (nNd S) (20 + d)) 0 0 (nNd S + 1), S.2.2) μ4 := p1
      have c0 : μ4 p_LC ((0 : Int32)).toNatClampNeg = nI k := by rw [clT0, p2.cell (by decide), f3 _ (by decide), ← hN]; exact hJ.2.2.1.1
      refine ⟨fun _ => ⟨fun hc => absurd (by rw [hN] : nI (nNd S) = nI k) hc, fun _ => ⟨inN (k := 0) (by omega) (by omega), inN (k := 0) (by omega) (by omega), fun μ6 h6 => ?_⟩⟩, fun hc => absurd rfl hc⟩
      have h6 : μ6 = up2 μ4 p_LC ((0 : Int32)).toNatClampNeg (nI (k + 1)) := by rw [h6, c0, i1]
      have f6 : ∀ c, c ≠ p_LC → μ6 c = μ4 c := fun c hc => by rw [h6]; exact u_ne hc
      have hJ6 : Js (S.1, set2 (set2 S.2.1 1 (nNd S) (20 + d)) 0 0 (nNd S + 1), S.2.2) μ6 := by
        refine hJ.addN hrg (by omega) (by omega) (p1.law (fun c hc => f6 c (fun e => hc (by rw [e]; decide)))) ?_ ?_ (fun j hj => ?_) (fun c c1 c2 c3 c4 => ?_)
        · rw [f6 _ (by decide), p2.cell (by decide), h3, u_eq, hN]
        · rw [hN, h6, u_eq]; exact d_eq
        · rw [h6, u_eq, clT0, d_ne hj, p2.cell (by decide), f3 _ (by decide)]
        · rw [f6 c c4, p2.la c c1 c2, f3 c c3]
      refine hnx _ μ6 _ hJ6 ?_ hLk hR hT (by omega)
      show set2 (set2 S.2.1 1 (nNd S) (20 + d)) 0 0 (nNd S + 1) 0 0 = k + 1
      unfold set2
      rw [if_pos ⟨rfl, rfl⟩, hN]
  unfold F_L_mesh_e
  exact k48
theorem law_pure : ∀ (z : ScT) (x1 : Int32), z.2.1 ≤ 260 → (x1 = 0 ∨ x1 = 88 ∨ x1 = 176) → Wp_L_mesh z x1 (fun _ _ => 0) (fun _ => True) := by
  intro z x1 hL hx
  rcases hx with e | e | e <;> subst e
  · exact w_mesh (k0 := 0) (by omega) hL (fun _ => trivial)
  · exact w_mesh (k0 := 88) (by omega) hL (fun _ => trivial)
  · exact w_mesh (k0 := 176) (by omega) hL (fun _ => trivial)
