/-! the ground grows -/
theorem lkd_iff {G : GD} (hG : NetOk G) {a b : Nat} (ha : a < 6) (hb : b < 6) (hab : a ≠ b) : lkd G a b = an (fun j => decide ((G.2.1 j = a ∧ G.2.2.1 j = b) ∨ (G.2.1 j = b ∧ G.2.2.1 j = a))) G.1 := by
  apply Bool.eq_iff_iff.mpr
  unfold lkd
  rw [an_iff, an_iff]
  constructor
  · rintro ⟨k, hk, hd⟩
    have hd := of_decide_eq_true hd
    refine ⟨k, hk, decide_eq_true ?_⟩
    rcases oth_cases (here := a) (hG.2.2.1 k hk) (by omega) with ⟨h1, h2⟩ | ⟨h1, h2⟩
    · exact Or.inl ⟨h1, h2.trans hd⟩
    · exact Or.inr ⟨h2.trans hd, h1⟩
  · rintro ⟨k, hk, hd⟩
    have hd := of_decide_eq_true hd
    refine ⟨k, hk, decide_eq_true ?_⟩
    unfold oth
    rcases hd with ⟨h1, h2⟩ | ⟨h1, h2⟩
    · rw [if_pos h1]; exact h2
    · rw [if_neg (by omega), if_pos h2]; exact h1
theorem an_succ (p : Nat → Bool) (n : Nat) : an p (n + 1) = (an p n || p n) := by
  apply Bool.eq_iff_iff.mpr
  rw [an_iff, Bool.or_eq_true, an_iff]
  constructor
  · rintro ⟨k, hk, h⟩
    by_cases hkn : k = n
    · exact Or.inr (hkn ▸ h)
    · exact Or.inl ⟨k, by omega, h⟩
  · rintro (⟨k, hk, h⟩ | h)
    · exact ⟨k, by omega, h⟩
    · exact ⟨n, by omega, h⟩
theorem Fr.cell {μ μ2 : Mm} {c : Nat} (h : Fr μ μ2) (hc : 21 ≤ c ∧ c ≤ 51) : μ2 c = μ c := h c (Or.inr hc)
theorem cInv.law {S : St} {μ μ2 : Mm} (h : cInv S μ) (hf : ∀ c, ¬ (21 ≤ c ∧ c ≤ 51) → μ2 c = μ c) : cInv S μ2 := h.fr (fun c hc => hf c (by unfold cCell at hc; omega))
theorem one_sub (n : Nat) : nI (n + 1) - (1 : Int32) = nI n := by rw [← i1, Int32.add_sub_cancel]
theorem w_ground {z : ScT} {S : St} {x y : Nat} {μ : Mm} {q : Mm → Prop} (hJ : Js S μ) (hn1 : 1 ≤ nNd S) (hx : x < 2147483648) (hy : y < 2147483648) (h : ∀ S2 μ2, Js S2 μ2 → nRq S2 = nRq S → tkS S2 = tkS S → nNd S ≤ nNd S2 → q μ2) : Wp_L_ground z (nI x) (nI y) μ q := by
  have hS := hJ.1
  have hG := hS.1
  have hN := hG.1
  have hL := hG.L
  have c0 : ∀ {μ1 : Mm}, Js S μ1 → μ1 p_LC ((0 : Int32)).toNatClampNeg = nI (nNd S) := fun hj => by rw [clT0]; exact hj.2.2.1.1
  have c1 : ∀ {μ1 : Mm}, Js S μ1 → μ1 p_LC ((1 : Int32)).toNatClampNeg = nI (nLk S) := fun hj => by rw [clT1]; exact hj.2.2.1.2.1
  unfold Wp_L_ground
  intro K102 K141 h102 h141
  unfold F_L_ground_e
  refine ⟨fun _ => ?_, fun _ => ?_⟩
  · -- a link
    have hz : ¬ nI (nNd S) = 0 := fun hc => by rw [nI_eq0 (by omega)] at hc; omega
    rw [c0 hJ]
    refine ⟨inN (k := 0) (by omega) (by omega), hz, fun v6 hv6 => ⟨inN (k := 0) (by omega) (by omega), hz, fun v7 hv7 => ?_⟩⟩
    have e6 : (6 : Int32) = nI 6 := rfl
    rw [irm_nI hy (by omega) (by omega)] at hv6
    rw [e6, pk_div (by omega) (by omega) (by omega), irm_nI (Nat.lt_of_le_of_lt (Nat.div_le_self _ _) hy) (by omega) (by omega)] at hv7
    have ha : y % nNd S < nNd S := Nat.mod_lt _ (by omega)
    have hb : y / 6 % nNd S < nNd S := Nat.mod_lt _ (by omega)
    generalize y % nNd S = a at hv6 ha
    generalize y / 6 % nNd S = b at hv7 hb
    subst hv6 hv7
    have e36 : (36 : Int32) = nI 36 := rfl
    have e50 : (50 : Int32) = nI 50 := rfl
    have erm : (10 : Int32) + irm (nI y / (36 : Int32)) (50 : Int32) = nI (10 + y / 36 % 50) := by
      rw [e36, e50, pk_div (by omega) (by omega) (by omega), irm_nI (Nat.lt_of_le_of_lt (Nat.div_le_self _ _) hy) (by omega) (by omega)]
      exact nI_add 10 _
    have hrm : y / 36 % 50 < 50 := Nat.mod_lt _ (by omega)
    generalize hr : 10 + y / 36 % 50 = rm at erm
    have hrm2 : 10 ≤ rm ∧ rm ≤ 59 := by omega
    clear hr hrm
    have k102 := dn (P := fun k => K102 (nI y) (nI a) (nI b) (bI (an (fun j => decide ((S.1.2.1 j = a ∧ S.1.2.2.1 j = b) ∨ (S.1.2.1 j = b ∧ S.1.2.2.1 j = a))) k)) (nI k) 0 μ) (n := nLk S) ?_ ?_
    · exact k102
    · refine h102 _ _ _ _ _ _ _ ?_
      unfold F_L_ground_102
      rw [c1 hJ, erm]
      refine ⟨by omega, inN (k := 1) (by omega) (by omega), fun _ => A_link hG hJ.2.1 ?_, fun hc => absurd (le_nI (Nat.le_refl _) (by omega)) hc⟩
      have hxa : inR (nNd S) (nI a) = true := inR_t (by omega) ha
      have hxb : inR (nNd S) (nI b) = true := inR_t (by omega) hb
      have hrg : rg 1 99 (nI rm) = true := rg_t (a := 1) (b := 99) (by omega) (by omega) (by omega)
      have ta : toN (nI a) = a := toN_nI (by omega)
      have tb_ : toN (nI b) = b := toN_nI (by omega)
      have tr : toN (nI rm) = rm := toN_nI (by omega)
      by_cases hab : a = b
      · have e : o_link S (nI a) (nI b) (nI rm) = (2, 0, S) := by
          unfold o_link
          rw [hxa, hxb, Bool.and_self, if_pos rfl, if_pos (Or.inl (by rw [hab]))]
        rw [e]
        intro μ2 p1 p2
        have hJ2 := hJ.go p1 p2
        refine ⟨fun hc => (by cases hc), fun _ => ⟨fun hc => (by cases hc), fun _ => ⟨fun hne => absurd (by rw [hab]) hne, fun _ => ⟨fun hc => hc rfl, fun _ => h S μ2 hJ2 rfl rfl (Nat.le_refl _)⟩⟩, fun hc => (by cases hc)⟩⟩
      · have hne : ¬ nI a = nI b := fun e => hab ((nI_eq (by omega) (by omega)).1 e)
        have hlk := lkd_iff (G := S.1) hG.2.2.1 (by omega : a < 6) (by omega : b < 6) hab
        by_cases hfull : nLk S = 9 ∨ lkd S.1 a b = true
        · have e : o_link S (nI a) (nI b) (nI rm) = (3, 0, S) := by
            unfold o_link
            rw [hxa, hxb, Bool.and_self, if_pos rfl, if_neg (by rintro (e | e); exact hne e; rw [hrg] at e; cases e), ta, tb_, if_pos hfull]
          rw [e]
          intro μ2 p1 p2
          have hJ2 := hJ.go p1 p2
          have fin : (¬ ((-70008 : Int32) = (-70008 : Int32)) → False) ∧ ((-70008 : Int32) = (-70008 : Int32) → q μ2) := ⟨fun hc => hc rfl, fun _ => h S μ2 hJ2 rfl rfl (Nat.le_refl _)⟩
          refine ⟨fun hc => (by cases hc), fun _ => ⟨fun hc => (by cases hc), fun hc => (by cases hc), fun _ => ⟨fun _ => ⟨fun _ => fin, fun h0 => ⟨inN (k := 1) (by omega) (by omega), fun hn9 => ?_, fun _ => fin⟩⟩, fun he => absurd he hne⟩⟩⟩
          exfalso
          rw [c1 hJ2] at hn9
          rcases hfull with h9 | hl
          · exact hn9 (by rw [h9]; rfl)
          · rw [hlk] at hl
            rw [hl] at h0
            cases h0
        · have h9 : nLk S ≠ 9 := fun e => hfull (Or.inl e)
          have hl : lkd S.1 a b = false := by
            cases hb2 : lkd S.1 a b with
            | false => rfl
            | true => exact absurd (Or.inr hb2) hfull
          have e : o_link S (nI a) (nI b) (nI rm) = (0, nI (nLk S), (addL S.1 a b, set2 S.2.1 2 (nLk S) rm, S.2.2)) := by
            unfold o_link
            rw [hxa, hxb, Bool.and_self, if_pos rfl, if_neg (by rintro (e | e); exact hne e; rw [hrg] at e; cases e), ta, tb_, tr, if_neg hfull]
          have hg := g_link (x := nI a) (y := nI b) (z := nI rm) hG
          rw [e] at hg ⊢
          have hg : Good (addL S.1 a b, set2 S.2.1 2 (nLk S) rm, S.2.2) := hg
          have hSn := hS.link hg
          intro μ2 p1 p2
          have p1 : cInv (addL S.1 a b, set2 S.2.1 2 (nLk S) rm, S.2.2) μ2 := p1
          have hc1 : μ2 p_LC ((1 : Int32)).toNatClampNeg = nI (nLk S) := by rw [clT1, p2.cell (by decide)]; exact hJ.2.2.1.2.1
          refine ⟨fun _ => ⟨fun _ => ⟨fun hb0 => ?_, fun _ => ⟨inN (k := 1) (by omega) (by omega), fun _ => ?_, fun hn9 => ?_⟩⟩, fun he => absurd he hne⟩, fun hc => absurd rfl hc⟩
          · exfalso
            rw [← hlk, hl] at hb0
            exact hb0 rfl
          · have e30 : (3 : Int32) * nI (nLk S) = nI (3 * nLk S) := nI_pk3 _
            rw [hc1, e30, clT (show 3 * nLk S < 2147483648 by omega)]
            refine ⟨inN (k := 1) (by omega) (by omega), inN (by omega) (by omega), fun μ3 hμ3 => ?_⟩
            have f3 : ∀ c, c ≠ p_LL → μ3 c = μ2 c := fun c hc => by rw [hμ3]; exact u_ne hc
            have hc3 : μ3 p_LC ((1 : Int32)).toNatClampNeg = nI (nLk S) := by rw [f3 _ (by decide)]; exact hc1
            rw [hc3, e30, i1, clT (show 3 * nLk S + 1 < 2147483648 by omega)]
            refine ⟨inN (k := 1) (by omega) (by omega), inN (by omega) (by omega), fun μ4 hμ4 => ?_⟩
            have f4 : ∀ c, c ≠ p_LL → μ4 c = μ3 c := fun c hc => by rw [hμ4]; exact u_ne hc
            have hc4 : μ4 p_LC ((1 : Int32)).toNatClampNeg = nI (nLk S) := by rw [f4 _ (by decide)]; exact hc3
            have e32 : nI (3 * nLk S) + (2 : Int32) = nI (3 * nLk S + 2) := nI_add _ 2
            rw [hc4, e30, e32, clT (show 3 * nLk S + 2 < 2147483648 by omega)]
            refine ⟨inN (k := 1) (by omega) (by omega), inN (by omega) (by omega), fun μ5 hμ5 => ?_⟩
            have f5 : ∀ c, c ≠ p_LL → μ5 c = μ4 c := fun c hc => by rw [hμ5]; exact u_ne hc
            have hc5 : μ5 p_LC ((1 : Int32)).toNatClampNeg = nI (nLk S) := by rw [f5 _ (by decide)]; exact hc4
            rw [hc5, i1]
            refine ⟨inN (k := 1) (by omega) (by omega), inN (k := 1) (by omega) (by omega), fun μ6 hμ6 => ?_⟩
            have e61 : μ6 p_LC ((1 : Int32)).toNatClampNeg = nI (nLk S + 1) := by rw [hμ6, u_eq]; exact d_eq
            rw [e61, one_sub]
            refine ⟨inN (k := 1) (by omega) (by omega), fun hc => hc rfl, fun _ => ?_⟩
            have f6 : ∀ c, c ≠ p_LL → c ≠ p_LC → μ6 c = μ2 c := fun c h1 h2 => by rw [hμ6, u_ne h2, f5 c h1, f4 c h1, f3 c h1]
            have eLL : μ6 p_LL = μ5 p_LL := by rw [hμ6]; exact u_ne (by decide)
            have hla := hJ.2.2.fr p2.la
            refine h (addL S.1 a b, set2 S.2.1 2 (nLk S) rm, S.2.2) μ6 ⟨hSn, p1.law (fun c hc => f6 c (fun e => hc (by rw [e]; decide)) (fun e => hc (by rw [e]; decide))), ?_, ?_, ?_⟩ rfl rfl (Nat.le_refl _)
            · have eC : ∀ j, j ≠ 1 → μ6 p_LC j = μ2 p_LC j := fun j hj => by
                rw [hμ6, u_eq, clT1, d_ne hj, f5 _ (by decide), f4 _ (by decide), f3 _ (by decide)]
              refine ⟨?_, e61, ?_, ?_, ?_⟩
              · rw [eC 0 (by decide)]; exact hla.1.1
              · rw [eC 2 (by decide)]; exact hla.1.2.2.1
              · rw [eC 3 (by decide)]; exact hla.1.2.2.2.1
              · rw [eC 4 (by decide)]; exact hla.1.2.2.2.2
            · refine ⟨fun v hv => by rw [f6 _ (by decide) (by decide)]; exact hla.2.1.1 v hv, fun k hk => ?_⟩
              have hk : k < nLk S + 1 := hk
              have old : ∀ j, j ≠ 3 * nLk S → j ≠ 3 * nLk S + 1 → j ≠ 3 * nLk S + 2 → μ6 p_LL j = μ2 p_LL j := fun j h1 h2 h3 => by
                rw [eLL, hμ5, u_eq, d_ne h3, hμ4, u_eq, d_ne h2, hμ3, u_eq, d_ne h1]
              by_cases hkn : k = nLk S
              · rw [hkn]
                have s1 : (addL S.1 a b).2.1 (nLk S) = a := if_pos rfl
                have s2 : (addL S.1 a b).2.2.1 (nLk S) = b := if_pos rfl
                have s3 : set2 S.2.1 2 (nLk S) rm 2 (nLk S) = rm := if_pos ⟨rfl, rfl⟩
                show μ6 p_LL (3 * nLk S) = nI ((addL S.1 a b).2.1 (nLk S)) ∧ μ6 p_LL (3 * nLk S + 1) = nI ((addL S.1 a b).2.2.1 (nLk S)) ∧ μ6 p_LL (3 * nLk S + 2) = nI (set2 S.2.1 2 (nLk S) rm 2 (nLk S))
                rw [s1, s2, s3, eLL]
                refine ⟨?_, ?_, ?_⟩
                · rw [hμ5, u_eq, d_ne (by omega), hμ4, u_eq, d_ne (by omega), hμ3, u_eq, d_eq]
                · rw [hμ5, u_eq, d_ne (by omega), hμ4, u_eq, d_eq]
                · rw [hμ5, u_eq, d_eq]
              · have hk2 : k < nLk S := by omega
                have s1 : (addL S.1 a b).2.1 k = S.1.2.1 k := if_neg hkn
                have s2 : (addL S.1 a b).2.2.1 k = S.1.2.2.1 k := if_neg hkn
                have s3 : set2 S.2.1 2 (nLk S) rm 2 k = S.2.1 2 k := if_neg (by omega)
                show μ6 p_LL (3 * k) = nI ((addL S.1 a b).2.1 k) ∧ μ6 p_LL (3 * k + 1) = nI ((addL S.1 a b).2.2.1 k) ∧ μ6 p_LL (3 * k + 2) = nI (set2 S.2.1 2 (nLk S) rm 2 k)
                rw [s1, s2, s3, old _ (by omega) (by omega) (by omega), old _ (by omega) (by omega) (by omega), old _ (by omega) (by omega) (by omega)]
                exact hla.2.1.2 k hk2
            · intro i hi
              rw [f6 _ (by decide) (by decide), f6 _ (by decide) (by decide), f6 _ (by decide) (by decide)]
              exact hla.2.2 i hi
          · exfalso
            rw [hc1] at hn9
            exact h9 ((nI_eq (b := 9) (by omega) (by omega)).1 hn9)
    · intro k hk hn
      obtain ⟨l1, l2, -⟩ := hJ.2.2.2.1.2 k hk
      obtain ⟨g1, g2⟩ := hG.2.2.1.2.1 k hk
      rw [an_succ] at hn
      have e30 : (3 : Int32) * nI k = nI (3 * k) := nI_pk3 k
      refine h102 _ _ _ _ _ _ _ ?_
      unfold F_L_ground_102
      rw [c1 hJ, e30, i1, i1, clT (show 3 * k < 2147483648 by omega), clT (show 3 * k + 1 < 2147483648 by omega), l1, l2]
      refine ⟨by omega, inN (k := 1) (by omega) (by omega), fun hc => absurd hc (not_le_nI hk (by omega)), fun _ => ⟨fun hb1 => ?_, fun hb0 => ?_⟩⟩
      · have : an (fun j => decide ((S.1.2.1 j = a ∧ S.1.2.2.1 j = b) ∨ (S.1.2.1 j = b ∧ S.1.2.2.1 j = a))) k = true := by
          cases hx : an (fun j => decide ((S.1.2.1 j = a ∧ S.1.2.2.1 j = b) ∨ (S.1.2.1 j = b ∧ S.1.2.2.1 j = a))) k with
          | true => rfl
          | false => rw [hx] at hb1; exact absurd rfl hb1
        rw [this] at hn
        exact hn
      · have hx0 : an (fun j => decide ((S.1.2.1 j = a ∧ S.1.2.2.1 j = b) ∨ (S.1.2.1 j = b ∧ S.1.2.2.1 j = a))) k = false := by
          cases hx : an (fun j => decide ((S.1.2.1 j = a ∧ S.1.2.2.1 j = b) ∨ (S.1.2.1 j = b ∧ S.1.2.2.1 j = a))) k with
          | false => rfl
          | true => rw [hx] at hb0; cases hb0
        rw [hx0, Bool.false_or] at hn
        have no : ¬ (S.1.2.1 k = a ∧ S.1.2.2.1 k = b) → K141 (nI y) (nI a) (nI b) (nI k) 0 μ := fun h1 => by
          refine h141 _ _ _ _ _ _ ?_
          unfold F_L_ground_141
          rw [e30, i1, i1, clT (show 3 * k < 2147483648 by omega), clT (show 3 * k + 1 < 2147483648 by omega), l1, l2]
          refine ⟨by omega, inN (by omega) (by omega), fun hne => ?_, fun he => ⟨inN (by omega) (by omega), fun hne => ?_, fun he2 => ?_⟩⟩
          · rw [decide_eq_false (by rintro (e | e); exact h1 e; exact hne (by rw [e.1]))] at hn
            exact hn
          · rw [decide_eq_false (by rintro (e | e); exact h1 e; exact hne (by rw [e.2]))] at hn
            exact hn
          · rw [decide_eq_true (Or.inr ⟨(nI_eq (by omega) (by omega)).1 he, (nI_eq (by omega) (by omega)).1 he2⟩)] at hn
            exact hn
        refine ⟨inN (by omega) (by omega), fun hne => no (fun e => hne (by rw [e.1])), fun he => ⟨inN (by omega) (by omega), fun he2 => ?_, fun hne => no (fun e => hne (by rw [e.2]))⟩⟩
        rw [decide_eq_true (Or.inl ⟨(nI_eq (by omega) (by omega)).1 he, (nI_eq (by omega) (by omega)).1 he2⟩)] at hn
        exact hn
  · -- a node
    have e80 : (80 : Int32) = nI 80 := rfl
    have erm : (20 : Int32) + irm (nI y) (80 : Int32) = nI (20 + y % 80) := by
      rw [e80, irm_nI hy (by omega) (by omega)]
      exact nI_add 20 _
    have hrm : y % 80 < 80 := Nat.mod_lt _ (by omega)
    generalize hr : 20 + y % 80 = rm at erm
    have hrm2 : 20 ≤ rm ∧ rm ≤ 99 := by omega
    clear hr hrm
    rw [erm]
    have hrg : rg 1 99 (nI rm) = true := rg_t (a := 1) (b := 99) (by omega) (by omega) (by omega)
    have tr : toN (nI rm) = rm := toN_nI (by omega)
    refine A_node hG hJ.2.1 ?_
    by_cases h6 : nNd S = 6
    · have e : o_node S (nI rm) = (2, 0, S) := by unfold o_node; rw [if_pos hrg, if_pos h6]
      rw [e]
      intro μ2 p1 p2
      have hJ2 := hJ.go p1 p2
      refine ⟨fun hc => (by cases hc), fun _ => ⟨fun hc => (by cases hc), fun _ => ⟨inN (k := 0) (by omega) (by omega), fun hn6 => ?_, fun _ => ⟨fun hc => hc rfl, fun _ => h S μ2 hJ2 rfl rfl (Nat.le_refl _)⟩⟩⟩⟩
      exfalso
      rw [c0 hJ2, h6] at hn6
      exact hn6 rfl
    · have e : o_node S (nI rm) = (0, nI (nNd S), (S.1, set2 (set2 S.2.1 1 (nNd S) rm) 0 0 (nNd S + 1), S.2.2)) := by unfold o_node; rw [if_pos hrg, if_neg h6, tr]
      rw [e]
      have hSn := hS.node (n := rm) hrg h6 (by omega)
      intro μ2 p1 p2
      have p1 : cInv (S.1, set2 (set2 S.2.1 1 (nNd S) rm) 0 0 (nNd S + 1), S.2.2) μ2 := p1
      have hc0 : μ2 p_LC ((0 : Int32)).toNatClampNeg = nI (nNd S) := by rw [clT0, p2.cell (by decide)]; exact hJ.2.2.1.1
      have hla := hJ.2.2.fr p2.la
      refine ⟨fun _ => ⟨inN (k := 0) (by omega) (by omega), fun _ => ?_, fun hc => ?_⟩, fun hc => absurd rfl hc⟩
      · rw [hc0, clT (show nNd S < 2147483648 by omega)]
        refine ⟨inN (k := 0) (by omega) (by omega), inN (by omega) (by omega), fun μ3 hμ3 => ?_⟩
        have f3 : ∀ c, c ≠ p_LG → μ3 c = μ2 c := fun c hc => by rw [hμ3]; exact u_ne hc
        have hc3 : μ3 p_LC ((0 : Int32)).toNatClampNeg = nI (nNd S) := by rw [f3 _ (by decide)]; exact hc0
        rw [hc3, i1]
        refine ⟨inN (k := 0) (by omega) (by omega), inN (k := 0) (by omega) (by omega), fun μ4 hμ4 => ?_⟩
        have e40 : μ4 p_LC ((0 : Int32)).toNatClampNeg = nI (nNd S + 1) := by rw [hμ4, u_eq]; exact d_eq
        rw [e40, one_sub]
        refine ⟨inN (k := 0) (by omega) (by omega), fun hc => hc rfl, fun _ => ?_⟩
        have f4 : ∀ c, c ≠ p_LG → c ≠ p_LC → μ4 c = μ2 c := fun c h1 h2 => by rw [hμ4, u_ne h2, f3 c h1]
        have s0 : nNd (S.1, set2 (set2 S.2.1 1 (nNd S) rm) 0 0 (nNd S + 1), S.2.2) = nNd S + 1 := by show set2 (set2 S.2.1 1 (nNd S) rm) 0 0 (nNd S + 1) 0 0 = _; unfold set2; rw [if_pos ⟨rfl, rfl⟩]
        refine h (S.1, set2 (set2 S.2.1 1 (nNd S) rm) 0 0 (nNd S + 1), S.2.2) μ4 ⟨hSn, p1.law (fun c hc => f4 c (fun e => hc (by rw [e]; decide)) (fun e => hc (by rw [e]; decide))), ?_, ?_, ?_⟩ rfl rfl (by rw [s0]; exact Nat.le_succ _)
        · have eC : ∀ j, j ≠ 0 → μ4 p_LC j = μ2 p_LC j := fun j hj => by rw [hμ4, u_eq, clT0, d_ne hj, f3 _ (by decide)]
          refine ⟨by rw [s0]; exact e40, ?_, ?_, ?_, ?_⟩
          · rw [eC 1 (by decide)]; exact hla.1.2.1
          · rw [eC 2 (by decide)]; exact hla.1.2.2.1
          · rw [eC 3 (by decide)]; exact hla.1.2.2.2.1
          · rw [eC 4 (by decide)]; exact hla.1.2.2.2.2
        · refine ⟨fun v hv => ?_, fun k hk => ?_⟩
          · rw [s0] at hv
            have eG : μ4 p_LG = μ3 p_LG := by rw [hμ4]; exact u_ne (by decide)
            rw [eG, hμ3, u_eq]
            show upd (μ2 p_LG) (nNd S) (nI rm) v = nI (set2 (set2 S.2.1 1 (nNd S) rm) 0 0 (nNd S + 1) 1 v)
            unfold set2
            rw [if_neg (by omega)]
            by_cases hvn : v = nNd S
            · rw [hvn, d_eq, if_pos ⟨rfl, rfl⟩]
            · rw [d_ne hvn, if_neg (by omega)]
              exact hla.2.1.1 v (by omega)
          · rw [f4 _ (by decide) (by decide)]
            exact hla.2.1.2 k hk
        · intro i hi
          rw [f4 _ (by decide) (by decide), f4 _ (by decide) (by decide), f4 _ (by decide) (by decide)]
          exact hla.2.2 i hi
      · exfalso
        rw [hc0] at hc
        exact h6 ((nI_eq (b := 6) (by omega) (by omega)).1 hc)
