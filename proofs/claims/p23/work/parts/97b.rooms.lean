/-! nothing is over its room, as the law asks it -/
theorem hit0 (r : Rq) (l : Nat) : hit r 0 l = false := by unfold hit; rw [Nat.and_zero]; rfl
theorem ld_0 {S : St} (k : Nat) : ldS S k 0 = ndS S k := sm_congr fun i _ => by
  unfold qL
  split
  · unfold ldOn
    exact sm_congr fun l _ => by unfold ldl; rw [hit0, if_neg (by decide)]
  · rfl
theorem hit_bit {r : Rq} {f l : Nat} (h : hit r (2 ^ f) l = true) : (r 7 l).testBit f = true ∨ (r 9 l).testBit f = true := by
  have h1 : (r 7 l ||| r 9 l) &&& 2 ^ f ≠ 0 := by simpa [hit] using h
  rw [and_pow] at h1
  have h2 : (r 7 l ||| r 9 l).testBit f = true := by
    cases hb : (r 7 l ||| r 9 l).testBit f with
    | true => rfl
    | false => rw [hb] at h1; exact absurd rfl h1
  rw [Nat.testBit_or, Bool.or_eq_true] at h2
  exact h2
theorem ld_le {S : St} (h : Snd S) (k f : Nat) : ldS S k (2 ^ f) ≤ ndS S k + bhS S f k := by
  have add : ∀ (F G : Nat → Nat) n, sm F n + sm G n = sm (fun i => F i + G i) n := fun F G n => by
    induction n with
    | zero => rfl
    | succ n ih =>
      show sm F n + F n + (sm G n + G n) = sm _ n + (F n + G n)
      omega
  unfold ndS bhS
  rw [add]
  refine sm_le fun i hi => ?_
  show _ ≤ qL (S.2.2 i) k + qB (S.2.2 i) f k
  unfold qL qB
  by_cases h14 : S.2.2 i 0 14 = 0
  · rw [if_pos h14, if_pos h14, if_pos h14]
    unfold ldOn
    rw [add]
    refine sm_le fun l hl => ?_
    show ldl _ _ _ _ ≤ lL _ _ _ + lB _ _ _ _
    unfold ldl
    by_cases hh : hit (S.2.2 i) (2 ^ f) l = true
    · rw [if_pos hh]
      obtain ⟨w7, w9, w10⟩ := (h.2.2.2 i hi).2.2.2 l hl
      rcases hit_bit hh with h7 | h9
      · unfold lB
        rw [tb_bit (S.2.2 i 7 l) f, h7, if_pos rfl, Nat.one_mul]
        exact Nat.le_add_left _ _
      · rcases w9 with w9 | ⟨m1, -, -⟩
        · rw [w9, Nat.zero_testBit] at h9; cases h9
        · rw [if_neg (by omega)] at w10
          rw [w10, tb_bit, Nat.zero_testBit, if_neg (by decide), Nat.zero_mul]
          exact Nat.zero_le _
    · rw [if_neg hh]
      exact Nat.le_add_right _ _
  · rw [if_neg h14]
    exact Nat.zero_le _
theorem vL_0 {S : St} {k : Nat} : vLk S k (nI 0) = nI (ndS S k) := by unfold vLk; rw [if_pos (by decide)]
theorem vL_1 {S : St} {k : Nat} : vLk S k (nI 1) = nI (rsS S k) := by unfold vLk; rw [if_neg (by decide), if_pos (by decide)]
theorem vL_2 {S : St} {k : Nat} : vLk S k (nI 2) = lfL S k := by unfold vLk; rw [if_neg (by decide), if_neg (by decide), if_pos (by decide)]
theorem vL_3 {S : St} {k : Nat} : vLk S k (nI 3) = nI (tb S.1.2.2.2 k) := by unfold vLk; rw [if_neg (by decide), if_neg (by decide), if_neg (by decide)]
theorem w_areRooms {z : ScT} {S : St} {μ : Mm} {q : Mm → Prop} (hJ : Js S μ) (h7 : nRq S ≤ 7) (h : ∀ μ2, Js S μ2 → q μ2) : Wp_L_areRooms z μ q := by
  have hS := hJ.1
  have hG := hS.1
  have hN := hG.1
  have hL := hG.L
  unfold Wp_L_areRooms
  intro K6 K28 K39 K90 K182 K286 K319 K335 K372 h6 h28 h39 h90 h182 h286 h319 h335 h372
  have c0 : ∀ {μ1 : Mm}, Js S μ1 → μ1 p_LC ((0 : Int32)).toNatClampNeg = nI (nNd S) := fun hj => by rw [clT0]; exact hj.2.2.1.1
  have c1 : ∀ {μ1 : Mm}, Js S μ1 → μ1 p_LC ((1 : Int32)).toNatClampNeg = nI (nLk S) := fun hj => by rw [clT1]; exact hj.2.2.1.2.1
  have c2 : ∀ {μ1 : Mm}, Js S μ1 → μ1 p_LC ((2 : Int32)).toNatClampNeg = nI (nRq S) := fun hj => by rw [clT2]; exact hj.2.2.1.2.2.1
  have k182 : ∀ (n : Nat) (μ1 : Mm), Js S μ1 → n ≤ 900 → K182 (0 : Int32) n μ1 := by
    intro n0 μ0 hJ0 hn0
    have key := dn (P := fun k => ∀ (n : Nat) (μ1 : Mm), Js S μ1 → n ≤ 900 + 20 * k → K182 (nI k) n μ1) (n := nLk S) ?_ ?_
    · exact key n0 μ0 hJ0 hn0
    · intro n μ1 hJ1 hn
      refine h182 _ _ _ ?_
      unfold F_L_areRooms_182
      rw [c1 hJ1]
      exact ⟨by omega, inN (k := 1) (by omega) (by omega), fun _ => h μ1 hJ1, fun hc => absurd (le_nI (Nat.le_refl _) (by omega)) hc⟩
    · intro k hk hnx n μ1 hJ1 hn
      have hcap := hS.2.2.1 k hk
      have hroom := hG.2.2.2.2.2.2.1 k hk
      refine h182 _ _ _ ?_
      unfold F_L_areRooms_182
      have e3 : (3 : Int32) * nI k + (2 : Int32) = nI (3 * k + 2) := by rw [nI_pk3, show (2 : Int32) = nI 2 from rfl, nI_add]
      rw [c1 hJ1, e3, clT (show 3 * k + 2 < 2147483648 by omega)]
      refine ⟨by omega, inN (k := 1) (by omega) (by omega), fun hc => absurd hc (not_le_nI hk (by omega)), fun _ => ⟨inN (by omega) (by omega), fun v hv => ?_⟩⟩
      have hv : v = nI (S.2.1 2 k) := by rw [hv]; exact (hJ1.2.2.2.1.2 k hk).2.2
      subst hv
      refine T_ofLink_ok (y := 0) hG hJ1.2.1 hk (by omega) (fun μ2 a b => ?_)
      have hJ2 := hJ1.go a b
      refine T_ofLink_ok (y := 1) hG hJ2.2.1 hk (by omega) (fun μ3 a b => ?_)
      have hJ3 := hJ2.go a b
      rw [vL_0, vL_1]
      refine ⟨fun hc => absurd hc (nI_pos (by omega)), fun _ => ⟨fun hc => absurd hc (nI_pos (by omega)), fun _ => ?_⟩⟩
      refine T_ofLink_ok (y := 2) hG hJ3.2.1 hk (by omega) (fun μ4 a b => ?_)
      have hJ4 := hJ3.go a b
      rw [vL_2, nI_add]
      refine ⟨fun hc => hc rfl, fun _ => ⟨fun hc => ?_, fun _ => ?_⟩⟩
      · rw [nI_ltI (by omega) (by omega)] at hc; omega
      refine T_load0 hG hJ4.2.1 hk (fun μ5 a b => ?_)
      have hJ5 := hJ4.go a b
      rw [ld_0]
      refine ⟨fun hc => hc rfl, fun _ => ?_⟩
      have key2 := dn (P := fun f => ∀ (most m : Nat) (μ6 : Mm), Js S μ6 → m ≤ 904 + 20 * k + f → most ≤ 99 → (k < f → ndS S k ≤ most) → K286 (nI k) (nI (S.2.1 2 k)) (nI (ndS S k)) (nI (rsS S k)) (nI most) (nI f) m μ6) (n := nLk S) ?_ ?_
      · exact key2 0 _ μ5 hJ5 (by omega) (by omega) (fun hc => by omega)
      · intro most m μ6 hJ6 hm hmost hmk
        refine h286 _ _ _ _ _ _ _ _ ?_
        unfold F_L_areRooms_286
        rw [c1 hJ6]
        refine ⟨by omega, inN (k := 1) (by omega) (by omega), fun _ => ?_, fun hc => absurd (le_nI (Nat.le_refl _) (by omega)) hc⟩
        refine h372 _ _ _ _ _ ?_
        unfold F_L_areRooms_372
        rw [i1]
        refine ⟨by omega, fun hc => ?_, fun _ => hnx _ _ hJ6 (by omega)⟩
        rw [nI_ltI (by omega) (by omega)] at hc
        have := hmk hk
        omega
      · intro f hf hn2 most m μ6 hJ6 hm hmost hmk
        have k319 : ∀ (ld m2 : Nat) (μ7 : Mm), Js S μ7 → m2 ≤ 905 + 20 * k + f → ld ≤ ndS S k + rsS S k → (k = f → ld = ndS S k) → K319 (nI k) (nI (S.2.1 2 k)) (nI (ndS S k)) (nI (rsS S k)) (nI most) (nI f) (nI ld) m2 μ7 := by
          intro ld m2 μ7 hJ7 hm2 hld hkf
          have k335 : ∀ (mo : Nat), mo ≤ 99 → ld ≤ mo → most ≤ mo → K335 (nI k) (nI (S.2.1 2 k)) (nI (ndS S k)) (nI (rsS S k)) (nI f) (nI ld) (nI mo) m2 μ7 := by
            intro mo hmo h1 h2
            refine h335 _ _ _ _ _ _ _ _ _ ?_
            unfold F_L_areRooms_335
            rw [nI_add, i1]
            refine ⟨by omega, fun hc => absurd hc (nI_pos (by omega)), fun _ => ⟨fun hc => ?_, fun _ => ⟨fun hc => ?_, fun _ => ?_⟩⟩⟩
            · rw [nI_ltI (by omega) (by omega)] at hc; omega
            · rw [nI_ltI (by omega) (by omega)] at hc; omega
            · refine hn2 mo _ μ7 hJ7 (by omega) hmo (fun hkf2 => ?_)
              by_cases hkf3 : k = f
              · have := hkf hkf3; omega
              · have := hmk (by omega); omega
          refine h319 _ _ _ _ _ _ _ _ _ ?_
          unfold F_L_areRooms_319
          refine ⟨by omega, fun hc => k335 most hmost ?_ (Nat.le_refl _), fun hc => k335 ld (by omega) (Nat.le_refl _) ?_⟩
          · exact Decidable.byContradiction fun hx => not_le_nI (show most < ld by omega) (by omega) hc
          · have : ¬ ld ≤ most := fun hx => hc (le_nI hx (by omega))
            omega
        refine h286 _ _ _ _ _ _ _ _ ?_
        unfold F_L_areRooms_286
        rw [c1 hJ6]
        refine ⟨by omega, inN (k := 1) (by omega) (by omega), fun hc => absurd hc (not_le_nI hf (by omega)), fun _ => ⟨fun hne => ?_, fun he => ?_⟩⟩
        · have hkf : k ≠ f := fun e => hne (by rw [e])
          refine T_load_ok hG hJ6.2.1 hk hf hkf (fun μ7 a b => ?_)
          have hJ7 := hJ6.go a b
          have h9 := ld_le hS k f
          have h10 : bhS S f k ≤ rsS S k := le_mx (f := fun f => bhS S f k) hf
          exact k319 _ _ _ hJ7 (by omega) (by omega) (fun e => absurd e hkf)
        · have hkf : f = k := (nI_eq (by omega) (by omega)).1 he
          exact k319 _ _ _ hJ6 (by omega) (by omega) (fun _ => rfl)
  unfold F_L_areRooms_e
  refine dn (P := fun v => ∀ (n : Nat) (μ1 : Mm), Js S μ1 → n ≤ 150 * v → K6 (nI v) n μ1) (n := nNd S) ?_ ?_ 0 μ hJ (Nat.le_refl _)
  · intro n μ1 hJ1 hn
    refine h6 _ _ _ ?_
    unfold F_L_areRooms_6
    rw [c0 hJ1]
    exact ⟨by omega, inN (k := 0) (by omega) (by omega), fun _ => k182 _ _ hJ1 (by omega), fun hc => absurd (le_nI (Nat.le_refl _) (by omega)) hc⟩
  · intro v hv hnv n μ1 hJ1 hn
    have hcap := hS.2.1 v hv
    have hroom := hG.2.2.2.2.2.1 v hv
    have k28 := dn (P := fun i => ∀ (m : Nat) (μ2 : Mm), Js S μ2 → m ≤ 150 * v + 20 * i → K28 (nI v) (nI (sm (fun j => qN (S.2.2 j) v) i)) (nI (sm (fun j => qP (S.2.2 j) v) i)) (nI i) m μ2) (n := nRq S) ?_ ?_
    · refine h6 _ _ _ ?_
      unfold F_L_areRooms_6
      rw [c0 hJ1]
      exact ⟨by omega, inN (k := 0) (by omega) (by omega), fun hc => absurd hc (not_le_nI hv (by omega)), fun _ => k28 n μ1 hJ1 (by omega)⟩
    · intro m μ2 hJ2 hm
      refine h28 _ _ _ _ _ _ ?_
      unfold F_L_areRooms_28
      rw [c2 hJ2]
      refine ⟨by omega, inN (k := 2) (by omega) (by omega), fun _ => ?_, fun hc => absurd (le_nI (Nat.le_refl _) (by omega)) hc⟩
      refine T_ofNode_ok (y := 0) hG hJ2.2.1 hv (by omega) (fun μ3 a b => ?_)
      have hJ3 := hJ2.go a b
      have eg : μ3 p_LG (nI v).toNatClampNeg = nI (S.2.1 1 v) := by rw [clT (by omega)]; exact hJ3.2.2.2.1.1 v hv
      rw [if_pos (by decide), eg, i1]
      refine ⟨inN (by omega) (by omega), fun hc => hc rfl, fun _ => ⟨inN (by omega) (by omega), fun hc => ?_, fun _ => ?_⟩⟩
      · have hcap : sm (fun j => qN (S.2.2 j) v) (nRq S) ≤ S.2.1 1 v := hcap
        rw [nI_ltI (by omega) (by omega)] at hc
        omega
      · refine T_ofNode_ok (y := 1) hG hJ3.2.1 hv (by omega) (fun μ4 a b => ?_)
        have hJ4 := hJ3.go a b
        rw [if_neg (by decide)]
        exact ⟨fun hc => hc rfl, fun _ => hnv _ _ hJ4 (by omega)⟩
    · intro i hi hni m μ2 hJ2 hm
      have hd := hG.d (hG.i hi)
      have hp := (hG.p hi).1
      have np3 := hd.1
      have r1 := (hS.2.2.2 i hi).1
      have eN : sm (fun j => qN (S.2.2 j) v) (i + 1) = sm (fun j => qN (S.2.2 j) v) i + qN (S.2.2 i) v := rfl
      have eP : sm (fun j => qP (S.2.2 j) v) (i + 1) = sm (fun j => qP (S.2.2 j) v) i + qP (S.2.2 i) v := rfl
      rw [eN, eP] at hni
      generalize sm (fun j => qN (S.2.2 j) v) i = A at hni ⊢
      generalize sm (fun j => qP (S.2.2 j) v) i = C at hni ⊢
      have k39 : K39 (nI v) (nI A) (nI C) (nI i) (0 : Int32) m μ2 := by
        by_cases h14 : S.2.2 i 0 14 = 0
        · have q1 : qN (S.2.2 i) v = sm (fun k => if S.2.2 i 3 k = v then S.2.2 i 1 k else 0) (S.2.2 i 0 10) := by unfold qN; rw [if_pos h14]
          have q2 : qP (S.2.2 i) v = sm (fun k => if S.2.2 i 3 k = v then 1 else 0) (S.2.2 i 0 10) := by unfold qP; rw [if_pos h14]
          have key := dn (P := fun k => ∀ (m2 : Nat) (μ3 : Mm), Js S μ3 → m2 ≤ 150 * v + 20 * i + 4 * k → K39 (nI v) (nI (A + sm (fun k => if S.2.2 i 3 k = v then S.2.2 i 1 k else 0) k)) (nI (C + sm (fun k => if S.2.2 i 3 k = v then 1 else 0) k)) (nI i) (nI k) m2 μ3) (n := S.2.2 i 0 10) ?_ ?_
          · exact key m μ2 hJ2 (by omega)
          · intro m2 μ3 hJ3 hm2
            refine h39 _ _ _ _ _ _ _ ?_
            unfold F_L_areRooms_39
            refine ⟨by omega, T_told_ok (y := 3) hG hJ3.2.1 hi (by omega) (fun μ4 a b => ?_)⟩
            have hJ4 := hJ3.go a b
            rw [vT_3, i1, ← q1, ← q2]
            exact ⟨fun _ => hni _ _ hJ4 (by omega), fun hc => absurd (le_nI (Nat.le_refl _) (by omega)) hc⟩
          · intro k hk hnk m2 μ3 hJ3 hm2
            have a6 := hp.2.1 k hk
            have e1 : sm (fun k => if S.2.2 i 3 k = v then S.2.2 i 1 k else 0) (k + 1) = sm (fun k => if S.2.2 i 3 k = v then S.2.2 i 1 k else 0) k + (if S.2.2 i 3 k = v then S.2.2 i 1 k else 0) := rfl
            have e2 : sm (fun k => if S.2.2 i 3 k = v then 1 else 0) (k + 1) = sm (fun k => if S.2.2 i 3 k = v then 1 else 0) k + (if S.2.2 i 3 k = v then 1 else 0) := rfl
            rw [e1, e2, ← Nat.add_assoc, ← Nat.add_assoc] at hnk
            have k90 : ∀ (y m3 : Nat) (μ4 : Mm), Js S μ4 → m3 ≤ 150 * v + 20 * i + 4 * k + 3 → y = (if S.2.2 i 3 k = v then S.2.2 i 1 k else 0) → K90 (nI v) (nI (C + sm (fun k => if S.2.2 i 3 k = v then 1 else 0) k)) (nI i) (nI k) (nI y) (nI (A + sm (fun k => if S.2.2 i 3 k = v then S.2.2 i 1 k else 0) k)) m3 μ4 := by
              intro y m3 μ4 hJ4 hm3 hy
              refine h90 _ _ _ _ _ _ _ _ ?_
              unfold F_L_areRooms_90
              refine ⟨by omega, fun v7 hv7 => T_at_ok hG hJ4.2.1 hi hk (fun μ5 a b => ?_)⟩
              have hJ5 := hJ4.go a b
              rw [nI_add, hy] at hv7
              subst hv7
              rw [i1]
              refine ⟨fun hne v8 hv8 => ?_, fun he v8 hv8 => ?_⟩
              · rw [if_neg (fun e => hne (by rw [e]))] at hnk ⊢
                rw [if_neg (fun e => hne (by rw [e]))] at hnk
                rw [hv8, z_add]
                exact hnk _ _ hJ5 (by omega)
              · have he : S.2.2 i 3 k = v := (nI_eq (by omega) (by omega)).1 he
                rw [if_pos he] at hnk ⊢
                rw [if_pos he] at hnk
                rw [hv8, i1]
                exact hnk _ _ hJ5 (by omega)
            refine h39 _ _ _ _ _ _ _ ?_
            unfold F_L_areRooms_39
            refine ⟨by omega, T_told_ok (y := 3) hG hJ3.2.1 hi (by omega) (fun μ4 a b => ?_)⟩
            have hJ4 := hJ3.go a b
            rw [vT_3]
            refine ⟨fun hc => absurd hc (not_le_nI hk (by omega)), fun _ => T_told_ok (y := 0) hG hJ4.2.1 hi (by omega) (fun μ5 a b => ?_)⟩
            have hJ5 := hJ4.go a b
            rw [vT_0, if_pos h14]
            refine ⟨fun hc => absurd rfl hc, fun _ => T_at_ok hG hJ5.2.1 hi hk (fun μ6 a b => ?_)⟩
            have hJ6 := hJ5.go a b
            refine ⟨fun hne => ?_, fun he => ?_⟩
            · exact k90 0 _ _ hJ6 (by omega) (by rw [if_neg (fun e => hne (by rw [e]))])
            · have he : S.2.2 i 3 k = v := (nI_eq (by omega) (by omega)).1 he
              have e3 : (3 : Int32) * nI i + nI k = nI (3 * i + k) := by rw [nI_pk3, nI_add]
              rw [e3, clT (show 3 * i + k < 2147483648 by omega), (hJ6.2.2.2.2 i hi).2.1 k hk]
              exact ⟨inN (by omega) (by omega), k90 _ _ _ hJ6 (by omega) (by rw [if_pos he])⟩
        · have q1 : qN (S.2.2 i) v = 0 := by unfold qN; rw [if_neg h14]
          have q2 : qP (S.2.2 i) v = 0 := by unfold qP; rw [if_neg h14]
          rw [q1, q2, Nat.add_zero, Nat.add_zero] at hni
          refine h39 _ _ _ _ _ _ _ ?_
          unfold F_L_areRooms_39
          refine ⟨by omega, T_told_ok (y := 3) hG hJ2.2.1 hi (by omega) (fun μ4 a b => ?_)⟩
          have hJ4 := hJ2.go a b
          rw [vT_3]
          refine ⟨fun hc => absurd hc (not_le_nI (k := 0) (by omega) (by omega)), fun _ => T_told_ok (y := 0) hG hJ4.2.1 hi (by omega) (fun μ5 a b => ?_)⟩
          have hJ5 := hJ4.go a b
          rw [vT_0, if_neg h14, i1]
          exact ⟨fun _ => hni _ _ hJ5 (by omega), fun hc => absurd hc (by decide)⟩
      refine h28 _ _ _ _ _ _ ?_
      unfold F_L_areRooms_28
      rw [c2 hJ2]
      exact ⟨by omega, inN (k := 2) (by omega) (by omega), fun hc => absurd hc (not_le_nI hi (by omega)), fun _ => k39⟩
