/-! all mappings -/
def tzC (r : Rq) (c : Nat) : Bool := al (fun k => decide (k < r 0 10) || decide (Pc c k = 0)) 3
def mpC (G : GD) (nN : Nat) (L F : Nat → Int32) (r : Rq) (c : Nat) : List Mp := if gdC nN L r (Pc c) = true then mps G.1 (Wof G r (Pc c)) (r 6) (Pc c) (r 0 11) 0 F 0 (fun _ => 0) else []
def allM (G : GD) (nN : Nat) (L F : Nat → Int32) (r : Rq) : List Mp := (List.range 216).flatMap fun c => if tzC r c = true then mpC G nN L F r c else []
theorem rng_mul {α : Type} (g : Nat → List α) (b : Nat) (h : ∀ i, i % (b + 1) ≠ 0 → g i = []) : ∀ a, (List.range (a * (b + 1))).flatMap g = (List.range a).flatMap fun i => g (i * (b + 1))
  | 0 => by simp
  | a + 1 => by
    rw [Nat.succ_mul, List.range_add, List.flatMap_append, rng_mul g b h a, show List.range (a + 1) = List.range a ++ [a] from List.range_succ, List.flatMap_append]
    congr 1
    rw [List.flatMap_map, List.range_succ_eq_map, List.flatMap_cons]
    simp only [Nat.add_zero, List.flatMap_singleton]
    have : (List.map Nat.succ (List.range b)).flatMap (fun i => g (a * (b + 1) + i)) = [] := by
      rw [List.flatMap_eq_nil_iff]
      intro i hi
      obtain ⟨j, hj, rfl⟩ := List.mem_map.mp hi
      refine h _ ?_
      rw [Nat.mul_comm, Nat.mul_add_mod, Nat.mod_eq_of_lt (by have := List.mem_range.mp hj; omega)]
      omega
    rw [this, List.append_nil]
theorem allM_eq {G : GD} {nN : Nat} {L F : Nat → Int32} {r : Rq} (h1 : 1 ≤ r 0 10) (h3 : r 0 10 ≤ 3) : allM G nN L F r = (List.range (6 ^ r 0 10)).flatMap fun c => mpC G nN L F r (c * 6 ^ (3 - r 0 10)) := by
  have hnp : r 0 10 = 1 ∨ r 0 10 = 2 ∨ r 0 10 = 3 := by omega
  have tz : ∀ c, tzC r c = true ↔ ∀ k, k < 3 → k < r 0 10 ∨ Pc c k = 0 := fun c => by
    unfold tzC
    rw [al_iff]
    simp only [Bool.or_eq_true, decide_eq_true_eq]
  obtain ⟨b, hb⟩ : ∃ b, 6 ^ (3 - r 0 10) = b + 1 := ⟨6 ^ (3 - r 0 10) - 1, by have := Nat.pow_pos (n := 3 - r 0 10) (show 0 < 6 by decide); omega⟩
  have h216 : 216 = 6 ^ r 0 10 * (b + 1) := by rw [← hb, ← Nat.pow_add, show r 0 10 + (3 - r 0 10) = 3 by omega]
  unfold allM
  rw [h216, rng_mul]
  · rw [hb]
    congr 1
    funext c
    rw [if_pos]
    rw [tz]
    intro k hk
    by_cases hkn : k < r 0 10
    · exact Or.inl hkn
    · right
      rw [← hb]
      rcases hnp with h | h | h <;> rw [h] at hkn ⊢ <;> simp only [Nat.reduceSub, Nat.reducePow] <;> unfold Pc
      · have : k = 1 ∨ k = 2 := by omega
        rcases this with rfl | rfl <;> simp <;> omega
      · have : k = 2 := by omega
        subst this
        simp
      · omega
  · intro i hi
    rw [if_neg]
    rw [tz]
    intro hh
    rw [← hb] at hi
    have k1 := hh 1 (by omega)
    have k2 := hh 2 (by omega)
    unfold Pc at k1 k2
    simp at k1 k2
    rcases hnp with h | h | h <;> rw [h] at hi k1 k2 <;> simp only [Nat.reduceSub, Nat.reducePow] at hi <;> omega
/-- of a mapping that there is -/
def MpOk (G : GD) (nN : Nat) (r : Rq) (y : Mp) : Prop := y.1 < 10000 ∧ (∀ k, k < r 0 10 → y.2.1 k < nN) ∧ (∀ j k, j < r 0 10 → k < r 0 10 → j ≠ k → y.2.1 j ≠ y.2.1 k) ∧ (∀ l, l < r 0 11 → y.2.2 l ∈ Wof G r y.2.1 l) ∧ ∀ l, r 0 11 ≤ l → y.2.2 l = 0
theorem allM_ok {G : GD} {nN : Nat} {L F : Nat → Int32} {r : Rq} (hG : NetOk G) (hr : GoodD r) : ∀ y ∈ allM G nN L F r, MpOk G nN r y := by
  intro y hy
  obtain ⟨c, hc, hc2⟩ := List.mem_flatMap.mp hy
  split at hc2
  · unfold mpC at hc2
    split at hc2
    · rename_i hgd
      have hg := gdC_iff.1 hgd
      have h11 := hr.2.1
      have key : ∀ m l F c0 T, l + m = r 0 11 → ∀ e ∈ mps G.1 (Wof G r (Pc c)) (r 6) (Pc c) m l F c0 T, e.1 ≤ c0 + 180 * m ∧ e.2.1 = Pc c ∧ (∀ j, l ≤ j → j < l + m → e.2.2 j ∈ Wof G r (Pc c) j) ∧ ∀ j, (j < l ∨ l + m ≤ j) → e.2.2 j = T j := by
        intro m
        induction m with
        | zero =>
          intro l F c0 T _ e he
          rw [show mps G.1 (Wof G r (Pc c)) (r 6) (Pc c) 0 l F c0 T = [(c0, Pc c, T)] from rfl, List.mem_singleton] at he
          subst he
          exact ⟨by show c0 ≤ _; omega, rfl, fun j h1 h2 => by omega, fun _ _ => rfl⟩
        | succ m ih =>
          intro l F c0 T hl e he
          obtain ⟨w, hw, hw2⟩ := List.mem_flatMap.mp he
          split at hw2
          · obtain ⟨a1, a2, a3, a4⟩ := ih (l + 1) _ _ _ (by omega) e hw2
            have hp := pc_le w ((wl_W9 G _ _).lt hG.1 hw)
            have hb : r 6 l * pc w ≤ 180 := Nat.mul_le_mul (hr.2.2.2.1 l (by omega)).2.2.2.2 hp
            refine ⟨by omega, a2, fun j h1 h2 => ?_, fun j hj => ?_⟩
            · by_cases hjl : j = l
              · subst hjl
                rw [a4 j (by omega)]
                unfold setl
                rw [if_pos rfl]
                exact hw
              · exact a3 j (by omega) (by omega)
            · rw [a4 j (by omega)]
              unfold setl
              rw [if_neg (by omega)]
          · cases hw2
      obtain ⟨a1, a2, a3, a4⟩ := key _ _ _ _ _ (by omega) y hc2
      refine ⟨by omega, fun k hk => ?_, fun j k hj hk hjk => ?_, fun l hl => ?_, fun l hl => ?_⟩
      · rw [a2]; exact (hg k hk).1.1
      · rw [a2]
        by_cases hlt : j < k
        · exact (hg k hk).2 j hlt
        · exact fun hx => (hg j hj).2 k (by omega) hx.symm
      · rw [a2]; exact a3 l (by omega) (by omega)
      · exact a4 l (by omega)
    · cases hc2
  · cases hc2
theorem foldl_kp_mem : ∀ (L : List Mp) (B : Bs) (y : Mp), L.foldl kp B = some y → y ∈ L ∨ B = some y
  | [], B, y, h => Or.inr h
  | x :: L, B, y, h => by
    rcases foldl_kp_mem L (kp B x) y h with h1 | h1
    · exact Or.inl (List.mem_cons_of_mem _ h1)
    · unfold kp at h1
      cases B with
      | none =>
        have : x = y := Option.some.inj h1
        exact Or.inl (this ▸ List.mem_cons_self)
      | some z =>
        dsimp only at h1
        split at h1
        · have : x = y := Option.some.inj h1
          exact Or.inl (this ▸ List.mem_cons_self)
        · exact Or.inr h1
def vB (B : Bs) : Int32 := match B with
  | none => -1
  | some y => nI y.1
/-- the cells of a run -/
def dR (p c : Nat) : Prop := dS c ∨ c = 53 ∨ c = p + 3
theorem s_run {G : GD} {p M nN : Nat} {r : Rq} {L F0 : Nat → Int32} {μ : Mm} {q : Int32 → Mm → Prop} (hG : NetOk G) (hp : 105 ≤ p) (hr : GoodD r) (hr1 : 1 ≤ r 0 10) (hM : M ≤ 2) (hN : nN ≤ 6) (h6 : μ p_GR 6 = nI nN) (hE : Env G p r μ)
    (hL : ∀ v, v < nN → μ p_GR_nodeRooms v - μ p_BK_nodeNeeds v = L v) (hF : ∀ k, k < G.1 → lft μ k = F0 k) (h0 : ∀ k, k < G.1 → (F0 k).toInt ≤ 5000) (h1 : ∀ k, k < G.1 → (-4900 : Int) ≤ (F0 k).toInt)
    (h : ∀ μ2 B, HB (r 0 10) (r 0 11) B μ2 → RB M none (allM G nN L F0 r) B → Sm (dR p) μ μ2 → q (vB B) μ2) : Wp_X6_run p (nI M) μ q := by
  have hrr := hr
  obtain ⟨g1, g2, g3, g4, g5⟩ := hr
  unfold Wp_X6_run
  intro K22 h22
  unfold F_X6_run_e
  obtain ⟨μ0, hμ0⟩ : ∃ μ0, μ0 = up2 (up2 μ p_SE 7 (nI M)) p_SE 8 (-1 : Int32) := ⟨_, rfl⟩
  rw [← hμ0]
  have s0 : Sm dS μ μ0 := by rw [hμ0]; exact (Sm.up (Or.inl rfl)).tr (Sm.up (Or.inl rfl))
  have dE : ∀ x, dR p x → ¬ envC p x := fun x hx => by unfold dR dS at hx; unfold envC; omega
  have dE1 : ∀ x, dS x → dR p x := fun x hx => Or.inl hx
  have hE0 : Env G p r μ0 := hE.fr s0 (fun x hx => dE x (dE1 x hx))
  have n3 : ∀ (c k : Nat), c ≠ 3 → μ0 c k = μ c k := fun c k hc => by rw [hμ0, u_ne hc, u_ne hc]
  refine s_prepare (nN := nN) (L := L) (Or.inl rfl) hp hrr hN (by rw [n3 _ _ (by decide)]; exact h6) hE0.2.2 (fun v hv => by rw [n3 _ _ (by decide), n3 _ _ (by decide)]; exact hL v hv) (fun μ1 s1 hfit => ?_)
  have s01 : Sm (dR p) μ μ1 := (s0.mono dE1).tr (s1.mono (fun x hx => Or.inr (Or.inl hx)))
  have e31 : μ1 3 = μ0 3 := s1 3 (by decide)
  have h71 : μ1 3 7 = nI M := by rw [e31, hμ0]; simp [up2, upd]
  have hB1 : HB (r 0 10) (r 0 11) none μ1 := by
    show μ1 3 8 = -1
    rw [e31, hμ0]; simp [up2, upd]
  have hpow : 6 ^ r 0 10 ≤ 216 := show 6 ^ r 0 10 ≤ 6 ^ 3 from Nat.pow_le_pow_right (by decide) g1
  rw [allM_eq hr1 g1] at h
  obtain ⟨gi, hgi⟩ : ∃ gi, gi = fun c => mpC G nN L F0 r (c * 6 ^ (3 - r 0 10)) := ⟨_, rfl⟩
  rw [← hgi] at h
  refine dn (P := fun c => ∀ μ2 B2, HB (r 0 10) (r 0 11) B2 μ2 → RB M none ((List.range c).flatMap gi) B2 → Sm (dR p) μ μ2 → μ2 3 7 = nI M → (∀ k, k < r 0 10 → μ2 53 k = nI (fitN L r k nN)) → K22 (nI (6 ^ r 0 10)) (nI c) μ2) (n := 6 ^ r 0 10) ?_ ?_ μ1 none hB1 RB.nil s01 h71 hfit
  · intro μ2 B2 hB2 hR2 s2 h72 hf2
    refine h22 _ _ _ ?_
    unfold F_X6_run_22
    simp (disch := omega) only [vpT, vpT0, vpT1, vpT2, clT, clT0, clT1, clT2, leT, leF, leT0, ltT, ltF, i1, true_and, and_true, true_implies, false_implies, not_true_eq_false, not_false_eq_true, forall_const, implies_true]
    have := h μ2 B2 hB2 hR2 s2
    cases B2 with
    | none => rw [show μ2 p_SE 8 = -1 from hB2]; exact this
    | some y => rw [show μ2 p_SE 8 = nI y.1 from hB2.1]; exact this
  · intro c hc hnx μ2 B2 hB2 hR2 s2 h72 hf2
    refine h22 _ _ _ ?_
    unfold F_X6_run_22
    simp (disch := omega) only [vpT, vpT0, vpT1, vpT2, clT, clT0, clT1, clT2, leT, leF, leT0, ltT, ltF, i1, true_and, and_true, true_implies, false_implies, not_true_eq_false, not_false_eq_true, forall_const, implies_true]
    have hE2 : Env G p r μ2 := hE.fr s2 dE
    rw [show (List.range (c + 1)).flatMap gi = (List.range c).flatMap gi ++ gi c by rw [List.range_succ, List.flatMap_append]; simp] at hnx
    have hgic : gi c = mpC G nN L F0 r (c * 6 ^ (3 - r 0 10)) := by rw [hgi]
    obtain ⟨P, hP⟩ : ∃ P, P = Pc (c * 6 ^ (3 - r 0 10)) := ⟨_, rfl⟩
    refine s_take (nN := nN) (L := L) (Or.inl rfl) hp hrr hN hE2.2.2 hf2 hc (fun μ3 s3 hP3 => ?_)
    unfold mpC at hgic
    rw [← hP] at hP3 hgic ⊢
    have d3R : ∀ x, (fun c => c = p + 3) x → dR p x := fun x hx => Or.inr (Or.inr hx)
    have s23 := s2.tr (s3.mono d3R)
    have k3 : ∀ c, c ≠ p + 3 → μ3 c = μ2 c := fun c hc => s3 c hc
    have hB3 : HB (r 0 10) (r 0 11) B2 μ3 := hB2.fr (by rw [k3 3 (by omega)]) (k3 18 (by omega)) (k3 19 (by omega))
    have h73 : μ3 3 7 = nI M := by rw [k3 3 (by omega)]; exact h72
    have hf3 : ∀ k, k < r 0 10 → μ3 53 k = nI (fitN L r k nN) := by rw [k3 53 (by omega)]; exact hf2
    refine bq (fun hg => ?_) (fun hg => ?_)
    · rw [hg] at hgic
      rw [if_neg (by decide)] at hgic
      refine hnx μ3 B2 hB3 (hR2.app (by rw [hgic]; exact RB.nil)) s23 h73 hf3
    · have hg2 := gdC_iff.1 hg
      rw [if_pos hg] at hgic
      have hPm := hP3 hg
      have hP6 : ∀ k, k < r 0 10 → P k < 6 := fun k hk => by have := (hg2 k hk).1.1; omega
      have hPd : ∀ j k, j < r 0 10 → k < r 0 10 → j ≠ k → P j ≠ P k := fun j k hj hk hjk => by
        by_cases hlt : j < k
        · exact (hg2 k hk).2 j hlt
        · exact fun hx => (hg2 j hj).2 k (by omega) hx.symm
      have hE3 : Env G p r μ3 := hE.fr s23 dE
      have hlf : ∀ {μx : Mm}, Sm (dR p) μ μx → ∀ k, k < G.1 → lft μx k = F0 k := fun {μx} sx k hk => by
        rw [lft_fr (sx 8 (by unfold dR dS; omega)) (sx 14 (by unfold dR dS; omega)) (sx 15 (by unfold dR dS; omega))]
        exact hF k hk
      have hLw : Lw G.1 F0 (r 0 11) F0 := fun k hk => by have := h1 k hk; omega
      refine s_findFloors (F0 := F0) hG hp hrr hM hP6 hPd h0 hE3 hPm (hlf s23) h73 (fun μ4 fr hm4 hfr hfl s4 => ?_) (fun μ4 hnone s4 => ?_)
      · have k4 : ∀ c, c ≠ 17 → μ4 c = μ3 c := fun c hc => s4 c hc
        have s24 : Sm (dR p) μ μ4 := s23.tr (s4.mono (fun x hx => Or.inl (Or.inr (Or.inr (Or.inl hx)))))
        have hB4 : HB (r 0 10) (r 0 11) B2 μ4 := hB3.fr (by rw [k4 3 (by omega)]) (k4 18 (by omega)) (k4 19 (by omega))
        have h74 : μ4 3 7 = nI M := by rw [k4 3 (by omega)]; exact h73
        have hf4 : ∀ k, k < r 0 10 → μ4 53 k = nI (fitN L r k nN) := by rw [k4 53 (by omega)]; exact hf3
        refine br_f (by decide) ?_
        rw [show μ4 p_SE_floors 0 = nI (fr 0) from hm4 0 (by omega)]
        have hfr0 := hfr 0 (by omega)
        refine s_isCut hM h74 hB4 (by omega) ?_
        refine bqr (fun hcut => ?_) (fun hcut => ?_)
        · refine s_choose (F0 := F0) (M := M) (fr := fr) hG hp hrr hM hP6 hPd h0 hfr hfl (r 0 11) 4 0 F0 0 (fun _ => 0) B2 μ4 _ (by omega) (by omega) (hE.fr s24 dE) (fun k hk => by rw [k4 (p + 3) (by omega)]; exact hPm k hk) (hlf s24) (fun j hj => by omega) h74 hm4 hB4 (by omega) hLw (fun μ5 B5 hB5 hR5 hf5 => ?_)
          refine hnx μ5 B5 hB5 (hR2.app (by rw [hgic]; exact hR5)) (s24.tr (hf5.1.mono dE1)) (by rw [hf5.2.1]; exact h74) (fun k hk => ?_)
          rw [hf5.1 53 (by unfold dS; omega)]
          exact hf4 k hk
        · refine hnx μ4 B2 hB4 (hR2.app ?_) s24 h74 hf4
          rw [hgic]
          cases B2 with
          | none => exact absurd hcut (by unfold cutB; simp)
          | some y =>
            refine RB.skip (fun hM2 x hx => ?_)
            have hle := hfl 0 (by omega) _ _ _ _ (by omega) hLw x hx
            unfold cutB at hcut
            dsimp only at hcut
            by_cases hM1 : M = 1
            · rw [if_pos hM1] at hcut; cases hcut
            · rw [if_neg hM1, if_pos (by omega)] at hcut
              have := of_decide_eq_true hcut
              omega
      · have k4 : ∀ c, c ≠ 17 → μ4 c = μ3 c := fun c hc => s4 c hc
        have s24 : Sm (dR p) μ μ4 := s23.tr (s4.mono (fun x hx => Or.inl (Or.inr (Or.inr (Or.inl hx)))))
        refine br_t rfl (hnx μ4 B2 (hB3.fr (by rw [k4 3 (by omega)]) (k4 18 (by omega)) (k4 19 (by omega))) (hR2.app ?_) s24 (by rw [k4 3 (by omega)]; exact h73) (by rw [k4 53 (by omega)]; exact hf3))
        rw [hgic, hnone _ _ _ _ rfl hLw]
        exact RB.nil
/-- a draft's ways as the search hands them over -/
theorem s_setWay {p l : Nat} {x : Int32} {μ : Mm} {q : Mm → Prop} (hl : l < 3) (h : q (up2 (up2 (up2 (up2 μ (p + 7) l x) (p + 8) l (μ (p + 6) l)) (p + 9) l 0) (p + 10) l 0)) : Wp_X5_setWay p (nI l) x μ q := by
  unfold Wp_X5_setWay F_X5_setWay_e
  simp (disch := omega) only [vpT, vpT0, vpT1, vpT2, clT, clT0, clT1, clT2, leT, leF, leT0, ltT, ltF, i1, true_and, and_true, true_implies, false_implies, not_true_eq_false, not_false_eq_true, forall_const, implies_true]
  rw [u_ne (show p + 6 ≠ p + 7 by omega)]
  exact h
def dH (p c : Nat) : Prop := c = p + 3 ∨ (p + 7 ≤ c ∧ c ≤ p + 10)
theorem s_handOver {p : Nat} {r : Rq} {y : Mp} {μ : Mm} {q : Mm → Prop} (hp : 105 ≤ p) (hr : GoodD r) (hQ : cQ p r μ) (hB : HB (r 0 10) (r 0 11) (some y) μ)
    (h : ∀ μ2, Sm (dH p) μ μ2 → (∀ k, k < r 0 10 → μ2 (p + 3) k = nI (y.2.1 k)) → (∀ l, l < r 0 11 → μ2 (p + 7) l = nI (y.2.2 l) ∧ μ2 (p + 8) l = nI (r 6 l) ∧ μ2 (p + 9) l = nI 0 ∧ μ2 (p + 10) l = nI 0) → q μ2) : Wp_X6_handOver p μ q := by
  obtain ⟨g1, g2, g3, g4, g5⟩ := hr
  obtain ⟨b1, b2, b3, b4⟩ := hB
  have k : ∀ {μ2}, Sm (dH p) μ μ2 → ∀ c, ¬ dH p c → μ2 c = μ c := fun hs c hc => hs c hc
  unfold Wp_X6_handOver
  intro K2 K30 h2 h30
  unfold F_X6_handOver_e
  have key30 : ∀ μ1, Sm (dH p) μ μ1 → (∀ k, k < r 0 10 → μ1 (p + 3) k = nI (y.2.1 k)) → K30 (nI 0) μ1 := by
    intro μ1 hs1 hp1
    refine dn (P := fun j => ∀ μ1, Sm (dH p) μ μ1 → (∀ k, k < r 0 10 → μ1 (p + 3) k = nI (y.2.1 k)) → (∀ l, l < j → μ1 (p + 7) l = nI (y.2.2 l) ∧ μ1 (p + 8) l = nI (r 6 l) ∧ μ1 (p + 9) l = nI 0 ∧ μ1 (p + 10) l = nI 0) → K30 (nI j) μ1) (n := r 0 11) ?_ ?_ μ1 hs1 hp1 (fun l hl => by omega)
    · intro μ1 hs1 hp1 hw1
      refine h30 _ _ ?_
      unfold F_X6_handOver_30
      rw [k hs1 p (by unfold dH; omega), hQ.2.1]
      simp (disch := omega) only [vpT, vpT0, vpT1, vpT2, clT, clT0, clT1, clT2, leT, leF, leT0, ltT, ltF, i1, true_and, and_true, true_implies, false_implies, not_true_eq_false, not_false_eq_true, forall_const, implies_true]
      exact h μ1 hs1 hp1 hw1
    · intro j hj hnx μ1 hs1 hp1 hw1
      refine h30 _ _ ?_
      unfold F_X6_handOver_30
      rw [k hs1 p (by unfold dH; omega), hQ.2.1]
      simp (disch := omega) only [vpT, vpT0, vpT1, vpT2, clT, clT0, clT1, clT2, leT, leF, leT0, ltT, ltF, i1, true_and, and_true, true_implies, false_implies, not_true_eq_false, not_false_eq_true, forall_const, implies_true]
      refine s_setWay (by omega) ?_
      rw [k hs1 p_SE_leastWays (by unfold dH; show ¬ (19 = _ ∨ (_ ≤ 19 ∧ 19 ≤ _)); omega), b4 j hj, k hs1 (p + 6) (by unfold dH; omega), (hQ.2.2.2.2 j hj).2.2]
      refine hnx _ ((((hs1.tr (Sm.up (by unfold dH; omega))).tr (Sm.up (by unfold dH; omega))).tr (Sm.up (by unfold dH; omega))).tr (Sm.up (by unfold dH; omega))) (fun i hi => ?_) (fun l hl => ?_)
      · rw [u_ne (by omega), u_ne (by omega), u_ne (by omega), u_ne (by omega)]; exact hp1 i hi
      · by_cases hlj : l = j
        · subst hlj
          refine ⟨?_, ?_, ?_, ?_⟩
          · rw [u_ne (by omega), u_ne (by omega), u_ne (by omega), u_eq, d_eq]
          · rw [u_ne (by omega), u_ne (by omega), u_eq, d_eq]
          · rw [u_ne (by omega), u_eq, d_eq]; rfl
          · rw [u_eq, d_eq]; rfl
        · have hw := hw1 l (by omega)
          refine ⟨?_, ?_, ?_, ?_⟩
          · rw [u_ne (by omega), u_ne (by omega), u_ne (by omega), u_eq, d_ne hlj]; exact hw.1
          · rw [u_ne (by omega), u_ne (by omega), u_eq, d_ne hlj, u_ne (by omega)]; exact hw.2.1
          · rw [u_ne (by omega), u_eq, d_ne hlj, u_ne (by omega), u_ne (by omega)]; exact hw.2.2.1
          · rw [u_eq, d_ne hlj, u_ne (by omega), u_ne (by omega), u_ne (by omega)]; exact hw.2.2.2
  refine dn (P := fun j => ∀ μ1, Sm (dH p) μ μ1 → (∀ k, k < j → μ1 (p + 3) k = nI (y.2.1 k)) → K2 (nI j) μ1) (n := r 0 10) ?_ ?_ μ Sm.rf (fun k hk => by omega)
  · intro μ1 hs1 hp1
    refine h2 _ _ ?_
    unfold F_X6_handOver_2
    rw [k hs1 p (by unfold dH; omega), hQ.1]
    simp (disch := omega) only [vpT, vpT0, vpT1, vpT2, clT, clT0, clT1, clT2, leT, leF, leT0, ltT, ltF, i1, true_and, and_true, true_implies, false_implies, not_true_eq_false, not_false_eq_true, forall_const, implies_true]
    exact key30 μ1 hs1 hp1
  · intro j hj hnx μ1 hs1 hp1
    refine h2 _ _ ?_
    unfold F_X6_handOver_2
    rw [k hs1 p (by unfold dH; omega), hQ.1]
    simp (disch := omega) only [vpT, vpT0, vpT1, vpT2, clT, clT0, clT1, clT2, leT, leF, leT0, ltT, ltF, i1, true_and, and_true, true_implies, false_implies, not_true_eq_false, not_false_eq_true, forall_const, implies_true]
    rw [k hs1 p_SE_leastPlaces (by unfold dH; show ¬ (18 = _ ∨ (_ ≤ 18 ∧ 18 ≤ _)); omega), b3 j hj]
    refine hnx _ (hs1.tr (Sm.up (by unfold dH; omega))) (fun i hi => ?_)
    rw [u_eq]
    by_cases hij : i = j
    · subst hij; rw [d_eq]
    · rw [d_ne hij]; exact hp1 i (by omega)
