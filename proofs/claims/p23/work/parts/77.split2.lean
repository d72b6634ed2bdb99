/-! the choices by which lines can be split -/
theorem tz_range {α : Type} {r : Rq} (h1 : 1 ≤ r 0 10) (h3 : r 0 10 ≤ 3) (g : Nat → List α) : ((List.range 216).flatMap fun c => if tzC r c = true then g c else []) = (List.range (6 ^ r 0 10)).flatMap fun c => g (c * 6 ^ (3 - r 0 10)) := by
  have hnp : r 0 10 = 1 ∨ r 0 10 = 2 ∨ r 0 10 = 3 := by omega
  have tz : ∀ c, tzC r c = true ↔ ∀ k, k < 3 → k < r 0 10 ∨ Pc c k = 0 := fun c => by
    unfold tzC
    rw [al_iff]
    simp only [Bool.or_eq_true, decide_eq_true_eq]
  obtain ⟨b, hb⟩ : ∃ b, 6 ^ (3 - r 0 10) = b + 1 := ⟨6 ^ (3 - r 0 10) - 1, by have := Nat.pow_pos (n := 3 - r 0 10) (show 0 < 6 by decide); omega⟩
  have h216 : 216 = 6 ^ r 0 10 * (b + 1) := by rw [← hb, ← Nat.pow_add, show r 0 10 + (3 - r 0 10) = 3 by omega]
  rw [h216, rng_mul]
  · rw [hb]
    congr 1
    funext c
    rw [if_pos]
    rw [tz]
    intro k hk
    by_cases hkn : k < r 0 10
    · exact Or.inl hkn
    · right
      rw [← hb]
      rcases hnp with h | h | h <;> rw [h] at hkn ⊢ <;> simp only [Nat.reduceSub, Nat.reducePow] <;> unfold Pc
      · have : k = 1 ∨ k = 2 := by omega
        rcases this with rfl | rfl <;> simp <;> omega
      · have : k = 2 := by omega
        subst this
        simp
      · omega
  · intro i hi
    rw [if_neg]
    rw [tz]
    intro hh
    rw [← hb] at hi
    have k1 := hh 1 (by omega)
    have k2 := hh 2 (by omega)
    unfold Pc at k1 k2
    simp at k1 k2
    rcases hnp with h | h | h <;> rw [h] at hi k1 k2 <;> simp only [Nat.reduceSub, Nat.reducePow] at hi <;> omega
theorem head_at {α : Type} (g : Nat → List α) {c N : Nat} {x : α} (hc : c < N) (h0 : (List.range c).flatMap g = []) (hx : g c = [x]) : ((List.range N).flatMap g).head? = some x := by
  obtain ⟨m, rfl⟩ : ∃ m, N = c + (m + 1) := ⟨N - c - 1, by omega⟩
  rw [List.range_add, List.flatMap_append, h0, List.nil_append, List.range_succ_eq_map, List.map_cons, List.flatMap_cons, Nat.add_zero, hx]
  rfl
theorem range_next {α : Type} (g : Nat → List α) {c : Nat} (h0 : (List.range c).flatMap g = []) (hx : g c = []) : (List.range (c + 1)).flatMap g = [] := by
  rw [List.range_succ, List.flatMap_append, h0]
  simpa using hx
def spC (G : GD) (nN : Nat) (L F : Nat → Int32) (r : Rq) (c : Nat) : List Nat := if (gdC nN L r (Pc c) && okL G.1 (Wof G r (Pc c)) r F) = true then [c] else []
def allS (G : GD) (nN : Nat) (L F : Nat → Int32) (r : Rq) : Option Nat := ((List.range 216).flatMap fun c => if tzC r c = true then spC G nN L F r c else []).head?
theorem okL_congr {nL : Nat} {W : Nat → List Nat} {r : Rq} {F F2 : Nat → Int32} (h : ∀ k, k < nL → F k = F2 k) : okL nL W r F = okL nL W r F2 := by
  unfold okL
  congr 1
  funext l
  rw [(spF_congr h l).2]
theorem spQ_congr {nL : Nat} {W : Nat → List Nat} {r : Rq} {P : Nat → Nat} {F F2 : Nat → Int32} (h : ∀ k, k < nL → F k = F2 k) : spQ nL W r P F = spQ nL W r P F2 := by
  funext x y
  unfold spQ
  rw [(spF_congr h y).2]
theorem gd_nodes {nN : Nat} {L : Nat → Int32} {r : Rq} {P : Nat → Nat} (hN : nN ≤ 6) (h : gdC nN L r P = true) : (∀ k, k < r 0 10 → P k < 6) ∧ (∀ j k, j < r 0 10 → k < r 0 10 → j ≠ k → P j ≠ P k) ∧ ∀ k, k < r 0 10 → P k < nN := by
  have hg2 := gdC_iff.1 h
  refine ⟨fun k hk => by have := (hg2 k hk).1.1; omega, fun j k hj hk hjk => ?_, fun k hk => (hg2 k hk).1.1⟩
  by_cases hlt : j < k
  · exact (hg2 k hk).2 j hlt
  · exact fun hx => (hg2 j hj).2 k (by omega) hx.symm
theorem s_mapSplit {G : GD} {p nN : Nat} {r : Rq} {L F : Nat → Int32} {d : Nat → Nat} {μ : Mm} {q : Bool → Mm → Prop} (hG : NetOk G) (hp : 105 ≤ p) (hr : GoodD r) (hr1 : 1 ≤ r 0 10) (hN : nN ≤ 6) (h6 : μ p_GR 6 = nI nN) (hE : Env G p r μ)
    (hL : ∀ v, v < nN → μ p_GR_nodeRooms v - μ p_BK_nodeNeeds v = L v) (hF : ∀ k, k < G.1 → lft μ k = F k) (hd : ∀ k, k < 9 → μ p_BK_linkNeeds k = nI (d k))
    (h : ∀ μ2, Sm (fun c => c = 55 ∨ c = p + 3 ∨ c = 14 ∨ dV p c) μ μ2 → (∀ k, k < 9 → μ2 p_BK_linkNeeds k = nI (d k)) → (∀ c, allS G nN L F r = some c → gdC nN L r (Pc c) = true ∧ okL G.1 (Wof G r (Pc c)) r F = true ∧ cA p (spQ G.1 (Wof G r (Pc c)) r (Pc c) F) μ2 ∧ cW p (spQ G.1 (Wof G r (Pc c)) r (Pc c) F) μ2) → q (allS G nN L F r).isSome μ2) : Wp_X4_mapSplit p μ q := by
  have h10 := hr.1
  have hGL := hG.1
  have hall : allS G nN L F r = ((List.range (6 ^ r 0 10)).flatMap fun c => spC G nN L F r (c * 6 ^ (3 - r 0 10))).head? := by
    unfold allS
    rw [tz_range hr1 h10]
  rw [hall] at h
  obtain ⟨gi, hgi⟩ : ∃ gi, gi = fun c => spC G nN L F r (c * 6 ^ (3 - r 0 10)) := ⟨_, rfl⟩
  rw [← hgi] at h
  unfold Wp_X4_mapSplit
  intro K11 h11
  unfold F_X4_mapSplit_e
  refine s_prepare (nN := nN) (L := L) (Or.inr rfl) hp hr hN h6 hE.2.2 hL (fun μ1 s1 hf1 => ?_)
  have hpow : 6 ^ r 0 10 ≤ 216 := show 6 ^ r 0 10 ≤ 6 ^ 3 from Nat.pow_le_pow_right (by decide) h10
  have dE : ∀ x, (fun c => c = 55 ∨ c = p + 3 ∨ c = 14 ∨ dV p c) x → ¬ envC p x := fun x hx => by unfold dV at hx; unfold envC; omega
  refine dn (P := fun c => ∀ μ2, Sm (fun c => c = 55 ∨ c = p + 3 ∨ c = 14 ∨ dV p c) μ μ2 → (∀ k, k < 9 → μ2 p_BK_linkNeeds k = nI (d k)) → (∀ k, k < r 0 10 → μ2 (54 + 1) k = nI (fitN L r k nN)) → (List.range c).flatMap gi = [] → K11 (nI (6 ^ r 0 10)) (nI c) μ2) (n := 6 ^ r 0 10) ?_ ?_ μ1 (s1.mono (fun x hx => Or.inl hx)) (fun k hk => by rw [s1 p_BK_linkNeeds (by decide)]; exact hd k hk) hf1 rfl
  · intro μ2 s2 hd2 hf2 hn2
    refine h11 _ _ _ ?_
    unfold F_X4_mapSplit_11
    refine br_t (le_nI (Nat.le_refl _) (by omega)) ?_
    rw [hn2] at h
    exact h μ2 s2 hd2 (fun c hc => by cases hc)
  · intro c hc hnx μ2 s2 hd2 hf2 hn2
    refine h11 _ _ _ ?_
    unfold F_X4_mapSplit_11
    refine br_f (not_le_nI hc (by omega)) ?_
    have hE2 := hE.fr s2 dE
    rw [i1]
    refine s_take (nN := nN) (L := L) (Or.inr rfl) hp hr hN hE2.2.2 hf2 hc (fun μ3 s3 hP3 => ?_)
    have hgic : gi c = spC G nN L F r (c * 6 ^ (3 - r 0 10)) := by rw [hgi]
    obtain ⟨cc, hcc⟩ : ∃ cc, cc = c * 6 ^ (3 - r 0 10) := ⟨_, rfl⟩
    rw [← hcc] at hP3 hgic ⊢
    unfold spC at hgic
    have s23 : Sm (fun c => c = 55 ∨ c = p + 3 ∨ c = 14 ∨ dV p c) μ μ3 := s2.tr (s3.mono (fun x hx => Or.inr (Or.inl hx)))
    have hd3 : ∀ k, k < 9 → μ3 p_BK_linkNeeds k = nI (d k) := fun k hk => by rw [s3 p_BK_linkNeeds (by show ¬ (14 = p + 3); omega)]; exact hd2 k hk
    have hf3 : ∀ k, k < r 0 10 → μ3 (54 + 1) k = nI (fitN L r k nN) := by rw [s3 (54 + 1) (by show ¬ (55 = p + 3); omega)]; exact hf2
    refine bq (fun hg => ?_) (fun hg => ?_)
    · rw [hg, Bool.false_and, if_neg (by decide)] at hgic
      exact hnx μ3 s23 hd3 hf3 (range_next gi hn2 hgic)
    · obtain ⟨hP6, hPd, -⟩ := gd_nodes hN hg
      have hE3 := hE.fr s23 dE
      have hF3 : ∀ k, k < G.1 → lft μ3 k = F k := fun k hk => by
        rw [← hF k hk]
        unfold lft
        rw [s23 p_GR_linkRooms (by unfold dV; show ¬ (8 = 55 ∨ 8 = p + 3 ∨ 8 = 14 ∨ (p + 7 ≤ 8 ∧ _)); omega), s23 p_BK_reserved (by unfold dV; show ¬ (15 = 55 ∨ 15 = p + 3 ∨ 15 = 14 ∨ (p + 7 ≤ 15 ∧ _)); omega), hd3 k (by omega), hd k (by omega)]
      refine s_splitLines hG hp hr hE3 (hP3 hg) hP6 hPd hd3 (fun μ4 s4 hd4 hw4 => ?_)
      rw [okL_congr hF3] at hw4 ⊢
      rw [spQ_congr hF3] at hw4
      have s24 : Sm (fun c => c = 55 ∨ c = p + 3 ∨ c = 14 ∨ dV p c) μ μ4 := s23.tr (s4.mono (fun x hx => Or.inr (Or.inr hx)))
      rw [hg, Bool.true_and] at hgic
      refine bq (fun hb => ?_) (fun hb => ?_)
      · rw [hb, if_neg (by decide)] at hgic
        exact hnx μ4 s24 hd4 (fun k hk => by rw [s4 (54 + 1) (by unfold dV; omega)]; exact hf3 k hk) (range_next gi hn2 hgic)
      · rw [if_pos hb] at hgic
        rw [head_at gi hc hn2 hgic] at h
        refine h μ4 s24 hd4 (fun c2 hc2 => ?_)
        cases hc2
        refine ⟨hg, hb, fun k hk => ?_, hw4 hb⟩
        rw [spQ_x (by omega)] at hk
        rw [s4 (p + 3) (by unfold dV; omega)]
        exact hP3 hg k hk
/-! the reference -/
def rmF (F : Nat → Int32) (w : Nat) : Nat → Int32
  | 0 => 99
  | k + 1 => if w.testBit k = true ∧ F k < rmF F w k then F k else rmF F w k
theorem rmF_le (F : Nat → Int32) (w : Nat) : ∀ n, (rmF F w n).toInt ≤ 99
  | 0 => by show (99 : Int32).toInt ≤ 99; decide
  | k + 1 => by
    have := rmF_le F w k
    unfold rmF
    split
    · rename_i h
      have h2 := h.2
      rw [Int32.lt_iff_toInt_lt] at h2
      omega
    · exact this
theorem rmF_ge {F : Nat → Int32} {w : Nat} {b : Int} (hb : b ≤ 99) : ∀ n, (∀ k, k < n → b ≤ (F k).toInt) → b ≤ (rmF F w n).toInt
  | 0, _ => by show b ≤ (99 : Int32).toInt; rw [show (99 : Int32).toInt = 99 from rfl]; exact hb
  | k + 1, h => by
    have := rmF_ge (w := w) hb k (fun j hj => h j (by omega))
    unfold rmF
    split
    · exact h k (by omega)
    · exact this
theorem ok_rm {F : Nat → Int32} {w t : Nat} (ht : t ≤ 99) : ∀ n, okF n F (nI t) w = true ↔ (t : Int) ≤ (rmF F w n).toInt
  | 0 => by
    show (true = true ↔ (t : Int) ≤ (99 : Int32).toInt)
    rw [show (99 : Int32).toInt = 99 from rfl]
    exact ⟨fun _ => by omega, fun _ => rfl⟩
  | n + 1 => by
    have ih := ok_rm (F := F) (w := w) ht n
    have e : okF (n + 1) F (nI t) w = (okF n F (nI t) w && (!w.testBit n || !decide (F n < nI t))) := rfl
    rw [e, Bool.and_eq_true, ih]
    have hn : (nI t).toInt = t := nI_toInt (by omega)
    rw [show rmF F w (n + 1) = if w.testBit n = true ∧ F n < rmF F w n then F n else rmF F w n from rfl]
    cases hb : w.testBit n with
    | false => simp
    | true =>
      simp only [Bool.not_true, Bool.false_or, true_and, Bool.not_eq_true', decide_eq_false_iff_not, Int32.lt_iff_toInt_lt, hn]
      split <;> constructor
      · rintro ⟨h1, h2⟩; omega
      · intro h1; exact ⟨by omega, by omega⟩
      · rintro ⟨h1, h2⟩; exact h1
      · intro h1; exact ⟨h1, by omega⟩
def wst1 (R : Nat → Int32) (b w : Nat) : Nat := if 1 ≤ (R w).toInt ∧ (b = 0 ∨ (R b).toInt < (R w).toInt ∨ ((R w).toInt = (R b).toInt ∧ pc w < pc b)) then w else b
def wid (R : Nat → Int32) (l : List Nat) : Nat := l.foldl (wst1 R) 0
theorem wid_max {R : Nat → Int32} : ∀ (l : List Nat) (b0 : Nat), (∀ w, w ∈ l → w ≠ 0) → (b0 ≠ 0 → 1 ≤ (R b0).toInt) → (l.foldl (wst1 R) b0 = 0 → b0 = 0 ∧ ∀ w, w ∈ l → (R w).toInt < 1) ∧ (l.foldl (wst1 R) b0 ≠ 0 → 1 ≤ (R (l.foldl (wst1 R) b0)).toInt ∧ (b0 ≠ 0 → (R b0).toInt ≤ (R (l.foldl (wst1 R) b0)).toInt) ∧ (∀ w, w ∈ l → (R w).toInt ≤ (R (l.foldl (wst1 R) b0)).toInt) ∧ (l.foldl (wst1 R) b0 = b0 ∨ l.foldl (wst1 R) b0 ∈ l))
  | [], b0, _, h0 => ⟨fun h => ⟨h, fun w hw => by cases hw⟩, fun h => ⟨h0 h, fun _ => Int.le_refl _, fun w hw => (by cases hw), Or.inl rfl⟩⟩
  | w :: l, b0, hnz, h0 => by
    have hw := hnz w List.mem_cons_self
    have ih := wid_max (R := R) l (wst1 R b0 w) (fun x hx => hnz x (List.mem_cons_of_mem _ hx)) (fun hb => by
      unfold wst1 at hb ⊢
      split
      · rename_i hc; exact hc.1
      · rename_i hc
        rw [if_neg hc] at hb
        exact h0 hb)
    rw [List.foldl_cons]
    obtain ⟨i1, i2⟩ := ih
    have st : (wst1 R b0 w = w ∧ 1 ≤ (R w).toInt ∧ (b0 = 0 ∨ (R b0).toInt ≤ (R w).toInt)) ∨ (wst1 R b0 w = b0 ∧ ((R w).toInt < 1 ∨ (b0 ≠ 0 ∧ (R w).toInt ≤ (R b0).toInt))) := by
      unfold wst1
      split
      · rename_i hc
        refine Or.inl ⟨rfl, hc.1, ?_⟩
        rcases hc.2 with h | h | h
        · exact Or.inl h
        · exact Or.inr (by omega)
        · exact Or.inr (by omega)
      · rename_i hc
        refine Or.inr ⟨rfl, ?_⟩
        by_cases h1 : (R w).toInt < 1
        · exact Or.inl h1
        · right
          refine ⟨fun hb => hc ⟨by omega, Or.inl hb⟩, ?_⟩
          by_cases h2 : (R b0).toInt < (R w).toInt
          · exact absurd ⟨by omega, Or.inr (Or.inl h2)⟩ hc
          · omega
    refine ⟨fun hz => ?_, fun hz => ?_⟩
    · obtain ⟨a1, a2⟩ := i1 hz
      rcases st with ⟨e, -⟩ | ⟨e, h1⟩
      · rw [e] at a1; exact absurd a1 hw
      · rw [e] at a1
        refine ⟨a1, fun x hx => ?_⟩
        rcases List.mem_cons.mp hx with rfl | hx
        · rcases h1 with h1 | h1
          · exact h1
          · exact absurd a1 h1.1
        · exact a2 x hx
    · obtain ⟨a1, a2, a3, a4⟩ := i2 hz
      generalize l.foldl (wst1 R) (wst1 R b0 w) = b at *
      rcases st with ⟨e, h1, h2⟩ | ⟨e, h1⟩
      · rw [e] at a2 a4
        have a2 := a2 hw
        refine ⟨a1, fun hb => ?_, fun x hx => ?_, ?_⟩
        · rcases h2 with h2 | h2
          · exact absurd h2 hb
          · omega
        · rcases List.mem_cons.mp hx with rfl | hx
          · exact a2
          · exact a3 x hx
        · rcases a4 with a4 | a4
          · exact Or.inr (a4 ▸ List.mem_cons_self)
          · exact Or.inr (List.mem_cons_of_mem _ a4)
      · rw [e] at a2 a4
        refine ⟨a1, a2, fun x hx => ?_, ?_⟩
        · rcases List.mem_cons.mp hx with rfl | hx
          · rcases h1 with h1 | ⟨h1, h2⟩
            · omega
            · have := a2 h1; omega
          · exact a3 x hx
        · rcases a4 with a4 | a4
          · exact Or.inl a4
          · exact Or.inr (List.mem_cons_of_mem _ a4)
theorem wid_fwp {R : Nat → Int32} {M : Int} {p : Nat → Bool} (hM : 1 ≤ M) : ∀ (l : List Nat) (b0 : Nat), (∀ w, w ∈ l → w ≠ 0 ∧ (R w).toInt ≤ M ∧ (p w = true ↔ M ≤ (R w).toInt)) → (b0 ≠ 0 → (R b0).toInt ≤ M) → l.foldl (fst1 p) (if b0 ≠ 0 ∧ (R b0).toInt = M then b0 else 0) = if l.foldl (wst1 R) b0 ≠ 0 ∧ (R (l.foldl (wst1 R) b0)).toInt = M then l.foldl (wst1 R) b0 else 0
  | [], _, _, _ => rfl
  | w :: l, b0, hl, h0 => by
    obtain ⟨w0, wM, wp⟩ := hl w List.mem_cons_self
    rw [List.foldl_cons, List.foldl_cons]
    have e : fst1 p (if b0 ≠ 0 ∧ (R b0).toInt = M then b0 else 0) w = if wst1 R b0 w ≠ 0 ∧ (R (wst1 R b0 w)).toInt = M then wst1 R b0 w else 0 := by
      by_cases hw : (R w).toInt = M
      · have hp : p w = true := wp.2 (by omega)
        by_cases hb : b0 ≠ 0 ∧ (R b0).toInt = M
        · rw [if_pos hb]
          by_cases hc : pc w < pc b0
          · have e1 : wst1 R b0 w = w := by
              unfold wst1
              exact if_pos ⟨by omega, Or.inr (Or.inr ⟨by omega, hc⟩)⟩
            have e2 : fst1 p b0 w = w := by
              unfold fst1
              exact if_pos ⟨hp, Or.inr hc⟩
            rw [e1, e2, if_pos ⟨w0, hw⟩]
          · have e1 : wst1 R b0 w = b0 := by
              unfold wst1
              refine if_neg (fun hx => ?_)
              rcases hx.2 with h | h | h
              · exact hb.1 h
              · omega
              · exact hc h.2
            have e2 : fst1 p b0 w = b0 := by
              unfold fst1
              exact if_neg (fun hx => hx.2.elim hb.1 hc)
            rw [e1, e2, if_pos hb]
        · have : b0 = 0 ∨ (R b0).toInt < (R w).toInt := by
            by_cases hz : b0 = 0
            · exact Or.inl hz
            · right
              have := h0 hz
              have : (R b0).toInt ≠ M := fun hx => hb ⟨hz, hx⟩
              omega
          have e1 : wst1 R b0 w = w := by
            unfold wst1
            refine if_pos ⟨by omega, ?_⟩
            rcases this with h | h
            · exact Or.inl h
            · exact Or.inr (Or.inl h)
          have e2 : fst1 p 0 w = w := by
            unfold fst1
            exact if_pos ⟨hp, Or.inl rfl⟩
          rw [if_neg hb, e1, e2, if_pos ⟨w0, hw⟩]
      · have hp : ¬ p w = true := fun hx => hw (by have := wp.1 hx; omega)
        have e2 : ∀ c, fst1 p c w = c := fun c => by
          unfold fst1
          exact if_neg (fun hx => hp hx.1)
        rw [e2]
        by_cases hb : b0 ≠ 0 ∧ (R b0).toInt = M
        · have e1 : wst1 R b0 w = b0 := by
            unfold wst1
            refine if_neg (fun hx => ?_)
            rcases hx.2 with h | h | h
            · exact hb.1 h
            · omega
            · omega
          rw [e1]
        · rw [if_neg hb]
          by_cases hc : 1 ≤ (R w).toInt ∧ (b0 = 0 ∨ (R b0).toInt < (R w).toInt ∨ ((R w).toInt = (R b0).toInt ∧ pc w < pc b0))
          · have e1 : wst1 R b0 w = w := by
              unfold wst1
              exact if_pos hc
            rw [e1, if_neg (fun hx => hw hx.2)]
          · have e1 : wst1 R b0 w = b0 := by
              unfold wst1
              exact if_neg hc
            rw [e1, if_neg hb]
    rw [e]
    refine wid_fwp hM l _ (fun x hx => hl x (List.mem_cons_of_mem _ hx)) (fun hb => ?_)
    unfold wst1 at hb ⊢
    split
    · exact wM
    · rename_i hc
      rw [if_neg hc] at hb
      exact h0 hb
theorem dwn_zero {g : Nat → Nat} : ∀ n, (∀ t, 1 ≤ t → t ≤ n → g t = 0) → (dwn g n).1 = 0
  | 0, _ => rfl
  | s + 1, h => by
    unfold dwn
    rw [if_neg (fun hx => hx (h (s + 1) (by omega) (by omega)))]
    split
    · rfl
    · exact dwn_zero s (fun t h1 h2 => h t h1 (by omega))
theorem dwn_at {g : Nat → Nat} {s0 : Nat} (h1 : 1 ≤ s0) (hg : g s0 ≠ 0) : ∀ n, s0 ≤ n → (∀ t, s0 < t → t ≤ n → g t = 0) → dwn g n = (g s0, s0)
  | 0, h, _ => by omega
  | s + 1, h, hz => by
    unfold dwn
    by_cases hs : s0 = s + 1
    · subst hs
      rw [if_pos hg]
    · rw [if_neg (fun hx => hx (hz (s + 1) (by omega) (by omega))), if_neg (by omega)]
      exact dwn_at h1 hg s (by omega) (fun t a b => hz t a (by omega))
/-- the widest way, and its room, by the class's search -/
theorem wid_dwn {nL n : Nat} {F : Nat → Int32} {l : List Nat} (h9 : W9 nL l) (hn : 1 ≤ n ∧ n ≤ 20) (hz : gw nL F l n = 0) : (dwn (gw nL F l) n).1 = wid (fun w => rmF F w nL) l ∧ (wid (fun w => rmF F w nL) l ≠ 0 → rmF F (wid (fun w => rmF F w nL) l) nL = nI (dwn (gw nL F l) n).2) := by
  obtain ⟨m1, m2⟩ := wid_max (R := fun w => rmF F w nL) l 0 (fun w hw => (h9 w hw).2) (fun h => absurd rfl h)
  have hno : ∀ t : Nat, t ≤ 20 → (∀ w, w ∈ l → (rmF F w nL).toInt < (t : Int)) → gw nL F l t = 0 := by
    intro t ht hw
    unfold gw
    rcases fwp_mem (okF nL F (nI t)) l with h | ⟨h1, h2⟩
    · exact h
    · have := hw _ h1
      have h3 := (ok_rm (by omega) nL).1 h2
      omega
  by_cases hb : wid (fun w => rmF F w nL) l = 0
  · refine ⟨?_, fun hx => absurd hb hx⟩
    rw [hb]
    refine dwn_zero n (fun t h1 h2 => hno t (by omega) (fun w hw => ?_))
    have : (rmF F w nL).toInt < 1 := (m1 hb).2 w hw
    omega
  · obtain ⟨a1, -, a3, a4⟩ := m2 hb
    have hb2 : wid (fun w => rmF F w nL) l = l.foldl (wst1 fun w => rmF F w nL) 0 := rfl
    rw [← hb2] at a1 a3 a4
    obtain ⟨b, hbd⟩ : ∃ b, b = wid (fun w => rmF F w nL) l := ⟨_, rfl⟩
    rw [← hbd] at a1 a3 a4 hb ⊢
    have h99 := rmF_le F b nL
    obtain ⟨s0, hs0⟩ : ∃ s0 : Nat, (s0 : Int) = (rmF F b nL).toInt := ⟨(rmF F b nL).toInt.toNat, by omega⟩
    have hg : gw nL F l s0 = b := by
      have := wid_fwp (R := fun w => rmF F w nL) (M := (s0 : Int)) (p := okF nL F (nI s0)) (by omega) l 0 (fun w hw => ⟨(h9 w hw).2, by have := a3 w hw; omega, ok_rm (by omega) nL⟩) (fun h => absurd rfl h)
      rw [if_neg (fun hx => hx.1 rfl)] at this
      unfold gw fwp
      rw [this, ← hb2, ← hbd, if_pos ⟨hb, by omega⟩]
    have hsn : s0 ≤ n := by
      by_cases hc : s0 ≤ n
      · exact hc
      · exfalso
        have hbl : b ∈ l := by
          rcases a4 with h | h
          · exact absurd h hb
          · exact h
        have := fwp_min h9 hbl (p := okF nL F (nI n)) ((ok_rm (by omega) nL).2 (by omega))
        exact this.1 hz
    have hd := dwn_at (g := gw nL F l) (s0 := s0) (by omega) (by rw [hg]; exact hb) n hsn (fun t h1 h2 => hno t (by omega) (fun w hw => by have := a3 w hw; omega))
    rw [hd]
    refine ⟨hg, fun _ => ?_⟩
    rw [← Int32.toInt_inj, ← hs0, nI_toInt (by omega)]
