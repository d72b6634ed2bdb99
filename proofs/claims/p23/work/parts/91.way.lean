/-! a way, as the law sees it: its ends have one link each, the nodes between two, others none; as many nodes as links and one more -/
def e1v (G : GD) (k v : Nat) : Nat := (if G.2.1 k = v then 1 else 0) + (if G.2.2.1 k = v then 1 else 0)
def deg (G : GD) (w v : Nat) : Nat := sm (fun k => tb w k * e1v G k v) G.1
def WayOk (G : GD) (w a b : Nat) : Prop := w < 2 ^ G.1 ∧ w ≠ 0 ∧ a < 6 ∧ b < 6 ∧ a ≠ b ∧ (∀ v, v < 6 → if v = a ∨ v = b then deg G w v = 1 else deg G w v = 0 ∨ deg G w v = 2) ∧ sm (fun v => if 0 < deg G w v then 1 else 0) 6 = pc w + 1
theorem deg_hi {G : GD} (hG : GE6 G) {w v : Nat} (hv : 6 ≤ v) : deg G w v = 0 := by
  refine sm_zero fun k hk => ?_
  obtain ⟨h1, h2⟩ := hG k hk
  unfold e1v
  rw [if_neg (by omega), if_neg (by omega), Nat.mul_zero]
theorem deg_or {G : GD} {w k v : Nat} (hk : k < G.1) (hw : w.testBit k = false) : deg G (w ||| 2 ^ k) v = deg G w v + e1v G k v := by
  have h := sm_upd (fun j => tb (w ||| 2 ^ k) j * e1v G j v) (fun j => tb w j * e1v G j v) k (fun j hj => by
    show tb (w ||| 2 ^ k) j * _ = tb w j * _
    rw [tb_bit, tb_bit, Nat.testBit_or, Nat.testBit_two_pow_of_ne (Ne.symm hj), Bool.or_false]) G.1 hk
  have e1 : tb w k * e1v G k v = 0 := by rw [tb_bit, hw]; simp
  have e2 : tb (w ||| 2 ^ k) k * e1v G k v = e1v G k v := by rw [tb_bit, Nat.testBit_or, Nat.testBit_two_pow_self, Bool.or_true]; simp
  have h : deg G (w ||| 2 ^ k) v + tb w k * e1v G k v = deg G w v + tb (w ||| 2 ^ k) k * e1v G k v := h
  omega
theorem pc9_or : ∀ w, w < 512 → ∀ k, k < 9 → w.testBit k = false → pc (w ||| 2 ^ k) = pc w + 1 := by decide +kernel
theorem deg_bit {G : GD} {w k v : Nat} (hk : k < G.1) (h0 : deg G w v = 0) (he : 0 < e1v G k v) : w.testBit k = false := by
  cases hb : w.testBit k with
  | false => rfl
  | true =>
    have key : ∀ n, k < n → tb w k * e1v G k v ≤ sm (fun j => tb w j * e1v G j v) n := by
      intro n
      induction n with
      | zero => intro h; omega
      | succ n ih =>
        intro h
        show _ ≤ sm _ n + _
        by_cases hn : k = n
        · rw [hn]; exact Nat.le_add_left _ _
        · exact Nat.le_trans (ih (by omega)) (Nat.le_add_right _ _)
    have h1 := key G.1 hk
    rw [tb_bit, hb] at h1
    have h2 : sm (fun j => tb w j * e1v G j v) G.1 = 0 := h0
    simp only [if_true, Nat.one_mul] at h1
    omega
/-- what a way in the making is: from a to here, by the nodes of seen -/
def WayP (G : GD) (a here seen way : Nat) : Prop := way < 2 ^ G.1 ∧ seen < 64 ∧ a < 6 ∧ here < 6 ∧ seen.testBit a = true ∧ seen.testBit here = true ∧ way &&& G.2.2.2 = 0 ∧ pc seen = pc way + 1 ∧ (here = a → seen = 2 ^ a) ∧
  ∀ v, v < 6 → deg G way v = if seen.testBit v = true then (if here = a then 0 else if v = a ∨ v = here then 1 else 2) else 0
theorem and_or0 {w f k : Nat} (h : w &&& f = 0) (hf : f.testBit k = false) : (w ||| 2 ^ k) &&& f = 0 := by
  apply Nat.eq_of_testBit_eq
  intro i
  have h1 := congrArg (fun x => x.testBit i) h
  simp only [Nat.testBit_and, Nat.zero_testBit, Nat.testBit_or] at h1 ⊢
  by_cases hi : k = i
  · subst hi; rw [hf, Bool.and_false]
  · rw [Nat.testBit_two_pow_of_ne hi, Bool.or_false]; exact h1
theorem oth_cases {G : GD} {k here : Nat} (hn : G.2.1 k ≠ G.2.2.1 k) (h : oth G k here ≠ 6) : (G.2.1 k = here ∧ G.2.2.1 k = oth G k here) ∨ (G.2.2.1 k = here ∧ G.2.1 k = oth G k here) := by
  unfold oth at h ⊢
  by_cases h1 : G.2.1 k = here
  · rw [if_pos h1]; exact Or.inl ⟨h1, rfl⟩
  · rw [if_neg h1] at h ⊢
    by_cases h2 : G.2.2.1 k = here
    · rw [if_pos h2]; exact Or.inr ⟨h2, rfl⟩
    · rw [if_neg h2] at h; exact absurd rfl h
theorem ifc (a b : Nat) : (if a = b then 1 else 0 : Nat) = if b = a then 1 else 0 := by by_cases h : a = b <;> simp [h, eq_comm]
theorem e1v_oth {G : GD} {k here : Nat} (hn : G.2.1 k ≠ G.2.2.1 k) (h : oth G k here ≠ 6) (v : Nat) : e1v G k v = (if v = here then 1 else 0) + (if v = oth G k here then 1 else 0) := by
  unfold e1v
  rcases oth_cases hn h with ⟨h1, h2⟩ | ⟨h1, h2⟩
  · rw [h1, ← h2, ifc v, ifc v]
  · rw [h1, ← h2, Nat.add_comm, ifc v, ifc v]
theorem WayP.step {G : GD} (hG : NetOk G) {a here seen way k : Nat} (h : WayP G a here seen way) (hk : k < G.1) (hf : G.2.2.2.testBit k = false) (h6 : oth G k here ≠ 6) (hs : seen.testBit (oth G k here) = false) : WayP G a (oth G k here) (seen ||| 2 ^ oth G k here) (way ||| 2 ^ k) := by
  obtain ⟨p1, p2, p3, p4, p5, p6, p7, p8, p9, p10⟩ := h
  have hn := hG.2.2.1 k hk
  have hge := hG.2.1 k hk
  have hu6 : oth G k here < 6 := by have := oth_le (G := G) (k := k) (v := here) hge.1 hge.2; omega
  have hev := e1v_oth hn h6
  generalize hu : oth G k here = u at *
  have hhu : here ≠ u := fun e => by rw [e, hs] at p6; cases p6
  have hau : a ≠ u := fun e => by rw [e, hs] at p5; cases p5
  have hdu : deg G way u = 0 := by rw [p10 u hu6, if_neg (by rw [hs]; decide)]
  have hb : way.testBit k = false := deg_bit hk hdu (by rw [hev u]; simp)
  have hw512 : way < 512 := Nat.lt_of_lt_of_le p1 (pow_512 hG.1)
  refine ⟨?_, or64 seen p2 u hu6, p3, hu6, ?_, ?_, and_or0 p7 hf, ?_, fun h0 => ?_, fun v hv => ?_⟩
  · exact Nat.or_lt_two_pow p1 (Nat.pow_lt_pow_right (by decide) hk)
  · rw [Nat.testBit_or, p5, Bool.true_or]
  · rw [Nat.testBit_or, Nat.testBit_two_pow_self, Bool.or_true]
  · rw [pc_or seen p2 u hu6 hs, pc9_or way hw512 k (by have := hG.1; omega) hb, p8]
  · exact absurd h0.symm hau
  · rw [deg_or hk hb, hev v, p10 v hv, Nat.testBit_or]
    rw [if_neg (Ne.symm hau)]
    by_cases hvu : v = u
    · rw [hvu, hs, Nat.testBit_two_pow_self, if_neg (by decide), if_neg (Ne.symm hhu), if_pos rfl, if_pos (by simp), if_pos (Or.inr rfl)]
    · rw [Nat.testBit_two_pow_of_ne (fun e => hvu e.symm), Bool.or_false, if_neg hvu]
      by_cases hsv : seen.testBit v = true
      · rw [if_pos hsv, if_pos hsv]
        by_cases hha : here = a
        · rw [if_pos hha]
          by_cases hva : v = a
          · rw [if_pos (hva.trans hha.symm), if_pos (Or.inl hva)]
          · rw [if_neg (fun e => hva (e.trans hha))]
            rw [p9 hha, Nat.testBit_two_pow_of_ne (Ne.symm hva)] at hsv
            cases hsv
        · rw [if_neg hha]
          by_cases hva : v = a
          · rw [if_pos (Or.inl hva), if_pos (Or.inl hva), if_neg (fun e => hha (e.symm.trans hva))]
          · by_cases hvh : v = here
            · rw [if_pos (Or.inr hvh), if_pos hvh, if_neg (by rintro (h | h); exact hva h; exact hvu h)]
            · rw [if_neg (by rintro (h | h); exact hva h; exact hvh h), if_neg hvh, if_neg (by rintro (h | h); exact hva h; exact hvu h)]
      · rw [if_neg hsv, if_neg hsv]
        by_cases hvh : v = here
        · rw [hvh] at hsv; exact absurd p6 hsv
        · rw [if_neg hvh]
theorem seen_pc : ∀ s, s < 64 → sm (fun v => if s.testBit v = true then 1 else 0) 6 = pc s := by decide +kernel
theorem deg_0 (G : GD) (v : Nat) : deg G 0 v = 0 := sm_zero fun k _ => by rw [tb_bit, Nat.zero_testBit]; simp
theorem WayP.ok {G : GD} {a b seen way : Nat} (h : WayP G a b seen way) (hab : a ≠ b) : WayOk G way a b ∧ way &&& G.2.2.2 = 0 := by
  obtain ⟨p1, p2, p3, p4, p5, p6, p7, p8, p9, p10⟩ := h
  have hd : ∀ v, v < 6 → deg G way v = if seen.testBit v = true then (if v = a ∨ v = b then 1 else 2) else 0 := fun v hv => by rw [p10 v hv, if_neg (Ne.symm hab)]
  refine ⟨⟨p1, fun h0 => ?_, p3, p4, hab, fun v hv => ?_, ?_⟩, p7⟩
  · have h1 := hd a p3
    rw [h0, deg_0, if_pos p5, if_pos (Or.inl rfl)] at h1
    cases h1
  · rw [hd v hv]
    by_cases hc : v = a ∨ v = b
    · rw [if_pos hc, if_pos (by rcases hc with rfl | rfl; exact p5; exact p6), if_pos hc]
    · rw [if_neg hc]
      split
      · exact Or.inr rfl
      · exact Or.inl rfl
  · rw [← p8, ← seen_pc seen p2]
    refine sm_congr fun v hv => ?_
    rw [hd v hv]
    by_cases hs : seen.testBit v = true
    · rw [if_pos hs, if_pos hs, if_pos (by split <;> decide)]
    · rw [if_neg hs, if_neg hs, if_neg (by decide)]
theorem Tw_ok {G : GD} (hG : NetOk G) {a to : Nat} (hto : to < 6) (hat : a ≠ to) : ∀ (d here seen way : Nat), WayP G a here seen way → seen.testBit to = false → ∀ w, w ∈ Tw G to d here seen way → WayOk G w a to ∧ w &&& G.2.2.2 = 0
  | 0, _, _, _, _, _, w, hw => by cases hw
  | d + 1, here, seen, way, hP, hs, w, hw => by
    unfold Tw at hw
    obtain ⟨k, hk, hk2⟩ := List.mem_flatMap.mp hw
    have hk := List.mem_range.mp hk
    unfold itT at hk2
    by_cases hf : G.2.2.2.testBit k = true
    · rw [if_pos hf] at hk2; cases hk2
    · rw [if_neg hf] at hk2
      have hf : G.2.2.2.testBit k = false := by simpa using hf
      by_cases ht : oth G k here = to
      · rw [if_pos ht] at hk2
        have hw2 : w = way ||| 2 ^ k := by simpa using hk2
        rw [hw2]
        have h1 := hP.step hG hk hf (by omega) (by rw [ht]; exact hs)
        rw [ht] at h1
        exact h1.ok hat
      · rw [if_neg ht] at hk2
        by_cases h6 : oth G k here = 6 ∨ seen.testBit (oth G k here) = true
        · rw [if_pos h6] at hk2; cases hk2
        · rw [if_neg h6] at hk2
          have h7 : oth G k here ≠ 6 := fun e => h6 (Or.inl e)
          have h8 : seen.testBit (oth G k here) = false := by
            cases hb : seen.testBit (oth G k here) with
            | false => rfl
            | true => exact absurd (Or.inr hb) h6
          refine Tw_ok hG hto hat d _ _ _ (hP.step hG hk hf h7 h8) ?_ w hk2
          rw [Nat.testBit_or, hs, Nat.testBit_two_pow_of_ne ht]
          rfl
theorem pow_pc : ∀ a, a < 6 → pc (2 ^ a) = pc 0 + 1 := by decide +kernel
theorem wl_way {G : GD} (hG : NetOk G) {a b : Nat} (ha : a < 6) (hb : b < 6) (hab : a ≠ b) : ∀ w, w ∈ wl G a b → WayOk G w a b ∧ w &&& G.2.2.2 = 0 := by
  refine Tw_ok hG hb hab 6 a (2 ^ a) 0 ⟨Nat.pow_pos (by decide), pow64 a ha, ha, ha, Nat.testBit_two_pow_self, Nat.testBit_two_pow_self, Nat.zero_and _, pow_pc a ha, fun _ => rfl, fun v hv => ?_⟩ (Nat.testBit_two_pow_of_ne hab)
  rw [deg_0, if_pos rfl]
  split <;> rfl
/-- another way round, another set of failed links, a link more -/
theorem WayOk.fail {G : GD} {w a b f : Nat} (h : WayOk G w a b) : WayOk (G.1, G.2.1, G.2.2.1, f) w a b := h
theorem deg_add {G : GD} {w a b v : Nat} (hw : w < 2 ^ G.1) : deg (addL G a b) w v = deg G w v := by
  show sm _ (G.1 + 1) = _
  show sm _ G.1 + tb w G.1 * e1v (addL G a b) G.1 v = _
  have e : tb w G.1 = 0 := by rw [tb_bit, Nat.testBit_lt_two_pow hw]; rfl
  rw [e, Nat.zero_mul, Nat.add_zero]
  refine sm_congr fun k hk => ?_
  unfold e1v addL updN
  simp only [if_neg (Nat.ne_of_lt hk)]
theorem WayOk.add {G : GD} {w a b x y : Nat} (h : WayOk G w a b) : WayOk (addL G x y) w a b := by
  obtain ⟨h1, h2, h3, h4, h5, h6, h7⟩ := h
  refine ⟨Nat.lt_of_lt_of_le h1 (Nat.pow_le_pow_right (by decide) (Nat.le_succ _)), h2, h3, h4, h5, fun v hv => ?_, ?_⟩
  · rw [deg_add h1]; exact h6 v hv
  · rw [← h7]
    exact sm_congr fun v _ => by rw [deg_add h1]
theorem WayOk.pc5 {G : GD} {w a b : Nat} (h : WayOk G w a b) : pc w ≤ 5 := by
  have h7 := h.2.2.2.2.2.2
  have : sm (fun v => if 0 < deg G w v then 1 else 0) 6 ≤ sm (fun _ => 1) 6 := sm_le fun v _ => by split <;> omega
  rw [sm_const] at this
  omega
