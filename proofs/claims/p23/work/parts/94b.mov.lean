/-! a part that is moved keeps what is sound -/
theorem sm_split (c : Nat → Bool) (f : Nat → Nat) : ∀ n, sm f n = sm (fun j => if c j = true then f j else 0) n + sm (fun j => if c j = true then 0 else f j) n
  | 0 => rfl
  | n + 1 => by
    show sm f n + f n = (sm _ n + if c n = true then f n else 0) + (sm _ n + if c n = true then 0 else f n)
    rw [sm_split c f n]
    split <;> omega
theorem Snd.move {S : St} {i k v : Nat} (h : Snd S) (hi : i < nRq S) (hm : Mvb (S.2.2 i)) (hk : k < S.2.2 i 0 10) (hv : v < nNd S) (hok : mvOk S i k v = true) : Snd (mvS S i k v) := by
  have hG := mvS_good h.1 hi hm hv hok
  have hd := h.1.d (h.1.i hi)
  have hmay : mayB S i k v = true := by unfold mvOk at hok; rw [Bool.and_eq_true] at hok; exact hok.1
  obtain ⟨hPn, hPd⟩ := mvP_ok h.1 hi hv hmay
  have hnz : ∀ l, l < S.2.2 i 0 11 → isL (S.2.2 i) l k = true → nwL S i k v l ≠ 0 := fun l hl hL => by
    unfold mvOk at hok
    rw [Bool.and_eq_true, al_iff] at hok
    have := hok.2 l hl
    rw [hL] at this
    simpa using this
  unfold mayB at hmay
  rw [Bool.and_eq_true, Bool.and_eq_true, al_iff] at hmay
  obtain ⟨⟨-, hat⟩, hroom⟩ := hmay
  have hat : ∀ j, j < S.2.2 i 0 10 → S.2.2 i 3 j ≠ v := fun j hj => by simpa using hat j hj
  have hroom : ¬ lfN S v < nI (S.2.2 i 1 k) := by simpa using hroom
  have e14 : mvQ (S.2.2 i) k v (nwW S i k v) 0 14 = 0 := by rw [mvQ_x (by omega)]; exact hm.1
  have e10 : mvQ (S.2.2 i) k v (nwW S i k v) 0 10 = S.2.2 i 0 10 := mvQ_x (by omega)
  have e11 : mvQ (S.2.2 i) k v (nwW S i k v) 0 11 = S.2.2 i 0 11 := mvQ_x (by omega)
  have h3 := (h.1.b hi).1
  -- the rooms of nodes
  have n1 : ∀ u, atS (mvS S i k v) u = atS (endS S i) u + qN (mvQ (S.2.2 i) k v (nwW S i k v)) u := fun u => sum_upd hi _ (fun r => qN r u) qN_end
  have n2 : ∀ u, atS S u = atS (endS S i) u + qN (S.2.2 i) u := fun u => sum_out hi (fun r => qN r u) qN_end
  have n3 : ∀ u, qN (mvQ (S.2.2 i) k v (nwW S i k v)) u = sm (fun j => if (if j = k then v else S.2.2 i 3 j) = u then S.2.2 i 1 j else 0) (S.2.2 i 0 10) := fun u => by
    unfold qN
    rw [e14, if_pos rfl, e10]
    exact sm_congr fun j _ => by rw [mvQ_3, mvQ_x (x := 1) (by omega)]
  have n4 : ∀ u, qN (S.2.2 i) u = sm (fun j => if S.2.2 i 3 j = u then S.2.2 i 1 j else 0) (S.2.2 i 0 10) := fun u => by
    unfold qN
    rw [hm.1, if_pos rfl]
  -- the rooms of links
  have l1 : ∀ q, ndS (mvS S i k v) q = ndS (endS S i) q + qL (mvQ (S.2.2 i) k v (nwW S i k v)) q := fun q => sum_upd hi _ (fun r => qL r q) qL_end
  have l2 : ∀ q, ndS S q = ndS (endS S i) q + qL (S.2.2 i) q := fun q => sum_out hi (fun r => qL r q) qL_end
  have l3 : ∀ q, qL (mvQ (S.2.2 i) k v (nwW S i k v)) q = sm (fun l => tb (nwW S i k v l) q * S.2.2 i 6 l) (S.2.2 i 0 11) := fun q => by
    unfold qL
    rw [e14, if_pos rfl, e11]
    exact sm_congr fun l hl => by
      obtain ⟨a9, a8, -⟩ := hm.2.2 l hl
      unfold lL
      rw [mvQ_7, mvQ_x (x := 8) (by omega), mvQ_x (x := 9) (by omega), mvQ_x (x := 6) (by omega), a8, Nat.sub_self, Nat.mul_zero, Nat.add_zero]
  have l4 : ∀ q, qL (S.2.2 i) q = sm (fun l => tb (S.2.2 i 7 l) q * S.2.2 i 6 l) (S.2.2 i 0 11) := fun q => by
    unfold qL
    rw [hm.1, if_pos rfl]
    exact sm_congr fun l hl => by
      obtain ⟨a9, a8, -⟩ := hm.2.2 l hl
      unfold lL
      rw [a8, Nat.sub_self, Nat.mul_zero, Nat.add_zero]
  have b1 : ∀ f q, bhS (mvS S i k v) f q = bhS S f q := fun f q => by
    have g1 : bhS (mvS S i k v) f q = bhS (endS S i) f q + qB (mvQ (S.2.2 i) k v (nwW S i k v)) f q := sum_upd hi _ (fun r => qB r f q) qB_end
    have g2 : bhS S f q = bhS (endS S i) f q + qB (S.2.2 i) f q := sum_out hi (fun r => qB r f q) qB_end
    have z1 : qB (mvQ (S.2.2 i) k v (nwW S i k v)) f q = 0 := by
      unfold qB
      rw [e14, if_pos rfl, e11]
      exact sm_zero fun l hl => by
        unfold lB
        rw [mvQ_x (x := 10) (by omega), (hm.2.2 l hl).2.2, tb_bit, Nat.zero_testBit]; simp
    have z2 : qB (S.2.2 i) f q = 0 := by
      unfold qB
      rw [hm.1, if_pos rfl]
      exact sm_zero fun l hl => by
        unfold lB
        rw [(hm.2.2 l hl).2.2, tb_bit, Nat.zero_testBit]; simp
    omega
  have hF := h.fb
  have hF99 : ∀ q, q < nLk S → 0 ≤ (lfL S q).toInt ∧ (lfL S q).toInt ≤ 99 := fun q hq => ⟨(hF q hq).1, h.1.lf_le q hq⟩
  have h20 : ∀ l, l < S.2.2 i 0 11 → S.2.2 i 6 l ≤ 20 := fun l hl => (hd.2.2.2.1 l hl).2.2.2.2
  have hA := mvA_cap (k := k) hF99 h20 (S.2.2 i 0 11) (Nat.le_refl _) h3
  have hFA : FB (nLk S) (mvA (nLk S) (S.2.2 i) k (lfL S) (S.2.2 i 0 11)) := fun q hq => by
    obtain ⟨a1, a2⟩ := hA q hq
    have := hF99 q hq
    omega
  obtain ⟨g1, g2, g3⟩ := mvG_cap (nl := S.2.2 i 0 11) (k := k) (W := Wof S.1 (S.2.2 i) (mvP (S.2.2 i) k v)) (r := S.2.2 i) hFA (fun l hl => by have := h20 l hl; omega) (S.2.2 i 0 11) (Nat.le_refl _) hnz
  refine ⟨hG, fun u hu => ?_, fun q hq => ?_, fun j hj => ?_⟩
  · have c0 := h.2.1 u hu
    have c1 := n1 u
    have c2 := n2 u
    rw [n3] at c1
    rw [n4] at c2
    show atS (mvS S i k v) u ≤ S.2.1 1 u
    by_cases huv : u = v
    · rw [sm_pt (k0 := k) (fun j hj hne => by rw [if_neg hne, huv, if_neg (hat j hj)]), if_pos hk, if_pos (by rw [if_pos rfl]; exact huv.symm)] at c1
      have := lfN_ge h hv (hd.2.2.1 k hk).2.1 hroom
      subst huv
      omega
    · have : sm (fun j => if (if j = k then v else S.2.2 i 3 j) = u then S.2.2 i 1 j else 0) (S.2.2 i 0 10) ≤ sm (fun j => if S.2.2 i 3 j = u then S.2.2 i 1 j else 0) (S.2.2 i 0 10) := sm_le fun j _ => by
        by_cases hjk : j = k
        · rw [if_pos hjk, if_neg (Ne.symm huv)]; exact Nat.zero_le _
        · rw [if_neg hjk]; exact Nat.le_refl _
      omega
  · have c0 := h.2.2.1 q hq
    have c1 := l1 q
    have c2 := l2 q
    rw [l3, sm_split (fun l => isL (S.2.2 i) l k)] at c1
    rw [l4, sm_split (fun l => isL (S.2.2 i) l k)] at c2
    have e1 : sm (fun j => if isL (S.2.2 i) j k = true then 0 else tb (nwW S i k v j) q * S.2.2 i 6 j) (S.2.2 i 0 11) = sm (fun j => if isL (S.2.2 i) j k = true then 0 else tb (S.2.2 i 7 j) q * S.2.2 i 6 j) (S.2.2 i 0 11) := sm_congr fun l _ => by
      by_cases hL : isL (S.2.2 i) l k = true
      · rw [if_pos hL, if_pos hL]
      · rw [if_neg hL, if_neg hL]; unfold nwW; rw [if_neg hL]
    have e2 : sm (fun j => if isL (S.2.2 i) j k = true then tb (nwW S i k v j) q * S.2.2 i 6 j else 0) (S.2.2 i 0 11) = sm (fun j => if isL (S.2.2 i) j k = true then tb (nwL S i k v j) q * S.2.2 i 6 j else 0) (S.2.2 i 0 11) := sm_congr fun l _ => by
      by_cases hL : isL (S.2.2 i) l k = true
      · rw [if_pos hL, if_pos hL]; unfold nwW; rw [if_pos hL]
      · rw [if_neg hL, if_neg hL]
    rw [e1, e2] at c1
    have a1 := (hA q hq).1
    have a2 := g2 q hq
    have a3 := (g1 q hq).1
    have a4 := h.1.lf hq
    have e3 : sm (fun j => if isL (S.2.2 i) j k = true then tb (mvw (nLk S) (Wof S.1 (S.2.2 i) (mvP (S.2.2 i) k v)) (S.2.2 i) k (mvA (nLk S) (S.2.2 i) k (lfL S) (S.2.2 i 0 11)) j) q * S.2.2 i 6 j else 0) (S.2.2 i 0 11) = sm (fun j => if isL (S.2.2 i) j k = true then tb (nwL S i k v j) q * S.2.2 i 6 j else 0) (S.2.2 i 0 11) := rfl
    rw [e3] at a2
    rw [rs_eq (S := S) (S2 := mvS S i k v) rfl b1]
    show ndS (mvS S i k v) q + rsS S q ≤ S.2.1 2 q
    generalize sm (fun j => if isL (S.2.2 i) j k = true then tb (nwL S i k v j) q * S.2.2 i 6 j else 0) (S.2.2 i 0 11) = X1 at *
    generalize sm (fun j => if isL (S.2.2 i) j k = true then tb (S.2.2 i 7 j) q * S.2.2 i 6 j else 0) (S.2.2 i 0 11) = X2 at *
    generalize sm (fun j => if isL (S.2.2 i) j k = true then 0 else tb (S.2.2 i 7 j) q * S.2.2 i 6 j) (S.2.2 i 0 11) = X3 at *
    omega
  · have hj : j < nRq S := hj
    by_cases hji : j = i
    · subst hji
      show RS S.1 (tkS S) ((updR S j (mvQ (S.2.2 j) k v (nwW S j k v))).2.2 j)
      rw [updR_i]
      obtain ⟨r1, r2, r3, r4⟩ := h.2.2.2 j hi
      refine ⟨by rw [e10]; exact r1, by rw [mvQ_x (by omega)]; exact r2, fun _ => by rw [mvQ_x (by omega)]; exact r3 hm.1, fun l hl => ?_⟩
      rw [e11] at hl
      obtain ⟨w1, w2, w3⟩ := r4 l hl
      obtain ⟨a9, a8, a10⟩ := hm.2.2 l hl
      have hdl := hd.2.2.2.1 l hl
      unfold LnS
      rw [mvQ_7, mvQ_x (x := 9) (by omega), mvQ_x (x := 10) (by omega), mvQ_x (x := 4) (by omega), mvQ_x (x := 5) (by omega), mvQ_x (x := 0) (y := 12) (by omega), mvQ_3, mvQ_3, if_neg hm.2.1]
      refine ⟨?_, Or.inl a9, a10⟩
      unfold nwW
      by_cases hL : isL (S.2.2 j) l k = true
      · rw [if_pos hL]
        have m1 : nwL S j k v l ∈ wl S.1 (mvP (S.2.2 j) k v (S.2.2 j 4 l)) (mvP (S.2.2 j) k v (S.2.2 j 5 l)) := g3 l hl hL
        have hN := h.1.1
        exact (wl_way h.1.2.2.1 (by have := hPn _ hdl.1; omega) (by have := hPn _ hdl.2.1; omega) (hPd _ _ hdl.1 hdl.2.1 hdl.2.2.1) _ m1).1
      · rw [if_neg hL]
        have h4 : S.2.2 j 4 l ≠ k := fun e => hL (isL_iff.2 (Or.inl e))
        have h5 : S.2.2 j 5 l ≠ k := fun e => hL (isL_iff.2 (Or.inr e))
        rw [if_neg h4, if_neg h5]
        exact w1
    · show RS S.1 (tkS S) ((updR S i (mvQ (S.2.2 i) k v (nwW S i k v))).2.2 j)
      rw [updR_ne hji]
      exact h.2.2.2 j hj
/-- how many links the lines of a part have -/
theorem lnks_lt {S : St} {i k : Nat} (h : Snd S) (hi : i < nRq S) : lnks (S.2.2 i) k < 18 := by
  have h3 := (h.1.b hi).1
  have : lnks (S.2.2 i) k ≤ sm (fun _ => 5) (S.2.2 i 0 11) := sm_le fun l hl => by
    split
    · exact ((h.2.2.2 i hi).2.2.2 l hl).1.pc5
    · omega
  rw [sm_const] at this
  omega
