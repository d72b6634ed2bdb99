/-! a draft that is placed keeps what is sound -/
theorem or_and0 {a b f : Nat} (h1 : a &&& f = 0) (h2 : b &&& f = 0) : (a ||| b) &&& f = 0 := by
  rw [Nat.and_or_distrib_right, h1, h2]; rfl
theorem gd_d {S : St} (h : Good S) : GoodD (dft S) := h.d h.n
theorem Snd.fb {S : St} (h : Snd S) : FB (nLk S) (lfL S) := fun k hk => by
  rw [h.1.lf hk]
  have h1 := h.2.2.1 k hk
  have h2 := h.1.2.2.2.2.2.2.1 k hk
  omega
theorem lfN_ge {S : St} (h : Snd S) {v t : Nat} (hv : v < nNd S) (ht : t ≤ 20) (hn : ¬ lfN S v < nI t) : atS S v + t ≤ S.2.1 1 v := by
  have h1 := h.2.1 v hv
  have h2 := h.1.2.2.2.2.2.1 v hv
  rw [Int32.lt_iff_toInt_lt, nI_toInt (by omega)] at hn
  unfold lfN at hn
  rw [pk_sub_toInt (by omega) (by omega)] at hn
  omega
theorem gdC_cap {S : St} {P : Nat → Nat} (h : Snd S) (hg : gdC (nNd S) (lfN S) (dft S) P = true) : ∀ v, v < nNd S → atS S v + sm (fun k => if P k = v then dft S 1 k else 0) (dft S 0 10) ≤ S.2.1 1 v := by
  intro v hv
  have hd := gd_d h.1
  obtain ⟨p6, pd, pn⟩ := gd_nodes h.1.1 hg
  have hi := gdC_iff.1 hg
  by_cases hex : ∃ k, k < dft S 0 10 ∧ P k = v
  · obtain ⟨k, hk, hkv⟩ := hex
    rw [sm_pt (k0 := k) (fun j hj hne => if_neg (fun e => pd j k hj hk hne (e.trans hkv.symm))), if_pos hk, if_pos hkv]
    have h1 := (hi k hk).1.2.1
    rw [hkv] at h1
    exact lfN_ge h hv (hd.2.2.1 k hk).2.1 h1
  · rw [sm_zero (fun k hk => if_neg (fun e => hex ⟨k, hk, e⟩)), Nat.add_zero]
    exact h.2.1 v hv
theorem mem_LSt {S : St} {y : Mp} (h : y ∈ LSt S) : ∃ c, gdC (nNd S) (lfN S) (dft S) (Pc c) = true ∧ y ∈ mps S.1.1 (Wof S.1 (dft S) (Pc c)) (dft S 6) (Pc c) (dft S 0 11) 0 (lfL S) 0 (fun _ => 0) := by
  obtain ⟨c, -, hc⟩ := List.mem_flatMap.mp h
  split at hc
  · unfold mpC at hc
    split at hc
    · rename_i hg
      exact ⟨c, hg, hc⟩
    · cases hc
  · cases hc
theorem best_mem {S : St} {y : Mp} (h : best S = some y) : y ∈ LSt S := (foldl_kp_mem _ _ _ h).elim id (fun h => by cases h)
/-- needs of a draft's lines, line by line -/
theorem dneed {S : St} (h : Snd S) : ∀ l, dft S 6 l < 2147483648 ∨ dft S 0 11 ≤ l := fun l => by
  by_cases hl : l < dft S 0 11
  · have := ((gd_d h.1).2.2.2.1 l hl).2.2.2.2; omega
  · omega
theorem mps_need_congr {nL : Nat} {W : Nat → List Nat} {n1 n2 P : Nat → Nat} {nl : Nat} (h : ∀ l, l < nl → n1 l = n2 l) : ∀ m l F c T, l + m = nl → mps nL W n1 P m l F c T = mps nL W n2 P m l F c T
  | 0, _, _, _, _, _ => rfl
  | m + 1, l, F, c, T, hl => by
    unfold mps
    rw [h l (by omega)]
    congr 1
    funext w
    split
    · exact mps_need_congr h m (l + 1) _ _ _ (by omega)
    · rfl
/-- what a mapping of the draft is: where its parts may be, what room its ways leave, its cost -/
theorem map_cap {S : St} {y : Mp} (h : Snd S) (hy : y ∈ LSt S) : (∀ v, v < nNd S → atS S v + sm (fun k => if y.2.1 k = v then dft S 1 k else 0) (dft S 0 10) ≤ S.2.1 1 v) ∧ y.1 = sm (fun j => dft S 6 j * pc (y.2.2 j)) (dft S 0 11) ∧ ∀ k, k < nLk S → ((sm (fun j => tb (y.2.2 j) k * dft S 6 j) (dft S 0 11) : Nat) : Int) ≤ (lfL S k).toInt := by
  obtain ⟨c, hg, hm⟩ := mem_LSt hy
  rw [mps_need_congr (n2 := fun l => if l < dft S 0 11 then dft S 6 l else 0) (nl := dft S 0 11) (fun l hl => (if_pos hl).symm) _ _ _ _ _ (Nat.zero_add _)] at hm
  obtain ⟨a1, -, a3, a4⟩ := mps_cap (fun l => by
    by_cases hl : l < dft S 0 11
    · have := (gd_d h.1).2.2.2.1 l hl
      show (if l < dft S 0 11 then _ else _) < _
      rw [if_pos hl]; omega
    · show (if l < dft S 0 11 then _ else _) < _
      rw [if_neg hl]; decide) _ _ _ _ _ h.fb y hm
  refine ⟨by rw [a1]; exact gdC_cap h hg, ?_, fun k hk => ?_⟩
  · rw [a3, smf_zero, Nat.zero_add]
    exact sm_congr fun j hj => by rw [if_pos hj]
  · have := a4 k hk
    rw [smf_zero] at this
    have e : sm (fun j => tb (y.2.2 j) k * dft S 6 j) (dft S 0 11) = sm (fun j => tb (y.2.2 j) k * (if j < dft S 0 11 then dft S 6 j else 0)) (dft S 0 11) := sm_congr fun j hj => by rw [if_pos hj]
    rw [e]
    exact this
/-- what is known of a request that is placed -/
def PF (S : St) (r : Rq) (m : Nat) : Prop := agr S r ∧ (∀ v, v < nNd S → atS S v + sm (fN r v) (r 0 10) ≤ S.2.1 1 v) ∧ (∀ k, k < nLk S → secN S r k + mx (fun f => secB S r f k) (nLk S) ≤ S.2.1 2 k) ∧
  (∀ l, l < r 0 11 → (r 7 l ||| r 9 l) &&& S.1.2.2.2 = 0 ∧ WayOk S.1 (r 7 l) (r 3 (r 4 l)) (r 3 (r 5 l)) ∧ (r 9 l = 0 ∨ (m = 1 ∧ r 9 l ≠ r 7 l ∧ WayOk S.1 (r 9 l) (r 3 (r 4 l)) (r 3 (r 5 l)))) ∧ (if m = 2 then r 10 l &&& r 7 l = 0 ∧ WayOk S.1 (r 10 l) (r 3 (r 4 l)) (r 3 (r 5 l)) else r 10 l = 0)) ∧ ∀ y, best S = some y → cst r = y.1
theorem capL_int {S : St} (h : Snd S) {k t : Nat} (hk : k < nLk S) (ht : (t : Int) ≤ (lfL S k).toInt) : ndS S k + t + rsS S k ≤ S.2.1 2 k := by
  rw [h.1.lf hk] at ht
  omega
theorem secB_0 {S : St} {r : Rq} (h10 : ∀ l, l < r 0 11 → r 10 l = 0) (f k : Nat) : secB S r f k = bhS S f k := by
  unfold secB
  rw [sm_zero fun l hl => by unfold lB; rw [h10 l hl, tb_bit, Nat.zero_testBit]; simp]
  rfl
theorem lsQ_7 {r : Rq} {y : Mp} {l : Nat} : lsQ r y 7 l = y.2.2 l := rfl
theorem lsQ_9 {r : Rq} {y : Mp} {l : Nat} : lsQ r y 9 l = 0 := rfl
theorem lsQ_8 {r : Rq} {y : Mp} {l : Nat} : lsQ r y 8 l = r 6 l := rfl
theorem lsQ_10 {r : Rq} {y : Mp} {l : Nat} : lsQ r y 10 l = 0 := rfl
theorem lsQ_3 {r : Rq} {y : Mp} {l : Nat} : lsQ r y 3 l = y.2.1 l := rfl
theorem agr_ln {S : St} {r : Rq} (h : agr S r) (hG : Good S) {l : Nat} (hl : l < r 0 11) : r 4 l = dft S 4 l ∧ r 5 l = dft S 5 l ∧ r 6 l = dft S 6 l ∧ l < dft S 0 11 ∧ dft S 4 l < dft S 0 10 ∧ dft S 5 l < dft S 0 10 ∧ dft S 4 l ≠ dft S 5 l := by
  rw [h 0 11 (by omega)] at hl
  have hd := (gd_d hG).2.2.2.1 l hl
  exact ⟨h 4 l (by omega), h 5 l (by omega), h 6 l (by omega), hl, hd.1, hd.2.1, hd.2.2.1⟩
theorem PF.plain {S : St} {y : Mp} {m : Nat} (h : Snd S) (hb : best S = some y) (hm : m ≠ 2) : PF S (lsQ (dft S) y) m := by
  obtain ⟨c1, c2, c3⟩ := map_cap h (best_mem hb)
  have ha := lsQ_agr S y
  have hok := best_ok h.1 hb
  have e10 : lsQ (dft S) y 0 10 = dft S 0 10 := ha 0 10 (by omega)
  have e11 : lsQ (dft S) y 0 11 = dft S 0 11 := ha 0 11 (by omega)
  have hw : ∀ l, l < lsQ (dft S) y 0 11 → WayOk S.1 (y.2.2 l) (y.2.1 (dft S 4 l)) (y.2.1 (dft S 5 l)) ∧ y.2.2 l &&& S.1.2.2.2 = 0 := fun l hl => by
    rw [e11] at hl
    have hd := (gd_d h.1).2.2.2.1 l hl
    have hN := h.1.1
    exact wl_way h.1.2.2.1 (by have := hok.2.1 _ hd.1; omega) (by have := hok.2.1 _ hd.2.1; omega) (hok.2.2.1 _ _ hd.1 hd.2.1 hd.2.2.1) _ (hok.2.2.2.1 l hl)
  refine ⟨ha, fun v hv => ?_, fun k hk => ?_, fun l hl => ?_, fun y2 hy2 => ?_⟩
  · have := c1 v hv
    rw [e10]
    have e : sm (fN (lsQ (dft S) y) v) (dft S 0 10) = sm (fun k => if y.2.1 k = v then dft S 1 k else 0) (dft S 0 10) := sm_congr fun k _ => by
      unfold fN
      rw [lsQ_3, ha 1 k (by omega)]
    rw [e]; exact this
  · have h1 := capL_int h hk (c3 k hk)
    have e : mx (fun f => secB S (lsQ (dft S) y) f k) (nLk S) = rsS S k := mx_congr fun f _ => secB_0 (fun l _ => lsQ_10) f k
    rw [e]
    unfold secN
    have e2 : sm (lL (lsQ (dft S) y) k) (lsQ (dft S) y 0 11) = sm (fun j => tb (y.2.2 j) k * dft S 6 j) (dft S 0 11) := by
      rw [e11]
      exact sm_congr fun l _ => by
        unfold lL
        rw [lsQ_7, lsQ_8, lsQ_9, ha 6 l (by omega), Nat.sub_self, Nat.mul_zero, Nat.add_zero]
    rw [e2]; exact h1
  · obtain ⟨w1, w2⟩ := hw l hl
    obtain ⟨a4, a5, a6, -⟩ := agr_ln ha h.1 hl
    rw [lsQ_7, lsQ_9, Nat.or_zero, a4, a5, lsQ_3, lsQ_3, if_neg hm]
    exact ⟨w2, w1, Or.inl rfl, lsQ_10⟩
  · rw [hb] at hy2
    cases hy2
    rw [c2]
    unfold cst
    rw [e11]
    exact sm_congr fun l _ => by rw [lsQ_7, lsQ_8, lsQ_9, ha 6 l (by omega), Nat.sub_self, Nat.zero_mul, Nat.add_zero]
theorem secN_x {S : St} {r r2 : Rq} (h : ∀ x y, x ≠ 10 → r2 x y = r x y) (k : Nat) : secN S r2 k = secN S r k := by
  unfold secN
  rw [h 0 11 (by decide)]
  congr 1
  exact sm_congr fun l _ => by
    unfold lL
    rw [h 7 l (by decide), h 8 l (by decide), h 9 l (by decide), h 6 l (by decide)]
theorem sec_cap {S : St} {r : Rq} (hM : Map0 S r) (hc : ∀ k, k < nLk S → secN S r k + mx (fun f => secB S r f k) (nLk S) ≤ S.2.1 2 k) (hok : secOk S r = true) : ∀ l, l ≤ r 0 11 → ∀ k, k < nLk S → secN S r k + mx (fun f => secB S (secQ S r l) f k) (nLk S) ≤ S.2.1 2 k
  | 0, _, k, hk => hc k hk
  | l + 1, hl, k, hk => by
    have ih := sec_cap hM hc hok l (by omega) k hk
    have hz : secW1 S (secQ S r l) l ≠ 0 := by
      have := (al_iff _ _).1 hok l (by omega)
      simpa using this
    obtain ⟨m1, m2⟩ := fwp_ok hz
    have e : ∀ f, secB S (secQ S r (l + 1)) f k = secB S (secQ S r l) f k + tb (secW1 S (secQ S r l) l) k * (tb (r 7 l) f * r 6 l) := fun f => by
      show bhS S f k + sm (lB (set3 (secQ S r l) 10 l (secW1 S (secQ S r l) l)) f k) (set3 (secQ S r l) 10 l (secW1 S (secQ S r l) l) 0 11) = _
      have h11 : set3 (secQ S r l) 10 l (secW1 S (secQ S r l) l) 0 11 = secQ S r l 0 11 := set3_ne (Or.inl (by decide))
      rw [h11, sB_step (by rw [secQ_x (by decide)]; omega) (by rw [secQ_hi l (Nat.le_refl _)]; exact (hM.2.2.2.2 l (by omega)).2.2.2), secQ_x (x := 7) (by decide), secQ_x (x := 6) (by decide)]
      unfold secB
      omega
    cases hb : (secW1 S (secQ S r l) l).testBit k with
    | false =>
      have e2 : mx (fun f => secB S (secQ S r (l + 1)) f k) (nLk S) = mx (fun f => secB S (secQ S r l) f k) (nLk S) := mx_congr fun f _ => by
        rw [e f, tb_bit, hb]; simp
      rw [e2]; exact ih
    | true =>
      have m2 : okX S.1.1 (S.2.1 2) (secN S (secQ S r l)) (secB S (secQ S r l)) (secQ S r l 7 l) (secQ S r l 6 l) (secW1 S (secQ S r l) l) = true := m2
      unfold okX at m2
      rw [Bool.and_eq_true, al_iff] at m2
      have h3 := m2.2 k hk
      rw [hb] at h3
      have h3 := of_decide_eq_true (by simpa using h3 : decide (secN S (secQ S r l) k + mx (fun f => secB S (secQ S r l) f k + tb (secQ S r l 7 l) f * secQ S r l 6 l) S.1.1 ≤ S.2.1 2 k) = true)
      rw [secN_x (r := r) (fun x y hx => secQ_x hx l), secQ_x (x := 7) (by decide), secQ_x (x := 6) (by decide)] at h3
      have e2 : mx (fun f => secB S (secQ S r (l + 1)) f k) (nLk S) = mx (fun f => secB S (secQ S r l) f k + tb (r 7 l) f * r 6 l) (nLk S) := mx_congr fun f _ => by
        rw [e f, tb_bit (secW1 S (secQ S r l) l), hb, if_pos rfl, Nat.one_mul]
      rw [e2]; exact h3
theorem PF.safe {S : St} {y : Mp} (h : Snd S) (hb : best S = some y) (hok : secOk S (lsQ (dft S) y) = true) : PF S (secQ S (lsQ (dft S) y) (dft S 0 11)) 2 := by
  obtain ⟨p1, p2, p3, p4, p5⟩ := PF.plain (m := 0) h hb (by decide)
  have hM := lsQ_map h.1 hb
  have e11 : lsQ (dft S) y 0 11 = dft S 0 11 := p1 0 11 (by omega)
  have hx : ∀ x z, x ≠ 10 → secQ S (lsQ (dft S) y) (dft S 0 11) x z = lsQ (dft S) y x z := fun x z hx => secQ_x hx _
  refine ⟨secQ_agr p1 _, fun v hv => ?_, fun k hk => ?_, fun l hl => ?_, fun y2 hy2 => ?_⟩
  · have := p2 v hv
    rw [hx 0 10 (by decide)]
    have e : sm (fN (secQ S (lsQ (dft S) y) (dft S 0 11)) v) (lsQ (dft S) y 0 10) = sm (fN (lsQ (dft S) y) v) (lsQ (dft S) y 0 10) := sm_congr fun k _ => by
      unfold fN
      rw [hx 3 k (by decide), hx 1 k (by decide)]
    rw [e]; exact this
  · have := sec_cap hM p3 hok (dft S 0 11) (by rw [e11]; exact Nat.le_refl _) k hk
    rw [secN_x hx]; exact this
  · rw [hx 0 11 (by decide)] at hl
    obtain ⟨q1, q2, q3, q4⟩ := p4 l hl
    have hl2 : l < dft S 0 11 := by rw [← e11]; exact hl
    have hd := (gd_d h.1).2.2.2.1 l hl2
    rw [hx 7 l (by decide), hx 9 l (by decide), hx 3 _ (by decide), hx 3 _ (by decide), hx 4 l (by decide), hx 5 l (by decide), if_pos rfl]
    have hz : secW1 S (secQ S (lsQ (dft S) y) l) l ≠ 0 := by
      have := (al_iff _ _).1 hok l hl
      simpa using this
    obtain ⟨m1, m2⟩ := fwp_ok hz
    have e10 : secQ S (lsQ (dft S) y) (dft S 0 11) 10 l = secW1 S (secQ S (lsQ (dft S) y) l) l := secQ_lo _ hl2
    refine ⟨q1, q2, Or.inl lsQ_9, ?_, ?_⟩
    · have := secQ_dis (l := dft S 0 11) hM hl
      exact this
    · rw [e10]
      have hpl := hM.2.2.1
      have hpd := hM.2.2.2.1
      have e0 : lsQ (dft S) y 0 10 = dft S 0 10 := p1 0 10 (by omega)
      have e4 : lsQ (dft S) y 4 l = dft S 4 l := p1 4 l (by omega)
      have e5 : lsQ (dft S) y 5 l = dft S 5 l := p1 5 l (by omega)
      have m3 : secW1 S (secQ S (lsQ (dft S) y) l) l ∈ wl S.1 (lsQ (dft S) y 3 (lsQ (dft S) y 4 l)) (lsQ (dft S) y 3 (lsQ (dft S) y 5 l)) := by
        have m1 : secW1 S (secQ S (lsQ (dft S) y) l) l ∈ wl S.1 (secQ S (lsQ (dft S) y) l 3 (secQ S (lsQ (dft S) y) l 4 l)) (secQ S (lsQ (dft S) y) l 3 (secQ S (lsQ (dft S) y) l 5 l)) := m1
        rw [secQ_x (x := 4) (by decide), secQ_x (x := 5) (by decide), secQ_x (x := 3) (by decide), secQ_x (x := 3) (by decide)] at m1
        exact m1
      rw [e4, e5] at m3 ⊢
      have hN := h.1.1
      exact (wl_way h.1.2.2.1 (by have := hpl _ (e0.symm ▸ hd.1); omega) (by have := hpl _ (e0.symm ▸ hd.2.1); omega) (hpd _ _ (e0.symm ▸ hd.1) (e0.symm ▸ hd.2.1) hd.2.2.1) _ m3).1
  · rw [← p5 y2 hy2]
    unfold cst
    rw [hx 0 11 (by decide)]
    exact sm_congr fun l _ => by rw [hx 7 l (by decide), hx 8 l (by decide), hx 9 l (by decide), hx 6 l (by decide)]
theorem PF.split {S : St} {c : Nat} (h : Snd S) (hs : spS S = some c) (hb : best S = none) : PF S (sRq S c) 1 := by
  obtain ⟨h1, h2⟩ := spS_ok hs
  obtain ⟨hP6, hPd, hPn⟩ := gd_nodes h.1.1 h1
  have ha := sRq_agr S c
  have e10 : sRq S c 0 10 = dft S 0 10 := ha 0 10 (by omega)
  have e11 : sRq S c 0 11 = dft S 0 11 := ha 0 11 (by omega)
  have hd := (gd_d h.1).2.2.2.1
  have hokl : ∀ l, l < dft S 0 11 → (spR S.1.1 (Wof S.1 (dft S) (Pc c)) (dft S 6) (lfL S) l).1 = true := fun l hl => (al_iff _ _).1 h2 l hl
  have hW : ∀ l, l < dft S 0 11 → W9 S.1.1 (Wof S.1 (dft S) (Pc c) l) := fun l _ => wl_W9 S.1 _ _
  have hn : ∀ l, l < dft S 0 11 → dft S 6 l < 2147483648 := fun l hl => by have := (hd l hl).2.2.2.2; omega
  have hcap := spF_cap (nl := dft S 0 11) hn hW h.fb
  obtain ⟨f1, f2⟩ := hcap (dft S 0 11) (Nat.le_refl _) hokl
  refine ⟨ha, fun v hv => ?_, fun k hk => ?_, fun l hl => ?_, fun y2 hy2 => by rw [hb] at hy2; cases hy2⟩
  · have := gdC_cap h h1 v hv
    rw [e10]
    have e : sm (fN (sRq S c) v) (dft S 0 10) = sm (fun k => if Pc c k = v then dft S 1 k else 0) (dft S 0 10) := sm_congr fun k _ => by
      unfold fN
      rw [ha 1 k (by omega)]
      rfl
    rw [e]; exact this
  · have e : mx (fun f => secB S (sRq S c) f k) (nLk S) = rsS S k := mx_congr fun f _ => secB_0 (fun l _ => rfl) f k
    rw [e]
    unfold secN
    have e2 : sm (lL (sRq S c) k) (sRq S c 0 11) = sm (fun j => tb (spR S.1.1 (Wof S.1 (dft S) (Pc c)) (dft S 6) (lfL S) j).2.1 k * (spR S.1.1 (Wof S.1 (dft S) (Pc c)) (dft S 6) (lfL S) j).2.2.1 + tb (spR S.1.1 (Wof S.1 (dft S) (Pc c)) (dft S 6) (lfL S) j).2.2.2 k * (dft S 6 j - (spR S.1.1 (Wof S.1 (dft S) (Pc c)) (dft S 6) (lfL S) j).2.2.1)) (dft S 0 11) := by
      rw [e11]
      exact sm_congr fun l _ => by
        unfold lL
        rw [ha 6 l (by omega)]
        rfl
    rw [e2]
    have h3 := f2 k hk
    have h4 := (f1 k hk).1
    have := capL_int (t := sm (fun j => tb (spR S.1.1 (Wof S.1 (dft S) (Pc c)) (dft S 6) (lfL S) j).2.1 k * (spR S.1.1 (Wof S.1 (dft S) (Pc c)) (dft S 6) (lfL S) j).2.2.1 + tb (spR S.1.1 (Wof S.1 (dft S) (Pc c)) (dft S 6) (lfL S) j).2.2.2 k * (dft S 6 j - (spR S.1.1 (Wof S.1 (dft S) (Pc c)) (dft S 6) (lfL S) j).2.2.1)) (dft S 0 11)) h hk (by omega)
    exact this
  · obtain ⟨a4, a5, a6, l2, d4, d5, d45⟩ := agr_ln ha h.1 hl
    have hF := (hcap l (by omega) (fun j hj => hokl j (by omega))).1
    obtain ⟨s1, s2, -, -⟩ := spl_cap (hn l l2) (hW l l2) hF (hokl l l2)
    have hway : ∀ w, w ∈ Wof S.1 (dft S) (Pc c) l → WayOk S.1 w (Pc c (dft S 4 l)) (Pc c (dft S 5 l)) ∧ w &&& S.1.2.2.2 = 0 := wl_way h.1.2.2.1 (hP6 _ d4) (hP6 _ d5) (hPd _ _ d4 d5 d45)
    have e7 : sRq S c 7 l = (spl S.1.1 (spF S.1.1 (Wof S.1 (dft S) (Pc c)) (dft S 6) (lfL S) l) (Wof S.1 (dft S) (Pc c) l) (dft S 6 l)).2.1 := rfl
    have e9 : sRq S c 9 l = (spl S.1.1 (spF S.1.1 (Wof S.1 (dft S) (Pc c)) (dft S 6) (lfL S) l) (Wof S.1 (dft S) (Pc c) l) (dft S 6 l)).2.2.2 := rfl
    have e3 : ∀ x, sRq S c 3 x = Pc c x := fun _ => rfl
    rw [a4, a5, e3, e3, e7, e9, if_neg (by decide)]
    obtain ⟨w1, w2⟩ := hway _ s1
    refine ⟨?_, w1, ?_, rfl⟩
    · rcases s2 with s2 | ⟨s2, s3⟩
      · rw [s2, Nat.or_zero]; exact w2
      · exact or_and0 w2 (hway _ s2).2
    · rcases s2 with s2 | ⟨s2, s3⟩
      · exact Or.inl s2
      · exact Or.inr ⟨rfl, s3, (hway _ s2).1⟩
theorem plc_pf {S : St} {m : Nat} {r : Rq} (h : Snd S) (hp : plc S m = some r) : PF S r m := by
  unfold plc at hp
  cases hb : best S with
  | some y =>
    rw [hb] at hp
    dsimp only at hp
    by_cases hm : m = 2
    · rw [if_pos hm] at hp
      split at hp
      · rename_i hok
        cases hp
        rw [hm]
        exact PF.safe h hb hok
      · cases hp
    · rw [if_neg hm] at hp
      cases hp
      exact PF.plain h hb hm
  | none =>
    rw [hb] at hp
    dsimp only at hp
    split at hp
    · rename_i hm
      obtain ⟨c, hc, rfl⟩ := Option.map_eq_some_iff.mp hp
      rw [hm]
      exact PF.split h hc hb
    · cases hp
theorem Snd.place {S : St} {r : Rq} {m t : Nat} (h : Snd S) (hm : m ≤ 2) (h12 : nRq S < 12) (h1 : 1 ≤ dft S 0 10) (ht : 1 ≤ t) (htk : tkS S + t ≤ 9000) (hp : plc S m = some r) : Snd (pcS S r m t) := by
  obtain ⟨p1, p2, p3, p4, p5⟩ := plc_pf h hp
  have hG := pcS_good (t := t) h.1 hm h12 (plc_ok h.1 hp)
  have hn : (pcS S r m t).2.2 (nRq S) = fnR S r m t := pcS_n
  have h14 : fnR S r m t 0 14 = 0 := by rw [fnR_x (by omega), p1 0 14 (by omega)]; exact dft14 h.1
  have hne : ∀ i, i < nRq S → (pcS S r m t).2.2 i = S.2.2 i := fun i hi => pcS_ne (by omega)
  have q1 : ∀ v, atS (pcS S r m t) v = atS S v + sm (fN r v) (r 0 10) := fun v => by
    show sm (fun i => qN ((pcS S r m t).2.2 i) v) (nRq S + 1) = _
    show sm (fun i => qN ((pcS S r m t).2.2 i) v) (nRq S) + qN ((pcS S r m t).2.2 (nRq S)) v = _
    rw [hn, sm_congr (g := fun i => qN (S.2.2 i) v) (fun i hi => by rw [hne i hi])]
    unfold qN
    rw [h14, if_pos rfl, fnR_x (x := 0) (y := 10) (by omega)]
    congr 1
  have q3 : ∀ k, ndS (pcS S r m t) k = secN S r k := fun k => by
    show sm (fun i => qL ((pcS S r m t).2.2 i) k) (nRq S) + qL ((pcS S r m t).2.2 (nRq S)) k = _
    rw [hn, sm_congr (g := fun i => qL (S.2.2 i) k) (fun i hi => by rw [hne i hi])]
    unfold qL
    rw [h14, if_pos rfl, fnR_x (x := 0) (y := 11) (by omega)]
    unfold secN
    congr 1
  have q4 : ∀ f k, bhS (pcS S r m t) f k = secB S r f k := fun f k => by
    show sm (fun i => qB ((pcS S r m t).2.2 i) f k) (nRq S) + qB ((pcS S r m t).2.2 (nRq S)) f k = _
    rw [hn, sm_congr (g := fun i => qB (S.2.2 i) f k) (fun i hi => by rw [hne i hi])]
    unfold qB
    rw [h14, if_pos rfl, fnR_x (x := 0) (y := 11) (by omega)]
    unfold secB
    congr 1
  refine ⟨hG, fun v hv => by rw [q1]; exact p2 v hv, fun k hk => ?_, fun i hi => ?_⟩
  · rw [q3]
    have : rsS (pcS S r m t) k = mx (fun f => secB S r f k) (nLk S) := mx_congr fun f _ => q4 f k
    rw [this]
    exact p3 k hk
  · have hi : i < nRq S + 1 := hi
    have tkk : tkS (pcS S r m t) = tkS S := rfl
    by_cases hin : i = nRq S
    · rw [hin, hn, tkk]
      refine ⟨by rw [fnR_x (by omega), p1 0 10 (by omega)]; exact h1, by rw [fnR_13]; exact htk, fun _ => by rw [fnR_13]; omega, fun l hl => ?_⟩
      rw [fnR_x (by omega)] at hl
      obtain ⟨-, w1, w2, w3⟩ := p4 l hl
      unfold LnS
      rw [fnR_12, fnR_x (x := 7) (by omega), fnR_x (x := 9) (by omega), fnR_x (x := 10) (by omega), fnR_x (x := 4) (by omega), fnR_x (x := 5) (by omega), fnR_x (x := 3) (by omega), fnR_x (x := 3) (by omega)]
      exact ⟨w1, w2, w3⟩
    · rw [hne i (by omega), tkk]
      exact h.2.2.2 i (by omega)
/-- a request that was just placed: all lines run -/
theorem PF.runs {S : St} {r : Rq} {m : Nat} (h : PF S r m) : nStop r S.1.2.2.2 = 0 ∧ nSec r S.1.2.2.2 = 0 := by
  have hh : ∀ l, l < r 0 11 → hit r S.1.2.2.2 l = false := fun l hl => by
    unfold hit
    rw [decide_eq_true (h.2.2.2.1 l hl).1]; rfl
  refine ⟨sm_zero fun l hl => ?_, sm_zero fun l hl => ?_⟩
  · rw [hh l hl]; rfl
  · unfold rsw
    rw [hh l hl]; rfl
