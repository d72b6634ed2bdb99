/-! the class places -/
/-- what placing leaves of the class's memory, books and draft aside -/
def frL (p : Nat) (μ μ2 : Mm) : Prop := (∀ c, cCell c → ¬ dK c → c ≠ p + 3 → ¬ dV p c → μ2 c = μ c) ∧ ∀ c, mCell c → μ2 c = μ c
theorem frL.rf {p : Nat} {μ : Mm} : frL p μ μ := ⟨fun _ _ _ _ _ => rfl, fun _ _ => rfl⟩
theorem frL.tr {p : Nat} {a b c : Mm} (h1 : frL p a b) (h2 : frL p b c) : frL p a c := ⟨fun x p1 p2 p3 p4 => (h2.1 x p1 p2 p3 p4).trans (h1.1 x p1 p2 p3 p4), fun x p1 => (h2.2 x p1).trans (h1.2 x p1)⟩
theorem frL.sm {p : Nat} {D : Nat → Prop} {μ μ2 : Mm} (hs : Sm D μ μ2) (hd : ∀ c, D c → ¬ mCell c ∧ (¬ cCell c ∨ dK c ∨ c = p + 3 ∨ dV p c)) : frL p μ μ2 := by
  refine ⟨fun c p1 p2 p3 p4 => hs c (fun hc => ?_), fun c hc => hs c (fun hx => (hd c hx).1 hc)⟩
  rcases (hd c hc).2 with h | h | h | h
  · exact h p1
  · exact p2 h
  · exact p3 h
  · exact p4 h
theorem cInv.wk {S : St} {μ μ2 : Mm} (h : cInv S μ) (hG : Good S) (hf : frL (p_RQ + 11 * nRq S) μ μ2) (hB : Bk9 (nLk S) (atS S) (cnS S) (ndS S) (bhS S) μ2) : cInv S μ2 := by
  obtain ⟨h1, h2, h3, h4, h5⟩ := h
  have h5 : cReqs (nRq S) S.2.2 μ := h5
  have hp : p_RQ + 11 * nRq S = 105 + 11 * nRq S := rfl
  have hn := hG.n
  have k : ∀ c, cCell c → ¬ dK c → c ≠ p_RQ + 11 * nRq S + 3 → ¬ dV (p_RQ + 11 * nRq S) c → μ2 c = μ c := hf.1
  refine ⟨h1.fr (fun c hc => k c (by unfold cCell; omega) (by unfold dK; omega) (by omega) (by unfold dV; omega)), hB, ?_, ?_, ?_⟩
  · rw [show μ2 p_ML = μ p_ML from k 0 (by unfold cCell; omega) (by unfold dK; omega) (by omega) (by unfold dV; omega)]; exact h3
  · rw [show μ2 p_ML = μ p_ML from k 0 (by unfold cCell; omega) (by unfold dK; omega) (by omega) (by unfold dV; omega)]; exact h4
  · have := cReqs.upd (r := S.2.2 (nRq S)) (i := nRq S) h5 hn (fun c a1 a2 a3 => k c (by unfold cCell; omega) (by unfold dK; omega) (by omega) (by unfold dV; omega)) ((h5.1 _ hn).fr2 (k _ (by unfold cCell; omega) (by unfold dK; omega) (by omega) (by unfold dV; omega)) (k _ (by unfold cCell; omega) (by unfold dK; omega) (by omega) (by unfold dV; omega)) (k _ (by unfold cCell; omega) (by unfold dK; omega) (by omega) (by unfold dV; omega)) (k _ (by unfold cCell; omega) (by unfold dK; omega) (by omega) (by unfold dV; omega)) (k _ (by unfold cCell; omega) (by unfold dK; omega) (by omega) (by unfold dV; omega)) (k _ (by unfold cCell; omega) (by unfold dK; omega) (by omega) (by unfold dV; omega))) (fun hx => absurd hx (Nat.lt_irrefl _))
    have e : (fun j => if j = nRq S then S.2.2 (nRq S) else S.2.2 j) = S.2.2 := by
      funext j
      by_cases hj : j = nRq S
      · rw [if_pos hj, hj]
      · rw [if_neg hj]
    rw [e] at this
    exact this
/-- the books with a request more -/
def BkR (S : St) (r : Rq) (μ : Mm) : Prop := Bk9 (nLk S) (fun v => atS S v + sm (fN r v) (r 0 10)) (fun v => cnS S v + sm (fP r v) (r 0 10)) (fun k => ndS S k + sm (lL r k) (r 0 11)) (fun f k => bhS S f k + sm (lB r f k) (r 0 11)) μ
theorem frL.env {S : St} {p : Nat} {r : Rq} {μ μ2 : Mm} (h : Env S.1 p r μ) (hp : 105 ≤ p) (hf : frL p μ μ2) : Env S.1 p r μ2 := by
  have k : ∀ c, envC p c → μ2 c = μ c := fun c hc => hf.1 c (by unfold envC at hc; unfold cCell; omega) (by unfold envC at hc; unfold dK; omega) (by unfold envC at hc; omega) (by unfold envC at hc; unfold dV; omega)
  unfold envC at k
  exact ⟨h.1.fr2 (k 1 (by omega)) (k 9 (by omega)) (k 10 (by omega)), h.2.1.fr2 (k 11 (by omega)) (fun c h1 h2 => k c (by omega)), h.2.2.fr2 (k p (by omega)) (k (p + 1) (by omega)) (k (p + 2) (by omega)) (k (p + 4) (by omega)) (k (p + 5) (by omega)) (k (p + 6) (by omega))⟩
theorem t_enterR {S : St} {p : Nat} {r : Rq} {μ : Mm} {q : Mm → Prop} (hG : Good S) (hp : 105 ≤ p) (hgd : GoodD r) (ho : RqOk (nNd S) (nLk S) r) (h6 : μ p_GR 6 = nI (nNd S)) (h7 : μ p_GR 7 = nI (nLk S)) (hc : cRq p r μ) (hB : Bk9 (nLk S) (atS S) (cnS S) (ndS S) (bhS S) μ) (h : ∀ μ2, Sm dK μ μ2 → BkR S r μ2 → q μ2) : Wp_X0_enter p (1 : Int32) μ q := by
  refine s_enter (s := true) (nL := nLk S) (nN := nNd S) (r := r) (a := atS S) (c := cnS S) (d := ndS S) (b := bhS S) hp hgd ho hG.1 hG.L h6 h7 hc (fun f k => by have := hG.bh f k; omega) ?_ (fun μ2 s2 hB2 => h μ2 s2 hB2)
  simp only [st_t0, Nat.add_zero]
  exact hB
theorem t_leaveR {S : St} {p : Nat} {r : Rq} {μ : Mm} {q : Mm → Prop} (hG : Good S) (hp : 105 ≤ p) (hgd : GoodD r) (ho : RqOk (nNd S) (nLk S) r) (h6 : μ p_GR 6 = nI (nNd S)) (h7 : μ p_GR 7 = nI (nLk S)) (hc : cRq p r μ) (hB : BkR S r μ) (h : ∀ μ2, Sm dK μ μ2 → Bk9 (nLk S) (atS S) (cnS S) (ndS S) (bhS S) μ2 → q μ2) : Wp_X0_enter p (-1 : Int32) μ q := by
  refine s_enter (s := false) (nL := nLk S) (nN := nNd S) (r := r) (a := atS S) (c := cnS S) (d := ndS S) (b := bhS S) hp hgd ho hG.1 hG.L h6 h7 hc (fun f k => by have := hG.bh f k; omega) hB (fun μ2 s2 hB2 => ?_)
  simp only [st_fn, Nat.add_zero] at hB2
  exact h μ2 s2 hB2
theorem MapR.ok {S : St} {r : Rq} {m : Nat} (h : MapR S r m) : RqOk (nNd S) (nLk S) r := by
  refine ⟨h.2.1, fun l hl => ?_⟩
  obtain ⟨a1, a2, a3, a4, -⟩ := h.2.2.2 l hl
  exact ⟨a1, a2, a3, a4⟩
theorem tt_lodge {S : St} {m : Nat} {μ : Mm} {q : Bool → Mm → Prop} (hG : Good S) (hI : cInv S μ) (hm : m ≤ 2) (hr1 : 1 ≤ dft S 0 10)
    (h : ∀ μ2, frL (p_RQ + 11 * nRq S) μ μ2 → (plc S m = none → Bk9 (nLk S) (atS S) (cnS S) (ndS S) (bhS S) μ2) → (∀ r, plc S m = some r → BkR S r μ2 ∧ cA (p_RQ + 11 * nRq S) r μ2 ∧ cW (p_RQ + 11 * nRq S) r μ2) → q (plc S m).isSome μ2) : Wp_X4_lodge (p_RQ + 11 * nRq S) (nI m) μ q := by
  have hn := hG.n
  have hd := hG.d hn
  have hL := hG.L
  have hBk : Bk9 (nLk S) (atS S) (cnS S) (ndS S) (bhS S) μ := hI.2.1
  have hE := hI.env hn
  obtain ⟨p, hp⟩ : ∃ p, p = p_RQ + 11 * nRq S := ⟨_, rfl⟩
  have hp5 : p = 105 + 11 * nRq S := hp
  have hp105 : 105 ≤ p := by omega
  rw [← hp] at h hE ⊢
  unfold Wp_X4_lodge
  intro K18 K49 h18 h49
  unfold F_X4_lodge_e
  -- once it is mapped
  have k49 : ∀ (r : Rq) (μ1 : Mm), MapR S r 0 → (m = 2 → Map0 S r) → frL p μ μ1 → Bk9 (nLk S) (atS S) (cnS S) (ndS S) (bhS S) μ1 → cA p r μ1 → cW p r μ1 → (m ≠ 2 → plc S m = some r) → (m = 2 → plc S m = if secOk S r = true then some (secQ S r (r 0 11)) else none) → K49 (nI m) μ1 := by
    intro r μ1 hR hM0 f1 hB1 hA1 hW1 hp1 hp2
    refine h49 _ _ ?_
    unfold F_X4_lodge_49
    have hgd := hR.1.good hG
    have hE1 : Env S.1 p (dft S) μ1 := frL.env hE hp105 f1
    have hc1 : cRq p r μ1 := ⟨hR.1.cq hE1.2.2, hA1, hW1⟩
    have g6 : ∀ {μx : Mm}, frL p μ μx → μx p_GR 6 = nI (nNd S) := by
      intro μx fx
      rw [show μx p_GR = μ p_GR from fx.1 1 (by unfold cCell; omega) (by unfold dK; omega) (by omega) (by unfold dV; omega)]; exact hI.1.2.1
    have g7 : ∀ {μx : Mm}, frL p μ μx → μx p_GR 7 = nI (nLk S) := by
      intro μx fx
      rw [show μx p_GR = μ p_GR from fx.1 1 (by unfold cCell; omega) (by unfold dK; omega) (by omega) (by unfold dV; omega)]; exact hI.1.1.2.1
    refine t_enterR hG hp105 hgd hR.ok (g6 f1) (g7 f1) hc1 hB1 (fun μ2 s2 hB2 => ?_)
    have f2 : frL p μ μ2 := f1.tr (frL.sm s2 (fun c hc => ⟨by unfold dK at hc; unfold mCell; omega, Or.inr (Or.inl hc)⟩))
    have kK : ∀ c, ¬ dK c → μ2 c = μ1 c := fun c hc => s2 c hc
    have hc2 : cRq p r μ2 := hc1.fr (fun c h1 h2 => kK c (by unfold dK; omega))
    rw [show (2 : Int32) = nI 2 from rfl, e1 (by omega) (by omega)]
    by_cases hm2 : m = 2
    · refine rb_t hm2 ?_
      have hM0 := hM0 hm2
      have hE2 : Env S.1 p r μ2 := by
        have := frL.env hE hp105 f2
        exact ⟨this.1, this.2.1, hR.1.cq this.2.2⟩
      have hpl := hp2 hm2
      refine s_secure hG hp105 hM0 hE2 hc2.2.1 hc2.2.2 (fun k hk => ?_) (fun k hk => (hB2.2 k (by omega)).1) (fun k hk => (hB2.2 k hk).2) (fun μ3 l hl s3 hW3 hB3 hlok => ?_)
      · rw [show μ2 p_GR_linkRooms = μ p_GR_linkRooms from f2.1 8 (by unfold cCell; omega) (by unfold dK; omega) (by omega) (by unfold dV; omega)]
        exact hI.1.2.2.2.1 k hk
      · have f3 : frL p μ μ3 := f2.tr (frL.sm s3 (fun c hc => by
          rcases hc with hc | hc
          · subst hc; exact ⟨by unfold mCell; omega, Or.inr (Or.inr (Or.inr (by unfold dV; omega)))⟩
          · exact ⟨by unfold dQ at hc; unfold mCell; omega, Or.inr (Or.inl (by unfold dQ at hc; unfold dK; omega))⟩))
        have k3 : ∀ c, c ≠ p + 10 → ¬ dQ c → μ3 c = μ2 c := fun c h1 h2 => s3 c (fun hx => hx.elim h1 h2)
        have hA3 : cA p (secQ S r l) μ3 := fun k hk => by
          rw [secQ_x (by decide)] at hk ⊢
          rw [k3 (p + 3) (by omega) (by unfold dQ; omega)]
          exact hc2.2.1 k hk
        have hBR : BkR S (secQ S r l) μ3 := by
          have eN : ∀ v, sm (fN (secQ S r l) v) (secQ S r l 0 10) = sm (fN r v) (r 0 10) := fun v => by
            rw [secQ_x (by decide)]
            exact sm_congr fun k _ => by unfold fN; rw [secQ_x (by decide), secQ_x (by decide)]
          have eP : ∀ v, sm (fP (secQ S r l) v) (secQ S r l 0 10) = sm (fP r v) (r 0 10) := fun v => by
            rw [secQ_x (by decide)]
            exact sm_congr fun k _ => by unfold fP; rw [secQ_x (by decide)]
          have eL : ∀ k, sm (lL (secQ S r l) k) (secQ S r l 0 11) = sm (lL r k) (r 0 11) := fun k => by
            rw [secQ_x (by decide)]
            exact sm_congr fun k _ => by unfold lL; rw [secQ_x (by decide), secQ_x (by decide), secQ_x (by decide), secQ_x (by decide)]
          refine ⟨fun v hv => ?_, fun k hk => ⟨?_, hB3 k hk⟩⟩
          · dsimp only
            rw [eN, eP, k3 p_BK_nodeNeeds (by show 12 ≠ _; omega) (by unfold dQ; decide), k3 p_BK_nodeParts (by show 13 ≠ _; omega) (by unfold dQ; decide)]
            exact hB2.1 v hv
          · dsimp only
            rw [eL, k3 p_BK_linkNeeds (by show 14 ≠ _; omega) (by unfold dQ; decide)]
            exact (hB2.2 k hk).1
        have hagr := secQ_agr hR.1 l
        have hE3 := frL.env hE hp105 f3
        cases hok : secOk S r with
        | true =>
          rw [hok, if_pos rfl] at hpl
          rw [hpl] at h
          have hll := hlok hok
          subst hll
          refine ⟨fun hc => absurd hc (by decide), fun _ => h μ3 f3 (fun hc => by cases hc) (fun r2 hr2 => ?_)⟩
          cases hr2
          exact ⟨hBR, hA3, hW3⟩
        | false =>
          rw [hok, if_neg (by decide)] at hpl
          rw [hpl] at h
          refine ⟨fun _ => ?_, fun hc => absurd rfl hc⟩
          refine t_leaveR hG hp105 (hagr.good hG) (secQ_ok hM0 l) (g6 f3) (g7 f3) ⟨hagr.cq hE3.2.2, hA3, hW3⟩ hBR (fun μ4 s4 hB4 => ?_)
          exact h μ4 (f3.tr (frL.sm s4 (fun c hc => ⟨by unfold dK at hc; unfold mCell; omega, Or.inr (Or.inl hc)⟩))) (fun _ => hB4) (fun r2 hr2 => by cases hr2)
    · refine rb_f hm2 ?_
      rw [hp1 hm2] at h
      refine h μ2 f2 (fun hc => by cases hc) (fun r2 hr2 => ?_)
      cases hr2
      exact ⟨hB2, hc2.2.1, hc2.2.2⟩
  have crun := c_run (M := 0) (q := fun z2 μ1 => ((z2 = (-1 : Int32) → K18 (nI m) (0 : Int32) μ1) ∧ (¬ (z2 = (-1 : Int32)) → K18 (nI m) (1 : Int32) μ1))) hG hI hr1 (by omega)
  rw [← hp] at crun
  refine crun (fun μ1 B hB hRB hs => ?_)
  have hBb : B = best S := hRB.b0 (by decide)
  have f1 : frL p μ μ1 := frL.sm hs (fun c hc => by
    unfold dR dS at hc
    by_cases hc3 : c = p + 3
    · subst hc3; exact ⟨by unfold mCell; omega, Or.inr (Or.inr (Or.inl rfl))⟩
    · exact ⟨by unfold mCell; omega, Or.inl (by unfold cCell; omega)⟩)
  have kd : ∀ c, dK c → μ1 c = μ c := fun c hc => hs c (by unfold dK at hc; unfold dR dS; omega)
  have hB1 : Bk9 (nLk S) (atS S) (cnS S) (ndS S) (bhS S) μ1 := hBk.fr kd
  have hE1 : Env S.1 p (dft S) μ1 := frL.env hE hp105 f1
  rw [vB_none hB.lt]
  cases hBc : B with
  | none =>
    refine br_t rfl (h18 _ _ _ ?_)
    unfold F_X4_lodge_18
    refine br_t rfl ?_
    rw [show (1 : Int32) = nI 1 from rfl, e1 (by omega) (by omega)]
    have hbn : best S = none := by rw [← hBb, hBc]
    by_cases hm1 : m = 1
    · have hpl : plc S m = (spS S).map (sRq S) := by unfold plc; rw [hbn]; dsimp only; rw [if_pos hm1]
      refine rb_t hm1 ?_
      have g6 : μ1 p_GR 6 = nI (nNd S) := by
        rw [show μ1 p_GR = μ p_GR from f1.1 1 (by unfold cCell; omega) (by unfold dK; omega) (by omega) (by unfold dV; omega)]; exact hI.1.2.1
      have e7 : μ1 7 = μ 7 := f1.1 7 (by unfold cCell; omega) (by unfold dK; omega) (by omega) (by unfold dV; omega)
      have e8 : μ1 8 = μ 8 := f1.1 8 (by unfold cCell; omega) (by unfold dK; omega) (by omega) (by unfold dV; omega)
      refine s_mapSplit (nN := nNd S) (L := lfN S) (F := lfL S) (d := ndS S) hG.2.2.1 hp105 hd hr1 hG.1 g6 hE1 (fun v hv => ?_) (fun k hk => ?_) (fun k hk => (hB1.2 k hk).1) (fun μ2 s2 hd2 hs2 => ?_)
      · rw [show μ1 p_GR_nodeRooms = μ p_GR_nodeRooms from e7, kd p_BK_nodeNeeds (by unfold dK; decide)]
        exact hI.lfn hG v hv
      · rw [lft_fr e8 (kd 14 (by unfold dK; omega)) (kd 15 (by unfold dK; omega))]
        exact hI.lfk hG k hk
      · have f2 : frL p μ μ2 := f1.tr (frL.sm s2 (fun c hc => by
          rcases hc with hc | hc | hc | hc
          · subst hc; exact ⟨by unfold mCell; omega, Or.inl (by unfold cCell; omega)⟩
          · subst hc; exact ⟨by unfold mCell; omega, Or.inr (Or.inr (Or.inl rfl))⟩
          · subst hc; exact ⟨by unfold mCell; omega, Or.inr (Or.inl (by unfold dK; omega))⟩
          · exact ⟨by unfold dV at hc; unfold mCell; omega, Or.inr (Or.inr (Or.inr hc))⟩))
        have k2 : ∀ c, dK c → c ≠ 14 → μ2 c = μ1 c := fun c h1 h2 => s2 c (by unfold dK at h1; unfold dV; omega)
        have hB2 : Bk9 (nLk S) (atS S) (cnS S) (ndS S) (bhS S) μ2 := by
          refine ⟨fun v hv => ?_, fun k hk => ⟨hd2 k hk, ?_, fun f hf => ?_⟩⟩
          · rw [k2 p_BK_nodeNeeds (by unfold dK; decide) (by decide), k2 p_BK_nodeParts (by unfold dK; decide) (by decide)]; exact hB1.1 v hv
          · rw [k2 p_BK_reserved (by unfold dK; decide) (by decide)]; exact (hB1.2 k hk).2.1
          · rw [k2 (p_BH + f) (by show dK (96 + f); unfold dK; omega) (by show 96 + f ≠ 14; omega)]; exact (hB1.2 k hk).2.2 f hf
        change (¬ bI (spS S).isSome = 0 → _) ∧ (bI (spS S).isSome = 0 → _)
        cases hsp : spS S with
        | none =>
          rw [hsp] at hpl
          have hpl : plc S m = none := hpl
          rw [hpl] at h
          exact ⟨fun hc => absurd rfl hc, fun _ => h μ2 f2 (fun _ => hB2) (fun r hr => by cases hr)⟩
        | some c =>
          refine ⟨fun _ => ?_, fun hc => absurd (show (1 : Int32) = 0 from hc) (by decide)⟩
          rw [hsp] at hpl
          have hpl : plc S m = some (sRq S c) := hpl
          obtain ⟨-, -, hA2, hW2⟩ := hs2 c hsp
          have hR := plc_ok hG hpl
          have hR0 : MapR S (sRq S c) 0 := ⟨hR.1, hR.2.1, hR.2.2.1, fun l hl => by
            obtain ⟨a1, a2, a3, a4, a5, a6, -⟩ := hR.2.2.2 l hl
            exact ⟨a1, a2, a3, a4, a5, a6, fun _ => rfl⟩⟩
          exact k49 (sRq S c) μ2 hR0 (fun hc => by omega) f2 hB2 hA2 hW2 (fun _ => hpl) (fun hc => by omega)
    · have hpl : plc S m = none := by unfold plc; rw [hbn]; dsimp only; rw [if_neg hm1]
      rw [hpl] at h
      exact rb_f hm1 (h μ1 f1 (fun _ => hB1) (fun r hr => by cases hr))
  | some y =>
    refine br_f (by simp) (h18 _ _ _ ?_)
    unfold F_X4_lodge_18
    refine br_f (by decide) ?_
    rw [hBc] at hB
    have hbs : best S = some y := by rw [← hBb, hBc]
    have hM := lsQ_map hG hbs
    have ha := lsQ_agr S y
    refine s_handOver hp105 hd hE1.2.2 hB (fun μ2 s2 hA2 hW2 => ?_)
    have f2 : frL p μ μ2 := f1.tr (frL.sm s2 (fun c hc => by
      unfold dH at hc
      refine ⟨by unfold mCell; omega, Or.inr (Or.inr ?_)⟩
      unfold dV
      omega))
    have hB2 : Bk9 (nLk S) (atS S) (cnS S) (ndS S) (bhS S) μ2 := hB1.fr (fun c hc => s2 c (by unfold dK at hc; unfold dH; omega))
    refine k49 (lsQ (dft S) y) μ2 ⟨ha, hM.2.2.1, hM.2.2.2.1, fun l hl => ?_⟩ (fun _ => hM) f2 hB2 (fun k hk => ?_) (fun l hl => ?_) (fun hm2 => ?_) (fun hm2 => ?_)
    · obtain ⟨a1, a2, a3, a4⟩ := hM.2.2.2.2 l hl
      have hp0 : 0 < 2 ^ nLk S := Nat.pow_pos (by decide)
      exact ⟨a1, by rw [a3]; exact hp0, by rw [a4]; exact hp0, by omega, fun _ => a2, fun k _ _ => by rw [a4]; exact Nat.zero_testBit k, fun _ => a4⟩
    · rw [ha 0 10 (by omega)] at hk; exact hA2 k hk
    · rw [ha 0 11 (by omega)] at hl; exact hW2 l hl
    · unfold plc; rw [hbs]; dsimp only; rw [if_neg hm2]
    · unfold plc; rw [hbs]; dsimp only; rw [if_pos hm2, ha 0 11 (by omega)]
theorem tt_place {S : St} {x y : Int32} {μ : Mm} {q : Int32 → Mm → Prop} (hG : Good S) (hI : cInv S μ) (h : tE (o_place S x y) μ q) : Wp_L_place x y μ q := by
  unfold Wp_L_place Wp_X7_place F_X7_place_e
  unfold o_place at h
  have hn := hG.n
  have hd := hG.d hn
  have h12 := hG.2.1
  refine rg_c2 (fun hb => ?_) (fun hb => ?_)
  · rw [show rg 0 2 x = false from hb, Bool.false_and, if_neg (by decide)] at h
    exact Or.inl ⟨rfl, h.no (by decide) hI⟩
  refine rg_c1 (fun hc => ?_) (fun hc => ?_)
  · rw [hc, Bool.and_false, if_neg (by decide)] at h
    exact Or.inl ⟨rfl, h.no (by decide) hI⟩
  rw [show rg 0 2 x = true from hb, hc, if_pos (by decide)] at h
  obtain ⟨-, xb, xe⟩ := rg_ex (a := 0) (b := 2) (by omega) (by omega) (show rg (nI 0) (nI 2) x = true from hb)
  obtain ⟨ya, yb, ye⟩ := rg_ex (a := 1) (b := 100) (by omega) (by omega) hc
  obtain ⟨a, ha⟩ : ∃ a, a = toN x := ⟨_, rfl⟩
  obtain ⟨b, hbb⟩ : ∃ b, b = toN y := ⟨_, rfl⟩
  rw [← ha] at xb xe h
  rw [← hbb] at ya yb ye h
  rw [show μ p_ML 6 = nI (nRq S) from hI.2.2.1]
  by_cases hn12 : nRq S = 12
  · rw [if_pos (Or.inl hn12)] at h
    exact br_t (by rw [hn12]; exact Int32.le_refl _) (Or.inr ⟨rfl, h.no (by decide) hI⟩)
  refine br_f (not_le_nI (n := 12) (by omega) (by omega)) ?_
  refine tt_draft hG hI ?_
  rw [(hI.2.2.2.2.1 _ hn).1, e0 (by have := hd.1; omega)]
  by_cases hz : dft S 0 10 = 0
  · rw [if_pos (Or.inr hz)] at h
    exact rb_t hz (Or.inr ⟨rfl, h.no (by decide) hI⟩)
  rw [if_neg (fun hx => hx.elim hn12 hz)] at h
  refine rb_f hz ?_
  refine tt_draft hG hI ?_
  rw [xe]
  refine tt_lodge hG hI xb (by omega) (fun μ2 f2 hno hyes => ?_)
  cases hp : plc S a with
  | none =>
    rw [hp] at h
    have hI2 : cInv S μ2 := hI.wk hG f2 (hno hp)
    exact ⟨fun hc => absurd rfl hc, fun _ => h.ok hI2 f2.2⟩
  | some r =>
    rw [hp] at h
    refine ⟨fun _ => ?_, fun hc => absurd (show (1 : Int32) = 0 from hc) (by decide)⟩
    obtain ⟨hBR, hA2, hW2⟩ := hyes r hp
    have hR := plc_ok hG hp
    have hgd := hR.1.good hG
    have h14 := hR.1.e14 hG
    have p5 : p_RQ + 11 * nRq S = 105 + 11 * nRq S := rfl
    have k2 : ∀ c, cCell c → ¬ dK c → c ≠ p_RQ + 11 * nRq S + 3 → ¬ dV (p_RQ + 11 * nRq S) c → μ2 c = μ c := f2.1
    have eML : μ2 p_ML = μ p_ML := k2 0 (by unfold cCell; omega) (by unfold dK; omega) (by omega) (by unfold dV; omega)
    have hML6 : μ2 p_ML 6 = nI (nRq S) := by rw [eML]; exact hI.2.2.1
    have hML7 : μ2 p_ML 7 = nI (tkS S) := by rw [eML]; exact hI.2.2.2.1
    unfold Wp_X7_draft F_X7_draft_e
    rw [hML6, nI_clamp (by omega)]
    refine ⟨inN (by omega) (by omega), ?_⟩
    dsimp only
    rw [u_ne (show p_ML ≠ p_RQ + 11 * nRq S by show 0 ≠ _; omega), hML6, nI_clamp (by omega)]
    refine ⟨inN (by omega) (by omega), ?_⟩
    rw [u_ne (show p_ML ≠ p_RQ + 11 * nRq S by show 0 ≠ _; omega), hML7, u_ne (show p_ML ≠ p_RQ + 11 * nRq S by show 0 ≠ _; omega), hML6, ye, nI_add, i1, u_eq, d_eq, show nI (nRq S + 1) - (1 : Int32) = nI (nRq S) from nI_pred _]
    obtain ⟨μ3, hμ3⟩ : ∃ μ3, μ3 = up2 (up2 (up2 μ2 (p_RQ + 11 * nRq S) 12 (nI a)) (p_RQ + 11 * nRq S) 13 (nI (tkS S + b))) p_ML 6 (nI (nRq S + 1)) := ⟨_, rfl⟩
    rw [← hμ3]
    have e3 : ∀ c, c ≠ 0 → c ≠ p_RQ + 11 * nRq S → μ3 c = μ2 c := fun c h1 h2 => by rw [hμ3, u_ne h1, u_ne h2, u_ne h2]
    have ep : ∀ j, j ≠ 12 → j ≠ 13 → μ3 (p_RQ + 11 * nRq S) j = μ (p_RQ + 11 * nRq S) j := fun j h1 h2 => by
      rw [hμ3, u_ne (by show 105 + 11 * nRq S ≠ 0; omega), u_eq, d_ne h2, u_eq, d_ne h1, k2 _ (by unfold cCell; omega) (by unfold dK; omega) (by omega) (by unfold dV; omega)]
    refine h.ok ⟨?_, ?_, ?_, ?_, ?_⟩ (fun c hc => by rw [e3 c (by unfold mCell at hc; omega) (by unfold mCell at hc; omega)]; exact f2.2 c hc)
    · exact hI.1.fr (fun c hc => by rw [e3 c (by omega) (by omega)]; exact k2 c (by unfold cCell; omega) (by unfold dK; omega) (by omega) (by unfold dV; omega))
    · -- the books
      have e1 : ∀ (f : Rq → Nat) (g : Nat), f (fnR S r a b) = g → sm (fun i => f ((pcS S r a b).2.2 i)) (nRq S + 1) = sm (fun i => f (S.2.2 i)) (nRq S) + g := fun f g hg => by
        show sm (fun i => f ((pcS S r a b).2.2 i)) (nRq S) + f ((pcS S r a b).2.2 (nRq S)) = _
        rw [pcS_n, hg, sm_congr (g := fun i => f (S.2.2 i)) (fun i hi => by rw [pcS_ne (Nat.ne_of_lt hi)])]
      have f14 : fnR S r a b 0 14 = 0 := by rw [fnR_x (by omega)]; exact h14
      have cN : ∀ v, atS (pcS S r a b) v = atS S v + sm (fN r v) (r 0 10) := fun v => e1 (fun r => qN r v) _ (by
        unfold qN
        rw [if_pos f14, fnR_x (x := 0) (y := 10) (by omega)]
        exact sm_congr fun k _ => by rw [fnR_x (x := 3) (by omega), fnR_x (x := 1) (by omega)]; rfl)
      have cP : ∀ v, cnS (pcS S r a b) v = cnS S v + sm (fP r v) (r 0 10) := fun v => e1 (fun r => qP r v) _ (by
        unfold qP
        rw [if_pos f14, fnR_x (x := 0) (y := 10) (by omega)]
        exact sm_congr fun k _ => by rw [fnR_x (x := 3) (by omega)]; rfl)
      have cL : ∀ k, ndS (pcS S r a b) k = ndS S k + sm (lL r k) (r 0 11) := fun k => e1 (fun r => qL r k) _ (by
        unfold qL
        rw [if_pos f14, fnR_x (x := 0) (y := 11) (by omega)]
        exact sm_congr fun l _ => by unfold lL; rw [fnR_x (x := 7) (by omega), fnR_x (x := 8) (by omega), fnR_x (x := 9) (by omega), fnR_x (x := 6) (by omega)])
      have cB : ∀ f k, bhS (pcS S r a b) f k = bhS S f k + sm (lB r f k) (r 0 11) := fun f k => e1 (fun r => qB r f k) _ (by
        unfold qB
        rw [if_pos f14, fnR_x (x := 0) (y := 11) (by omega)]
        exact sm_congr fun l _ => by unfold lB; rw [fnR_x (x := 10) (by omega), fnR_x (x := 7) (by omega), fnR_x (x := 6) (by omega)])
      show Bk9 (nLk S) (atS (pcS S r a b)) (cnS (pcS S r a b)) (ndS (pcS S r a b)) (bhS (pcS S r a b)) μ3
      rw [show atS (pcS S r a b) = _ from funext cN, show cnS (pcS S r a b) = _ from funext cP, show ndS (pcS S r a b) = _ from funext cL, show bhS (pcS S r a b) = fun f k => bhS S f k + sm (lB r f k) (r 0 11) from funext fun f => funext (cB f)]
      exact Bk9.fr hBR (fun c hc => e3 c (by unfold dK at hc; omega) (by unfold dK at hc; omega))
    · rw [hμ3, u_eq, d_eq]; rfl
    · rw [hμ3, u_eq, d_ne (by decide), u_ne (by show 0 ≠ _; omega), u_ne (by show 0 ≠ _; omega)]; exact hML7
    · -- the requests
      have h5 : cReqs (nRq S) S.2.2 μ := hI.2.2.2.2
      have kj : ∀ j, j < 13 → j ≠ nRq S → ∀ c, p_RQ + 11 * j ≤ c → c < p_RQ + 11 * j + 11 → μ3 c = μ c := by
        intro j hj hjn c c1 c2
        have c1 : 105 + 11 * j ≤ c := c1
        have c2 : c < 105 + 11 * j + 11 := c2
        rw [e3 c (by omega) (by omega)]
        exact k2 c (by unfold cCell; omega) (by unfold dK; omega) (by omega) (by unfold dV; omega)
      have hqd := hR.1.cq (h5.1 _ hn)
      have kq : ∀ j, (j = 1 ∨ j = 2 ∨ j = 4 ∨ j = 5 ∨ j = 6) → μ3 (p_RQ + 11 * nRq S + j) = μ (p_RQ + 11 * nRq S + j) := fun j hj => by
        rw [e3 _ (by omega) (by omega)]
        exact k2 _ (by unfold cCell; omega) (by unfold dK; omega) (by omega) (by unfold dV; omega)
      have kw : ∀ j, (j = 3 ∨ (7 ≤ j ∧ j ≤ 10)) → μ3 (p_RQ + 11 * nRq S + j) = μ2 (p_RQ + 11 * nRq S + j) := fun j hj => e3 _ (by omega) (by omega)
      refine ⟨fun j hj => ?_, fun j hj => ?_⟩
      · by_cases hjn : j = nRq S
        · subst hjn
          rw [pcS_n]
          obtain ⟨q1, q2, q3, q4, q5⟩ := hqd
          refine ⟨?_, ?_, ?_, fun k hk => ?_, fun l hl => ?_⟩
          · rw [ep 10 (by decide) (by decide), fnR_x (by omega)]; exact q1
          · rw [ep 11 (by decide) (by decide), fnR_x (by omega)]; exact q2
          · rw [ep 14 (by decide) (by decide), fnR_x (by omega)]; exact q3
          · rw [fnR_x (by omega)] at hk
            rw [fnR_x (x := 1) (by omega), fnR_x (x := 2) (by omega), kq 1 (by omega), kq 2 (by omega)]
            exact q4 k hk
          · rw [fnR_x (by omega)] at hl
            rw [fnR_x (x := 4) (by omega), fnR_x (x := 5) (by omega), fnR_x (x := 6) (by omega), kq 4 (by omega), kq 5 (by omega), kq 6 (by omega)]
            exact q5 l hl
        · rw [pcS_ne hjn]
          exact (h5.1 j hj).fr3 (kj j hj hjn)
      · have hj : j < nRq S + 1 := hj
        by_cases hjn : j = nRq S
        · subst hjn
          rw [pcS_n]
          refine ⟨fun k hk => ?_, fun l hl => ?_, ?_, ?_⟩
          · rw [fnR_x (by omega)] at hk
            rw [fnR_x (by omega), kw 3 (by omega)]
            exact hA2 k hk
          · rw [fnR_x (by omega)] at hl
            rw [fnR_x (x := 7) (by omega), fnR_x (x := 8) (by omega), fnR_x (x := 9) (by omega), fnR_x (x := 10) (by omega), kw 7 (by omega), kw 8 (by omega), kw 9 (by omega), kw 10 (by omega)]
            exact hW2 l hl
          · rw [fnR_12, hμ3, u_ne (by show 105 + 11 * nRq S ≠ 0; omega), u_eq, d_ne (by decide), u_eq, d_eq]
          · rw [fnR_13, hμ3, u_ne (by show 105 + 11 * nRq S ≠ 0; omega), u_eq, d_eq]
        · rw [pcS_ne hjn]
          exact cP.fr3 (h5.2 j (by omega)) (kj j (by omega) hjn)
