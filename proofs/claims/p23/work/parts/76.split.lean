/-! lines that are split -/
def dwn (g : Nat → Nat) : Nat → Nat × Nat
  | 0 => (0, 0)
  | s + 1 => if g (s + 1) ≠ 0 then (g (s + 1), s + 1) else if s = 0 then (0, 1) else dwn g s
def gw (nL : Nat) (F : Nat → Int32) (l : List Nat) (t : Nat) : Nat := fwp (okF nL F (nI t)) l
def spO (nL : Nat) (F : Nat → Int32) (l : List Nat) (n : Nat) (d : Nat × Nat) : Nat := if n - d.2 = 0 then 0 else gw nL (tkF nL d.1 (nI d.2) F) l (n - d.2)
def spl (nL : Nat) (F : Nat → Int32) (l : List Nat) (n : Nat) : Bool × Nat × Nat × Nat :=
  (!decide ((dwn (gw nL F l) n).1 = 0) && (decide (n - (dwn (gw nL F l) n).2 = 0) || !decide (spO nL F l n (dwn (gw nL F l) n) = 0)), (dwn (gw nL F l) n).1, (dwn (gw nL F l) n).2, spO nL F l n (dwn (gw nL F l) n))
def spF (nL : Nat) (W : Nat → List Nat) (need : Nat → Nat) (F : Nat → Int32) : Nat → Nat → Int32
  | 0 => F
  | l + 1 => tkF nL (spl nL (spF nL W need F l) (W l) (need l)).2.2.2 (nI (need l - (spl nL (spF nL W need F l) (W l) (need l)).2.2.1)) (tkF nL (spl nL (spF nL W need F l) (W l) (need l)).2.1 (nI (spl nL (spF nL W need F l) (W l) (need l)).2.2.1) (spF nL W need F l))
def spR (nL : Nat) (W : Nat → List Nat) (need : Nat → Nat) (F : Nat → Int32) (l : Nat) : Bool × Nat × Nat × Nat := spl nL (spF nL W need F l) (W l) (need l)
theorem gw_congr {nL : Nat} {F F2 : Nat → Int32} {l : List Nat} (h : ∀ k, k < nL → F k = F2 k) : gw nL F l = gw nL F2 l := by
  funext t
  exact fwp_congr fun w _ => okF_congr h
theorem tkF_congr {nL w : Nat} {x : Int32} {F F2 : Nat → Int32} (h : ∀ k, k < nL → F k = F2 k) : ∀ k, k < nL → tkF nL w x F k = tkF nL w x F2 k := fun k hk => by
  unfold tkF
  rw [h k hk]
theorem spl_congr {nL n : Nat} {F F2 : Nat → Int32} {l : List Nat} (h : ∀ k, k < nL → F k = F2 k) : spl nL F l n = spl nL F2 l n := by
  have hg := gw_congr (l := l) h
  have ho : ∀ d, spO nL F l n d = spO nL F2 l n d := fun d => by
    unfold spO
    rw [gw_congr (tkF_congr h)]
  unfold spl
  rw [hg, ho]
theorem spF_congr {nL : Nat} {W : Nat → List Nat} {need : Nat → Nat} {F F2 : Nat → Int32} (h : ∀ k, k < nL → F k = F2 k) : ∀ l, (∀ k, k < nL → spF nL W need F l k = spF nL W need F2 l k) ∧ spR nL W need F l = spR nL W need F2 l
  | 0 => ⟨h, spl_congr h⟩
  | l + 1 => by
    obtain ⟨h1, h2⟩ := spF_congr (W := W) (need := need) h l
    have h3 : ∀ k, k < nL → spF nL W need F (l + 1) k = spF nL W need F2 (l + 1) k := by
      unfold spF
      have h2 : spl nL (spF nL W need F l) (W l) (need l) = spl nL (spF nL W need F2 l) (W l) (need l) := h2
      rw [h2]
      exact tkF_congr (tkF_congr h1)
    exact ⟨h3, spl_congr h3⟩
theorem gw_lt {nL : Nat} {F : Nat → Int32} {l : List Nat} (h : W9 nL l) (t : Nat) : gw nL F l t < 2 ^ nL := fwp_lt h
theorem dwn_lt {g : Nat → Nat} {b : Nat} (hb : 0 < b) (h : ∀ t, g t < b) : ∀ n, (dwn g n).1 < b
  | 0 => hb
  | s + 1 => by
    unfold dwn
    split
    · exact h _
    · split
      · exact hb
      · exact dwn_lt hb h s
theorem dwn_le {g : Nat → Nat} : ∀ n, (dwn g n).2 ≤ n
  | 0 => Nat.le_refl _
  | s + 1 => by
    unfold dwn
    split
    · exact Nat.le_refl _
    · split
      · show 1 ≤ _; omega
      · exact Nat.le_trans (dwn_le s) (Nat.le_succ s)
theorem spl_lt {nL n : Nat} {F : Nat → Int32} {l : List Nat} (h : W9 nL l) : (spl nL F l n).2.1 < 2 ^ nL ∧ (spl nL F l n).2.2.1 ≤ n ∧ (spl nL F l n).2.2.2 < 2 ^ nL := by
  have hp : 0 < 2 ^ nL := Nat.pow_pos (by decide)
  refine ⟨dwn_lt hp (gw_lt h) n, dwn_le n, ?_⟩
  show spO nL F l n _ < _
  unfold spO
  split
  · exact hp
  · exact gw_lt h _
/-- of a split line: no other way, then the whole need -/
theorem spl_full {nL n : Nat} {F : Nat → Int32} {l : List Nat} (h : (spl nL F l n).1 = true) (ho : (spl nL F l n).2.2.2 = 0) : (spl nL F l n).2.2.1 = n := by
  have h1 : (!decide ((dwn (gw nL F l) n).1 = 0) && (decide (n - (dwn (gw nL F l) n).2 = 0) || !decide (spO nL F l n (dwn (gw nL F l) n) = 0))) = true := h
  have ho : spO nL F l n (dwn (gw nL F l) n) = 0 := ho
  rw [decide_eq_true ho] at h1
  simp only [Bool.not_true, Bool.or_false, Bool.and_eq_true, decide_eq_true_eq] at h1
  have := dwn_le (g := gw nL F l) n
  show (dwn (gw nL F l) n).2 = n
  omega
/-- the cells of ways -/
def dV (p c : Nat) : Prop := p + 7 ≤ c ∧ c ≤ p + 10
theorem s_splitLine {G : GD} {p l : Nat} {r : Rq} {P : Nat → Nat} {μ : Mm} {q : Bool → Mm → Prop} (hG : NetOk G) (hp : 105 ≤ p) (hr : GoodD r) (hl : l < r 0 11) (hE : Env G p r μ) (hP : ∀ k, k < r 0 10 → μ (p + 3) k = nI (P k)) (hP6 : ∀ k, k < r 0 10 → P k < 6) (hPd : ∀ j k, j < r 0 10 → k < r 0 10 → j ≠ k → P j ≠ P k)
    (h : ∀ μ2, Sm (dV p) μ μ2 → (∀ c, dV p c → ∀ j, j ≠ l → μ2 c j = μ c j) → ((spl G.1 (lft μ) (Wof G r P l) (r 6 l)).1 = true → μ2 (p + 7) l = nI (spl G.1 (lft μ) (Wof G r P l) (r 6 l)).2.1 ∧ μ2 (p + 8) l = nI (spl G.1 (lft μ) (Wof G r P l) (r 6 l)).2.2.1 ∧ μ2 (p + 9) l = nI (spl G.1 (lft μ) (Wof G r P l) (r 6 l)).2.2.2 ∧ μ2 (p + 10) l = nI 0) → q (spl G.1 (lft μ) (Wof G r P l) (r 6 l)).1 μ2) : Wp_X4_splitLine p (nI l) μ q := by
  have hrr := hr
  obtain ⟨g1, g2, g3, g4, g5⟩ := hr
  obtain ⟨b1, b2, b3, b4, b5⟩ := g4 l hl
  have hPa := hP6 _ b1
  have hPb := hP6 _ b2
  have hPab := hPd _ _ b1 b2 b3
  have h9 : W9 G.1 (Wof G r P l) := wl_W9 G _ _
  have hL := hG.1
  have n6 := (hE.2.2.2.2.2.2 l hl).2.2
  have hv : vp_in (nI l) 3 := inN (by omega) (by omega)
  have cl : (nI l).toNatClampNeg = l := nI_clamp (by omega)
  unfold Wp_X4_splitLine
  intro K33 K69 h33 h69
  unfold F_X4_splitLine_e
  refine s_pairOf hE hrr hl hP ⟨hv, ?_⟩
  rw [cl, n6]
  refine s_shortFor hG hE.1 hE.2.1 hPa hPb hPab ?_
  obtain ⟨D, hD⟩ : ∃ D, D = dwn (gw G.1 (lft μ) (Wof G r P l)) (r 6 l) := ⟨_, rfl⟩
  have hspl : spl G.1 (lft μ) (Wof G r P l) (r 6 l) = (!decide (D.1 = 0) && (decide (r 6 l - D.2 = 0) || !decide (spO G.1 (lft μ) (Wof G r P l) (r 6 l) D = 0)), D.1, D.2, spO G.1 (lft μ) (Wof G r P l) (r 6 l) D) := by rw [hD]; rfl
  rw [hspl] at h
  have hDl : D.1 < 2 ^ G.1 := by rw [hD]; exact dwn_lt (Nat.pow_pos (by decide)) (gw_lt h9) _
  have hDs : D.2 ≤ r 6 l := by rw [hD]; exact dwn_le _
  -- behind the search for a share
  have k69 : K69 (nI l) (nI (P (r 4 l) * 6 + P (r 5 l))) (nI D.2) (nI D.1) μ := by
    refine h69 _ _ _ _ _ ?_
    unfold F_X4_splitLine_69
    refine s_setWay (by omega) ⟨hv, ?_⟩
    rw [cl]
    obtain ⟨μ2, hμ2⟩ : ∃ μ2, μ2 = up2 (up2 (up2 (up2 (up2 μ (p + 7) l (nI D.1)) (p + 8) l (μ (p + 6) l)) (p + 9) l 0) (p + 10) l 0) (p + 8) l (nI D.2) := ⟨_, rfl⟩
    rw [← hμ2]
    have s2 : Sm (dV p) μ μ2 := by
      rw [hμ2]
      exact ((((Sm.up (by unfold dV; omega)).tr (Sm.up (by unfold dV; omega))).tr (Sm.up (by unfold dV; omega))).tr (Sm.up (by unfold dV; omega))).tr (Sm.up (by unfold dV; omega))
    have o2 : ∀ c, dV p c → ∀ j, j ≠ l → μ2 c j = μ c j := by
      intro c hc j hj
      have hu : ∀ (c2 : Nat) (v : Int32) (m : Mm), (up2 m c2 l v) c j = m c j := fun c2 v m => by
        by_cases hcc : c = c2
        · subst hcc; rw [u_eq, d_ne hj]
        · rw [u_ne hcc]
      rw [hμ2, hu, hu, hu, hu, hu]
    have e7 : μ2 (p + 7) l = nI D.1 := by rw [hμ2, u_ne (by omega), u_ne (by omega), u_ne (by omega), u_ne (by omega), u_eq, d_eq]
    have e8 : μ2 (p + 8) l = nI D.2 := by rw [hμ2, u_eq, d_eq]
    have e9 : μ2 (p + 9) l = 0 := by rw [hμ2, u_ne (by omega), u_ne (by omega), u_eq, d_eq]
    have e10 : μ2 (p + 10) l = 0 := by rw [hμ2, u_ne (by omega), u_eq, d_eq]
    have e6 : μ2 (p + 6) l = nI (r 6 l) := by rw [s2 (p + 6) (by unfold dV; omega)]; exact n6
    unfold Wp_X5_restOf F_X5_restOf_e
    rw [cl, e6, e8, nI_sub hDs]
    refine ⟨hv, hv, ?_⟩
    have hD9 := lt512 hL hDl
    rw [e0 (a := D.1) (by omega)]
    dsimp only
    rw [e0 (a := r 6 l - D.2) (by omega)]
    by_cases hz : D.1 = 0
    · rw [decide_eq_true hz] at h
      exact br_t hz (br_t hz (h μ2 s2 o2 (fun hc => by cases hc)))
    refine br_f hz ?_
    rw [decide_eq_false hz] at h
    by_cases hy : r 6 l - D.2 = 0
    · have ho : spO G.1 (lft μ) (Wof G r P l) (r 6 l) D = 0 := by unfold spO; rw [if_pos hy]
      rw [decide_eq_true hy, ho] at h
      exact rb_t hy (br_f hz (h μ2 s2 o2 (fun _ => ⟨e7, e8, e9, e10⟩)))
    · have ho : spO G.1 (lft μ) (Wof G r P l) (r 6 l) D = gw G.1 (tkF G.1 D.1 (nI D.2) (lft μ)) (Wof G r P l) (r 6 l - D.2) := by unfold spO; rw [if_neg hy]
      rw [decide_eq_false hy, ho] at h
      have hlf : lft μ2 = lft μ := lft_fr (s2 8 (by unfold dV; omega)) (s2 14 (by unfold dV; omega)) (s2 15 (by unfold dV; omega))
      refine rb_f hy ?_
      refine s_carry hL (by rw [s2 p_GR (by unfold dV; show ¬ (p + 7 ≤ 1 ∧ _); omega)]; exact hE.1.2.1) hD9 ?_
      have hE2 : Env G p r μ2 := hE.fr s2 (fun x hx => by unfold dV at hx; unfold envC; omega)
      have hE3 : Env G p r (setr μ2 p_BK_linkNeeds (crF G.1 D.1 (nI D.2) (μ2 p_BK_linkNeeds))) := hE2.fr (D := fun c => c = 14) (Sm.set rfl) (fun x hx => by unfold envC; omega)
      refine s_shortFor hG hE3.1 hE3.2.1 hPa hPb hPab ⟨hv, ?_⟩
      rw [lft_carry, hlf]
      change Wp_X0_carry (nI D.1) (-nI D.2) (up2 (setr μ2 p_BK_linkNeeds (crF G.1 D.1 (nI D.2) (μ2 p_BK_linkNeeds))) (p + 9) l (nI (gw G.1 (tkF G.1 D.1 (nI D.2) (lft μ)) (Wof G r P l) (r 6 l - D.2)))) _
      obtain ⟨o, hoo⟩ : ∃ o, o = gw G.1 (tkF G.1 D.1 (nI D.2) (lft μ)) (Wof G r P l) (r 6 l - D.2) := ⟨_, rfl⟩
      rw [← hoo] at h ⊢
      have ho9 : o < 512 := by rw [hoo]; exact lt512 hL (gw_lt h9 _)
      refine s_carry hL ?_ hD9 ?_
      · rw [u_ne (show p_GR ≠ p + 9 by show 1 ≠ _; omega), setr_ne (by decide), s2 p_GR (by unfold dV; show ¬ (p + 7 ≤ 1 ∧ _); omega)]
        exact hE.1.2.1
      rw [u_ne (show p_BK_linkNeeds ≠ p + 9 by show 14 ≠ _; omega), setr_self, crF_back]
      obtain ⟨μ3, hμ3⟩ : ∃ μ3, μ3 = setr (up2 (setr μ2 p_BK_linkNeeds (crF G.1 D.1 (nI D.2) (μ2 p_BK_linkNeeds))) (p + 9) l (nI o)) p_BK_linkNeeds (μ2 p_BK_linkNeeds) := ⟨_, rfl⟩
      rw [← hμ3]
      have m3 : μ3 = up2 μ2 (p + 9) l (nI o) := by
        rw [hμ3]
        funext c
        by_cases hc : c = 14
        · subst hc
          rw [show (14 : Nat) = p_BK_linkNeeds from rfl, setr_self, u_ne (show p_BK_linkNeeds ≠ p + 9 by show 14 ≠ _; omega)]
        · rw [setr_ne hc]
          by_cases hc9 : c = p + 9
          · subst hc9
            rw [u_eq, u_eq, setr_ne hc]
          · rw [u_ne hc9, u_ne hc9, setr_ne hc]
      have e3 : μ3 (p + 9) l = nI o := by rw [m3, u_eq, d_eq]
      refine ⟨hv, ?_⟩
      rw [e3, e0 (by omega)]
      have s3 : Sm (dV p) μ μ3 := s2.tr (by rw [m3]; exact Sm.up (by unfold dV; omega))
      have o3 : ∀ c, dV p c → ∀ j, j ≠ l → μ3 c j = μ c j := by
        intro c hc j hj
        rw [m3]
        by_cases hcc : c = p + 9
        · subst hcc; rw [u_eq, d_ne hj]; exact o2 _ hc j hj
        · rw [u_ne hcc]; exact o2 _ hc j hj
      by_cases hoz : o = 0
      · rw [decide_eq_true hoz] at h
        exact br_t hoz (h μ3 s3 o3 (fun hc => by cases hc))
      · rw [decide_eq_false hoz] at h
        refine br_f hoz (h μ3 s3 o3 (fun _ => ⟨?_, ?_, e3, ?_⟩))
        · rw [m3, u_ne (by omega)]; exact e7
        · rw [m3, u_ne (by omega)]; exact e8
        · rw [m3, u_ne (by omega)]; exact e10
  -- the search for a share
  have k33 : ∀ t, t ≤ 20 → dwn (gw G.1 (lft μ) (Wof G r P l)) (t + 1) = D → K33 (nI l) (nI (P (r 4 l) * 6 + P (r 5 l))) (nI (t + 1)) (nI (gw G.1 (lft μ) (Wof G r P l) (t + 1))) μ := by
    intro t
    induction t with
    | zero =>
      intro _ hd
      refine h33 _ _ _ _ _ ?_
      unfold F_X4_splitLine_33
      have hg9 := lt512 hL (gw_lt (F := lft μ) h9 (0 + 1))
      rw [e0 (by omega)]
      unfold dwn at hd
      by_cases hz : gw G.1 (lft μ) (Wof G r P l) (0 + 1) = 0
      · rw [if_neg (fun hx => hx hz), if_pos rfl] at hd
        refine rb_t hz (br_t (by decide) ?_)
        rw [← hd] at k69
        rw [hz]
        exact k69
      · rw [if_pos hz] at hd
        rw [← hd] at k69
        exact rb_f hz k69
    | succ t ih =>
      intro ht hd
      refine h33 _ _ _ _ _ ?_
      unfold F_X4_splitLine_33
      have hg9 := lt512 hL (gw_lt (F := lft μ) h9 (t + 1 + 1))
      rw [e0 (by omega)]
      unfold dwn at hd
      by_cases hz : gw G.1 (lft μ) (Wof G r P l) (t + 1 + 1) = 0
      · rw [if_neg (fun hx => hx hz), if_neg (by omega)] at hd
        refine rb_t hz (br_f (not_le_nI (n := t + 1 + 1) (k := 1) (by omega) (by omega)) ?_)
        rw [pk_m1]
        refine s_shortFor hG hE.1 hE.2.1 hPa hPb hPab ?_
        exact ih (by omega) hd
      · rw [if_pos hz] at hd
        rw [← hd] at k69
        exact rb_f hz k69
  obtain ⟨t, ht⟩ : ∃ t, r 6 l = t + 1 := ⟨r 6 l - 1, by omega⟩
  have := k33 t (by omega) (by rw [← ht, hD])
  rw [← ht] at this
  exact this
/-- a draft as it is split over the nodes P -/
def spQ (nL : Nat) (W : Nat → List Nat) (r : Rq) (P : Nat → Nat) (F : Nat → Int32) : Rq := fun x y => if x = 3 then P y else if x = 7 then (spR nL W (r 6) F y).2.1 else if x = 8 then (spR nL W (r 6) F y).2.2.1 else if x = 9 then (spR nL W (r 6) F y).2.2.2 else if x = 10 then 0 else r x y
theorem spQ_3 {nL : Nat} {W : Nat → List Nat} {r : Rq} {P : Nat → Nat} {F : Nat → Int32} {y : Nat} : spQ nL W r P F 3 y = P y := rfl
theorem spQ_7 {nL : Nat} {W : Nat → List Nat} {r : Rq} {P : Nat → Nat} {F : Nat → Int32} {y : Nat} : spQ nL W r P F 7 y = (spR nL W (r 6) F y).2.1 := rfl
theorem spQ_8 {nL : Nat} {W : Nat → List Nat} {r : Rq} {P : Nat → Nat} {F : Nat → Int32} {y : Nat} : spQ nL W r P F 8 y = (spR nL W (r 6) F y).2.2.1 := rfl
theorem spQ_9 {nL : Nat} {W : Nat → List Nat} {r : Rq} {P : Nat → Nat} {F : Nat → Int32} {y : Nat} : spQ nL W r P F 9 y = (spR nL W (r 6) F y).2.2.2 := rfl
theorem spQ_10 {nL : Nat} {W : Nat → List Nat} {r : Rq} {P : Nat → Nat} {F : Nat → Int32} {y : Nat} : spQ nL W r P F 10 y = 0 := rfl
theorem spQ_x {nL : Nat} {W : Nat → List Nat} {r : Rq} {P : Nat → Nat} {F : Nat → Int32} {x y : Nat} (h : x ≠ 3 ∧ x < 7) : spQ nL W r P F x y = r x y := by
  unfold spQ
  rw [if_neg (by omega), if_neg (by omega), if_neg (by omega), if_neg (by omega), if_neg (by omega)]
def okL (nL : Nat) (W : Nat → List Nat) (r : Rq) (F : Nat → Int32) : Bool := al (fun l => (spR nL W (r 6) F l).1) (r 0 11)
theorem sgI_t (x : Int32) : sgI true * x = x := by unfold sgI; rw [if_pos rfl, Int32.one_mul]
theorem s_splitLines {G : GD} {p : Nat} {r : Rq} {P : Nat → Nat} {d : Nat → Nat} {μ : Mm} {q : Bool → Mm → Prop} (hG : NetOk G) (hp : 105 ≤ p) (hr : GoodD r) (hE : Env G p r μ) (hP : ∀ k, k < r 0 10 → μ (p + 3) k = nI (P k)) (hP6 : ∀ k, k < r 0 10 → P k < 6) (hPd : ∀ j k, j < r 0 10 → k < r 0 10 → j ≠ k → P j ≠ P k) (hd : ∀ k, k < 9 → μ p_BK_linkNeeds k = nI (d k))
    (h : ∀ μ2, Sm (fun c => c = 14 ∨ dV p c) μ μ2 → (∀ k, k < 9 → μ2 p_BK_linkNeeds k = nI (d k)) → (okL G.1 (Wof G r P) r (lft μ) = true → cW p (spQ G.1 (Wof G r P) r P (lft μ)) μ2) → q (okL G.1 (Wof G r P) r (lft μ)) μ2) : Wp_X4_splitLines p μ q := by
  have hrr := hr
  obtain ⟨g1, g2, g3, g4, g5⟩ := hr
  have h9 : ∀ l, W9 G.1 (Wof G r P l) := fun l => wl_W9 G _ _
  have hL := hG.1
  obtain ⟨s, hs⟩ : ∃ s, s = spQ G.1 (Wof G r P) r P (lft μ) := ⟨_, rfl⟩
  have x6 : ∀ l, s 6 l = r 6 l := fun l => by rw [hs]; exact spQ_x (by omega)
  have lt : ∀ l, s 7 l < 2 ^ G.1 ∧ s 8 l ≤ r 6 l ∧ s 9 l < 2 ^ G.1 := fun l => by rw [hs]; exact spl_lt (h9 l)
  rw [← hs] at h
  unfold Wp_X4_splitLines
  intro K2 K37 h2 h37
  unfold F_X4_splitLines_e
  -- the cells of the lines ahead of j
  have dk : ∀ x, (fun c => c = 14 ∨ dV p c) x → ¬ envC p x := fun x hx => by unfold dV at hx; unfold envC; omega
  -- taking back
  have k37 : ∀ n, n ≤ r 0 11 → (n = r 0 11 → okL G.1 (Wof G r P) r (lft μ) = true) → (n ≠ r 0 11 → okL G.1 (Wof G r P) r (lft μ) = false) → ∀ μ1, Sm (fun c => c = 14 ∨ dV p c) μ μ1 → (∀ k, k < 9 → μ1 p_BK_linkNeeds k = nI (d k + sm (lL s k) n)) → (∀ l, l < n → cWl p s l μ1) → K37 (nI n) (nI 0) μ1 := by
    intro n hn hok hno μ1 s1 hd1 hw1
    refine dn (P := fun j => ∀ μ1, Sm (fun c => c = 14 ∨ dV p c) μ μ1 → (∀ k, k < 9 → μ1 p_BK_linkNeeds k = nI (d k + st false n (lL s k) j)) → (∀ l, l < n → cWl p s l μ1) → K37 (nI n) (nI j) μ1) (n := n) ?_ ?_ μ1 s1 hd1 hw1
    · intro μ1 s1 hd1 hw1
      refine h37 _ _ _ ?_
      unfold F_X4_splitLines_37
      refine br_t (le_nI (Nat.le_refl _) (by omega)) ?_
      have hE1 := hE.fr s1 dk
      rw [hE1.2.2.2.1, e1 (by omega) (by omega)]
      simp only [st_fn, Nat.add_zero] at hd1
      by_cases hnn : n = r 0 11
      · rw [hok hnn] at h
        refine rb_t hnn (h μ1 s1 hd1 (fun _ l hl => ?_))
        have e11 : s 0 11 = r 0 11 := by rw [hs]; exact spQ_x (by omega)
        rw [e11] at hl
        exact hw1 l (by omega)
      · rw [hno hnn] at h
        exact rb_f hnn (h μ1 s1 hd1 (fun hc => by cases hc))
    · intro j hj hnx μ1 s1 hd1 hw1
      refine h37 _ _ _ ?_
      unfold F_X4_splitLines_37
      refine br_f (not_le_nI hj (by omega)) ?_
      have hE1 := hE.fr s1 dk
      obtain ⟨w7, w8, w9, w10⟩ := hw1 j hj
      have n6 := (hE1.2.2.2.2.2.2 j (by omega)).2.2
      obtain ⟨l7, l8, l9⟩ := lt j
      refine s_enterWays (s := false) (r := s) hp (by omega) hL hE1.1.2.1 (by rw [x6]; exact n6) w7 w8 w9 l7 l9 (by rw [x6]; exact l8) (fun μ2 s2 m2 _ => ?_)
      rw [i1]
      refine hnx μ2 (s1.tr (s2.mono (fun x hx => Or.inl hx))) (fun k hk => ?_) (fun l hl => ?_)
      · rw [m2 k, hd1 k hk]
        exact sg_step _ hj
      · obtain ⟨v7, v8, v9, v10⟩ := hw1 l hl
        unfold cWl
        rw [s2 (p + 7) (by show ¬ (p + 7 = 14); omega), s2 (p + 8) (by show ¬ (p + 8 = 14); omega), s2 (p + 9) (by show ¬ (p + 9 = 14); omega), s2 (p + 10) (by show ¬ (p + 10 = 14); omega)]
        exact ⟨v7, v8, v9, v10⟩
  refine dn (P := fun l => al (fun l => (spR G.1 (Wof G r P) (r 6) (lft μ) l).1) l = true → ∀ μ1, Sm (fun c => c = 14 ∨ dV p c) μ μ1 → (∀ k, k < 9 → μ1 p_BK_linkNeeds k = nI (d k + sm (lL s k) l)) → (∀ j, j < l → cWl p s j μ1) → lft μ1 = spF G.1 (Wof G r P) (r 6) (lft μ) l → K2 (nI l) μ1) (n := r 0 11) ?_ ?_ rfl μ Sm.rf (fun k hk => by rw [hd k hk]; rfl) (fun j hj => by omega) rfl
  · intro hal μ1 s1 hd1 hw1 _
    refine h2 _ _ ?_
    unfold F_X4_splitLines_2
    have hE1 := hE.fr s1 dk
    rw [hE1.2.2.2.1]
    refine br_t (le_nI (Nat.le_refl _) (by omega)) ?_
    exact k37 (r 0 11) (Nat.le_refl _) (fun _ => hal) (fun hc => absurd rfl hc) μ1 s1 hd1 hw1
  · intro l hl hnx hal μ1 s1 hd1 hw1 hlf
    refine h2 _ _ ?_
    unfold F_X4_splitLines_2
    have hE1 := hE.fr s1 dk
    rw [hE1.2.2.2.1]
    refine br_f (not_le_nI hl (by omega)) ?_
    have eR : spl G.1 (lft μ1) (Wof G r P l) (r 6 l) = spR G.1 (Wof G r P) (r 6) (lft μ) l := by rw [hlf]; rfl
    refine s_splitLine hG hp hrr hl hE1 (fun k hk => by rw [s1 (p + 3) (by unfold dV; omega)]; exact hP k hk) hP6 hPd ?_
    rw [eR]
    intro μ2 s2 o2 w2
    have hk2 : ∀ k, μ2 p_BK_linkNeeds k = μ1 p_BK_linkNeeds k := fun k => by rw [s2 p_BK_linkNeeds (by unfold dV; show ¬ (_ ≤ 14 ∧ _); omega)]
    have s12 : Sm (fun c => c = 14 ∨ dV p c) μ μ2 := s1.tr (s2.mono (fun x hx => Or.inr hx))
    have hw2 : ∀ j, j < l → cWl p s j μ2 := fun j hj => by
      obtain ⟨v7, v8, v9, v10⟩ := hw1 j hj
      unfold cWl
      rw [o2 (p + 7) (by unfold dV; omega) j (by omega), o2 (p + 8) (by unfold dV; omega) j (by omega), o2 (p + 9) (by unfold dV; omega) j (by omega), o2 (p + 10) (by unfold dV; omega) j (by omega)]
      exact ⟨v7, v8, v9, v10⟩
    cases hb : (spR G.1 (Wof G r P) (r 6) (lft μ) l).1 with
    | false =>
      refine ⟨fun _ => ?_, fun hc => absurd rfl hc⟩
      refine k37 l (by omega) (fun hc => by omega) (fun _ => ?_) μ2 s12 (fun k hk => by rw [hk2 k]; exact hd1 k hk) hw2
      unfold okL
      cases ha : al (fun l => (spR G.1 (Wof G r P) (r 6) (lft μ) l).1) (r 0 11) with
      | false => rfl
      | true =>
        have := (al_iff _ _).1 ha l hl
        rw [hb] at this; cases this
    | true =>
      refine ⟨fun hc => absurd hc (by decide), fun _ => ?_⟩
      obtain ⟨w7, w8, w9, w10⟩ := w2 hb
      have hE2 := hE.fr s12 dk
      have n6 := (hE2.2.2.2.2.2.2 l hl).2.2
      obtain ⟨l7, l8, l9⟩ := lt l
      have c7 : μ2 (p + 7) l = nI (s 7 l) := by rw [w7, hs]; rfl
      have c8 : μ2 (p + 8) l = nI (s 8 l) := by rw [w8, hs]; rfl
      have c9 : μ2 (p + 9) l = nI (s 9 l) := by rw [w9, hs]; rfl
      have c10 : μ2 (p + 10) l = nI (s 10 l) := by rw [w10, hs]; rfl
      refine s_enterWays (s := true) (r := s) hp (by omega) hL hE2.1.2.1 (by rw [x6]; exact n6) c7 c8 c9 l7 l9 (by rw [x6]; exact l8) (fun μ3 s3 m3 lf3 => ?_)
      rw [i1]
      have k3 : ∀ x, x ≠ 14 → μ3 x = μ2 x := fun x hx => s3 x hx
      refine hnx ?_ μ3 (s12.tr (s3.mono (fun x hx => Or.inl hx))) (fun k hk => ?_) (fun j hj => ?_) ?_
      · show (al _ l && (spR G.1 (Wof G r P) (r 6) (lft μ) l).1) = true
        rw [hal, hb]; rfl
      · rw [m3 k, hk2 k, hd1 k hk, sgI_t, nI_add, Nat.add_assoc]
        rfl
      · unfold cWl
        rw [k3 (p + 7) (by omega), k3 (p + 8) (by omega), k3 (p + 9) (by omega), k3 (p + 10) (by omega)]
        by_cases hjl : j = l
        · subst hjl; exact ⟨c7, c8, c9, c10⟩
        · exact hw2 j (by omega)
      · have hlf2 : lft μ2 = lft μ1 := lft_fr (s2 8 (by unfold dV; omega)) (s2 14 (by unfold dV; omega)) (s2 15 (by unfold dV; omega))
        rw [lf3, hlf2, hlf, sgI_t, sgI_t, x6, hs]
        rfl
