/-! frames of the whole state -/
def cCell (c : Nat) : Prop := c ≤ 1 ∨ (7 ≤ c ∧ c ≤ 15) ∨ 60 ≤ c
def mIC (c : Nat) : Prop := c = 6 ∨ (21 ≤ c ∧ c ≤ 40)
theorem Bk9.fr {nL : Nat} {a c d : Nat → Nat} {b : Nat → Nat → Nat} {μ μ2 : Mm} (h : Bk9 nL a c d b μ) (hf : ∀ x, dK x → μ2 x = μ x) : Bk9 nL a c d b μ2 := by
  obtain ⟨h1, h2⟩ := h
  refine ⟨fun v hv => ?_, fun k hk => ?_⟩
  · rw [hf p_BK_nodeNeeds (by unfold dK; decide), hf p_BK_nodeParts (by unfold dK; decide)]; exact h1 v hv
  · obtain ⟨e1, e2, e3⟩ := h2 k hk
    refine ⟨by rw [hf p_BK_linkNeeds (by unfold dK; decide)]; exact e1, by rw [hf p_BK_reserved (by unfold dK; decide)]; exact e2, fun f hf9 => by rw [hf (p_BH + f) (by show dK (96 + f); unfold dK; omega)]; exact e3 f hf9⟩
theorem cG.fr {S : St} {μ μ2 : Mm} (h : cG S μ) (hf : ∀ c, (c = 1 ∨ (7 ≤ c ∧ c ≤ 11) ∨ (60 ≤ c ∧ c < 96)) → μ2 c = μ c) : cG S μ2 := by
  obtain ⟨g1, g2, g3, g4, g5⟩ := h
  refine ⟨g1.fr2 (hf 1 (by omega)) (hf 9 (by omega)) (hf 10 (by omega)), ?_, fun v hv => ?_, fun k hk => ?_, g5.fr2 (hf 11 (by omega)) (fun c h1 h2 => hf c (by omega))⟩
  · rw [hf p_GR (by decide)]; exact g2
  · rw [hf p_GR_nodeRooms (by decide)]; exact g3 v hv
  · rw [hf p_GR_linkRooms (by decide)]; exact g4 k hk
theorem cInv.fr {S : St} {μ μ2 : Mm} (h : cInv S μ) (hf : ∀ c, cCell c → μ2 c = μ c) : cInv S μ2 := by
  obtain ⟨h1, h2, h3, h4, h5, h6⟩ := h
  have h2 : Bk9 (nLk S) (atS S) (cnS S) (ndS S) (bhS S) μ := h2
  have k : ∀ i j, i < 13 → j < 11 → μ2 (p_RQ + 11 * i + j) = μ (p_RQ + 11 * i + j) := fun i j hi hj => hf _ (by show cCell (105 + 11 * i + j); unfold cCell; omega)
  refine ⟨h1.fr (fun c hc => hf c (by unfold cCell; omega)), h2.fr (fun c hc => hf c (by unfold dK at hc; unfold cCell; omega)), ?_, ?_, fun i hi => ?_, fun i hi => ?_⟩
  · rw [hf p_ML (by unfold cCell; decide)]; exact h3
  · rw [hf p_ML (by unfold cCell; decide)]; exact h4
  · exact (h5 i hi).fr2 (k i 0 hi (by omega)) (k i 1 hi (by omega)) (k i 2 hi (by omega)) (k i 4 hi (by omega)) (k i 5 hi (by omega)) (k i 6 hi (by omega))
  · obtain ⟨a1, a2, a3, a4⟩ := h6 i hi
    have kk : ∀ j, j < 11 → μ2 (p_RQ + 11 * i + j) = μ (p_RQ + 11 * i + j) := by
      intro j hj
      exact hf _ (by show cCell (105 + 11 * i + j); unfold cCell; omega)
    unfold cA cW at *
    rw [kk 3 (by omega), kk 7 (by omega), kk 8 (by omega), kk 9 (by omega), kk 10 (by omega), show μ2 (p_RQ + 11 * i) = μ (p_RQ + 11 * i) from kk 0 (by omega)]
    exact ⟨a1, a2, a3, a4⟩
/-! what a good state gives -/
theorem Good.d {S : St} (h : Good S) {i : Nat} (hi : i < 13) : GoodD (S.2.2 i) := h.2.2.2.2.2.2.2.1 i hi
theorem Good.p {S : St} (h : Good S) {i : Nat} (hi : i < nRq S) : GoodP (nNd S) (nLk S) (S.2.2 i) ∧ S.2.2 i 0 12 ≤ 2 := h.2.2.2.2.2.2.2.2.1 i hi
theorem Good.L {S : St} (h : Good S) : nLk S ≤ 9 := h.2.2.1.1
theorem Good.n {S : St} (h : Good S) : nRq S < 13 := Nat.lt_succ_of_le h.2.1
theorem Good.i {S : St} (h : Good S) {i : Nat} (hi : i < nRq S) : i < 13 := Nat.lt_trans hi h.n
theorem Good.ok {S : St} (h : Good S) {i : Nat} (hi : i < nRq S) : RqOk (nNd S) (nLk S) (S.2.2 i) := by
  obtain ⟨⟨-, h1, -, h3⟩, -⟩ := h.p hi
  refine ⟨h1, fun l hl => ?_⟩
  obtain ⟨a1, a2, a3, a4, -⟩ := h3 l hl
  exact ⟨a1, a2, a3, a4⟩
theorem LnB.of {nN nL : Nat} {r : Rq} (hL : nL ≤ 9) (hd : GoodD r) (hp : GoodP nN nL r) (h12 : r 0 12 ≤ 2) : LnB r := by
  refine ⟨hd.2.1, h12, hp.1, fun l hl => ?_⟩
  obtain ⟨a1, a2, a3, a4, -⟩ := hp.2.2.2 l hl
  obtain ⟨c1, c2, -⟩ := hd.2.2.2.1 l hl
  have := hd.1
  exact ⟨lt512 hL a1, lt512 hL a2, lt512 hL a3, a4, by omega, by omega⟩
theorem Good.b {S : St} (h : Good S) {i : Nat} (hi : i < nRq S) : LnB (S.2.2 i) := LnB.of h.2.2.1.1 (h.d (h.i hi)) (h.p hi).1 (h.p hi).2
theorem qB_diag {nN nL : Nat} {r : Rq} (hp : GoodP nN nL r) {k : Nat} (hk : k < 9) : qB r k k = 0 := by
  unfold qB
  split
  · refine sm_zero fun l hl => ?_
    obtain ⟨-, -, -, -, -, hd, -⟩ := hp.2.2.2 l hl
    unfold lB
    cases hb : (r 7 l).testBit k with
    | true => rw [tb_bit (r 10 l), hd k hk hb]; simp
    | false => rw [tb_bit (r 7 l), hb]; simp
  · rfl
theorem Good.hz {S : St} (h : Good S) : ∀ k, k < 9 → bhS S k k = 0 := fun k hk => sm_zero fun i hi => qB_diag (h.p hi).1 hk
theorem lL_le {r : Rq} {k l : Nat} (h : r 6 l ≤ 20) (h8 : r 8 l ≤ r 6 l) : lL r k l ≤ 20 := by
  unfold lL
  have h1 := tb_le (r 7 l) k
  have h2 := tb_le (r 9 l) k
  generalize tb (r 7 l) k = a at *
  generalize tb (r 9 l) k = b at *
  have ha : a = 0 ∨ a = 1 := by omega
  have hb : b = 0 ∨ b = 1 := by omega
  rcases ha with rfl | rfl <;> rcases hb with rfl | rfl <;> simp <;> omega
theorem Good.nd {S : St} (h : Good S) (k : Nat) : ndS S k ≤ 720 := by
  have h1 : ndS S k ≤ sm (fun _ => 60) (nRq S) := sm_le fun i hi => by
    have hb := h.b hi
    have hd := h.d (h.i hi)
    show qL (S.2.2 i) k ≤ 60
    unfold qL
    split
    · have h2 : sm (lL (S.2.2 i) k) (S.2.2 i 0 11) ≤ sm (fun _ => 20) (S.2.2 i 0 11) := sm_le fun l hl => lL_le (hd.2.2.2.1 l hl).2.2.2.2 (hb.2.2.2 l hl).2.2.2.1
      rw [sm_const] at h2
      have := hb.1
      omega
    · omega
  rw [sm_const] at h1
  have := h.2.1
  omega
theorem Good.bh {S : St} (h : Good S) (f k : Nat) : bhS S f k ≤ 780 := by
  refine sB_le (by have := h.2.1; omega) fun i hi => ?_
  have hd := h.d (h.i hi)
  exact ⟨hd.2.1, fun l hl => (hd.2.2.2.1 l hl).2.2.2.2⟩
theorem Good.rs {S : St} (h : Good S) (k : Nat) : rsS S k ≤ 780 := mx_le fun f _ => h.bh f k
theorem lf_toInt {a b c : Nat} (ha : a ≤ 5000) (hb : b ≤ 5000) (hc : c ≤ 5000) : (nI a - nI b - nI c).toInt = (a : Int) - b - c := by
  rw [Int32.toInt_sub, Int32.toInt_sub, nI_toInt (by omega), nI_toInt (by omega), nI_toInt (by omega), Int.bmod_eq_of_le (n := (a : Int) - b) (by omega) (by omega), Int.bmod_eq_of_le (by omega) (by omega)]
theorem Good.lf {S : St} (h : Good S) {k : Nat} (hk : k < nLk S) : (lfL S k).toInt = (S.2.1 2 k : Int) - ndS S k - rsS S k := by
  have h1 := h.2.2.2.2.2.2.1 k hk
  have h2 := h.nd k
  have h3 := h.rs k
  exact lf_toInt (by omega) (by omega) (by omega)
theorem Good.lf_le {S : St} (h : Good S) : ∀ k, k < nLk S → (lfL S k).toInt ≤ 99 := fun k hk => by
  rw [h.lf hk]
  have h1 := h.2.2.2.2.2.2.1 k hk
  omega
theorem Good.lf_ge {S : St} (h : Good S) : ∀ k, k < nLk S → (-4900 : Int) ≤ (lfL S k).toInt := fun k hk => by
  rw [h.lf hk]
  have h2 := h.nd k
  have h3 := h.rs k
  omega
theorem cInv.lfk {S : St} {μ : Mm} (hI : cInv S μ) (hG : Good S) : ∀ k, k < nLk S → lft μ k = lfL S k := fun k hk => by
  obtain ⟨⟨-, -, -, g4, -⟩, ⟨-, b2⟩, -⟩ := hI
  obtain ⟨e1, e2, -⟩ := b2 k (by have := hG.L; omega)
  unfold lft lfL
  rw [g4 k hk, e1, e2]
theorem cInv.lfn {S : St} {μ : Mm} (hI : cInv S μ) (hG : Good S) : ∀ v, v < nNd S → μ p_GR_nodeRooms v - μ p_BK_nodeNeeds v = lfN S v := fun v hv => by
  obtain ⟨⟨-, -, g3, -, -⟩, ⟨b1, -⟩, -⟩ := hI
  obtain ⟨e1, -⟩ := b1 v (by have := hG.1; omega)
  unfold lfN
  rw [g3 v hv, e1]
theorem cInv.env {S : St} {μ : Mm} (hI : cInv S μ) {i : Nat} (hi : i < 13) : Env S.1 (p_RQ + 11 * i) (S.2.2 i) μ := ⟨hI.1.1, hI.1.2.2.2.2, hI.2.2.2.2.1 i hi⟩
theorem cInv.rq {S : St} {μ : Mm} (hI : cInv S μ) (hG : Good S) {i : Nat} (hi : i < nRq S) : cRq (p_RQ + 11 * i) (S.2.2 i) μ := ⟨hI.2.2.2.2.1 i (hG.i hi), (hI.2.2.2.2.2 i hi).1, (hI.2.2.2.2.2 i hi).2.1⟩
/-- the draft -/
abbrev dft (S : St) : Rq := S.2.2 (nRq S)
def LSt (S : St) : List Mp := allM S.1 (nNd S) (lfN S) (lfL S) (dft S)
def best (S : St) : Bs := (LSt S).foldl kp none
theorem c_run {S : St} {M : Nat} {μ : Mm} {q : Int32 → Mm → Prop} (hG : Good S) (hI : cInv S μ) (hr1 : 1 ≤ dft S 0 10) (hM : M ≤ 2)
    (h : ∀ μ2 B, HB (dft S 0 10) (dft S 0 11) B μ2 → RB M none (LSt S) B → Sm (dR (p_RQ + 11 * nRq S)) μ μ2 → q (vB B) μ2) : Wp_X6_run (p_RQ + 11 * nRq S) (nI M) μ q :=
  s_run (F0 := lfL S) (L := lfN S) (nN := nNd S) hG.2.2.1 (by show 105 ≤ 105 + _; omega) (hG.d hG.n) hr1 hM hG.1 hI.1.2.1 (hI.env hG.n) (hI.lfn hG) (hI.lfk hG) (fun k hk => by have := hG.lf_le k hk; omega) (hG.lf_ge) h
theorem RB.b0 {L : List Mp} {B : Bs} {M : Nat} (h : RB M none L B) (hM : M ≠ 2) : B = L.foldl kp none := h.1 hM
theorem RB.b2 {L : List Mp} {B : Bs} {M : Nat} (h : RB M none L B) : B.isSome = !L.isEmpty := by rw [h.2]; rfl
theorem vB_none {B : Bs} (hB : ∀ y, B = some y → y.1 < 10000) : (vB B = -1) = (B.isSome = false) := by
  cases B with
  | none => exact propext ⟨fun _ => rfl, fun _ => rfl⟩
  | some y =>
    refine propext ⟨fun h => absurd h (nm1 (by have := hB y rfl; omega)), fun h => by cases h⟩
theorem HB.lt {np nl : Nat} {B : Bs} {μ : Mm} (h : HB np nl B μ) : ∀ y, B = some y → y.1 < 10000 := fun y hy => by
  subst hy
  exact h.2.1
/-! requests in the memory -/
def cReqs (n : Nat) (R : Nat → Rq) (μ : Mm) : Prop := (∀ i, i < 13 → cQ (p_RQ + 11 * i) (R i) μ) ∧ ∀ i, i < n → cA (p_RQ + 11 * i) (R i) μ ∧ cW (p_RQ + 11 * i) (R i) μ ∧ μ (p_RQ + 11 * i) 12 = nI (R i 0 12) ∧ μ (p_RQ + 11 * i) 13 = nI (R i 0 13)
theorem cQ.fr3 {p : Nat} {r : Rq} {μ μ2 : Mm} (h : cQ p r μ) (hf : ∀ c, p ≤ c → c < p + 11 → μ2 c = μ c) : cQ p r μ2 :=
  h.fr2 (hf _ (by omega) (by omega)) (hf _ (by omega) (by omega)) (hf _ (by omega) (by omega)) (hf _ (by omega) (by omega)) (hf _ (by omega) (by omega)) (hf _ (by omega) (by omega))
theorem cP.fr3 {p : Nat} {r : Rq} {μ μ2 : Mm} (h : cA p r μ ∧ cW p r μ ∧ μ p 12 = nI (r 0 12) ∧ μ p 13 = nI (r 0 13)) (hf : ∀ c, p ≤ c → c < p + 11 → μ2 c = μ c) : cA p r μ2 ∧ cW p r μ2 ∧ μ2 p 12 = nI (r 0 12) ∧ μ2 p 13 = nI (r 0 13) := by
  unfold cA cW at *
  rw [hf p (by omega) (by omega), hf (p + 3) (by omega) (by omega), hf (p + 7) (by omega) (by omega), hf (p + 8) (by omega) (by omega), hf (p + 9) (by omega) (by omega), hf (p + 10) (by omega) (by omega)]
  exact h
theorem cReqs.upd {n : Nat} {R : Nat → Rq} {i : Nat} {r : Rq} {μ μ2 : Mm} (h : cReqs n R μ) (hn : n < 13) (hf : ∀ c, 105 ≤ c → c < 248 → (c < 105 + 11 * i ∨ 105 + 11 * i + 11 ≤ c) → μ2 c = μ c) (hq : cQ (p_RQ + 11 * i) r μ2) (hp : i < n → cA (p_RQ + 11 * i) r μ2 ∧ cW (p_RQ + 11 * i) r μ2 ∧ μ2 (p_RQ + 11 * i) 12 = nI (r 0 12) ∧ μ2 (p_RQ + 11 * i) 13 = nI (r 0 13)) : cReqs n (fun j => if j = i then r else R j) μ2 := by
  have k : ∀ j, j < 13 → j ≠ i → ∀ c, p_RQ + 11 * j ≤ c → c < p_RQ + 11 * j + 11 → μ2 c = μ c := by
    intro j hj hji c h1 h2
    have h1 : 105 + 11 * j ≤ c := h1
    have h2 : c < 105 + 11 * j + 11 := h2
    exact hf c (by omega) (by omega) (by omega)
  refine ⟨fun j hj => ?_, fun j hj => ?_⟩
  · by_cases hji : j = i
    · subst hji
      simp only [if_true]; exact hq
    · simp only [if_neg hji]; exact (h.1 j hj).fr3 (k j hj hji)
  · by_cases hji : j = i
    · subst hji
      simp only [if_true]; exact hp hj
    · simp only [if_neg hji]; exact cP.fr3 (h.2 j hj) (k j (by omega) hji)
theorem cReqs.fr {n : Nat} {R : Nat → Rq} {μ μ2 : Mm} (h : cReqs n R μ) (hn : n < 13) (hf : ∀ c, 105 ≤ c → c < 248 → μ2 c = μ c) : cReqs n R μ2 := by
  have k : ∀ j, j < 13 → ∀ c, p_RQ + 11 * j ≤ c → c < p_RQ + 11 * j + 11 → μ2 c = μ c := by
    intro j hj c h1 h2
    have h1 : 105 + 11 * j ≤ c := h1
    have h2 : c < 105 + 11 * j + 11 := h2
    exact hf c (by omega) (by omega)
  exact ⟨fun j hj => (h.1 j hj).fr3 (k j hj), fun j hj => cP.fr3 (h.2 j hj) (k j (by omega))⟩
/-- what speaks of other requests than i is as it was -/
def Oth (i : Nat) (μ μ2 : Mm) : Prop := ∀ c j, 26 ≤ c → c ≤ 40 → ((c ≤ 27 ∨ 38 ≤ c) → j ≠ i) → (28 ≤ c → c < 38 → j / 3 ≠ i) → μ2 c j = μ c j
theorem Oth.rf {i : Nat} {μ : Mm} : Oth i μ μ := fun _ _ _ _ _ _ => rfl
theorem Oth.tr {i : Nat} {a b c : Mm} (h1 : Oth i a b) (h2 : Oth i b c) : Oth i a c := fun x j p1 p2 p3 p4 => (h2 x j p1 p2 p3 p4).trans (h1 x j p1 p2 p3 p4)
theorem Oth.sm {i : Nat} {D : Nat → Prop} {a b : Mm} (h : Sm D a b) (hd : ∀ c, D c → c < 26 ∨ 40 < c) : Oth i a b := fun x j p1 p2 _ _ => by
  rw [h x (fun hx => by have := hd x hx; omega)]
theorem Oth.up {i c k : Nat} {v : Int32} {μ : Mm} (h1 : (c ≤ 27 ∨ 38 ≤ c) → k = i) (h2 : 28 ≤ c → c < 38 → k / 3 = i) : Oth i μ (up2 μ c k v) := fun x j p1 p2 p3 p4 => by
  by_cases hx : x = c
  · subst hx
    rw [u_eq, d_ne]
    intro hj
    subst hj
    by_cases hc : x ≤ 27 ∨ 38 ≤ x
    · exact p3 hc (h1 hc)
    · exact p4 (by omega) (by omega) (h2 (by omega) (by omega))
  · rw [u_ne hx]
def updR (S : St) (i : Nat) (r : Rq) : St := (S.1, S.2.1, fun j => if j = i then r else S.2.2 j)
theorem updR_i {S : St} {i : Nat} {r : Rq} : (updR S i r).2.2 i = r := if_pos rfl
theorem updR_ne {S : St} {i j : Nat} {r : Rq} (h : j ≠ i) : (updR S i r).2.2 j = S.2.2 j := if_neg h
/-- changing the draft alone changes no sum -/
theorem cB.dft {S : St} {r : Rq} {μ : Mm} (h : cB S μ) : cB (updR S (nRq S) r) μ := by
  have h : Bk9 (nLk S) (atS S) (cnS S) (ndS S) (bhS S) μ := h
  show Bk9 (nLk S) (atS (updR S (nRq S) r)) (cnS (updR S (nRq S) r)) (ndS (updR S (nRq S) r)) (bhS (updR S (nRq S) r)) μ
  have e1 : atS (updR S (nRq S) r) = atS S := by funext v; exact sm_congr fun i hi => by rw [updR_ne (show i ≠ nRq S from Nat.ne_of_lt hi)]
  have e2 : cnS (updR S (nRq S) r) = cnS S := by funext v; exact sm_congr fun i hi => by rw [updR_ne (show i ≠ nRq S from Nat.ne_of_lt hi)]
  have e3 : ndS (updR S (nRq S) r) = ndS S := by funext v; exact sm_congr fun i hi => by rw [updR_ne (show i ≠ nRq S from Nat.ne_of_lt hi)]
  have e4 : bhS (updR S (nRq S) r) = bhS S := by funext f v; exact sm_congr fun i hi => by rw [updR_ne (show i ≠ nRq S from Nat.ne_of_lt hi)]
  rw [e1, e2, e3, e4]
  exact h
theorem Good.dft {S : St} {r : Rq} (h : Good S) (hr : GoodD r) (h14 : r 0 14 = 0) : Good (updR S (nRq S) r) := by
  obtain ⟨g1, g2, g3, g4, g5, g6, g7, g8, g9, g10, g11⟩ := h
  refine ⟨g1, g2, g3, g4, g5, g6, g7, fun i hi => ?_, fun i hi => ?_, fun i hi hn => ?_, fun i hi hn => ?_⟩
  · by_cases hin : i = nRq S
    · subst hin; rw [updR_i]; exact hr
    · rw [updR_ne hin]; exact g8 i hi
  · have hi : i < nRq S := hi
    rw [updR_ne (Nat.ne_of_lt hi)]; exact g9 i hi
  · by_cases hin : i = nRq S
    · subst hin; rw [updR_i]; exact h14
    · rw [updR_ne hin]; exact g10 i hi hn
  · have hn : nRq S < i := hn
    rw [updR_ne (Nat.ne_of_gt hn)]; exact g11 i hi hn
theorem cInv.dft {S : St} {r : Rq} {μ μ2 : Mm} (h : cInv S μ) (hG : Good S) (hf : ∀ c, cCell c → (c < 105 + 11 * nRq S ∨ 105 + 11 * nRq S + 11 ≤ c) → μ2 c = μ c) (hq : cQ (p_RQ + 11 * nRq S) r μ2) : cInv (updR S (nRq S) r) μ2 := by
  obtain ⟨h1, h2, h3, h4, h5⟩ := h
  have h5 : cReqs (nRq S) S.2.2 μ := h5
  have h2 : Bk9 (nLk S) (atS S) (cnS S) (ndS S) (bhS S) μ := h2
  refine ⟨?_, ?_, ?_, ?_, cReqs.upd h5 hG.n (fun c a1 a2 a3 => hf c (by unfold cCell; omega) a3) hq (fun hx => absurd hx (Nat.lt_irrefl _))⟩
  · exact h1.fr (fun c hc => hf c (by unfold cCell; omega) (by omega))
  · exact cB.dft (h2.fr (fun c hc => hf c (by unfold dK at hc; unfold cCell; omega) (by unfold dK at hc; omega)))
  · rw [hf p_ML (by unfold cCell; decide) (Or.inl (by show 0 < _; omega))]; exact h3
  · rw [hf p_ML (by unfold cCell; decide) (Or.inl (by show 0 < _; omega))]; exact h4
