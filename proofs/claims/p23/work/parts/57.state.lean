/-! what simp uses on the formulas -/
theorem vpT {k n : Nat} (h : k < n) (hn : n < 2147483648) : vp_in (nI k) n = True := eq_true (vp_in_nI h (by omega))
theorem vpT0 {n : Nat} (h : 0 < n) (hn : n < 2147483648) : vp_in (0 : Int32) n = True := vpT (k := 0) h hn
theorem vpT1 {n : Nat} (h : 1 < n) (hn : n < 2147483648) : vp_in (1 : Int32) n = True := vpT (k := 1) h hn
theorem vpT2 {n : Nat} (h : 2 < n) (hn : n < 2147483648) : vp_in (2 : Int32) n = True := vpT (k := 2) h hn
theorem clT {k : Nat} (h : k < 2147483648) : (nI k).toNatClampNeg = k := nI_clamp (by omega)
theorem clT0 : (0 : Int32).toNatClampNeg = 0 := rfl
theorem clT1 : (1 : Int32).toNatClampNeg = 1 := rfl
theorem clT2 : (2 : Int32).toNatClampNeg = 2 := rfl
theorem leT {k n : Nat} (h : n ≤ k) (hk : k < 2147483648) : (nI n ≤ nI k) = True := eq_true (le_nI h (by omega))
theorem leF {k n : Nat} (h : k < n) (hk : n < 2147483648) : (nI n ≤ nI k) = False := eq_false (not_le_nI h (by omega))
theorem leT0 {k : Nat} (hk : k < 2147483648) : (0 ≤ nI k) = True := leT (Nat.zero_le k) hk
theorem ltT {k n : Nat} (h : n < k) (hk : k < 2147483648) : (nI n < nI k) = True := by
  apply eq_true
  rw [Int32.lt_iff_toInt_lt]
  have h1 := nI_toInt (n := n) (by omega)
  have h2 := nI_toInt (n := k) (by omega)
  omega
theorem ltF {k n : Nat} (h : k ≤ n) (hk : n < 2147483648) : (nI n < nI k) = False := by
  apply eq_false
  rw [Int32.lt_iff_toInt_lt]
  have h1 := nI_toInt (n := n) (by omega)
  have h2 := nI_toInt (n := k) (by omega)
  omega
theorem rb_t {c A B : Prop} (hc : c) (h : B) : (¬ c → A) ∧ (c → B) := ⟨fun hn => absurd hc hn, fun _ => h⟩
theorem rb_f {c A B : Prop} (hc : ¬ c) (h : A) : (¬ c → A) ∧ (c → B) := ⟨fun _ => h, fun hn => absurd hn hc⟩
theorem bq {b : Bool} {A B : Prop} (h0 : b = false → A) (h1 : b = true → B) : (bI b = 0 → A) ∧ (¬ bI b = 0 → B) := by cases b <;> simp_all [bI]
theorem bqr {b : Bool} {A B : Prop} (h0 : b = false → A) (h1 : b = true → B) : (¬ bI b = 0 → B) ∧ (bI b = 0 → A) := ⟨(bq h0 h1).2, (bq h0 h1).1⟩
theorem nI_pk3 (n : Nat) : (3 : Int32) * nI n = nI (3 * n) := by rw [show (3 : Int32) = nI 3 from rfl, pk_mul]
theorem nI_pk64 (n : Nat) : (64 : Int32) * nI n = nI (64 * n) := by rw [show (64 : Int32) = nI 64 from rfl, pk_mul]
theorem nI_pk6 (n : Nat) : nI n * (6 : Int32) = nI (n * 6) := by rw [show (6 : Int32) = nI 6 from rfl, pk_mul]
theorem d3_all : ∀ k, k < 39 → nI k / (3 : Int32) = nI (k / 3) ∧ nI k - nI (k / 3) * (3 : Int32) = nI (k % 3) := by decide +kernel
theorem d3 {k : Nat} (h : k < 39) : nI k / (3 : Int32) = nI (k / 3) := (d3_all k h).1
theorem r3 {k : Nat} (h : k < 39) : nI k - nI (k / 3) * (3 : Int32) = nI (k % 3) := (d3_all k h).2
theorem nI_sub {a b : Nat} (h : b ≤ a) : nI a - nI b = nI (a - b) := by
  obtain ⟨c, rfl⟩ := Nat.exists_eq_add_of_le h
  rw [← nI_add, Nat.add_sub_cancel_left, Int32.add_comm, Int32.add_sub_cancel]
theorem z_add (x : Int32) : x + (0 : Int32) = x := Int32.add_zero x
theorem e1 {a b : Nat} (ha : a < 2147483648) (hb : b < 2147483648) : (nI a = nI b) = (a = b) := propext (nI_eq (by omega) (by omega))
theorem e0 {a : Nat} (ha : a < 2147483648) : (nI a = 0) = (a = 0) := propext (nI_eq0 (by omega))
theorem nm1 {n : Nat} (h : n < 2147483648) : ¬ nI n = (-1 : Int32) := by
  intro hc
  have h9 := nI_pos' (n := n) (by omega)
  rw [hc] at h9
  exact absurd h9 (by decide)
/-! sums -/
def sm (f : Nat → Nat) : Nat → Nat
  | 0 => 0
  | n + 1 => sm f n + f n
theorem sm_congr {f g : Nat → Nat} : ∀ {n : Nat}, (∀ k, k < n → f k = g k) → sm f n = sm g n
  | 0, _ => rfl
  | n + 1, h => by
    show sm f n + f n = sm g n + g n
    rw [sm_congr (fun k hk => h k (by omega)), h n (by omega)]
theorem sm_zero {f : Nat → Nat} : ∀ {n : Nat}, (∀ k, k < n → f k = 0) → sm f n = 0
  | 0, _ => rfl
  | n + 1, h => by
    show sm f n + f n = 0
    rw [sm_zero (fun k hk => h k (by omega)), h n (by omega)]
theorem sm_le {f g : Nat → Nat} : ∀ {n : Nat}, (∀ k, k < n → f k ≤ g k) → sm f n ≤ sm g n
  | 0, _ => Nat.le_refl _
  | n + 1, h => Nat.add_le_add (sm_le (fun k hk => h k (by omega))) (h n (by omega))
theorem sm_const (c : Nat) : ∀ n, sm (fun _ => c) n = n * c
  | 0 => (Nat.zero_mul c).symm
  | n + 1 => by show sm (fun _ => c) n + c = _; rw [sm_const c n, Nat.succ_mul]
theorem sm_3 (f : Nat → Nat) : ∀ n, sm f (3 * n) = sm (fun i => sm (fun j => f (3 * i + j)) 3) n
  | 0 => rfl
  | n + 1 => by
    have : 3 * (n + 1) = 3 * n + 1 + 1 + 1 := by omega
    rw [this]
    show sm f (3 * n) + f (3 * n) + f (3 * n + 1) + f (3 * n + 2) = sm _ n + (0 + f (3 * n + 0) + f (3 * n + 1) + f (3 * n + 2))
    rw [sm_3 f n]
    simp only [Nat.add_zero, Nat.zero_add]
    omega
theorem sm_guard (f : Nat → Nat) {m n : Nat} (h : m ≤ n) : sm (fun j => if j < m then f j else 0) n = sm f m := by
  induction n with
  | zero => rw [show m = 0 by omega]; rfl
  | succ n ih =>
    show sm _ n + (if n < m then f n else 0) = _
    by_cases hm : n < m
    · have : m = n + 1 := by omega
      subst this
      rw [if_pos hm]
      show sm _ n + f n = sm f n + f n
      rw [sm_congr (g := f) (fun k hk => if_pos (by omega))]
    · rw [if_neg hm, Nat.add_zero]; exact ih (by omega)
/-- one term changed -/
theorem sm_upd (f g : Nat → Nat) (i : Nat) (h : ∀ k, k ≠ i → f k = g k) : ∀ n, i < n → sm f n + g i = sm g n + f i
  | 0, hi => by omega
  | n + 1, hi => by
    show sm f n + f n + g i = sm g n + g n + f i
    by_cases hn : n = i
    · subst hn
      rw [sm_congr (fun k hk => h k (by omega))]
      omega
    · have := sm_upd f g i h n (by omega)
      rw [h n hn]
      omega
/-- the greatest -/
def mx (f : Nat → Nat) : Nat → Nat
  | 0 => 0
  | n + 1 => max (mx f n) (f n)
theorem mx_congr {f g : Nat → Nat} : ∀ {n : Nat}, (∀ k, k < n → f k = g k) → mx f n = mx g n
  | 0, _ => rfl
  | n + 1, h => by
    show max (mx f n) (f n) = max (mx g n) (g n)
    rw [mx_congr (fun k hk => h k (by omega)), h n (by omega)]
theorem mx_le {f : Nat → Nat} {c : Nat} : ∀ {n : Nat}, (∀ k, k < n → f k ≤ c) → mx f n ≤ c
  | 0, _ => Nat.zero_le _
  | n + 1, h => Nat.max_le.2 ⟨mx_le (fun k hk => h k (by omega)), h n (by omega)⟩
theorem le_mx {f : Nat → Nat} : ∀ {n k : Nat}, k < n → f k ≤ mx f n
  | n + 1, k, h => by
    show f k ≤ max (mx f n) (f n)
    by_cases hk : k = n
    · subst hk; exact Nat.le_max_right _ _
    · exact Nat.le_trans (le_mx (by omega)) (Nat.le_max_left _ _)
theorem imax_nI {a b : Nat} (ha : a < 2147483648) (hb : b < 2147483648) : imax (nI a) (nI b) = nI (max a b) := by
  unfold imax
  by_cases h : a < b
  · rw [if_pos (of_eq_true (ltT h hb)), Nat.max_eq_right (by omega)]
  · rw [if_neg (fun hc => by have := ltF (n := a) (k := b) (by omega) ha; rw [this] at hc; exact hc), Nat.max_eq_left (by omega)]
/-! requests and states -/
abbrev Rq : Type := Nat → Nat → Nat
abbrev St : Type := GD × (Nat → Nat → Nat) × (Nat → Rq)
abbrev nLk (S : St) : Nat := S.1.1
abbrev nNd (S : St) : Nat := S.2.1 0 0
abbrev nRq (S : St) : Nat := S.2.1 0 1
abbrev tkS (S : St) : Nat := S.2.1 0 2
/-- of a request: the needs of parts at a node, how many are there; the needs of lines on a link; what goes over to a link when another one fails -/
def qN (r : Rq) (v : Nat) : Nat := if r 0 14 = 0 then sm (fun k => if r 3 k = v then r 1 k else 0) (r 0 10) else 0
def qP (r : Rq) (v : Nat) : Nat := if r 0 14 = 0 then sm (fun k => if r 3 k = v then 1 else 0) (r 0 10) else 0
def lL (r : Rq) (k l : Nat) : Nat := tb (r 7 l) k * r 8 l + tb (r 9 l) k * (r 6 l - r 8 l)
def qL (r : Rq) (k : Nat) : Nat := if r 0 14 = 0 then sm (lL r k) (r 0 11) else 0
def lB (r : Rq) (f k l : Nat) : Nat := tb (r 10 l) k * (tb (r 7 l) f * r 6 l)
def qB (r : Rq) (f k : Nat) : Nat := if r 0 14 = 0 then sm (lB r f k) (r 0 11) else 0
def atS (S : St) (v : Nat) : Nat := sm (fun i => qN (S.2.2 i) v) (nRq S)
def cnS (S : St) (v : Nat) : Nat := sm (fun i => qP (S.2.2 i) v) (nRq S)
def ndS (S : St) (k : Nat) : Nat := sm (fun i => qL (S.2.2 i) k) (nRq S)
def bhS (S : St) (f k : Nat) : Nat := sm (fun i => qB (S.2.2 i) f k) (nRq S)
def rsS (S : St) (k : Nat) : Nat := mx (fun f => bhS S f k) (nLk S)
/-- what is left -/
def lfN (S : St) (v : Nat) : Int32 := nI (S.2.1 1 v) - nI (atS S v)
def lfL (S : St) (k : Nat) : Int32 := nI (S.2.1 2 k) - nI (ndS S k) - nI (rsS S k)
/-- a request as it is drafted -/
def GoodD (r : Rq) : Prop := r 0 10 ≤ 3 ∧ r 0 11 ≤ 3 ∧ (∀ k, k < r 0 10 → 1 ≤ r 1 k ∧ r 1 k ≤ 20 ∧ r 2 k < 64) ∧ (∀ l, l < r 0 11 → r 4 l < r 0 10 ∧ r 5 l < r 0 10 ∧ r 4 l ≠ r 5 l ∧ 1 ≤ r 6 l ∧ r 6 l ≤ 20) ∧ (∀ j l, j < r 0 11 → l < r 0 11 → j ≠ l → ¬ ((r 4 j = r 4 l ∧ r 5 j = r 5 l) ∨ (r 4 j = r 5 l ∧ r 5 j = r 4 l)))
/-- a request that was placed -/
def GoodP (nN nL : Nat) (r : Rq) : Prop := r 0 14 ≤ 1 ∧ (∀ k, k < r 0 10 → r 3 k < nN) ∧ (∀ j k, j < r 0 10 → k < r 0 10 → j ≠ k → r 3 j ≠ r 3 k) ∧ ∀ l, l < r 0 11 → r 7 l < 2 ^ nL ∧ r 9 l < 2 ^ nL ∧ r 10 l < 2 ^ nL ∧ r 8 l ≤ r 6 l ∧ (r 9 l = 0 → r 8 l = r 6 l) ∧ (∀ k, k < 9 → (r 7 l).testBit k = true → (r 10 l).testBit k = false) ∧ (r 0 12 ≠ 2 → r 10 l = 0)
def Good (S : St) : Prop := nNd S ≤ 6 ∧ nRq S ≤ 12 ∧ NetOk S.1 ∧ (∀ k, k < nLk S → S.1.2.1 k < nNd S ∧ S.1.2.2.1 k < nNd S) ∧ S.1.2.2.2 < 512 ∧ (∀ v, v < nNd S → S.2.1 1 v ≤ 99) ∧ (∀ k, k < nLk S → S.2.1 2 k ≤ 99) ∧ (∀ i, i < 13 → GoodD (S.2.2 i)) ∧ (∀ i, i < nRq S → GoodP (nNd S) (nLk S) (S.2.2 i) ∧ S.2.2 i 0 12 ≤ 2) ∧ (∀ i, i < 13 → nRq S ≤ i → S.2.2 i 0 14 = 0) ∧ ∀ i, i < 13 → nRq S < i → S.2.2 i 0 10 = 0 ∧ S.2.2 i 0 11 = 0
/-! the class's memory -/
/-- the draft's side of a request object -/
def cQ (p : Nat) (r : Rq) (μ : Mm) : Prop := μ p 10 = nI (r 0 10) ∧ μ p 11 = nI (r 0 11) ∧ μ p 14 = nI (r 0 14) ∧ (∀ k, k < r 0 10 → μ (p + 1) k = nI (r 1 k) ∧ μ (p + 2) k = nI (r 2 k)) ∧ ∀ l, l < r 0 11 → μ (p + 4) l = nI (r 4 l) ∧ μ (p + 5) l = nI (r 5 l) ∧ μ (p + 6) l = nI (r 6 l)
/-- where its parts are -/
def cA (p : Nat) (r : Rq) (μ : Mm) : Prop := ∀ k, k < r 0 10 → μ (p + 3) k = nI (r 3 k)
/-- its ways -/
def cW (p : Nat) (r : Rq) (μ : Mm) : Prop := ∀ l, l < r 0 11 → μ (p + 7) l = nI (r 7 l) ∧ μ (p + 8) l = nI (r 8 l) ∧ μ (p + 9) l = nI (r 9 l) ∧ μ (p + 10) l = nI (r 10 l)
def WR (G : GD) (μ : Mm) : Prop := ∀ a b, a < 6 → b < 6 → a ≠ b → μ p_GR_wayCounts (a * 6 + b) = nI (wl G a b).length ∧ ∀ (j : Nat) (h : j < (wl G a b).length), μ (p_WY + (a * 6 + b)) j = nI ((wl G a b)[j])
def cG (S : St) (μ : Mm) : Prop := HG S.1 μ ∧ μ p_GR 6 = nI (nNd S) ∧ (∀ v, v < nNd S → μ p_GR_nodeRooms v = nI (S.2.1 1 v)) ∧ (∀ k, k < nLk S → μ p_GR_linkRooms k = nI (S.2.1 2 k)) ∧ WR S.1 μ
def cB (S : St) (μ : Mm) : Prop := (∀ v, v < 6 → μ p_BK_nodeNeeds v = nI (atS S v) ∧ μ p_BK_nodeParts v = nI (cnS S v)) ∧ ∀ k, k < 9 → μ p_BK_linkNeeds k = nI (ndS S k) ∧ μ p_BK_reserved k = nI (rsS S k) ∧ ∀ f, f < 9 → μ (p_BH + f) k = nI (bhS S f k)
def cInv (S : St) (μ : Mm) : Prop := cG S μ ∧ cB S μ ∧ μ p_ML 6 = nI (nRq S) ∧ μ p_ML 7 = nI (tkS S) ∧ (∀ i, i < 13 → cQ (p_RQ + 11 * i) (S.2.2 i) μ) ∧ ∀ i, i < nRq S → cA (p_RQ + 11 * i) (S.2.2 i) μ ∧ cW (p_RQ + 11 * i) (S.2.2 i) μ ∧ μ (p_RQ + 11 * i) 12 = nI (S.2.2 i 0 12) ∧ μ (p_RQ + 11 * i) 13 = nI (S.2.2 i 0 13)
/-! frames -/
/-- all cells as they were but those of D -/
def Sm (D : Nat → Prop) (μ μ2 : Mm) : Prop := ∀ c, ¬ D c → μ2 c = μ c
theorem Sm.rf {D : Nat → Prop} {μ : Mm} : Sm D μ μ := fun _ _ => rfl
theorem Sm.tr {D : Nat → Prop} {a b c : Mm} (h1 : Sm D a b) (h2 : Sm D b c) : Sm D a c := fun x hx => (h2 x hx).trans (h1 x hx)
theorem Sm.mono {D E : Nat → Prop} {a b : Mm} (h : Sm D a b) (hd : ∀ c, D c → E c) : Sm E a b := fun x hx => h x (fun hc => hx (hd x hc))
theorem Sm.up {D : Nat → Prop} {μ : Mm} {c k : Nat} {v : Int32} (h : D c) : Sm D μ (up2 μ c k v) := fun x hx => by
  have : x ≠ c := fun e => hx (e ▸ h)
  simp only [up2, if_neg this]
theorem Sm.set {D : Nat → Prop} {μ : Mm} {c : Nat} {f : Nat → Int32} (h : D c) : Sm D μ (setr μ c f) := fun x hx => setr_ne (fun e => hx (e ▸ h))
/-- the reference's cells -/
def mCell (c : Nat) : Prop := c = 6 ∨ (21 ≤ c ∧ c ≤ 51)
theorem u_ne {μ : Mm} {c d k : Nat} {v : Int32} (h : d ≠ c) : up2 μ c k v d = μ d := by simp only [up2, if_neg h]
theorem u_eq {μ : Mm} {c k : Nat} {v : Int32} : up2 μ c k v c = upd (μ c) k v := by simp only [up2, if_pos]
theorem d_eq {f : Nat → Int32} {k : Nat} {v : Int32} : upd f k v k = v := by simp only [upd, if_pos]
theorem d_ne {f : Nat → Int32} {k j : Nat} {v : Int32} (h : j ≠ k) : upd f k v j = f j := by simp only [upd, if_neg h]
