theorem nx_and (a b : Nat) : nI a &&& nI b = nI (a &&& b) := by
  apply Int32.toBitVec_inj.1
  show BitVec.ofNat 32 a &&& BitVec.ofNat 32 b = BitVec.ofNat 32 (a &&& b)
  apply BitVec.eq_of_getLsbD_eq
  intro i hi
  simp [hi]
theorem nx_xor (a b : Nat) : nI a ^^^ nI b = nI (a ^^^ b) := by
  apply Int32.toBitVec_inj.1
  show BitVec.ofNat 32 a ^^^ BitVec.ofNat 32 b = BitVec.ofNat 32 (a ^^^ b)
  apply BitVec.eq_of_getLsbD_eq
  intro i hi
  simp [hi]
theorem nI_eq0 {n : Nat} (h : n < 2 ^ 31) : nI n = 0 ↔ n = 0 := by
  rw [← nI_0, nI_eq h (by omega)]
theorem tb_bit (w k : Nat) : tb w k = if w.testBit k then 1 else 0 := by
  unfold tb
  rw [Nat.testBit_eq_decide_div_mod_eq, Nat.shiftRight_eq_div_pow]
  have h := Nat.mod_lt (w / 2 ^ k) (show 0 < 2 by decide)
  by_cases hz : w / 2 ^ k % 2 = 1
  · simp [hz]
  · have h0 : w / 2 ^ k % 2 = 0 := by omega
    simp [h0]
/-- v within o -/
def sub9 (w o : Nat) : Prop := ∀ k, k < 9 → w.testBit k = true → o.testBit k = true
theorem hi9 {w k : Nat} (h : w < 512) (hk : 9 ≤ k) : w.testBit k = false := by
  apply Nat.testBit_lt_two_pow
  exact Nat.lt_of_lt_of_le h (by rw [show 512 = 2 ^ 9 from rfl]; exact Nat.pow_le_pow_right (by decide) hk)
theorem m_sub {w o : Nat} (hw : w < 512) (ho : o < 512) : nI w &&& (nI o ^^^ (-1 : Int32)) = 0 ↔ sub9 w o := by
  have e : nI o ^^^ (-1 : Int32) = nI (o ^^^ 4294967295) := by
    rw [show (-1 : Int32) = nI 4294967295 by decide +kernel, nx_xor]
  rw [e, nx_and, nI_eq0 (Nat.lt_of_le_of_lt Nat.and_le_left (by omega))]
  have hb : ∀ i, (4294967295 : Nat).testBit i = decide (i < 32) := fun i => by
    rw [show (4294967295 : Nat) = 2 ^ 32 - 1 from rfl, Nat.testBit_two_pow_sub_one]
  constructor
  · intro h k hk hb1
    have h1 := congrArg (fun x => Nat.testBit x k) h
    simp only [Nat.testBit_and, Nat.testBit_xor, Nat.zero_testBit, hb, hb1, Bool.true_and] at h1
    have : decide (k < 32) = true := decide_eq_true (by omega)
    rw [this] at h1
    revert h1
    cases o.testBit k <;> simp
  · intro h
    apply Nat.eq_of_testBit_eq
    intro i
    simp only [Nat.testBit_and, Nat.testBit_xor, Nat.zero_testBit, hb]
    by_cases hi : i < 9
    · cases hw1 : w.testBit i with
      | false => rfl
      | true =>
        rw [h i hi hw1]
        have : decide (i < 32) = true := decide_eq_true (by omega)
        rw [this]; rfl
    · rw [hi9 hw (by omega)]; rfl
/-- the links below n of which p holds -/
def om9 (p : Nat → Bool) : Nat → Nat
  | 0 => 0
  | n + 1 => if p n then om9 p n ||| 2 ^ n else om9 p n
theorem om9_lt (p : Nat → Bool) : ∀ n, n ≤ 9 → om9 p n < 512
  | 0, _ => by show 0 < 512; omega
  | n + 1, h => by
    unfold om9
    have := om9_lt p n (by omega)
    split
    · exact or_lt _ this n (by omega)
    · exact this
theorem om9_bit (p : Nat → Bool) : ∀ n k, (om9 p n).testBit k = (decide (k < n) && p k)
  | 0, k => by simp [om9]
  | n + 1, k => by
    unfold om9
    have ih := om9_bit p n k
    by_cases hk : k = n
    · subst hk
      cases hp : p k <;> simp [hp, ih, Nat.testBit_or, Nat.testBit_two_pow_self]
    · have e : decide (k < n + 1) = decide (k < n) := by
        by_cases h : k < n <;> simp [h] <;> omega
      rw [e]
      split
      · rw [Nat.testBit_or, ih, Nat.testBit_two_pow_of_ne (Ne.symm hk)]; simp
      · exact ih
def al (p : Nat → Bool) : Nat → Bool
  | 0 => true
  | n + 1 => al p n && p n
theorem al_iff (p : Nat → Bool) : ∀ n, al p n = true ↔ ∀ k, k < n → p k = true
  | 0 => by simp [al]
  | n + 1 => by
    unfold al
    rw [Bool.and_eq_true, al_iff p n]
    constructor
    · rintro ⟨h1, h2⟩ k hk
      by_cases hk2 : k = n
      · subst hk2; exact h2
      · exact h1 k (by omega)
    · intro h
      exact ⟨fun k hk => h k (by omega), h n (by omega)⟩
def setr (μ : Mm) (c : Nat) (f : Nat → Int32) : Mm := fun c2 => if c2 = c then f else μ c2
theorem up2_setr (μ : Mm) (c k : Nat) (v : Int32) : up2 μ c k v = setr μ c (upd (μ c) k v) := rfl
theorem setr_self (μ : Mm) (c : Nat) (f : Nat → Int32) : setr μ c f c = f := if_pos rfl
theorem setr_ne {μ : Mm} {c d : Nat} {f : Nat → Int32} (h : d ≠ c) : setr μ c f d = μ d := if_neg h
theorem setr_setr (μ : Mm) (c : Nat) (f h : Nat → Int32) : setr (setr μ c f) c h = setr μ c h := by
  funext d
  by_cases hd : d = c <;> simp [setr, hd]
theorem setr_id (μ : Mm) (c : Nat) : setr μ c (μ c) = μ := by
  funext d
  by_cases hd : d = c <;> simp [setr, hd]
/-! the smallest methods -/
theorem s_bitCount {w : Nat} {μ : Mm} {q : Int32 → Mm → Prop} (hw : w < 512) (h : q (nI (pc w)) μ) : Wp_J6_bitCount_0f7a4 (nI w) μ q := by
  have h2 := bitCount_all w hw
  unfold F_J6_bitCount_0f7a4_e at h2
  unfold Wp_J6_bitCount_0f7a4 F_J6_bitCount_0f7a4_e
  rw [h2]
  exact h
/-- the other end of a link -/
def bynd (s t x : Int32) : Int32 := if s = x then t else if t = x then s else -1
theorem s_beyond {k : Nat} {x : Int32} {μ : Mm} {q : Int32 → Mm → Prop} (hk : k < 9) (h : q (bynd (μ p_GR_linkStarts k) (μ p_GR_linkEnds k) x) μ) : Wp_X2_beyond (nI k) x μ q := by
  have hv := in9 hk
  unfold Wp_X2_beyond F_X2_beyond_e
  rw [nI_clamp (by omega)]
  unfold bynd at h
  refine ⟨hv, fun h1 => ⟨hv, fun h2 => ?_, fun h2 => ⟨hv, ?_⟩⟩, fun h1 => ⟨hv, ?_⟩⟩
  · rw [if_neg h1, if_neg h2] at h; exact h
  · rw [if_neg h1, if_pos h2] at h; exact h
  · rw [if_pos h1] at h; exact h
theorem s_leftOnLink {k : Nat} {μ : Mm} {q : Int32 → Mm → Prop} (hk : k < 9) (h : q (μ p_GR_linkRooms k - μ p_BK_linkNeeds k - μ p_BK_reserved k) μ) : Wp_X0_leftOnLink (nI k) μ q := by
  have hv := in9 hk
  unfold Wp_X0_leftOnLink F_X0_leftOnLink_e
  rw [nI_clamp (by omega)]
  exact ⟨hv, hv, hv, h⟩
/-- what is left of a link's room -/
def lft (μ : Mm) (k : Nat) : Int32 := μ p_GR_linkRooms k - μ p_BK_linkNeeds k - μ p_BK_reserved k
theorem s_openFor {nL : Nat} {x : Int32} {μ : Mm} {q : Int32 → Mm → Prop} (hL : nL ≤ 9) (hl : μ p_GR 7 = nI nL) (h : q (nI (om9 (fun k => !decide (lft μ k < x)) nL)) μ) : Wp_X0_openFor x μ q := by
  unfold Wp_X0_openFor
  intro K4 h4
  unfold F_X0_openFor_e
  refine dn (P := fun k => K4 x (nI (om9 (fun k => !decide (lft μ k < x)) k)) (nI k) μ) (n := nL) ?_ ?_
  · refine h4 _ _ _ _ ?_
    unfold F_X0_openFor_4
    rw [hl]
    exact br_t (le_nI (Nat.le_refl _) (by omega)) h
  · intro k hk hn
    refine h4 _ _ _ _ ?_
    unfold F_X0_openFor_4
    rw [hl]
    refine br_f (not_le_nI hk (by omega)) ?_
    refine s_leftOnLink (by omega) ?_
    rw [i1]
    unfold om9 at hn
    by_cases hb : lft μ k < x
    · refine br_t hb ?_
      simp only [hb, decide_true, Bool.not_true, Bool.false_eq_true, if_false] at hn
      have e : ∀ y : Int32, y ||| 0 = y := fun y => by simp
      rw [e]
      exact hn
    · refine br_f hb ?_
      simp only [hb, decide_false, Bool.not_false, if_true] at hn
      rw [m_or _ (om9_lt _ _ (by omega)) _ (by omega)]
      exact hn
