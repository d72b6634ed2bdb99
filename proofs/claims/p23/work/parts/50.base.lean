/-! ===== THE PURE PART: nothing of the machine from here on ===== -/
/-! loops that count up -/
theorem dn {P : Nat → Prop} {n : Nat} (h0 : P n) (hs : ∀ k, k < n → P (k + 1) → P k) : P 0 := by
  have key : ∀ j, j ≤ n → P (n - j) := by
    intro j
    induction j with
    | zero => intro _; exact h0
    | succ j ih =>
      intro hj
      refine hs _ (by omega) ?_
      rw [show n - (j + 1) + 1 = n - j by omega]
      exact ih (by omega)
  have := key n (Nat.le_refl n)
  rwa [Nat.sub_self] at this
/-- f at 0, 1, .. below n, from s on -/
def fo {σ : Type} (f : Nat → σ → σ) : Nat → σ → σ
  | 0, s => s
  | n + 1, s => f n (fo f n s)
theorem i1 (k : Nat) : nI k + (1 : Int32) = nI (k + 1) := (nI_succ k).symm
theorem in9 {k : Nat} (h : k < 9) : vp_in (nI k) 9 := vp_in_nI h (by omega)
theorem inN {k N : Nat} (h : k < N) (hN : N < 2 ^ 31) : vp_in (nI k) N := vp_in_nI h hN
theorem not_le_nI {k n : Nat} (h : k < n) (hn : n < 2 ^ 31) : ¬ nI n ≤ nI k := nI_ge h hn
theorem le_nI {k n : Nat} (h : n ≤ k) (hk : k < 2 ^ 31) : nI n ≤ nI k := nI_le h hk
theorem bI_0 {b : Bool} : (bI b = 0) = (b = false) := by cases b <;> simp [bI]
theorem bI_1 {b : Bool} : (bI b = 1) = (b = true) := by cases b <;> simp [bI]
theorem ex_bI {b : Bool} {P : Bool → Prop} (h : P b) : ∃ b2 : Bool, bI b = bI b2 ∧ P b2 := ⟨b, rfl, h⟩
/-! sets of links, as numbers below 512 -/
def tb (w k : Nat) : Nat := (w >>> k) % 2
theorem m_sh : ∀ w, w < 512 → ∀ k, k < 9 → (nI w >>> (nI k &&& 31)) &&& (1 : Int32) = nI (tb w k) := by decide +kernel
theorem m_or : ∀ w, w < 512 → ∀ k, k < 9 → nI w ||| ((1 : Int32) <<< (nI k &&& 31)) = nI (w ||| 2 ^ k) := by decide +kernel
theorem m_1 : ∀ k, k < 9 → (1 : Int32) <<< (nI k &&& 31) = nI (2 ^ k) := by decide +kernel
theorem or_lt : ∀ w, w < 512 → ∀ k, k < 9 → w ||| 2 ^ k < 512 := by decide +kernel
def pc (w : Nat) : Nat := fo (fun k s => s + tb w k) 9 0
theorem pc_le : ∀ w, w < 512 → pc w ≤ 9 := by decide +kernel
theorem pc_0 : ∀ w, w < 512 → pc w = 0 → w = 0 := by decide +kernel
theorem bitCount_all : ∀ w, w < 512 → F_J6_bitCount_0f7a4_e (fun r _ => r = nI (pc w)) (nI w) (fun _ _ => 0) := by
  unfold F_J6_bitCount_0f7a4_e
  decide +kernel
