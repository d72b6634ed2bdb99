/-! the law's own state: what its arrays hold -/
theorem irm_nI {a d : Nat} (ha : a < 2147483648) (h0 : 0 < d) (hd : d < 2147483648) : irm (nI a) (nI d) = nI (a % d) := pk_rem (by omega) h0 (by omega)
theorem shk : ∀ k, k < 32 → ((nI k &&& (31 : Int32)).toBitVec.smod 32).toNat = k := by decide +kernel
theorem shr_nI {a k : Nat} (ha : a < 2147483648) (hk : k < 32) : nI a >>> (nI k &&& 31) = nI (a / 2 ^ k) := pk_shrN (by omega) _ k (shk k hk)
def LAr (S : St) (μ : Mm) : Prop := ∀ i, i < nRq S → μ p_LT i = nI (S.2.2 i 0 13) ∧ (∀ k, k < S.2.2 i 0 10 → μ p_LP (3 * i + k) = nI (S.2.2 i 1 k)) ∧ ∀ l, l < S.2.2 i 0 11 → μ p_LQ (9 * i + 3 * l) = nI (S.2.2 i 4 l) ∧ μ p_LQ (9 * i + 3 * l + 1) = nI (S.2.2 i 5 l) ∧ μ p_LQ (9 * i + 3 * l + 2) = nI (S.2.2 i 6 l)
def LAg (S : St) (μ : Mm) : Prop := (∀ v, v < nNd S → μ p_LG v = nI (S.2.1 1 v)) ∧ ∀ k, k < nLk S → μ p_LL (3 * k) = nI (S.1.2.1 k) ∧ μ p_LL (3 * k + 1) = nI (S.1.2.2.1 k) ∧ μ p_LL (3 * k + 2) = nI (S.2.1 2 k)
def LAc (S : St) (μ : Mm) : Prop := μ p_LC 0 = nI (nNd S) ∧ μ p_LC 1 = nI (nLk S) ∧ μ p_LC 2 = nI (nRq S) ∧ μ p_LC 3 = nI (tkS S) ∧ μ p_LC 4 = nI (dft S 0 10)
def LA (S : St) (μ : Mm) : Prop := LAc S μ ∧ LAg S μ ∧ LAr S μ
theorem LA.fr {S : St} {μ μ2 : Mm} (h : LA S μ) (hf : ∀ c, 21 ≤ c → c ≤ 26 → μ2 c = μ c) : LA S μ2 := by
  unfold LA LAc LAg LAr at *
  rw [hf p_LC (by decide) (by decide), hf p_LG (by decide) (by decide), hf p_LL (by decide) (by decide), hf p_LQ (by decide) (by decide), hf p_LP (by decide) (by decide), hf p_LT (by decide) (by decide)]
  exact h
theorem Fr.la {μ μ2 : Mm} (h : Fr μ μ2) : ∀ c, 21 ≤ c → c ≤ 26 → μ2 c = μ c := fun c h1 h2 => h c (by unfold mCell; omega)
/-- the state of a mesh, between two steps -/
def Js (S : St) (μ : Mm) : Prop := Snd S ∧ cInv S μ ∧ LA S μ
theorem Js.go {S : St} {μ μ2 : Mm} (h : Js S μ) (hc : cInv S μ2) (hf : Fr μ μ2) : Js S μ2 := ⟨h.1, hc, h.2.2.fr hf.la⟩
theorem Js.loc {S : St} {μ μ2 : Mm} (h : Js S μ) (hf : ∀ c, c ≠ p_LE → c ≠ p_LD → μ2 c = μ c) : Js S μ2 :=
  ⟨h.1, h.2.1.fr (fun c hc => hf c (by unfold cCell at hc; show c ≠ 28; omega) (by unfold cCell at hc; show c ≠ 27; omega)), h.2.2.fr (fun c h1 h2 => hf c (by show c ≠ 28; omega) (by show c ≠ 27; omega))⟩
theorem w_bits {z : ScT} {w : Nat} {μ : Mm} {q : Int32 → Mm → Prop} (hw : w < 512) (h : q (nI (pc w)) μ) : Wp_L_bits z (nI w) μ q := by
  unfold Wp_L_bits
  intro K4 h4
  unfold F_L_bits_e
  refine dn (P := fun k => K4 (nI w) (nI (fo (fun k s => s + tb w k) k 0)) (nI k) μ) (n := 9) ?_ ?_
  · refine h4 _ _ _ _ ?_
    unfold F_L_bits_4
    exact ⟨fun _ => h, fun hc => absurd (le_nI (n := 9) (Nat.le_refl _) (by omega)) hc⟩
  · intro k hk hn
    refine h4 _ _ _ _ ?_
    unfold F_L_bits_4
    refine ⟨fun hc => absurd hc (not_le_nI (n := 9) hk (by omega)), fun _ v hv => ?_⟩
    rw [hv, m_sh w hw k hk, nI_add, i1]
    exact hn
theorem w_draw {z : ScT} {k m : Nat} {μ : Mm} {q : Int32 → Mm → Prop} (hk : k < 1000) (hL : z.2.1 ≤ 260) (h0 : 0 < m) (hm : m < 2147483648) (h : ∀ d, d < m → q (nI d) μ) : Wp_L_draw z (nI k) (nI m) μ q := by
  have key : ∀ v : Int32, ¬ (nI m = 0) ∧ q (irm (v &&& (2147483647 : Int32)) (nI m)) μ := fun v => by
    obtain ⟨j, hj, e⟩ := pk_andE v (m := (2147483647 : Int32)) 31 (by decide)
    refine ⟨fun hc => by rw [nI_eq0 (by omega)] at hc; omega, ?_⟩
    rw [e, irm_nI (by omega) h0 hm]
    exact h _ (Nat.mod_lt _ h0)
  unfold Wp_L_draw F_L_draw_e
  refine ⟨fun _ v _ => key v, fun hc => ⟨?_, fun v _ => key v⟩⟩
  have h1 : ¬ nI z.2.1 ≤ nI k := hc
  exact inN (by
    have : ¬ z.2.1 ≤ k := fun h2 => h1 (le_nI h2 (by omega))
    omega) (by omega)
theorem deg_le2 {G : GD} (hG : NetOk G) (w v : Nat) : ∀ n, n ≤ G.1 → sm (fun j => tb w j * e1v G j v) n ≤ n
  | 0, _ => Nat.le_refl _
  | n + 1, h => by
    have ih := deg_le2 hG w v n (by omega)
    have h1 : e1v G n v ≤ 1 := by
      have := hG.2.2.1 n (by omega)
      unfold e1v
      split <;> split <;> omega
    have h2 : tb w n * e1v G n v ≤ 1 := Nat.le_trans (Nat.mul_le_mul (tb_le w n) h1) (Nat.le_refl 1)
    show sm _ n + _ ≤ n + 1
    dsimp only
    omega
def LLg (G : GD) (μ : Mm) : Prop := ∀ k, k < G.1 → μ p_LL (3 * k) = nI (G.2.1 k) ∧ μ p_LL (3 * k + 1) = nI (G.2.2.1 k)
theorem w_isWay {z : ScT} {G : GD} {w a b : Nat} {μ : Mm} {q : Mm → Prop} (hG : NetOk G) (hW : WayOk G w a b) (hl : LLg G μ) (h : ∀ μ2, (∀ c, c ≠ p_LE → μ2 c = μ c) → q μ2) : Wp_L_isWay z (nI G.1) (nI w) (nI a) (nI b) μ q := by
  obtain ⟨w1, w2, w3, w4, w5, w6, w7⟩ := hW
  have h9 := hG.1
  have w512 : w < 512 := Nat.lt_of_lt_of_le w1 (pow_512 h9)
  unfold Wp_L_isWay
  intro K9 K88 K142 h9k h88 h142
  unfold F_L_isWay_e
  refine dn (P := fun k => ∀ μ1, (∀ c, c ≠ p_LE → μ1 c = μ c) → (∀ v, v < 6 → μ1 p_LE v = nI (sm (fun j => tb w j * e1v G j v) k)) → K9 (nI G.1) (nI w) (nI a) (nI b) (nI k) 1 μ1) (n := G.1) ?_ ?_ _ (fun c hc => if_neg hc) (fun v _ => by show zrm μ p_LE p_LE v = _; unfold zrm; rw [if_pos rfl]; rfl)
  · intro μ1 hf hd
    refine h9k _ _ _ _ _ _ _ ?_
    unfold F_L_isWay_9
    refine ⟨by decide, fun _ => ?_, fun hc => absurd (le_nI (Nat.le_refl _) (by omega)) hc⟩
    refine ⟨fun hc => absurd hc (not_le_nI (k := 0) (n := w) (by omega) (by omega)), fun _ => ?_⟩
    have e0 : nI w >>> (nI G.1 &&& 31) = 0 := by rw [shr_nI (by omega) (by omega), Nat.div_eq_of_lt w1]; rfl
    refine ⟨fun hc => absurd e0 hc, fun _ => ⟨fun hc => absurd ((nI_eq (by omega) (by omega)).1 hc) w5, fun _ => ?_⟩⟩
    have hd : ∀ v, v < 6 → μ1 p_LE v = nI (deg G w v) := hd
    have dl : ∀ v, deg G w v ≤ 9 := fun v => Nat.le_trans (deg_le2 hG w v G.1 (Nat.le_refl _)) h9
    refine dn (P := fun v => K88 (nI w) (nI a) (nI b) (nI (sm (fun v => if 0 < deg G w v then 1 else 0) v)) (nI v) 1 μ1) (n := 6) ?_ ?_
    · refine h88 _ _ _ _ _ _ _ ?_
      unfold F_L_isWay_88
      refine ⟨by decide, fun _ => ?_, fun hc => absurd (le_nI (n := 6) (Nat.le_refl _) (by omega)) hc⟩
      refine w_bits w512 ?_
      rw [i1, w7]
      exact ⟨fun hc => absurd rfl hc, fun _ => h _ hf⟩
    · intro v hv hn
      refine h88 _ _ _ _ _ _ _ ?_
      unfold F_L_isWay_88
      have hvp : vp_in (nI v) 6 := inN hv (by omega)
      have hcl : (nI v).toNatClampNeg = v := clT (by omega)
      have go : K142 (nI w) (nI a) (nI b) (nI (sm (fun v => if 0 < deg G w v then 1 else 0) v)) (nI v) 1 μ1 := by
        refine h142 _ _ _ _ _ _ _ ?_
        unfold F_L_isWay_142
        have hdv := dl v
        have e : sm (fun v => if 0 < deg G w v then 1 else 0) (v + 1) = sm (fun v => if 0 < deg G w v then 1 else 0) v + (if 0 < deg G w v then 1 else 0) := rfl
        rw [e] at hn
        refine ⟨by decide, hvp, ?_⟩
        rw [hcl, hd v hv]
        refine ⟨fun hc y hy => ?_, fun hc y hy => ?_⟩
        · have h0 : deg G w v = 0 := Decidable.byContradiction fun hne => not_le_nI (k := 0) (n := deg G w v) (by omega) (by omega) hc
          rw [if_neg (by omega)] at hn
          rw [hy, z_add, i1]
          exact hn
        · have h0 : 0 < deg G w v := by
            have : deg G w v ≠ 0 := fun h0 => hc (by rw [h0]; decide)
            omega
          rw [if_pos h0] at hn
          rw [hy, i1, i1]
          exact hn
      refine ⟨by decide, fun hc => absurd hc (not_le_nI (n := 6) hv (by omega)), fun _ => ?_⟩
      have h6 := w6 v hv
      have hdv := dl v
      have one : (v = a ∨ v = b) → vp_in (nI v) 6 ∧ ((¬ (μ1 p_LE (nI v).toNatClampNeg = (1 : Int32)) → False) ∧ (μ1 p_LE (nI v).toNatClampNeg = (1 : Int32) → K142 (nI w) (nI a) (nI b) (nI (sm (fun v => if 0 < deg G w v then 1 else 0) v)) (nI v) 1 μ1)) := fun hab => by
        rw [if_pos hab] at h6
        refine ⟨hvp, fun hc => hc ?_, fun _ => go⟩
        rw [hcl, hd v hv, h6]; rfl
      refine ⟨fun hc => one (Or.inl ((nI_eq (by omega) (by omega)).1 hc)), fun hna => ⟨fun hnb => ?_, fun hc => one (Or.inr ((nI_eq (by omega) (by omega)).1 hc))⟩⟩
      rw [if_neg (by rintro (e | e); exact hna (by rw [e]); exact hnb (by rw [e]))] at h6
      refine ⟨hvp, fun _ => go, fun hne => ⟨hvp, fun hc => hc ?_, fun _ => go⟩⟩
      rw [hcl, hd v hv] at hne ⊢
      rcases h6 with h6 | h6
      · rw [h6] at hne; exact absurd rfl hne
      · rw [h6]; rfl
  · intro k hk hn μ1 hf hd
    refine h9k _ _ _ _ _ _ _ ?_
    unfold F_L_isWay_9
    obtain ⟨g1, g2⟩ := hG.2.1 k hk
    have g3 := hG.2.2.1 k hk
    obtain ⟨l1, l2⟩ := hl k hk
    have e3 : (3 : Int32) * nI k = nI (3 * k) := nI_pk3 k
    have eL : μ1 p_LL = μ p_LL := hf _ (by decide)
    refine ⟨by decide, fun hc => absurd hc (not_le_nI hk (by omega)), fun _ => ?_⟩
    rw [e3, eL, clT (show 3 * k < 2147483648 by omega), l1, clT (show G.2.1 k < 2147483648 by omega), m_sh w w512 k (by omega)]
    refine ⟨inN (by omega) (by omega), inN g1 (by omega), inN g1 (by omega), fun μ2 hμ2 => ?_⟩
    have eL2 : μ2 p_LL = μ p_LL := by rw [hμ2, u_ne (by decide)]; exact eL
    rw [i1, clT (show 3 * k + 1 < 2147483648 by omega), eL2, l2, clT (show G.2.2.1 k < 2147483648 by omega)]
    refine ⟨inN (by omega) (by omega), inN g2 (by omega), inN g2 (by omega), fun μ3 hμ3 => ?_⟩
    rw [i1]
    refine hn μ3 (fun c hc => by rw [hμ3, u_ne hc, hμ2, u_ne hc]; exact hf c hc) (fun v hv => ?_)
    have e : sm (fun j => tb w j * e1v G j v) (k + 1) = sm (fun j => tb w j * e1v G j v) k + tb w k * e1v G k v := rfl
    rw [e, hμ3, u_eq]
    by_cases hve : v = G.2.2.1 k
    · rw [hve, d_eq, hμ2, u_eq, d_ne (Ne.symm g3), hd _ g2, nI_add]
      congr 1
      unfold e1v
      rw [if_neg g3, if_pos rfl]
      omega
    · rw [d_ne hve, hμ2, u_eq]
      by_cases hvs : v = G.2.1 k
      · rw [hvs, d_eq, hd _ g1, nI_add]
        congr 1
        unfold e1v
        rw [if_pos rfl, if_neg (fun e => g3 e.symm)]
        omega
      · rw [d_ne hvs, hd v hv]
        congr 1
        unfold e1v
        rw [if_neg (Ne.symm hvs), if_neg (Ne.symm hve)]
        omega
