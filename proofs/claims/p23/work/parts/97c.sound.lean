/-! the least cost, as the law sees it; all is sound -/
theorem kp_none {L : List Mp} : (L.foldl kp none = none) = (L = []) := by
  cases L with
  | nil => simp
  | cons a L =>
    apply propext
    constructor
    · intro h
      exfalso
      have key : ∀ (L : List Mp) (B : Bs), B.isSome = true → (L.foldl kp B).isSome = true := by
        intro L
        induction L with
        | nil => intro B hB; exact hB
        | cons a L ih => intro B hB; exact ih _ (kp_some B a)
      have := key L (kp none a) (kp_some none a)
      rw [show (a :: L).foldl kp none = L.foldl kp (kp none a) from rfl] at h
      rw [h] at this
      cases this
    · intro h; cases h
theorem o_least_none {S : St} (h : dft S 0 10 = 0) : o_least S = -1 := by unfold o_least; rw [if_pos h]
theorem least_cases {S : St} (hG : Good S) (h1 : dft S 0 10 ≠ 0) : (best S = none ∧ LSt S = [] ∧ o_least S = -1) ∨ ∃ y, best S = some y ∧ LSt S ≠ [] ∧ y.1 < 10000 ∧ o_least S = nI y.1 := by
  unfold o_least
  rw [if_neg h1]
  cases hb : best S with
  | none =>
    have : LSt S = [] := by rw [← kp_none]; exact hb
    exact Or.inl ⟨rfl, this, rfl⟩
  | some y =>
    refine Or.inr ⟨y, rfl, fun he => ?_, (best_ok hG hb).1, rfl⟩
    unfold best at hb
    rw [he] at hb
    cases hb
theorem w_isSound {z : ScT} {S : St} {μ : Mm} {q : Mm → Prop} (hJ : Js S μ) (h7 : nRq S ≤ 7) (h : ∀ μ2, Js S μ2 → q μ2) : Wp_L_isSound z μ q := by
  have hS := hJ.1
  have hG := hS.1
  unfold Wp_L_isSound
  intro K36 K69 h36 h69
  have c2 : ∀ {μ1 : Mm}, Js S μ1 → μ1 p_LC ((2 : Int32)).toNatClampNeg = nI (nRq S) := fun hj => by rw [clT2]; exact hj.2.2.1.2.2.1
  have k69 : ∀ (n : Nat) (μ1 : Mm), Js S μ1 → n ≤ 1000 → K69 n μ1 := by
    intro n μ1 hJ1 hn
    refine h69 _ _ ?_
    unfold F_L_isSound_69
    refine ⟨by omega, tt_least hG hJ1.2.1 (fun μ2 a b => ?_)⟩
    have hJ2 := hJ1.go a b
    refine w_areRooms hJ2 h7 (fun μ3 hJ3 => tt_leastAnew hG hJ3.2.1 (fun μ4 a b => ?_))
    have hJ4 := hJ3.go a b
    have c4 : μ4 p_LC ((4 : Int32)).toNatClampNeg = nI (dft S 0 10) := by rw [show ((4 : Int32)).toNatClampNeg = 4 from rfl]; exact hJ4.2.2.1.2.2.2.2
    have hd3 := (gd_d hG).1
    rw [c4]
    refine ⟨fun hc => hc rfl, fun _ => ?_⟩
    by_cases h0 : dft S 0 10 = 0
    · have hl := o_least_none h0
      rw [hl, h0]
      refine ⟨fun hc => absurd hc (by decide), fun _ => ⟨inN (k := 4) (by omega) (by omega), fun hc => absurd hc (by decide), fun _ => ⟨fun hc => hc rfl, fun _ => ?_⟩⟩⟩
      refine tt_freeing hG hJ4.2.1 (fun μ5 zz a b hz => ?_)
      have hJ5 := hJ4.go a b
      unfold frS at hz
      rw [if_pos (Or.inl h0)] at hz
      rw [hz]
      exact ⟨fun hc => hc rfl, fun _ => h μ5 hJ5⟩
    · have hpos : (0 : Int32) < nI (dft S 0 10) := nI_lt (a := 0) (by omega) (by omega)
      have hle : ¬ o_least S < (-1 : Int32) := by
        rcases least_cases hG h0 with ⟨-, -, e⟩ | ⟨y, -, -, hy, e⟩
        · rw [e]; decide
        · rw [e, Int32.lt_iff_toInt_lt, nI_toInt (by omega)]
          have : ((-1 : Int32)).toInt = -1 := by decide
          omega
      exact ⟨fun hc => absurd hc hle, fun _ => ⟨inN (k := 4) (by omega) (by omega), fun _ => h μ4 hJ4, fun hc => absurd hpos hc⟩⟩
  unfold F_L_isSound_e
  refine tt_now hJ.2.1 ?_
  have c3 : μ p_LC ((3 : Int32)).toNatClampNeg = nI (tkS S) := by rw [show ((3 : Int32)).toNatClampNeg = 3 from rfl]; exact hJ.2.2.1.2.2.2.1
  rw [c3, c2 hJ]
  refine ⟨inN (k := 3) (by omega) (by omega), fun hc => hc rfl, fun _ => ⟨inN (k := 2) (by omega) (by omega), A_told hG hJ.2.1 ?_⟩⟩
  have e : o_told S (nI (nRq S)) (0 : Int32) = (1, 0, S) := by
    unfold o_told
    rw [if_neg (by rw [inR_nI (by omega) (by omega)]; simp)]
  rw [e]
  intro μ2 a b
  have hJ2 := hJ.go a b
  refine ⟨fun hc => (by cases hc), fun _ => ⟨fun _ => ⟨fun hc => hc rfl, fun _ => ?_⟩, fun hc => (by cases hc)⟩⟩
  refine dn (P := fun i => ∀ (n : Nat) (μ1 : Mm), Js S μ1 → n ≤ 1 + 100 * i → K36 (nI i) n μ1) (n := nRq S) ?_ ?_ 1 μ2 hJ2 (Nat.le_refl _)
  · intro n μ1 hJ1 hn
    refine h36 _ _ _ ?_
    unfold F_L_isSound_36
    rw [c2 hJ1]
    exact ⟨by omega, inN (k := 2) (by omega) (by omega), fun _ => k69 _ _ hJ1 (by omega), fun hc => absurd (le_nI (Nat.le_refl _) (by omega)) hc⟩
  · intro i hi hn2 n μ1 hJ1 hn
    refine h36 _ _ _ ?_
    unfold F_L_isSound_36
    rw [c2 hJ1, i1]
    exact ⟨by omega, inN (k := 2) (by omega) (by omega), fun hc => absurd hc (not_le_nI hi (by omega)), fun _ => w_isRequest hJ1 hi h7 (fun μ3 hJ3 => hn2 _ _ hJ3 (by omega))⟩
