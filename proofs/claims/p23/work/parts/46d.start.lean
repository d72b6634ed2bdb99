theorem lays_len : lays0.length = 221 := by decide +kernel
theorem pmL_lays : pmL = lays0.map (fun c => pm c.1) := by decide +kernel
theorem pm_pos (i j : Nat) (hi : i < 221) (hj : j < 221) (h : pmL[i]? = pmL[j]?) : i = j := by
  have h0 : (pmL.zipIdx.all fun x => pmL.idxOf x.1 == x.2) = true := by decide +kernel
  have hl : pmL.length = 221 := by decide +kernel
  have key : ∀ r v, r < 221 → pmL[r]? = some v → pmL.idxOf v = r := by
    intro r v hr hv
    have h2 : (v, r) ∈ pmL.zipIdx := by
      rw [List.mem_zipIdx_iff_getElem?]
      exact hv
    have h3 := List.all_eq_true.mp h0 _ h2
    simpa using h3
  obtain ⟨v, hv⟩ : ∃ v, pmL[i]? = some v := ⟨_, List.getElem?_eq_getElem (by rw [hl]; exact hi)⟩
  have h4 := key i v hi hv
  have h5 := key j v hj (h ▸ hv)
  omega
def rbL (e : LE) : Bool := match e with
  | .inl _ => true
  | .inr (.inl (_, ts)) => ts.all (fun o => match o with | none => true | some q => decide (q < 248))
  | .inr (.inr (_, fs)) => fs.all (fun o => match o with | none => true | some q => decide (q < 248))
theorem lays_rb : (lays0.all fun c => rbL c.2 && decide (c.1 < 248)) = true := by decide +kernel
/-- the world behind the constructors is that of KW, with all at zero -/
theorem world0 {D : va_G} {cA : Nat → ClassId} {ad ad2 : Nat → Nat} {sz : Nat} {H : Heap} (h : ∀ p, p < 248 → ad2 p = ad (pm p)) (hP : va_P D vwCl (cw cA ad W3) H) (hD : va_D (fun q => sz ≤ q) (cw cA ad W3)) :
    va_P D vwCl (Wd (D, cA, ad2, sz, []) (fun _ _ => 0)) H ∧ va_D (fun q => sz ≤ q) (Wd (D, cA, ad2, sz, []) (fun _ _ => 0)) := by
  have hlx : layX ((D, cA, ad2, sz, []) : GE) = lays0 := List.append_nil _
  have key : ∀ p q, (Wd (D, cA, ad2, sz, []) (fun _ _ => 0))[p]? = some q → p < 221 ∧ ∃ v, pmL[p]? = some v ∧ (cw cA ad W3)[v]? = some q := by
    intro p q hq
    unfold Wd at hq
    rw [hlx] at hq
    have hp : p < 221 := by
      have := (List.getElem?_eq_some_iff.mp hq).1
      simpa [lays_len] using this
    refine ⟨hp, ?_⟩
    obtain ⟨⟨n, e⟩, he⟩ : ∃ c, lays0[p]? = some c := ⟨_, List.getElem?_eq_getElem (by rw [lays_len]; exact hp)⟩
    rw [List.getElem?_map, he] at hq
    have hrb0 := List.all_eq_true.mp lays_rb (n, e) (List.mem_of_getElem? he)
    simp only [Bool.and_eq_true] at hrb0
    have hrb := hrb0.1
    have hn : n < 248 := of_decide_eq_true hrb0.2
    have h1 : PL[p]? = some (enA e) := by rw [PL_lays, List.getElem?_map, he]; rfl
    have h2 : (PL.map some)[p]? = some (some (enA e)) := by rw [List.getElem?_map, h1]; rfl
    have hpl : pmL[p]? = some (pm n) := by rw [pmL_lays, List.getElem?_map, he]; rfl
    rw [PL_W3, List.getElem?_map, hpl] at h2
    have h3 : W3[pm n]? = some (enA e) := Option.some.inj h2
    refine ⟨pm n, hpl, ?_⟩
    have hqe := Option.some.inj hq
    rw [cw_at h3, ← hqe]
    rw [enA_en (D := D) (sz := sz) h e]
    · show some (ad (pm n), _) = some (ad2 n, _)
      rw [h n hn]
    · intro t ts heq j q2 hj
      subst heq
      have h6 : some q2 ∈ ts := by
        rw [List.getD_eq_getElem?_getD] at hj
        cases h7 : ts[j]? with
        | none => rw [h7] at hj; cases hj
        | some o => rw [h7] at hj; have hj : o = some q2 := hj; subst hj; exact List.mem_of_getElem? h7
      have := List.all_eq_true.mp hrb _ h6
      simpa using this
    · intro ci fs heq q2 hq2
      subst heq
      have := List.all_eq_true.mp hrb _ hq2
      simpa using this
  refine ⟨fun p q hq => ?_, fun i j p q hi hj hpq => ?_, fun k q hk => ?_⟩
  · obtain ⟨-, v, -, h2⟩ := key p q hq
    exact hP _ _ h2
  · obtain ⟨h1, v1, h2, h3⟩ := key i p hi
    obtain ⟨h4, v2, h5, h6⟩ := key j q hj
    have h7 := hD.1 _ _ p q h3 h6 hpq
    exact pm_pos i j h1 h4 (by rw [h2, h5, h7])
  · obtain ⟨-, v, -, h2⟩ := key k q hk
    exact hD.2 _ _ h2
