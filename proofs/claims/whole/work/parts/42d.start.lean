theorem lays_len : lays.length = 248 := by decide +kernel
theorem pm_lt : ∀ p, p < 248 → pm p < 248 := by decide +kernel
theorem pm_inj : ∀ p, p < 248 → ∀ q, q < 248 → pm p = pm q → p = q := by
  have h : (pmL.zipIdx.all fun x => pmL.idxOf x.1 == x.2) = true := by decide +kernel
  have hl : pmL.length = 248 := by decide +kernel
  intro p hp q hq e
  have key : ∀ r, r < 248 → pmL.idxOf (pm r) = r := by
    intro r hr
    obtain ⟨v, hv⟩ : ∃ v, pmL[r]? = some v := ⟨_, List.getElem?_eq_getElem (by rw [hl]; exact hr)⟩
    have h2 : (v, r) ∈ pmL.zipIdx := by
      rw [List.mem_zipIdx_iff_getElem?]
      exact hv
    have h3 := List.all_eq_true.mp h _ h2
    have h4 : pm r = v := by unfold pm; rw [List.getD_eq_getElem?_getD, hv]; rfl
    rw [h4]
    simpa using h3
  rw [← key p hp, ← key q hq, e]
def rbL (e : LE) : Bool := match e with
  | .inl _ => true
  | .inr (.inl (_, ts)) => ts.all (fun o => match o with | none => true | some q => decide (q < 248))
  | .inr (.inr (_, fs)) => fs.all (fun o => match o with | none => true | some q => decide (q < 248))
theorem lays_rb : lays.all rbL = true := by decide +kernel
/-- the world behind the constructors is that of KW, with all at zero -/
theorem world0 {D : va_G} {cA : Nat → ClassId} {ad ad2 : Nat → Nat} {sz : Nat} {H : Heap} (h : ∀ p, p < 248 → ad2 p = ad (pm p)) (hP : va_P D vwCl (cw cA ad W3) H) (hD : va_D (fun q => sz ≤ q) (cw cA ad W3)) :
    va_P D vwCl (Wd (D, cA, ad2, sz) (fun _ _ => 0)) H ∧ va_D (fun q => sz ≤ q) (Wd (D, cA, ad2, sz) (fun _ _ => 0)) := by
  have key : ∀ p q, (Wd (D, cA, ad2, sz) (fun _ _ => 0))[p]? = some q → p < 248 ∧ (cw cA ad W3)[pm p]? = some q := by
    intro p q hq
    have hp : p < 248 := by
      have := (List.getElem?_eq_some_iff.mp hq).1
      simpa [Wd, lays_len] using this
    refine ⟨hp, ?_⟩
    obtain ⟨e, he⟩ : ∃ e, lays[p]? = some e := ⟨_, List.getElem?_eq_getElem (by rw [lays_len]; exact hp)⟩
    rw [Wd_at he] at hq
    have hrb := List.all_eq_true.mp lays_rb e (List.mem_of_getElem? he)
    have h1 : PL[p]? = some (enA e) := by rw [PL_lays, List.getElem?_map, he]; rfl
    have h2 : (PL.map some)[p]? = some (some (enA e)) := by rw [List.getElem?_map, h1]; rfl
    rw [PL_W3, List.getElem?_map] at h2
    have hpl : (pmL[p]?) = some (pm p) := by
      obtain ⟨v, hv⟩ : ∃ v, pmL[p]? = some v := ⟨_, List.getElem?_eq_getElem (by rw [show pmL.length = 248 by decide +kernel]; exact hp)⟩
      rw [hv]; unfold pm; rw [List.getD_eq_getElem?_getD, hv]; rfl
    rw [hpl] at h2
    have h3 : W3[pm p]? = some (enA e) := Option.some.inj h2
    rw [cw_at h3, ← hq]
    rw [enA_en (D := D) (sz := sz) h e]
    · show some (ad (pm p), _) = some (ad2 p, _)
      rw [h p hp]
    · intro t ts heq j q2 hj
      subst heq
      have h6 : some q2 ∈ ts := by
        rw [List.getD_eq_getElem?_getD] at hj
        cases h7 : ts[j]? with
        | none => rw [h7] at hj; cases hj
        | some o => rw [h7] at hj; have hj : o = some q2 := hj; subst hj; exact List.mem_of_getElem? h7
      have := List.all_eq_true.mp hrb _ h6
      simpa using this
    · intro ci fs heq q2 hq2
      subst heq
      have := List.all_eq_true.mp hrb _ hq2
      simpa using this
  refine ⟨fun p q hq => hP _ _ (key p q hq).2, fun i j p q hi hj hpq => ?_, fun k q hk => hD.2 _ _ (key k q hk).2⟩
  have h1 := key i p hi
  have h2 := key j q hj
  exact pm_inj i h1.1 j h2.1 (hD.1 _ _ p q h1.2 h2.2 hpq)
