def mFR : Nat := 14
def mLO : Nat := 359
set_option maxHeartbeats 4000000 in
theorem m_L_mesh {l : Launch} (hst : l.stackTraces = false) {g0 : GE} {z : ScT} {x1 : Int32} (hpure : Wp_L_mesh z x1 (fun _ _ => 0) (fun _ => True)) : Met l yL_mesh (Cond.code yL_mesh cL_mesh 14 (some .boolean) :: Om) { frames := mFR, cells := 140000, slots := 6 * 140000, locals := mLO } (va_Pc [.ref z.1, .int x1] (PM g0 z)) (QM g0.2.2.2.1) 140000 (6 * 140000) (fun q => g0.2.2.2.1 ≤ q) := by
  refine Met.ofW (cc := cL_mesh) (maxL := 14) (ret := some .boolean) (by decide) rfl ?_
  intro p e s m args below meth c s₁ B hml hv
  obtain ⟨rfl, hz0, hN, hK, hO, hX, hNC, hsc, hsl⟩ := hv
  have hts := atoms_spec (ws := Cond.code yL_mesh cL_mesh 14 (some .boolean) :: Om) B.pre
  have hown : s.vm.findClass RL = some m.cls := findClass_of_methodNamed B.named
  have hOm : ∀ w ∈ Om, w.before #[Value.ref z.1, .int x1] s = true := fun w hw => hts w (List.mem_cons_of_mem _ hw)
  obtain ⟨f, hf⟩ : ∃ f : FE, f = (p, l, e, (headSpec (Cond.code yL_mesh cL_mesh 14 (some .boolean) :: Om) { frames := mFR, cells := 140000, slots := 6 * 140000, locals := mLO }).room, s, m, #[Value.ref z.1, .int x1], below, meth, c, MQ below (QM g0.2.2.2.1) #[Value.ref z.1, .int x1] s 140000 (6 * 140000) (fun q => g0.2.2.2.1 ≤ q)) := ⟨_, rfl⟩
  have hl := lv_entry ([.ref z.1, .int x1]) (n := 14) (Nat.le_of_ble_eq_true rfl)
  rw [lg_entry_eq]
  generalize (lg_sl ([.ref z.1, .int x1]) ++ List.replicate (14 - (lg_sl ([.ref z.1, .int x1])).length) Slot.unset).toArray = la at hl ⊢
  have hl : lv_has la 14 [(0, .ref z.1), (1, .int x1)] := hl
  have key := mesh_ctors (g := (g0.1, g0.2.1, g0.2.2.2.1, (fun _ => 0), 0)) (f := f) (b := z.1) (x1 := x1) (fr := mFR) (lo := mLO) (Nat.le_of_ble_eq_true rfl) (Nat.le_of_ble_eq_true rfl)
    (by subst hf; exact ⟨⟨B.exec, B.bytes, hml, hown, hOm⟩, hN, hK, hO, hz0, Nat.le_refl _, Nat.le_refl _, Nat.le_refl _, Nat.le_refl _⟩) ?_
  · subst hf
    refine key ⟨Nat.le_refl _, (fun e he => (by cases he)), (fun v hv => (by simp at hv)), (fun v hv => (by cases hv))⟩ (fun _ => 0) s.heap [] la (fun _ _ => rfl) (fun k q h => by simp [cw] at h) ⟨(fun i j p q h => (by simp [cw] at h)), (fun k q h => (by simp [cw] at h))⟩ va_S.rf ⟨⟨hl.1, hl.2.1, fun i v hi => ?_⟩, fun q hq => ?_⟩
    · have := List.mem_of_getElem? hi
      simp at this
    · simp only [List.mem_cons, List.not_mem_nil, or_false] at hq
      rcases hq with rfl | rfl
      · exact ⟨hl.2.2 _ List.mem_cons_self, rfl⟩
      · exact ⟨hl.2.2 _ (List.mem_cons_of_mem _ List.mem_cons_self), rfl⟩
  · intro hcl ad H locs la2 had hP hD hS hz
    obtain ⟨ad2, had2⟩ : ∃ ad2 : Nat → Nat, ad2 = fun p => if p < 248 then ad (pm p) else z.1 := ⟨_, rfl⟩
    have h1 : ∀ p, p < 248 → ad2 p = ad (pm p) := fun p hp => by rw [had2]; exact if_pos hp
    have h2 : ad2 p_SCR = z.1 := by rw [had2]; rfl
    obtain ⟨hP2, hD2⟩ := world0 (D := g0.1) (cA := g0.2.1) (sz := g0.2.2.2.1) h1 hP hD
    obtain ⟨g, hg⟩ : ∃ g : GE, g = (g0.1, g0.2.1, ad2, g0.2.2.2.1, []) := ⟨_, rfl⟩
    have hDm : ∀ μ, va_D (fun q => g0.2.2.2.1 ≤ q) (Wd (g0.1, g0.2.1, ad2, g0.2.2.2.1, []) μ) := by
      intro μ
      have hk : ∀ (k : Nat) (q : Nat × va_E), (Wd (g0.1, g0.2.1, ad2, g0.2.2.2.1, []) μ)[k]? = some q → ∃ q0, (Wd (g0.1, g0.2.1, ad2, g0.2.2.2.1, []) (fun _ _ => 0))[k]? = some q0 ∧ q0.1 = q.1 := by
        intro k q hq
        simp only [Wd, List.getElem?_map] at hq ⊢
        cases hk : (layX ((g0.1, g0.2.1, ad2, g0.2.2.2.1, []) : GE))[k]? with
        | none => rw [hk] at hq; cases hq
        | some e =>
          rw [hk] at hq
          cases hq
          exact ⟨_, rfl, rfl⟩
      refine ⟨fun i j p q hi hj hpq => ?_, fun k q hq => ?_⟩
      · obtain ⟨p0, h3, h4⟩ := hk i p hi
        obtain ⟨q0, h5, h6⟩ := hk j q hj
        exact hD2.1 i j p0 q0 h3 h5 (h4.trans (hpq.trans h6.symm))
      · obtain ⟨q0, h3, h4⟩ := hk k q hq
        rw [← h4]
        exact hD2.2 k q0 h3
    have hcx : ∀ n, n ≤ 140000 → Cx (g0.1, g0.2.1, ad2, g0.2.2.2.1, []) f cL_mesh 14 RL 14 359 n (6 * n) := fun n hn => by
      subst hf
      exact ⟨⟨B.exec, B.bytes, hml, hown, hOm⟩, hN, hK, hDm, hz0, Nat.le_refl _, Nat.le_refl _, hn, Nat.mul_le_mul_left 6 hn⟩
    have bx : BXl (g0.1, g0.2.1, ad2, g0.2.2.2.1, []) z f := by
      subst hf
      exact ⟨hX, hNC, ⟨hsc, hsl, h2⟩, hst⟩
    have rx : RXm (g0.1, g0.2.1, ad2, g0.2.2.2.1, []) f 140000 := by
      subst hf
      exact ⟨B.notSynchronized, rfl⟩
    have hr : (f_M f).sig.returnType = some .boolean := by
      subst hf
      exact B.returns
    have hw := b_L_mesh_e (g := (g0.1, g0.2.1, ad2, g0.2.2.2.1, [])) rfl hcx bx hr rx (hpure (KK_L_mesh_48 (g0.1, g0.2.1, ad2, g0.2.2.2.1, []) f z) (KK_L_mesh_114 (g0.1, g0.2.1, ad2, g0.2.2.2.1, []) f z) (KK_L_mesh_222 (g0.1, g0.2.1, ad2, g0.2.2.2.1, []) f z) (KK_L_mesh_356 (g0.1, g0.2.1, ad2, g0.2.2.2.1, []) f z) (KK_L_mesh_403 (g0.1, g0.2.1, ad2, g0.2.2.2.1, []) f z) (fun _ _ _ _ h => b_L_mesh_48 rfl hcx bx hr rx h) (fun _ _ _ _ h => b_L_mesh_114 rfl hcx bx hr rx h) (fun _ _ _ _ h => b_L_mesh_222 rfl hcx bx hr rx h) (fun _ _ _ _ h => b_L_mesh_356 rfl hcx bx hr rx h) (fun _ _ h => b_L_mesh_403 rfl hcx bx hr rx h))
    refine k_widen (Nat.le_of_ble_eq_true rfl) (Nat.le_of_ble_eq_true rfl) hw H locs la2 hP2 hS ⟨hz.1.1, hz.1.2.1, fun i v hi => ?_⟩
    match i, hi with
    | 0, hi =>
      cases hi
      refine ⟨?_, rfl⟩
      show la2[0]? = some (.val (.ref (ad2 p_SCR)))
      rw [h2]
      exact (hz.2 (0, .ref z.1) List.mem_cons_self).1
    | 1, hi =>
      cases hi
      exact ⟨(hz.2 (1, .int x1) (List.mem_cons_of_mem _ List.mem_cons_self)).1, rfl⟩
    | 2, hi => cases hi; exact ⟨by show la2[2]? = some (.val (.ref (ad2 0))); rw [h1 0 (by decide)]; exact (hz.1.2.2 2 (.ref 0) rfl).1, rfl⟩
    | 3, hi => cases hi; exact ⟨by show la2[3]? = some (.val (.ref (ad2 21))); rw [h1 21 (by decide)]; exact (hz.1.2.2 3 (.ref 215) rfl).1, rfl⟩
    | 4, hi => cases hi; exact ⟨by show la2[4]? = some (.val (.ref (ad2 22))); rw [h1 22 (by decide)]; exact (hz.1.2.2 4 (.ref 216) rfl).1, rfl⟩
    | 5, hi => cases hi; exact ⟨by show la2[5]? = some (.val (.ref (ad2 23))); rw [h1 23 (by decide)]; exact (hz.1.2.2 5 (.ref 217) rfl).1, rfl⟩
    | 6, hi => cases hi; exact ⟨by show la2[6]? = some (.val (.ref (ad2 24))); rw [h1 24 (by decide)]; exact (hz.1.2.2 6 (.ref 218) rfl).1, rfl⟩
    | 7, hi => cases hi; exact ⟨by show la2[7]? = some (.val (.ref (ad2 25))); rw [h1 25 (by decide)]; exact (hz.1.2.2 7 (.ref 219) rfl).1, rfl⟩
    | 8, hi => cases hi; exact ⟨by show la2[8]? = some (.val (.ref (ad2 26))); rw [h1 26 (by decide)]; exact (hz.1.2.2 8 (.ref 220) rfl).1, rfl⟩
    | 9, hi => cases hi
    | 10, hi => cases hi
    | 11, hi => cases hi
    | 12, hi => cases hi
    | 13, hi => cases hi
    | k + 14, hi => simp at hi
