/-! the claim, out of a pure statement about the methods' meanings -/
/-- every call of the law keeps an invariant, and class and reference answer alike -/
def LawP (L : Nat) (xs : Nat → Int32) : Prop := ∃ I : Mm → Prop, I (fun _ _ => 0) ∧ ∀ (μ : Mm) (i : Nat) (K : Int32 → Mm → Prop), I μ → 4 * i + 4 ≤ L → (∀ μ2, I μ2 → K (nI (4 * i) + 4) μ2) → F_law_h K L xs (nI (4 * i)) μ
theorem lp_exit {L i : Nat} (hL : L < 4 * i + 4) (hi : 4 * i ≤ 2048) : (Int32.ofNat L) - (4 : Int32) < nI (4 * i) := by
  have h1 := pk_sub_toInt (a := L) (b := 4) (by omega) (by omega)
  rw [Int32.lt_iff_toInt_lt]
  have h2 := nI_toInt (n := 4 * i) (by omega)
  have h3 : (Int32.ofNat L) - (4 : Int32) = nI L - nI 4 := rfl
  rw [h3, h1, h2]
  omega
theorem law_loopW {g : GE} {f : FE} {b L : Nat} {xs : Nat → Int32} (lx : LX g f b L xs) (hL : L ≤ 2048) (hcx : ∀ kc ks, kc ≤ 619652 → ks ≤ 7237147 → Cx g f code 7 "MeshLodgerLaw" 2048 84000 kc ks) {I : Mm → Prop}
    (hI : ∀ (μ : Mm) (i : Nat) (K : Int32 → Mm → Prop), I μ → 4 * i + 4 ≤ L → (∀ μ2, I μ2 → K (nI (4 * i) + 4) μ2) → F_law_h K L xs (nI (4 * i)) μ) :
    ∀ (n i : Nat) (μ : Mm), i + n = 512 → I μ → KW g f 7 (248 + i) (2208 + 6 * i) 23 [some (.ref p_SCR), some (.ref p_ML), some (.ref p_MO), some (.ref p_OUT), some (.int (nI (4 * i))), none, none] [] μ := by
  intro n
  induction n with
  | zero =>
    intro i μ hi hm
    refine b_law_h lx (hcx _ _ (by omega) (by omega)) (hcx _ _ (by omega) (by omega)) (by omega) (by omega) ?_
    exact ⟨fun _ => trivial, fun hc => absurd (lp_exit (by omega) (by omega)) hc⟩
  | succ n ih =>
    intro i μ hi hm
    refine b_law_h lx (hcx _ _ (by omega) (by omega)) (hcx _ _ (by omega) (by omega)) (by omega) (by omega) ?_
    by_cases hx : 4 * i + 4 ≤ L
    · refine hI μ i _ hm hx (fun μ2 h2 => ?_)
      have h := ih (i + 1) μ2 (by omega) h2
      have e1 : nI (4 * i) + 4 = nI (4 * (i + 1)) := nI_add (4 * i) 4
      rw [e1]
      exact h
    · exact ⟨fun _ => trivial, fun hc => absurd (lp_exit (by omega) (by omega)) hc⟩
theorem strL_ok : ∀ q ∈ strL, Cond.stringRef q.1 q.2.1 q.2.2 ∈ tables_1 ∧ Cond.exactly (.string q.1 q.2.1) "java/lang/String" ∈ flatC (Jvm.Cond.and given_1 narrow_1) := by decide +kernel
theorem ncL_ok : ∀ q ∈ ncL, Cond.not (.castable q.1 q.2) ∈ flatC (Jvm.Cond.and given_1 narrow_1) := by decide +kernel
theorem st_U : Cond.isRef (.static Bundle.tN "UNASSIGNED_STACK" Bundle.steD) ∈ flatC (Jvm.Cond.and given_1 narrow_1) := by decide +kernel
theorem st_N : Cond.isRef (.static Bundle.tN "SUPPRESSED_SENTINEL" Bundle.listD) ∈ flatC (Jvm.Cond.and given_1 narrow_1) := by decide +kernel
theorem arr_K {U : State} {A : Array Value} {ty : FieldType} (h : (Cond.arrayClass ty).before A U = true) (hp : ∀ c, U.vm.findClass ("[" ++ ty.toString) = some c → va_RA U c ty) : ∃ c, ArrOfT U c ty ∧ va_RA U c ty := by
  obtain ⟨c, k, comp, h1, h2, h3⟩ := Cond.arrayClass_spec h
  exact ⟨c, fun n z => ⟨(fun k h => (by cases h)), k, h2, comp, h3⟩, hp c h1⟩
set_option maxHeartbeats 4000000 in
set_option maxRecDepth 100000 in
theorem whole_start_of (hpure : ∀ (L : Nat) (xs : Nat → Int32), L ≤ 2048 → LawP L xs) {p : Program} {e : Env} {s : State} {m : MethodId} {below : List Frame} {meth : Method} {c : Code} (l : Launch) (hflags : l.flags = flags0) {b L : Nat} {xs : Nat → Int32} (hL : L ≤ 2048) (C0 : lw_At p s m meth c b L xs) : W p l e room_1 s m #[Value.ref b] below meth c s.heap [] 0 0 (lw_Z below #[Value.ref b] s) (entryFrame m ([Value.ref b] : List Value).toArray 7) := by
  obtain ⟨hx, hb, hr, hml, hown, hts, hX, hbl, hlocks, hgv⟩ := C0
  have htab : ∀ w ∈ tables_1, w.before #[Value.ref b] s = true := fun w hw => hts w (List.mem_append_right _ hw)
  have hOm : ∀ w ∈ Om, w.before #[Value.ref b] s = true := fun w hw => hts w (List.mem_filter.mp hw).1
  have hs := flat_of_before _ hgv
  have hNW : NW s := by
    intro w hw
    obtain ⟨h1, h2⟩ := List.mem_filter.mp hw
    have h3 := htab w h1
    cases w <;> first | exact va_Nw.of rfl h3 | (simp [isNest] at h2)
  have hEW : EW s := by
    intro w hw
    obtain ⟨h1, h2⟩ := List.mem_filter.mp hw
    have h3 := htab w h1
    cases w <;> first | exact va_Nw.of rfl h3 | (simp [isExt] at h2)
  have hA0 : ∀ a : Nat, a < s.heap.size → ¬ (fun q : Nat => s.heap.size ≤ q) a := fun a ha h => absurd ha (Nat.not_lt.mpr h)
  have hst : ∀ q ∈ strL, ∃ a, vk_R q.1 q.2.1 q.2.2 a s := by
    intro q hq
    obtain ⟨h1, h2⟩ := strL_ok q hq
    obtain ⟨a, -, -, -, h3, -⟩ := Cond.exactly_spec (hs _ h2)
    exact ⟨a, vk_R.of (htab _ h1) h3⟩
  have hU := vx_Zqof (A := fun q : Nat => s.heap.size ≤ q) (htab (.laysStatic Bundle.tN "UNASSIGNED_STACK" Bundle.steD) (List.mem_of_getElem? (i := 494) (by decide +kernel))) (htab (.initialized Bundle.tN) (by decide +kernel)) (hs _ st_U) hA0
  have hN := vx_Zqof (A := fun q : Nat => s.heap.size ≤ q) (htab (.laysStatic Bundle.tN "SUPPRESSED_SENTINEL" Bundle.listD) (List.mem_of_getElem? (i := 496) (by decide +kernel))) (htab (.initialized Bundle.tN) (by decide +kernel)) (hs _ st_N) hA0
  have hNC : NC s := fun q hq => va_Nc.of (hs _ (ncL_ok q hq))
  have hO1 : va_AOA .int s := va_AOA.of (htab (.arrayOver (.array .int)) (List.mem_of_getElem? (i := 33) (by decide +kernel)))
  have hO2 : va_AO "MeshLodger$Request" s := va_AO.of (htab (.arrayOver (.object "MeshLodger$Request")) (List.mem_of_getElem? (i := 190) (by decide +kernel)))
  obtain ⟨c0, iS0, hKn0⟩ := u_known (C := RX0) (T := TX0) (N := 6) hOm in_X0 (hts (.instantiable RX0 6) (by decide +kernel))
  obtain ⟨c1, iS1, hKn1⟩ := u_known (C := RX1) (T := TX1) (N := 3) hOm in_X1 (hts (.instantiable RX1 3) (by decide +kernel))
  obtain ⟨c2, iS2, hKn2⟩ := u_known (C := RX2) (T := TX2) (N := 9) hOm in_X2 (hts (.instantiable RX2 9) (by decide +kernel))
  obtain ⟨c3, iS3, hKn3⟩ := u_known (C := RX3) (T := TX3) (N := 4) hOm in_X3 (hts (.instantiable RX3 4) (by decide +kernel))
  obtain ⟨c4, iS4, hKn4⟩ := u_known (C := RX4) (T := TX4) (N := 4) hOm in_X4 (hts (.instantiable RX4 4) (by decide +kernel))
  obtain ⟨c5, iS5, hKn5⟩ := u_known (C := RX5) (T := TX5) (N := 15) hOm in_X5 (hts (.instantiable RX5 15) (by decide +kernel))
  obtain ⟨c6, iS6, hKn6⟩ := u_known (C := RX6) (T := TX6) (N := 9) hOm in_X6 (hts (.instantiable RX6 9) (by decide +kernel))
  obtain ⟨c7, iS7, hKn7⟩ := u_known (C := RX7) (T := TX7) (N := 8) hOm in_X7 (hts (.instantiable RX7 8) (by decide +kernel))
  obtain ⟨c8, iS8, hKn8⟩ := u_known (C := RX8) (T := TX8) (N := 36) hOm in_X8 (hts (.instantiable RX8 36) (by decide +kernel))
  obtain ⟨dC, dI, hKc⟩ : ∃ (dC : Nat → ClassId) (dI : Nat → Nat → Nat), ∀ (k : Nat) (q : vw_C), vwCl[k]? = some q → u_Kn s q.1 q.2.1 q.2.2 (dC k) (dI k) := by
    refine ⟨fun k => match k with | 0 => c0 | 1 => c1 | 2 => c2 | 3 => c3 | 4 => c4 | 5 => c5 | 6 => c6 | 7 => c7 | _ => c8, fun k => match k with | 0 => iS0 | 1 => iS1 | 2 => iS2 | 3 => iS3 | 4 => iS4 | 5 => iS5 | 6 => iS6 | 7 => iS7 | _ => iS8, ?_⟩
    intro k q hq
    match k, hq with
    | 0, hq => cases hq; exact hKn0
    | 1, hq => cases hq; exact hKn1
    | 2, hq => cases hq; exact hKn2
    | 3, hq => cases hq; exact hKn3
    | 4, hq => cases hq; exact hKn4
    | 5, hq => cases hq; exact hKn5
    | 6, hq => cases hq; exact hKn6
    | 7, hq => cases hq; exact hKn7
    | 8, hq => cases hq; exact hKn8
    | k + 9, hq => simp [vwCl] at hq
  obtain ⟨cA, hcA⟩ : ∃ cA : Nat → ClassId, ∀ (k : Nat) (q : ClassId × FieldType), ([(cA 0, .int), (cA 1, .boolean), (cA 2, .long), (cA 3, .array .int), (cA 4, .object "MeshLodger$Request")] : List (ClassId × FieldType))[k]? = some q → ArrOfT s q.1 q.2 ∧ va_RA s q.1 q.2 := by
    obtain ⟨a0, h0⟩ := arr_K (ty := .int) (hOm _ ac_I) (fun c h => h)
    obtain ⟨a1, h1⟩ := arr_K (ty := .boolean) (hOm _ ac_Z) (fun c h => h)
    obtain ⟨a2, h2⟩ := arr_K (ty := .long) (hOm _ ac_J) (fun c h => h)
    obtain ⟨comp3, a3, k3, h31, -, h33, h34, h35⟩ := aoa_spec hO1
    obtain ⟨comp4, a4, k4, h41, -, h43, h44, h45⟩ := Cond.arrayOver_spec (va_AO.use (A := #[]) hO2)
    refine ⟨fun k => match k with | 0 => a0 | 1 => a1 | 2 => a2 | 3 => a3 | _ => a4, ?_⟩
    intro k q hq
    match k, hq with
    | 0, hq => cases hq; exact h0
    | 1, hq => cases hq; exact h1
    | 2, hq => cases hq; exact h2
    | 3, hq => cases hq; exact ⟨fun n z => ⟨(fun k h => (by cases h)), k3, h33, comp3, h34⟩, h35⟩
    | 4, hq => cases hq; exact ⟨fun n z => ⟨(fun k h => (by cases h)), k4, h43, comp4, h44⟩, k4, comp4, h43, h44, h41, h45⟩
    | k + 5, hq => simp at hq
  obtain ⟨I, hI0, hI⟩ := hpure L xs hL
  have hl := lv_entry ([.ref b]) (n := 7) (Nat.le_of_ble_eq_true rfl)
  rw [lg_entry_eq]
  generalize (lg_sl ([.ref b]) ++ List.replicate (7 - (lg_sl ([.ref b])).length) Slot.unset).toArray = la at hl ⊢
  have hl : lv_has la 7 [(0, .ref b)] := hl
  have key := law_ctors (g := ((dC, dI), cA, s.heap.size, (fun _ => 0), 0)) (f := (p, l, e, room_1, s, m, #[Value.ref b], below, meth, c, lw_Z below #[Value.ref b] s)) (b := b)
    ⟨⟨hx, hb, hml, hown, hOm⟩, hNW, ⟨hKc, hcA⟩, ⟨hO1, hO2⟩, Nat.le_refl _, Nat.le_refl _, Nat.le_refl _, Nat.le_refl _, Nat.le_refl _⟩ ?_
  · refine key ⟨Nat.le_refl _, (fun e he => (by cases he)), (fun v hv => (by simp at hv)), (fun v hv => (by cases hv))⟩ (fun _ => 0) s.heap [] la (fun _ _ => rfl) (fun k q h => by simp [cw] at h) ⟨(fun i j p q h => (by simp [cw] at h)), (fun k q h => (by simp [cw] at h))⟩ va_S.rf ⟨⟨hl.1, hl.2.1, fun i v hi => ?_⟩, fun q hq => ?_⟩
    · have := List.mem_of_getElem? hi
      simp at this
    · rw [List.mem_singleton] at hq
      subst hq
      exact ⟨hl.2.2 _ List.mem_cons_self, rfl⟩
  · intro hcl ad H locs la2 had hP hD hS hz
    obtain ⟨ad2, had2⟩ : ∃ ad2 : Nat → Nat, ad2 = fun p => if p < 248 then ad (pm p) else b := ⟨_, rfl⟩
    have h1 : ∀ p, p < 248 → ad2 p = ad (pm p) := fun p hp => by rw [had2]; exact if_pos hp
    have h2 : ad2 p_SCR = b := by rw [had2]; rfl
    obtain ⟨hP2, hD2⟩ := world0 (D := (dC, dI)) (cA := cA) (sz := s.heap.size) h1 hP hD
    have hDm : ∀ μ, va_D (fun q => s.heap.size ≤ q) (Wd ((dC, dI), cA, ad2, s.heap.size) μ) := by
      intro μ
      have hk : ∀ (k : Nat) (q : Nat × va_E), (Wd ((dC, dI), cA, ad2, s.heap.size) μ)[k]? = some q → ∃ q0, (Wd ((dC, dI), cA, ad2, s.heap.size) (fun _ _ => 0))[k]? = some q0 ∧ q0.1 = q.1 := by
        intro k q hq
        simp only [Wd, List.getElem?_mapIdx] at hq ⊢
        cases hk : lays[k]? with
        | none => rw [hk] at hq; cases hq
        | some e =>
          rw [hk] at hq
          cases hq
          exact ⟨_, rfl, rfl⟩
      refine ⟨fun i j p q hi hj hpq => ?_, fun k q hq => ?_⟩
      · obtain ⟨p0, h3, h4⟩ := hk i p hi
        obtain ⟨q0, h5, h6⟩ := hk j q hj
        exact hD2.1 i j p0 q0 h3 h5 (h4.trans (hpq.trans h6.symm))
      · obtain ⟨q0, h3, h4⟩ := hk k q hq
        rw [← h4]
        exact hD2.2 k q0 h3
    have lx : LX ((dC, dI), cA, ad2, s.heap.size) (p, l, e, room_1, s, m, #[Value.ref b], below, meth, c, lw_Z below #[Value.ref b] s) b L xs :=
      ⟨⟨hEW, hst, hU, hN⟩, hNC, (by show l.stackTraces = false; unfold Launch.stackTraces; rw [hflags]; decide +kernel), hX, hbl, rfl, rfl, h2, hr, hlocks, rfl, rfl⟩
    have hcx : ∀ kc ks, kc ≤ 619652 → ks ≤ 7237147 → Cx ((dC, dI), cA, ad2, s.heap.size) (p, l, e, room_1, s, m, #[Value.ref b], below, meth, c, lw_Z below #[Value.ref b] s) code 7 "MeshLodgerLaw" 2048 84000 kc ks :=
      fun kc ks h3 h4 => ⟨⟨hx, hb, hml, hown, hOm⟩, hNW, ⟨hKc, hcA⟩, hDm, Nat.le_refl _, Nat.le_refl _, Nat.le_refl _, h3, h4⟩
    have hw := law_loopW lx hL hcx hI 512 0 (fun _ _ => 0) rfl hI0
    refine hw H locs la2 hP2 hS ⟨hz.1.1, hz.1.2.1, fun i v hi => ?_⟩
    match i, hi with
    | 0, hi =>
      cases hi
      refine ⟨?_, rfl⟩
      show la2[0]? = some (.val (.ref (ad2 p_SCR)))
      rw [h2]
      exact (hz.2 (0, .ref b) List.mem_cons_self).1
    | 1, hi => cases hi; exact ⟨by show la2[1]? = some (.val (.ref (ad2 0))); rw [h1 0 (by decide)]; exact (hz.1.2.2 1 (.ref 0) rfl).1, rfl⟩
    | 2, hi => cases hi; exact ⟨by show la2[2]? = some (.val (.ref (ad2 6))); rw [h1 6 (by decide)]; exact (hz.1.2.2 2 (.ref 215) rfl).1, rfl⟩
    | 3, hi => cases hi; exact ⟨by show la2[3]? = some (.val (.ref (ad2 56))); rw [h1 56 (by decide)]; exact (hz.1.2.2 3 (.ref 247) rfl).1, rfl⟩
    | 4, hi => cases hi; exact ⟨(hz.1.2.2 4 (.int 0) rfl).1, rfl⟩
    | 5, hi => cases hi
    | 6, hi => cases hi
    | k + 7, hi => simp at hi
