theorem dL_law_0 : decode cL_law 0 = .ok (.aload_n 0, 1) := by decide +kernel
theorem dL_law_1 : decode cL_law 1 = .ok (.iconst 0, 1) := by decide +kernel
theorem dL_law_2 : decode cL_law 2 = .ok (.invokestatic 138, 3) := by decide +kernel
theorem dL_law_5 : decode cL_law 5 = .ok (.ifCond .eq 26, 3) := by decide +kernel
theorem dL_law_8 : decode cL_law 8 = .ok (.aload_n 0, 1) := by decide +kernel
theorem dL_law_9 : decode cL_law 9 = .ok (.bipush 88, 2) := by decide +kernel
theorem dL_law_11 : decode cL_law 11 = .ok (.invokestatic 138, 3) := by decide +kernel
theorem dL_law_14 : decode cL_law 14 = .ok (.ifCond .eq 17, 3) := by decide +kernel
theorem dL_law_17 : decode cL_law 17 = .ok (.aload_n 0, 1) := by decide +kernel
theorem dL_law_18 : decode cL_law 18 = .ok (.sipush 176, 3) := by decide +kernel
theorem dL_law_21 : decode cL_law 21 = .ok (.invokestatic 138, 3) := by decide +kernel
theorem dL_law_24 : decode cL_law 24 = .ok (.ifCond .eq 7, 3) := by decide +kernel
theorem dL_law_27 : decode cL_law 27 = .ok (.iconst 1, 1) := by decide +kernel
theorem dL_law_28 : decode cL_law 28 = .ok (.goto 4, 3) := by decide +kernel
theorem dL_law_32 : decode cL_law 32 = .ok (.ireturn, 1) := by decide +kernel
theorem strL_ok : ∀ q ∈ strL, Cond.stringRef q.1 q.2.1 q.2.2 ∈ tables_1 ∧ Cond.exactly (.string q.1 q.2.1) "java/lang/String" ∈ flatC (Jvm.Cond.and given_1 narrow_1) := by decide +kernel
theorem ncL_ok : ∀ q ∈ ncL, Cond.not (.castable q.1 q.2) ∈ flatC (Jvm.Cond.and given_1 narrow_1) := by decide +kernel
theorem st_U : Cond.isRef (.static Bundle.tN "UNASSIGNED_STACK" Bundle.steD) ∈ flatC (Jvm.Cond.and given_1 narrow_1) := by decide +kernel
theorem st_N : Cond.isRef (.static Bundle.tN "SUPPRESSED_SENTINEL" Bundle.listD) ∈ flatC (Jvm.Cond.and given_1 narrow_1) := by decide +kernel
theorem arr_K {U : State} {A : Array Value} {ty : FieldType} (h : (Cond.arrayClass ty).before A U = true) (hp : ∀ c, U.vm.findClass ("[" ++ ty.toString) = some c → va_RA U c ty) : ∃ c, ArrOfT U c ty ∧ va_RA U c ty := by
  obtain ⟨c, k, comp, h1, h2, h3⟩ := Cond.arrayClass_spec h
  exact ⟨c, fun n z => ⟨(fun k h => (by cases h)), k, h2, comp, h3⟩, hp c h1⟩

/-- the law's frame: raw values, no world -/
def WL (f : FE) (B kc ks pc : Nat) (la : Array Slot) (st : List Value) : Prop := ∀ (H : Heap) (locs : List Loc), va_S (fun q => B ≤ q) (f_s f).heap H locs →
    W (f_p f) (f_l f) (f_e f) (f_R f) (f_s f) (f_m f) (f_a f) (f_b f) (f_M f) (f_c f) H locs kc ks (f_Q f) (F0 (f_m f) pc la st)
theorem pm_blind {g0 : GE} {z : ScT} {As : List Value} (a : Array Value) (U : State) (gf : JFrame) (mk : MethodId) (h : va_Pc As (PM g0 z) a U) : va_Pc As (PM g0 z) a (U.calling gf mk a) := by
  obtain ⟨h1, hz0, hN, hK, ⟨hO1, hO2⟩, ⟨s1, s2, s3, s4⟩, hNC, hsc, hsl⟩ := h
  refine ⟨h1, hz0, NW.same (s := U) (U := U.calling gf mk a) rfl hN, va_K.moved (u := U) (U := U.calling gf mk a) (Vm.Alike.refl U.vm) hK, ⟨va_AOA.moved (u := U) (U := U.calling gf mk a) (Vm.Alike.refl U.vm) hO1, va_AO.moved (u := U) (U := U.calling gf mk a) (Vm.Alike.refl U.vm) hO2⟩, ⟨fun w hw => ?_, fun q hq => ?_, vx_Zq.moved (u := U) (U := U.calling gf mk a) (Vm.Alike.refl U.vm) s3, vx_Zq.moved (u := U) (U := U.calling gf mk a) (Vm.Alike.refl U.vm) s4⟩, NC.moved (u := U) (U := U.calling gf mk a) (Vm.Alike.refl U.vm) hNC, hsc.moved (u := U) (U := U.calling gf mk a) (Vm.Alike.refl U.vm), hsl⟩
  · have h1 := s1 w hw
    have h2 := (List.mem_filter.mp hw).2
    cases w <;> first | exact va_Nw.same (u := U) rfl rfl h1 | (simp [isExt] at h2)
  · obtain ⟨a0, ha⟩ := s2 q hq
    exact ⟨a0, vk_R.same (u := U) rfl ha⟩
theorem wl_mesh {f : FE} {g0 : GE} {z : ScT} {x1 : Int32} {kc ks pc nL : Nat} {la : Array Slot} (hx : (f_p f).tables.exec = Jvm.exec) (hb : (f_c f).code = code) (hml : (f_c f).maxLocals = nL) (hown : (f_s f).vm.findClass RL = some (f_m f).cls) (hOm : ∀ w ∈ Om, w.before (f_a f) (f_s f) = true) (hR : f_R f = room_1) (hst : (f_l f).stackTraces = false) (hPM : PM g0 z (f_s f)) (hla : la.size = nL)
    (hpure : Wp_L_mesh z x1 (fun _ _ => 0) (fun _ => True)) (hk : kc + 140000 ≤ 702747) (hs : ks + 6 * 140000 ≤ 6993228) (d : decode code pc = .ok (.invokestatic 138, 3))
    (kk : WL f g0.2.2.2.1 (kc + 140000) (ks + 6 * 140000) (pc + 3) la [.int 1]) : WL f g0.2.2.2.1 kc ks pc la [.int x1, .ref z.1] := by
  intro H locs hS
  obtain ⟨w1, w2, w4, w5, w6⟩ := cv_L_138
  have hG : GoodIn lw_tbl (Cond.code yL_mesh cL_mesh 14 (some .boolean) :: Om) := om_good0 w5
  have hpay : ∀ w ∈ (Cond.code yL_mesh cL_mesh 14 (some .boolean) :: Om), ∀ (a2 : Array Value) (U : State), (f_s f).WarmedH U.vm → w.before a2 U = true := by
    intro w hw a2 U hW
    have hm : w ∈ Om := by rcases List.mem_cons.mp hw with rfl | h <;> assumption
    exact word_at hW (hG w hw).2 (hOm w hm)
  have hlen : ∀ sig, parseMethodDescriptor yL_mesh.desc = some sig → 2 = sig.parameters.length := fun sig h => by
    have h2 := w6.2.2
    rw [h] at h2
    exact (Option.some.inj h2).symm
  have hpre : PreS (f_s f) H (va_Pc [.ref z.1, .int x1] (PM g0 z)) [.ref z.1, .int x1] := by
    refine ⟨fun a U gf mk h => pm_blind a U gf mk h, fun U hU hW => ?_⟩
    obtain ⟨hz0, hN, hK, hO, hX, hNC, hsc, hsl⟩ := hPM
    refine ⟨rfl, by rw [hU]; exact Nat.le_trans hz0 hS.1, NW.warm hW hN, va_K.moved hW.alike hK, OV.warm hW hO, hX.go hW (by rw [hU]; exact hS), NC.moved hW.alike hNC, ?_, hsl⟩
    rw [hU]
    exact (hsc.moved hW.alike).kept (hS.2.1 z.1 (Nat.lt_of_lt_of_le hsl hz0) (Nat.not_le.mpr hsl))
  have hwr : 2 * (F0 (f_m f) pc la [.int x1, .ref z.1]).monitorRoom + (([] : List Value).map fun v => v.category).sum ≤ 8 := lv_room (Nat.zero_le _)
  have hr := va_runS (R := f_R f) (l := f_l f) (s := f_s f) (m := f_m f) (c := f_c f) (args := f_a f) (cc := code) (nL := nL) (Ts := Om) (own := RL) (As := [.ref z.1, .int x1]) (rest := []) (locs := locs) (H := H) (cells := kc) (slots := ks) (index := 138) (n := 2) ⟨hx, hb, hml, hown, hOm⟩ (m_L_mesh hst (g0 := g0) hpure) ⟨⟨rfl, rfl, by rw [hR]; exact Nat.le_of_ble_eq_true rfl, by rw [hR]; exact Nat.le_of_ble_eq_true rfl, hpay, List.mem_cons_self, hOm _ w5, hOm _ w4, ⟨w6.1, w6.2.1⟩, hlen, hOm _ ml_L_138⟩, hOm _ w2⟩ hpre (g := F0 (f_m f) pc la [.int x1, .ref z.1]) (p := f_p f) (e := f_e f) (below := f_b f) (meth := f_M f) rfl rfl hla rfl hwr d ⟨by rw [hR]; exact hk, by rw [hR]; exact hs⟩
  intro T hT X
  obtain ⟨v, st₀, t, T', L, h0, X', hL, e1, e2, ⟨hv, hz1, hk9⟩, stp⟩ := hr T hT X
  rw [h0] at hz1 hk9
  have hv2 : v = some (.int 1) := by cases hv; rfl
  subst hv2
  obtain ⟨t2, a1, b1⟩ := kk T'.heap (locs ++ L)
    ⟨Nat.le_trans hS.1 (by rw [e1]; exact hz1), fun q h1 h2 => by rw [e1, hk9 q (Nat.lt_of_lt_of_le h1 hS.1) h2]; exact hS.2.1 q h1 h2, fun q hq => by
      rcases List.mem_append.mp hq with h | h
      · exact hS.2.2 q h
      · exact hL q h⟩ T' rfl X'
  exact ⟨t2, stp t2 a1, b1⟩
set_option maxHeartbeats 4000000 in
set_option maxRecDepth 100000 in
theorem whole_start_of (hpure : ∀ (z : ScT) (x1 : Int32), z.2.1 ≤ 260 → (x1 = 0 ∨ x1 = 88 ∨ x1 = 176) → Wp_L_mesh z x1 (fun _ _ => 0) (fun _ => True)) {p : Program} {e : Env} {s : State} {m : MethodId} {below : List Frame} {meth : Method} {c : Code} (l : Launch) (hflags : l.flags = flags0) {b L : Nat} {xs : Nat → Int32} (hL : L ≤ 260) (C0 : lw_At p s m meth c b L xs) : W p l e room_1 s m #[Value.ref b] below meth c s.heap [] 0 0 (lw_Z below #[Value.ref b] s) (entryFrame m ([Value.ref b] : List Value).toArray 1) := by
  obtain ⟨hx, hb, hr, hml, hown, hts, hX, hbl, hlocks, hgv⟩ := C0
  have htab : ∀ w ∈ tables_1, w.before #[Value.ref b] s = true := fun w hw => hts w (List.mem_append_right _ hw)
  have hOm : ∀ w ∈ Om, w.before #[Value.ref b] s = true := fun w hw => hts w (List.mem_filter.mp hw).1
  have hs := flat_of_before _ hgv
  have hNW : NW s := by
    intro w hw
    obtain ⟨h1, h2⟩ := List.mem_filter.mp hw
    have h3 := htab w h1
    cases w <;> first | exact va_Nw.of rfl h3 | (simp [isNest] at h2)
  have hEW : EW s := by
    intro w hw
    obtain ⟨h1, h2⟩ := List.mem_filter.mp hw
    have h3 := htab w h1
    cases w <;> first | exact va_Nw.of rfl h3 | (simp [isExt] at h2)
  have hA0 : ∀ a : Nat, a < s.heap.size → ¬ (fun q : Nat => s.heap.size ≤ q) a := fun a ha h => absurd ha (Nat.not_lt.mpr h)
  have hstr : ∀ q ∈ strL, ∃ a, vk_R q.1 q.2.1 q.2.2 a s := by
    intro q hq
    obtain ⟨h1, h2⟩ := strL_ok q hq
    obtain ⟨a, -, -, -, h3, -⟩ := Cond.exactly_spec (hs _ h2)
    exact ⟨a, vk_R.of (htab _ h1) h3⟩
  have hU := vx_Zqof (A := fun q : Nat => s.heap.size ≤ q) (htab (.laysStatic Bundle.tN "UNASSIGNED_STACK" Bundle.steD) (List.mem_of_getElem? (i := 343) (by decide +kernel))) (htab (.initialized Bundle.tN) (by decide +kernel)) (hs _ st_U) hA0
  have hN := vx_Zqof (A := fun q : Nat => s.heap.size ≤ q) (htab (.laysStatic Bundle.tN "SUPPRESSED_SENTINEL" Bundle.listD) (List.mem_of_getElem? (i := 345) (by decide +kernel))) (htab (.initialized Bundle.tN) (by decide +kernel)) (hs _ st_N) hA0
  have hNC : NC s := fun q hq => va_Nc.of (hs _ (ncL_ok q hq))
  have hO1 : va_AOA .int s := va_AOA.of (htab (.arrayOver (.array .int)) (List.mem_of_getElem? (i := 35) (by decide +kernel)))
  have hO2 : va_AO "MeshLodger$Request" s := va_AO.of (htab (.arrayOver (.object "MeshLodger$Request")) (List.mem_of_getElem? (i := 192) (by decide +kernel)))
  obtain ⟨c0, iS0, hKn0⟩ := u_known (C := RX0) (T := TX0) (N := 6) hOm in_X0 (hts (.instantiable RX0 6) (by decide +kernel))
  obtain ⟨c1, iS1, hKn1⟩ := u_known (C := RX1) (T := TX1) (N := 3) hOm in_X1 (hts (.instantiable RX1 3) (by decide +kernel))
  obtain ⟨c2, iS2, hKn2⟩ := u_known (C := RX2) (T := TX2) (N := 9) hOm in_X2 (hts (.instantiable RX2 9) (by decide +kernel))
  obtain ⟨c3, iS3, hKn3⟩ := u_known (C := RX3) (T := TX3) (N := 4) hOm in_X3 (hts (.instantiable RX3 4) (by decide +kernel))
  obtain ⟨c4, iS4, hKn4⟩ := u_known (C := RX4) (T := TX4) (N := 4) hOm in_X4 (hts (.instantiable RX4 4) (by decide +kernel))
  obtain ⟨c5, iS5, hKn5⟩ := u_known (C := RX5) (T := TX5) (N := 15) hOm in_X5 (hts (.instantiable RX5 15) (by decide +kernel))
  obtain ⟨c6, iS6, hKn6⟩ := u_known (C := RX6) (T := TX6) (N := 9) hOm in_X6 (hts (.instantiable RX6 9) (by decide +kernel))
  obtain ⟨c7, iS7, hKn7⟩ := u_known (C := RX7) (T := TX7) (N := 8) hOm in_X7 (hts (.instantiable RX7 8) (by decide +kernel))
  obtain ⟨dC, dI, hKc⟩ : ∃ (dC : Nat → ClassId) (dI : Nat → Nat → Nat), ∀ (k : Nat) (q : vw_C), vwCl[k]? = some q → u_Kn s q.1 q.2.1 q.2.2 (dC k) (dI k) := by
    refine ⟨fun k => match k with | 0 => c0 | 1 => c1 | 2 => c2 | 3 => c3 | 4 => c4 | 5 => c5 | 6 => c6 | _ => c7, fun k => match k with | 0 => iS0 | 1 => iS1 | 2 => iS2 | 3 => iS3 | 4 => iS4 | 5 => iS5 | 6 => iS6 | _ => iS7, ?_⟩
    intro k q hq
    match k, hq with
    | 0, hq => cases hq; exact hKn0
    | 1, hq => cases hq; exact hKn1
    | 2, hq => cases hq; exact hKn2
    | 3, hq => cases hq; exact hKn3
    | 4, hq => cases hq; exact hKn4
    | 5, hq => cases hq; exact hKn5
    | 6, hq => cases hq; exact hKn6
    | 7, hq => cases hq; exact hKn7
    | k + 8, hq => simp [vwCl] at hq
  obtain ⟨cA, hcA⟩ : ∃ cA : Nat → ClassId, ∀ (k : Nat) (q : ClassId × FieldType), ([(cA 0, .int), (cA 1, .int), (cA 2, .int), (cA 3, .array .int), (cA 4, .object "MeshLodger$Request")] : List (ClassId × FieldType))[k]? = some q → ArrOfT s q.1 q.2 ∧ va_RA s q.1 q.2 := by
    obtain ⟨a0, h0⟩ := arr_K (ty := .int) (hOm _ ac_I) (fun c h => h)
    obtain ⟨comp3, a3, k3, h31, -, h33, h34, h35⟩ := aoa_spec hO1
    obtain ⟨comp4, a4, k4, h41, -, h43, h44, h45⟩ := Cond.arrayOver_spec (va_AO.use (A := #[]) hO2)
    refine ⟨fun k => match k with | 0 => a0 | 1 => a0 | 2 => a0 | 3 => a3 | _ => a4, ?_⟩
    intro k q hq
    match k, hq with
    | 0, hq => cases hq; exact h0
    | 1, hq => cases hq; exact h0
    | 2, hq => cases hq; exact h0
    | 3, hq => cases hq; exact ⟨fun n z => ⟨(fun k h => (by cases h)), k3, h33, comp3, h34⟩, h35⟩
    | 4, hq => cases hq; exact ⟨fun n z => ⟨(fun k h => (by cases h)), k4, h43, comp4, h44⟩, k4, comp4, h43, h44, h41, h45⟩
    | k + 5, hq => simp at hq
  have hst : l.stackTraces = false := by unfold Launch.stackTraces; rw [hflags]; decide +kernel
  obtain ⟨z, hz⟩ : ∃ z : ScT, z = (b, L, xs) := ⟨_, rfl⟩
  obtain ⟨g0, hg0⟩ : ∃ g0 : GE, g0 = ((dC, dI), cA, (fun _ => 0), s.heap.size, []) := ⟨_, rfl⟩
  obtain ⟨f, hf⟩ : ∃ f : FE, f = (p, l, e, room_1, s, m, #[Value.ref b], below, meth, c, lw_Z below #[Value.ref b] s) := ⟨_, rfl⟩
  have hPM : PM g0 z (f_s f) := by
    subst hf hg0 hz
    exact ⟨Nat.le_refl _, hNW, ⟨hKc, hcA⟩, ⟨hO1, hO2⟩, ⟨hEW, hstr, hU, hN⟩, hNC, hX, hbl⟩
  have hl := lv_entry ([.ref b]) (n := 1) (Nat.le_of_ble_eq_true rfl)
  rw [lg_entry_eq]
  generalize (lg_sl ([.ref b]) ++ List.replicate (1 - (lg_sl ([.ref b])).length) Slot.unset).toArray = la at hl ⊢
  have hl : lv_has la 1 [(0, .ref b)] := hl
  have hl0 : la[0]? = some (.val (.ref b)) := hl.2.2 _ List.mem_cons_self
  have hb0 : z.1 = b := by rw [hz]
  have hB : g0.2.2.2.1 = s.heap.size := by rw [hg0]
  have hz9 : z.2.1 ≤ 260 := by rw [hz]; exact hL
  have call : ∀ {x1 : Int32} {kc ks pc : Nat}, (x1 = 0 ∨ x1 = 88 ∨ x1 = 176) → kc + 140000 ≤ 702747 → ks + 6 * 140000 ≤ 6993228 → decode code pc = .ok (.invokestatic 138, 3) → WL f g0.2.2.2.1 (kc + 140000) (ks + 6 * 140000) (pc + 3) la [.int 1] → WL f g0.2.2.2.1 kc ks pc la [.int x1, .ref z.1] := by
    intro x1 kc ks pc hx1 hk hs d kk
    exact wl_mesh (nL := 1) (by subst hf; exact hx) (by subst hf; exact hb) (by subst hf; exact hml) (by subst hf; exact hown) (by subst hf; exact hOm) (by subst hf; rfl) (by subst hf; exact hst) hPM hl.1 (hpure z x1 hz9 hx1) hk hs d kk
  have fx : (f_p f).tables.exec = Jvm.exec := by subst hf; exact hx
  have fb : (f_c f).code = code := by subst hf; exact hb
  have last : WL f g0.2.2.2.1 (0 + 140000 + 140000 + 140000) (0 + 6 * 140000 + 6 * 140000 + 6 * 140000) 24 la [.int 1] := by
    intro H locs hS
    refine lv_if_eq fx fb dL_law_24 (tgt := 31) (by decide) (fun h => absurd h (by decide)) (fun _ => ?_)
    refine lv_iconst (v := (1 : Int32)) fx fb dL_law_27 (by decide +kernel) ?_
    refine lv_goto fx fb dL_law_28 (tgt := 32) (by decide) ?_
    subst hf
    refine va_forget (fun q hq => by have := hS.2.2 q hq; rw [hB] at this; exact this) ?_
    refine W.widen (k := 702747) (n := 6993228) (by omega) (by omega) ?_
    exact lw_ret hx hb hr hlocks dL_law_32
  have third : WL f g0.2.2.2.1 (0 + 140000 + 140000) (0 + 6 * 140000 + 6 * 140000) 14 la [.int 1] := by
    intro H locs hS
    refine lv_if_eq fx fb dL_law_14 (tgt := 31) (by decide) (fun h => absurd h (by decide)) (fun _ => ?_)
    refine lv_aload_n fx fb dL_law_17 rfl hl0 ?_
    refine lv_sipush (v := (176 : Int32)) fx fb dL_law_18 (by decide +kernel) ?_
    have h9 := call (Or.inr (Or.inr rfl)) (by omega) (by omega) dL_law_21 last
    rw [hb0] at h9
    exact h9 H locs hS
  have second : WL f g0.2.2.2.1 (0 + 140000) (0 + 6 * 140000) 5 la [.int 1] := by
    intro H locs hS
    refine lv_if_eq fx fb dL_law_5 (tgt := 31) (by decide) (fun h => absurd h (by decide)) (fun _ => ?_)
    refine lv_aload_n fx fb dL_law_8 rfl hl0 ?_
    refine lv_bipush (v := (88 : Int32)) fx fb dL_law_9 (by decide +kernel) ?_
    have h9 := call (Or.inr (Or.inl rfl)) (by omega) (by omega) dL_law_11 third
    rw [hb0] at h9
    exact h9 H locs hS
  have first : WL f g0.2.2.2.1 0 0 0 la [] := by
    intro H locs hS
    refine lv_aload_n fx fb dL_law_0 rfl hl0 ?_
    refine lv_iconst (v := (0 : Int32)) fx fb dL_law_1 (by decide +kernel) ?_
    have h9 := call (Or.inl rfl) (by omega) (by omega) dL_law_2 second
    rw [hb0] at h9
    exact h9 H locs hS
  have h9 := first s.heap [] (by subst hf; exact va_S.rf)
  subst hf
  exact h9
