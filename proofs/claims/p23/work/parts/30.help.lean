/-! the law's own helpers: they call a method that may throw, and catch -/
def eA : String := "java/lang/IllegalArgumentException"
def eS : String := "java/lang/IllegalStateException"
def eB : String := "java/lang/IndexOutOfBoundsException"
def ncL : List (String × String) := [("java/lang/IllegalStateException", "java/lang/IllegalArgumentException"), ("java/lang/IllegalArgumentException", "java/lang/IllegalStateException"), ("java/lang/IllegalArgumentException", "java/lang/IndexOutOfBoundsException"), ("java/lang/IllegalStateException", "java/lang/IndexOutOfBoundsException"), ("java/lang/IndexOutOfBoundsException", "java/lang/IllegalArgumentException"), ("java/lang/IndexOutOfBoundsException", "java/lang/IllegalStateException")]
def NC (U : State) : Prop := ∀ q ∈ ncL, va_Nc q.1 q.2 U
theorem NC.moved {u U : State} (hvm : u.vm.Alike U.vm) (h : NC u) : NC U := fun q hq => va_Nc.moved hvm (h q hq)
def PH (g : GE) (μ : Mm) (U : State) : Prop := PX g μ U ∧ NC U
def MH (g : GE) (l : Launch) (y : MethodName) (b : ByteArray) (mL : Nat) (ret : Option FieldType) (hh : List (Nat × Nat × Nat × Nat)) (fr lo : Nat) (As : List Value) (μ : Mm) (q : Qo) : Prop :=
  Met l y (Cond.codeWith y b mL ret hh :: Om) { frames := fr, cells := 1, slots := 6, locals := lo } (va_Pc (As.map (ren g.2.2.1)) (PH g μ)) (QW g q) 1 6 (fun q => g.2.2.2.1 ≤ q)
def HX (g : GE) (f : FE) (hh : List (Nat × Nat × Nat × Nat)) (q : Qo) : Prop := SX g (f_s f) ∧ NC (f_s f) ∧ 1 ≤ (f_R f).cells ∧ 6 ≤ (f_R f).slots ∧ (f_l f).stackTraces = false ∧ (f_c f).exceptionTable.toList = tableOf hh ∧ (f_M f).locks = false ∧ f_Q f = MQ (f_b f) (QW g q) (f_a f) (f_s f) 1 6 (fun q => g.2.2.2.1 ≤ q)
theorem hmet_of {g : GE} {l : Launch} {y : MethodName} {b : ByteArray} {mL fr lo : Nat} {ret : Option FieldType} {hh : List (Nat × Nat × Nat × Nat)} {As : List Value} {μ : Mm} {q : Qo} (hst : l.stackTraces = false) (hy : plainName y.cls = true) (hn : As.length ≤ mL) (hc : ∀ v ∈ As, v.category = 1)
    (h : ∀ f : FE, f_l f = l → Cx g f b mL y.cls fr lo 0 0 → Cx g f b mL y.cls fr lo 1 6 → (f_M f).sig.returnType = ret → HX g f hh q → KW g f mL 0 0 0 (As.map some ++ List.replicate (mL - As.length) none) [] μ) : MH g l y b mL ret hh fr lo As μ q := by
  refine va_MetW (cc := b) (maxL := mL) (ret := ret) (hh := hh) hy rfl ?_
  intro p e s m args below meth c s₁ B hml hv
  obtain ⟨rfl, ⟨⟨hP, hK, hN, hD, hz⟩, hX⟩, hNC⟩ := hv
  have hts := atoms_spec (ws := Cond.codeWith y b mL ret hh :: Om) B.pre
  have hown : s.vm.findClass y.cls = some m.cls := findClass_of_methodNamed B.named
  have htb := vx_table (x := y) B (hts _ List.mem_cons_self)
  have h1 := h (p, l, e, (headSpec (Cond.codeWith y b mL ret hh :: Om) { frames := fr, cells := 1, slots := 6, locals := lo }).room, s, m, (As.map (ren g.2.2.1)).toArray, below, meth, c, MQ below (QW g q) (As.map (ren g.2.2.1)).toArray s 1 6 (fun q => g.2.2.2.1 ≤ q)) rfl
    ⟨⟨B.exec, B.bytes, hml, hown, fun w hw => hts w (List.mem_cons_of_mem _ hw)⟩, hN, hK, hD, hz, Nat.le_refl _, Nat.le_refl _, Nat.zero_le _, Nat.zero_le _⟩
    ⟨⟨B.exec, B.bytes, hml, hown, fun w hw => hts w (List.mem_cons_of_mem _ hw)⟩, hN, hK, hD, hz, Nat.le_refl _, Nat.le_refl _, Nat.le_refl _, Nat.le_refl _⟩ B.returns ⟨hX, hNC, Nat.le_refl _, Nat.le_refl _, hst, htb, B.notSynchronized, rfl⟩
  rw [lg_entry_eq]
  exact h1 s.heap [] _ hP va_S.rf (lz_entry g.2.2.1 As hn hc)
theorem lz_setN {ad : Nat → Nat} {la la2 : Array Slot} {nL i : Nat} {w : Value} {ls : List (Option Value)} (h : lz ad la nL ls)
    (h2 : lv_has la2 nL ((i, w) :: (tl ad ls).filter (fun q => !(q.1 == i) && !(q.1 + 1 == i && q.2.category == 2)))) : lz ad la2 nL (ls.set i none) := by
  refine ⟨h2.1, h2.2.1, fun j v hj => ?_⟩
  rw [List.getElem?_set] at hj
  by_cases hij : i = j
  · subst hij
    rw [if_pos rfl] at hj
    split at hj <;> cases hj
  · rw [if_neg hij] at hj
    have hc := (h.2.2 _ _ hj).2
    refine ⟨h2.2.2 (j, ren ad v) (List.mem_cons_of_mem _ (List.mem_filter.mpr ⟨tl_mem.mpr ⟨v, hj, rfl⟩, ?_⟩)), hc⟩
    simp [Ne.symm hij, ren_cat, hc]
section K4
variable {g : GE} {f : FE} {cc : ByteArray} {nL : Nat} {own : String} {fr lo kc ks pc : Nat} {ls : List (Option Value)} {st : List Value} {μ : Mm}
theorem k_hret_I {hh : List (Nat × Nat × Nat × Nat)} {q : Int32 → Mm → Prop} {x : Int32} (cx : Cx g f cc nL own fr lo 1 6) (hr : (f_M f).sig.returnType = some .int) (hx : HX g f hh (qI q)) (d : decode cc pc = .ok (.ireturn, 1)) (hq : q x μ) : KW g f nL 1 6 pc ls [.int x] μ := by
  intro H locs la hP hS hz
  rw [hx.2.2.2.2.2.2.2]
  exact W.iret (hlocks := hx.2.2.2.2.2.2.1) cx.1.1 cx.1.2.1 hr (fun t ht hW => ⟨⟨some (.int x), μ, rfl, ⟨x, rfl, hq⟩, by rw [ht]; exact hP⟩, hS.F ht⟩) hS.2.2 d
/-- a handler of this helper's table: it takes a throw of E at pc -/
def HD (own : String) (hh : List (Nat × Nat × Nat × Nat)) (pc : Nat) (E : String) (h : Nat) : Prop := ∃ (pre suf : List ExceptionTableEntry) (x : ExceptionTableEntry) (name : String), tableOf hh = pre ++ x :: suf ∧
  (∀ z ∈ pre, covers z pc = false ∨ (z.catchType ≠ 0 ∧ ∃ nm : String, Cond.classLink own z.catchType nm ∈ Om ∧ (E, nm) ∈ ncL)) ∧ covers x pc = true ∧ x.catchType ≠ 0 ∧ Cond.classLink own x.catchType name ∈ Om ∧ Cond.castable E name ∈ extL ∧ x.handlerPc = h
theorem k_callX {index n p mL fr2 lo2 ci : Nat} {C : String} {Tt : u_T} {N : Nat} {y : MethodName} {b : ByteArray} {ret : Option FieldType} {fs : List (Option Nat)} {As rest : List Value} {q qq : Qo} {qx : String → Mm → Prop} {hh : List (Nat × Nat × Nat × Nat)} (cx : Cx g f cc nL own fr lo 0 0) (hx : HX g f hh qq) (hM : MX g (f_l f) y b mL ret fr2 lo2 (.ref p :: As) μ q qx) (w1 : Cond.methodLink own index y ∈ Om) (cw : CV own index y b mL ret n) (hp : LAt g p (.inr (.inr (ci, fs)))) (hc : vwCl[ci]? = some (C, Tt, N)) (hy : y.cls = C) (hn : As.length = n) (hst : st = As.reverse ++ .ref p :: rest) (hw : (rest.map fun v => v.category).sum ≤ 8) (hR : fr2 + 1 ≤ fr ∧ 8 + (mL + 11) + lo2 ≤ lo) (d : decode cc pc = .ok (.invokevirtual index, 3))
    (kx : ∀ E μ2, qx E μ2 → ∃ h, HD own hh pc E h ∧ ∃ i, i < nL ∧ ((∃ k : Fin 4, decode cc h = .ok (.astore_n k, 1) ∧ (k : Nat) = i ∧ KW g f nL 1 6 (h + 1) (ls.set i none) [] μ2) ∨ (decode cc h = .ok (.astore i, 2) ∧ KW g f nL 1 6 (h + 2) (ls.set i none) [] μ2)))
    (kk : ∀ v μ2, q v μ2 → KW g f nL 1 6 (pc + 3) ls (v.toList ++ rest) μ2) : KW g f nL 0 0 pc ls st μ := by
  subst hst
  intro H locs la hP hS hz
  obtain ⟨-, w2, w3, w4, w5, w6⟩ := cw
  have hts := cx.1.2.2.2.2
  have hG : GoodIn lw_tbl (Cond.code y b mL ret :: Om) := om_good0 w5
  have hpay : ∀ w ∈ (Cond.code y b mL ret :: Om), ∀ (a2 : Array Value) (U : State), (f_s f).WarmedH U.vm → w.before a2 U = true := by
    intro w hw a2 U hW
    have hm : w ∈ Om := by rcases List.mem_cons.mp hw with rfl | h <;> assumption
    exact word_at hW (hG w hw).2 (hts w hm)
  have e1 : (List.reverse As ++ .ref p :: rest).map (ren g.2.2.1) = (As.map (ren g.2.2.1)).reverse ++ .ref (g.2.2.1 p) :: rest.map (ren g.2.2.1) := by simp [ren]
  have hrm : (8 : Nat) + (mL + 11) + lo2 ≤ (f_R f).locals := Nat.le_trans hR.2 cx.2.2.2.2.2.2.1
  have hrf : fr2 + 1 ≤ (f_R f).frames := Nat.le_trans hR.1 cx.2.2.2.2.2.1
  have hlen : ∀ sig, parseMethodDescriptor y.desc = some sig → n = sig.parameters.length := fun sig h => by
    have h2 := w6.2.2
    rw [h] at h2
    exact (Option.some.inj h2).symm
  have hpre : PreV (f_s f) H y.cls (g.2.2.1 p) (va_Pc (((.ref p :: As) : List Value).map (ren g.2.2.1)) (PX g μ)) (As.map (ren g.2.2.1)) := by
    refine ⟨fun a U gf mk h => ?_, ?_, fun U hU hW => ?_⟩
    · obtain ⟨h1, h2, h3⟩ := h
      have h4 := pw_blind a U gf mk (As := ((.ref p :: As) : List Value).map (ren g.2.2.1)) ⟨h1, h2⟩
      refine ⟨h4.1, h4.2, ?_⟩
      obtain ⟨s1, s2, s3, s4⟩ := h3
      refine ⟨fun w hw => ?_, fun q hq => ?_, vx_Zq.moved (u := U) (U := U.calling gf mk a) (Vm.Alike.refl U.vm) s3, vx_Zq.moved (u := U) (U := U.calling gf mk a) (Vm.Alike.refl U.vm) s4⟩
      · have h1 := s1 w hw
        have h2 := (List.mem_filter.mp hw).2
        cases w <;> first | exact va_Nw.same (u := U) rfl rfl h1 | (simp [isExt] at h2)
      · obtain ⟨a0, ha⟩ := s2 q hq
        exact ⟨a0, vk_R.same (u := U) rfl ha⟩
    · rw [hy]
      obtain ⟨j, hj⟩ := hp.pos
      exact va_recv cx.2.2.1 hP hc (Wd_k hj)
    · have h1 := k_pre (As := .ref p :: As) cx hP hS U hU hW
      exact ⟨h1.1, h1.2, hx.1.go hW (by rw [hU]; exact hS)⟩
  have hwr : 2 * (F0 (f_m f) pc la ((List.reverse As ++ .ref p :: rest).map (ren g.2.2.1))).monitorRoom + ((rest.map (ren g.2.2.1)).map fun v => v.category).sum ≤ 8 := by
    rw [sum_cat]
    exact lv_room hw
  have hr := vx_runV (cc := cc) (nL := nL) (Ts := Om) (own := own) (locs := locs) (cells := 0) (slots := 0) ⟨cx.1.1, cx.1.2.1, cx.1.2.2.1, cx.1.2.2.2.1, hts⟩ hM ⟨⟨rfl, rfl, hrf, hrm, hpay, List.mem_cons_self, hts _ w5, hts _ w4, ⟨w6.1, w6.2.1⟩, hlen, hts _ w1⟩, hts _ w2, hts _ w3⟩ hpre (g := F0 (f_m f) pc la ((List.reverse As ++ .ref p :: rest).map (ren g.2.2.1))) (p := f_p f) (e := f_e f) (below := f_b f) (meth := f_M f) rfl (by rw [List.length_map]; exact hn) hz.1 e1 hwr d ⟨by rw [Nat.zero_add]; exact hx.2.2.1, by rw [Nat.zero_add]; exact hx.2.2.2.1⟩
  intro T hT X
  rcases hr T hT X with ⟨v, st₀, t, T', L, h0, X', hL, e2, e3, ⟨⟨v2, μ2, hv, hq, hP1⟩, hz1, hk⟩, stp⟩ | ⟨q9, st₀, t, T', L, E, ce, h0, X', hL, e2, e3, ⟨⟨μ2, hq, hP1⟩, hz1, hk⟩, hce, hcv, hcl, stp⟩
  · rw [h0] at hz1 hk
    have hv2 : v = v2.map (ren g.2.2.1) := by cases hv; rfl
    subst hv2
    obtain ⟨t2, a1, b1⟩ := kk v2 μ2 hq T'.heap (locs ++ L) la (by rw [e2]; exact hP1)
      ⟨Nat.le_trans hS.1 (by rw [e2]; exact hz1), fun q h1 h2 => by rw [e2, hk q (Nat.lt_of_lt_of_le h1 hS.1) h2]; exact hS.2.1 q h1 h2, fun q hq => by
        rcases List.mem_append.mp hq with h | h
        · exact hS.2.2 q h
        · exact hL q h⟩ hz T' rfl X'
    refine ⟨t2, stp t2 ?_, b1⟩
    have e5 : (v2.toList ++ rest).map (ren g.2.2.1) = (v2.map (ren g.2.2.1)).toList ++ rest.map (ren g.2.2.1) := by cases v2 <;> rfl
    rw [e5] at a1
    exact a1
  · rw [h0] at hz1 hk
    obtain ⟨h, ⟨pre, suf, x, name, t1, t2, t3, t4, t5, t6, rfl⟩, i, hi, hk2⟩ := kx E μ2 hq
    have hS2 : va_S (fun q => g.2.2.2.1 ≤ q) (f_s f).heap T'.heap (locs ++ L) := ⟨Nat.le_trans hS.1 (by rw [e2]; exact hz1), fun q h1 h2 => by rw [e2, hk q (Nat.lt_of_lt_of_le h1 hS.1) h2]; exact hS.2.1 q h1 h2, fun q hq => by
        rcases List.mem_append.mp hq with h | h
        · exact hS.2.2 q h
        · exact hL q h⟩
    have hP2 : va_P g.1 vwCl (Wd g μ2) T'.heap := by rw [e2]; exact hP1
    have hcast : (Cond.castable E name).before (f_a f) (f_s f) = true := va_Nw.use rfl (hx.1.1 _ t6)
    have key : vx_W (f_p f) (f_l f) (f_e f) (f_R f) (f_s f) (f_m f) (f_a f) (f_b f) (f_M f) (f_c f) T'.heap (locs ++ L) (0 + 1) (0 + 6) (f_Q f) (F0 (f_m f) pc la (rest.map (ren g.2.2.1))) q9 := by
      refine vx_catch (ce := ce) (E := E) (own := own) (name := name) cx.1.2.2.2.1 pre x suf (hx.2.2.2.2.2.1.trans t1) (fun z hz => ?_) t3 t4 (hts _ t5) hcast (by rw [e2]; exact hce) hcv hcl ?_
      · rcases t2 z hz with h | ⟨h1, nm, h2, h3⟩
        · exact Or.inl h
        · exact Or.inr ⟨h1, nm, hts _ h2, hx.2.1 _ h3⟩
      · rcases hk2 with ⟨k, d2, hki, hk3⟩ | ⟨d2, hk3⟩
        · exact lv_astore_n cx.1.1 cx.1.2.1 d2 hki (lz_has hz) hi rfl (fun la2 h2 => hk3 _ _ la2 hP2 hS2 (lz_setN hz h2))
        · exact lv_astore cx.1.1 cx.1.2.1 d2 (lz_has hz) hi rfl (fun la2 h2 => hk3 _ _ la2 hP2 hS2 (lz_setN hz h2))
    obtain ⟨t2, a1, b1⟩ := key T' rfl X'
    exact ⟨t2, stp.trans a1, b1⟩
end K4
