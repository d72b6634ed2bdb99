/-! methods that throw: what they need beside (the texts, two statics of Throwable), their ends -/
def strL : List (String × Nat × String) := [("MeshLodger", 59, "room is out of range"), ("MeshLodger", 70, "there are 6 nodes"), ("MeshLodger", 83, "no such node"), ("MeshLodger", 86, "both nodes are the same, or room is out of range"), ("MeshLodger", 95, "there are 9 links, or there is one for both"), ("MeshLodger", 123, "need or nodes is out of range"), ("MeshLodger", 132, "the draft has 3 parts"), ("MeshLodger", 141, "no such part"), ("MeshLodger", 143, "both parts are the same, or need is out of range"), ("MeshLodger", 151, "there is a line for both"), ("MeshLodger", 160, "manner or ticks is out of range"), ("MeshLodger", 162, "there are 12 requests, or the draft has no part"), ("MeshLodger", 180, "no such request"), ("MeshLodger", 182, "the request has ended"), ("MeshLodger", 188, "no such request, part of it, or node"), ("MeshLodger", 193, "the part is there already"), ("MeshLodger", 199, "the request has ended, is safe, or has a split line"), ("MeshLodger", 210, "what is out of range"), ("MeshLodger", 239, "no such request, or part of it"), ("MeshLodger", 104, "no such link"), ("MeshLodger", 208, "ticks is out of range"), ("MeshLodger", 244, "no such request, or line of it"), ("MeshLodger", 246, "which is out of range"), ("MeshLodger", 228, "both links are the same")]
def isExt : Cond → Bool
  | .declares _ => true
  | .castable _ _ => true
  | _ => false
def extL : List Cond := tables_1.filter isExt
def EW (s : State) : Prop := ∀ w ∈ extL, va_Nw w s
theorem EW.warm {s U : State} (hW : s.WarmedH U.vm) (h : EW s) : EW U := by
  intro w hw
  have h1 := h w hw
  have h2 := (List.mem_filter.mp hw).2
  cases w <;> first | exact va_Nw.warmD hW h1 | exact va_Nw.warmC hW h1 | (simp [isExt] at h2)
theorem ext_mem {w : Cond} (i : Nat) (h : tables_1[i]? = some w) (hn : isExt w = true) : w ∈ extL := List.mem_filter.mpr ⟨List.mem_of_getElem? h, hn⟩
def SX (g : GE) (U : State) : Prop := EW U ∧ (∀ q ∈ strL, ∃ a, vk_R q.1 q.2.1 q.2.2 a U) ∧ vx_Zq Bundle.tN "UNASSIGNED_STACK" Bundle.steD (fun q => g.2.2.2.1 ≤ q) U U.heap ∧ vx_Zq Bundle.tN "SUPPRESSED_SENTINEL" Bundle.listD (fun q => g.2.2.2.1 ≤ q) U U.heap
theorem SX.go {g : GE} {s U : State} {locs : List Loc} (h : SX g s) (hW : s.WarmedH U.vm) (hS : va_S (fun q => g.2.2.2.1 ≤ q) s.heap U.heap locs) : SX g U :=
  ⟨EW.warm hW h.1, fun q hq => by obtain ⟨a, ha⟩ := h.2.1 q hq; exact ⟨a, vk_R.warm hW ha⟩, (vx_Zq.moved hW.alike h.2.2.1).kept (fun a h1 h2 => hS.2.1 a h1 h2), (vx_Zq.moved hW.alike h.2.2.2).kept (fun a h1 h2 => hS.2.1 a h1 h2)⟩
def PX (g : GE) (μ : Mm) (U : State) : Prop := PW g μ U ∧ SX g U
def XW (g : GE) (qx : String → Mm → Prop) : String → State → State → Prop := fun E st t => (∃ μ, qx E μ ∧ va_P g.1 vwCl (Wd g μ) t.heap) ∧ va_F (fun q => g.2.2.2.1 ≤ q) st t
def MX (g : GE) (l : Launch) (y : MethodName) (b : ByteArray) (mL : Nat) (ret : Option FieldType) (fr lo : Nat) (As : List Value) (μ : Mm) (q : Qo) (qx : String → Mm → Prop) : Prop :=
  vx_Met l y (Cond.code y b mL ret :: Om) { frames := fr, cells := 1, slots := 6, locals := lo } (va_Pc (As.map (ren g.2.2.1)) (PX g μ)) (QW g q) (XW g qx) 1 6 (fun q => g.2.2.2.1 ≤ q)
/-- the frame of a method that may throw -/
def FX (g : GE) (f : FE) (q : Qo) (qx : String → Mm → Prop) : Prop := SX g (f_s f) ∧ 1 ≤ (f_R f).cells ∧ 6 ≤ (f_R f).slots ∧ (f_l f).stackTraces = false ∧ (∀ x ∈ (f_c f).exceptionTable.toList, False) ∧ (f_M f).locks = false ∧ f_Q f = vx_MQ (f_b f) (QW g q) (XW g qx) (f_a f) (f_s f) 1 6 (fun q => g.2.2.2.1 ≤ q)
theorem xmet_of {g : GE} {l : Launch} {y : MethodName} {b : ByteArray} {mL fr lo : Nat} {ret : Option FieldType} {As : List Value} {μ : Mm} {q : Qo} {qx : String → Mm → Prop} (hst : l.stackTraces = false) (hy : plainName y.cls = true) (hn : As.length ≤ mL) (hc : ∀ v ∈ As, v.category = 1)
    (h : ∀ f : FE, f_l f = l → Cx g f b mL y.cls fr lo 0 0 → (f_M f).sig.returnType = ret → FX g f q qx → KW g f mL 0 0 0 (As.map some ++ List.replicate (mL - As.length) none) [] μ) : MX g l y b mL ret fr lo As μ q qx := by
  refine vx_ofW (cc := b) (maxL := mL) (ret := ret) hy rfl ?_
  intro p e s m args below meth c s₁ B hml htb hv
  obtain ⟨rfl, ⟨hP, hK, hN, hD, hz⟩, hX⟩ := hv
  have hts := atoms_spec (ws := Cond.code y b mL ret :: Om) B.pre
  have hown : s.vm.findClass y.cls = some m.cls := findClass_of_methodNamed B.named
  have h1 := h (p, l, e, (headSpec (Cond.code y b mL ret :: Om) { frames := fr, cells := 1, slots := 6, locals := lo }).room, s, m, (As.map (ren g.2.2.1)).toArray, below, meth, c, vx_MQ below (QW g q) (XW g qx) (As.map (ren g.2.2.1)).toArray s 1 6 (fun q => g.2.2.2.1 ≤ q)) rfl
    ⟨⟨B.exec, B.bytes, hml, hown, fun w hw => hts w (List.mem_cons_of_mem _ hw)⟩, hN, hK, hD, hz, Nat.le_refl _, Nat.le_refl _, Nat.zero_le _, Nat.zero_le _⟩ B.returns ⟨hX, Nat.le_refl _, Nat.le_refl _, hst, htb, B.notSynchronized, rfl⟩
  rw [lg_entry_eq]
  exact h1 s.heap [] _ hP va_S.rf (lz_entry g.2.2.1 As hn hc)
section K3
variable {g : GE} {f : FE} {cc : ByteArray} {nL : Nat} {own : String} {fr lo kc ks pc : Nat} {ls : List (Option Value)} {st : List Value} {μ : Mm} {qx : String → Mm → Prop}
theorem k_xret_I {q : Int32 → Mm → Prop} {x : Int32} (cx : Cx g f cc nL own fr lo 0 0) (hr : (f_M f).sig.returnType = some .int) (fx : FX g f (qI q) qx) (d : decode cc pc = .ok (.ireturn, 1)) (hq : q x μ) : KW g f nL 0 0 pc ls [.int x] μ := by
  intro H locs la hP hS hz
  rw [fx.2.2.2.2.2.2]
  exact W.widen (Nat.zero_le 1) (Nat.zero_le 6) (vx_ret (W.iret (hlocks := fx.2.2.2.2.2.1) cx.1.1 cx.1.2.1 hr (fun t ht hW => ⟨⟨some (.int x), μ, rfl, ⟨x, rfl, hq⟩, by rw [ht]; exact hP⟩, hS.F ht⟩) hS.2.2 d))
theorem k_xret_V {q : Mm → Prop} (cx : Cx g f cc nL own fr lo 0 0) (hr : (f_M f).sig.returnType = none) (fx : FX g f (qV q) qx) (d : decode cc pc = .ok (.return_, 1)) (hq : q μ) : KW g f nL 0 0 pc ls [] μ := by
  intro H locs la hP hS hz
  rw [fx.2.2.2.2.2.2]
  exact W.widen (Nat.zero_le 1) (Nat.zero_le 6) (vx_ret (W.vret (hlocks := fx.2.2.2.2.2.1) cx.1.1 cx.1.2.1 hr (fun t ht hW => ⟨⟨none, μ, rfl, ⟨rfl, hq⟩, by rw [ht]; exact hP⟩, hS.F ht⟩) hS.2.2 d))
theorem k_throw {q : Qo} {cls text : String} {ik is ic : Nat} (cx : Cx g f cc nL own fr lo 0 0) (fx : FX g f q qx) (hstr : (own, is, text) ∈ strL) (hcls : Bundle.fit cls = true) (hk : Cond.classLink own ik cls ∈ Om) (hini : Cond.initialized cls ∈ Om) (hat : ∀ w ∈ vx_atS own ic cls ["java/lang/RuntimeException", "java/lang/Exception"], w ∈ Om ∨ w ∈ extL)
    (h8 : (st.map fun v => v.category).sum ≤ 8) (hfr : 6 ≤ fr) (hlo : 90 ≤ lo) (hq : qx cls μ)
    (d0 : decode cc pc = .ok (.new ik, 3)) (d3 : decode cc (pc + 3) = .ok (.dup, 1)) (d4 : decode cc (pc + 4) = .ok (.ldc is, 2)) (d6 : decode cc (pc + 6) = .ok (.invokespecial ic, 3)) (d9 : decode cc (pc + 9) = .ok (.athrow, 1)) : KW g f nL 0 0 pc ls st μ := by
  intro H locs la hP hS hz
  obtain ⟨sx, hRc, hRs, hst, hnt, hlk, hQ⟩ := fx
  obtain ⟨⟨c1, c2, c3, c4, c5⟩, c6, c7, c8, c9, c10, c11, c12, c13⟩ := cx
  obtain ⟨sa, hsa⟩ := sx.2.1 _ hstr
  have hext : ∀ w ∈ extL, w.before (f_a f) (f_s f) = true ∧ vx_ot w = true := fun w hw => by
    have h1 := sx.1 w hw
    have h2 := (List.mem_filter.mp hw).2
    cases w <;> first | exact ⟨va_Nw.use rfl h1, rfl⟩ | (simp [isExt] at h2)
  rw [hQ]
  have hg9 : ∀ w ∈ Om, vx_ot w = true := fun w hw => by
    have h9 := (List.mem_filter.mp hw).2
    simp [vx_ot, h9]
  refine vx_throwS (own := own) (cls := cls) (text := text) (names := ["java/lang/RuntimeException", "java/lang/Exception"]) (ik := ik) (is := is) (ic := ic) (sa := sa) (A := fun q => g.2.2.2.1 ≤ q) c1 c2 hst c4 hcls (by decide +kernel) (c5 _ hk) (c5 _ hini) hsa (fun w hw => (hat w hw).elim (fun h => c5 _ h) (fun h => (hext w h).1)) ?_ sx.2.2.1 sx.2.2.2 hS (by rw [c3]; exact hz.1) d0 d3 d4 d6 d9 (fun x hx => absurd hx (fun z => hnt x z)) (by show 2 + 3 < _; omega) (by rw [sum_cat]; show _ + (13 * (2 + 1) + 43) ≤ _; omega) hRc hRs hlk ?_ hS.2.2 (Nat.le_refl _) (Nat.le_refl _)
  · intro w hw
    rcases List.mem_cons.mp hw with rfl | hw
    · exact hg9 _ hk
    · rcases List.mem_cons.mp hw with rfl | hw
      · exact hg9 _ hini
      · exact (hat w hw).elim (fun h => hg9 _ h) (fun h => (hext w h).2)
  · intro t hal hsz hold
    refine ⟨⟨μ, hq, hP.kept (fun k q hk => hold _ (hP k q hk).lt)⟩, Nat.le_trans hS.1 hsz, fun q h1 h2 => ?_⟩
    rw [hold q (Nat.lt_of_lt_of_le h1 hS.1)]
    exact hS.2.1 q h1 h2
end K3
theorem th_IllegalArgumentException : ∀ w ∈ vx_atS RX7 61 "java/lang/IllegalArgumentException" ["java/lang/RuntimeException", "java/lang/Exception"], w ∈ Om ∨ w ∈ extL := by decide +kernel
theorem tk_IllegalArgumentException : Cond.classLink RX7 57 "java/lang/IllegalArgumentException" ∈ Om := (om_tbl 336 (by decide +kernel) rfl)
theorem ti_IllegalArgumentException : Cond.initialized "java/lang/IllegalArgumentException" ∈ Om := (om_tbl 32 (by decide +kernel) rfl)
theorem th_IllegalStateException : ∀ w ∈ vx_atS RX7 72 "java/lang/IllegalStateException" ["java/lang/RuntimeException", "java/lang/Exception"], w ∈ Om ∨ w ∈ extL := by decide +kernel
theorem tk_IllegalStateException : Cond.classLink RX7 68 "java/lang/IllegalStateException" ∈ Om := (om_tbl 404 (by decide +kernel) rfl)
theorem ti_IllegalStateException : Cond.initialized "java/lang/IllegalStateException" ∈ Om := (om_tbl 33 (by decide +kernel) rfl)
theorem th_IndexOutOfBoundsException : ∀ w ∈ vx_atS RX7 85 "java/lang/IndexOutOfBoundsException" ["java/lang/RuntimeException", "java/lang/Exception"], w ∈ Om ∨ w ∈ extL := by decide +kernel
theorem tk_IndexOutOfBoundsException : Cond.classLink RX7 81 "java/lang/IndexOutOfBoundsException" ∈ Om := (om_tbl 432 (by decide +kernel) rfl)
theorem ti_IndexOutOfBoundsException : Cond.initialized "java/lang/IndexOutOfBoundsException" ∈ Om := (om_tbl 34 (by decide +kernel) rfl)
