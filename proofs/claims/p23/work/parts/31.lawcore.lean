/-! the law's own methods: they count cells (n of them, of 6 slots each, at most); they may make one array -/
abbrev ScT : Type := Nat × Nat × (Nat → Int32)
/-- the script: at z.1, of z.2.1 ints z.2.2, older than all that is new -/
def ScP (g : GE) (z : ScT) (U : State) (H : Heap) : Prop := va_X z.1 z.2.1 z.2.2 U H ∧ z.1 < g.2.2.2.1 ∧ g.2.2.1 p_SCR = z.1
def PBl (g : GE) (z : ScT) (μ : Mm) (U : State) : Prop := PH g μ U ∧ ScP g z U U.heap
def MBl (g : GE) (z : ScT) (l : Launch) (y : MethodName) (b : ByteArray) (mL : Nat) (ret : Option FieldType) (fr lo m : Nat) (As : List Value) (μ : Mm) (q : Qo) : Prop :=
  Met l y (Cond.code y b mL ret :: Om) { frames := fr, cells := m, slots := 6 * m, locals := lo } (va_Pc (As.map (ren g.2.2.1)) (PBl g z μ)) (QW g q) m (6 * m) (fun q => g.2.2.2.1 ≤ q)
def BXl (g : GE) (z : ScT) (f : FE) : Prop := SX g (f_s f) ∧ NC (f_s f) ∧ ScP g z (f_s f) (f_s f).heap ∧ (f_l f).stackTraces = false
def RXl (g : GE) (f : FE) (m : Nat) (q : Qo) : Prop := (f_M f).locks = false ∧ f_Q f = MQ (f_b f) (QW g q) (f_a f) (f_s f) m (6 * m) (fun q => g.2.2.2.1 ≤ q)
theorem bmet_of {g : GE} {z : ScT} {l : Launch} {y : MethodName} {b : ByteArray} {mL fr lo m : Nat} {ret : Option FieldType} {As : List Value} {μ : Mm} {q : Qo} (hst : l.stackTraces = false) (hy : plainName y.cls = true) (hn : As.length ≤ mL) (hc : ∀ v ∈ As, v.category = 1)
    (h : ∀ f : FE, f_l f = l → (∀ n, n ≤ m → Cx g f b mL y.cls fr lo n (6 * n)) → BXl g z f → (f_M f).sig.returnType = ret → RXl g f m q → KW g f mL 0 (6 * 0) 0 (As.map some ++ List.replicate (mL - As.length) none) [] μ) : MBl g z l y b mL ret fr lo m As μ q := by
  refine Met.ofW (cc := b) (maxL := mL) (ret := ret) hy rfl ?_
  intro p e s m0 args below meth c s₁ B hml hv
  obtain ⟨rfl, ⟨⟨⟨hP, hK, hN, hD, hz⟩, hX⟩, hNC⟩, hSC⟩ := hv
  have hts := atoms_spec (ws := Cond.code y b mL ret :: Om) B.pre
  have hown : s.vm.findClass y.cls = some m0.cls := findClass_of_methodNamed B.named
  have h1 := h (p, l, e, (headSpec (Cond.code y b mL ret :: Om) { frames := fr, cells := m, slots := 6 * m, locals := lo }).room, s, m0, (As.map (ren g.2.2.1)).toArray, below, meth, c, MQ below (QW g q) (As.map (ren g.2.2.1)).toArray s m (6 * m) (fun q => g.2.2.2.1 ≤ q)) rfl
    (fun n hn => ⟨⟨B.exec, B.bytes, hml, hown, fun w hw => hts w (List.mem_cons_of_mem _ hw)⟩, hN, hK, hD, hz, Nat.le_refl _, Nat.le_refl _, hn, Nat.mul_le_mul_left 6 hn⟩) ⟨hX, hNC, hSC, hst⟩ B.returns ⟨B.notSynchronized, rfl⟩
  rw [lg_entry_eq]
  exact h1 s.heap [] _ hP va_S.rf (lz_entry g.2.2.1 As hn hc)
/-- g, and one new array of N ints, cell p -/
def GXn (g g2 : GE) (p N : Nat) : Prop := g.2.2.2.2 = [] ∧ (p = 27 ∨ p = 28) ∧ (∃ a, g2 = (g.1, g.2.1, (fun c => if c = p then a else g.2.2.1 c), g.2.2.2.1, [(p, .inl (0, N))])) ∧ ∀ μ, va_D (fun q => g.2.2.2.1 ≤ q) (Wd g2 μ)
def refsE (e : LE) : List (Option Nat) := match e with
  | .inl _ => []
  | .inr (.inl (_, ts)) => ts
  | .inr (.inr (_, fs)) => fs
theorem lays0_apart : (lays0.all fun c => !Nat.beq c.1 27 && !Nat.beq c.1 28 && (refsE c.2).all fun o => match o with | none => true | some q => !Nat.beq q 27 && !Nat.beq q 28) = true := by decide +kernel
theorem nb_ne {a b : Nat} (h : (!Nat.beq a b) = true) : a ≠ b := fun e => by
  subst e
  rw [Nat.beq_refl] at h
  cases h
theorem l0_ne {c : Nat × LE} (h : c ∈ lays0) {p : Nat} (hp : p = 27 ∨ p = 28) : c.1 ≠ p ∧ ∀ q, some q ∈ refsE c.2 → q ≠ p := by
  have h1 := List.all_eq_true.mp lays0_apart c h
  simp only [Bool.and_eq_true] at h1
  refine ⟨?_, fun q hq => ?_⟩
  · rcases hp with rfl | rfl
    · exact nb_ne h1.1.1
    · exact nb_ne h1.1.2
  · have h2 := List.all_eq_true.mp h1.2 _ hq
    simp only [Bool.and_eq_true] at h2
    rcases hp with rfl | rfl
    · exact nb_ne h2.1
    · exact nb_ne h2.2
theorem en_ext {g g2 : GE} {p : Nat} (h1 : g2.1 = g.1) (h2 : g2.2.1 = g.2.1) (h3 : ∀ c, c ≠ p → g2.2.2.1 c = g.2.2.1 c) {e : LE} (he : ∀ q, some q ∈ refsE e → q ≠ p) (f : Nat → Int32) : en g2 e f = en g e f := by
  rcases e with ⟨t, n⟩ | ⟨t, ts⟩ | ⟨ci, fs⟩
  · simp only [en, h2]
  · show Sum.inl _ = Sum.inl _
    rw [h2]
    congr 7
    funext j
    cases hj : ts[j]? with
    | none => simp [hj]
    | some o =>
      cases o with
      | none => simp [hj]
      | some q =>
        have := h3 q (he q (List.mem_of_getElem? hj))
        simp [hj, this]
  · show Sum.inr _ = Sum.inr _
    congr 2
    apply List.ext_getElem?
    intro k
    rw [List.getElem?_mapIdx, List.getElem?_mapIdx]
    cases hk : fs[k]? with
    | none => rfl
    | some o =>
      cases o with
      | none => rfl
      | some q =>
        have := h3 q (he q (List.mem_of_getElem? hk))
        simp [this]
theorem Wd_ext {g g2 : GE} {p N : Nat} (h : GXn g g2 p N) (μ : Mm) : ∃ x, Wd g2 μ = Wd g μ ++ [x] := by
  obtain ⟨h0, hp, ⟨a, rfl⟩, -⟩ := h
  obtain ⟨x, hx⟩ : ∃ x, x = ((if p = p then a else g.2.2.1 p), en (g.1, g.2.1, (fun c => if c = p then a else g.2.2.1 c), g.2.2.2.1, [(p, Sum.inl (0, N))]) (.inl (0, N)) (μ p)) := ⟨_, rfl⟩
  refine ⟨x, ?_⟩
  unfold Wd layX
  rw [h0, List.append_nil, List.map_append]
  congr 1
  · apply List.map_congr_left
    intro c hc
    obtain ⟨n1, n2⟩ := l0_ne hc hp
    rw [en_ext (g := g) (g2 := (g.1, g.2.1, (fun c => if c = p then a else g.2.2.1 c), g.2.2.2.1, [(p, Sum.inl (0, N))])) (p := p) rfl rfl (fun q hq => if_neg hq) n2]
    simp only [if_neg n1]
  · rw [hx]
    rfl
theorem GXn.P {g g2 : GE} {p N : Nat} (h : GXn g g2 p N) {μ : Mm} {H : Heap} (hP : va_P g2.1 vwCl (Wd g2 μ) H) : va_P g.1 vwCl (Wd g μ) H := by
  obtain ⟨x, hx⟩ := Wd_ext h μ
  obtain ⟨h0, hp, ⟨a, rfl⟩, -⟩ := h
  rw [hx] at hP
  exact fun k q hk => hP k q (by rw [List.getElem?_append_left (List.getElem?_eq_some_iff.mp hk).1]; exact hk)
theorem GXn.base {g g2 : GE} {p N : Nat} (h : GXn g g2 p N) : g2.2.2.2.1 = g.2.2.2.1 := by
  obtain ⟨h0, hp, ⟨a, rfl⟩, -⟩ := h
  rfl
theorem GXn.at {g g2 : GE} {p N : Nat} (h : GXn g g2 p N) : LAt g2 p (.inl (0, N)) := by
  obtain ⟨h0, hp, ⟨a, rfl⟩, -⟩ := h
  exact List.mem_append_right _ List.mem_cons_self
theorem GXn.cx {g g2 : GE} {p N : Nat} (h : GXn g g2 p N) {f : FE} {cc : ByteArray} {nL : Nat} {own : String} {fr lo kc ks : Nat} (cx : Cx g f cc nL own fr lo kc ks) : Cx g2 f cc nL own fr lo kc ks := by
  obtain ⟨h0, hp, ⟨a, rfl⟩, hD⟩ := h
  obtain ⟨c1, c2, c3, c4, c5⟩ := cx
  exact ⟨c1, c2, c3, hD, c5⟩
theorem GXn.bx {g g2 : GE} {p N : Nat} (h : GXn g g2 p N) {f : FE} {z : ScT} (bx : BXl g z f) : BXl g2 z f := by
  obtain ⟨h0, hp, ⟨a, rfl⟩, hD⟩ := h
  obtain ⟨b1, b2, ⟨b3, b4, b5⟩, b6⟩ := bx
  refine ⟨b1, b2, ⟨b3, b4, ?_⟩, b6⟩
  show (if p_SCR = p then a else g.2.2.1 p_SCR) = z.1
  rw [if_neg (by rcases hp with rfl | rfl <;> decide)]
  exact b5
def zrm (μ : Mm) (p : Nat) : Mm := fun c => if c = p then (fun _ => 0) else μ c
def qTr (q : Mm → Prop) : Qo := fun v μ => v = some (.int 1) ∧ q μ
section K6
variable {g g2 : GE} {f : FE} {cc : ByteArray} {nL : Nat} {own : String} {fr lo n m pc p N : Nat} {ls : List (Option Value)} {st : List Value} {μ : Mm} {z : ScT}
theorem k_widen {kc ks k2 s2 : Nat} (h1 : kc ≤ k2) (h2 : ks ≤ s2) (kk : KW g f nL k2 s2 pc ls st μ) : KW g f nL kc ks pc ls st μ :=
  fun H locs la hP hS hz => W.widen h1 h2 (kk H locs la hP hS hz)
theorem k_bret_I {q : Int32 → Mm → Prop} {x : Int32} (cx : Cx g f cc nL own fr lo n (6 * n)) (hr : (f_M f).sig.returnType = some .int) (rx : RXl g f m (qI q)) (hn : n ≤ m) (d : decode cc pc = .ok (.ireturn, 1)) (hq : q x μ) : KW g f nL n (6 * n) pc ls [.int x] μ := by
  intro H locs la hP hS hz
  rw [rx.2]
  exact W.widen hn (Nat.mul_le_mul_left 6 hn) (W.iret (hlocks := rx.1) cx.1.1 cx.1.2.1 hr (fun t ht hW => ⟨⟨some (.int x), μ, rfl, ⟨x, rfl, hq⟩, by rw [ht]; exact hP⟩, hS.F ht⟩) hS.2.2 d)
theorem k_bret_T {q : Mm → Prop} (cx : Cx g f cc nL own fr lo n (6 * n)) (hr : (f_M f).sig.returnType = some .boolean) (rx : RXl g f m (qTr q)) (hn : n ≤ m) (d : decode cc pc = .ok (.ireturn, 1)) (hq : q μ) : KW g f nL n (6 * n) pc ls [.int 1] μ := by
  intro H locs la hP hS hz
  rw [rx.2]
  exact W.widen hn (Nat.mul_le_mul_left 6 hn) (W.zret (hlocks := rx.1) cx.1.1 cx.1.2.1 hr rfl (fun t ht hW => ⟨⟨some (.int 1), μ, rfl, ⟨rfl, hq⟩, by rw [ht]; exact hP⟩, hS.F ht⟩) hS.2.2 d)
theorem k_nret_T {q : Mm → Prop} (hg : GXn g g2 p N) (cx : Cx g2 f cc nL own fr lo n (6 * n)) (hr : (f_M f).sig.returnType = some .boolean) (rx : RXl g f m (qTr q)) (hn : n ≤ m) (d : decode cc pc = .ok (.ireturn, 1)) (hq : q μ) : KW g2 f nL n (6 * n) pc ls [.int 1] μ := by
  intro H locs la hP hS hz
  rw [hg.base] at hS
  rw [rx.2]
  exact W.widen hn (Nat.mul_le_mul_left 6 hn) (W.zret (hlocks := rx.1) cx.1.1 cx.1.2.1 hr rfl (fun t ht hW => ⟨⟨some (.int 1), μ, rfl, ⟨rfl, hq⟩, by rw [ht]; exact hg.P hP⟩, hS.F ht⟩) hS.2.2 d)
theorem k_sld {i : Int32} {kc ks : Nat} (cx : Cx g f cc nL own fr lo kc ks) (bx : BXl g z f) (hi : vp_in i z.2.1) (d : decode cc pc = .ok (.iaload, 1)) (kk : KW g f nL kc ks (pc + 1) ls (.int (z.2.2 i.toNatClampNeg) :: st) μ) : KW g f nL kc ks pc ls (.int i :: .ref p_SCR :: st) μ := by
  intro H locs la hP hS hz
  obtain ⟨h1, h2, h3⟩ := bx.2.2.1
  show W _ _ _ _ _ _ _ _ _ _ _ _ _ _ _ (F0 _ _ _ (.int i :: .ref (g.2.2.1 p_SCR) :: st.map (ren g.2.2.1)))
  rw [h3]
  exact va_sld cx.1.1 cx.1.2.1 h1 (Nat.lt_of_lt_of_le h2 cx.2.2.2.2.1) (Nat.not_le.mpr h2) hS hi d (kk H locs la hP hS hz)
theorem k_slen {kc ks : Nat} (cx : Cx g f cc nL own fr lo kc ks) (bx : BXl g z f) (d : decode cc pc = .ok (.arraylength, 1)) (kk : KW g f nL kc ks (pc + 1) ls (.int (Int32.ofNat z.2.1) :: st) μ) : KW g f nL kc ks pc ls (.ref p_SCR :: st) μ := by
  intro H locs la hP hS hz
  obtain ⟨h1, h2, h3⟩ := bx.2.2.1
  show W _ _ _ _ _ _ _ _ _ _ _ _ _ _ _ (F0 _ _ _ (.ref (g.2.2.1 p_SCR) :: st.map (ren g.2.2.1)))
  rw [h3]
  exact va_slen cx.1.1 cx.1.2.1 h1 (Nat.lt_of_lt_of_le h2 cx.2.2.2.2.1) (Nat.not_le.mpr h2) hS d (kk H locs la hP hS hz)
/-- behind a call that made mc cells of ms slots -/
theorem k_runB {q : Qo} {rest : List Value} {la0 : List Value} {H : Heap} {locs : List Loc} {la : Array Slot} {kc ks mc ms k2 s2 : Nat} (hk2 : kc + mc ≤ k2) (hs2 : ks + ms ≤ s2) (hz : lz g.2.2.1 la nL ls) (hS : va_S (fun q => g.2.2.2.1 ≤ q) (f_s f).heap H locs)
    (hr : va_Run (f_p f) (f_l f) (f_e f) (f_R f) (f_s f) (f_m f) (f_a f) (f_b f) (f_M f) (f_c f) H locs kc ks mc ms (F0 (f_m f) pc la (st.map (ren g.2.2.1))) (rest.map (ren g.2.2.1)) (QW g q (la0.map (ren g.2.2.1)).toArray) (fun q => g.2.2.2.1 ≤ q))
    (kk : ∀ v μ2, q v μ2 → KW g f nL k2 s2 (pc + 3) ls (v.toList ++ rest) μ2) :
    W (f_p f) (f_l f) (f_e f) (f_R f) (f_s f) (f_m f) (f_a f) (f_b f) (f_M f) (f_c f) H locs kc ks (f_Q f) (F0 (f_m f) pc la (st.map (ren g.2.2.1))) := by
  intro T hT X
  obtain ⟨v, st₀, t, T', L, h0, X', hL, e1, e2, ⟨⟨v2, μ2, hv, hq, hP1⟩, hz1, hk⟩, stp⟩ := hr T hT X
  rw [h0] at hz1 hk
  have hv2 : v = v2.map (ren g.2.2.1) := by cases hv; rfl
  subst hv2
  have kw := k_widen (g := g) hk2 hs2 (kk v2 μ2 hq)
  obtain ⟨t2, a1, b1⟩ := kw T'.heap (locs ++ L) la (by rw [e1]; exact hP1)
    ⟨Nat.le_trans hS.1 (by rw [e1]; exact hz1), fun q h1 h2 => by rw [e1, hk q (Nat.lt_of_lt_of_le h1 hS.1) h2]; exact hS.2.1 q h1 h2, fun q hq => by
      rcases List.mem_append.mp hq with h | h
      · exact hS.2.2 q h
      · exact hL q h⟩ hz T' rfl X'
  refine ⟨t2, stp t2 ?_, b1⟩
  have e3 : (v2.toList ++ rest).map (ren g.2.2.1) = (v2.map (ren g.2.2.1)).toList ++ rest.map (ren g.2.2.1) := by cases v2 <;> rfl
  rw [e3] at a1
  exact a1
theorem px_blind {As : List Value} (a : Array Value) (U : State) (gf : JFrame) (mk : MethodId) (h : va_Pc As (PX g μ) a U) : va_Pc As (PX g μ) a (U.calling gf mk a) := by
  obtain ⟨h1, h2, h3⟩ := h
  have h4 := pw_blind a U gf mk (As := As) ⟨h1, h2⟩
  refine ⟨h4.1, h4.2, ?_⟩
  obtain ⟨s1, s2, s3, s4⟩ := h3
  refine ⟨fun w hw => ?_, fun q hq => ?_, vx_Zq.moved (u := U) (U := U.calling gf mk a) (Vm.Alike.refl U.vm) s3, vx_Zq.moved (u := U) (U := U.calling gf mk a) (Vm.Alike.refl U.vm) s4⟩
  · have h1 := s1 w hw
    have h2 := (List.mem_filter.mp hw).2
    cases w <;> first | exact va_Nw.same (u := U) rfl rfl h1 | (simp [isExt] at h2)
  · obtain ⟨a0, ha⟩ := s2 q hq
    exact ⟨a0, vk_R.same (u := U) rfl ha⟩
theorem ph_blind {As : List Value} (a : Array Value) (U : State) (gf : JFrame) (mk : MethodId) (h : va_Pc As (PH g μ) a U) : va_Pc As (PH g μ) a (U.calling gf mk a) := by
  obtain ⟨h1, h2, h5⟩ := h
  have h4 := px_blind a U gf mk (As := As) ⟨h1, h2⟩
  exact ⟨h4.1, h4.2, NC.moved (u := U) (U := U.calling gf mk a) (Vm.Alike.refl U.vm) h5⟩
theorem pb_blind {As : List Value} (a : Array Value) (U : State) (gf : JFrame) (mk : MethodId) (h : va_Pc As (PBl g z μ) a U) : va_Pc As (PBl g z μ) a (U.calling gf mk a) := by
  obtain ⟨h1, h2, h5⟩ := h
  have h4 := ph_blind a U gf mk (As := As) ⟨h1, h2⟩
  exact ⟨h4.1, h4.2, h5.1.moved (u := U) (U := U.calling gf mk a) (Vm.Alike.refl U.vm), h5.2⟩
/-- a call of one of the law's own methods -/
theorem k_callB {index k mL fr2 lo2 m2 n2 : Nat} {y : MethodName} {bb : ByteArray} {ret : Option FieldType} {As rest : List Value} {q : Qo} (hcx : ∀ n, n ≤ m → Cx g f cc nL own fr lo n (6 * n)) (bx : BXl g z f) (hM : MBl g z (f_l f) y bb mL ret fr2 lo2 m2 As μ q) (cw : CS_ own index y bb mL ret k) (hn : As.length = k) (hst : st = As.reverse ++ rest) (hw : (rest.map fun v => v.category).sum ≤ 8) (hR : fr2 + 1 ≤ fr ∧ 8 + (mL + 11) + lo2 ≤ lo) (h1 : n + m2 ≤ n2) (h2 : n2 ≤ m) (d : decode cc pc = .ok (.invokestatic index, 3))
    (kk : ∀ v μ2, q v μ2 → KW g f nL n2 (6 * n2) (pc + 3) ls (v.toList ++ rest) μ2) : KW g f nL n (6 * n) pc ls st μ := by
  subst hst
  intro H locs la hP hS hz
  have cx := hcx n2 h2
  have cxn := hcx n (by omega)
  obtain ⟨w1, w2, w4, w5, w6⟩ := cw
  have hts := cx.1.2.2.2.2
  have hG : GoodIn lw_tbl (Cond.code y bb mL ret :: Om) := om_good0 w5
  have hpay : ∀ w ∈ (Cond.code y bb mL ret :: Om), ∀ (a2 : Array Value) (U : State), (f_s f).WarmedH U.vm → w.before a2 U = true := by
    intro w hw a2 U hW
    have hm : w ∈ Om := by rcases List.mem_cons.mp hw with rfl | h <;> assumption
    exact word_at hW (hG w hw).2 (hts w hm)
  have e1 : (List.reverse As ++ rest).map (ren g.2.2.1) = (As.map (ren g.2.2.1)).reverse ++ rest.map (ren g.2.2.1) := by simp
  have hrm : (8 : Nat) + (mL + 11) + lo2 ≤ (f_R f).locals := Nat.le_trans hR.2 cx.2.2.2.2.2.2.1
  have hrf : fr2 + 1 ≤ (f_R f).frames := Nat.le_trans hR.1 cx.2.2.2.2.2.1
  have hlen : ∀ sig, parseMethodDescriptor y.desc = some sig → k = sig.parameters.length := fun sig h => by
    have h2 := w6.2.2
    rw [h] at h2
    exact (Option.some.inj h2).symm
  have hpre : PreS (f_s f) H (va_Pc (As.map (ren g.2.2.1)) (PBl g z μ)) (As.map (ren g.2.2.1)) := by
    refine ⟨fun a U gf mk h => pb_blind a U gf mk h, fun U hU hW => ?_⟩
    have h1 := k_pre (As := As) cxn hP hS U hU hW
    obtain ⟨s1, s2, s3⟩ := bx.2.2.1
    refine ⟨h1.1, ⟨⟨h1.2, bx.1.go hW (by rw [hU]; exact hS)⟩, NC.moved hW.alike bx.2.1⟩, ?_, s2, s3⟩
    rw [hU]
    exact (s1.moved hW.alike).kept (hS.2.1 z.1 (Nat.lt_of_lt_of_le s2 cx.2.2.2.2.1) (Nat.not_le.mpr s2))
  have hwr : 2 * (F0 (f_m f) pc la ((List.reverse As ++ rest).map (ren g.2.2.1))).monitorRoom + ((rest.map (ren g.2.2.1)).map fun v => v.category).sum ≤ 8 := by
    rw [sum_cat]
    exact lv_room hw
  have h8 := cx.2.2.2.2.2.2.2
  refine k_runB (mc := m2) (ms := 6 * m2) (la0 := As) h1 (by omega) hz hS ?_ kk
  rcases w1 with w1 | ⟨host, w1⟩
  · exact va_runS (cc := cc) (nL := nL) (Ts := Om) (own := own) ⟨cx.1.1, cx.1.2.1, cx.1.2.2.1, cx.1.2.2.2.1, hts⟩ hM ⟨⟨rfl, rfl, hrf, hrm, hpay, List.mem_cons_self, hts _ w5, hts _ w4, ⟨w6.1, w6.2.1⟩, hlen, hts _ w1⟩, hts _ w2⟩ hpre rfl (by rw [List.length_map]; exact hn) hz.1 e1 hwr d ⟨Nat.le_trans h1 h8.1, Nat.le_trans (by omega) h8.2⟩
  · exact va_runSN (cc := cc) (nL := nL) (Ts := Om) (own := own) (host := host) ⟨cx.1.1, cx.1.2.1, cx.1.2.2.1, cx.1.2.2.2.1, hts⟩ hM ⟨⟨⟨rfl, rfl, hrf, hrm, hpay, List.mem_cons_self⟩, hts _ w5, hts _ w4, ⟨w6.1, w6.2.1⟩, hlen, va_Nw.use rfl (cx.2.1 _ w1)⟩, hts _ w2, trivial⟩ hpre rfl (by rw [List.length_map]; exact hn) hz.1 e1 hwr d ⟨Nat.le_trans h1 h8.1, Nat.le_trans (by omega) h8.2⟩
def CH (own : String) (index : Nat) (y : MethodName) (bb : ByteArray) (mL : Nat) (ret : Option FieldType) (hh : List (Nat × Nat × Nat × Nat)) (n : Nat) : Prop :=
  Cond.methodLink own index y ∈ Om ∧ Cond.static y ∈ Om ∧ Cond.initialized y.cls ∈ Om ∧ Cond.codeWith y bb mL ret hh ∈ Om ∧ (y.cls ≠ "java/lang/invoke/MethodHandle" ∧ y.cls ≠ "java/lang/invoke/VarHandle" ∧ (parseMethodDescriptor y.desc).map (fun d => d.parameters.length) = some n)
/-- a call of the law's method that catches -/
theorem k_callH {index k mL fr2 lo2 n2 : Nat} {y : MethodName} {bb : ByteArray} {ret : Option FieldType} {hh : List (Nat × Nat × Nat × Nat)} {As rest : List Value} {q : Qo} (hcx : ∀ n, n ≤ m → Cx g f cc nL own fr lo n (6 * n)) (bx : BXl g z f) (hM : MH g (f_l f) y bb mL ret hh fr2 lo2 As μ q) (cw : CH own index y bb mL ret hh k) (hn : As.length = k) (hst : st = As.reverse ++ rest) (hw : (rest.map fun v => v.category).sum ≤ 8) (hR : fr2 + 1 ≤ fr ∧ 8 + (mL + 11) + lo2 ≤ lo) (h1 : n + 1 ≤ n2) (h2 : n2 ≤ m) (d : decode cc pc = .ok (.invokestatic index, 3))
    (kk : ∀ v μ2, q v μ2 → KW g f nL n2 (6 * n2) (pc + 3) ls (v.toList ++ rest) μ2) : KW g f nL n (6 * n) pc ls st μ := by
  subst hst
  intro H locs la hP hS hz
  have cx := hcx n2 h2
  have cxn := hcx n (by omega)
  obtain ⟨w1, w2, w4, w5, w6⟩ := cw
  have hts := cx.1.2.2.2.2
  have hG : GoodIn lw_tbl (Cond.codeWith y bb mL ret hh :: Om) := om_good0 w5
  have hpay : ∀ w ∈ (Cond.codeWith y bb mL ret hh :: Om), ∀ (a2 : Array Value) (U : State), (f_s f).WarmedH U.vm → w.before a2 U = true := by
    intro w hw a2 U hW
    have hm : w ∈ Om := by rcases List.mem_cons.mp hw with rfl | h <;> assumption
    exact word_at hW (hG w hw).2 (hts w hm)
  have e1 : (List.reverse As ++ rest).map (ren g.2.2.1) = (As.map (ren g.2.2.1)).reverse ++ rest.map (ren g.2.2.1) := by simp
  have hrm : (8 : Nat) + (mL + 11) + lo2 ≤ (f_R f).locals := Nat.le_trans hR.2 cx.2.2.2.2.2.2.1
  have hrf : fr2 + 1 ≤ (f_R f).frames := Nat.le_trans hR.1 cx.2.2.2.2.2.1
  have hlen : ∀ sig, parseMethodDescriptor y.desc = some sig → k = sig.parameters.length := fun sig h => by
    have h2 := w6.2.2
    rw [h] at h2
    exact (Option.some.inj h2).symm
  have hpre : PreS (f_s f) H (va_Pc (As.map (ren g.2.2.1)) (PH g μ)) (As.map (ren g.2.2.1)) := by
    refine ⟨fun a U gf mk h => ph_blind a U gf mk h, fun U hU hW => ?_⟩
    have h1 := k_pre (As := As) cxn hP hS U hU hW
    exact ⟨h1.1, ⟨h1.2, bx.1.go hW (by rw [hU]; exact hS)⟩, NC.moved hW.alike bx.2.1⟩
  have hwr : 2 * (F0 (f_m f) pc la ((List.reverse As ++ rest).map (ren g.2.2.1))).monitorRoom + ((rest.map (ren g.2.2.1)).map fun v => v.category).sum ≤ 8 := by
    rw [sum_cat]
    exact lv_room hw
  have h8 := cx.2.2.2.2.2.2.2
  refine k_runB (mc := 1) (ms := 6) (la0 := As) h1 (by omega) hz hS ?_ kk
  exact vx_runSW (cc := cc) (nL := nL) (Ts := Om) (own := own) (n := k) ⟨cx.1.1, cx.1.2.1, cx.1.2.2.1, cx.1.2.2.2.1, hts⟩ hM ⟨⟨rfl, rfl, hrf, hrm, hpay, List.mem_cons_self⟩, hts _ w5, hts _ w4, ⟨w6.1, w6.2.1⟩, hlen, hts _ w1, hts _ w2⟩ hpre (g := F0 (f_m f) pc la ((List.reverse As ++ rest).map (ren g.2.2.1))) (p := f_p f) (e := f_e f) (below := f_b f) (meth := f_M f) rfl (by rw [List.length_map]; exact hn) hz.1 e1 hwr d ⟨Nat.le_trans h1 h8.1, Nat.le_trans (by omega) h8.2⟩
/-- a call of a method of the class that may throw, where it doesn't -/
theorem k_callXd {index pp k mL fr2 lo2 ci n2 : Nat} {C : String} {Tt : u_T} {NN : Nat} {y : MethodName} {b : ByteArray} {ret : Option FieldType} {fs : List (Option Nat)} {As rest : List Value} {q : Qo} {qx : String → Mm → Prop} (hcx : ∀ n, n ≤ m → Cx g f cc nL own fr lo n (6 * n)) (bx : BXl g z f) (hM : MX g (f_l f) y b mL ret fr2 lo2 (.ref pp :: As) μ q qx) (hno : ∀ E μ2, ¬ qx E μ2) (w1 : Cond.methodLink own index y ∈ Om) (cw : CV own index y b mL ret k) (hp : LAt g pp (.inr (.inr (ci, fs)))) (hc : vwCl[ci]? = some (C, Tt, NN)) (hy : y.cls = C) (hn : As.length = k) (hst : st = As.reverse ++ .ref pp :: rest) (hw : (rest.map fun v => v.category).sum ≤ 8) (hR : fr2 + 1 ≤ fr ∧ 8 + (mL + 11) + lo2 ≤ lo) (h1 : n + 1 ≤ n2) (h2 : n2 ≤ m) (d : decode cc pc = .ok (.invokevirtual index, 3))
    (kk : ∀ v μ2, q v μ2 → KW g f nL n2 (6 * n2) (pc + 3) ls (v.toList ++ rest) μ2) : KW g f nL n (6 * n) pc ls st μ := by
  subst hst
  intro H locs la hP hS hz
  have cx := hcx n2 h2
  have cxn := hcx n (by omega)
  obtain ⟨-, w2, w3, w4, w5, w6⟩ := cw
  have hts := cx.1.2.2.2.2
  have hG : GoodIn lw_tbl (Cond.code y b mL ret :: Om) := om_good0 w5
  have hpay : ∀ w ∈ (Cond.code y b mL ret :: Om), ∀ (a2 : Array Value) (U : State), (f_s f).WarmedH U.vm → w.before a2 U = true := by
    intro w hw a2 U hW
    have hm : w ∈ Om := by rcases List.mem_cons.mp hw with rfl | h <;> assumption
    exact word_at hW (hG w hw).2 (hts w hm)
  have e1 : (List.reverse As ++ .ref pp :: rest).map (ren g.2.2.1) = (As.map (ren g.2.2.1)).reverse ++ .ref (g.2.2.1 pp) :: rest.map (ren g.2.2.1) := by simp [ren]
  have hrm : (8 : Nat) + (mL + 11) + lo2 ≤ (f_R f).locals := Nat.le_trans hR.2 cx.2.2.2.2.2.2.1
  have hrf : fr2 + 1 ≤ (f_R f).frames := Nat.le_trans hR.1 cx.2.2.2.2.2.1
  have hlen : ∀ sig, parseMethodDescriptor y.desc = some sig → k = sig.parameters.length := fun sig h => by
    have h2 := w6.2.2
    rw [h] at h2
    exact (Option.some.inj h2).symm
  have hpre : PreV (f_s f) H y.cls (g.2.2.1 pp) (va_Pc (((.ref pp :: As) : List Value).map (ren g.2.2.1)) (PX g μ)) (As.map (ren g.2.2.1)) := by
    refine ⟨fun a U gf mk h => px_blind a U gf mk h, ?_, fun U hU hW => ?_⟩
    · rw [hy]
      obtain ⟨j, hj⟩ := hp.pos
      exact va_recv cx.2.2.1 hP hc (Wd_k hj)
    · have h1 := k_pre (As := .ref pp :: As) cxn hP hS U hU hW
      exact ⟨h1.1, h1.2, bx.1.go hW (by rw [hU]; exact hS)⟩
  have hwr : 2 * (F0 (f_m f) pc la ((List.reverse As ++ .ref pp :: rest).map (ren g.2.2.1))).monitorRoom + ((rest.map (ren g.2.2.1)).map fun v => v.category).sum ≤ 8 := by
    rw [sum_cat]
    exact lv_room hw
  have h8 := cx.2.2.2.2.2.2.2
  have hr := vx_runV (cc := cc) (nL := nL) (Ts := Om) (own := own) (locs := locs) (cells := n) (slots := 6 * n) ⟨cx.1.1, cx.1.2.1, cx.1.2.2.1, cx.1.2.2.2.1, hts⟩ hM ⟨⟨rfl, rfl, hrf, hrm, hpay, List.mem_cons_self, hts _ w5, hts _ w4, ⟨w6.1, w6.2.1⟩, hlen, hts _ w1⟩, hts _ w2, hts _ w3⟩ hpre (g := F0 (f_m f) pc la ((List.reverse As ++ .ref pp :: rest).map (ren g.2.2.1))) (p := f_p f) (e := f_e f) (below := f_b f) (meth := f_M f) rfl (by rw [List.length_map]; exact hn) hz.1 e1 hwr d ⟨Nat.le_trans h1 h8.1, Nat.le_trans (by omega) h8.2⟩
  intro T hT X
  rcases hr T hT X with ⟨v, st₀, t, T', L, h0, X', hL, e2, e3, ⟨⟨v2, μ2, hv, hq, hP1⟩, hz1, hk⟩, stp⟩ | ⟨q9, st₀, t, T', L, E, ce, h0, X', hL, e2, e3, ⟨⟨μ2, hq, hP1⟩, hz1, hk⟩, hce, hcv, hcl, stp⟩
  · rw [h0] at hz1 hk
    have hv2 : v = v2.map (ren g.2.2.1) := by cases hv; rfl
    subst hv2
    have kw := k_widen (g := g) (kc := n + 1) (ks := 6 * n + 6) h1 (by omega) (kk v2 μ2 hq)
    obtain ⟨t2, a1, b1⟩ := kw T'.heap (locs ++ L) la (by rw [e2]; exact hP1)
      ⟨Nat.le_trans hS.1 (by rw [e2]; exact hz1), fun q h1 h2 => by rw [e2, hk q (Nat.lt_of_lt_of_le h1 hS.1) h2]; exact hS.2.1 q h1 h2, fun q hq => by
        rcases List.mem_append.mp hq with h | h
        · exact hS.2.2 q h
        · exact hL q h⟩ hz T' rfl X'
    refine ⟨t2, stp t2 ?_, b1⟩
    have e5 : (v2.toList ++ rest).map (ren g.2.2.1) = (v2.map (ren g.2.2.1)).toList ++ rest.map (ren g.2.2.1) := by cases v2 <;> rfl
    rw [e5] at a1
    exact a1
  · exact absurd hq (hno E μ2)
def CSx (own : String) (index : Nat) (y : MethodName) (b : ByteArray) (mL : Nat) (ret : Option FieldType) (n : Nat) : Prop :=
  Cond.methodLink own index y ∈ Om ∧ Cond.static y ∈ Om ∧ Cond.initialized y.cls ∈ Om ∧ Cond.code y b mL ret ∈ Om ∧ (y.cls ≠ "java/lang/invoke/MethodHandle" ∧ y.cls ≠ "java/lang/invoke/VarHandle" ∧ (parseMethodDescriptor y.desc).map (fun d => d.parameters.length) = some n)
/-- a call of a method of the class, whose throws go on outwards -/
theorem k_callXO {index pp k mL fr2 lo2 ci : Nat} {C : String} {Tt : u_T} {NN : Nat} {y : MethodName} {b : ByteArray} {ret : Option FieldType} {fs : List (Option Nat)} {As rest : List Value} {q qq : Qo} {qx qx2 : String → Mm → Prop} (cx : Cx g f cc nL own fr lo 0 0) (fx : FX g f qq qx2) (hM : MX g (f_l f) y b mL ret fr2 lo2 (.ref pp :: As) μ q qx) (hx : ∀ E μ2, qx E μ2 → qx2 E μ2) (w1 : Cond.methodLink own index y ∈ Om) (cw : CV own index y b mL ret k) (hp : LAt g pp (.inr (.inr (ci, fs)))) (hc : vwCl[ci]? = some (C, Tt, NN)) (hy : y.cls = C) (hn : As.length = k) (hst : st = As.reverse ++ .ref pp :: rest) (hw : (rest.map fun v => v.category).sum ≤ 8) (hR : fr2 + 1 ≤ fr ∧ 8 + (mL + 11) + lo2 ≤ lo) (d : decode cc pc = .ok (.invokevirtual index, 3))
    (kk : ∀ v μ2, q v μ2 → KW g f nL 1 6 (pc + 3) ls (v.toList ++ rest) μ2) : KW g f nL 0 0 pc ls st μ := by
  subst hst
  intro H locs la hP hS hz
  obtain ⟨sx, hRc, hRs, hst, hnt, hlk, hQ⟩ := fx
  obtain ⟨-, w2, w3, w4, w5, w6⟩ := cw
  have hts := cx.1.2.2.2.2
  have hG : GoodIn lw_tbl (Cond.code y b mL ret :: Om) := om_good0 w5
  have hpay : ∀ w ∈ (Cond.code y b mL ret :: Om), ∀ (a2 : Array Value) (U : State), (f_s f).WarmedH U.vm → w.before a2 U = true := by
    intro w hw a2 U hW
    have hm : w ∈ Om := by rcases List.mem_cons.mp hw with rfl | h <;> assumption
    exact word_at hW (hG w hw).2 (hts w hm)
  have e1 : (List.reverse As ++ .ref pp :: rest).map (ren g.2.2.1) = (As.map (ren g.2.2.1)).reverse ++ .ref (g.2.2.1 pp) :: rest.map (ren g.2.2.1) := by simp [ren]
  have hrm : (8 : Nat) + (mL + 11) + lo2 ≤ (f_R f).locals := Nat.le_trans hR.2 cx.2.2.2.2.2.2.1
  have hrf : fr2 + 1 ≤ (f_R f).frames := Nat.le_trans hR.1 cx.2.2.2.2.2.1
  have hlen : ∀ sig, parseMethodDescriptor y.desc = some sig → k = sig.parameters.length := fun sig h => by
    have h2 := w6.2.2
    rw [h] at h2
    exact (Option.some.inj h2).symm
  have hpre : PreV (f_s f) H y.cls (g.2.2.1 pp) (va_Pc (((.ref pp :: As) : List Value).map (ren g.2.2.1)) (PX g μ)) (As.map (ren g.2.2.1)) := by
    refine ⟨fun a U gf mk h => px_blind a U gf mk h, ?_, fun U hU hW => ?_⟩
    · rw [hy]
      obtain ⟨j, hj⟩ := hp.pos
      exact va_recv cx.2.2.1 hP hc (Wd_k hj)
    · have h1 := k_pre (As := .ref pp :: As) cx hP hS U hU hW
      exact ⟨h1.1, h1.2, sx.go hW (by rw [hU]; exact hS)⟩
  have hwr : 2 * (F0 (f_m f) pc la ((List.reverse As ++ .ref pp :: rest).map (ren g.2.2.1))).monitorRoom + ((rest.map (ren g.2.2.1)).map fun v => v.category).sum ≤ 8 := by
    rw [sum_cat]
    exact lv_room hw
  have hr := vx_runV (cc := cc) (nL := nL) (Ts := Om) (own := own) (locs := locs) (cells := 0) (slots := 0) ⟨cx.1.1, cx.1.2.1, cx.1.2.2.1, cx.1.2.2.2.1, hts⟩ hM ⟨⟨rfl, rfl, hrf, hrm, hpay, List.mem_cons_self, hts _ w5, hts _ w4, ⟨w6.1, w6.2.1⟩, hlen, hts _ w1⟩, hts _ w2, hts _ w3⟩ hpre (g := F0 (f_m f) pc la ((List.reverse As ++ .ref pp :: rest).map (ren g.2.2.1))) (p := f_p f) (e := f_e f) (below := f_b f) (meth := f_M f) rfl (by rw [List.length_map]; exact hn) hz.1 e1 hwr d ⟨by rw [Nat.zero_add]; exact hRc, by rw [Nat.zero_add]; exact hRs⟩
  intro T hT X
  rcases hr T hT X with ⟨v, st₀, t, T', L, h0, X', hL, e2, e3, ⟨⟨v2, μ2, hv, hq, hP1⟩, hz1, hk⟩, stp⟩ | ⟨q9, st₀, t, T', L, E, ce, h0, X', hL, e2, e3, ⟨⟨μ2, hq, hP1⟩, hz1, hk⟩, hce, hcv, hcl, stp⟩
  · rw [h0] at hz1 hk
    have hv2 : v = v2.map (ren g.2.2.1) := by cases hv; rfl
    subst hv2
    obtain ⟨t2, a1, b1⟩ := kk v2 μ2 hq T'.heap (locs ++ L) la (by rw [e2]; exact hP1)
      ⟨Nat.le_trans hS.1 (by rw [e2]; exact hz1), fun q h1 h2 => by rw [e2, hk q (Nat.lt_of_lt_of_le h1 hS.1) h2]; exact hS.2.1 q h1 h2, fun q hq => by
        rcases List.mem_append.mp hq with h | h
        · exact hS.2.2 q h
        · exact hL q h⟩ hz T' rfl X'
    refine ⟨t2, stp t2 ?_, b1⟩
    have e5 : (v2.toList ++ rest).map (ren g.2.2.1) = (v2.map (ren g.2.2.1)).toList ++ rest.map (ren g.2.2.1) := by cases v2 <;> rfl
    rw [e5] at a1
    exact a1
  · rw [h0] at hz1 hk
    have hS2 : va_S (fun q => g.2.2.2.1 ≤ q) (f_s f).heap T'.heap (locs ++ L) := ⟨Nat.le_trans hS.1 (by rw [e2]; exact hz1), fun q h1 h2 => by rw [e2, hk q (Nat.lt_of_lt_of_le h1 hS.1) h2]; exact hS.2.1 q h1 h2, fun q hq => by
        rcases List.mem_append.mp hq with h | h
        · exact hS.2.2 q h
        · exact hL q h⟩
    have key : vx_W (f_p f) (f_l f) (f_e f) (f_R f) (f_s f) (f_m f) (f_a f) (f_b f) (f_M f) (f_c f) T'.heap (locs ++ L) (0 + 1) (0 + 6) (f_Q f) (F0 (f_m f) pc la (rest.map (ren g.2.2.1))) q9 := by
      rw [hQ]
      exact vx_outP (own := own) (E := E) (ce := ce) cx.1.2.2.2.1 hlk (fun x hx => absurd hx (fun hx => hnt x hx)) (by rw [e2]; exact hce) hcv hcl (fun t ht hal => ⟨⟨μ2, hx E μ2 hq, by rw [ht, e2]; exact hP1⟩, hS2.F ht⟩) hS2.2.2 (Nat.le_refl _) (Nat.le_refl _)
    obtain ⟨t2, a1, b1⟩ := key T' rfl X'
    exact ⟨t2, stp.trans a1, b1⟩
/-- a call of the law's own method that may throw, under the handlers -/
theorem k_callXs {index n mL fr2 lo2 : Nat} {y : MethodName} {b : ByteArray} {ret : Option FieldType} {As rest : List Value} {q qq : Qo} {qx : String → Mm → Prop} {hh : List (Nat × Nat × Nat × Nat)} (cx : Cx g f cc nL own fr lo 0 0) (hx : HX g f hh qq) (hM : MX g (f_l f) y b mL ret fr2 lo2 As μ q qx) (cw : CSx own index y b mL ret n) (hn : As.length = n) (hst : st = As.reverse ++ rest) (hw : (rest.map fun v => v.category).sum ≤ 8) (hR : fr2 + 1 ≤ fr ∧ 8 + (mL + 11) + lo2 ≤ lo) (d : decode cc pc = .ok (.invokestatic index, 3))
    (kx : ∀ E μ2, qx E μ2 → ∃ h, HD own hh pc E h ∧ ∃ i, i < nL ∧ ((∃ k : Fin 4, decode cc h = .ok (.astore_n k, 1) ∧ (k : Nat) = i ∧ KW g f nL 1 6 (h + 1) (ls.set i none) [] μ2) ∨ (decode cc h = .ok (.astore i, 2) ∧ KW g f nL 1 6 (h + 2) (ls.set i none) [] μ2)))
    (kk : ∀ v μ2, q v μ2 → KW g f nL 1 6 (pc + 3) ls (v.toList ++ rest) μ2) : KW g f nL 0 0 pc ls st μ := by
  subst hst
  intro H locs la hP hS hz
  obtain ⟨w1, w2, w4, w5, w6⟩ := cw
  have hts := cx.1.2.2.2.2
  have hG : GoodIn lw_tbl (Cond.code y b mL ret :: Om) := om_good0 w5
  have hpay : ∀ w ∈ (Cond.code y b mL ret :: Om), ∀ (a2 : Array Value) (U : State), (f_s f).WarmedH U.vm → w.before a2 U = true := by
    intro w hw a2 U hW
    have hm : w ∈ Om := by rcases List.mem_cons.mp hw with rfl | h <;> assumption
    exact word_at hW (hG w hw).2 (hts w hm)
  have e1 : (List.reverse As ++ rest).map (ren g.2.2.1) = (As.map (ren g.2.2.1)).reverse ++ rest.map (ren g.2.2.1) := by simp
  have hrm : (8 : Nat) + (mL + 11) + lo2 ≤ (f_R f).locals := Nat.le_trans hR.2 cx.2.2.2.2.2.2.1
  have hrf : fr2 + 1 ≤ (f_R f).frames := Nat.le_trans hR.1 cx.2.2.2.2.2.1
  have hlen : ∀ sig, parseMethodDescriptor y.desc = some sig → n = sig.parameters.length := fun sig h => by
    have h2 := w6.2.2
    rw [h] at h2
    exact (Option.some.inj h2).symm
  have hpre : PreS (f_s f) H (va_Pc (As.map (ren g.2.2.1)) (PX g μ)) (As.map (ren g.2.2.1)) := by
    refine ⟨fun a U gf mk h => px_blind a U gf mk h, fun U hU hW => ?_⟩
    have h1 := k_pre (As := As) cx hP hS U hU hW
    exact ⟨h1.1, h1.2, hx.1.go hW (by rw [hU]; exact hS)⟩
  have hwr : 2 * (F0 (f_m f) pc la ((List.reverse As ++ rest).map (ren g.2.2.1))).monitorRoom + ((rest.map (ren g.2.2.1)).map fun v => v.category).sum ≤ 8 := by
    rw [sum_cat]
    exact lv_room hw
  have hr := vx_runS (cc := cc) (nL := nL) (Ts := Om) (own := own) (locs := locs) (cells := 0) (slots := 0) ⟨cx.1.1, cx.1.2.1, cx.1.2.2.1, cx.1.2.2.2.1, hts⟩ hM ⟨⟨rfl, rfl, hrf, hrm, hpay, List.mem_cons_self, hts _ w5, hts _ w4, ⟨w6.1, w6.2.1⟩, hlen, hts _ w1⟩, hts _ w2⟩ hpre (g := F0 (f_m f) pc la ((List.reverse As ++ rest).map (ren g.2.2.1))) (p := f_p f) (e := f_e f) (below := f_b f) (meth := f_M f) rfl (by rw [List.length_map]; exact hn) hz.1 e1 hwr d ⟨by rw [Nat.zero_add]; exact hx.2.2.1, by rw [Nat.zero_add]; exact hx.2.2.2.1⟩
  intro T hT X
  rcases hr T hT X with ⟨v, st₀, t, T', L, h0, X', hL, e2, e3, ⟨⟨v2, μ2, hv, hq, hP1⟩, hz1, hk⟩, stp⟩ | ⟨q9, st₀, t, T', L, E, ce, h0, X', hL, e2, e3, ⟨⟨μ2, hq, hP1⟩, hz1, hk⟩, hce, hcv, hcl, stp⟩
  · rw [h0] at hz1 hk
    have hv2 : v = v2.map (ren g.2.2.1) := by cases hv; rfl
    subst hv2
    obtain ⟨t2, a1, b1⟩ := kk v2 μ2 hq T'.heap (locs ++ L) la (by rw [e2]; exact hP1)
      ⟨Nat.le_trans hS.1 (by rw [e2]; exact hz1), fun q h1 h2 => by rw [e2, hk q (Nat.lt_of_lt_of_le h1 hS.1) h2]; exact hS.2.1 q h1 h2, fun q hq => by
        rcases List.mem_append.mp hq with h | h
        · exact hS.2.2 q h
        · exact hL q h⟩ hz T' rfl X'
    refine ⟨t2, stp t2 ?_, b1⟩
    have e5 : (v2.toList ++ rest).map (ren g.2.2.1) = (v2.map (ren g.2.2.1)).toList ++ rest.map (ren g.2.2.1) := by cases v2 <;> rfl
    rw [e5] at a1
    exact a1
  · rw [h0] at hz1 hk
    obtain ⟨h, ⟨pre, suf, x, name, t1, t2, t3, t4, t5, t6, rfl⟩, i, hi, hk2⟩ := kx E μ2 hq
    have hS2 : va_S (fun q => g.2.2.2.1 ≤ q) (f_s f).heap T'.heap (locs ++ L) := ⟨Nat.le_trans hS.1 (by rw [e2]; exact hz1), fun q h1 h2 => by rw [e2, hk q (Nat.lt_of_lt_of_le h1 hS.1) h2]; exact hS.2.1 q h1 h2, fun q hq => by
        rcases List.mem_append.mp hq with h | h
        · exact hS.2.2 q h
        · exact hL q h⟩
    have hP2 : va_P g.1 vwCl (Wd g μ2) T'.heap := by rw [e2]; exact hP1
    have hcast : (Cond.castable E name).before (f_a f) (f_s f) = true := va_Nw.use rfl (hx.1.1 _ t6)
    have key : vx_W (f_p f) (f_l f) (f_e f) (f_R f) (f_s f) (f_m f) (f_a f) (f_b f) (f_M f) (f_c f) T'.heap (locs ++ L) (0 + 1) (0 + 6) (f_Q f) (F0 (f_m f) pc la (rest.map (ren g.2.2.1))) q9 := by
      refine vx_catch (ce := ce) (E := E) (own := own) (name := name) cx.1.2.2.2.1 pre x suf (hx.2.2.2.2.2.1.trans t1) (fun z hz => ?_) t3 t4 (hts _ t5) hcast (by rw [e2]; exact hce) hcv hcl ?_
      · rcases t2 z hz with h | ⟨h1, nm, h2, h3⟩
        · exact Or.inl h
        · exact Or.inr ⟨h1, nm, hts _ h2, hx.2.1 _ h3⟩
      · rcases hk2 with ⟨k, d2, hki, hk3⟩ | ⟨d2, hk3⟩
        · exact lv_astore_n cx.1.1 cx.1.2.1 d2 hki (lz_has hz) hi rfl (fun la2 h2 => hk3 _ _ la2 hP2 hS2 (lz_setN hz h2))
        · exact lv_astore cx.1.1 cx.1.2.1 d2 (lz_has hz) hi rfl (fun la2 h2 => hk3 _ _ la2 hP2 hS2 (lz_setN hz h2))
    obtain ⟨t2, a1, b1⟩ := key T' rfl X'
    exact ⟨t2, stp.trans a1, b1⟩
theorem k_xret6_I {q : Int32 → Mm → Prop} {qx : String → Mm → Prop} {x : Int32} (cx : Cx g f cc nL own fr lo 0 0) (hr : (f_M f).sig.returnType = some .int) (fx : FX g f (qI q) qx) (d : decode cc pc = .ok (.ireturn, 1)) (hq : q x μ) : KW g f nL 1 6 pc ls [.int x] μ := by
  intro H locs la hP hS hz
  rw [fx.2.2.2.2.2.2]
  exact vx_ret (W.iret (hlocks := fx.2.2.2.2.2.1) cx.1.1 cx.1.2.1 hr (fun t ht hW => ⟨⟨some (.int x), μ, rfl, ⟨x, rfl, hq⟩, by rw [ht]; exact hP⟩, hS.F ht⟩) hS.2.2 d)
/-- a new array of ints -/
theorem k_bnew {N2 : Nat} {x : Int32} {c n2 p2 : Nat} (hm : g.2.2.2.2 = []) (hp : p2 = 27 ∨ p2 = 28) (hcx : ∀ n, n ≤ m → Cx g f cc nL own fr lo n (6 * n)) (bx : BXl g z f) (harr : Cond.arrayClass .int ∈ Om) (hx : ¬ x < 0) (hN : x.toNatClampNeg = N2) (hb : N2 * 4 ≤ 536870912) (hc : 1 ≤ c) (hs : N2 ≤ 6 * c) (h1 : n + c ≤ n2) (h2 : n2 ≤ m) (hls : ∀ v, some v ∈ ls → v ≠ .ref p2) (hstk : ∀ v ∈ st, v ≠ .ref p2) (d : decode cc pc = .ok (.newarray .int, 2))
    (kk : ∀ g2, GXn g g2 p2 N2 → (∀ n, n ≤ m → Cx g2 f cc nL own fr lo n (6 * n)) → BXl g2 z f → KW g2 f nL n2 (6 * n2) (pc + 2) ls (.ref p2 :: st) (zrm μ p2)) : KW g f nL n (6 * n) pc ls (.int x :: st) μ := by
  intro H locs la hP hS hz
  have cx := hcx n2 h2
  have h8 := cx.2.2.2.2.2.2.2
  have hD := cx.2.2.2.1
  refine va_newaK (atype := .int) cx.1.1 cx.1.2.1 (cx.1.2.2.2.2 _ harr) (g := F0 (f_m f) pc la ((.int x :: st).map (ren g.2.2.1))) rfl d rfl hx hN hb (Nat.le_trans (show n + 1 ≤ n2 by omega) h8.1) (Nat.le_trans (show 6 * n + N2 ≤ 6 * n2 by omega) h8.2) rfl fun H1 cA e1 z1 o1 hAr hNm => ?_
  obtain ⟨g2, hg2⟩ : ∃ g2 : GE, g2 = (g.1, g.2.1, (fun c => if c = p2 then H.size else g.2.2.1 c), g.2.2.2.1, [(p2, .inl (0, N2))]) := ⟨_, rfl⟩
  have hcls : cA = g.2.1 0 := by
    have h5 := (cx.2.2.1.2 0 _ rfl).2
    have h6 : (f_s f).vm.findClass ("[" ++ (FieldType.int).toString) = some (g.2.1 0) := h5
    exact Option.some.inj (hNm.symm.trans h6)
  have hWd : ∀ μ2, Wd g2 μ2 = Wd g μ2 ++ [(H.size, .inl (g.2.1 0, N2, .inl (μ2 p2)))] := by
    intro μ2
    rw [hg2]
    unfold Wd layX
    rw [hm, List.append_nil, List.map_append]
    congr 1
    · apply List.map_congr_left
      intro c hc
      obtain ⟨n1, n2⟩ := l0_ne hc hp
      rw [en_ext (g := g) (g2 := (g.1, g.2.1, (fun c => if c = p2 then H.size else g.2.2.1 c), g.2.2.2.1, [(p2, Sum.inl (0, N2))])) (p := p2) rfl rfl (fun q hq => if_neg hq) n2]
      simp only [if_neg n1]
    · show [((if p2 = p2 then H.size else g.2.2.1 p2), en _ _ (μ2 p2))] = _
      rw [if_pos rfl]
      rfl
  have hgx : GXn g g2 p2 N2 := by
    refine ⟨hm, hp, ⟨H.size, hg2⟩, fun μ2 => ?_⟩
    rw [hWd]
    have h3 : va_D (fun q => g.2.2.2.1 ≤ q) (Wd g μ ++ [(H.size, .inl (g.2.1 0, N2, .inl (μ2 p2)))]) := (hD μ).push hP rfl (Nat.le_trans cx.2.2.2.2.1 hS.1)
    have hk : ∀ (k : Nat) (q : Nat × va_E), (Wd g μ2 ++ [((H.size, .inl (g.2.1 0, N2, .inl (μ2 p2))) : Nat × va_E)])[k]? = some q → ∃ q0, (Wd g μ ++ [((H.size, .inl (g.2.1 0, N2, .inl (μ2 p2))) : Nat × va_E)])[k]? = some q0 ∧ q0.1 = q.1 := by
      intro k q hq
      by_cases hl : k < (layX g).length
      · rw [List.getElem?_append_left (by simpa [Wd] using hl)] at hq ⊢
        simp only [Wd, List.getElem?_map] at hq ⊢
        cases hk : (layX g)[k]? with
        | none => rw [hk] at hq; cases hq
        | some e =>
          rw [hk] at hq
          cases hq
          exact ⟨_, rfl, rfl⟩
      · rw [List.getElem?_append_right (by simp only [Wd, List.length_map]; omega)] at hq ⊢
        simp only [Wd, List.length_map] at hq ⊢
        exact ⟨q, hq, rfl⟩
    refine ⟨fun i j p q hi hj hpq => ?_, fun k q hq => ?_⟩
    · obtain ⟨p0, h4, h5⟩ := hk i p hi
      obtain ⟨q0, h6, h7⟩ := hk j q hj
      exact h3.1 i j p0 q0 h4 h6 (h5.trans (hpq.trans h7.symm))
    · obtain ⟨q0, h4, h5⟩ := hk k q hq
      rw [← h5]
      exact h3.2 k q0 h4
  have hkeep : ∀ (k : Nat) (x : Nat × va_E), (Wd g μ)[k]? = some x → H1[x.1]? = H[x.1]? := fun k x hx => o1 x.1 ((hP k x hx).lt)
  have hWz : Wd g (zrm μ p2) = Wd g μ := by
    unfold Wd
    apply List.map_congr_left
    intro c hc
    have h4 : c ∈ lays0 := by
      unfold layX at hc
      rw [hm, List.append_nil] at hc
      exact hc
    rw [show zrm μ p2 c.1 = μ c.1 from if_neg (l0_ne h4 hp).1]
  have hP2 : va_P g2.1 vwCl (Wd g2 (zrm μ p2)) H1 := by
    rw [hWd, hWz, show zrm μ p2 p2 = (fun _ => 0) from if_pos rfl, hg2]
    refine va_P.app (hP.kept hkeep) (fun k x hx => ?_)
    have hz : k < 1 := (List.getElem?_eq_some_iff.mp hx).1
    rw [show k = 0 by omega] at hx
    cases hx
    show H1[H.size]? = some (vp_cell _ _)
    rw [← hcls]
    exact e1
  have hS2 : va_S (fun q => g2.2.2.2.1 ≤ q) (f_s f).heap H1 locs := by
    rw [hgx.base]
    exact ⟨Nat.le_trans hS.1 (by omega), fun x h1 h2 => (o1 x (Nat.lt_of_lt_of_le h1 hS.1)).trans (hS.2.1 x h1 h2), hS.2.2⟩
  have hre : ∀ v : Value, v ≠ .ref p2 → ren g2.2.2.1 v = ren g.2.2.1 v := by
    intro v hv
    rw [hg2]
    cases v with
    | ref q => show Value.ref (if q = p2 then H.size else g.2.2.1 q) = _; rw [if_neg (fun h => hv (by rw [h]))]; rfl
    | _ => rfl
  have hz2 : lz g2.2.2.1 la nL ls := ⟨hz.1, hz.2.1, fun i v hi => by rw [hre v (hls v (List.mem_of_getElem? hi))]; exact hz.2.2 i v hi⟩
  have k2 := k_widen (g := g2) (kc := n + 1) (ks := 6 * n + N2) (by omega) (by omega) (kk g2 hgx (fun n hn => hgx.cx (hcx n hn)) (hgx.bx bx)) H1 locs la hP2 hS2 hz2
  have e3 : ((.ref p2 :: st : List Value)).map (ren g2.2.2.1) = .ref H.size :: st.map (ren g.2.2.1) := by
    rw [List.map_cons]
    congr 1
    · rw [hg2]
      show Value.ref (if p2 = p2 then H.size else _) = _
      rw [if_pos rfl]
    · exact List.map_congr_left (fun v hv => hre v (hstk v hv))
  rw [e3] at k2
  exact k2
def irm (x y : Int32) : Int32 := x - x / y * y
theorem k_rem {kc ks : Nat} {x y : Int32} (cx : Cx g f cc nL own fr lo kc ks) (d : decode cc pc = .ok (.irem, 1)) (h0 : ¬ y = 0) (kk : KW g f nL kc ks (pc + 1) ls (.int (irm x y) :: st) μ) : KW g f nL kc ks pc ls (.int y :: .int x :: st) μ := k_irem cx d h0 kk
end K6
