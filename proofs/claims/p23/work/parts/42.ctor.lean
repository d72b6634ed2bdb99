theorem aoa_spec {ty : FieldType} {U : State} (h : va_AOA ty U) : ∃ comp c k, U.vm.findClass (FieldType.array ty).toString = some comp ∧ (U.vm.classes.findIdx? fun (x : Class) => match x.kind with | .array component _ => component == comp | _ => false) = some c ∧ U.vm.classes[c]? = some k ∧ k.kind = .array comp (.array ty) ∧ U.vm.findClass ("[" ++ (FieldType.array ty).toString) = some c := by
  have h : (Cond.arrayOver (.array ty)).holds #[] U none U [] = true := h
  simp only [Cond.holds, Cond.value, beq_iff_eq] at h
  cases hf : U.vm.findClass (FieldType.array ty).toString with
  | none => simp [hf] at h
  | some comp =>
    simp only [hf, Option.bind_some, Option.bind_eq_some_iff, Option.map_eq_some_iff] at h
    obtain ⟨c, hi, k, hk, hb⟩ := h
    obtain ⟨hlt, hp, -⟩ := Array.findIdx?_eq_some_iff_getElem.mp hi
    have e : U.vm.classes[c] = k := (Array.getElem?_eq_some_iff.mp hk).2
    rw [e] at hp
    cases hkind : k.kind with
    | array component t2 =>
      rw [hkind] at hb hp
      simp at hb hp
      exact ⟨comp, c, k, rfl, hi, hk, by rw [hkind, hp, hb.1], hb.2⟩
    | _ => rw [hkind] at hb; simp at hb
theorem va_AOA.moved {ty : FieldType} {u U : State} (hvm : u.vm.Alike U.vm) (h : va_AOA ty u) : va_AOA ty U := by
  obtain ⟨comp, c, k, h1, h2, h3, h4, h5⟩ := aoa_spec h
  obtain ⟨k', hk', he⟩ := hvm.2.2 _ _ h3
  have hi : (U.vm.classes.findIdx? fun (x : Class) => match x.kind with | .array component _ => component == comp | _ => false) = some c := by
    have e1 := va_idx_bare U.vm comp
    have e2 := va_idx_bare u.vm comp
    have e3 : U.vm.bare = u.vm.bare := by first | exact hvm.bare_eq | exact hvm.bare_eq.symm
    rw [e3] at e1
    exact e1.symm.trans (e2.trans h2)
  have hkind : k'.kind = .array comp (.array ty) := by rw [he]; exact h4
  have f1 : U.vm.findClass (FieldType.array ty).toString = some comp := by rw [hvm.findClass]; exact h1
  have f2 : U.vm.findClass ("[" ++ (FieldType.array ty).toString) = some c := by rw [hvm.findClass]; exact h5
  unfold va_AOA Cond.before Cond.holds
  simp only [Cond.value]
  rw [f1, Option.bind_some]
  refine (congrArg (fun o : Option Nat => (o.bind (fun c => (U.vm.classes[c]?).map fun (k : Class) => match k.kind with | .array _ t2 => decide (t2 = FieldType.array ty) && decide (U.vm.findClass ("[" ++ (FieldType.array ty).toString) = some c) | _ => false) == some true)) hi).trans ?_
  simp [hk', hkind, f2]
theorem OV.warm {s U : State} (hW : s.WarmedH U.vm) (h : OV s) : OV U := ⟨va_AOA.moved hW.alike h.1, va_AO.moved hW.alike h.2⟩
def QC (g : GC) (wl : List va_E) : Array Value → State → Outcome → State → Prop := fun _ st oc t => (oc = .returned none ∧ ClW g.2.2.2.2 wl [] [] ∧ ∃ ad : Nat → Nat, (∀ p, p < g.2.2.2.2 → ad p = g.2.2.2.1 p) ∧ va_P g.1 vwCl (cw g.2.1 ad wl) t.heap ∧ va_D (fun q => g.2.2.1 ≤ q) (cw g.2.1 ad wl)) ∧ va_F (fun q => g.2.2.1 ≤ q) st t
def PC (g : GC) (wl : List va_E) (U : State) : Prop := va_P g.1 vwCl (cw g.2.1 g.2.2.2.1 wl) U.heap ∧ va_D (fun q => g.2.2.1 ≤ q) (cw g.2.1 g.2.2.2.1 wl) ∧ va_K g.1 vwCl (tysC g) U ∧ NW U ∧ OV U ∧ g.2.2.1 ≤ U.heap.size
def MC (g : GC) (l : Launch) (y : MethodName) (b : ByteArray) (mL fr lo mc ms : Nat) (As : List Value) (wl wl2 : List va_E) : Prop :=
  Met l y (Cond.code y b mL none :: Om) { frames := fr, cells := mc, slots := ms, locals := lo } (va_Pc (As.map (ren g.2.2.2.1)) (PC g wl)) (QC g wl2) mc ms (fun q => g.2.2.1 ≤ q)
theorem met_ofC {g : GC} {l : Launch} {y : MethodName} {b : ByteArray} {mL fr lo mc ms : Nat} {As : List Value} {wl wl2 : List va_E} (hy : plainName y.cls = true) (hn : As.length ≤ mL) (hc : ∀ v ∈ As, v.category = 1) (hn0 : g.2.2.2.2 = wl.length) (hcl : ∀ e ∈ wl, rbE wl.length e) (hAs : ∀ v ∈ As, rbV wl.length v)
    (h : ∀ f : FE, f_l f = l → CC g f b mL y.cls fr lo mc ms → (f_M f).sig.returnType = none → (f_M f).locks = false → (f_M f).name = y.name → f_Q f = MQ (f_b f) (QC g wl2) (f_a f) (f_s f) mc ms (fun q => g.2.2.1 ≤ q) → KC g f [] mL 0 0 0 (As.map some ++ List.replicate (mL - As.length) none) [] wl) : MC g l y b mL fr lo mc ms As wl wl2 := by
  refine Met.ofW (cc := b) (maxL := mL) (ret := none) hy rfl ?_
  intro p e s m args below meth c s₁ B hml hv
  obtain ⟨rfl, hP, hD, hK, hN, hO, hz⟩ := hv
  have hts := atoms_spec (ws := Cond.code y b mL none :: Om) B.pre
  have hown : s.vm.findClass y.cls = some m.cls := findClass_of_methodNamed B.named
  have h1 := h (p, l, e, (headSpec (Cond.code y b mL none :: Om) { frames := fr, cells := mc, slots := ms, locals := lo }).room, s, m, (As.map (ren g.2.2.2.1)).toArray, below, meth, c, MQ below (QC g wl2) (As.map (ren g.2.2.2.1)).toArray s mc ms (fun q => g.2.2.1 ≤ q)) rfl
    ⟨⟨B.exec, B.bytes, hml, hown, fun w hw => hts w (List.mem_cons_of_mem _ hw)⟩, hN, hK, hO, hz, Nat.le_refl _, Nat.le_refl _, Nat.le_refl _, Nat.le_refl _⟩ B.returns B.notSynchronized (name_of_methodNamed B.named B.method).1 rfl
  rw [lg_entry_eq]
  refine h1 ⟨Nat.le_of_eq hn0, hcl, fun v hv => ?_, fun v hv => by cases hv⟩ g.2.2.2.1 s.heap [] _ (fun p _ => rfl) hP hD va_S.rf ⟨lz_entry g.2.2.2.1 As hn hc, fun q hq => by cases hq⟩
  rcases List.mem_append.mp hv with hv | hv
  · obtain ⟨w, hw, hw2⟩ := List.mem_map.mp hv
    cases hw2
    exact hAs v hw
  · rw [List.mem_replicate] at hv
    cases hv.2
section C1
variable {g : GC} {f : FE} {X : List (Nat × Value)} {cc : ByteArray} {nL : Nat} {own : String} {fr lo kc ks kM sM pc : Nat} {ls : List (Option Value)} {st : List Value} {wl : List va_E}
theorem c_vret {wl2 : List va_E} (cx : CC g f cc nL own fr lo kM sM) (hr : (f_M f).sig.returnType = none) (hl : (f_M f).locks = false) (hQ : f_Q f = MQ (f_b f) (QC g wl2) (f_a f) (f_s f) kM sM (fun q => g.2.2.1 ≤ q)) (hk : kc ≤ kM) (hs : ks ≤ sM) (hw : wl = wl2) (d : decode cc pc = .ok (.return_, 1)) : KC g f X nL kc ks pc ls [] wl := by
  subst hw
  intro hc ad H locs la ha hP hD hS hz
  rw [hQ]
  exact W.widen hk hs (W.vret (hlocks := hl) cx.1.1 cx.1.2.1 hr (fun t ht hW => ⟨⟨rfl, ⟨hc.1, hc.2.1, (fun v hv => by simp at hv), (fun v hv => by simp at hv)⟩, ad, ha, by rw [ht]; exact hP, hD⟩, hS.F ht⟩) hS.2.2 d)
def CI (own : String) (index : Nat) (y : MethodName) (b : ByteArray) (mL n : Nat) : Prop :=
  (Cond.methodLink own index y ∈ Om ∨ ∃ host, Cond.methodLinkNest own index y host ∈ nestL) ∧ Cond.instanceMethod y ∈ Om ∧ Cond.initialized y.cls ∈ Om ∧ Cond.code y b mL none ∈ Om ∧ y.name = "<init>" ∧ (y.cls ≠ "java/lang/invoke/MethodHandle" ∧ y.cls ≠ "java/lang/invoke/VarHandle" ∧ (parseMethodDescriptor y.desc).map (fun d => d.parameters.length) = some n)
theorem c_callI {index n p mL fr2 lo2 mc ms : Nat} {y : MethodName} {b : ByteArray} {As rest : List Value} {wl2 : List va_E} (cx : CC g f cc nL own fr lo kM sM) (hM : (∀ e ∈ wl, rbE wl.length e) → (∀ v ∈ (.ref p :: As : List Value), rbV wl.length v) → ∀ ad, MC (g.1, g.2.1, g.2.2.1, ad, wl.length) (f_l f) y b mL fr2 lo2 mc ms (.ref p :: As) wl wl2) (cw0 : CI own index y b mL n) (hn : As.length = n) (hst : st = As.reverse ++ .ref p :: rest) (hw : (rest.map fun v => v.category).sum ≤ 8) (hR : fr2 + 1 ≤ fr ∧ 8 + (mL + 11) + lo2 ≤ lo) (hk : kc + mc ≤ kM) (hs : ks + ms ≤ sM) (d : decode cc pc = .ok (.invokespecial index, 3))
    (kk : KC g f X nL (kc + mc) (ks + ms) (pc + 3) ls rest wl2) : KC g f X nL kc ks pc ls st wl := by
  subst hst
  intro hc ad H locs la ha hP hD hS hz
  obtain ⟨w1, w2, w4, w5, w0, w6⟩ := cw0
  have hts := cx.1.2.2.2.2
  have hG : GoodIn lw_tbl (Cond.code y b mL none :: Om) := om_good0 w5
  have hpay : ∀ w ∈ (Cond.code y b mL none :: Om), ∀ (a2 : Array Value) (U : State), (f_s f).WarmedH U.vm → w.before a2 U = true := by
    intro w hw a2 U hW
    have hm : w ∈ Om := by rcases List.mem_cons.mp hw with rfl | h <;> assumption
    exact word_at hW (hG w hw).2 (hts w hm)
  have e1 : (List.reverse As ++ .ref p :: rest).map (ren ad) = (As.map (ren ad)).reverse ++ .ref (ad p) :: rest.map (ren ad) := by simp [ren]
  have hrm : (8 : Nat) + (mL + 11) + lo2 ≤ (f_R f).locals := Nat.le_trans hR.2 cx.2.2.2.2.2.2.1
  have hrf : fr2 + 1 ≤ (f_R f).frames := Nat.le_trans hR.1 cx.2.2.2.2.2.1
  have hlen : ∀ sig, parseMethodDescriptor y.desc = some sig → n = sig.parameters.length := fun sig h => by
    have h2 := w6.2.2
    rw [h] at h2
    exact (Option.some.inj h2).symm
  have hcr : ∀ v ∈ rest, rbV wl.length v := fun v hv => hc.2.2.2 v (List.mem_append_right _ (List.mem_cons_of_mem _ hv))
  have hca : ∀ v ∈ (.ref p :: As : List Value), rbV wl.length v := by
    intro v hv
    rcases List.mem_cons.mp hv with rfl | hv
    · exact hc.2.2.2 _ (List.mem_append_right _ List.mem_cons_self)
    · exact hc.2.2.2 v (List.mem_append_left _ (List.mem_reverse.mpr hv))
  have hpre : PreS (f_s f) H (va_Pc (((.ref p :: As) : List Value).map (ren ad)) (PC (g.1, g.2.1, g.2.2.1, ad, wl.length) wl)) (.ref (ad p) :: As.map (ren ad)) := by
    refine ⟨fun a U gf mk h => ?_, fun U hU hW => ?_⟩
    · exact ⟨h.1, h.2.1, h.2.2.1, va_K.moved (u := U) (U := U.calling gf mk a) (Vm.Alike.refl U.vm) h.2.2.2.1, NW.same (s := U) (U := U.calling gf mk a) rfl h.2.2.2.2.1, h.2.2.2.2.2.1, h.2.2.2.2.2.2⟩
    · exact ⟨rfl, by rw [hU]; exact hP, hD, va_K.moved hW.alike cx.2.2.1, NW.warm hW cx.2.1, OV.warm hW cx.2.2.2.1, by rw [hU]; exact Nat.le_trans cx.2.2.2.2.1 hS.1⟩
  have hwr : 2 * (F0 (f_m f) pc la ((List.reverse As ++ .ref p :: rest).map (ren ad))).monitorRoom + ((rest.map (ren ad)).map fun v => v.category).sum ≤ 8 := by
    rw [sum_cat]
    exact lv_room hw
  have hr : va_Run (f_p f) (f_l f) (f_e f) (f_R f) (f_s f) (f_m f) (f_a f) (f_b f) (f_M f) (f_c f) H locs kc ks mc ms (F0 (f_m f) pc la ((List.reverse As ++ .ref p :: rest).map (ren ad))) (rest.map (ren ad)) (QC (g.1, g.2.1, g.2.2.1, ad, wl.length) wl2 (Value.ref (ad p) :: As.map (ren ad)).toArray) (fun q => g.2.2.1 ≤ q) := by
    rcases w1 with w1 | ⟨host, w1⟩
    · exact va_runI (cc := cc) (nL := nL) (Ts := Om) (own := own) (n := n) ⟨cx.1.1, cx.1.2.1, cx.1.2.2.1, cx.1.2.2.2.1, hts⟩ (hM hc.2.1 hca ad) ⟨⟨rfl, rfl, hrf, hrm, hpay, List.mem_cons_self, hts _ w5, hts _ w4, ⟨w6.1, w6.2.1⟩, hlen, hts _ w1⟩, w0, hts _ w2⟩ hpre rfl (by rw [List.length_map]; exact hn) hz.1.1 e1 hwr d ⟨Nat.le_trans hk cx.2.2.2.2.2.2.2.1, Nat.le_trans hs cx.2.2.2.2.2.2.2.2⟩
    · exact va_runIN (cc := cc) (nL := nL) (Ts := Om) (own := own) (host := host) (n := n) ⟨cx.1.1, cx.1.2.1, cx.1.2.2.1, cx.1.2.2.2.1, hts⟩ (hM hc.2.1 hca ad) ⟨⟨⟨rfl, rfl, hrf, hrm, hpay, List.mem_cons_self⟩, hts _ w5, hts _ w4, ⟨w6.1, w6.2.1⟩, hlen, va_Nw.use rfl (cx.2.1 _ w1)⟩, w0, hts _ w2⟩ hpre rfl (by rw [List.length_map]; exact hn) hz.1.1 e1 hwr d ⟨Nat.le_trans hk cx.2.2.2.2.2.2.2.1, Nat.le_trans hs cx.2.2.2.2.2.2.2.2⟩
  intro T hT X
  obtain ⟨v, st₀, t, T', Lc, h0, X', hL, e2, e3, ⟨⟨hv, hc2, ad2, ha2, hP1, hD1⟩, hz1, hk1⟩, stp⟩ := hr T hT X
  rw [h0] at hz1 hk1
  cases hv
  have hc2' : wl.length ≤ wl2.length := hc2.1
  have ha2' : ∀ p, p < wl.length → ad2 p = ad p := ha2
  obtain ⟨t2, a1, b1⟩ := kk ⟨Nat.le_trans hc.1 hc2', hc2.2.1, fun v hv => (hc.2.2.1 v hv).mono hc2', fun v hv => (hcr v hv).mono hc2'⟩ ad2 T'.heap (locs ++ Lc) la (fun q hq => (ha2' q (Nat.lt_of_lt_of_le hq hc.1)).trans (ha q hq)) (by rw [e2]; exact hP1) hD1
    ⟨Nat.le_trans hS.1 (by rw [e2]; exact hz1), fun q h1 h2 => by rw [e2, hk1 q (Nat.lt_of_lt_of_le h1 hS.1) h2]; exact hS.2.1 q h1 h2, fun q hq => by
      rcases List.mem_append.mp hq with h | h
      · exact hS.2.2 q h
      · exact hL q h⟩ (lzx_same ha2' hc.2.2.1 hz) T' rfl X'
  refine ⟨t2, stp t2 ?_, b1⟩
  rw [st_same ha2' hcr] at a1
  exact a1
theorem c_newq {index N : Nat} {n : Int32} (cx : CC g f cc nL own fr lo kM sM) (hcl : Cond.classLink own index "MeshLodger$Request" ∈ Om) (hn : ¬ n < 0) (hN : n.toNatClampNeg = N) (hb : N * 4 ≤ 536870912) (hk : kc + 1 ≤ kM) (hs : ks + N ≤ sM) (d : decode cc pc = .ok (.anewarray index, 3)) (kk : KC g f X nL (kc + 1) (ks + N) (pc + 3) ls (.ref wl.length :: st) (wl ++ [.inl (4, N, .inr (.inr (.inr (.inr (fun _ => none)))))])) : KC g f X nL kc ks pc ls (.int n :: st) wl := by
  intro hc0 ad H locs la ha hP hD hS hz
  have hc := hc0.top.1
  refine va_newq cx.1.1 cx.1.2.1 cx.1.2.2.2.1 (cx.1.2.2.2.2 _ hcl) cx.2.2.2.1.2 cx.2.2.1 hP hD hS (fun q hq => Nat.le_trans cx.2.2.2.2.1 hq) hn hN hb (Nat.le_trans hk cx.2.2.2.2.2.2.2.1) (Nat.le_trans hs cx.2.2.2.2.2.2.2.2) d (fun q cA H1 hK1 hP1 hD1 hS1 => ?_)
  have hcA : cA = g.2.1 4 := by
    have h1 := (hK1.2 (tysC g).length (cA, .object "MeshLodger$Request") (by simp)).2
    have h2 := (cx.2.2.1.2 4 _ rfl).2
    obtain ⟨_, _, _, _, _, h3⟩ := h1
    obtain ⟨_, _, _, _, _, h4⟩ := h2
    exact Option.some.inj (h3.symm.trans h4)
  subst hcA
  obtain ⟨g1, g2, g3, g4⟩ := c_grow (e := .inl (4, N, .inr (.inr (.inr (.inr (fun _ => none)))))) (q := q) (H := H) hc ha (fun j p hj => by cases hj)
  have k2 := kk g4 _ H1 locs la g2 (by rw [g3]; exact hP1) (by rw [g3]; exact hD1) hS1 (lzx_same g1 hc.2.2.1 hz)
  have e3 : (Value.ref wl.length :: st).map (ren (fun p => if p = wl.length then q else ad p)) = .ref q :: st.map (ren ad) := by
    rw [List.map_cons, st_same g1 hc.2.2.2]
    simp [ren]
  rw [e3] at k2
  exact k2
theorem c_aastore {i : Int32} {n v p : Nat} {vs : List Value} {fq : Nat → Option Nat} (cx : CC g f cc nL own fr lo kM sM) (hp : wl[p]? = some (.inl (4, n, .inr (.inr (.inr (.inr fq)))))) (hv : wl[v]? = some (.inr (5, vs))) (hi : vp_in i n) (d : decode cc pc = .ok (.aastore, 1)) (kk : KC g f X nL kc ks (pc + 1) ls st (wl.set p (.inl (4, n, .inr (.inr (.inr (.inr (va_up fq i.toNatClampNeg (some v))))))))) : KC g f X nL kc ks pc ls (.ref v :: .int i :: .ref p :: st) wl := by
  intro hc ad H locs la ha hP hD hS hz
  have hvl : v < wl.length := (List.getElem?_eq_some_iff.mp hv).1
  have e0 : cn g.2.1 ad (.inl (4, n, .inr (.inr (.inr (.inr (va_up fq i.toNatClampNeg (some v))))))) = .inl (g.2.1 4, n, .inr (.inr (.inr (.inr (va_up (fun j => (fq j).map ad) i.toNatClampNeg (some (ad v))))))) := by
    show Sum.inl _ = Sum.inl _
    congr 7
    funext j
    by_cases hj : j = i.toNatClampNeg <;> simp [va_up, hj]
  have hc2 : ClW g.2.2.2.2 (wl.set p (.inl (4, n, .inr (.inr (.inr (.inr (va_up fq i.toNatClampNeg (some v)))))))) ls st := by
    refine ⟨by rw [List.length_set]; exact hc.1, fun e he => ?_, fun v hv => by rw [List.length_set]; exact hc.2.2.1 v hv, fun v hv => by rw [List.length_set]; exact hc.top.1.top.1.top.1.2.2.2 v hv⟩
    rw [List.length_set]
    rcases List.mem_or_eq_of_mem_set he with h9 | h9
    · exact hc.2.1 e h9
    · subst h9
      intro j q hj
      by_cases hji : j = i.toNatClampNeg
      · simp [va_up, hji] at hj; omega
      · simp [va_up, hji] at hj
        exact (hc.2.1 _ (List.mem_of_getElem? hp)) j q hj
  refine va_astq cx.1.1 cx.1.2.1 cx.2.2.1 hP hD hS p 4 v 5 (r := (RX5, TX5, 15)) (cw_at hp) rfl (cw_at hv) rfl hi d (fun H1 locs1 hP1 hD1 hS1 => ?_)
  exact kk hc2 ad H1 locs1 la ha (by rw [cw_set, e0]; exact hP1) (by rw [cw_set, e0]; exact hD1) hS1 hz
theorem c_alenR {p t n : Nat} {fq : Nat → Option Nat} {v : Int32} {ty : FieldType} (cx : CC g f cc nL own fr lo kM sM) (hp : wl[p]? = some (.inl (t, n, .inr (.inr (.inr (.inr fq)))))) (ht : (tysC g)[t]? = some (g.2.1 t, ty)) (hv : Int32.ofNat n = v) (d : decode cc pc = .ok (.arraylength, 1)) (kk : KC g f X nL kc ks (pc + 1) ls (.int v :: st) wl) : KC g f X nL kc ks pc ls (.ref p :: st) wl := by
  intro hc ad H locs la ha hP hD hS hz
  exact va_alen cx.1.1 cx.1.2.1 cx.2.2.1 hP p t (cw_at hp) ht hv d (kk (hc.top.1.push trivial) ad H locs la ha hP hD hS hz)
end C1
