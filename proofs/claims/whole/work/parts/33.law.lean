/-! the law's own frame -/
abbrev p_SCR : Nat := 248
def LX (g : GE) (f : FE) (b L : Nat) (xs : Nat → Int32) : Prop := SX g (f_s f) ∧ NC (f_s f) ∧ (f_l f).stackTraces = false ∧ va_X b L xs (f_s f) (f_s f).heap ∧ b < (f_s f).heap.size ∧ g.2.2.2 = (f_s f).heap.size ∧ f_R f = room_1 ∧ g.2.2.1 p_SCR = b ∧ (f_M f).sig.returnType = ret ∧ (f_M f).locks = false ∧ f_a f = #[Value.ref b] ∧ f_Q f = lw_Z (f_b f) #[Value.ref b] (f_s f)
section K5
variable {g : GE} {f : FE} {cc : ByteArray} {nL : Nat} {own : String} {fr lo kc ks pc : Nat} {ls : List (Option Value)} {st : List Value} {μ : Mm} {b L : Nat} {xs : Nat → Int32}
theorem k_widen {k2 s2 : Nat} (h1 : kc ≤ k2) (h2 : ks ≤ s2) (kk : KW g f nL k2 s2 pc ls st μ) : KW g f nL kc ks pc ls st μ :=
  fun H locs la hP hS hz => W.widen h1 h2 (kk H locs la hP hS hz)
theorem k_sld {i : Int32} (cx : Cx g f cc nL own fr lo kc ks) (lx : LX g f b L xs) (hi : vp_in i L) (d : decode cc pc = .ok (.iaload, 1)) (kk : KW g f nL kc ks (pc + 1) ls (.int (xs i.toNatClampNeg) :: st) μ) : KW g f nL kc ks pc ls (.int i :: .ref p_SCR :: st) μ := by
  intro H locs la hP hS hz
  show W _ _ _ _ _ _ _ _ _ _ _ _ _ _ _ (F0 _ _ _ (.int i :: .ref (g.2.2.1 p_SCR) :: st.map (ren g.2.2.1)))
  rw [lx.2.2.2.2.2.2.2.1]
  exact va_sld cx.1.1 cx.1.2.1 lx.2.2.2.1 lx.2.2.2.2.1 (by rw [lx.2.2.2.2.2.1]; exact Nat.not_le.mpr lx.2.2.2.2.1) hS hi d (kk H locs la hP hS hz)
theorem k_slen (cx : Cx g f cc nL own fr lo kc ks) (lx : LX g f b L xs) (d : decode cc pc = .ok (.arraylength, 1)) (kk : KW g f nL kc ks (pc + 1) ls (.int (Int32.ofNat L) :: st) μ) : KW g f nL kc ks pc ls (.ref p_SCR :: st) μ := by
  intro H locs la hP hS hz
  show W _ _ _ _ _ _ _ _ _ _ _ _ _ _ _ (F0 _ _ _ (.ref (g.2.2.1 p_SCR) :: st.map (ren g.2.2.1)))
  rw [lx.2.2.2.2.2.2.2.1]
  exact va_slen cx.1.1 cx.1.2.1 lx.2.2.2.1 lx.2.2.2.2.1 (by rw [lx.2.2.2.2.2.1]; exact Nat.not_le.mpr lx.2.2.2.2.1) hS d (kk H locs la hP hS hz)
theorem k_lret (cx : Cx g f code nL own fr lo kc ks) (lx : LX g f b L xs) (d : decode code pc = .ok (.ireturn, 1)) : KW g f nL kc ks pc ls [.int 1] μ := by
  intro H locs la hP hS hz
  have h1 := cx.2.2.2.2.2.2.2.1
  have h2 := cx.2.2.2.2.2.2.2.2
  obtain ⟨l1, l2, l3, l4, l5, l6, l7, l8, l9, l10, l11, l12⟩ := lx
  rw [l7] at h1 h2
  rw [l12, l7, l11]
  refine va_forget (fun q hq => by rw [← l6]; exact hS.2.2 q hq) ?_
  refine W.widen h1 h2 ?_
  exact lw_ret cx.1.1 cx.1.2.1 l9 l10 d
def CH (own : String) (index : Nat) (y : MethodName) (bb : ByteArray) (mL : Nat) (ret : Option FieldType) (hh : List (Nat × Nat × Nat × Nat)) (n : Nat) : Prop :=
  Cond.methodLink own index y ∈ Om ∧ Cond.static y ∈ Om ∧ Cond.initialized y.cls ∈ Om ∧ Cond.codeWith y bb mL ret hh ∈ Om ∧ (y.cls ≠ "java/lang/invoke/MethodHandle" ∧ y.cls ≠ "java/lang/invoke/VarHandle" ∧ (parseMethodDescriptor y.desc).map (fun d => d.parameters.length) = some n)
theorem k_callH {index n mL fr2 lo2 : Nat} {y : MethodName} {bb : ByteArray} {ret : Option FieldType} {hh : List (Nat × Nat × Nat × Nat)} {As rest : List Value} {q : Qo} (cx : Cx g f cc nL own fr lo kc ks) (lx : LX g f b L xs) (hkc : kc + 1 ≤ 619652) (hks : ks + 6 ≤ 7237147) (hM : MH g (f_l f) y bb mL ret hh fr2 lo2 As μ q) (cw : CH own index y bb mL ret hh n) (hn : As.length = n) (hst : st = As.reverse ++ rest) (hw : (rest.map fun v => v.category).sum ≤ 8) (hR : fr2 + 1 ≤ fr ∧ 8 + (mL + 11) + lo2 ≤ lo) (d : decode cc pc = .ok (.invokestatic index, 3))
    (kk : ∀ v μ2, q v μ2 → KW g f nL (kc + 1) (ks + 6) (pc + 3) ls (v.toList ++ rest) μ2) : KW g f nL kc ks pc ls st μ := by
  subst hst
  intro H locs la hP hS hz
  obtain ⟨w1, w2, w4, w5, w6⟩ := cw
  have hts := cx.1.2.2.2.2
  have hG : GoodIn lw_tbl (Cond.codeWith y bb mL ret hh :: Om) := om_good0 w5
  have hpay : ∀ w ∈ (Cond.codeWith y bb mL ret hh :: Om), ∀ (a2 : Array Value) (U : State), (f_s f).WarmedH U.vm → w.before a2 U = true := by
    intro w hw a2 U hW
    have hm : w ∈ Om := by rcases List.mem_cons.mp hw with rfl | h <;> assumption
    exact word_at hW (hG w hw).2 (hts w hm)
  have e1 : (List.reverse As ++ rest).map (ren g.2.2.1) = (As.map (ren g.2.2.1)).reverse ++ rest.map (ren g.2.2.1) := by simp
  have hrm : (8 : Nat) + (mL + 11) + lo2 ≤ (f_R f).locals := Nat.le_trans hR.2 cx.2.2.2.2.2.2.1
  have hrf : fr2 + 1 ≤ (f_R f).frames := Nat.le_trans hR.1 cx.2.2.2.2.2.1
  have hlen : ∀ sig, parseMethodDescriptor y.desc = some sig → n = sig.parameters.length := fun sig h => by
    have h2 := w6.2.2
    rw [h] at h2
    exact (Option.some.inj h2).symm
  have hpre : PreS (f_s f) H (va_Pc (As.map (ren g.2.2.1)) (PH g μ)) (As.map (ren g.2.2.1)) := by
    refine ⟨fun a U gf mk h => ?_, fun U hU hW => ?_⟩
    · obtain ⟨h1, ⟨h2, h3⟩, h5⟩ := h
      have h4 := pw_blind a U gf mk (As := As.map (ren g.2.2.1)) ⟨h1, h2⟩
      refine ⟨h4.1, ⟨h4.2, ?_⟩, NC.moved (u := U) (U := U.calling gf mk a) (Vm.Alike.refl U.vm) h5⟩
      obtain ⟨s1, s2, s3, s4⟩ := h3
      refine ⟨fun w hw => ?_, fun q hq => ?_, vx_Zq.moved (u := U) (U := U.calling gf mk a) (Vm.Alike.refl U.vm) s3, vx_Zq.moved (u := U) (U := U.calling gf mk a) (Vm.Alike.refl U.vm) s4⟩
      · have h1 := s1 w hw
        have h2 := (List.mem_filter.mp hw).2
        cases w <;> first | exact va_Nw.same (u := U) rfl rfl h1 | (simp [isExt] at h2)
      · obtain ⟨a0, ha⟩ := s2 q hq
        exact ⟨a0, vk_R.same (u := U) rfl ha⟩
    · have h1 := k_pre (As := As) cx hP hS U hU hW
      exact ⟨h1.1, ⟨h1.2, lx.1.go hW (by rw [hU]; exact hS)⟩, NC.moved hW.alike lx.2.1⟩
  have hwr : 2 * (F0 (f_m f) pc la ((List.reverse As ++ rest).map (ren g.2.2.1))).monitorRoom + ((rest.map (ren g.2.2.1)).map fun v => v.category).sum ≤ 8 := by
    rw [sum_cat]
    exact lv_room hw
  have hr := vx_runSW (cc := cc) (nL := nL) (Ts := Om) (own := own) (locs := locs) (cells := kc) (slots := ks) (mc := 1) (ms := 6) (n := n) ⟨cx.1.1, cx.1.2.1, cx.1.2.2.1, cx.1.2.2.2.1, hts⟩ hM ⟨⟨rfl, rfl, hrf, hrm, hpay, List.mem_cons_self⟩, hts _ w5, hts _ w4, ⟨w6.1, w6.2.1⟩, hlen, hts _ w1, hts _ w2⟩ hpre (g := F0 (f_m f) pc la ((List.reverse As ++ rest).map (ren g.2.2.1))) (p := f_p f) (e := f_e f) (below := f_b f) (meth := f_M f) rfl (by rw [List.length_map]; exact hn) hz.1 e1 hwr d ⟨by rw [lx.2.2.2.2.2.2.1]; exact hkc, by rw [lx.2.2.2.2.2.2.1]; exact hks⟩
  intro T hT X
  obtain ⟨v, st₀, t, T', Lc, h0, X', hL, e2, e3, ⟨⟨v2, μ2, hv, hq, hP1⟩, hz1, hk⟩, stp⟩ := hr T hT X
  rw [h0] at hz1 hk
  have hv2 : v = v2.map (ren g.2.2.1) := by cases hv; rfl
  subst hv2
  obtain ⟨t2, a1, b1⟩ := kk v2 μ2 hq T'.heap (locs ++ Lc) la (by rw [e2]; exact hP1)
    ⟨Nat.le_trans hS.1 (by rw [e2]; exact hz1), fun q h1 h2 => by rw [e2, hk q (Nat.lt_of_lt_of_le h1 hS.1) h2]; exact hS.2.1 q h1 h2, fun q hq => by
      rcases List.mem_append.mp hq with h | h
      · exact hS.2.2 q h
      · exact hL q h⟩ hz T' rfl X'
  refine ⟨t2, stp t2 ?_, b1⟩
  have e5 : (v2.toList ++ rest).map (ren g.2.2.1) = (v2.map (ren g.2.2.1)).toList ++ rest.map (ren g.2.2.1) := by cases v2 <;> rfl
  rw [e5] at a1
  exact a1
end K5
theorem vp_00b : vp_in (0 : Int32) 1 := vp_00
