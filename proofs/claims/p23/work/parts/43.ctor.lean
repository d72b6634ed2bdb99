section C2
variable {g : GC} {f : FE} {X : List (Nat × Value)} {cc : ByteArray} {nL : Nat} {own : String} {fr lo kc ks kM sM pc : Nat} {ls : List (Option Value)} {st : List Value} {wl : List va_E}
theorem c_mna {index N K : Nat} {n k : Int32} (cx : CC g f cc nL own fr lo kM sM) (hcl : Cond.classLink own index "[[I" ∈ Om) (harr : Cond.arrayClass .int ∈ Om) (hn : ¬ n < 0) (hk0 : ¬ k < 0) (hN : n.toNatClampNeg = N) (hK : k.toNatClampNeg = K) (hb1 : N * 4 ≤ 536870912) (hb2 : K * 4 ≤ 536870912) (hk : kc + (1 + N) ≤ kM) (hs : ks + (N + N * K) ≤ sM) (d : decode cc pc = .ok (.multianewarray index 2, 4))
    (kk : KC g f X nL (kc + 1 + N) (ks + N + N * K) (pc + 4) ls (.ref wl.length :: st) (wl ++ .inl (3, N, .inr (.inr (.inr (.inr (fun i => if i < N then some (wl.length + 1 + i) else none))))) :: List.replicate N (.inl (0, K, .inl (fun _ => 0))))) : KC g f X nL kc ks pc ls (.int k :: .int n :: st) wl := by
  intro hc00 ad H locs la ha hP hD hS hz
  have hc := hc00.top.1.top.1
  have e0 : cw g.2.1 ad wl ++ va_pl [] (fun _ => (.inr (0, []) : va_E)) = cw g.2.1 ad wl := by simp [va_pl]
  refine va_mna (X := cw g.2.1 ad wl) (L := []) (f := fun _ => .inr (0, [])) (cy := g.2.1 0) (ty := .int) (z := (K, .inl (fun _ => 0))) cx.1.1 cx.1.2.1 cx.1.2.2.2.1 (cx.1.2.2.2.2 _ hcl) cx.2.2.2.1.1 (cx.1.2.2.2.2 _ harr) (cx.2.2.1.2 0 _ rfl).2 cx.2.2.1 (by rw [e0]; exact hP) (by rw [e0]; exact hD) hS (fun q hq => Nat.le_trans cx.2.2.2.2.1 hq) hn hk0 hN hK hb1 hb2 (by omega) rfl rfl (Nat.le_trans hk cx.2.2.2.2.2.2.2.1) (Nat.le_trans hs cx.2.2.2.2.2.2.2.2) (fun c => arrV_new c K (.int 0)) d (fun q r cA H1 hr1 hr2 hK1 hP1 hD1 hS1 => ?_)
  have hcA : cA = g.2.1 3 := by
    have h1 := (hK1.2 (tysC g).length (cA, .array .int) (by simp)).2
    have h2 := (cx.2.2.1.2 3 _ rfl).2
    exact Option.some.inj (Eq.trans (Eq.symm h1) h2)
  subst hcA
  obtain ⟨a2, ha2⟩ : ∃ a2 : Nat → Nat, a2 = fun p => if p < wl.length then ad p else if p = wl.length then q else r (p - wl.length - 1) := ⟨_, rfl⟩
  have g1 : ∀ p, p < wl.length → a2 p = ad p := fun p hp => by rw [ha2]; exact if_pos hp
  have gq : a2 wl.length = q := by rw [ha2]; simp
  have gr : ∀ i, a2 (wl.length + 1 + i) = r i := fun i => by
    rw [ha2]
    show (if wl.length + 1 + i < wl.length then _ else _) = _
    rw [if_neg (by omega), if_neg (by omega)]
    congr 1
    omega
  have e1 : cw g.2.1 a2 (wl ++ .inl (3, N, .inr (.inr (.inr (.inr (fun i => if i < N then some (wl.length + 1 + i) else none))))) :: List.replicate N (.inl (0, K, .inl (fun _ => 0)))) = (cw g.2.1 ad wl ++ [(q, .inl (g.2.1 3, N, .inr (.inr (.inr (.inr (fun i => if i < N then some (r i) else none))))))]) ++ va_pl ([] ++ (List.range N).map r) (vr_up (fun _ => (.inr (0, []) : va_E)) ((List.range N).map r) (.inl (g.2.1 0, (K, .inl (fun _ => 0))))) := by
    rw [cw_app, cw_same g1 hc.2.1, List.append_assoc]
    congr 1
    rw [List.mapIdx_cons]
    show _ = (_ :: _)
    congr 1
    · show (a2 (wl.length + 0), _) = _
      rw [Nat.add_zero, gq]
      congr 1
      show Sum.inl _ = Sum.inl _
      congr 7
      funext i
      by_cases hi : i < N
      · simp only [if_pos hi, Option.map_some, gr]
      · simp only [if_neg hi, Option.map_none]
    · have e2 : ∀ h : Nat → va_E, ([] ++ va_pl ([] ++ (List.range N).map r) h : va_W) = (List.range N).map (fun i => (r i, h (r i))) := fun h => by
        simp [va_pl, Function.comp_def]
      refine Eq.trans ?_ (e2 _).symm
      apply List.ext_getElem?
      intro i
      rw [List.getElem?_mapIdx, List.getElem?_map]
      by_cases hi : i < N
      · rw [List.getElem?_replicate, if_pos hi, List.getElem?_range hi]
        simp only [Option.map_some]
        congr 1
        have h1 : a2 (wl.length + (i + 1)) = r i := by rw [← gr i]; congr 1; omega
        rw [h1]
        congr 1
        show Sum.inl _ = vr_up _ _ _ _
        unfold vr_up
        rw [if_pos (List.mem_map.mpr ⟨i, List.mem_range.mpr hi, rfl⟩)]
      · rw [List.getElem?_replicate, if_neg hi, List.getElem?_eq_none (by simp; omega)]
        rfl
  have hle : wl.length ≤ (wl ++ .inl (3, N, .inr (.inr (.inr (.inr (fun i => if i < N then some (wl.length + 1 + i) else none))))) :: List.replicate N (.inl (0, K, .inl (fun _ => 0))) : List va_E).length := by simp
  have hlen : (wl ++ .inl (3, N, .inr (.inr (.inr (.inr (fun i => if i < N then some (wl.length + 1 + i) else none))))) :: List.replicate N (.inl (0, K, .inl (fun _ => 0))) : List va_E).length = wl.length + (N + 1) := by simp
  have hc2 : ClW g.2.2.2.2 (wl ++ .inl (3, N, .inr (.inr (.inr (.inr (fun i => if i < N then some (wl.length + 1 + i) else none))))) :: List.replicate N (.inl (0, K, .inl (fun _ => 0)))) ls (.ref wl.length :: st) := by
    refine ⟨Nat.le_trans hc.1 hle, fun x hx => ?_, fun v hv => (hc.2.2.1 v hv).mono hle, fun v hv => ?_⟩
    · rcases List.mem_append.mp hx with h | h
      · exact (hc.2.1 x h).mono hle
      · rcases List.mem_cons.mp h with h | h
        · subst h
          intro j p hj
          rw [hlen]
          dsimp only at hj
          by_cases hjN : j < N
          · rw [if_pos hjN] at hj; cases hj; omega
          · rw [if_neg hjN] at hj; cases hj
        · rw [List.mem_replicate] at h
          rw [h.2]
          trivial
    · rcases List.mem_cons.mp hv with rfl | h
      · show wl.length < _
        rw [hlen]; omega
      · exact (hc.2.2.2 v h).mono hle
  have k2 := kk hc2 a2 H1 locs la (fun p hp => (g1 p (Nat.lt_of_lt_of_le hp hc.1)).trans (ha p hp)) (by rw [e1]; exact hP1) (by rw [e1]; exact hD1) hS1 (lzx_same g1 hc.2.2.1 hz)
  have e3 : (Value.ref wl.length :: st).map (ren a2) = .ref q :: st.map (ren ad) := by
    rw [List.map_cons, st_same g1 hc.2.2.2]
    simp [ren, gq]
  rw [e3] at k2
  exact k2
end C2
/-! a world of which one object is being made: its fields, what is new -/
def wS (wl : List va_E) (p ci : Nat) (fs : List Value) (ns : List va_E) : List va_E := wl.set p (.inr (ci, fs)) ++ ns
theorem wS_len {wl : List va_E} {p ci : Nat} {fs : List Value} {ns : List va_E} : (wS wl p ci fs ns).length = wl.length + ns.length := by simp [wS]
theorem wS_this {wl : List va_E} {p ci : Nat} {fs : List Value} {ns : List va_E} (hp : p < wl.length) : (wS wl p ci fs ns)[p]? = some (.inr (ci, fs)) := by
  unfold wS
  rw [List.getElem?_append_left (by simpa using hp), List.getElem?_set_self hp]
theorem wS_new {wl : List va_E} {p ci j : Nat} {fs : List Value} {ns : List va_E} : (wS wl p ci fs ns)[wl.length + j]? = ns[j]? := by
  unfold wS
  rw [List.getElem?_append_right (by simp)]
  congr 1
  simp
theorem wS_set {wl : List va_E} {p ci : Nat} {fs fs2 : List Value} {ns : List va_E} (hp : p < wl.length) : (wS wl p ci fs ns).set p (.inr (ci, fs2)) = wS wl p ci fs2 ns := by
  unfold wS
  rw [List.set_append_left _ _ (by simpa using hp), List.set_set]
theorem wS_setN {wl : List va_E} {p ci j : Nat} {fs : List Value} {ns : List va_E} {e : va_E} : (wS wl p ci fs ns).set (wl.length + j) e = wS wl p ci fs (ns.set j e) := by
  unfold wS
  rw [List.set_append_right _ _ (by simp)]
  congr 2
  simp
theorem wS_app {wl : List va_E} {p ci : Nat} {fs : List Value} {ns n2 : List va_E} : wS wl p ci fs ns ++ n2 = wS wl p ci fs (ns ++ n2) := by simp [wS]
theorem wS_0 {wl : List va_E} {p ci : Nat} {fs : List Value} (h : wl[p]? = some (.inr (ci, fs))) : wl = wS wl p ci fs [] := by
  unfold wS
  rw [List.append_nil]
  apply List.ext_getElem?
  intro i
  rw [List.getElem?_set]
  by_cases hi : p = i
  · subst hi
    rw [if_pos rfl, if_pos (List.getElem?_eq_some_iff.mp h).1, h]
  · rw [if_neg hi]
