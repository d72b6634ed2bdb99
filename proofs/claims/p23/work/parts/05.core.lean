section K1
variable {g : GE} {f : FE} {cc : ByteArray} {nL : Nat} {own : String} {fr lo kc ks pc : Nat} {ls : List (Option Value)} {st : List Value} {μ : Mm}
theorem k_if_eq {x : Int32} {off : Int} {tgt : Nat} (cx : Cx g f cc nL own fr lo kc ks) (d : decode cc pc = .ok (.ifCond .eq off, 3)) (ht : (pc : Int) + off = (tgt : Int)) (kt : x = 0 → KW g f nL kc ks tgt ls st μ) (kf : ¬ x = 0 → KW g f nL kc ks (pc + 3) ls st μ) : KW g f nL kc ks pc ls (.int x :: st) μ :=
  fun H locs la hP hS hz => lv_if_eq cx.1.1 cx.1.2.1 d ht (fun h => kt h H locs la hP hS hz) (fun h => kf h H locs la hP hS hz)
theorem k_icmp_eq {x y : Int32} {off : Int} {tgt : Nat} (cx : Cx g f cc nL own fr lo kc ks) (d : decode cc pc = .ok (.if_icmp .eq off, 3)) (ht : (pc : Int) + off = (tgt : Int)) (kt : x = y → KW g f nL kc ks tgt ls st μ) (kf : ¬ x = y → KW g f nL kc ks (pc + 3) ls st μ) : KW g f nL kc ks pc ls (.int y :: .int x :: st) μ :=
  fun H locs la hP hS hz => lv_icmp_eq cx.1.1 cx.1.2.1 d ht (fun h => kt h H locs la hP hS hz) (fun h => kf h H locs la hP hS hz)
theorem k_if_ne {x : Int32} {off : Int} {tgt : Nat} (cx : Cx g f cc nL own fr lo kc ks) (d : decode cc pc = .ok (.ifCond .ne off, 3)) (ht : (pc : Int) + off = (tgt : Int)) (kt : ¬ x = 0 → KW g f nL kc ks tgt ls st μ) (kf : x = 0 → KW g f nL kc ks (pc + 3) ls st μ) : KW g f nL kc ks pc ls (.int x :: st) μ :=
  fun H locs la hP hS hz => lv_if_ne cx.1.1 cx.1.2.1 d ht (fun h => kt h H locs la hP hS hz) (fun h => kf h H locs la hP hS hz)
theorem k_icmp_ne {x y : Int32} {off : Int} {tgt : Nat} (cx : Cx g f cc nL own fr lo kc ks) (d : decode cc pc = .ok (.if_icmp .ne off, 3)) (ht : (pc : Int) + off = (tgt : Int)) (kt : ¬ x = y → KW g f nL kc ks tgt ls st μ) (kf : x = y → KW g f nL kc ks (pc + 3) ls st μ) : KW g f nL kc ks pc ls (.int y :: .int x :: st) μ :=
  fun H locs la hP hS hz => lv_icmp_ne cx.1.1 cx.1.2.1 d ht (fun h => kt h H locs la hP hS hz) (fun h => kf h H locs la hP hS hz)
theorem k_if_lt {x : Int32} {off : Int} {tgt : Nat} (cx : Cx g f cc nL own fr lo kc ks) (d : decode cc pc = .ok (.ifCond .lt off, 3)) (ht : (pc : Int) + off = (tgt : Int)) (kt : x < 0 → KW g f nL kc ks tgt ls st μ) (kf : ¬ x < 0 → KW g f nL kc ks (pc + 3) ls st μ) : KW g f nL kc ks pc ls (.int x :: st) μ :=
  fun H locs la hP hS hz => lv_if_lt cx.1.1 cx.1.2.1 d ht (fun h => kt h H locs la hP hS hz) (fun h => kf h H locs la hP hS hz)
theorem k_icmp_lt {x y : Int32} {off : Int} {tgt : Nat} (cx : Cx g f cc nL own fr lo kc ks) (d : decode cc pc = .ok (.if_icmp .lt off, 3)) (ht : (pc : Int) + off = (tgt : Int)) (kt : x < y → KW g f nL kc ks tgt ls st μ) (kf : ¬ x < y → KW g f nL kc ks (pc + 3) ls st μ) : KW g f nL kc ks pc ls (.int y :: .int x :: st) μ :=
  fun H locs la hP hS hz => lv_icmp_lt cx.1.1 cx.1.2.1 d ht (fun h => kt h H locs la hP hS hz) (fun h => kf h H locs la hP hS hz)
theorem k_if_ge {x : Int32} {off : Int} {tgt : Nat} (cx : Cx g f cc nL own fr lo kc ks) (d : decode cc pc = .ok (.ifCond .ge off, 3)) (ht : (pc : Int) + off = (tgt : Int)) (kt : 0 ≤ x → KW g f nL kc ks tgt ls st μ) (kf : ¬ 0 ≤ x → KW g f nL kc ks (pc + 3) ls st μ) : KW g f nL kc ks pc ls (.int x :: st) μ :=
  fun H locs la hP hS hz => lv_if_ge cx.1.1 cx.1.2.1 d ht (fun h => kt h H locs la hP hS hz) (fun h => kf h H locs la hP hS hz)
theorem k_icmp_ge {x y : Int32} {off : Int} {tgt : Nat} (cx : Cx g f cc nL own fr lo kc ks) (d : decode cc pc = .ok (.if_icmp .ge off, 3)) (ht : (pc : Int) + off = (tgt : Int)) (kt : y ≤ x → KW g f nL kc ks tgt ls st μ) (kf : ¬ y ≤ x → KW g f nL kc ks (pc + 3) ls st μ) : KW g f nL kc ks pc ls (.int y :: .int x :: st) μ :=
  fun H locs la hP hS hz => lv_icmp_ge cx.1.1 cx.1.2.1 d ht (fun h => kt h H locs la hP hS hz) (fun h => kf h H locs la hP hS hz)
theorem k_if_gt {x : Int32} {off : Int} {tgt : Nat} (cx : Cx g f cc nL own fr lo kc ks) (d : decode cc pc = .ok (.ifCond .gt off, 3)) (ht : (pc : Int) + off = (tgt : Int)) (kt : 0 < x → KW g f nL kc ks tgt ls st μ) (kf : ¬ 0 < x → KW g f nL kc ks (pc + 3) ls st μ) : KW g f nL kc ks pc ls (.int x :: st) μ :=
  fun H locs la hP hS hz => lv_if_gt cx.1.1 cx.1.2.1 d ht (fun h => kt h H locs la hP hS hz) (fun h => kf h H locs la hP hS hz)
theorem k_icmp_gt {x y : Int32} {off : Int} {tgt : Nat} (cx : Cx g f cc nL own fr lo kc ks) (d : decode cc pc = .ok (.if_icmp .gt off, 3)) (ht : (pc : Int) + off = (tgt : Int)) (kt : y < x → KW g f nL kc ks tgt ls st μ) (kf : ¬ y < x → KW g f nL kc ks (pc + 3) ls st μ) : KW g f nL kc ks pc ls (.int y :: .int x :: st) μ :=
  fun H locs la hP hS hz => lv_icmp_gt cx.1.1 cx.1.2.1 d ht (fun h => kt h H locs la hP hS hz) (fun h => kf h H locs la hP hS hz)
theorem k_if_le {x : Int32} {off : Int} {tgt : Nat} (cx : Cx g f cc nL own fr lo kc ks) (d : decode cc pc = .ok (.ifCond .le off, 3)) (ht : (pc : Int) + off = (tgt : Int)) (kt : x ≤ 0 → KW g f nL kc ks tgt ls st μ) (kf : ¬ x ≤ 0 → KW g f nL kc ks (pc + 3) ls st μ) : KW g f nL kc ks pc ls (.int x :: st) μ :=
  fun H locs la hP hS hz => lv_if_le cx.1.1 cx.1.2.1 d ht (fun h => kt h H locs la hP hS hz) (fun h => kf h H locs la hP hS hz)
theorem k_icmp_le {x y : Int32} {off : Int} {tgt : Nat} (cx : Cx g f cc nL own fr lo kc ks) (d : decode cc pc = .ok (.if_icmp .le off, 3)) (ht : (pc : Int) + off = (tgt : Int)) (kt : x ≤ y → KW g f nL kc ks tgt ls st μ) (kf : ¬ x ≤ y → KW g f nL kc ks (pc + 3) ls st μ) : KW g f nL kc ks pc ls (.int y :: .int x :: st) μ :=
  fun H locs la hP hS hz => lv_icmp_le cx.1.1 cx.1.2.1 d ht (fun h => kt h H locs la hP hS hz) (fun h => kf h H locs la hP hS hz)
theorem k_tableIn {dflt lw hi : Int} {offs : Array Int} {len : Nat} {x : Int32} {off : Int} {tgt : Nat} (cx : Cx g f cc nL own fr lo kc ks) (d : decode cc pc = .ok (.tableswitch dflt lw hi offs, len)) (h1 : ¬ x.toInt < lw) (h2 : ¬ hi < x.toInt) (ho : offs[(x.toInt - lw).toNat]? = some off) (ht : (pc : Int) + off = (tgt : Int)) (kk : KW g f nL kc ks tgt ls st μ) : KW g f nL kc ks pc ls (.int x :: st) μ :=
  fun H locs la hP hS hz => lv_tableIn cx.1.1 cx.1.2.1 d h1 h2 ho ht (kk H locs la hP hS hz)
theorem k_tableOut {dflt lw hi : Int} {offs : Array Int} {len : Nat} {x : Int32} {tgt : Nat} (cx : Cx g f cc nL own fr lo kc ks) (d : decode cc pc = .ok (.tableswitch dflt lw hi offs, len)) (h : x.toInt < lw ∨ hi < x.toInt) (ht : (pc : Int) + dflt = (tgt : Int)) (kk : KW g f nL kc ks tgt ls st μ) : KW g f nL kc ks pc ls (.int x :: st) μ :=
  fun H locs la hP hS hz => lv_tableOut cx.1.1 cx.1.2.1 d h ht (kk H locs la hP hS hz)
theorem k_lookup {dflt : Int} {ps : Array (Int × Int)} {len : Nat} {x : Int32} {off : Int} {tgt : Nat} (cx : Cx g f cc nL own fr lo kc ks) (d : decode cc pc = .ok (.lookupswitch dflt ps, len)) (hp : (ps.toList.zip (ps.toList.drop 1)).all (fun (a, next) => a.1 < next.1) = true) (ho : Op.lookupswitch.offset ps.toList dflt x.toInt = off) (ht : (pc : Int) + off = (tgt : Int)) (kk : KW g f nL kc ks tgt ls st μ) : KW g f nL kc ks pc ls (.int x :: st) μ :=
  fun H locs la hP hS hz => lv_lookup cx.1.1 cx.1.2.1 d hp ho ht (kk H locs la hP hS hz)
/-- fewer locals known -/
def lsLe (l2 l1 : List (Option Value)) : Prop := ∀ (i : Nat) (v : Value), l2[i]? = some (some v) → l1[i]? = some (some v)
theorem lsLe.nil {l1 : List (Option Value)} : lsLe [] l1 := fun i v h => by simp at h
theorem lsLe.keep {o : Option Value} {l2 l1 : List (Option Value)} (h : lsLe l2 l1) : lsLe (o :: l2) (o :: l1) := by
  intro i v hi
  cases i with
  | zero => exact hi
  | succ i => exact h i v hi
theorem lsLe.drop {o : Option Value} {l2 l1 : List (Option Value)} (h : lsLe l2 l1) : lsLe (none :: l2) (o :: l1) := by
  intro i v hi
  cases i with
  | zero => simp at hi
  | succ i => exact h i v hi
theorem k_weak {l2 : List (Option Value)} (kk : KW g f nL kc ks pc l2 st μ) (h : lsLe l2 ls) : KW g f nL kc ks pc ls st μ :=
  fun H locs la hP hS hz => kk H locs la hP hS ⟨hz.1, hz.2.1, fun i v hi => hz.2.2 i v (h i v hi)⟩
/-- getfield at this index of a class reads field k of class ci -/
def FL (own : String) (index ci k : Nat) : Prop := ∃ (C : String) (T : u_T) (N : Nat), vwCl[ci]? = some (C, T, N) ∧ k < N ∧ (T k).1 = C ∧ (∀ w ∈ u_ws C T N, w ∈ Om) ∧ (Cond.fieldLink own index C (T k).2.1 (T k).2.2.1 ∈ Om ∨ ∃ host, Cond.fieldLinkNest own index C (T k).2.1 (T k).2.2.1 host ∈ nestL)
def fv (μ : Mm) (p k : Nat) (o : Option Nat) : Value := match o with
  | none => .int (μ p k)
  | some q => .ref q
theorem k_get {index ci k p : Nat} {fs : List (Option Nat)} {o : Option Nat} {v : Value} (cx : Cx g f cc nL own fr lo kc ks) (h : FL own index ci k) (hp : LAt g p (.inr (.inr (ci, fs)))) (ho : fs[k]? = some o) (hv : v = fv μ p k o) (d : decode cc pc = .ok (.getfield index, 3)) (kk : KW g f nL kc ks (pc + 3) ls (v :: st) μ) : KW g f nL kc ks pc ls (.ref p :: st) μ := by
  subst hv
  intro H locs la hP hS hz
  obtain ⟨C, T, N, h1, h2, h3, h4, h5⟩ := h
  obtain ⟨⟨c1, c2, c3, c4, c5⟩, c6, c7, c8, c9⟩ := cx
  have hv : (fs.mapIdx (fun k o => match o with | none => Value.int (μ p k) | some q => .ref (g.2.2.1 q)))[k]? = some (ren g.2.2.1 (fv μ p k o)) := by
    rw [List.getElem?_mapIdx, ho]
    cases o <;> rfl
  obtain ⟨j, hj⟩ := hp.pos
  rcases h5 with h5 | ⟨host, h5⟩
  · exact va_get c1 c2 c5 h4 c4 c7 hP j (Wd_k hj) h1 k h2 (c5 _ h5) (fun x hx => by rw [h3] at hx; exact hx) hv d (kk H locs la hP hS hz)
  · exact va_getN c1 c2 c5 h4 c4 c7 hP j (Wd_k hj) h1 k h2 (va_Nw.use rfl (c6 _ h5)) (fun x hx => by rw [h3] at hx; exact hx) hv d (kk H locs la hP hS hz)
/-- putfield at this index of a class writes field k of class ci, of this type -/
def FP (own : String) (index ci k : Nat) (ty : FieldType) : Prop := FL own index ci k ∧ ∃ (C : String) (T : u_T) (N : Nat) (ty0 : Nat → FieldType), vwCl[ci]? = some (C, T, N) ∧ (∀ k, k < N → parseFieldDescriptor (T k).2.2.1 = some (ty0 k)) ∧ (∀ a, a < N → ∀ b, b < N → a ≠ b → (T a).2.1 ≠ (T b).2.1) ∧ (T k).2.2.2 = false ∧ parseFieldDescriptor (T k).2.2.1 = some ty
theorem k_put {index ci k p : Nat} {fs : List (Option Nat)} {x : Int32} {ty : FieldType} (cx : Cx g f cc nL own fr lo kc ks) (h : FP own index ci k ty) (hp : LAt g p (.inr (.inr (ci, fs)))) (ho : fs[k]? = some none) (hn : narrow ty (.int x) = .int x) (hfit : fits ty (.int x) = true) (d : decode cc pc = .ok (.putfield index, 3)) (kk : KW g f nL kc ks (pc + 3) ls st (up2 μ p k x)) : KW g f nL kc ks pc ls (.int x :: .ref p :: st) μ := by
  intro H locs la hP hS hz
  obtain ⟨⟨C, T, N, h1, h2, h3, h4, h5⟩, C2, T2, N2, ty0, g1, g2, g3, g4, g5⟩ := h
  obtain ⟨⟨c1, c2, c3, c4, c5⟩, c6, c7, c8, c9⟩ := cx
  have e := h1.symm.trans g1
  cases e
  have hl : k < (fs.mapIdx (fun k o => match o with | none => Value.int (μ p k) | some q => .ref (g.2.2.1 q))).length := by
    rw [List.length_mapIdx]
    exact (List.getElem?_eq_some_iff.mp ho).1
  obtain ⟨j, hj⟩ := hp.pos
  have hW : Wd g (up2 μ p k x) = (Wd g μ).set j (g.2.2.1 p, .inr (ci, (fs.mapIdx (fun k o => match o with | none => Value.int (μ p k) | some q => .ref (g.2.2.1 q))).set k (.int x))) := by
    rw [Wd_up (c8 μ) hj]
    congr 2
    show Sum.inr _ = Sum.inr _
    congr 2
    apply List.ext_getElem?
    intro i
    rw [List.getElem?_set]
    by_cases hi : k = i
    · subst hi
      rw [if_pos rfl, if_pos hl, List.getElem?_mapIdx, ho]
      simp [upd]
    · rw [if_neg hi, List.getElem?_mapIdx, List.getElem?_mapIdx]
      cases hh : fs[i]? with
      | none => rfl
      | some o => cases o <;> simp [upd, Ne.symm hi]
  rcases h5 with h5 | ⟨host, h5⟩
  · exact va_put c1 c2 c5 h4 ty0 g2 g3 c4 c7 hP (c8 μ) hS j (Wd_k hj) h1 k h2 (c5 _ h5) (fun x hx => by rw [h3] at hx; exact hx) g4 g5 hn hfit hl d (fun H1 locs1 hP1 _ hS1 => kk H1 locs1 la (by rw [hW]; exact hP1) hS1 hz)
  · exact va_putN c1 c2 c5 h4 ty0 g2 g3 c4 c7 hP (c8 μ) hS j (Wd_k hj) h1 k h2 (va_Nw.use rfl (c6 _ h5)) (fun x hx => by rw [h3] at hx; exact hx) g4 g5 hn hfit hl d (fun H1 locs1 hP1 _ hS1 => kk H1 locs1 la (by rw [hW]; exact hP1) hS1 hz)
theorem k_iald {p n : Nat} {i : Int32} (cx : Cx g f cc nL own fr lo kc ks) (hp : LAt g p (.inl (0, n))) (hi : vp_in i n) (d : decode cc pc = .ok (.iaload, 1)) (kk : KW g f nL kc ks (pc + 1) ls (.int (μ p i.toNatClampNeg) :: st) μ) : KW g f nL kc ks pc ls (.int i :: .ref p :: st) μ :=
  fun H locs la hP hS hz => by
  obtain ⟨j, hj⟩ := hp.pos
  exact va_iald cx.1.1 cx.1.2.1 cx.2.2.1 hP j 0 (Wd_k (μ := μ) hj) rfl hi d (kk H locs la hP hS hz)
theorem k_iast {p n : Nat} {i x : Int32} (cx : Cx g f cc nL own fr lo kc ks) (hp : LAt g p (.inl (0, n))) (hi : vp_in i n) (d : decode cc pc = .ok (.iastore, 1)) (kk : KW g f nL kc ks (pc + 1) ls st (up2 μ p i.toNatClampNeg x)) : KW g f nL kc ks pc ls (.int x :: .int i :: .ref p :: st) μ :=
  fun H locs la hP hS hz => by
  obtain ⟨j, hj⟩ := hp.pos
  exact va_iast cx.1.1 cx.1.2.1 cx.2.2.1 hP (cx.2.2.2.1 μ) hS j 0 (Wd_k (μ := μ) hj) rfl hi d (fun H1 locs1 hP1 _ hS1 => kk H1 locs1 la (by rw [Wd_up (cx.2.2.2.1 μ) hj]; exact hP1) hS1 hz)
theorem k_aald {p t q : Nat} {ts : List (Option Nat)} {ty : FieldType} {i : Int32} (cx : Cx g f cc nL own fr lo kc ks) (hp : LAt g p (.inr (.inl (t, ts)))) (ht : (tysW g)[t]? = some (g.2.1 t, ty)) (hr : ty.isReference = true) (hi : vp_in i ts.length) (hq : ts[i.toNatClampNeg]? = some (some q)) (d : decode cc pc = .ok (.aaload, 1)) (kk : KW g f nL kc ks (pc + 1) ls (.ref q :: st) μ) : KW g f nL kc ks pc ls (.int i :: .ref p :: st) μ := by
  intro H locs la hP hS hz
  have hlt : i.toNatClampNeg < ts.length := Nat.not_le.mp fun q => hi (Or.inr q)
  have hv : va_rf (((ts.getD i.toNatClampNeg none)).map g.2.2.1) = ren g.2.2.1 (.ref q) := by
    rw [List.getD_eq_getElem?_getD, hq]
    rfl
  obtain ⟨j, hj⟩ := hp.pos
  refine W.aald (v := ren g.2.2.1 (.ref q)) (ty := ty) cx.1.1 cx.1.2.1 (hP j _ (Wd_k (μ := μ) hj)) ((cx.2.2.1.2 t _ ht).1 ts.length (fun j => va_rf ((ts.getD j none).map g.2.2.1))) hr (fun q => by cases q) (by show ¬ (i < 0 ∨ (arrV _ _ _).slots.size ≤ _); rw [arrV_size]; exact hi) (by show (arrV _ _ _).slots[_]? = _; rw [arrV_read _ _ hlt, hv]) rfl rfl d (kk H locs la hP hS hz)
theorem k_alen {p t n : Nat} {v : Int32} {ty : FieldType} (cx : Cx g f cc nL own fr lo kc ks) (hp : LAt g p (.inl (t, n))) (ht2 : t ≠ 2) (ht : (tysW g)[t]? = some (g.2.1 t, ty)) (hv : Int32.ofNat n = v) (d : decode cc pc = .ok (.arraylength, 1)) (kk : KW g f nL kc ks (pc + 1) ls (.int v :: st) μ) : KW g f nL kc ks pc ls (.ref p :: st) μ := by
  intro H locs la hP hS hz
  obtain ⟨j, hj⟩ := hp.pos
  have h1 := Wd_k (g := g) (μ := μ) hj
  simp only [en, if_neg ht2] at h1
  exact va_alen cx.1.1 cx.1.2.1 cx.2.2.1 hP j t h1 ht hv d (kk H locs la hP hS hz)
theorem k_alenR {p t : Nat} {ts : List (Option Nat)} {v : Int32} {ty : FieldType} (cx : Cx g f cc nL own fr lo kc ks) (hp : LAt g p (.inr (.inl (t, ts)))) (ht : (tysW g)[t]? = some (g.2.1 t, ty)) (hv : Int32.ofNat ts.length = v) (d : decode cc pc = .ok (.arraylength, 1)) (kk : KW g f nL kc ks (pc + 1) ls (.int v :: st) μ) : KW g f nL kc ks pc ls (.ref p :: st) μ := by
  intro H locs la hP hS hz
  obtain ⟨j, hj⟩ := hp.pos
  exact va_alen cx.1.1 cx.1.2.1 cx.2.2.1 hP j t (Wd_k (μ := μ) hj) ht hv d (kk H locs la hP hS hz)
/-! methods: from these arguments and this memory it returns, and q of the answer and the new memory -/
abbrev Qo : Type := Option Value → Mm → Prop
def bI (b : Bool) : Int32 := if b then 1 else 0
def isReq (p : Nat) : Prop := ∃ i, i < 13 ∧ p = p_RQ + 11 * i
def qV (q : Mm → Prop) : Qo := fun v μ => v = none ∧ q μ
def qI (q : Int32 → Mm → Prop) : Qo := fun v μ => ∃ x, v = some (.int x) ∧ q x μ
def qZ (q : Bool → Mm → Prop) : Qo := fun v μ => ∃ b, v = some (.int (bI b)) ∧ q b μ
def qR (q : Nat → Mm → Prop) : Qo := fun v μ => ∃ p, v = some (.ref p) ∧ isReq p ∧ q p μ
def PW (g : GE) (μ : Mm) (U : State) : Prop := va_P g.1 vwCl (Wd g μ) U.heap ∧ va_K g.1 vwCl (tysW g) U ∧ NW U ∧ (∀ μ, va_D (fun q => g.2.2.2.1 ≤ q) (Wd g μ)) ∧ g.2.2.2.1 ≤ U.heap.size
def QW (g : GE) (q : Qo) : Array Value → State → Outcome → State → Prop := fun _ st oc t => (∃ v μ, oc = .returned (v.map (ren g.2.2.1)) ∧ q v μ ∧ va_P g.1 vwCl (Wd g μ) t.heap) ∧ va_F (fun q => g.2.2.2.1 ≤ q) st t
def MW (g : GE) (l : Launch) (y : MethodName) (b : ByteArray) (mL : Nat) (ret : Option FieldType) (fr lo : Nat) (As : List Value) (μ : Mm) (q : Qo) : Prop :=
  Met l y (Cond.code y b mL ret :: Om) { frames := fr, cells := 0, slots := 0, locals := lo } (va_Pc (As.map (ren g.2.2.1)) (PW g μ)) (QW g q) 0 0 (fun q => g.2.2.2.1 ≤ q)
/-- a method whose body, from its entry, is as KW has it -/
theorem met_of {l : Launch} {y : MethodName} {b : ByteArray} {mL fr lo : Nat} {ret : Option FieldType} {As : List Value} {q : Qo} (hy : plainName y.cls = true) (hn : As.length ≤ mL) (hc : ∀ v ∈ As, v.category = 1)
    (h : ∀ f : FE, f_l f = l → Cx g f b mL y.cls fr lo 0 0 → (f_M f).sig.returnType = ret → (f_M f).locks = false → f_Q f = MQ (f_b f) (QW g q) (f_a f) (f_s f) 0 0 (fun q => g.2.2.2.1 ≤ q) → KW g f mL 0 0 0 (As.map some ++ List.replicate (mL - As.length) none) [] μ) : MW g l y b mL ret fr lo As μ q := by
  refine Met.ofW (cc := b) (maxL := mL) (ret := ret) hy rfl ?_
  intro p e s m args below meth c s₁ B hml hv
  obtain ⟨rfl, hP, hK, hN, hD, hz⟩ := hv
  have hts := atoms_spec (ws := Cond.code y b mL ret :: Om) B.pre
  have hown : s.vm.findClass y.cls = some m.cls := findClass_of_methodNamed B.named
  have h1 := h (p, l, e, (headSpec (Cond.code y b mL ret :: Om) { frames := fr, cells := 0, slots := 0, locals := lo }).room, s, m, (As.map (ren g.2.2.1)).toArray, below, meth, c, MQ below (QW g q) (As.map (ren g.2.2.1)).toArray s 0 0 (fun q => g.2.2.2.1 ≤ q)) rfl
    ⟨⟨B.exec, B.bytes, hml, hown, fun w hw => hts w (List.mem_cons_of_mem _ hw)⟩, hN, hK, hD, hz, Nat.le_refl _, Nat.le_refl _, Nat.le_refl _, Nat.le_refl _⟩ B.returns B.notSynchronized rfl
  rw [lg_entry_eq]
  exact h1 s.heap [] _ hP va_S.rf (lz_entry g.2.2.1 As hn hc)
theorem pw_blind (a : Array Value) (U : State) (gf : JFrame) (mk : MethodId) {As : List Value} (h : va_Pc As (PW g μ) a U) : va_Pc As (PW g μ) a (U.calling gf mk a) :=
  ⟨h.1, h.2.1, va_K.moved (u := U) (U := U.calling gf mk a) (Vm.Alike.refl U.vm) h.2.2.1, NW.same (s := U) (U := U.calling gf mk a) rfl h.2.2.2.1, h.2.2.2.2.1, h.2.2.2.2.2⟩
theorem k_ret_I {q : Int32 → Mm → Prop} {x : Int32} (cx : Cx g f cc nL own fr lo 0 0) (hr : (f_M f).sig.returnType = some .int) (hl : (f_M f).locks = false) (hQ : f_Q f = MQ (f_b f) (QW g (qI q)) (f_a f) (f_s f) 0 0 (fun q => g.2.2.2.1 ≤ q)) (d : decode cc pc = .ok (.ireturn, 1)) (hq : q x μ) : KW g f nL 0 0 pc ls [.int x] μ := by
  intro H locs la hP hS hz
  rw [hQ]
  exact W.iret (hlocks := hl) cx.1.1 cx.1.2.1 hr (fun t ht hW => ⟨⟨some (.int x), μ, rfl, ⟨x, rfl, hq⟩, by rw [ht]; exact hP⟩, hS.F ht⟩) hS.2.2 d
theorem k_ret_Z {q : Bool → Mm → Prop} {x : Int32} {b : Bool} (cx : Cx g f cc nL own fr lo 0 0) (hr : (f_M f).sig.returnType = some .boolean) (hl : (f_M f).locks = false) (hQ : f_Q f = MQ (f_b f) (QW g (qZ q)) (f_a f) (f_s f) 0 0 (fun q => g.2.2.2.1 ≤ q)) (d : decode cc pc = .ok (.ireturn, 1)) (hx : x = bI b) (hq : q b μ) : KW g f nL 0 0 pc ls [.int x] μ := by
  subst hx
  intro H locs la hP hS hz
  rw [hQ]
  exact W.zret (hlocks := hl) cx.1.1 cx.1.2.1 hr (by cases b <;> rfl) (fun t ht hW => ⟨⟨some (.int (bI b)), μ, rfl, ⟨b, rfl, hq⟩, by rw [ht]; exact hP⟩, hS.F ht⟩) hS.2.2 d
theorem k_ret_V {q : Mm → Prop} (cx : Cx g f cc nL own fr lo 0 0) (hr : (f_M f).sig.returnType = none) (hl : (f_M f).locks = false) (hQ : f_Q f = MQ (f_b f) (QW g (qV q)) (f_a f) (f_s f) 0 0 (fun q => g.2.2.2.1 ≤ q)) (d : decode cc pc = .ok (.return_, 1)) (hq : q μ) : KW g f nL 0 0 pc ls [] μ := by
  intro H locs la hP hS hz
  rw [hQ]
  exact W.vret (hlocks := hl) cx.1.1 cx.1.2.1 hr (fun t ht hW => ⟨⟨none, μ, rfl, ⟨rfl, hq⟩, by rw [ht]; exact hP⟩, hS.F ht⟩) hS.2.2 d
/-- what the tables say of a call: an instance method by its own name -/
def CV (own : String) (index : Nat) (y : MethodName) (b : ByteArray) (mL : Nat) (ret : Option FieldType) (n : Nat) : Prop :=
  (Cond.methodLink own index y ∈ Om ∨ ∃ host, Cond.methodLinkNest own index y host ∈ nestL) ∧ Cond.instanceMethod y ∈ Om ∧ Cond.selects y.cls y y ∈ Om ∧ Cond.initialized y.cls ∈ Om ∧ Cond.code y b mL ret ∈ Om ∧ (y.cls ≠ "java/lang/invoke/MethodHandle" ∧ y.cls ≠ "java/lang/invoke/VarHandle" ∧ (parseMethodDescriptor y.desc).map (fun d => d.parameters.length) = some n)
def CS_ (own : String) (index : Nat) (y : MethodName) (b : ByteArray) (mL : Nat) (ret : Option FieldType) (n : Nat) : Prop :=
  (Cond.methodLink own index y ∈ Om ∨ ∃ host, Cond.methodLinkNest own index y host ∈ nestL) ∧ Cond.static y ∈ Om ∧ Cond.initialized y.cls ∈ Om ∧ Cond.code y b mL ret ∈ Om ∧ (y.cls ≠ "java/lang/invoke/MethodHandle" ∧ y.cls ≠ "java/lang/invoke/VarHandle" ∧ (parseMethodDescriptor y.desc).map (fun d => d.parameters.length) = some n)
theorem k_run {y : MethodName} {q : Qo} {rest : List Value} {la0 : List Value} {H : Heap} {locs : List Loc} {la : Array Slot} (hz : lz g.2.2.1 la nL ls) (hS : va_S (fun q => g.2.2.2.1 ≤ q) (f_s f).heap H locs)
    (hr : va_Run (f_p f) (f_l f) (f_e f) (f_R f) (f_s f) (f_m f) (f_a f) (f_b f) (f_M f) (f_c f) H locs kc ks 0 0 (F0 (f_m f) pc la (st.map (ren g.2.2.1))) (rest.map (ren g.2.2.1)) (QW g q (la0.map (ren g.2.2.1)).toArray) (fun q => g.2.2.2.1 ≤ q))
    (kk : ∀ v μ2, q v μ2 → KW g f nL kc ks (pc + 3) ls (v.toList ++ rest) μ2) :
    W (f_p f) (f_l f) (f_e f) (f_R f) (f_s f) (f_m f) (f_a f) (f_b f) (f_M f) (f_c f) H locs kc ks (f_Q f) (F0 (f_m f) pc la (st.map (ren g.2.2.1))) := by
  intro T hT X
  obtain ⟨v, st₀, t, T', L, h0, X', hL, e1, e2, ⟨⟨v2, μ2, hv, hq, hP1⟩, hz1, hk⟩, stp⟩ := hr T hT X
  rw [h0] at hz1 hk
  have hv2 : v = v2.map (ren g.2.2.1) := by cases hv; rfl
  subst hv2
  obtain ⟨t2, a1, b1⟩ := kk v2 μ2 hq T'.heap (locs ++ L) la (by rw [e1]; exact hP1)
    ⟨Nat.le_trans hS.1 (by rw [e1]; exact hz1), fun q h1 h2 => by rw [e1, hk q (Nat.lt_of_lt_of_le h1 hS.1) h2]; exact hS.2.1 q h1 h2, fun q hq => by
      rcases List.mem_append.mp hq with h | h
      · exact hS.2.2 q h
      · exact hL q h⟩ hz T' rfl X'
  refine ⟨t2, stp t2 ?_, b1⟩
  have e3 : (v2.toList ++ rest).map (ren g.2.2.1) = (v2.map (ren g.2.2.1)).toList ++ rest.map (ren g.2.2.1) := by cases v2 <;> rfl
  rw [e3] at a1
  exact a1
theorem k_pre {As : List Value} {H : Heap} {locs : List Loc} (cx : Cx g f cc nL own fr lo kc ks) (hP : va_P g.1 vwCl (Wd g μ) H) (hS : va_S (fun q => g.2.2.2.1 ≤ q) (f_s f).heap H locs) (U : State) (hU : U.heap = H) (hW : (f_s f).WarmedH U.vm) : va_Pc (As.map (ren g.2.2.1)) (PW g μ) (As.map (ren g.2.2.1)).toArray U :=
  ⟨rfl, by rw [hU]; exact hP, va_K.moved hW.alike cx.2.2.1, NW.warm hW cx.2.1, cx.2.2.2.1, by rw [hU]; exact Nat.le_trans cx.2.2.2.2.1 hS.1⟩
theorem sum_cat (ad : Nat → Nat) (l : List Value) : (l.map (ren ad)).map (fun v => v.category) = l.map (fun v => v.category) := by
  rw [List.map_map]
  exact List.map_congr_left (fun v _ => ren_cat ad v)
theorem k_callV {index n p mL fr2 lo2 ci : Nat} {C : String} {Tt : u_T} {N : Nat} {y : MethodName} {b : ByteArray} {ret : Option FieldType} {fs : List (Option Nat)} {As rest : List Value} {q : Qo} (cx : Cx g f cc nL own fr lo kc ks) (hM : MW g (f_l f) y b mL ret fr2 lo2 (.ref p :: As) μ q) (cw : CV own index y b mL ret n) (hp : LAt g p (.inr (.inr (ci, fs)))) (hc : vwCl[ci]? = some (C, Tt, N)) (hy : y.cls = C) (hn : As.length = n) (hst : st = As.reverse ++ .ref p :: rest) (hw : (rest.map fun v => v.category).sum ≤ 8) (hR : fr2 + 1 ≤ fr ∧ 8 + (mL + 11) + lo2 ≤ lo) (d : decode cc pc = .ok (.invokevirtual index, 3))
    (kk : ∀ v μ2, q v μ2 → KW g f nL kc ks (pc + 3) ls (v.toList ++ rest) μ2) : KW g f nL kc ks pc ls st μ := by
  subst hst
  intro H locs la hP hS hz
  obtain ⟨w1, w2, w3, w4, w5, w6⟩ := cw
  have hts := cx.1.2.2.2.2
  have hG : GoodIn lw_tbl (Cond.code y b mL ret :: Om) := om_good0 w5
  have hpay : ∀ w ∈ (Cond.code y b mL ret :: Om), ∀ (a2 : Array Value) (U : State), (f_s f).WarmedH U.vm → w.before a2 U = true := by
    intro w hw a2 U hW
    have hm : w ∈ Om := by rcases List.mem_cons.mp hw with rfl | h <;> assumption
    exact word_at hW (hG w hw).2 (hts w hm)
  have e1 : (List.reverse As ++ .ref p :: rest).map (ren g.2.2.1) = (As.map (ren g.2.2.1)).reverse ++ .ref (g.2.2.1 p) :: rest.map (ren g.2.2.1) := by simp [ren]
  have hrm : (8 : Nat) + (mL + 11) + lo2 ≤ (f_R f).locals := Nat.le_trans hR.2 cx.2.2.2.2.2.2.1
  have hrf : fr2 + 1 ≤ (f_R f).frames := Nat.le_trans hR.1 cx.2.2.2.2.2.1
  have hlen : ∀ sig, parseMethodDescriptor y.desc = some sig → n = sig.parameters.length := fun sig h => by
    have h2 := w6.2.2
    rw [h] at h2
    exact (Option.some.inj h2).symm
  have hpre : PreV (f_s f) H y.cls (g.2.2.1 p) (va_Pc (((.ref p :: As) : List Value).map (ren g.2.2.1)) (PW g μ)) (As.map (ren g.2.2.1)) := by
    refine ⟨fun a U gf mk h => pw_blind a U gf mk h, ?_, fun U hU hW => k_pre (As := .ref p :: As) cx hP hS U hU hW⟩
    rw [hy]
    obtain ⟨j, hj⟩ := hp.pos
    exact va_recv cx.2.2.1 hP hc (Wd_k hj)
  have hwr : 2 * (F0 (f_m f) pc la ((List.reverse As ++ .ref p :: rest).map (ren g.2.2.1))).monitorRoom + ((rest.map (ren g.2.2.1)).map fun v => v.category).sum ≤ 8 := by
    rw [sum_cat]
    exact lv_room hw
  refine k_run (y := y) (la0 := .ref p :: As) hz hS ?_ kk
  rcases w1 with w1 | ⟨host, w1⟩
  · exact va_runV (cc := cc) (nL := nL) (Ts := Om) (own := own) ⟨cx.1.1, cx.1.2.1, cx.1.2.2.1, cx.1.2.2.2.1, hts⟩ hM ⟨⟨rfl, rfl, hrf, hrm, hpay, List.mem_cons_self, hts _ w5, hts _ w4, ⟨w6.1, w6.2.1⟩, hlen, hts _ w1⟩, hts _ w2, hts _ w3⟩ hpre rfl (by rw [List.length_map]; exact hn) hz.1 e1 hwr d ⟨cx.2.2.2.2.2.2.2.1, cx.2.2.2.2.2.2.2.2⟩
  · exact va_runVN (cc := cc) (nL := nL) (Ts := Om) (own := own) (host := host) ⟨cx.1.1, cx.1.2.1, cx.1.2.2.1, cx.1.2.2.2.1, hts⟩ hM ⟨⟨⟨rfl, rfl, hrf, hrm, hpay, List.mem_cons_self⟩, hts _ w5, hts _ w4, ⟨w6.1, w6.2.1⟩, hlen, va_Nw.use rfl (cx.2.1 _ w1)⟩, hts _ w2, hts _ w3⟩ hpre rfl (by rw [List.length_map]; exact hn) hz.1 e1 hwr d ⟨cx.2.2.2.2.2.2.2.1, cx.2.2.2.2.2.2.2.2⟩
theorem k_callS {index n mL fr2 lo2 : Nat} {y : MethodName} {b : ByteArray} {ret : Option FieldType} {As rest : List Value} {q : Qo} (cx : Cx g f cc nL own fr lo kc ks) (hM : MW g (f_l f) y b mL ret fr2 lo2 As μ q) (cw : CS_ own index y b mL ret n) (hn : As.length = n) (hst : st = As.reverse ++ rest) (hw : (rest.map fun v => v.category).sum ≤ 8) (hR : fr2 + 1 ≤ fr ∧ 8 + (mL + 11) + lo2 ≤ lo) (d : decode cc pc = .ok (.invokestatic index, 3))
    (kk : ∀ v μ2, q v μ2 → KW g f nL kc ks (pc + 3) ls (v.toList ++ rest) μ2) : KW g f nL kc ks pc ls st μ := by
  subst hst
  intro H locs la hP hS hz
  obtain ⟨w1, w2, w4, w5, w6⟩ := cw
  have hts := cx.1.2.2.2.2
  have hG : GoodIn lw_tbl (Cond.code y b mL ret :: Om) := om_good0 w5
  have hpay : ∀ w ∈ (Cond.code y b mL ret :: Om), ∀ (a2 : Array Value) (U : State), (f_s f).WarmedH U.vm → w.before a2 U = true := by
    intro w hw a2 U hW
    have hm : w ∈ Om := by rcases List.mem_cons.mp hw with rfl | h <;> assumption
    exact word_at hW (hG w hw).2 (hts w hm)
  have e1 : (List.reverse As ++ rest).map (ren g.2.2.1) = (As.map (ren g.2.2.1)).reverse ++ rest.map (ren g.2.2.1) := by simp
  have hrm : (8 : Nat) + (mL + 11) + lo2 ≤ (f_R f).locals := Nat.le_trans hR.2 cx.2.2.2.2.2.2.1
  have hrf : fr2 + 1 ≤ (f_R f).frames := Nat.le_trans hR.1 cx.2.2.2.2.2.1
  have hlen : ∀ sig, parseMethodDescriptor y.desc = some sig → n = sig.parameters.length := fun sig h => by
    have h2 := w6.2.2
    rw [h] at h2
    exact (Option.some.inj h2).symm
  have hpre : PreS (f_s f) H (va_Pc (As.map (ren g.2.2.1)) (PW g μ)) (As.map (ren g.2.2.1)) :=
    ⟨fun a U gf mk h => pw_blind a U gf mk h, fun U hU hW => k_pre (As := As) cx hP hS U hU hW⟩
  have hwr : 2 * (F0 (f_m f) pc la ((List.reverse As ++ rest).map (ren g.2.2.1))).monitorRoom + ((rest.map (ren g.2.2.1)).map fun v => v.category).sum ≤ 8 := by
    rw [sum_cat]
    exact lv_room hw
  refine k_run (y := y) (la0 := As) hz hS ?_ kk
  rcases w1 with w1 | ⟨host, w1⟩
  · exact va_runS (cc := cc) (nL := nL) (Ts := Om) (own := own) ⟨cx.1.1, cx.1.2.1, cx.1.2.2.1, cx.1.2.2.2.1, hts⟩ hM ⟨⟨rfl, rfl, hrf, hrm, hpay, List.mem_cons_self, hts _ w5, hts _ w4, ⟨w6.1, w6.2.1⟩, hlen, hts _ w1⟩, hts _ w2⟩ hpre rfl (by rw [List.length_map]; exact hn) hz.1 e1 hwr d ⟨cx.2.2.2.2.2.2.2.1, cx.2.2.2.2.2.2.2.2⟩
  · exact va_runSN (cc := cc) (nL := nL) (Ts := Om) (own := own) (host := host) ⟨cx.1.1, cx.1.2.1, cx.1.2.2.1, cx.1.2.2.2.1, hts⟩ hM ⟨⟨⟨rfl, rfl, hrf, hrm, hpay, List.mem_cons_self⟩, hts _ w5, hts _ w4, ⟨w6.1, w6.2.1⟩, hlen, va_Nw.use rfl (cx.2.1 _ w1)⟩, hts _ w2, trivial⟩ hpre rfl (by rw [List.length_map]; exact hn) hz.1 e1 hwr d ⟨cx.2.2.2.2.2.2.2.1, cx.2.2.2.2.2.2.2.2⟩
theorem bI_nar (b : Bool) : narrow .boolean (.int (bI b)) = .int (bI b) := by cases b <;> rfl
theorem bI_fit (b : Bool) : fits .boolean (.int (bI b)) = true := by cases b <;> rfl
end K1
