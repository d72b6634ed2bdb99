/-! constructors: a world that grows; its cells' references are places in the list of cells -/
abbrev GC : Type := va_G × (Nat → ClassId) × Nat × (Nat → Nat) × Nat
def cn (cA : Nat → ClassId) (ad : Nat → Nat) (e : va_E) : va_E := match e with
  | .inl (t, n, .inr (.inr (.inr (.inr f)))) => .inl (cA t, n, .inr (.inr (.inr (.inr (fun j => (f j).map ad)))))
  | .inl (t, n, .inr (.inr (.inr (.inl f)))) => .inl (cA t, n, .inr (.inr (.inr (.inl f))))
  | .inl (t, n, .inr (.inr (.inl f))) => .inl (cA t, n, .inr (.inr (.inl f)))
  | .inl (t, n, .inr (.inl f)) => .inl (cA t, n, .inr (.inl f))
  | .inl (t, n, .inl f) => .inl (cA t, n, .inl f)
  | .inr (ci, vs) => .inr (ci, vs.map (ren ad))
def cw (cA : Nat → ClassId) (ad : Nat → Nat) (wl : List va_E) : va_W := wl.mapIdx (fun p e => (ad p, cn cA ad e))
theorem cw_at {cA : Nat → ClassId} {ad : Nat → Nat} {wl : List va_E} {p : Nat} {e : va_E} (h : wl[p]? = some e) : (cw cA ad wl)[p]? = some (ad p, cn cA ad e) := by
  simp [cw, List.getElem?_mapIdx, h]
/-- references below n -/
def rbV (n : Nat) (v : Value) : Prop := match v with
  | .ref p => p < n
  | _ => True
def rbE (n : Nat) (e : va_E) : Prop := match e with
  | .inl (_, _, .inr (.inr (.inr (.inr f)))) => ∀ j p, f j = some p → p < n
  | .inr (_, vs) => ∀ v ∈ vs, rbV n v
  | _ => True
theorem rbV.mono {n m : Nat} {v : Value} (h : rbV n v) (hm : n ≤ m) : rbV m v := by
  cases v <;> first | exact Nat.lt_of_lt_of_le h hm | trivial
theorem rbE.mono {n m : Nat} {e : va_E} (h : rbE n e) (hm : n ≤ m) : rbE m e := by
  rcases e with ⟨t, k, f | f | f | f | f⟩ | ⟨ci, vs⟩
  · trivial
  · trivial
  · trivial
  · trivial
  · exact fun j p hj => Nat.lt_of_lt_of_le (h j p hj) hm
  · exact fun v hv => (h v hv).mono hm
theorem ren_same {n : Nat} {a b : Nat → Nat} (hab : ∀ p, p < n → b p = a p) {v : Value} (h : rbV n v) : ren b v = ren a v := by
  cases v with
  | ref p => show Value.ref (b p) = .ref (a p); rw [hab p h]
  | _ => rfl
theorem cn_same {cA : Nat → ClassId} {n : Nat} {a b : Nat → Nat} (hab : ∀ p, p < n → b p = a p) {e : va_E} (h : rbE n e) : cn cA b e = cn cA a e := by
  rcases e with ⟨t, k, f | f | f | f | f⟩ | ⟨ci, vs⟩
  · rfl
  · rfl
  · rfl
  · rfl
  · show Sum.inl _ = Sum.inl _
    congr 7
    funext j
    cases hj : f j with
    | none => rfl
    | some p => show some (b p) = some (a p); rw [hab p (h j p hj)]
  · show Sum.inr _ = Sum.inr _
    congr 2
    exact List.map_congr_left (fun v hv => ren_same hab (h v hv))
theorem cw_same {cA : Nat → ClassId} {a b : Nat → Nat} {wl : List va_E} (hab : ∀ p, p < wl.length → b p = a p) (h : ∀ e ∈ wl, rbE wl.length e) : cw cA b wl = cw cA a wl := by
  apply List.ext_getElem?
  intro i
  simp only [cw, List.getElem?_mapIdx]
  cases hi : wl[i]? with
  | none => rfl
  | some e =>
    have hl := (List.getElem?_eq_some_iff.mp hi).1
    simp only [Option.map_some]
    rw [hab i hl, cn_same hab (h e (List.mem_of_getElem? hi))]
theorem cw_app {cA : Nat → ClassId} {a : Nat → Nat} {w1 w2 : List va_E} : cw cA a (w1 ++ w2) = cw cA a w1 ++ w2.mapIdx (fun p e => (a (w1.length + p), cn cA a e)) := by
  simp [cw, List.mapIdx_append, Nat.add_comm]
theorem cw_set {cA : Nat → ClassId} {a : Nat → Nat} {wl : List va_E} {p : Nat} {e : va_E} : cw cA a (wl.set p e) = (cw cA a wl).set p (a p, cn cA a e) := by
  apply List.ext_getElem?
  intro i
  rw [List.getElem?_set]
  simp only [cw, List.getElem?_mapIdx, List.getElem?_set, List.length_mapIdx]
  by_cases hi : p = i
  · subst hi
    by_cases hl : p < wl.length <;> simp [hl]
  · simp [hi]
theorem cw_len {cA : Nat → ClassId} {a : Nat → Nat} {wl : List va_E} : (cw cA a wl).length = wl.length := by simp [cw]
def ClW (n0 : Nat) (wl : List va_E) (ls : List (Option Value)) (st : List Value) : Prop := n0 ≤ wl.length ∧ (∀ e ∈ wl, rbE wl.length e) ∧ (∀ v, some v ∈ ls → rbV wl.length v) ∧ ∀ v ∈ st, rbV wl.length v
theorem lz_same {n nL : Nat} {a b : Nat → Nat} {la : Array Slot} {ls : List (Option Value)} (hab : ∀ p, p < n → b p = a p) (hb : ∀ v, some v ∈ ls → rbV n v) (h : lz a la nL ls) : lz b la nL ls :=
  ⟨h.1, h.2.1, fun i v hi => by rw [ren_same hab (hb v (List.mem_of_getElem? hi))]; exact h.2.2 i v hi⟩
theorem st_same {n : Nat} {a b : Nat → Nat} {st : List Value} (hab : ∀ p, p < n → b p = a p) (hb : ∀ v ∈ st, rbV n v) : st.map (ren b) = st.map (ren a) := List.map_congr_left (fun v hv => ren_same hab (hb v hv))
/-- the locals, and some more of them that are kept as they are -/
def lzx (X : List (Nat × Value)) (ad : Nat → Nat) (la : Array Slot) (nL : Nat) (ls : List (Option Value)) : Prop := lz ad la nL ls ∧ ∀ q ∈ X, la[q.1]? = some (.val q.2) ∧ q.2.category = 1
theorem lzx_has {X : List (Nat × Value)} {ad : Nat → Nat} {la : Array Slot} {nL : Nat} {ls : List (Option Value)} (h : lzx X ad la nL ls) : lv_has la nL (X ++ tl ad ls) :=
  ⟨h.1.1, h.1.2.1, fun q hq => (List.mem_append.mp hq).elim (fun h1 => (h.2 q h1).1) (fun h1 => (lz_has h.1).2.2 q h1)⟩
theorem lzx_set {X : List (Nat × Value)} {ad : Nat → Nat} {la la2 : Array Slot} {nL i : Nat} {w : Value} {ls : List (Option Value)} (hw : w.category = 1) (h : lzx X ad la nL ls) (hX : ∀ q ∈ X, q.1 ≠ i)
    (h2 : lv_has la2 nL ((i, ren ad w) :: (X ++ tl ad ls).filter (fun q => !(q.1 == i) && !(q.1 + 1 == i && q.2.category == 2)))) : lzx X ad la2 nL (ls.set i (some w)) := by
  refine ⟨lz_set hw h.1 ⟨h2.1, h2.2.1, fun q hq => h2.2.2 q ?_⟩, fun q hq => ⟨h2.2.2 q (List.mem_cons_of_mem _ (List.mem_filter.mpr ⟨List.mem_append_left _ hq, ?_⟩)), (h.2 q hq).2⟩⟩
  · rcases List.mem_cons.mp hq with rfl | hq
    · exact List.mem_cons_self
    · obtain ⟨h3, h4⟩ := List.mem_filter.mp hq
      exact List.mem_cons_of_mem _ (List.mem_filter.mpr ⟨List.mem_append_right _ h3, h4⟩)
  · have h5 := (h.2 q hq).2
    simp [hX q hq, h5]
theorem lzx_same {X : List (Nat × Value)} {n nL : Nat} {a b : Nat → Nat} {la : Array Slot} {ls : List (Option Value)} (hab : ∀ p, p < n → b p = a p) (hb : ∀ v, some v ∈ ls → rbV n v) (h : lzx X a la nL ls) : lzx X b la nL ls := ⟨lz_same hab hb h.1, h.2⟩
/-- as KW, over a world that grows -/
def KC (g : GC) (f : FE) (X : List (Nat × Value)) (nL kc ks pc : Nat) (ls : List (Option Value)) (st : List Value) (wl : List va_E) : Prop :=
  ClW g.2.2.2.2 wl ls st → ∀ (ad : Nat → Nat) (H : Heap) (locs : List Loc) (la : Array Slot), (∀ p, p < g.2.2.2.2 → ad p = g.2.2.2.1 p) → va_P g.1 vwCl (cw g.2.1 ad wl) H → va_D (fun q => g.2.2.1 ≤ q) (cw g.2.1 ad wl) → va_S (fun q => g.2.2.1 ≤ q) (f_s f).heap H locs → lzx X ad la nL ls →
    W (f_p f) (f_l f) (f_e f) (f_R f) (f_s f) (f_m f) (f_a f) (f_b f) (f_M f) (f_c f) H locs kc ks (f_Q f) (F0 (f_m f) pc la (st.map (ren ad)))
def tysC (g : GC) : List (ClassId × FieldType) := [(g.2.1 0, .int), (g.2.1 1, .int), (g.2.1 2, .int), (g.2.1 3, .array .int), (g.2.1 4, .object "MeshLodger$Request")]
def OV (U : State) : Prop := va_AOA .int U ∧ va_AO "MeshLodger$Request" U
def CC (g : GC) (f : FE) (cc : ByteArray) (nL : Nat) (own : String) (fr lo kM sM : Nat) : Prop :=
  ((f_p f).tables.exec = Jvm.exec ∧ (f_c f).code = cc ∧ (f_c f).maxLocals = nL ∧ (f_s f).vm.findClass own = some (f_m f).cls ∧ ∀ w ∈ Om, w.before (f_a f) (f_s f) = true) ∧
  NW (f_s f) ∧ va_K g.1 vwCl (tysC g) (f_s f) ∧ OV (f_s f) ∧ g.2.2.1 ≤ (f_s f).heap.size ∧ fr ≤ (f_R f).frames ∧ lo ≤ (f_R f).locals ∧ kM ≤ (f_R f).cells ∧ sM ≤ (f_R f).slots
section C0
variable {g : GC} {f : FE} {X : List (Nat × Value)} {cc : ByteArray} {nL : Nat} {own : String} {fr lo kc ks kM sM pc : Nat} {ls : List (Option Value)} {st : List Value} {wl : List va_E}
theorem ClW.top {n0 : Nat} {v : Value} (h : ClW n0 wl ls (v :: st)) : ClW n0 wl ls st ∧ rbV wl.length v := ⟨⟨h.1, h.2.1, h.2.2.1, fun v hv => h.2.2.2 v (List.mem_cons_of_mem _ hv)⟩, h.2.2.2 v List.mem_cons_self⟩
theorem ClW.push {n0 : Nat} {v : Value} (h : ClW n0 wl ls st) (hv : rbV wl.length v) : ClW n0 wl ls (v :: st) := ⟨h.1, h.2.1, h.2.2.1, fun w hw => (List.mem_cons.mp hw).elim (fun e => e ▸ hv) (fun hw => h.2.2.2 w hw)⟩
theorem ClW.loc {n0 i : Nat} {v : Value} (h : ClW n0 wl ls st) (hv : rbV wl.length v) : ClW n0 wl (ls.set i (some v)) st := ⟨h.1, h.2.1, fun w hw => by
  rcases List.mem_or_eq_of_mem_set hw with h1 | h1
  · exact h.2.2.1 w h1
  · cases h1; exact hv, h.2.2.2⟩
theorem c_aload_n {k : Fin 4} {i x : Nat} (cx : CC g f cc nL own fr lo kM sM) (d : decode cc pc = .ok (.aload_n k, 1)) (hi : (k : Nat) = i) (hl : ls[i]? = some (some (.ref x))) (kk : KC g f X nL kc ks (pc + 1) ls (.ref x :: st) wl) : KC g f X nL kc ks pc ls st wl :=
  fun hc ad H locs la ha hP hD hS hz => lv_aload_n cx.1.1 cx.1.2.1 d hi (hz.1.2.2 _ _ hl).1 (kk (hc.push (hc.2.2.1 _ (List.mem_of_getElem? hl))) ad H locs la ha hP hD hS hz)
theorem c_iload_n {k : Fin 4} {i : Nat} {x : Int32} (cx : CC g f cc nL own fr lo kM sM) (d : decode cc pc = .ok (.iload_n k, 1)) (hi : (k : Nat) = i) (hl : ls[i]? = some (some (.int x))) (kk : KC g f X nL kc ks (pc + 1) ls (.int x :: st) wl) : KC g f X nL kc ks pc ls st wl :=
  fun hc ad H locs la ha hP hD hS hz => lv_iload_n cx.1.1 cx.1.2.1 d hi (hz.1.2.2 _ _ hl).1 (kk (hc.push trivial) ad H locs la ha hP hD hS hz)
theorem c_istore_n {k : Fin 4} {i : Nat} {x : Int32} (hX : ∀ q ∈ X, q.1 ≠ i) (cx : CC g f cc nL own fr lo kM sM) (d : decode cc pc = .ok (.istore_n k, 1)) (hi : (k : Nat) = i) (hn : i < nL) (kk : KC g f X nL kc ks (pc + 1) (ls.set i (some (.int x))) st wl) : KC g f X nL kc ks pc ls (.int x :: st) wl :=
  fun hc ad H locs _ ha hP hD hS hz => lv_istore_n cx.1.1 cx.1.2.1 d hi (lzx_has hz) hn rfl (fun la h => kk (hc.top.1.loc trivial) ad H locs la ha hP hD hS (lzx_set (w := .int x) rfl hz hX h))
theorem c_astore_n {k : Fin 4} {i : Nat} {x : Nat} (hX : ∀ q ∈ X, q.1 ≠ i) (cx : CC g f cc nL own fr lo kM sM) (d : decode cc pc = .ok (.astore_n k, 1)) (hi : (k : Nat) = i) (hn : i < nL) (kk : KC g f X nL kc ks (pc + 1) (ls.set i (some (.ref x))) st wl) : KC g f X nL kc ks pc ls (.ref x :: st) wl :=
  fun hc ad H locs _ ha hP hD hS hz => lv_astore_n cx.1.1 cx.1.2.1 d hi (lzx_has hz) hn rfl (fun la h => kk (hc.top.1.loc hc.top.2) ad H locs la ha hP hD hS (lzx_set (w := .ref x) rfl hz hX h))
theorem c_iinc {i : Nat} {n : Int} {x v : Int32} (hX : ∀ q ∈ X, q.1 ≠ i) (cx : CC g f cc nL own fr lo kM sM) (d : decode cc pc = .ok (.iinc i n, 3)) (hl : ls[i]? = some (some (.int x))) (hv : x + Int32.ofInt n = v) (hn : i < nL) (kk : KC g f X nL kc ks (pc + 3) (ls.set i (some (.int v))) st wl) : KC g f X nL kc ks pc ls st wl := by
  intro hc ad H locs la ha hP hD hS hz
  have hm : (i, Value.int x) ∈ X ++ tl ad ls := List.mem_append_right _ (tl_mem.mpr ⟨.int x, hl, rfl⟩)
  obtain ⟨k, hk⟩ := List.getElem?_of_mem hm
  exact lv_iinc cx.1.1 cx.1.2.1 d (lzx_has hz) hk hv hn rfl (fun la h => kk (hc.loc trivial) ad H locs la ha hP hD hS (lzx_set (w := .int v) rfl hz hX h))
theorem c_iconst {n : Int} {v : Int32} (cx : CC g f cc nL own fr lo kM sM) (d : decode cc pc = .ok (.iconst n, 1)) (hv : Int32.ofInt n = v) (kk : KC g f X nL kc ks (pc + 1) ls (.int v :: st) wl) : KC g f X nL kc ks pc ls st wl :=
  fun hc ad H locs la ha hP hD hS hz => lv_iconst cx.1.1 cx.1.2.1 d hv (kk (hc.push trivial) ad H locs la ha hP hD hS hz)
theorem c_bipush {n : Int} {v : Int32} (cx : CC g f cc nL own fr lo kM sM) (d : decode cc pc = .ok (.bipush n, 2)) (hv : (Int8.ofInt n).toInt32 = v) (kk : KC g f X nL kc ks (pc + 2) ls (.int v :: st) wl) : KC g f X nL kc ks pc ls st wl :=
  fun hc ad H locs la ha hP hD hS hz => lv_bipush cx.1.1 cx.1.2.1 d hv (kk (hc.push trivial) ad H locs la ha hP hD hS hz)
theorem c_sipush {n : Int} {v : Int32} (cx : CC g f cc nL own fr lo kM sM) (d : decode cc pc = .ok (.sipush n, 3)) (hv : (Int16.ofInt n).toInt32 = v) (kk : KC g f X nL kc ks (pc + 3) ls (.int v :: st) wl) : KC g f X nL kc ks pc ls st wl :=
  fun hc ad H locs la ha hP hD hS hz => lv_sipush cx.1.1 cx.1.2.1 d hv (kk (hc.push trivial) ad H locs la ha hP hD hS hz)
theorem c_dup {v : Value} (cx : CC g f cc nL own fr lo kM sM) (d : decode cc pc = .ok (.dup, 1)) (hv : v.category = 1) (kk : KC g f X nL kc ks (pc + 1) ls (v :: v :: st) wl) : KC g f X nL kc ks pc ls (v :: st) wl :=
  fun hc ad H locs la ha hP hD hS hz => lv_dup cx.1.1 cx.1.2.1 d (by rw [ren_cat]; exact hv) (kk (hc.push hc.top.2) ad H locs la ha hP hD hS hz)
theorem c_goto {off : Int} {tgt : Nat} (cx : CC g f cc nL own fr lo kM sM) (d : decode cc pc = .ok (.goto off, 3)) (ht : (pc : Int) + off = (tgt : Int)) (kk : KC g f X nL kc ks tgt ls st wl) : KC g f X nL kc ks pc ls st wl :=
  fun hc ad H locs la ha hP hD hS hz => lv_goto cx.1.1 cx.1.2.1 d ht (kk hc ad H locs la ha hP hD hS hz)
theorem c_icmp_ge {x y : Int32} {off : Int} {tgt : Nat} (cx : CC g f cc nL own fr lo kM sM) (d : decode cc pc = .ok (.if_icmp .ge off, 3)) (ht : (pc : Int) + off = (tgt : Int)) (kt : y ≤ x → KC g f X nL kc ks tgt ls st wl) (kf : ¬ y ≤ x → KC g f X nL kc ks (pc + 3) ls st wl) : KC g f X nL kc ks pc ls (.int y :: .int x :: st) wl :=
  fun hc ad H locs la ha hP hD hS hz => lv_icmp_ge cx.1.1 cx.1.2.1 d ht (fun h => kt h hc.top.1.top.1 ad H locs la ha hP hD hS hz) (fun h => kf h hc.top.1.top.1 ad H locs la ha hP hD hS hz)
theorem c_objInit {x idx : Nat} (cx : CC g f cc nL own fr lo kM sM) (h1 : Cond.methodLink own idx objectInit ∈ Om) (h2 : Cond.instanceMethod objectInit ∈ Om) (h3 : Cond.code objectInit ⟨#[0xb1]⟩ 1 none ∈ Om) (h4 : 1 ≤ fr) (h5 : 30 ≤ lo) (h8 : (st.map fun v => v.category).sum ≤ 8) (d : decode cc pc = .ok (.invokespecial idx, 3)) (kk : KC g f X nL kc ks (pc + 3) ls st wl) : KC g f X nL kc ks pc ls (.ref x :: st) wl := by
  intro hc ad H locs la ha hP hD hS hz
  have hts := cx.1.2.2.2.2
  have k2 := kk hc.top.1 ad H locs la ha hP hD hS hz
  refine W.objInit (g := F0 (f_m f) pc la ((.ref x :: st).map (ren ad))) (rest := st.map (ren ad)) cx.1.1 cx.1.2.1 cx.1.2.2.2.1 (hts _ h1) (hts _ h2) (hts _ h3) rfl (by rw [cx.1.2.2.1]; exact hz.1.1) rfl d (Nat.le_trans h4 cx.2.2.2.2.2.1) (Nat.le_trans ?_ (Nat.le_trans h5 cx.2.2.2.2.2.2.1)) k2
  have := lv_room (m := f_m f) (pc := pc) (ls := la) (rest := (.ref x :: st).map (ren ad)) (st := st.map (ren ad)) (by rw [sum_cat]; exact h8)
  omega
/-- getfield of a field that holds a reference -/
theorem c_get {index ci k p x : Nat} {vs : List Value} (cx : CC g f cc nL own fr lo kM sM) (h : FL own index ci k) (hp : wl[p]? = some (.inr (ci, vs))) (hv : vs[k]? = some (.ref x)) (d : decode cc pc = .ok (.getfield index, 3)) (kk : KC g f X nL kc ks (pc + 3) ls (.ref x :: st) wl) : KC g f X nL kc ks pc ls (.ref p :: st) wl := by
  intro hc ad H locs la ha hP hD hS hz
  obtain ⟨C, T, N, h1, h2, h3, h4, h5⟩ := h
  have hr : rbV wl.length (.ref x) := (hc.2.1 _ (List.mem_of_getElem? hp)) _ (List.mem_of_getElem? hv)
  have hv2 : (vs.map (ren ad))[k]? = some (ren ad (.ref x)) := by rw [List.getElem?_map, hv]; rfl
  have k2 := kk (hc.top.1.push hr) ad H locs la ha hP hD hS hz
  rcases h5 with h5 | ⟨host, h5⟩
  · exact va_get cx.1.1 cx.1.2.1 cx.1.2.2.2.2 h4 cx.1.2.2.2.1 cx.2.2.1 hP p (cw_at hp) h1 k h2 (cx.1.2.2.2.2 _ h5) (fun x hx => by rw [h3] at hx; exact hx) hv2 d k2
  · exact va_getN cx.1.1 cx.1.2.1 cx.1.2.2.2.2 h4 cx.1.2.2.2.1 cx.2.2.1 hP p (cw_at hp) h1 k h2 (va_Nw.use rfl (cx.2.1 _ h5)) (fun x hx => by rw [h3] at hx; exact hx) hv2 d k2
/-- putfield of a final reference field in its class's constructor -/
def FF (own : String) (index ci k : Nat) (ty : FieldType) : Prop := ∃ (C : String) (T : u_T) (N : Nat) (ty0 : Nat → FieldType), vwCl[ci]? = some (C, T, N) ∧ k < N ∧ (T k).1 = C ∧ C = own ∧ (∀ w ∈ u_ws C T N, w ∈ Om) ∧ Cond.fieldLink own index C (T k).2.1 (T k).2.2.1 ∈ Om ∧ (∀ k, k < N → parseFieldDescriptor (T k).2.2.1 = some (ty0 k)) ∧ (∀ a, a < N → ∀ b, b < N → a ≠ b → (T a).2.1 ≠ (T b).2.1) ∧ (T k).2.2.2 = true ∧ parseFieldDescriptor (T k).2.2.1 = some ty
theorem c_putF {index ci k p x : Nat} {vs : List Value} {ty : FieldType} (cx : CC g f cc nL own fr lo kM sM) (hin : (f_M f).name = "<init>") (h : FF own index ci k ty) (hp : wl[p]? = some (.inr (ci, vs))) (hl : k < vs.length) (hn : ∀ a, narrow ty (.ref a) = .ref a) (hfit : ∀ a, fits ty (.ref a) = true) (d : decode cc pc = .ok (.putfield index, 3)) (kk : KC g f X nL kc ks (pc + 3) ls st (wl.set p (.inr (ci, vs.set k (.ref x))))) : KC g f X nL kc ks pc ls (.ref x :: .ref p :: st) wl := by
  intro hc ad H locs la ha hP hD hS hz
  obtain ⟨C, T, N, ty0, h1, h2, h3, h3b, h4, h5, g2, g3, g4, g5⟩ := h
  have hx : rbV wl.length (.ref x) := hc.top.2
  have hc2 : ClW g.2.2.2.2 (wl.set p (.inr (ci, vs.set k (.ref x)))) ls st := by
    refine ⟨by rw [List.length_set]; exact hc.1, fun e he => ?_, fun v hv => by rw [List.length_set]; exact hc.2.2.1 v hv, fun v hv => by rw [List.length_set]; exact hc.top.1.top.1.2.2.2 v hv⟩
    rw [List.length_set]
    rcases List.mem_or_eq_of_mem_set he with h9 | h9
    · exact hc.2.1 e h9
    · subst h9
      intro v hv
      rcases List.mem_or_eq_of_mem_set hv with h8 | h8
      · exact (hc.2.1 _ (List.mem_of_getElem? hp)) v h8
      · subst h8; exact hx
  have e1 : cw g.2.1 ad (wl.set p (.inr (ci, vs.set k (.ref x)))) = (cw g.2.1 ad wl).set p (ad p, .inr (ci, (vs.map (ren ad)).set k (.ref (ad x)))) := by
    rw [cw_set]
    show _ = (cw g.2.1 ad wl).set p (ad p, .inr (ci, (vs.map (ren ad)).set k (ren ad (.ref x))))
    rw [← List.map_set]
    rfl
  exact va_putF cx.1.1 cx.1.2.1 cx.1.2.2.2.2 h4 ty0 g2 g3 cx.1.2.2.2.1 cx.2.2.1 hP hD hS p (cw_at hp) h1 k h2 (cx.1.2.2.2.2 _ h5) (fun x hx => by rw [h3] at hx; exact hx) g4 hin (by rw [h3, h3b]) g5 (hn _) (hfit _) (by rw [List.length_map]; exact hl) d (fun H1 locs1 hP1 hD1 hS1 => kk hc2 ad H1 locs1 la ha (by rw [e1]; exact hP1) (by rw [e1]; exact hD1) hS1 hz)
/-- the world with one cell more, at q -/
theorem c_grow {e : va_E} {ad : Nat → Nat} {q : Nat} {H : Heap} (hc : ClW g.2.2.2.2 wl ls st) (ha : ∀ p, p < g.2.2.2.2 → ad p = g.2.2.2.1 p) (he : rbE wl.length e) :
    (∀ p, p < wl.length → (fun p => if p = wl.length then q else ad p) p = ad p) ∧ (∀ p, p < g.2.2.2.2 → (fun p => if p = wl.length then q else ad p) p = g.2.2.2.1 p) ∧ cw g.2.1 (fun p => if p = wl.length then q else ad p) (wl ++ [e]) = cw g.2.1 ad wl ++ [(q, cn g.2.1 ad e)] ∧ ClW g.2.2.2.2 (wl ++ [e]) ls (.ref wl.length :: st) := by
  have h1 : ∀ p, p < wl.length → (fun p => if p = wl.length then q else ad p) p = ad p := fun p hp => if_neg (Nat.ne_of_lt hp)
  refine ⟨h1, fun p hp => (h1 p (Nat.lt_of_lt_of_le hp hc.1)).trans (ha p hp), ?_, ?_⟩
  · rw [cw_app, cw_same h1 hc.2.1]
    congr 1
    show [((fun p => if p = wl.length then q else ad p) (wl.length + 0), cn g.2.1 _ e)] = _
    rw [cn_same h1 he]
    simp
  · have hle : wl.length ≤ (wl ++ [e]).length := by simp
    refine ⟨Nat.le_trans hc.1 hle, fun x hx => ?_, fun v hv => (hc.2.2.1 v hv).mono hle, fun v hv => ?_⟩
    · rcases List.mem_append.mp hx with h | h
      · exact (hc.2.1 x h).mono hle
      · rw [List.mem_singleton] at h; subst h; exact he.mono hle
    · rcases List.mem_cons.mp hv with rfl | h
      · show wl.length < (wl ++ [e]).length
        simp
      · exact (hc.2.2.2 v h).mono hle
def NWc (own : String) (index ci n : Nat) (fs : List Value) : Prop := ∃ (C : String) (T : u_T) (ty : Nat → FieldType), vwCl[ci]? = some (C, T, n) ∧ (∀ w ∈ u_ws C T n, w ∈ Om) ∧ (∀ k, k < n → parseFieldDescriptor (T k).2.2.1 = some (ty k)) ∧ Cond.classLink own index C ∈ Om ∧ Cond.instantiable C n ∈ Om ∧ Cond.initialized C ∈ Om ∧ ∀ j, j < n → defaultValue (ty j) = vp_V fs j
theorem c_new {index ci n : Nat} {fs : List Value} (cx : CC g f cc nL own fr lo kM sM) (h : NWc own index ci n fs) (hfs : ∀ v ∈ fs, rbV 0 v) (hk : kc + 1 ≤ kM) (hs : ks + n ≤ sM) (d : decode cc pc = .ok (.new index, 3)) (kk : KC g f X nL (kc + 1) (ks + n) (pc + 3) ls (.ref wl.length :: st) (wl ++ [.inr (ci, fs)])) : KC g f X nL kc ks pc ls st wl := by
  intro hc ad H locs la ha hP hD hS hz
  obtain ⟨C, T, ty, h1, h2, h3, h4, h5, h6, h7⟩ := h
  refine va_new cx.1.1 cx.1.2.1 cx.1.2.2.2.2 h2 ty h3 cx.1.2.2.2.1 (cx.1.2.2.2.2 _ h4) (cx.1.2.2.2.2 _ h5) (cx.1.2.2.2.2 _ h6) cx.2.2.1 hP hD hS (fun q hq => Nat.le_trans cx.2.2.2.2.1 hq) h1 h7 (Nat.le_trans hk cx.2.2.2.2.2.2.2.1) (Nat.le_trans hs cx.2.2.2.2.2.2.2.2) d (fun q H1 hP1 hD1 hS1 => ?_)
  have hfs2 : fs.map (ren ad) = fs := by
    rw [List.map_congr_left (g := id) (fun v hv => by have := hfs v hv; cases v <;> first | rfl | exact absurd this (Nat.not_lt_zero _))]
    simp
  obtain ⟨g1, g2, g3, g4⟩ := c_grow (e := .inr (ci, fs)) (q := q) (H := H) hc ha (fun v hv => (hfs v hv).mono (Nat.zero_le _))
  have e2 : cn g.2.1 ad (.inr (ci, fs)) = .inr (ci, fs) := by show Sum.inr _ = _; rw [hfs2]
  rw [e2] at g3
  have k2 := kk g4 _ H1 locs la g2 (by rw [g3]; exact hP1) (by rw [g3]; exact hD1) hS1 (lzx_same g1 hc.2.2.1 hz)
  have e3 : (Value.ref wl.length :: st).map (ren (fun p => if p = wl.length then q else ad p)) = .ref q :: st.map (ren ad) := by
    rw [List.map_cons, st_same g1 hc.2.2.2]
    simp [ren]
  rw [e3] at k2
  exact k2
theorem c_newa {atype : ArrayType} {t N : Nat} {n : Int32} {z : vp_A} (cx : CC g f cc nL own fr lo kM sM) (ht : (tysC g)[t]? = some (g.2.1 t, newarray.typeOf atype)) (hra : ∀ (c : ClassId), va_RA (f_s f) c (newarray.typeOf atype) → (f_s f).vm.findClass ("[" ++ (newarray.typeOf atype).toString) = some c) (hz0 : ∀ c : ClassId, vp_cell c (N, z.2) = arrV c N (fun _ => defaultValue (newarray.typeOf atype))) (hz1 : ∀ (m : Nat), rbE m (.inl (t, (N, z.2)))) (hz2 : ∀ ad, cn g.2.1 ad (.inl (t, (N, z.2))) = .inl (g.2.1 t, (N, z.2))) (harr : Cond.arrayClass (newarray.typeOf atype) ∈ Om) (hn : ¬ n < 0) (hN : n.toNatClampNeg = N) (hbytes : N * componentBytes (newarray.typeOf atype) ≤ 536870912) (hk : kc + 1 ≤ kM) (hs : ks + N ≤ sM) (d : decode cc pc = .ok (.newarray atype, 2)) (kk : KC g f X nL (kc + 1) (ks + N) (pc + 2) ls (.ref wl.length :: st) (wl ++ [.inl (t, (N, z.2))])) : KC g f X nL kc ks pc ls (.int n :: st) wl := by
  intro hc0 ad H locs la ha hP hD hS hz
  have hc := hc0.top.1
  refine va_newaK (g := F0 (f_m f) pc la ((.int n :: st).map (ren ad))) cx.1.1 cx.1.2.1 (cx.1.2.2.2.2 _ harr) rfl d rfl hn hN hbytes (Nat.le_trans hk cx.2.2.2.2.2.2.2.1) (Nat.le_trans hs cx.2.2.2.2.2.2.2.2) (h := H.size) rfl (fun H1 cA h1 h2 h3 h4 h5 => ?_)
  have hcA : cA = g.2.1 t := Option.some.inj (h5.symm.trans (hra _ (cx.2.2.1.2 t _ ht).2))
  subst hcA
  obtain ⟨g1, g2, g3, g4⟩ := c_grow (e := .inl (t, (N, z.2))) (q := H.size) (H := H) hc ha (hz1 _)
  rw [hz2] at g3
  have hold : ∀ (k : Nat) (x : Nat × va_E), (cw g.2.1 ad wl)[k]? = some x → H1[x.1]? = H[x.1]? := fun k x hx => h3 _ (hP k x hx).lt
  have hP1 : va_P g.1 vwCl (cw g.2.1 ad wl ++ [(H.size, .inl (g.2.1 t, (N, z.2)))]) H1 := (hP.kept hold).app (fun k x hx => by
    have hk0 : k = 0 := by have := (List.getElem?_eq_some_iff.mp hx).1; simp at this; exact this
    subst hk0
    cases hx
    show H1[H.size]? = some (vp_cell _ _)
    rw [h1]; exact congrArg some (hz0 _).symm)
  have hD1 : va_D (fun q => g.2.2.1 ≤ q) (cw g.2.1 ad wl ++ [(H.size, .inl (g.2.1 t, (N, z.2)))]) := hD.push hP rfl (Nat.le_trans cx.2.2.2.2.1 hS.1)
  have hS1 : va_S (fun q => g.2.2.1 ≤ q) (f_s f).heap H1 locs := ⟨Nat.le_trans hS.1 (by omega), fun x q1 q2 => (h3 x (Nat.lt_of_lt_of_le q1 hS.1)).trans (hS.2.1 x q1 q2), hS.2.2⟩
  have k2 := kk g4 _ H1 locs la g2 (by rw [g3]; exact hP1) (by rw [g3]; exact hD1) hS1 (lzx_same g1 hc.2.2.1 hz)
  have e3 : (Value.ref wl.length :: st).map (ren (fun p => if p = wl.length then H.size else ad p)) = .ref H.size :: st.map (ren ad) := by
    rw [List.map_cons, st_same g1 hc.2.2.2]
    simp [ren]
  rw [e3] at k2
  exact k2
theorem c_newI {N : Nat} {n : Int32} (cx : CC g f cc nL own fr lo kM sM) (hn : ¬ n < 0) (hN : n.toNatClampNeg = N) (hb : N * 4 ≤ 536870912) (harr : Cond.arrayClass .int ∈ Om) (hk : kc + 1 ≤ kM) (hs : ks + N ≤ sM) (d : decode cc pc = .ok (.newarray .int, 2)) (kk : KC g f X nL (kc + 1) (ks + N) (pc + 2) ls (.ref wl.length :: st) (wl ++ [.inl (0, N, .inl (fun _ => 0))])) : KC g f X nL kc ks pc ls (.int n :: st) wl :=
  c_newa (atype := .int) (t := 0) (z := (N, .inl (fun _ => 0))) cx rfl (fun c h => h) (fun c => rfl) (fun m => trivial) (fun ad => rfl) harr hn hN hb hk hs d kk
end C0
