section C3
variable {g : GC} {f : FE} {X : List (Nat × Value)} {cc : ByteArray} {nL : Nat} {own : String} {fr lo kc ks kM sM pc p ci : Nat} {ls : List (Option Value)} {st fs : List Value} {wl ns : List va_E}
theorem s_newI {N : Nat} {n : Int32} (cx : CC g f cc nL own fr lo kM sM) (hn : ¬ n < 0) (hN : n.toNatClampNeg = N) (hb : N * 4 ≤ 536870912) (harr : Cond.arrayClass .int ∈ Om) (hk : kc + 1 ≤ kM) (hs : ks + N ≤ sM) (d : decode cc pc = .ok (.newarray .int, 2)) (kk : KC g f X nL (kc + 1) (ks + N) (pc + 2) ls (.ref (wl.length + ns.length) :: st) (wS wl p ci fs (ns ++ [.inl (0, N, .inl (fun _ => 0))]))) : KC g f X nL kc ks pc ls (.int n :: st) (wS wl p ci fs ns) :=
  c_newI cx hn hN hb harr hk hs d (by rw [wS_len, wS_app]; exact kk)
theorem s_newq {index N : Nat} {n : Int32} (cx : CC g f cc nL own fr lo kM sM) (hcl : Cond.classLink own index "MeshLodger$Request" ∈ Om) (hn : ¬ n < 0) (hN : n.toNatClampNeg = N) (hb : N * 4 ≤ 536870912) (hk : kc + 1 ≤ kM) (hs : ks + N ≤ sM) (d : decode cc pc = .ok (.anewarray index, 3)) (kk : KC g f X nL (kc + 1) (ks + N) (pc + 3) ls (.ref (wl.length + ns.length) :: st) (wS wl p ci fs (ns ++ [.inl (4, N, .inr (.inr (.inr (.inr (fun _ => none)))))]))) : KC g f X nL kc ks pc ls (.int n :: st) (wS wl p ci fs ns) :=
  c_newq cx hcl hn hN hb hk hs d (by rw [wS_len, wS_app]; exact kk)
theorem s_mna {index N K : Nat} {n k : Int32} (cx : CC g f cc nL own fr lo kM sM) (hcl : Cond.classLink own index "[[I" ∈ Om) (harr : Cond.arrayClass .int ∈ Om) (hn : ¬ n < 0) (hk0 : ¬ k < 0) (hN : n.toNatClampNeg = N) (hK : k.toNatClampNeg = K) (hb1 : N * 4 ≤ 536870912) (hb2 : K * 4 ≤ 536870912) (hk : kc + (1 + N) ≤ kM) (hs : ks + (N + N * K) ≤ sM) (d : decode cc pc = .ok (.multianewarray index 2, 4))
    (kk : KC g f X nL (kc + 1 + N) (ks + N + N * K) (pc + 4) ls (.ref (wl.length + ns.length) :: st) (wS wl p ci fs (ns ++ .inl (3, N, .inr (.inr (.inr (.inr (fun i => if i < N then some (wl.length + ns.length + 1 + i) else none))))) :: List.replicate N (.inl (0, K, .inl (fun _ => 0)))))) : KC g f X nL kc ks pc ls (.int k :: .int n :: st) (wS wl p ci fs ns) :=
  c_mna cx hcl harr hn hk0 hN hK hb1 hb2 hk hs d (by rw [wS_len, wS_app]; exact kk)
theorem s_putF {index k x : Nat} {ty : FieldType} (hp : p < wl.length) (cx : CC g f cc nL own fr lo kM sM) (hin : (f_M f).name = "<init>") (h : FF own index ci k ty) (hl : k < fs.length) (hn : ∀ a, narrow ty (.ref a) = .ref a) (hfit : ∀ a, fits ty (.ref a) = true) (d : decode cc pc = .ok (.putfield index, 3)) (kk : KC g f X nL kc ks (pc + 3) ls st (wS wl p ci (fs.set k (.ref x)) ns)) : KC g f X nL kc ks pc ls (.ref x :: .ref p :: st) (wS wl p ci fs ns) :=
  c_putF cx hin h (wS_this hp) hl hn hfit d (by rw [wS_set hp]; exact kk)
theorem s_get {index k x : Nat} (hp : p < wl.length) (cx : CC g f cc nL own fr lo kM sM) (h : FL own index ci k) (hv : fs[k]? = some (.ref x)) (d : decode cc pc = .ok (.getfield index, 3)) (kk : KC g f X nL kc ks (pc + 3) ls (.ref x :: st) (wS wl p ci fs ns)) : KC g f X nL kc ks pc ls (.ref p :: st) (wS wl p ci fs ns) :=
  c_get cx h (wS_this hp) hv d kk
theorem s_new {index c2 n : Nat} {f2 : List Value} (cx : CC g f cc nL own fr lo kM sM) (h : NWc own index c2 n f2) (hfs : ∀ v ∈ f2, rbV 0 v) (hk : kc + 1 ≤ kM) (hs : ks + n ≤ sM) (d : decode cc pc = .ok (.new index, 3)) (kk : KC g f X nL (kc + 1) (ks + n) (pc + 3) ls (.ref (wl.length + ns.length) :: st) (wS wl p ci fs (ns ++ [.inr (c2, f2)]))) : KC g f X nL kc ks pc ls st (wS wl p ci fs ns) :=
  c_new cx h hfs hk hs d (by rw [wS_len, wS_app]; exact kk)
theorem s_alen {t n j : Nat} {fq : Nat → Option Nat} {v : Int32} {ty : FieldType} (cx : CC g f cc nL own fr lo kM sM) (hj : ns[j]? = some (.inl (t, n, .inr (.inr (.inr (.inr fq)))))) (ht : (tysC g)[t]? = some (g.2.1 t, ty)) (hv : Int32.ofNat n = v) (d : decode cc pc = .ok (.arraylength, 1)) (kk : KC g f X nL kc ks (pc + 1) ls (.int v :: st) (wS wl p ci fs ns)) : KC g f X nL kc ks pc ls (.ref (wl.length + j) :: st) (wS wl p ci fs ns) :=
  c_alenR cx (wS_new.trans hj) ht hv d kk
def rq_f (b : Nat → Nat) (j : Nat) : Nat → Option Nat := fun i => if i < j then some (b i) else none
theorem rq_up (b : Nat → Nat) (j : Nat) : va_up (rq_f b j) j (some (b j)) = rq_f b (j + 1) := by
  funext i
  unfold va_up rq_f
  by_cases h1 : i = j
  · subst h1; simp
  · rw [if_neg h1]
    by_cases h2 : i < j
    · rw [if_pos h2, if_pos (by omega)]
    · rw [if_neg h2, if_neg (by omega)]
theorem rq_0 (b : Nat → Nat) : (fun _ => none) = rq_f b 0 := by
  funext i
  simp [rq_f]
theorem s_aastore {i : Int32} {n j v : Nat} {vs : List Value} {fq f2 : Nat → Option Nat} (cx : CC g f cc nL own fr lo kM sM) (hj : ns[j]? = some (.inl (4, n, .inr (.inr (.inr (.inr fq)))))) (hv : ns[v]? = some (.inr (5, vs))) (hi : vp_in i n) (hf2 : va_up fq i.toNatClampNeg (some (wl.length + v)) = f2) (d : decode cc pc = .ok (.aastore, 1)) (kk : KC g f X nL kc ks (pc + 1) ls st (wS wl p ci fs (ns.set j (.inl (4, n, .inr (.inr (.inr (.inr f2)))))))) : KC g f X nL kc ks pc ls (.ref (wl.length + v) :: .int i :: .ref (wl.length + j) :: st) (wS wl p ci fs ns) := by
  subst hf2
  exact c_aastore cx (wS_new.trans hj) (wS_new.trans hv) hi d (by rw [wS_setN]; exact kk)
end C3
theorem wS_sub {wl : List va_E} {p ci j c2 : Nat} {fs f2 : List Value} {ns n2 : List va_E} : wS (wS wl p ci fs ns) (wl.length + j) c2 f2 n2 = wS wl p ci fs (ns.set j (.inr (c2, f2)) ++ n2) := by
  show (wS wl p ci fs ns).set (wl.length + j) _ ++ n2 = _
  rw [wS_setN, wS_app]
theorem oi_i : Cond.instanceMethod objectInit ∈ Om := (om_tbl 46 (by decide +kernel) rfl)
theorem oi_c : Cond.code objectInit ⟨#[0xb1]⟩ 1 none ∈ Om := (om_tbl 47 (by decide +kernel) rfl)
theorem vpi (j n : Nat) (h : j < n) (hn : n < 2 ^ 31) : vp_in (nI j) n := vp_in_nI h hn

theorem oj_X1 : Cond.methodLink RX1 3 objectInit ∈ Om := (om_tbl 132 (by decide +kernel) rfl)
theorem oj_X2 : Cond.methodLink RX2 3 objectInit ∈ Om := (om_tbl 53 (by decide +kernel) rfl)
theorem oj_X0 : Cond.methodLink RX0 3 objectInit ∈ Om := (om_tbl 97 (by decide +kernel) rfl)
theorem oj_X5 : Cond.methodLink RX5 3 objectInit ∈ Om := (om_tbl 217 (by decide +kernel) rfl)
theorem oj_X6 : Cond.methodLink RX6 3 objectInit ∈ Om := (om_tbl 126 (by decide +kernel) rfl)
theorem oj_X4 : Cond.methodLink RX4 3 objectInit ∈ Om := (om_tbl 176 (by decide +kernel) rfl)
theorem oj_X3 : Cond.methodLink RX3 3 objectInit ∈ Om := (om_tbl 197 (by decide +kernel) rfl)
theorem oj_X7 : Cond.methodLink RX7 3 objectInit ∈ Om := (om_tbl 45 (by decide +kernel) rfl)
theorem ff_X0_9 : FF RX0 9 0 1 (.array .int) := ⟨RX0, TX0, 6, tyX0, rfl, by decide, rfl, rfl, in_X0, (om_tbl 100 (by decide +kernel) rfl), tyX0_ok, nmX0, rfl, by decide +kernel⟩
theorem ff_X0_15 : FF RX0 15 0 2 (.array .int) := ⟨RX0, TX0, 6, tyX0, rfl, by decide, rfl, rfl, in_X0, (om_tbl 101 (by decide +kernel) rfl), tyX0_ok, nmX0, rfl, by decide +kernel⟩
theorem ff_X0_18 : FF RX0 18 0 3 (.array .int) := ⟨RX0, TX0, 6, tyX0, rfl, by decide, rfl, rfl, in_X0, (om_tbl 103 (by decide +kernel) rfl), tyX0_ok, nmX0, rfl, by decide +kernel⟩
theorem ff_X0_21 : FF RX0 21 0 4 (.array .int) := ⟨RX0, TX0, 6, tyX0, rfl, by decide, rfl, rfl, in_X0, (om_tbl 105 (by decide +kernel) rfl), tyX0_ok, nmX0, rfl, by decide +kernel⟩
theorem ff_X0_26 : FF RX0 26 0 5 (.array (.array .int)) := ⟨RX0, TX0, 6, tyX0, rfl, by decide, rfl, rfl, in_X0, (om_tbl 107 (by decide +kernel) rfl), tyX0_ok, nmX0, rfl, by decide +kernel⟩
theorem ff_X0_29 : FF RX0 29 0 0 (.object "MeshLodger$Ground") := ⟨RX0, TX0, 6, tyX0, rfl, by decide, rfl, rfl, in_X0, (om_tbl 99 (by decide +kernel) rfl), tyX0_ok, nmX0, rfl, by decide +kernel⟩
theorem ff_X1_9 : FF RX1 9 1 2 (.array .int) := ⟨RX1, TX1, 3, tyX1, rfl, by decide, rfl, rfl, in_X1, (om_tbl 135 (by decide +kernel) rfl), tyX1_ok, nmX1, rfl, by decide +kernel⟩
theorem ff_X1_15 : FF RX1 15 1 0 (.object "MeshLodger$Ground") := ⟨RX1, TX1, 3, tyX1, rfl, by decide, rfl, rfl, in_X1, (om_tbl 133 (by decide +kernel) rfl), tyX1_ok, nmX1, rfl, by decide +kernel⟩
theorem ff_X1_19 : FF RX1 19 1 1 (.object "MeshLodger$Books") := ⟨RX1, TX1, 3, tyX1, rfl, by decide, rfl, rfl, in_X1, (om_tbl 134 (by decide +kernel) rfl), tyX1_ok, nmX1, rfl, by decide +kernel⟩
theorem ff_X2_9 : FF RX2 9 2 0 (.array .int) := ⟨RX2, TX2, 9, tyX2, rfl, by decide, rfl, rfl, in_X2, (om_tbl 56 (by decide +kernel) rfl), tyX2_ok, nmX2, rfl, by decide +kernel⟩
theorem ff_X2_15 : FF RX2 15 2 1 (.array .int) := ⟨RX2, TX2, 9, tyX2, rfl, by decide, rfl, rfl, in_X2, (om_tbl 58 (by decide +kernel) rfl), tyX2_ok, nmX2, rfl, by decide +kernel⟩
theorem ff_X2_18 : FF RX2 18 2 2 (.array .int) := ⟨RX2, TX2, 9, tyX2, rfl, by decide, rfl, rfl, in_X2, (om_tbl 60 (by decide +kernel) rfl), tyX2_ok, nmX2, rfl, by decide +kernel⟩
theorem ff_X2_21 : FF RX2 21 2 3 (.array .int) := ⟨RX2, TX2, 9, tyX2, rfl, by decide, rfl, rfl, in_X2, (om_tbl 61 (by decide +kernel) rfl), tyX2_ok, nmX2, rfl, by decide +kernel⟩
theorem ff_X2_26 : FF RX2 26 2 4 (.array (.array .int)) := ⟨RX2, TX2, 9, tyX2, rfl, by decide, rfl, rfl, in_X2, (om_tbl 62 (by decide +kernel) rfl), tyX2_ok, nmX2, rfl, by decide +kernel⟩
theorem ff_X2_29 : FF RX2 29 2 5 (.array .int) := ⟨RX2, TX2, 9, tyX2, rfl, by decide, rfl, rfl, in_X2, (om_tbl 63 (by decide +kernel) rfl), tyX2_ok, nmX2, rfl, by decide +kernel⟩
theorem ff_X3_9 : FF RX3 9 3 2 (.array .int) := ⟨RX3, TX3, 4, tyX3, rfl, by decide, rfl, rfl, in_X3, (om_tbl 200 (by decide +kernel) rfl), tyX3_ok, nmX3, rfl, by decide +kernel⟩
theorem ff_X3_15 : FF RX3 15 3 0 (.object "MeshLodger$Ground") := ⟨RX3, TX3, 4, tyX3, rfl, by decide, rfl, rfl, in_X3, (om_tbl 198 (by decide +kernel) rfl), tyX3_ok, nmX3, rfl, by decide +kernel⟩
theorem ff_X3_19 : FF RX3 19 3 1 (.object "MeshLodger$Books") := ⟨RX3, TX3, 4, tyX3, rfl, by decide, rfl, rfl, in_X3, (om_tbl 199 (by decide +kernel) rfl), tyX3_ok, nmX3, rfl, by decide +kernel⟩
theorem ff_X4_9 : FF RX4 9 4 0 (.object "MeshLodger$Ground") := ⟨RX4, TX4, 4, tyX4, rfl, by decide, rfl, rfl, in_X4, (om_tbl 179 (by decide +kernel) rfl), tyX4_ok, nmX4, rfl, by decide +kernel⟩
theorem ff_X4_15 : FF RX4 15 4 1 (.object "MeshLodger$Books") := ⟨RX4, TX4, 4, tyX4, rfl, by decide, rfl, rfl, in_X4, (om_tbl 180 (by decide +kernel) rfl), tyX4_ok, nmX4, rfl, by decide +kernel⟩
theorem ff_X4_19 : FF RX4 19 4 2 (.object "MeshLodger$Search") := ⟨RX4, TX4, 4, tyX4, rfl, by decide, rfl, rfl, in_X4, (om_tbl 181 (by decide +kernel) rfl), tyX4_ok, nmX4, rfl, by decide +kernel⟩
theorem ff_X4_28 : FF RX4 28 4 3 (.object "MeshLodger$Choices") := ⟨RX4, TX4, 4, tyX4, rfl, by decide, rfl, rfl, in_X4, (om_tbl 182 (by decide +kernel) rfl), tyX4_ok, nmX4, rfl, by decide +kernel⟩
theorem ff_X5_9 : FF RX5 9 5 0 (.array .int) := ⟨RX5, TX5, 15, tyX5, rfl, by decide, rfl, rfl, in_X5, (om_tbl 218 (by decide +kernel) rfl), tyX5_ok, nmX5, rfl, by decide +kernel⟩
theorem ff_X5_15 : FF RX5 15 5 1 (.array .int) := ⟨RX5, TX5, 15, tyX5, rfl, by decide, rfl, rfl, in_X5, (om_tbl 223 (by decide +kernel) rfl), tyX5_ok, nmX5, rfl, by decide +kernel⟩
theorem ff_X5_18 : FF RX5 18 5 2 (.array .int) := ⟨RX5, TX5, 15, tyX5, rfl, by decide, rfl, rfl, in_X5, (om_tbl 226 (by decide +kernel) rfl), tyX5_ok, nmX5, rfl, by decide +kernel⟩
theorem ff_X5_21 : FF RX5 21 5 3 (.array .int) := ⟨RX5, TX5, 15, tyX5, rfl, by decide, rfl, rfl, in_X5, (om_tbl 231 (by decide +kernel) rfl), tyX5_ok, nmX5, rfl, by decide +kernel⟩
theorem ff_X5_24 : FF RX5 24 5 4 (.array .int) := ⟨RX5, TX5, 15, tyX5, rfl, by decide, rfl, rfl, in_X5, (om_tbl 232 (by decide +kernel) rfl), tyX5_ok, nmX5, rfl, by decide +kernel⟩
theorem ff_X5_27 : FF RX5 27 5 5 (.array .int) := ⟨RX5, TX5, 15, tyX5, rfl, by decide, rfl, rfl, in_X5, (om_tbl 233 (by decide +kernel) rfl), tyX5_ok, nmX5, rfl, by decide +kernel⟩
theorem ff_X5_30 : FF RX5 30 5 6 (.array .int) := ⟨RX5, TX5, 15, tyX5, rfl, by decide, rfl, rfl, in_X5, (om_tbl 238 (by decide +kernel) rfl), tyX5_ok, nmX5, rfl, by decide +kernel⟩
theorem ff_X5_33 : FF RX5 33 5 7 (.array .int) := ⟨RX5, TX5, 15, tyX5, rfl, by decide, rfl, rfl, in_X5, (om_tbl 243 (by decide +kernel) rfl), tyX5_ok, nmX5, rfl, by decide +kernel⟩
theorem ff_X5_36 : FF RX5 36 5 8 (.array .int) := ⟨RX5, TX5, 15, tyX5, rfl, by decide, rfl, rfl, in_X5, (om_tbl 246 (by decide +kernel) rfl), tyX5_ok, nmX5, rfl, by decide +kernel⟩
theorem ff_X5_39 : FF RX5 39 5 9 (.array .int) := ⟨RX5, TX5, 15, tyX5, rfl, by decide, rfl, rfl, in_X5, (om_tbl 250 (by decide +kernel) rfl), tyX5_ok, nmX5, rfl, by decide +kernel⟩
theorem ff_X6_9 : FF RX6 9 6 3 (.array .int) := ⟨RX6, TX6, 9, tyX6, rfl, by decide, rfl, rfl, in_X6, (om_tbl 146 (by decide +kernel) rfl), tyX6_ok, nmX6, rfl, by decide +kernel⟩
theorem ff_X6_15 : FF RX6 15 6 4 (.array .int) := ⟨RX6, TX6, 9, tyX6, rfl, by decide, rfl, rfl, in_X6, (om_tbl 147 (by decide +kernel) rfl), tyX6_ok, nmX6, rfl, by decide +kernel⟩
theorem ff_X6_18 : FF RX6 18 6 5 (.array .int) := ⟨RX6, TX6, 9, tyX6, rfl, by decide, rfl, rfl, in_X6, (om_tbl 148 (by decide +kernel) rfl), tyX6_ok, nmX6, rfl, by decide +kernel⟩
theorem ff_X6_21 : FF RX6 21 6 6 (.array .int) := ⟨RX6, TX6, 9, tyX6, rfl, by decide, rfl, rfl, in_X6, (om_tbl 149 (by decide +kernel) rfl), tyX6_ok, nmX6, rfl, by decide +kernel⟩
theorem ff_X6_24 : FF RX6 24 6 0 (.object "MeshLodger$Ground") := ⟨RX6, TX6, 9, tyX6, rfl, by decide, rfl, rfl, in_X6, (om_tbl 143 (by decide +kernel) rfl), tyX6_ok, nmX6, rfl, by decide +kernel⟩
theorem ff_X6_28 : FF RX6 28 6 1 (.object "MeshLodger$Books") := ⟨RX6, TX6, 9, tyX6, rfl, by decide, rfl, rfl, in_X6, (om_tbl 144 (by decide +kernel) rfl), tyX6_ok, nmX6, rfl, by decide +kernel⟩
theorem ff_X6_37 : FF RX6 37 6 2 (.object "MeshLodger$Choices") := ⟨RX6, TX6, 9, tyX6, rfl, by decide, rfl, rfl, in_X6, (om_tbl 145 (by decide +kernel) rfl), tyX6_ok, nmX6, rfl, by decide +kernel⟩
theorem ff_X7_12 : FF RX7 12 7 0 (.object "MeshLodger$Ground") := ⟨RX7, TX7, 8, tyX7, rfl, by decide, rfl, rfl, in_X7, (om_tbl 301 (by decide +kernel) rfl), tyX7_ok, nmX7, rfl, by decide +kernel⟩
theorem ff_X7_21 : FF RX7 21 7 1 (.object "MeshLodger$Books") := ⟨RX7, TX7, 8, tyX7, rfl, by decide, rfl, rfl, in_X7, (om_tbl 302 (by decide +kernel) rfl), tyX7_ok, nmX7, rfl, by decide +kernel⟩
theorem ff_X7_30 : FF RX7 30 7 2 (.object "MeshLodger$Search") := ⟨RX7, TX7, 8, tyX7, rfl, by decide, rfl, rfl, in_X7, (om_tbl 303 (by decide +kernel) rfl), tyX7_ok, nmX7, rfl, by decide +kernel⟩
theorem ff_X7_39 : FF RX7 39 7 3 (.object "MeshLodger$Placer") := ⟨RX7, TX7, 8, tyX7, rfl, by decide, rfl, rfl, in_X7, (om_tbl 304 (by decide +kernel) rfl), tyX7_ok, nmX7, rfl, by decide +kernel⟩
theorem ff_X7_46 : FF RX7 46 7 4 (.object "MeshLodger$Mover") := ⟨RX7, TX7, 8, tyX7, rfl, by decide, rfl, rfl, in_X7, (om_tbl 305 (by decide +kernel) rfl), tyX7_ok, nmX7, rfl, by decide +kernel⟩
theorem ff_X7_52 : FF RX7 52 7 5 (.array (.object "MeshLodger$Request")) := ⟨RX7, TX7, 8, tyX7, rfl, by decide, rfl, rfl, in_X7, (om_tbl 306 (by decide +kernel) rfl), tyX7_ok, nmX7, rfl, by decide +kernel⟩
theorem nw_X4_23 : NWc RX4 23 1 3 [.null, .null, .null] := ⟨RX1, TX1, tyX1, rfl, in_X1, tyX1_ok, (om_tbl 177 (by decide +kernel) rfl), (om_tbl 128 (by decide +kernel) rfl), (om_tbl 25 (by decide +kernel) rfl), (by intro j hj; rcases (show j = 0 ∨ j = 1 ∨ j = 2 by omega) with rfl | rfl | rfl <;> rfl)⟩
theorem nw_X6_32 : NWc RX6 32 1 3 [.null, .null, .null] := ⟨RX1, TX1, tyX1, rfl, in_X1, tyX1_ok, (om_tbl 127 (by decide +kernel) rfl), (om_tbl 128 (by decide +kernel) rfl), (om_tbl 25 (by decide +kernel) rfl), (by intro j hj; rcases (show j = 0 ∨ j = 1 ∨ j = 2 by omega) with rfl | rfl | rfl <;> rfl)⟩
theorem nw_X7_9 : NWc RX7 9 2 9 [.null, .null, .null, .null, .null, .null, .int 0, .int 0, .int 0] := ⟨RX2, TX2, tyX2, rfl, in_X2, tyX2_ok, (om_tbl 48 (by decide +kernel) rfl), (om_tbl 49 (by decide +kernel) rfl), (om_tbl 22 (by decide +kernel) rfl), (by intro j hj; rcases (show j = 0 ∨ j = 1 ∨ j = 2 ∨ j = 3 ∨ j = 4 ∨ j = 5 ∨ j = 6 ∨ j = 7 ∨ j = 8 by omega) with rfl | rfl | rfl | rfl | rfl | rfl | rfl | rfl | rfl <;> rfl)⟩
theorem nw_X7_16 : NWc RX7 16 0 6 [.null, .null, .null, .null, .null, .null] := ⟨RX0, TX0, tyX0, rfl, in_X0, tyX0_ok, (om_tbl 92 (by decide +kernel) rfl), (om_tbl 93 (by decide +kernel) rfl), (om_tbl 23 (by decide +kernel) rfl), (by intro j hj; rcases (show j = 0 ∨ j = 1 ∨ j = 2 ∨ j = 3 ∨ j = 4 ∨ j = 5 by omega) with rfl | rfl | rfl | rfl | rfl | rfl <;> rfl)⟩
theorem nw_X7_25 : NWc RX7 25 6 9 [.null, .null, .null, .null, .null, .null, .null, .int 0, .int 0] := ⟨RX6, TX6, tyX6, rfl, in_X6, tyX6_ok, (om_tbl 121 (by decide +kernel) rfl), (om_tbl 122 (by decide +kernel) rfl), (om_tbl 24 (by decide +kernel) rfl), (by intro j hj; rcases (show j = 0 ∨ j = 1 ∨ j = 2 ∨ j = 3 ∨ j = 4 ∨ j = 5 ∨ j = 6 ∨ j = 7 ∨ j = 8 by omega) with rfl | rfl | rfl | rfl | rfl | rfl | rfl | rfl | rfl <;> rfl)⟩
theorem nw_X7_34 : NWc RX7 34 4 4 [.null, .null, .null, .null] := ⟨RX4, TX4, tyX4, rfl, in_X4, tyX4_ok, (om_tbl 171 (by decide +kernel) rfl), (om_tbl 172 (by decide +kernel) rfl), (om_tbl 26 (by decide +kernel) rfl), (by intro j hj; rcases (show j = 0 ∨ j = 1 ∨ j = 2 ∨ j = 3 by omega) with rfl | rfl | rfl | rfl <;> rfl)⟩
theorem nw_X7_43 : NWc RX7 43 3 4 [.null, .null, .null, .int 0] := ⟨RX3, TX3, tyX3, rfl, in_X3, tyX3_ok, (om_tbl 192 (by decide +kernel) rfl), (om_tbl 193 (by decide +kernel) rfl), (om_tbl 27 (by decide +kernel) rfl), (by intro j hj; rcases (show j = 0 ∨ j = 1 ∨ j = 2 ∨ j = 3 by omega) with rfl | rfl | rfl | rfl <;> rfl)⟩
theorem nw_X7_50 : NWc RX7 50 5 15 [.null, .null, .null, .null, .null, .null, .null, .null, .null, .null, .int 0, .int 0, .int 0, .int 0, .int 0] := ⟨RX5, TX5, tyX5, rfl, in_X5, tyX5_ok, (om_tbl 211 (by decide +kernel) rfl), (om_tbl 213 (by decide +kernel) rfl), (om_tbl 28 (by decide +kernel) rfl), (by intro j hj; rcases (show j = 0 ∨ j = 1 ∨ j = 2 ∨ j = 3 ∨ j = 4 ∨ j = 5 ∨ j = 6 ∨ j = 7 ∨ j = 8 ∨ j = 9 ∨ j = 10 ∨ j = 11 ∨ j = 12 ∨ j = 13 ∨ j = 14 by omega) with rfl | rfl | rfl | rfl | rfl | rfl | rfl | rfl | rfl | rfl | rfl | rfl | rfl | rfl | rfl <;> rfl)⟩
theorem ci_X4_25 : CI RX4 25 yX1_init cX1_init 3 2 := ⟨Or.inl (om_tbl 178 (by decide +kernel) rfl), (om_tbl 130 (by decide +kernel) rfl), (om_tbl 25 (by decide +kernel) rfl), (om_tbl 131 (by decide +kernel) rfl), rfl, by decide +kernel, by decide +kernel, by decide +kernel⟩
theorem ci_X6_34 : CI RX6 34 yX1_init cX1_init 3 2 := ⟨Or.inl (om_tbl 129 (by decide +kernel) rfl), (om_tbl 130 (by decide +kernel) rfl), (om_tbl 25 (by decide +kernel) rfl), (om_tbl 131 (by decide +kernel) rfl), rfl, by decide +kernel, by decide +kernel, by decide +kernel⟩
theorem ci_X7_11 : CI RX7 11 yX2_init cX2_init 1 0 := ⟨Or.inr ⟨"MeshLodger", (nest_mem 30 (by decide +kernel) rfl)⟩, (om_tbl 51 (by decide +kernel) rfl), (om_tbl 22 (by decide +kernel) rfl), (om_tbl 52 (by decide +kernel) rfl), rfl, by decide +kernel, by decide +kernel, by decide +kernel⟩
theorem ci_X7_18 : CI RX7 18 yX0_init cX0_init 2 1 := ⟨Or.inl (om_tbl 94 (by decide +kernel) rfl), (om_tbl 95 (by decide +kernel) rfl), (om_tbl 23 (by decide +kernel) rfl), (om_tbl 96 (by decide +kernel) rfl), rfl, by decide +kernel, by decide +kernel, by decide +kernel⟩
theorem ci_X7_27 : CI RX7 27 yX6_init cX6_init 3 2 := ⟨Or.inl (om_tbl 123 (by decide +kernel) rfl), (om_tbl 124 (by decide +kernel) rfl), (om_tbl 24 (by decide +kernel) rfl), (om_tbl 125 (by decide +kernel) rfl), rfl, by decide +kernel, by decide +kernel, by decide +kernel⟩
theorem ci_X7_36 : CI RX7 36 yX4_init cX4_init 4 3 := ⟨Or.inl (om_tbl 173 (by decide +kernel) rfl), (om_tbl 174 (by decide +kernel) rfl), (om_tbl 26 (by decide +kernel) rfl), (om_tbl 175 (by decide +kernel) rfl), rfl, by decide +kernel, by decide +kernel, by decide +kernel⟩
theorem ci_X7_45 : CI RX7 45 yX3_init cX3_init 3 2 := ⟨Or.inl (om_tbl 194 (by decide +kernel) rfl), (om_tbl 195 (by decide +kernel) rfl), (om_tbl 27 (by decide +kernel) rfl), (om_tbl 196 (by decide +kernel) rfl), rfl, by decide +kernel, by decide +kernel, by decide +kernel⟩
theorem ci_X7_56 : CI RX7 56 yX5_init cX5_init 1 0 := ⟨Or.inr ⟨"MeshLodger", (nest_mem 194 (by decide +kernel) rfl)⟩, (om_tbl 215 (by decide +kernel) rfl), (om_tbl 28 (by decide +kernel) rfl), (om_tbl 216 (by decide +kernel) rfl), rfl, by decide +kernel, by decide +kernel, by decide +kernel⟩
theorem ol_X0_24 : Cond.classLink RX0 24 "[[I" ∈ Om := (om_tbl 98 (by decide +kernel) rfl)
theorem ol_X2_24 : Cond.classLink RX2 24 "[[I" ∈ Om := (om_tbl 54 (by decide +kernel) rfl)
theorem ol_X7_50 : Cond.classLink RX7 50 "MeshLodger$Request" ∈ Om := (om_tbl 211 (by decide +kernel) rfl)
theorem dX1_init_0 : decode cX1_init 0 = .ok (.aload_n 0, 1) := by decide +kernel
theorem dX1_init_1 : decode cX1_init 1 = .ok (.invokespecial 3, 3) := by decide +kernel
theorem dX1_init_4 : decode cX1_init 4 = .ok (.aload_n 0, 1) := by decide +kernel
theorem dX1_init_5 : decode cX1_init 5 = .ok (.iconst 3, 1) := by decide +kernel
theorem dX1_init_6 : decode cX1_init 6 = .ok (.newarray .int, 2) := by decide +kernel
theorem dX1_init_8 : decode cX1_init 8 = .ok (.putfield 9, 3) := by decide +kernel
theorem dX1_init_11 : decode cX1_init 11 = .ok (.aload_n 0, 1) := by decide +kernel
theorem dX1_init_12 : decode cX1_init 12 = .ok (.aload_n 1, 1) := by decide +kernel
theorem dX1_init_13 : decode cX1_init 13 = .ok (.putfield 15, 3) := by decide +kernel
theorem dX1_init_16 : decode cX1_init 16 = .ok (.aload_n 0, 1) := by decide +kernel
theorem dX1_init_17 : decode cX1_init 17 = .ok (.aload_n 2, 1) := by decide +kernel
theorem dX1_init_18 : decode cX1_init 18 = .ok (.putfield 19, 3) := by decide +kernel
theorem dX1_init_21 : decode cX1_init 21 = .ok (.return_, 1) := by decide +kernel
set_option maxHeartbeats 8000000 in
set_option maxRecDepth 20000 in
theorem m_X1_init {g : GC} {l : Launch} {wl : List va_E} {p : Nat} {p1 : Nat} {p2 : Nat} (h0 : wl[p]? = some (.inr (1, [.null, .null, .null]))) (hcl : ∀ e ∈ wl, rbE wl.length e) (hAs : ∀ v ∈ ([.ref p, .ref p1, .ref p2] : List Value), rbV wl.length v) (ad : Nat → Nat) : MC (g.1, g.2.1, g.2.2.1, ad, wl.length) l yX1_init cX1_init 3 1 30 1 3 [.ref p, .ref p1, .ref p2] wl (wS wl p 1 [.ref p1, .ref p2, .ref (wl.length + 0)] [.inl (0, 3, .inl (fun _ => 0))]) := by
  have hp : p < wl.length := (List.getElem?_eq_some_iff.mp h0).1
  refine met_ofC (by decide) (Nat.le_of_ble_eq_true rfl) (by intro v hv; simp only [List.mem_cons, List.not_mem_nil, or_false] at hv; rcases hv with rfl | rfl | rfl <;> rfl) rfl hcl hAs ?_
  intro f hfl cx hr hl hin hQ
  subst hfl
  generalize hg : ((g.1, g.2.1, g.2.2.1, ad, wl.length) : GC) = g9 at cx hQ ⊢
  have e0 := wS_0 h0
  show KC g9 f [] 3 0 0 0 _ [] wl
  suffices hk : KC g9 f [] 3 0 0 0 [some (.ref p), some (.ref p1), some (.ref p2)] [] (wS wl p 1 [.null, .null, .null] []) from e0 ▸ hk
  clear e0 hg
  refine c_aload_n cx dX1_init_0 rfl rfl ?_
  refine c_objInit cx oj_X1 (by exact oi_i) oi_c (by decide) (by decide) (Nat.le_of_ble_eq_true rfl) dX1_init_1 ?_
  refine c_aload_n cx dX1_init_4 rfl rfl ?_
  refine c_iconst (v := (3 : Int32)) cx dX1_init_5 (by decide +kernel) ?_
  refine s_newI (N := 3) cx (by decide) (by decide) (by decide) ac_I (by decide) (by decide) dX1_init_6 ?_
  show KC g9 f [] 3 1 3 8 [some (.ref p), some (.ref p1), some (.ref p2)] [.ref (wl.length + 0), .ref p] (wS wl p 1 [.null, .null, .null] [.inl (0, 3, .inl (fun _ => 0))])
  refine s_putF hp cx hin ff_X1_9 (Nat.le_of_ble_eq_true rfl) (fun _ => rfl) (fun _ => rfl) dX1_init_8 ?_
  show KC g9 f [] 3 1 3 11 [some (.ref p), some (.ref p1), some (.ref p2)] [] (wS wl p 1 [.null, .null, .ref (wl.length + 0)] [.inl (0, 3, .inl (fun _ => 0))])
  refine c_aload_n cx dX1_init_11 rfl rfl ?_
  refine c_aload_n cx dX1_init_12 rfl rfl ?_
  refine s_putF hp cx hin ff_X1_15 (Nat.le_of_ble_eq_true rfl) (fun _ => rfl) (fun _ => rfl) dX1_init_13 ?_
  show KC g9 f [] 3 1 3 16 [some (.ref p), some (.ref p1), some (.ref p2)] [] (wS wl p 1 [.ref p1, .null, .ref (wl.length + 0)] [.inl (0, 3, .inl (fun _ => 0))])
  refine c_aload_n cx dX1_init_16 rfl rfl ?_
  refine c_aload_n cx dX1_init_17 rfl rfl ?_
  refine s_putF hp cx hin ff_X1_19 (Nat.le_of_ble_eq_true rfl) (fun _ => rfl) (fun _ => rfl) dX1_init_18 ?_
  show KC g9 f [] 3 1 3 21 [some (.ref p), some (.ref p1), some (.ref p2)] [] (wS wl p 1 [.ref p1, .ref p2, .ref (wl.length + 0)] [.inl (0, 3, .inl (fun _ => 0))])
  exact c_vret cx hr hl hQ (by decide) (by decide) rfl dX1_init_21
theorem dX2_init_0 : decode cX2_init 0 = .ok (.aload_n 0, 1) := by decide +kernel
theorem dX2_init_1 : decode cX2_init 1 = .ok (.invokespecial 3, 3) := by decide +kernel
theorem dX2_init_4 : decode cX2_init 4 = .ok (.aload_n 0, 1) := by decide +kernel
theorem dX2_init_5 : decode cX2_init 5 = .ok (.bipush 6, 2) := by decide +kernel
theorem dX2_init_7 : decode cX2_init 7 = .ok (.newarray .int, 2) := by decide +kernel
theorem dX2_init_9 : decode cX2_init 9 = .ok (.putfield 9, 3) := by decide +kernel
theorem dX2_init_12 : decode cX2_init 12 = .ok (.aload_n 0, 1) := by decide +kernel
theorem dX2_init_13 : decode cX2_init 13 = .ok (.bipush 9, 2) := by decide +kernel
theorem dX2_init_15 : decode cX2_init 15 = .ok (.newarray .int, 2) := by decide +kernel
theorem dX2_init_17 : decode cX2_init 17 = .ok (.putfield 15, 3) := by decide +kernel
theorem dX2_init_20 : decode cX2_init 20 = .ok (.aload_n 0, 1) := by decide +kernel
theorem dX2_init_21 : decode cX2_init 21 = .ok (.bipush 9, 2) := by decide +kernel
theorem dX2_init_23 : decode cX2_init 23 = .ok (.newarray .int, 2) := by decide +kernel
theorem dX2_init_25 : decode cX2_init 25 = .ok (.putfield 18, 3) := by decide +kernel
theorem dX2_init_28 : decode cX2_init 28 = .ok (.aload_n 0, 1) := by decide +kernel
theorem dX2_init_29 : decode cX2_init 29 = .ok (.bipush 9, 2) := by decide +kernel
theorem dX2_init_31 : decode cX2_init 31 = .ok (.newarray .int, 2) := by decide +kernel
theorem dX2_init_33 : decode cX2_init 33 = .ok (.putfield 21, 3) := by decide +kernel
theorem dX2_init_36 : decode cX2_init 36 = .ok (.aload_n 0, 1) := by decide +kernel
theorem dX2_init_37 : decode cX2_init 37 = .ok (.bipush 36, 2) := by decide +kernel
theorem dX2_init_39 : decode cX2_init 39 = .ok (.bipush 15, 2) := by decide +kernel
theorem dX2_init_41 : decode cX2_init 41 = .ok (.multianewarray 24 2, 4) := by decide +kernel
theorem dX2_init_45 : decode cX2_init 45 = .ok (.putfield 26, 3) := by decide +kernel
theorem dX2_init_48 : decode cX2_init 48 = .ok (.aload_n 0, 1) := by decide +kernel
theorem dX2_init_49 : decode cX2_init 49 = .ok (.bipush 36, 2) := by decide +kernel
theorem dX2_init_51 : decode cX2_init 51 = .ok (.newarray .int, 2) := by decide +kernel
theorem dX2_init_53 : decode cX2_init 53 = .ok (.putfield 29, 3) := by decide +kernel
theorem dX2_init_56 : decode cX2_init 56 = .ok (.return_, 1) := by decide +kernel
set_option maxHeartbeats 8000000 in
set_option maxRecDepth 20000 in
theorem m_X2_init {g : GC} {l : Launch} {wl : List va_E} {p : Nat}  (h0 : wl[p]? = some (.inr (2, [.null, .null, .null, .null, .null, .null, .int 0, .int 0, .int 0]))) (hcl : ∀ e ∈ wl, rbE wl.length e) (hAs : ∀ v ∈ ([.ref p] : List Value), rbV wl.length v) (ad : Nat → Nat) : MC (g.1, g.2.1, g.2.2.1, ad, wl.length) l yX2_init cX2_init 1 1 30 42 645 [.ref p] wl (wS wl p 2 [.ref (wl.length + 0), .ref (wl.length + 1), .ref (wl.length + 2), .ref (wl.length + 3), .ref (wl.length + 4), .ref (wl.length + 41), .int 0, .int 0, .int 0] [.inl (0, 6, .inl (fun _ => 0)), .inl (0, 9, .inl (fun _ => 0)), .inl (0, 9, .inl (fun _ => 0)), .inl (0, 9, .inl (fun _ => 0)), .inl (3, 36, .inr (.inr (.inr (.inr (fun i => if i < 36 then some (wl.length + 5 + i) else none))))), .inl (0, 15, .inl (fun _ => 0)), .inl (0, 15, .inl (fun _ => 0)), .inl (0, 15, .inl (fun _ => 0)), .inl (0, 15, .inl (fun _ => 0)), .inl (0, 15, .inl (fun _ => 0)), .inl (0, 15, .inl (fun _ => 0)), .inl (0, 15, .inl (fun _ => 0)), .inl (0, 15, .inl (fun _ => 0)), .inl (0, 15, .inl (fun _ => 0)), .inl (0, 15, .inl (fun _ => 0)), .inl (0, 15, .inl (fun _ => 0)), .inl (0, 15, .inl (fun _ => 0)), .inl (0, 15, .inl (fun _ => 0)), .inl (0, 15, .inl (fun _ => 0)), .inl (0, 15, .inl (fun _ => 0)), .inl (0, 15, .inl (fun _ => 0)), .inl (0, 15, .inl (fun _ => 0)), .inl (0, 15, .inl (fun _ => 0)), .inl (0, 15, .inl (fun _ => 0)), .inl (0, 15, .inl (fun _ => 0)), .inl (0, 15, .inl (fun _ => 0)), .inl (0, 15, .inl (fun _ => 0)), .inl (0, 15, .inl (fun _ => 0)), .inl (0, 15, .inl (fun _ => 0)), .inl (0, 15, .inl (fun _ => 0)), .inl (0, 15, .inl (fun _ => 0)), .inl (0, 15, .inl (fun _ => 0)), .inl (0, 15, .inl (fun _ => 0)), .inl (0, 15, .inl (fun _ => 0)), .inl (0, 15, .inl (fun _ => 0)), .inl (0, 15, .inl (fun _ => 0)), .inl (0, 15, .inl (fun _ => 0)), .inl (0, 15, .inl (fun _ => 0)), .inl (0, 15, .inl (fun _ => 0)), .inl (0, 15, .inl (fun _ => 0)), .inl (0, 15, .inl (fun _ => 0)), .inl (0, 36, .inl (fun _ => 0))]) := by
  have hp : p < wl.length := (List.getElem?_eq_some_iff.mp h0).1
  refine met_ofC (by decide) (Nat.le_of_ble_eq_true rfl) (by intro v hv; simp only [List.mem_cons, List.not_mem_nil, or_false] at hv; subst hv; rfl) rfl hcl hAs ?_
  intro f hfl cx hr hl hin hQ
  subst hfl
  generalize hg : ((g.1, g.2.1, g.2.2.1, ad, wl.length) : GC) = g9 at cx hQ ⊢
  have e0 := wS_0 h0
  show KC g9 f [] 1 0 0 0 _ [] wl
  suffices hk : KC g9 f [] 1 0 0 0 [some (.ref p)] [] (wS wl p 2 [.null, .null, .null, .null, .null, .null, .int 0, .int 0, .int 0] []) from e0 ▸ hk
  clear e0 hg
  refine c_aload_n cx dX2_init_0 rfl rfl ?_
  refine c_objInit cx oj_X2 (by exact oi_i) oi_c (by decide) (by decide) (Nat.le_of_ble_eq_true rfl) dX2_init_1 ?_
  refine c_aload_n cx dX2_init_4 rfl rfl ?_
  refine c_bipush (v := (6 : Int32)) cx dX2_init_5 (by decide +kernel) ?_
  refine s_newI (N := 6) cx (by decide) (by decide) (by decide) ac_I (by decide) (by decide) dX2_init_7 ?_
  show KC g9 f [] 1 1 6 9 [some (.ref p)] [.ref (wl.length + 0), .ref p] (wS wl p 2 [.null, .null, .null, .null, .null, .null, .int 0, .int 0, .int 0] [.inl (0, 6, .inl (fun _ => 0))])
  refine s_putF hp cx hin ff_X2_9 (Nat.le_of_ble_eq_true rfl) (fun _ => rfl) (fun _ => rfl) dX2_init_9 ?_
  show KC g9 f [] 1 1 6 12 [some (.ref p)] [] (wS wl p 2 [.ref (wl.length + 0), .null, .null, .null, .null, .null, .int 0, .int 0, .int 0] [.inl (0, 6, .inl (fun _ => 0))])
  refine c_aload_n cx dX2_init_12 rfl rfl ?_
  refine c_bipush (v := (9 : Int32)) cx dX2_init_13 (by decide +kernel) ?_
  refine s_newI (N := 9) cx (by decide) (by decide) (by decide) ac_I (by decide) (by decide) dX2_init_15 ?_
  show KC g9 f [] 1 2 15 17 [some (.ref p)] [.ref (wl.length + 1), .ref p] (wS wl p 2 [.ref (wl.length + 0), .null, .null, .null, .null, .null, .int 0, .int 0, .int 0] [.inl (0, 6, .inl (fun _ => 0)), .inl (0, 9, .inl (fun _ => 0))])
  refine s_putF hp cx hin ff_X2_15 (Nat.le_of_ble_eq_true rfl) (fun _ => rfl) (fun _ => rfl) dX2_init_17 ?_
  show KC g9 f [] 1 2 15 20 [some (.ref p)] [] (wS wl p 2 [.ref (wl.length + 0), .ref (wl.length + 1), .null, .null, .null, .null, .int 0, .int 0, .int 0] [.inl (0, 6, .inl (fun _ => 0)), .inl (0, 9, .inl (fun _ => 0))])
  refine c_aload_n cx dX2_init_20 rfl rfl ?_
  refine c_bipush (v := (9 : Int32)) cx dX2_init_21 (by decide +kernel) ?_
  refine s_newI (N := 9) cx (by decide) (by decide) (by decide) ac_I (by decide) (by decide) dX2_init_23 ?_
  show KC g9 f [] 1 3 24 25 [some (.ref p)] [.ref (wl.length + 2), .ref p] (wS wl p 2 [.ref (wl.length + 0), .ref (wl.length + 1), .null, .null, .null, .null, .int 0, .int 0, .int 0] [.inl (0, 6, .inl (fun _ => 0)), .inl (0, 9, .inl (fun _ => 0)), .inl (0, 9, .inl (fun _ => 0))])
  refine s_putF hp cx hin ff_X2_18 (Nat.le_of_ble_eq_true rfl) (fun _ => rfl) (fun _ => rfl) dX2_init_25 ?_
  show KC g9 f [] 1 3 24 28 [some (.ref p)] [] (wS wl p 2 [.ref (wl.length + 0), .ref (wl.length + 1), .ref (wl.length + 2), .null, .null, .null, .int 0, .int 0, .int 0] [.inl (0, 6, .inl (fun _ => 0)), .inl (0, 9, .inl (fun _ => 0)), .inl (0, 9, .inl (fun _ => 0))])
  refine c_aload_n cx dX2_init_28 rfl rfl ?_
  refine c_bipush (v := (9 : Int32)) cx dX2_init_29 (by decide +kernel) ?_
  refine s_newI (N := 9) cx (by decide) (by decide) (by decide) ac_I (by decide) (by decide) dX2_init_31 ?_
  show KC g9 f [] 1 4 33 33 [some (.ref p)] [.ref (wl.length + 3), .ref p] (wS wl p 2 [.ref (wl.length + 0), .ref (wl.length + 1), .ref (wl.length + 2), .null, .null, .null, .int 0, .int 0, .int 0] [.inl (0, 6, .inl (fun _ => 0)), .inl (0, 9, .inl (fun _ => 0)), .inl (0, 9, .inl (fun _ => 0)), .inl (0, 9, .inl (fun _ => 0))])
  refine s_putF hp cx hin ff_X2_21 (Nat.le_of_ble_eq_true rfl) (fun _ => rfl) (fun _ => rfl) dX2_init_33 ?_
  show KC g9 f [] 1 4 33 36 [some (.ref p)] [] (wS wl p 2 [.ref (wl.length + 0), .ref (wl.length + 1), .ref (wl.length + 2), .ref (wl.length + 3), .null, .null, .int 0, .int 0, .int 0] [.inl (0, 6, .inl (fun _ => 0)), .inl (0, 9, .inl (fun _ => 0)), .inl (0, 9, .inl (fun _ => 0)), .inl (0, 9, .inl (fun _ => 0))])
  refine c_aload_n cx dX2_init_36 rfl rfl ?_
  refine c_bipush (v := (36 : Int32)) cx dX2_init_37 (by decide +kernel) ?_
  refine c_bipush (v := (15 : Int32)) cx dX2_init_39 (by decide +kernel) ?_
  refine s_mna (N := 36) (K := 15) cx ol_X2_24 ac_I (by decide) (by decide) (by decide) (by decide) (by decide) (by decide) (by decide) (by decide) dX2_init_41 ?_
  show KC g9 f [] 1 41 609 45 [some (.ref p)] [.ref (wl.length + 4), .ref p] (wS wl p 2 [.ref (wl.length + 0), .ref (wl.length + 1), .ref (wl.length + 2), .ref (wl.length + 3), .null, .null, .int 0, .int 0, .int 0] [.inl (0, 6, .inl (fun _ => 0)), .inl (0, 9, .inl (fun _ => 0)), .inl (0, 9, .inl (fun _ => 0)), .inl (0, 9, .inl (fun _ => 0)), .inl (3, 36, .inr (.inr (.inr (.inr (fun i => if i < 36 then some (wl.length + 5 + i) else none))))), .inl (0, 15, .inl (fun _ => 0)), .inl (0, 15, .inl (fun _ => 0)), .inl (0, 15, .inl (fun _ => 0)), .inl (0, 15, .inl (fun _ => 0)), .inl (0, 15, .inl (fun _ => 0)), .inl (0, 15, .inl (fun _ => 0)), .inl (0, 15, .inl (fun _ => 0)), .inl (0, 15, .inl (fun _ => 0)), .inl (0, 15, .inl (fun _ => 0)), .inl (0, 15, .inl (fun _ => 0)), .inl (0, 15, .inl (fun _ => 0)), .inl (0, 15, .inl (fun _ => 0)), .inl (0, 15, .inl (fun _ => 0)), .inl (0, 15, .inl (fun _ => 0)), .inl (0, 15, .inl (fun _ => 0)), .inl (0, 15, .inl (fun _ => 0)), .inl (0, 15, .inl (fun _ => 0)), .inl (0, 15, .inl (fun _ => 0)), .inl (0, 15, .inl (fun _ => 0)), .inl (0, 15, .inl (fun _ => 0)), .inl (0, 15, .inl (fun _ => 0)), .inl (0, 15, .inl (fun _ => 0)), .inl (0, 15, .inl (fun _ => 0)), .inl (0, 15, .inl (fun _ => 0)), .inl (0, 15, .inl (fun _ => 0)), .inl (0, 15, .inl (fun _ => 0)), .inl (0, 15, .inl (fun _ => 0)), .inl (0, 15, .inl (fun _ => 0)), .inl (0, 15, .inl (fun _ => 0)), .inl (0, 15, .inl (fun _ => 0)), .inl (0, 15, .inl (fun _ => 0)), .inl (0, 15, .inl (fun _ => 0)), .inl (0, 15, .inl (fun _ => 0)), .inl (0, 15, .inl (fun _ => 0)), .inl (0, 15, .inl (fun _ => 0)), .inl (0, 15, .inl (fun _ => 0))])
  refine s_putF hp cx hin ff_X2_26 (Nat.le_of_ble_eq_true rfl) (fun _ => rfl) (fun _ => rfl) dX2_init_45 ?_
  show KC g9 f [] 1 41 609 48 [some (.ref p)] [] (wS wl p 2 [.ref (wl.length + 0), .ref (wl.length + 1), .ref (wl.length + 2), .ref (wl.length + 3), .ref (wl.length + 4), .null, .int 0, .int 0, .int 0] [.inl (0, 6, .inl (fun _ => 0)), .inl (0, 9, .inl (fun _ => 0)), .inl (0, 9, .inl (fun _ => 0)), .inl (0, 9, .inl (fun _ => 0)), .inl (3, 36, .inr (.inr (.inr (.inr (fun i => if i < 36 then some (wl.length + 5 + i) else none))))), .inl (0, 15, .inl (fun _ => 0)), .inl (0, 15, .inl (fun _ => 0)), .inl (0, 15, .inl (fun _ => 0)), .inl (0, 15, .inl (fun _ => 0)), .inl (0, 15, .inl (fun _ => 0)), .inl (0, 15, .inl (fun _ => 0)), .inl (0, 15, .inl (fun _ => 0)), .inl (0, 15, .inl (fun _ => 0)), .inl (0, 15, .inl (fun _ => 0)), .inl (0, 15, .inl (fun _ => 0)), .inl (0, 15, .inl (fun _ => 0)), .inl (0, 15, .inl (fun _ => 0)), .inl (0, 15, .inl (fun _ => 0)), .inl (0, 15, .inl (fun _ => 0)), .inl (0, 15, .inl (fun _ => 0)), .inl (0, 15, .inl (fun _ => 0)), .inl (0, 15, .inl (fun _ => 0)), .inl (0, 15, .inl (fun _ => 0)), .inl (0, 15, .inl (fun _ => 0)), .inl (0, 15, .inl (fun _ => 0)), .inl (0, 15, .inl (fun _ => 0)), .inl (0, 15, .inl (fun _ => 0)), .inl (0, 15, .inl (fun _ => 0)), .inl (0, 15, .inl (fun _ => 0)), .inl (0, 15, .inl (fun _ => 0)), .inl (0, 15, .inl (fun _ => 0)), .inl (0, 15, .inl (fun _ => 0)), .inl (0, 15, .inl (fun _ => 0)), .inl (0, 15, .inl (fun _ => 0)), .inl (0, 15, .inl (fun _ => 0)), .inl (0, 15, .inl (fun _ => 0)), .inl (0, 15, .inl (fun _ => 0)), .inl (0, 15, .inl (fun _ => 0)), .inl (0, 15, .inl (fun _ => 0)), .inl (0, 15, .inl (fun _ => 0)), .inl (0, 15, .inl (fun _ => 0))])
  refine c_aload_n cx dX2_init_48 rfl rfl ?_
  refine c_bipush (v := (36 : Int32)) cx dX2_init_49 (by decide +kernel) ?_
  refine s_newI (N := 36) cx (by decide) (by decide) (by decide) ac_I (by decide) (by decide) dX2_init_51 ?_
  show KC g9 f [] 1 42 645 53 [some (.ref p)] [.ref (wl.length + 41), .ref p] (wS wl p 2 [.ref (wl.length + 0), .ref (wl.length + 1), .ref (wl.length + 2), .ref (wl.length + 3), .ref (wl.length + 4), .null, .int 0, .int 0, .int 0] [.inl (0, 6, .inl (fun _ => 0)), .inl (0, 9, .inl (fun _ => 0)), .inl (0, 9, .inl (fun _ => 0)), .inl (0, 9, .inl (fun _ => 0)), .inl (3, 36, .inr (.inr (.inr (.inr (fun i => if i < 36 then some (wl.length + 5 + i) else none))))), .inl (0, 15, .inl (fun _ => 0)), .inl (0, 15, .inl (fun _ => 0)), .inl (0, 15, .inl (fun _ => 0)), .inl (0, 15, .inl (fun _ => 0)), .inl (0, 15, .inl (fun _ => 0)), .inl (0, 15, .inl (fun _ => 0)), .inl (0, 15, .inl (fun _ => 0)), .inl (0, 15, .inl (fun _ => 0)), .inl (0, 15, .inl (fun _ => 0)), .inl (0, 15, .inl (fun _ => 0)), .inl (0, 15, .inl (fun _ => 0)), .inl (0, 15, .inl (fun _ => 0)), .inl (0, 15, .inl (fun _ => 0)), .inl (0, 15, .inl (fun _ => 0)), .inl (0, 15, .inl (fun _ => 0)), .inl (0, 15, .inl (fun _ => 0)), .inl (0, 15, .inl (fun _ => 0)), .inl (0, 15, .inl (fun _ => 0)), .inl (0, 15, .inl (fun _ => 0)), .inl (0, 15, .inl (fun _ => 0)), .inl (0, 15, .inl (fun _ => 0)), .inl (0, 15, .inl (fun _ => 0)), .inl (0, 15, .inl (fun _ => 0)), .inl (0, 15, .inl (fun _ => 0)), .inl (0, 15, .inl (fun _ => 0)), .inl (0, 15, .inl (fun _ => 0)), .inl (0, 15, .inl (fun _ => 0)), .inl (0, 15, .inl (fun _ => 0)), .inl (0, 15, .inl (fun _ => 0)), .inl (0, 15, .inl (fun _ => 0)), .inl (0, 15, .inl (fun _ => 0)), .inl (0, 15, .inl (fun _ => 0)), .inl (0, 15, .inl (fun _ => 0)), .inl (0, 15, .inl (fun _ => 0)), .inl (0, 15, .inl (fun _ => 0)), .inl (0, 15, .inl (fun _ => 0)), .inl (0, 36, .inl (fun _ => 0))])
  refine s_putF hp cx hin ff_X2_29 (Nat.le_of_ble_eq_true rfl) (fun _ => rfl) (fun _ => rfl) dX2_init_53 ?_
  show KC g9 f [] 1 42 645 56 [some (.ref p)] [] (wS wl p 2 [.ref (wl.length + 0), .ref (wl.length + 1), .ref (wl.length + 2), .ref (wl.length + 3), .ref (wl.length + 4), .ref (wl.length + 41), .int 0, .int 0, .int 0] [.inl (0, 6, .inl (fun _ => 0)), .inl (0, 9, .inl (fun _ => 0)), .inl (0, 9, .inl (fun _ => 0)), .inl (0, 9, .inl (fun _ => 0)), .inl (3, 36, .inr (.inr (.inr (.inr (fun i => if i < 36 then some (wl.length + 5 + i) else none))))), .inl (0, 15, .inl (fun _ => 0)), .inl (0, 15, .inl (fun _ => 0)), .inl (0, 15, .inl (fun _ => 0)), .inl (0, 15, .inl (fun _ => 0)), .inl (0, 15, .inl (fun _ => 0)), .inl (0, 15, .inl (fun _ => 0)), .inl (0, 15, .inl (fun _ => 0)), .inl (0, 15, .inl (fun _ => 0)), .inl (0, 15, .inl (fun _ => 0)), .inl (0, 15, .inl (fun _ => 0)), .inl (0, 15, .inl (fun _ => 0)), .inl (0, 15, .inl (fun _ => 0)), .inl (0, 15, .inl (fun _ => 0)), .inl (0, 15, .inl (fun _ => 0)), .inl (0, 15, .inl (fun _ => 0)), .inl (0, 15, .inl (fun _ => 0)), .inl (0, 15, .inl (fun _ => 0)), .inl (0, 15, .inl (fun _ => 0)), .inl (0, 15, .inl (fun _ => 0)), .inl (0, 15, .inl (fun _ => 0)), .inl (0, 15, .inl (fun _ => 0)), .inl (0, 15, .inl (fun _ => 0)), .inl (0, 15, .inl (fun _ => 0)), .inl (0, 15, .inl (fun _ => 0)), .inl (0, 15, .inl (fun _ => 0)), .inl (0, 15, .inl (fun _ => 0)), .inl (0, 15, .inl (fun _ => 0)), .inl (0, 15, .inl (fun _ => 0)), .inl (0, 15, .inl (fun _ => 0)), .inl (0, 15, .inl (fun _ => 0)), .inl (0, 15, .inl (fun _ => 0)), .inl (0, 15, .inl (fun _ => 0)), .inl (0, 15, .inl (fun _ => 0)), .inl (0, 15, .inl (fun _ => 0)), .inl (0, 15, .inl (fun _ => 0)), .inl (0, 15, .inl (fun _ => 0)), .inl (0, 36, .inl (fun _ => 0))])
  exact c_vret cx hr hl hQ (by decide) (by decide) rfl dX2_init_56
theorem dX0_init_0 : decode cX0_init 0 = .ok (.aload_n 0, 1) := by decide +kernel
theorem dX0_init_1 : decode cX0_init 1 = .ok (.invokespecial 3, 3) := by decide +kernel
theorem dX0_init_4 : decode cX0_init 4 = .ok (.aload_n 0, 1) := by decide +kernel
theorem dX0_init_5 : decode cX0_init 5 = .ok (.bipush 6, 2) := by decide +kernel
theorem dX0_init_7 : decode cX0_init 7 = .ok (.newarray .int, 2) := by decide +kernel
theorem dX0_init_9 : decode cX0_init 9 = .ok (.putfield 9, 3) := by decide +kernel
theorem dX0_init_12 : decode cX0_init 12 = .ok (.aload_n 0, 1) := by decide +kernel
theorem dX0_init_13 : decode cX0_init 13 = .ok (.bipush 6, 2) := by decide +kernel
theorem dX0_init_15 : decode cX0_init 15 = .ok (.newarray .int, 2) := by decide +kernel
theorem dX0_init_17 : decode cX0_init 17 = .ok (.putfield 15, 3) := by decide +kernel
theorem dX0_init_20 : decode cX0_init 20 = .ok (.aload_n 0, 1) := by decide +kernel
theorem dX0_init_21 : decode cX0_init 21 = .ok (.bipush 9, 2) := by decide +kernel
theorem dX0_init_23 : decode cX0_init 23 = .ok (.newarray .int, 2) := by decide +kernel
theorem dX0_init_25 : decode cX0_init 25 = .ok (.putfield 18, 3) := by decide +kernel
theorem dX0_init_28 : decode cX0_init 28 = .ok (.aload_n 0, 1) := by decide +kernel
theorem dX0_init_29 : decode cX0_init 29 = .ok (.bipush 9, 2) := by decide +kernel
theorem dX0_init_31 : decode cX0_init 31 = .ok (.newarray .int, 2) := by decide +kernel
theorem dX0_init_33 : decode cX0_init 33 = .ok (.putfield 21, 3) := by decide +kernel
theorem dX0_init_36 : decode cX0_init 36 = .ok (.aload_n 0, 1) := by decide +kernel
theorem dX0_init_37 : decode cX0_init 37 = .ok (.bipush 9, 2) := by decide +kernel
theorem dX0_init_39 : decode cX0_init 39 = .ok (.bipush 9, 2) := by decide +kernel
theorem dX0_init_41 : decode cX0_init 41 = .ok (.multianewarray 24 2, 4) := by decide +kernel
theorem dX0_init_45 : decode cX0_init 45 = .ok (.putfield 26, 3) := by decide +kernel
theorem dX0_init_48 : decode cX0_init 48 = .ok (.aload_n 0, 1) := by decide +kernel
theorem dX0_init_49 : decode cX0_init 49 = .ok (.aload_n 1, 1) := by decide +kernel
theorem dX0_init_50 : decode cX0_init 50 = .ok (.putfield 29, 3) := by decide +kernel
theorem dX0_init_53 : decode cX0_init 53 = .ok (.return_, 1) := by decide +kernel
set_option maxHeartbeats 8000000 in
set_option maxRecDepth 20000 in
theorem m_X0_init {g : GC} {l : Launch} {wl : List va_E} {p : Nat} {p1 : Nat} (h0 : wl[p]? = some (.inr (0, [.null, .null, .null, .null, .null, .null]))) (hcl : ∀ e ∈ wl, rbE wl.length e) (hAs : ∀ v ∈ ([.ref p, .ref p1] : List Value), rbV wl.length v) (ad : Nat → Nat) : MC (g.1, g.2.1, g.2.2.1, ad, wl.length) l yX0_init cX0_init 2 1 30 14 120 [.ref p, .ref p1] wl (wS wl p 0 [.ref p1, .ref (wl.length + 0), .ref (wl.length + 1), .ref (wl.length + 2), .ref (wl.length + 3), .ref (wl.length + 4)] [.inl (0, 6, .inl (fun _ => 0)), .inl (0, 6, .inl (fun _ => 0)), .inl (0, 9, .inl (fun _ => 0)), .inl (0, 9, .inl (fun _ => 0)), .inl (3, 9, .inr (.inr (.inr (.inr (fun i => if i < 9 then some (wl.length + 5 + i) else none))))), .inl (0, 9, .inl (fun _ => 0)), .inl (0, 9, .inl (fun _ => 0)), .inl (0, 9, .inl (fun _ => 0)), .inl (0, 9, .inl (fun _ => 0)), .inl (0, 9, .inl (fun _ => 0)), .inl (0, 9, .inl (fun _ => 0)), .inl (0, 9, .inl (fun _ => 0)), .inl (0, 9, .inl (fun _ => 0)), .inl (0, 9, .inl (fun _ => 0))]) := by
  have hp : p < wl.length := (List.getElem?_eq_some_iff.mp h0).1
  refine met_ofC (by decide) (Nat.le_of_ble_eq_true rfl) (by intro v hv; simp only [List.mem_cons, List.not_mem_nil, or_false] at hv; rcases hv with rfl | rfl <;> rfl) rfl hcl hAs ?_
  intro f hfl cx hr hl hin hQ
  subst hfl
  generalize hg : ((g.1, g.2.1, g.2.2.1, ad, wl.length) : GC) = g9 at cx hQ ⊢
  have e0 := wS_0 h0
  show KC g9 f [] 2 0 0 0 _ [] wl
  suffices hk : KC g9 f [] 2 0 0 0 [some (.ref p), some (.ref p1)] [] (wS wl p 0 [.null, .null, .null, .null, .null, .null] []) from e0 ▸ hk
  clear e0 hg
  refine c_aload_n cx dX0_init_0 rfl rfl ?_
  refine c_objInit cx oj_X0 (by exact oi_i) oi_c (by decide) (by decide) (Nat.le_of_ble_eq_true rfl) dX0_init_1 ?_
  refine c_aload_n cx dX0_init_4 rfl rfl ?_
  refine c_bipush (v := (6 : Int32)) cx dX0_init_5 (by decide +kernel) ?_
  refine s_newI (N := 6) cx (by decide) (by decide) (by decide) ac_I (by decide) (by decide) dX0_init_7 ?_
  show KC g9 f [] 2 1 6 9 [some (.ref p), some (.ref p1)] [.ref (wl.length + 0), .ref p] (wS wl p 0 [.null, .null, .null, .null, .null, .null] [.inl (0, 6, .inl (fun _ => 0))])
  refine s_putF hp cx hin ff_X0_9 (Nat.le_of_ble_eq_true rfl) (fun _ => rfl) (fun _ => rfl) dX0_init_9 ?_
  show KC g9 f [] 2 1 6 12 [some (.ref p), some (.ref p1)] [] (wS wl p 0 [.null, .ref (wl.length + 0), .null, .null, .null, .null] [.inl (0, 6, .inl (fun _ => 0))])
  refine c_aload_n cx dX0_init_12 rfl rfl ?_
  refine c_bipush (v := (6 : Int32)) cx dX0_init_13 (by decide +kernel) ?_
  refine s_newI (N := 6) cx (by decide) (by decide) (by decide) ac_I (by decide) (by decide) dX0_init_15 ?_
  show KC g9 f [] 2 2 12 17 [some (.ref p), some (.ref p1)] [.ref (wl.length + 1), .ref p] (wS wl p 0 [.null, .ref (wl.length + 0), .null, .null, .null, .null] [.inl (0, 6, .inl (fun _ => 0)), .inl (0, 6, .inl (fun _ => 0))])
  refine s_putF hp cx hin ff_X0_15 (Nat.le_of_ble_eq_true rfl) (fun _ => rfl) (fun _ => rfl) dX0_init_17 ?_
  show KC g9 f [] 2 2 12 20 [some (.ref p), some (.ref p1)] [] (wS wl p 0 [.null, .ref (wl.length + 0), .ref (wl.length + 1), .null, .null, .null] [.inl (0, 6, .inl (fun _ => 0)), .inl (0, 6, .inl (fun _ => 0))])
  refine c_aload_n cx dX0_init_20 rfl rfl ?_
  refine c_bipush (v := (9 : Int32)) cx dX0_init_21 (by decide +kernel) ?_
  refine s_newI (N := 9) cx (by decide) (by decide) (by decide) ac_I (by decide) (by decide) dX0_init_23 ?_
  show KC g9 f [] 2 3 21 25 [some (.ref p), some (.ref p1)] [.ref (wl.length + 2), .ref p] (wS wl p 0 [.null, .ref (wl.length + 0), .ref (wl.length + 1), .null, .null, .null] [.inl (0, 6, .inl (fun _ => 0)), .inl (0, 6, .inl (fun _ => 0)), .inl (0, 9, .inl (fun _ => 0))])
  refine s_putF hp cx hin ff_X0_18 (Nat.le_of_ble_eq_true rfl) (fun _ => rfl) (fun _ => rfl) dX0_init_25 ?_
  show KC g9 f [] 2 3 21 28 [some (.ref p), some (.ref p1)] [] (wS wl p 0 [.null, .ref (wl.length + 0), .ref (wl.length + 1), .ref (wl.length + 2), .null, .null] [.inl (0, 6, .inl (fun _ => 0)), .inl (0, 6, .inl (fun _ => 0)), .inl (0, 9, .inl (fun _ => 0))])
  refine c_aload_n cx dX0_init_28 rfl rfl ?_
  refine c_bipush (v := (9 : Int32)) cx dX0_init_29 (by decide +kernel) ?_
  refine s_newI (N := 9) cx (by decide) (by decide) (by decide) ac_I (by decide) (by decide) dX0_init_31 ?_
  show KC g9 f [] 2 4 30 33 [some (.ref p), some (.ref p1)] [.ref (wl.length + 3), .ref p] (wS wl p 0 [.null, .ref (wl.length + 0), .ref (wl.length + 1), .ref (wl.length + 2), .null, .null] [.inl (0, 6, .inl (fun _ => 0)), .inl (0, 6, .inl (fun _ => 0)), .inl (0, 9, .inl (fun _ => 0)), .inl (0, 9, .inl (fun _ => 0))])
  refine s_putF hp cx hin ff_X0_21 (Nat.le_of_ble_eq_true rfl) (fun _ => rfl) (fun _ => rfl) dX0_init_33 ?_
  show KC g9 f [] 2 4 30 36 [some (.ref p), some (.ref p1)] [] (wS wl p 0 [.null, .ref (wl.length + 0), .ref (wl.length + 1), .ref (wl.length + 2), .ref (wl.length + 3), .null] [.inl (0, 6, .inl (fun _ => 0)), .inl (0, 6, .inl (fun _ => 0)), .inl (0, 9, .inl (fun _ => 0)), .inl (0, 9, .inl (fun _ => 0))])
  refine c_aload_n cx dX0_init_36 rfl rfl ?_
  refine c_bipush (v := (9 : Int32)) cx dX0_init_37 (by decide +kernel) ?_
  refine c_bipush (v := (9 : Int32)) cx dX0_init_39 (by decide +kernel) ?_
  refine s_mna (N := 9) (K := 9) cx ol_X0_24 ac_I (by decide) (by decide) (by decide) (by decide) (by decide) (by decide) (by decide) (by decide) dX0_init_41 ?_
  show KC g9 f [] 2 14 120 45 [some (.ref p), some (.ref p1)] [.ref (wl.length + 4), .ref p] (wS wl p 0 [.null, .ref (wl.length + 0), .ref (wl.length + 1), .ref (wl.length + 2), .ref (wl.length + 3), .null] [.inl (0, 6, .inl (fun _ => 0)), .inl (0, 6, .inl (fun _ => 0)), .inl (0, 9, .inl (fun _ => 0)), .inl (0, 9, .inl (fun _ => 0)), .inl (3, 9, .inr (.inr (.inr (.inr (fun i => if i < 9 then some (wl.length + 5 + i) else none))))), .inl (0, 9, .inl (fun _ => 0)), .inl (0, 9, .inl (fun _ => 0)), .inl (0, 9, .inl (fun _ => 0)), .inl (0, 9, .inl (fun _ => 0)), .inl (0, 9, .inl (fun _ => 0)), .inl (0, 9, .inl (fun _ => 0)), .inl (0, 9, .inl (fun _ => 0)), .inl (0, 9, .inl (fun _ => 0)), .inl (0, 9, .inl (fun _ => 0))])
  refine s_putF hp cx hin ff_X0_26 (Nat.le_of_ble_eq_true rfl) (fun _ => rfl) (fun _ => rfl) dX0_init_45 ?_
  show KC g9 f [] 2 14 120 48 [some (.ref p), some (.ref p1)] [] (wS wl p 0 [.null, .ref (wl.length + 0), .ref (wl.length + 1), .ref (wl.length + 2), .ref (wl.length + 3), .ref (wl.length + 4)] [.inl (0, 6, .inl (fun _ => 0)), .inl (0, 6, .inl (fun _ => 0)), .inl (0, 9, .inl (fun _ => 0)), .inl (0, 9, .inl (fun _ => 0)), .inl (3, 9, .inr (.inr (.inr (.inr (fun i => if i < 9 then some (wl.length + 5 + i) else none))))), .inl (0, 9, .inl (fun _ => 0)), .inl (0, 9, .inl (fun _ => 0)), .inl (0, 9, .inl (fun _ => 0)), .inl (0, 9, .inl (fun _ => 0)), .inl (0, 9, .inl (fun _ => 0)), .inl (0, 9, .inl (fun _ => 0)), .inl (0, 9, .inl (fun _ => 0)), .inl (0, 9, .inl (fun _ => 0)), .inl (0, 9, .inl (fun _ => 0))])
  refine c_aload_n cx dX0_init_48 rfl rfl ?_
  refine c_aload_n cx dX0_init_49 rfl rfl ?_
  refine s_putF hp cx hin ff_X0_29 (Nat.le_of_ble_eq_true rfl) (fun _ => rfl) (fun _ => rfl) dX0_init_50 ?_
  show KC g9 f [] 2 14 120 53 [some (.ref p), some (.ref p1)] [] (wS wl p 0 [.ref p1, .ref (wl.length + 0), .ref (wl.length + 1), .ref (wl.length + 2), .ref (wl.length + 3), .ref (wl.length + 4)] [.inl (0, 6, .inl (fun _ => 0)), .inl (0, 6, .inl (fun _ => 0)), .inl (0, 9, .inl (fun _ => 0)), .inl (0, 9, .inl (fun _ => 0)), .inl (3, 9, .inr (.inr (.inr (.inr (fun i => if i < 9 then some (wl.length + 5 + i) else none))))), .inl (0, 9, .inl (fun _ => 0)), .inl (0, 9, .inl (fun _ => 0)), .inl (0, 9, .inl (fun _ => 0)), .inl (0, 9, .inl (fun _ => 0)), .inl (0, 9, .inl (fun _ => 0)), .inl (0, 9, .inl (fun _ => 0)), .inl (0, 9, .inl (fun _ => 0)), .inl (0, 9, .inl (fun _ => 0)), .inl (0, 9, .inl (fun _ => 0))])
  exact c_vret cx hr hl hQ (by decide) (by decide) rfl dX0_init_53
theorem dX5_init_0 : decode cX5_init 0 = .ok (.aload_n 0, 1) := by decide +kernel
theorem dX5_init_1 : decode cX5_init 1 = .ok (.invokespecial 3, 3) := by decide +kernel
theorem dX5_init_4 : decode cX5_init 4 = .ok (.aload_n 0, 1) := by decide +kernel
theorem dX5_init_5 : decode cX5_init 5 = .ok (.iconst 3, 1) := by decide +kernel
theorem dX5_init_6 : decode cX5_init 6 = .ok (.newarray .int, 2) := by decide +kernel
theorem dX5_init_8 : decode cX5_init 8 = .ok (.putfield 9, 3) := by decide +kernel
theorem dX5_init_11 : decode cX5_init 11 = .ok (.aload_n 0, 1) := by decide +kernel
theorem dX5_init_12 : decode cX5_init 12 = .ok (.iconst 3, 1) := by decide +kernel
theorem dX5_init_13 : decode cX5_init 13 = .ok (.newarray .int, 2) := by decide +kernel
theorem dX5_init_15 : decode cX5_init 15 = .ok (.putfield 15, 3) := by decide +kernel
theorem dX5_init_18 : decode cX5_init 18 = .ok (.aload_n 0, 1) := by decide +kernel
theorem dX5_init_19 : decode cX5_init 19 = .ok (.iconst 3, 1) := by decide +kernel
theorem dX5_init_20 : decode cX5_init 20 = .ok (.newarray .int, 2) := by decide +kernel
theorem dX5_init_22 : decode cX5_init 22 = .ok (.putfield 18, 3) := by decide +kernel
theorem dX5_init_25 : decode cX5_init 25 = .ok (.aload_n 0, 1) := by decide +kernel
theorem dX5_init_26 : decode cX5_init 26 = .ok (.iconst 3, 1) := by decide +kernel
theorem dX5_init_27 : decode cX5_init 27 = .ok (.newarray .int, 2) := by decide +kernel
theorem dX5_init_29 : decode cX5_init 29 = .ok (.putfield 21, 3) := by decide +kernel
theorem dX5_init_32 : decode cX5_init 32 = .ok (.aload_n 0, 1) := by decide +kernel
theorem dX5_init_33 : decode cX5_init 33 = .ok (.iconst 3, 1) := by decide +kernel
theorem dX5_init_34 : decode cX5_init 34 = .ok (.newarray .int, 2) := by decide +kernel
theorem dX5_init_36 : decode cX5_init 36 = .ok (.putfield 24, 3) := by decide +kernel
theorem dX5_init_39 : decode cX5_init 39 = .ok (.aload_n 0, 1) := by decide +kernel
theorem dX5_init_40 : decode cX5_init 40 = .ok (.iconst 3, 1) := by decide +kernel
theorem dX5_init_41 : decode cX5_init 41 = .ok (.newarray .int, 2) := by decide +kernel
theorem dX5_init_43 : decode cX5_init 43 = .ok (.putfield 27, 3) := by decide +kernel
theorem dX5_init_46 : decode cX5_init 46 = .ok (.aload_n 0, 1) := by decide +kernel
theorem dX5_init_47 : decode cX5_init 47 = .ok (.iconst 3, 1) := by decide +kernel
theorem dX5_init_48 : decode cX5_init 48 = .ok (.newarray .int, 2) := by decide +kernel
theorem dX5_init_50 : decode cX5_init 50 = .ok (.putfield 30, 3) := by decide +kernel
theorem dX5_init_53 : decode cX5_init 53 = .ok (.aload_n 0, 1) := by decide +kernel
theorem dX5_init_54 : decode cX5_init 54 = .ok (.iconst 3, 1) := by decide +kernel
theorem dX5_init_55 : decode cX5_init 55 = .ok (.newarray .int, 2) := by decide +kernel
theorem dX5_init_57 : decode cX5_init 57 = .ok (.putfield 33, 3) := by decide +kernel
theorem dX5_init_60 : decode cX5_init 60 = .ok (.aload_n 0, 1) := by decide +kernel
theorem dX5_init_61 : decode cX5_init 61 = .ok (.iconst 3, 1) := by decide +kernel
theorem dX5_init_62 : decode cX5_init 62 = .ok (.newarray .int, 2) := by decide +kernel
theorem dX5_init_64 : decode cX5_init 64 = .ok (.putfield 36, 3) := by decide +kernel
theorem dX5_init_67 : decode cX5_init 67 = .ok (.aload_n 0, 1) := by decide +kernel
theorem dX5_init_68 : decode cX5_init 68 = .ok (.iconst 3, 1) := by decide +kernel
theorem dX5_init_69 : decode cX5_init 69 = .ok (.newarray .int, 2) := by decide +kernel
theorem dX5_init_71 : decode cX5_init 71 = .ok (.putfield 39, 3) := by decide +kernel
theorem dX5_init_74 : decode cX5_init 74 = .ok (.return_, 1) := by decide +kernel
set_option maxHeartbeats 8000000 in
set_option maxRecDepth 20000 in
theorem m_X5_init {g : GC} {l : Launch} {wl : List va_E} {p : Nat}  (h0 : wl[p]? = some (.inr (5, [.null, .null, .null, .null, .null, .null, .null, .null, .null, .null, .int 0, .int 0, .int 0, .int 0, .int 0]))) (hcl : ∀ e ∈ wl, rbE wl.length e) (hAs : ∀ v ∈ ([.ref p] : List Value), rbV wl.length v) (ad : Nat → Nat) : MC (g.1, g.2.1, g.2.2.1, ad, wl.length) l yX5_init cX5_init 1 1 30 10 30 [.ref p] wl (wS wl p 5 [.ref (wl.length + 0), .ref (wl.length + 1), .ref (wl.length + 2), .ref (wl.length + 3), .ref (wl.length + 4), .ref (wl.length + 5), .ref (wl.length + 6), .ref (wl.length + 7), .ref (wl.length + 8), .ref (wl.length + 9), .int 0, .int 0, .int 0, .int 0, .int 0] [.inl (0, 3, .inl (fun _ => 0)), .inl (0, 3, .inl (fun _ => 0)), .inl (0, 3, .inl (fun _ => 0)), .inl (0, 3, .inl (fun _ => 0)), .inl (0, 3, .inl (fun _ => 0)), .inl (0, 3, .inl (fun _ => 0)), .inl (0, 3, .inl (fun _ => 0)), .inl (0, 3, .inl (fun _ => 0)), .inl (0, 3, .inl (fun _ => 0)), .inl (0, 3, .inl (fun _ => 0))]) := by
  have hp : p < wl.length := (List.getElem?_eq_some_iff.mp h0).1
  refine met_ofC (by decide) (Nat.le_of_ble_eq_true rfl) (by intro v hv; simp only [List.mem_cons, List.not_mem_nil, or_false] at hv; subst hv; rfl) rfl hcl hAs ?_
  intro f hfl cx hr hl hin hQ
  subst hfl
  generalize hg : ((g.1, g.2.1, g.2.2.1, ad, wl.length) : GC) = g9 at cx hQ ⊢
  have e0 := wS_0 h0
  show KC g9 f [] 1 0 0 0 _ [] wl
  suffices hk : KC g9 f [] 1 0 0 0 [some (.ref p)] [] (wS wl p 5 [.null, .null, .null, .null, .null, .null, .null, .null, .null, .null, .int 0, .int 0, .int 0, .int 0, .int 0] []) from e0 ▸ hk
  clear e0 hg
  refine c_aload_n cx dX5_init_0 rfl rfl ?_
  refine c_objInit cx oj_X5 (by exact oi_i) oi_c (by decide) (by decide) (Nat.le_of_ble_eq_true rfl) dX5_init_1 ?_
  refine c_aload_n cx dX5_init_4 rfl rfl ?_
  refine c_iconst (v := (3 : Int32)) cx dX5_init_5 (by decide +kernel) ?_
  refine s_newI (N := 3) cx (by decide) (by decide) (by decide) ac_I (by decide) (by decide) dX5_init_6 ?_
  show KC g9 f [] 1 1 3 8 [some (.ref p)] [.ref (wl.length + 0), .ref p] (wS wl p 5 [.null, .null, .null, .null, .null, .null, .null, .null, .null, .null, .int 0, .int 0, .int 0, .int 0, .int 0] [.inl (0, 3, .inl (fun _ => 0))])
  refine s_putF hp cx hin ff_X5_9 (Nat.le_of_ble_eq_true rfl) (fun _ => rfl) (fun _ => rfl) dX5_init_8 ?_
  show KC g9 f [] 1 1 3 11 [some (.ref p)] [] (wS wl p 5 [.ref (wl.length + 0), .null, .null, .null, .null, .null, .null, .null, .null, .null, .int 0, .int 0, .int 0, .int 0, .int 0] [.inl (0, 3, .inl (fun _ => 0))])
  refine c_aload_n cx dX5_init_11 rfl rfl ?_
  refine c_iconst (v := (3 : Int32)) cx dX5_init_12 (by decide +kernel) ?_
  refine s_newI (N := 3) cx (by decide) (by decide) (by decide) ac_I (by decide) (by decide) dX5_init_13 ?_
  show KC g9 f [] 1 2 6 15 [some (.ref p)] [.ref (wl.length + 1), .ref p] (wS wl p 5 [.ref (wl.length + 0), .null, .null, .null, .null, .null, .null, .null, .null, .null, .int 0, .int 0, .int 0, .int 0, .int 0] [.inl (0, 3, .inl (fun _ => 0)), .inl (0, 3, .inl (fun _ => 0))])
  refine s_putF hp cx hin ff_X5_15 (Nat.le_of_ble_eq_true rfl) (fun _ => rfl) (fun _ => rfl) dX5_init_15 ?_
  show KC g9 f [] 1 2 6 18 [some (.ref p)] [] (wS wl p 5 [.ref (wl.length + 0), .ref (wl.length + 1), .null, .null, .null, .null, .null, .null, .null, .null, .int 0, .int 0, .int 0, .int 0, .int 0] [.inl (0, 3, .inl (fun _ => 0)), .inl (0, 3, .inl (fun _ => 0))])
  refine c_aload_n cx dX5_init_18 rfl rfl ?_
  refine c_iconst (v := (3 : Int32)) cx dX5_init_19 (by decide +kernel) ?_
  refine s_newI (N := 3) cx (by decide) (by decide) (by decide) ac_I (by decide) (by decide) dX5_init_20 ?_
  show KC g9 f [] 1 3 9 22 [some (.ref p)] [.ref (wl.length + 2), .ref p] (wS wl p 5 [.ref (wl.length + 0), .ref (wl.length + 1), .null, .null, .null, .null, .null, .null, .null, .null, .int 0, .int 0, .int 0, .int 0, .int 0] [.inl (0, 3, .inl (fun _ => 0)), .inl (0, 3, .inl (fun _ => 0)), .inl (0, 3, .inl (fun _ => 0))])
  refine s_putF hp cx hin ff_X5_18 (Nat.le_of_ble_eq_true rfl) (fun _ => rfl) (fun _ => rfl) dX5_init_22 ?_
  show KC g9 f [] 1 3 9 25 [some (.ref p)] [] (wS wl p 5 [.ref (wl.length + 0), .ref (wl.length + 1), .ref (wl.length + 2), .null, .null, .null, .null, .null, .null, .null, .int 0, .int 0, .int 0, .int 0, .int 0] [.inl (0, 3, .inl (fun _ => 0)), .inl (0, 3, .inl (fun _ => 0)), .inl (0, 3, .inl (fun _ => 0))])
  refine c_aload_n cx dX5_init_25 rfl rfl ?_
  refine c_iconst (v := (3 : Int32)) cx dX5_init_26 (by decide +kernel) ?_
  refine s_newI (N := 3) cx (by decide) (by decide) (by decide) ac_I (by decide) (by decide) dX5_init_27 ?_
  show KC g9 f [] 1 4 12 29 [some (.ref p)] [.ref (wl.length + 3), .ref p] (wS wl p 5 [.ref (wl.length + 0), .ref (wl.length + 1), .ref (wl.length + 2), .null, .null, .null, .null, .null, .null, .null, .int 0, .int 0, .int 0, .int 0, .int 0] [.inl (0, 3, .inl (fun _ => 0)), .inl (0, 3, .inl (fun _ => 0)), .inl (0, 3, .inl (fun _ => 0)), .inl (0, 3, .inl (fun _ => 0))])
  refine s_putF hp cx hin ff_X5_21 (Nat.le_of_ble_eq_true rfl) (fun _ => rfl) (fun _ => rfl) dX5_init_29 ?_
  show KC g9 f [] 1 4 12 32 [some (.ref p)] [] (wS wl p 5 [.ref (wl.length + 0), .ref (wl.length + 1), .ref (wl.length + 2), .ref (wl.length + 3), .null, .null, .null, .null, .null, .null, .int 0, .int 0, .int 0, .int 0, .int 0] [.inl (0, 3, .inl (fun _ => 0)), .inl (0, 3, .inl (fun _ => 0)), .inl (0, 3, .inl (fun _ => 0)), .inl (0, 3, .inl (fun _ => 0))])
  refine c_aload_n cx dX5_init_32 rfl rfl ?_
  refine c_iconst (v := (3 : Int32)) cx dX5_init_33 (by decide +kernel) ?_
  refine s_newI (N := 3) cx (by decide) (by decide) (by decide) ac_I (by decide) (by decide) dX5_init_34 ?_
  show KC g9 f [] 1 5 15 36 [some (.ref p)] [.ref (wl.length + 4), .ref p] (wS wl p 5 [.ref (wl.length + 0), .ref (wl.length + 1), .ref (wl.length + 2), .ref (wl.length + 3), .null, .null, .null, .null, .null, .null, .int 0, .int 0, .int 0, .int 0, .int 0] [.inl (0, 3, .inl (fun _ => 0)), .inl (0, 3, .inl (fun _ => 0)), .inl (0, 3, .inl (fun _ => 0)), .inl (0, 3, .inl (fun _ => 0)), .inl (0, 3, .inl (fun _ => 0))])
  refine s_putF hp cx hin ff_X5_24 (Nat.le_of_ble_eq_true rfl) (fun _ => rfl) (fun _ => rfl) dX5_init_36 ?_
  show KC g9 f [] 1 5 15 39 [some (.ref p)] [] (wS wl p 5 [.ref (wl.length + 0), .ref (wl.length + 1), .ref (wl.length + 2), .ref (wl.length + 3), .ref (wl.length + 4), .null, .null, .null, .null, .null, .int 0, .int 0, .int 0, .int 0, .int 0] [.inl (0, 3, .inl (fun _ => 0)), .inl (0, 3, .inl (fun _ => 0)), .inl (0, 3, .inl (fun _ => 0)), .inl (0, 3, .inl (fun _ => 0)), .inl (0, 3, .inl (fun _ => 0))])
  refine c_aload_n cx dX5_init_39 rfl rfl ?_
  refine c_iconst (v := (3 : Int32)) cx dX5_init_40 (by decide +kernel) ?_
  refine s_newI (N := 3) cx (by decide) (by decide) (by decide) ac_I (by decide) (by decide) dX5_init_41 ?_
  show KC g9 f [] 1 6 18 43 [some (.ref p)] [.ref (wl.length + 5), .ref p] (wS wl p 5 [.ref (wl.length + 0), .ref (wl.length + 1), .ref (wl.length + 2), .ref (wl.length + 3), .ref (wl.length + 4), .null, .null, .null, .null, .null, .int 0, .int 0, .int 0, .int 0, .int 0] [.inl (0, 3, .inl (fun _ => 0)), .inl (0, 3, .inl (fun _ => 0)), .inl (0, 3, .inl (fun _ => 0)), .inl (0, 3, .inl (fun _ => 0)), .inl (0, 3, .inl (fun _ => 0)), .inl (0, 3, .inl (fun _ => 0))])
  refine s_putF hp cx hin ff_X5_27 (Nat.le_of_ble_eq_true rfl) (fun _ => rfl) (fun _ => rfl) dX5_init_43 ?_
  show KC g9 f [] 1 6 18 46 [some (.ref p)] [] (wS wl p 5 [.ref (wl.length + 0), .ref (wl.length + 1), .ref (wl.length + 2), .ref (wl.length + 3), .ref (wl.length + 4), .ref (wl.length + 5), .null, .null, .null, .null, .int 0, .int 0, .int 0, .int 0, .int 0] [.inl (0, 3, .inl (fun _ => 0)), .inl (0, 3, .inl (fun _ => 0)), .inl (0, 3, .inl (fun _ => 0)), .inl (0, 3, .inl (fun _ => 0)), .inl (0, 3, .inl (fun _ => 0)), .inl (0, 3, .inl (fun _ => 0))])
  refine c_aload_n cx dX5_init_46 rfl rfl ?_
  refine c_iconst (v := (3 : Int32)) cx dX5_init_47 (by decide +kernel) ?_
  refine s_newI (N := 3) cx (by decide) (by decide) (by decide) ac_I (by decide) (by decide) dX5_init_48 ?_
  show KC g9 f [] 1 7 21 50 [some (.ref p)] [.ref (wl.length + 6), .ref p] (wS wl p 5 [.ref (wl.length + 0), .ref (wl.length + 1), .ref (wl.length + 2), .ref (wl.length + 3), .ref (wl.length + 4), .ref (wl.length + 5), .null, .null, .null, .null, .int 0, .int 0, .int 0, .int 0, .int 0] [.inl (0, 3, .inl (fun _ => 0)), .inl (0, 3, .inl (fun _ => 0)), .inl (0, 3, .inl (fun _ => 0)), .inl (0, 3, .inl (fun _ => 0)), .inl (0, 3, .inl (fun _ => 0)), .inl (0, 3, .inl (fun _ => 0)), .inl (0, 3, .inl (fun _ => 0))])
  refine s_putF hp cx hin ff_X5_30 (Nat.le_of_ble_eq_true rfl) (fun _ => rfl) (fun _ => rfl) dX5_init_50 ?_
  show KC g9 f [] 1 7 21 53 [some (.ref p)] [] (wS wl p 5 [.ref (wl.length + 0), .ref (wl.length + 1), .ref (wl.length + 2), .ref (wl.length + 3), .ref (wl.length + 4), .ref (wl.length + 5), .ref (wl.length + 6), .null, .null, .null, .int 0, .int 0, .int 0, .int 0, .int 0] [.inl (0, 3, .inl (fun _ => 0)), .inl (0, 3, .inl (fun _ => 0)), .inl (0, 3, .inl (fun _ => 0)), .inl (0, 3, .inl (fun _ => 0)), .inl (0, 3, .inl (fun _ => 0)), .inl (0, 3, .inl (fun _ => 0)), .inl (0, 3, .inl (fun _ => 0))])
  refine c_aload_n cx dX5_init_53 rfl rfl ?_
  refine c_iconst (v := (3 : Int32)) cx dX5_init_54 (by decide +kernel) ?_
  refine s_newI (N := 3) cx (by decide) (by decide) (by decide) ac_I (by decide) (by decide) dX5_init_55 ?_
  show KC g9 f [] 1 8 24 57 [some (.ref p)] [.ref (wl.length + 7), .ref p] (wS wl p 5 [.ref (wl.length + 0), .ref (wl.length + 1), .ref (wl.length + 2), .ref (wl.length + 3), .ref (wl.length + 4), .ref (wl.length + 5), .ref (wl.length + 6), .null, .null, .null, .int 0, .int 0, .int 0, .int 0, .int 0] [.inl (0, 3, .inl (fun _ => 0)), .inl (0, 3, .inl (fun _ => 0)), .inl (0, 3, .inl (fun _ => 0)), .inl (0, 3, .inl (fun _ => 0)), .inl (0, 3, .inl (fun _ => 0)), .inl (0, 3, .inl (fun _ => 0)), .inl (0, 3, .inl (fun _ => 0)), .inl (0, 3, .inl (fun _ => 0))])
  refine s_putF hp cx hin ff_X5_33 (Nat.le_of_ble_eq_true rfl) (fun _ => rfl) (fun _ => rfl) dX5_init_57 ?_
  show KC g9 f [] 1 8 24 60 [some (.ref p)] [] (wS wl p 5 [.ref (wl.length + 0), .ref (wl.length + 1), .ref (wl.length + 2), .ref (wl.length + 3), .ref (wl.length + 4), .ref (wl.length + 5), .ref (wl.length + 6), .ref (wl.length + 7), .null, .null, .int 0, .int 0, .int 0, .int 0, .int 0] [.inl (0, 3, .inl (fun _ => 0)), .inl (0, 3, .inl (fun _ => 0)), .inl (0, 3, .inl (fun _ => 0)), .inl (0, 3, .inl (fun _ => 0)), .inl (0, 3, .inl (fun _ => 0)), .inl (0, 3, .inl (fun _ => 0)), .inl (0, 3, .inl (fun _ => 0)), .inl (0, 3, .inl (fun _ => 0))])
  refine c_aload_n cx dX5_init_60 rfl rfl ?_
  refine c_iconst (v := (3 : Int32)) cx dX5_init_61 (by decide +kernel) ?_
  refine s_newI (N := 3) cx (by decide) (by decide) (by decide) ac_I (by decide) (by decide) dX5_init_62 ?_
  show KC g9 f [] 1 9 27 64 [some (.ref p)] [.ref (wl.length + 8), .ref p] (wS wl p 5 [.ref (wl.length + 0), .ref (wl.length + 1), .ref (wl.length + 2), .ref (wl.length + 3), .ref (wl.length + 4), .ref (wl.length + 5), .ref (wl.length + 6), .ref (wl.length + 7), .null, .null, .int 0, .int 0, .int 0, .int 0, .int 0] [.inl (0, 3, .inl (fun _ => 0)), .inl (0, 3, .inl (fun _ => 0)), .inl (0, 3, .inl (fun _ => 0)), .inl (0, 3, .inl (fun _ => 0)), .inl (0, 3, .inl (fun _ => 0)), .inl (0, 3, .inl (fun _ => 0)), .inl (0, 3, .inl (fun _ => 0)), .inl (0, 3, .inl (fun _ => 0)), .inl (0, 3, .inl (fun _ => 0))])
  refine s_putF hp cx hin ff_X5_36 (Nat.le_of_ble_eq_true rfl) (fun _ => rfl) (fun _ => rfl) dX5_init_64 ?_
  show KC g9 f [] 1 9 27 67 [some (.ref p)] [] (wS wl p 5 [.ref (wl.length + 0), .ref (wl.length + 1), .ref (wl.length + 2), .ref (wl.length + 3), .ref (wl.length + 4), .ref (wl.length + 5), .ref (wl.length + 6), .ref (wl.length + 7), .ref (wl.length + 8), .null, .int 0, .int 0, .int 0, .int 0, .int 0] [.inl (0, 3, .inl (fun _ => 0)), .inl (0, 3, .inl (fun _ => 0)), .inl (0, 3, .inl (fun _ => 0)), .inl (0, 3, .inl (fun _ => 0)), .inl (0, 3, .inl (fun _ => 0)), .inl (0, 3, .inl (fun _ => 0)), .inl (0, 3, .inl (fun _ => 0)), .inl (0, 3, .inl (fun _ => 0)), .inl (0, 3, .inl (fun _ => 0))])
  refine c_aload_n cx dX5_init_67 rfl rfl ?_
  refine c_iconst (v := (3 : Int32)) cx dX5_init_68 (by decide +kernel) ?_
  refine s_newI (N := 3) cx (by decide) (by decide) (by decide) ac_I (by decide) (by decide) dX5_init_69 ?_
  show KC g9 f [] 1 10 30 71 [some (.ref p)] [.ref (wl.length + 9), .ref p] (wS wl p 5 [.ref (wl.length + 0), .ref (wl.length + 1), .ref (wl.length + 2), .ref (wl.length + 3), .ref (wl.length + 4), .ref (wl.length + 5), .ref (wl.length + 6), .ref (wl.length + 7), .ref (wl.length + 8), .null, .int 0, .int 0, .int 0, .int 0, .int 0] [.inl (0, 3, .inl (fun _ => 0)), .inl (0, 3, .inl (fun _ => 0)), .inl (0, 3, .inl (fun _ => 0)), .inl (0, 3, .inl (fun _ => 0)), .inl (0, 3, .inl (fun _ => 0)), .inl (0, 3, .inl (fun _ => 0)), .inl (0, 3, .inl (fun _ => 0)), .inl (0, 3, .inl (fun _ => 0)), .inl (0, 3, .inl (fun _ => 0)), .inl (0, 3, .inl (fun _ => 0))])
  refine s_putF hp cx hin ff_X5_39 (Nat.le_of_ble_eq_true rfl) (fun _ => rfl) (fun _ => rfl) dX5_init_71 ?_
  show KC g9 f [] 1 10 30 74 [some (.ref p)] [] (wS wl p 5 [.ref (wl.length + 0), .ref (wl.length + 1), .ref (wl.length + 2), .ref (wl.length + 3), .ref (wl.length + 4), .ref (wl.length + 5), .ref (wl.length + 6), .ref (wl.length + 7), .ref (wl.length + 8), .ref (wl.length + 9), .int 0, .int 0, .int 0, .int 0, .int 0] [.inl (0, 3, .inl (fun _ => 0)), .inl (0, 3, .inl (fun _ => 0)), .inl (0, 3, .inl (fun _ => 0)), .inl (0, 3, .inl (fun _ => 0)), .inl (0, 3, .inl (fun _ => 0)), .inl (0, 3, .inl (fun _ => 0)), .inl (0, 3, .inl (fun _ => 0)), .inl (0, 3, .inl (fun _ => 0)), .inl (0, 3, .inl (fun _ => 0)), .inl (0, 3, .inl (fun _ => 0))])
  exact c_vret cx hr hl hQ (by decide) (by decide) rfl dX5_init_74
theorem dX6_init_0 : decode cX6_init 0 = .ok (.aload_n 0, 1) := by decide +kernel
theorem dX6_init_1 : decode cX6_init 1 = .ok (.invokespecial 3, 3) := by decide +kernel
theorem dX6_init_4 : decode cX6_init 4 = .ok (.aload_n 0, 1) := by decide +kernel
theorem dX6_init_5 : decode cX6_init 5 = .ok (.iconst 3, 1) := by decide +kernel
theorem dX6_init_6 : decode cX6_init 6 = .ok (.newarray .int, 2) := by decide +kernel
theorem dX6_init_8 : decode cX6_init 8 = .ok (.putfield 9, 3) := by decide +kernel
theorem dX6_init_11 : decode cX6_init 11 = .ok (.aload_n 0, 1) := by decide +kernel
theorem dX6_init_12 : decode cX6_init 12 = .ok (.iconst 4, 1) := by decide +kernel
theorem dX6_init_13 : decode cX6_init 13 = .ok (.newarray .int, 2) := by decide +kernel
theorem dX6_init_15 : decode cX6_init 15 = .ok (.putfield 15, 3) := by decide +kernel
theorem dX6_init_18 : decode cX6_init 18 = .ok (.aload_n 0, 1) := by decide +kernel
theorem dX6_init_19 : decode cX6_init 19 = .ok (.iconst 3, 1) := by decide +kernel
theorem dX6_init_20 : decode cX6_init 20 = .ok (.newarray .int, 2) := by decide +kernel
theorem dX6_init_22 : decode cX6_init 22 = .ok (.putfield 18, 3) := by decide +kernel
theorem dX6_init_25 : decode cX6_init 25 = .ok (.aload_n 0, 1) := by decide +kernel
theorem dX6_init_26 : decode cX6_init 26 = .ok (.iconst 3, 1) := by decide +kernel
theorem dX6_init_27 : decode cX6_init 27 = .ok (.newarray .int, 2) := by decide +kernel
theorem dX6_init_29 : decode cX6_init 29 = .ok (.putfield 21, 3) := by decide +kernel
theorem dX6_init_32 : decode cX6_init 32 = .ok (.aload_n 0, 1) := by decide +kernel
theorem dX6_init_33 : decode cX6_init 33 = .ok (.aload_n 1, 1) := by decide +kernel
theorem dX6_init_34 : decode cX6_init 34 = .ok (.putfield 24, 3) := by decide +kernel
theorem dX6_init_37 : decode cX6_init 37 = .ok (.aload_n 0, 1) := by decide +kernel
theorem dX6_init_38 : decode cX6_init 38 = .ok (.aload_n 2, 1) := by decide +kernel
theorem dX6_init_39 : decode cX6_init 39 = .ok (.putfield 28, 3) := by decide +kernel
theorem dX6_init_42 : decode cX6_init 42 = .ok (.aload_n 0, 1) := by decide +kernel
theorem dX6_init_43 : decode cX6_init 43 = .ok (.new 32, 3) := by decide +kernel
theorem dX6_init_46 : decode cX6_init 46 = .ok (.dup, 1) := by decide +kernel
theorem dX6_init_47 : decode cX6_init 47 = .ok (.aload_n 1, 1) := by decide +kernel
theorem dX6_init_48 : decode cX6_init 48 = .ok (.aload_n 2, 1) := by decide +kernel
theorem dX6_init_49 : decode cX6_init 49 = .ok (.invokespecial 34, 3) := by decide +kernel
theorem dX6_init_52 : decode cX6_init 52 = .ok (.putfield 37, 3) := by decide +kernel
theorem dX6_init_55 : decode cX6_init 55 = .ok (.return_, 1) := by decide +kernel
set_option maxHeartbeats 8000000 in
set_option maxRecDepth 20000 in
theorem m_X6_init {g : GC} {l : Launch} {wl : List va_E} {p : Nat} {p1 : Nat} {p2 : Nat} (h0 : wl[p]? = some (.inr (6, [.null, .null, .null, .null, .null, .null, .null, .int 0, .int 0]))) (hcl : ∀ e ∈ wl, rbE wl.length e) (hAs : ∀ v ∈ ([.ref p, .ref p1, .ref p2] : List Value), rbV wl.length v) (ad : Nat → Nat) : MC (g.1, g.2.1, g.2.2.1, ad, wl.length) l yX6_init cX6_init 3 2 52 6 19 [.ref p, .ref p1, .ref p2] wl (wS wl p 6 [.ref p1, .ref p2, .ref (wl.length + 4), .ref (wl.length + 0), .ref (wl.length + 1), .ref (wl.length + 2), .ref (wl.length + 3), .int 0, .int 0] [.inl (0, 3, .inl (fun _ => 0)), .inl (0, 4, .inl (fun _ => 0)), .inl (0, 3, .inl (fun _ => 0)), .inl (0, 3, .inl (fun _ => 0)), .inr (1, [.ref p1, .ref p2, .ref (wl.length + 5)]), .inl (0, 3, .inl (fun _ => 0))]) := by
  have hp : p < wl.length := (List.getElem?_eq_some_iff.mp h0).1
  refine met_ofC (by decide) (Nat.le_of_ble_eq_true rfl) (by intro v hv; simp only [List.mem_cons, List.not_mem_nil, or_false] at hv; rcases hv with rfl | rfl | rfl <;> rfl) rfl hcl hAs ?_
  intro f hfl cx hr hl hin hQ
  subst hfl
  generalize hg : ((g.1, g.2.1, g.2.2.1, ad, wl.length) : GC) = g9 at cx hQ ⊢
  have e0 := wS_0 h0
  show KC g9 f [] 3 0 0 0 _ [] wl
  suffices hk : KC g9 f [] 3 0 0 0 [some (.ref p), some (.ref p1), some (.ref p2)] [] (wS wl p 6 [.null, .null, .null, .null, .null, .null, .null, .int 0, .int 0] []) from e0 ▸ hk
  clear e0 hg
  refine c_aload_n cx dX6_init_0 rfl rfl ?_
  refine c_objInit cx oj_X6 (by exact oi_i) oi_c (by decide) (by decide) (Nat.le_of_ble_eq_true rfl) dX6_init_1 ?_
  refine c_aload_n cx dX6_init_4 rfl rfl ?_
  refine c_iconst (v := (3 : Int32)) cx dX6_init_5 (by decide +kernel) ?_
  refine s_newI (N := 3) cx (by decide) (by decide) (by decide) ac_I (by decide) (by decide) dX6_init_6 ?_
  show KC g9 f [] 3 1 3 8 [some (.ref p), some (.ref p1), some (.ref p2)] [.ref (wl.length + 0), .ref p] (wS wl p 6 [.null, .null, .null, .null, .null, .null, .null, .int 0, .int 0] [.inl (0, 3, .inl (fun _ => 0))])
  refine s_putF hp cx hin ff_X6_9 (Nat.le_of_ble_eq_true rfl) (fun _ => rfl) (fun _ => rfl) dX6_init_8 ?_
  show KC g9 f [] 3 1 3 11 [some (.ref p), some (.ref p1), some (.ref p2)] [] (wS wl p 6 [.null, .null, .null, .ref (wl.length + 0), .null, .null, .null, .int 0, .int 0] [.inl (0, 3, .inl (fun _ => 0))])
  refine c_aload_n cx dX6_init_11 rfl rfl ?_
  refine c_iconst (v := (4 : Int32)) cx dX6_init_12 (by decide +kernel) ?_
  refine s_newI (N := 4) cx (by decide) (by decide) (by decide) ac_I (by decide) (by decide) dX6_init_13 ?_
  show KC g9 f [] 3 2 7 15 [some (.ref p), some (.ref p1), some (.ref p2)] [.ref (wl.length + 1), .ref p] (wS wl p 6 [.null, .null, .null, .ref (wl.length + 0), .null, .null, .null, .int 0, .int 0] [.inl (0, 3, .inl (fun _ => 0)), .inl (0, 4, .inl (fun _ => 0))])
  refine s_putF hp cx hin ff_X6_15 (Nat.le_of_ble_eq_true rfl) (fun _ => rfl) (fun _ => rfl) dX6_init_15 ?_
  show KC g9 f [] 3 2 7 18 [some (.ref p), some (.ref p1), some (.ref p2)] [] (wS wl p 6 [.null, .null, .null, .ref (wl.length + 0), .ref (wl.length + 1), .null, .null, .int 0, .int 0] [.inl (0, 3, .inl (fun _ => 0)), .inl (0, 4, .inl (fun _ => 0))])
  refine c_aload_n cx dX6_init_18 rfl rfl ?_
  refine c_iconst (v := (3 : Int32)) cx dX6_init_19 (by decide +kernel) ?_
  refine s_newI (N := 3) cx (by decide) (by decide) (by decide) ac_I (by decide) (by decide) dX6_init_20 ?_
  show KC g9 f [] 3 3 10 22 [some (.ref p), some (.ref p1), some (.ref p2)] [.ref (wl.length + 2), .ref p] (wS wl p 6 [.null, .null, .null, .ref (wl.length + 0), .ref (wl.length + 1), .null, .null, .int 0, .int 0] [.inl (0, 3, .inl (fun _ => 0)), .inl (0, 4, .inl (fun _ => 0)), .inl (0, 3, .inl (fun _ => 0))])
  refine s_putF hp cx hin ff_X6_18 (Nat.le_of_ble_eq_true rfl) (fun _ => rfl) (fun _ => rfl) dX6_init_22 ?_
  show KC g9 f [] 3 3 10 25 [some (.ref p), some (.ref p1), some (.ref p2)] [] (wS wl p 6 [.null, .null, .null, .ref (wl.length + 0), .ref (wl.length + 1), .ref (wl.length + 2), .null, .int 0, .int 0] [.inl (0, 3, .inl (fun _ => 0)), .inl (0, 4, .inl (fun _ => 0)), .inl (0, 3, .inl (fun _ => 0))])
  refine c_aload_n cx dX6_init_25 rfl rfl ?_
  refine c_iconst (v := (3 : Int32)) cx dX6_init_26 (by decide +kernel) ?_
  refine s_newI (N := 3) cx (by decide) (by decide) (by decide) ac_I (by decide) (by decide) dX6_init_27 ?_
  show KC g9 f [] 3 4 13 29 [some (.ref p), some (.ref p1), some (.ref p2)] [.ref (wl.length + 3), .ref p] (wS wl p 6 [.null, .null, .null, .ref (wl.length + 0), .ref (wl.length + 1), .ref (wl.length + 2), .null, .int 0, .int 0] [.inl (0, 3, .inl (fun _ => 0)), .inl (0, 4, .inl (fun _ => 0)), .inl (0, 3, .inl (fun _ => 0)), .inl (0, 3, .inl (fun _ => 0))])
  refine s_putF hp cx hin ff_X6_21 (Nat.le_of_ble_eq_true rfl) (fun _ => rfl) (fun _ => rfl) dX6_init_29 ?_
  show KC g9 f [] 3 4 13 32 [some (.ref p), some (.ref p1), some (.ref p2)] [] (wS wl p 6 [.null, .null, .null, .ref (wl.length + 0), .ref (wl.length + 1), .ref (wl.length + 2), .ref (wl.length + 3), .int 0, .int 0] [.inl (0, 3, .inl (fun _ => 0)), .inl (0, 4, .inl (fun _ => 0)), .inl (0, 3, .inl (fun _ => 0)), .inl (0, 3, .inl (fun _ => 0))])
  refine c_aload_n cx dX6_init_32 rfl rfl ?_
  refine c_aload_n cx dX6_init_33 rfl rfl ?_
  refine s_putF hp cx hin ff_X6_24 (Nat.le_of_ble_eq_true rfl) (fun _ => rfl) (fun _ => rfl) dX6_init_34 ?_
  show KC g9 f [] 3 4 13 37 [some (.ref p), some (.ref p1), some (.ref p2)] [] (wS wl p 6 [.ref p1, .null, .null, .ref (wl.length + 0), .ref (wl.length + 1), .ref (wl.length + 2), .ref (wl.length + 3), .int 0, .int 0] [.inl (0, 3, .inl (fun _ => 0)), .inl (0, 4, .inl (fun _ => 0)), .inl (0, 3, .inl (fun _ => 0)), .inl (0, 3, .inl (fun _ => 0))])
  refine c_aload_n cx dX6_init_37 rfl rfl ?_
  refine c_aload_n cx dX6_init_38 rfl rfl ?_
  refine s_putF hp cx hin ff_X6_28 (Nat.le_of_ble_eq_true rfl) (fun _ => rfl) (fun _ => rfl) dX6_init_39 ?_
  show KC g9 f [] 3 4 13 42 [some (.ref p), some (.ref p1), some (.ref p2)] [] (wS wl p 6 [.ref p1, .ref p2, .null, .ref (wl.length + 0), .ref (wl.length + 1), .ref (wl.length + 2), .ref (wl.length + 3), .int 0, .int 0] [.inl (0, 3, .inl (fun _ => 0)), .inl (0, 4, .inl (fun _ => 0)), .inl (0, 3, .inl (fun _ => 0)), .inl (0, 3, .inl (fun _ => 0))])
  refine c_aload_n cx dX6_init_42 rfl rfl ?_
  refine s_new (c2 := 1) (n := 3) (f2 := [.null, .null, .null]) cx nw_X6_32 (by intro v hv; simp at hv; rcases hv with rfl <;> trivial) (by decide) (by decide) dX6_init_43 ?_
  show KC g9 f [] 3 5 16 46 [some (.ref p), some (.ref p1), some (.ref p2)] [.ref (wl.length + 4), .ref p] (wS wl p 6 [.ref p1, .ref p2, .null, .ref (wl.length + 0), .ref (wl.length + 1), .ref (wl.length + 2), .ref (wl.length + 3), .int 0, .int 0] [.inl (0, 3, .inl (fun _ => 0)), .inl (0, 4, .inl (fun _ => 0)), .inl (0, 3, .inl (fun _ => 0)), .inl (0, 3, .inl (fun _ => 0)), .inr (1, [.null, .null, .null])])
  refine c_dup cx dX6_init_46 rfl ?_
  refine c_aload_n cx dX6_init_47 rfl rfl ?_
  refine c_aload_n cx dX6_init_48 rfl rfl ?_
  refine c_callI (fr2 := 1) (lo2 := 30) (mc := 1) (ms := 3) (wl2 := wS wl p 6 [.ref p1, .ref p2, .null, .ref (wl.length + 0), .ref (wl.length + 1), .ref (wl.length + 2), .ref (wl.length + 3), .int 0, .int 0] [.inl (0, 3, .inl (fun _ => 0)), .inl (0, 4, .inl (fun _ => 0)), .inl (0, 3, .inl (fun _ => 0)), .inl (0, 3, .inl (fun _ => 0)), .inr (1, [.ref p1, .ref p2, .ref (wl.length + 5)]), .inl (0, 3, .inl (fun _ => 0))]) (As := [.ref p1, .ref p2]) (rest := [.ref (wl.length + 4), .ref p]) cx (fun h1 h2 ad => ?_) ci_X6_34 rfl rfl (Nat.le_of_ble_eq_true rfl) ⟨Nat.le_of_ble_eq_true rfl, Nat.le_of_ble_eq_true rfl⟩ (by decide) (by decide) dX6_init_49 ?_
  · have h := m_X1_init (g := g9) (l := f_l f) (p := wl.length + 4) (p1 := p1) (p2 := p2) (wS_new.trans rfl) h1 (fun v hv => h2 v hv) ad
    rw [wS_sub] at h
    simp only [wS_len] at h ⊢
    exact h
  show KC g9 f [] 3 6 19 52 [some (.ref p), some (.ref p1), some (.ref p2)] [.ref (wl.length + 4), .ref p] (wS wl p 6 [.ref p1, .ref p2, .null, .ref (wl.length + 0), .ref (wl.length + 1), .ref (wl.length + 2), .ref (wl.length + 3), .int 0, .int 0] [.inl (0, 3, .inl (fun _ => 0)), .inl (0, 4, .inl (fun _ => 0)), .inl (0, 3, .inl (fun _ => 0)), .inl (0, 3, .inl (fun _ => 0)), .inr (1, [.ref p1, .ref p2, .ref (wl.length + 5)]), .inl (0, 3, .inl (fun _ => 0))])
  refine s_putF hp cx hin ff_X6_37 (Nat.le_of_ble_eq_true rfl) (fun _ => rfl) (fun _ => rfl) dX6_init_52 ?_
  show KC g9 f [] 3 6 19 55 [some (.ref p), some (.ref p1), some (.ref p2)] [] (wS wl p 6 [.ref p1, .ref p2, .ref (wl.length + 4), .ref (wl.length + 0), .ref (wl.length + 1), .ref (wl.length + 2), .ref (wl.length + 3), .int 0, .int 0] [.inl (0, 3, .inl (fun _ => 0)), .inl (0, 4, .inl (fun _ => 0)), .inl (0, 3, .inl (fun _ => 0)), .inl (0, 3, .inl (fun _ => 0)), .inr (1, [.ref p1, .ref p2, .ref (wl.length + 5)]), .inl (0, 3, .inl (fun _ => 0))])
  exact c_vret cx hr hl hQ (by decide) (by decide) rfl dX6_init_55
theorem dX4_init_0 : decode cX4_init 0 = .ok (.aload_n 0, 1) := by decide +kernel
theorem dX4_init_1 : decode cX4_init 1 = .ok (.invokespecial 3, 3) := by decide +kernel
theorem dX4_init_4 : decode cX4_init 4 = .ok (.aload_n 0, 1) := by decide +kernel
theorem dX4_init_5 : decode cX4_init 5 = .ok (.aload_n 1, 1) := by decide +kernel
theorem dX4_init_6 : decode cX4_init 6 = .ok (.putfield 9, 3) := by decide +kernel
theorem dX4_init_9 : decode cX4_init 9 = .ok (.aload_n 0, 1) := by decide +kernel
theorem dX4_init_10 : decode cX4_init 10 = .ok (.aload_n 2, 1) := by decide +kernel
theorem dX4_init_11 : decode cX4_init 11 = .ok (.putfield 15, 3) := by decide +kernel
theorem dX4_init_14 : decode cX4_init 14 = .ok (.aload_n 0, 1) := by decide +kernel
theorem dX4_init_15 : decode cX4_init 15 = .ok (.aload_n 3, 1) := by decide +kernel
theorem dX4_init_16 : decode cX4_init 16 = .ok (.putfield 19, 3) := by decide +kernel
theorem dX4_init_19 : decode cX4_init 19 = .ok (.aload_n 0, 1) := by decide +kernel
theorem dX4_init_20 : decode cX4_init 20 = .ok (.new 23, 3) := by decide +kernel
theorem dX4_init_23 : decode cX4_init 23 = .ok (.dup, 1) := by decide +kernel
theorem dX4_init_24 : decode cX4_init 24 = .ok (.aload_n 1, 1) := by decide +kernel
theorem dX4_init_25 : decode cX4_init 25 = .ok (.aload_n 2, 1) := by decide +kernel
theorem dX4_init_26 : decode cX4_init 26 = .ok (.invokespecial 25, 3) := by decide +kernel
theorem dX4_init_29 : decode cX4_init 29 = .ok (.putfield 28, 3) := by decide +kernel
theorem dX4_init_32 : decode cX4_init 32 = .ok (.return_, 1) := by decide +kernel
set_option maxHeartbeats 8000000 in
set_option maxRecDepth 20000 in
theorem m_X4_init {g : GC} {l : Launch} {wl : List va_E} {p : Nat} {p1 : Nat} {p2 : Nat} {p3 : Nat} (h0 : wl[p]? = some (.inr (4, [.null, .null, .null, .null]))) (hcl : ∀ e ∈ wl, rbE wl.length e) (hAs : ∀ v ∈ ([.ref p, .ref p1, .ref p2, .ref p3] : List Value), rbV wl.length v) (ad : Nat → Nat) : MC (g.1, g.2.1, g.2.2.1, ad, wl.length) l yX4_init cX4_init 4 2 52 2 6 [.ref p, .ref p1, .ref p2, .ref p3] wl (wS wl p 4 [.ref p1, .ref p2, .ref p3, .ref (wl.length + 0)] [.inr (1, [.ref p1, .ref p2, .ref (wl.length + 1)]), .inl (0, 3, .inl (fun _ => 0))]) := by
  have hp : p < wl.length := (List.getElem?_eq_some_iff.mp h0).1
  refine met_ofC (by decide) (Nat.le_of_ble_eq_true rfl) (by intro v hv; simp only [List.mem_cons, List.not_mem_nil, or_false] at hv; rcases hv with rfl | rfl | rfl | rfl <;> rfl) rfl hcl hAs ?_
  intro f hfl cx hr hl hin hQ
  subst hfl
  generalize hg : ((g.1, g.2.1, g.2.2.1, ad, wl.length) : GC) = g9 at cx hQ ⊢
  have e0 := wS_0 h0
  show KC g9 f [] 4 0 0 0 _ [] wl
  suffices hk : KC g9 f [] 4 0 0 0 [some (.ref p), some (.ref p1), some (.ref p2), some (.ref p3)] [] (wS wl p 4 [.null, .null, .null, .null] []) from e0 ▸ hk
  clear e0 hg
  refine c_aload_n cx dX4_init_0 rfl rfl ?_
  refine c_objInit cx oj_X4 (by exact oi_i) oi_c (by decide) (by decide) (Nat.le_of_ble_eq_true rfl) dX4_init_1 ?_
  refine c_aload_n cx dX4_init_4 rfl rfl ?_
  refine c_aload_n cx dX4_init_5 rfl rfl ?_
  refine s_putF hp cx hin ff_X4_9 (Nat.le_of_ble_eq_true rfl) (fun _ => rfl) (fun _ => rfl) dX4_init_6 ?_
  show KC g9 f [] 4 0 0 9 [some (.ref p), some (.ref p1), some (.ref p2), some (.ref p3)] [] (wS wl p 4 [.ref p1, .null, .null, .null] [])
  refine c_aload_n cx dX4_init_9 rfl rfl ?_
  refine c_aload_n cx dX4_init_10 rfl rfl ?_
  refine s_putF hp cx hin ff_X4_15 (Nat.le_of_ble_eq_true rfl) (fun _ => rfl) (fun _ => rfl) dX4_init_11 ?_
  show KC g9 f [] 4 0 0 14 [some (.ref p), some (.ref p1), some (.ref p2), some (.ref p3)] [] (wS wl p 4 [.ref p1, .ref p2, .null, .null] [])
  refine c_aload_n cx dX4_init_14 rfl rfl ?_
  refine c_aload_n cx dX4_init_15 rfl rfl ?_
  refine s_putF hp cx hin ff_X4_19 (Nat.le_of_ble_eq_true rfl) (fun _ => rfl) (fun _ => rfl) dX4_init_16 ?_
  show KC g9 f [] 4 0 0 19 [some (.ref p), some (.ref p1), some (.ref p2), some (.ref p3)] [] (wS wl p 4 [.ref p1, .ref p2, .ref p3, .null] [])
  refine c_aload_n cx dX4_init_19 rfl rfl ?_
  refine s_new (c2 := 1) (n := 3) (f2 := [.null, .null, .null]) cx nw_X4_23 (by intro v hv; simp at hv; rcases hv with rfl <;> trivial) (by decide) (by decide) dX4_init_20 ?_
  show KC g9 f [] 4 1 3 23 [some (.ref p), some (.ref p1), some (.ref p2), some (.ref p3)] [.ref (wl.length + 0), .ref p] (wS wl p 4 [.ref p1, .ref p2, .ref p3, .null] [.inr (1, [.null, .null, .null])])
  refine c_dup cx dX4_init_23 rfl ?_
  refine c_aload_n cx dX4_init_24 rfl rfl ?_
  refine c_aload_n cx dX4_init_25 rfl rfl ?_
  refine c_callI (fr2 := 1) (lo2 := 30) (mc := 1) (ms := 3) (wl2 := wS wl p 4 [.ref p1, .ref p2, .ref p3, .null] [.inr (1, [.ref p1, .ref p2, .ref (wl.length + 1)]), .inl (0, 3, .inl (fun _ => 0))]) (As := [.ref p1, .ref p2]) (rest := [.ref (wl.length + 0), .ref p]) cx (fun h1 h2 ad => ?_) ci_X4_25 rfl rfl (Nat.le_of_ble_eq_true rfl) ⟨Nat.le_of_ble_eq_true rfl, Nat.le_of_ble_eq_true rfl⟩ (by decide) (by decide) dX4_init_26 ?_
  · have h := m_X1_init (g := g9) (l := f_l f) (p := wl.length + 0) (p1 := p1) (p2 := p2) (wS_new.trans rfl) h1 (fun v hv => h2 v hv) ad
    rw [wS_sub] at h
    simp only [wS_len] at h ⊢
    exact h
  show KC g9 f [] 4 2 6 29 [some (.ref p), some (.ref p1), some (.ref p2), some (.ref p3)] [.ref (wl.length + 0), .ref p] (wS wl p 4 [.ref p1, .ref p2, .ref p3, .null] [.inr (1, [.ref p1, .ref p2, .ref (wl.length + 1)]), .inl (0, 3, .inl (fun _ => 0))])
  refine s_putF hp cx hin ff_X4_28 (Nat.le_of_ble_eq_true rfl) (fun _ => rfl) (fun _ => rfl) dX4_init_29 ?_
  show KC g9 f [] 4 2 6 32 [some (.ref p), some (.ref p1), some (.ref p2), some (.ref p3)] [] (wS wl p 4 [.ref p1, .ref p2, .ref p3, .ref (wl.length + 0)] [.inr (1, [.ref p1, .ref p2, .ref (wl.length + 1)]), .inl (0, 3, .inl (fun _ => 0))])
  exact c_vret cx hr hl hQ (by decide) (by decide) rfl dX4_init_32
theorem dX3_init_0 : decode cX3_init 0 = .ok (.aload_n 0, 1) := by decide +kernel
theorem dX3_init_1 : decode cX3_init 1 = .ok (.invokespecial 3, 3) := by decide +kernel
theorem dX3_init_4 : decode cX3_init 4 = .ok (.aload_n 0, 1) := by decide +kernel
theorem dX3_init_5 : decode cX3_init 5 = .ok (.iconst 3, 1) := by decide +kernel
theorem dX3_init_6 : decode cX3_init 6 = .ok (.newarray .int, 2) := by decide +kernel
theorem dX3_init_8 : decode cX3_init 8 = .ok (.putfield 9, 3) := by decide +kernel
theorem dX3_init_11 : decode cX3_init 11 = .ok (.aload_n 0, 1) := by decide +kernel
theorem dX3_init_12 : decode cX3_init 12 = .ok (.aload_n 1, 1) := by decide +kernel
theorem dX3_init_13 : decode cX3_init 13 = .ok (.putfield 15, 3) := by decide +kernel
theorem dX3_init_16 : decode cX3_init 16 = .ok (.aload_n 0, 1) := by decide +kernel
theorem dX3_init_17 : decode cX3_init 17 = .ok (.aload_n 2, 1) := by decide +kernel
theorem dX3_init_18 : decode cX3_init 18 = .ok (.putfield 19, 3) := by decide +kernel
theorem dX3_init_21 : decode cX3_init 21 = .ok (.return_, 1) := by decide +kernel
set_option maxHeartbeats 8000000 in
set_option maxRecDepth 20000 in
theorem m_X3_init {g : GC} {l : Launch} {wl : List va_E} {p : Nat} {p1 : Nat} {p2 : Nat} (h0 : wl[p]? = some (.inr (3, [.null, .null, .null, .int 0]))) (hcl : ∀ e ∈ wl, rbE wl.length e) (hAs : ∀ v ∈ ([.ref p, .ref p1, .ref p2] : List Value), rbV wl.length v) (ad : Nat → Nat) : MC (g.1, g.2.1, g.2.2.1, ad, wl.length) l yX3_init cX3_init 3 1 30 1 3 [.ref p, .ref p1, .ref p2] wl (wS wl p 3 [.ref p1, .ref p2, .ref (wl.length + 0), .int 0] [.inl (0, 3, .inl (fun _ => 0))]) := by
  have hp : p < wl.length := (List.getElem?_eq_some_iff.mp h0).1
  refine met_ofC (by decide) (Nat.le_of_ble_eq_true rfl) (by intro v hv; simp only [List.mem_cons, List.not_mem_nil, or_false] at hv; rcases hv with rfl | rfl | rfl <;> rfl) rfl hcl hAs ?_
  intro f hfl cx hr hl hin hQ
  subst hfl
  generalize hg : ((g.1, g.2.1, g.2.2.1, ad, wl.length) : GC) = g9 at cx hQ ⊢
  have e0 := wS_0 h0
  show KC g9 f [] 3 0 0 0 _ [] wl
  suffices hk : KC g9 f [] 3 0 0 0 [some (.ref p), some (.ref p1), some (.ref p2)] [] (wS wl p 3 [.null, .null, .null, .int 0] []) from e0 ▸ hk
  clear e0 hg
  refine c_aload_n cx dX3_init_0 rfl rfl ?_
  refine c_objInit cx oj_X3 (by exact oi_i) oi_c (by decide) (by decide) (Nat.le_of_ble_eq_true rfl) dX3_init_1 ?_
  refine c_aload_n cx dX3_init_4 rfl rfl ?_
  refine c_iconst (v := (3 : Int32)) cx dX3_init_5 (by decide +kernel) ?_
  refine s_newI (N := 3) cx (by decide) (by decide) (by decide) ac_I (by decide) (by decide) dX3_init_6 ?_
  show KC g9 f [] 3 1 3 8 [some (.ref p), some (.ref p1), some (.ref p2)] [.ref (wl.length + 0), .ref p] (wS wl p 3 [.null, .null, .null, .int 0] [.inl (0, 3, .inl (fun _ => 0))])
  refine s_putF hp cx hin ff_X3_9 (Nat.le_of_ble_eq_true rfl) (fun _ => rfl) (fun _ => rfl) dX3_init_8 ?_
  show KC g9 f [] 3 1 3 11 [some (.ref p), some (.ref p1), some (.ref p2)] [] (wS wl p 3 [.null, .null, .ref (wl.length + 0), .int 0] [.inl (0, 3, .inl (fun _ => 0))])
  refine c_aload_n cx dX3_init_11 rfl rfl ?_
  refine c_aload_n cx dX3_init_12 rfl rfl ?_
  refine s_putF hp cx hin ff_X3_15 (Nat.le_of_ble_eq_true rfl) (fun _ => rfl) (fun _ => rfl) dX3_init_13 ?_
  show KC g9 f [] 3 1 3 16 [some (.ref p), some (.ref p1), some (.ref p2)] [] (wS wl p 3 [.ref p1, .null, .ref (wl.length + 0), .int 0] [.inl (0, 3, .inl (fun _ => 0))])
  refine c_aload_n cx dX3_init_16 rfl rfl ?_
  refine c_aload_n cx dX3_init_17 rfl rfl ?_
  refine s_putF hp cx hin ff_X3_19 (Nat.le_of_ble_eq_true rfl) (fun _ => rfl) (fun _ => rfl) dX3_init_18 ?_
  show KC g9 f [] 3 1 3 21 [some (.ref p), some (.ref p1), some (.ref p2)] [] (wS wl p 3 [.ref p1, .ref p2, .ref (wl.length + 0), .int 0] [.inl (0, 3, .inl (fun _ => 0))])
  exact c_vret cx hr hl hQ (by decide) (by decide) rfl dX3_init_21
