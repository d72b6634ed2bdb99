theorem dX2_walk_0 : decode cX2_walk 0 = .ok (.iconst 0, 1) := by decide +kernel
theorem dX2_walk_1 : decode cX2_walk 1 = .ok (.istore 5, 2) := by decide +kernel
theorem dX2_walk_3 : decode cX2_walk 3 = .ok (.iload 5, 2) := by decide +kernel
theorem dX2_walk_5 : decode cX2_walk 5 = .ok (.aload_n 0, 1) := by decide +kernel
theorem dX2_walk_6 : decode cX2_walk 6 = .ok (.getfield 36, 3) := by decide +kernel
theorem dX2_walk_9 : decode cX2_walk 9 = .ok (.if_icmp .ge 94, 3) := by decide +kernel
theorem dX2_walk_12 : decode cX2_walk 12 = .ok (.iload_n 3, 1) := by decide +kernel
theorem dX2_walk_13 : decode cX2_walk 13 = .ok (.invokestatic 53, 3) := by decide +kernel
theorem dX2_walk_16 : decode cX2_walk 16 = .ok (.bipush 6, 2) := by decide +kernel
theorem dX2_walk_18 : decode cX2_walk 18 = .ok (.if_icmp .ge 85, 3) := by decide +kernel
theorem dX2_walk_21 : decode cX2_walk 21 = .ok (.aload_n 0, 1) := by decide +kernel
theorem dX2_walk_22 : decode cX2_walk 22 = .ok (.iload 5, 2) := by decide +kernel
theorem dX2_walk_24 : decode cX2_walk 24 = .ok (.iload_n 2, 1) := by decide +kernel
theorem dX2_walk_25 : decode cX2_walk 25 = .ok (.invokevirtual 42, 3) := by decide +kernel
theorem dX2_walk_28 : decode cX2_walk 28 = .ok (.istore 6, 2) := by decide +kernel
theorem dX2_walk_30 : decode cX2_walk 30 = .ok (.iload 6, 2) := by decide +kernel
theorem dX2_walk_32 : decode cX2_walk 32 = .ok (.iconst (-1), 1) := by decide +kernel
theorem dX2_walk_33 : decode cX2_walk 33 = .ok (.if_icmp .eq 64, 3) := by decide +kernel
theorem dX2_walk_36 : decode cX2_walk 36 = .ok (.iload_n 3, 1) := by decide +kernel
theorem dX2_walk_37 : decode cX2_walk 37 = .ok (.iload 6, 2) := by decide +kernel
theorem dX2_walk_39 : decode cX2_walk 39 = .ok (.ishr, 1) := by decide +kernel
theorem dX2_walk_40 : decode cX2_walk 40 = .ok (.iconst 1, 1) := by decide +kernel
theorem dX2_walk_41 : decode cX2_walk 41 = .ok (.iand, 1) := by decide +kernel
theorem dX2_walk_42 : decode cX2_walk 42 = .ok (.ifCond .ne 55, 3) := by decide +kernel
theorem dX2_walk_45 : decode cX2_walk 45 = .ok (.aload_n 0, 1) := by decide +kernel
theorem dX2_walk_46 : decode cX2_walk 46 = .ok (.getfield 46, 3) := by decide +kernel
theorem dX2_walk_49 : decode cX2_walk 49 = .ok (.iload 5, 2) := by decide +kernel
theorem dX2_walk_51 : decode cX2_walk 51 = .ok (.ishr, 1) := by decide +kernel
theorem dX2_walk_52 : decode cX2_walk 52 = .ok (.iconst 1, 1) := by decide +kernel
theorem dX2_walk_53 : decode cX2_walk 53 = .ok (.iand, 1) := by decide +kernel
theorem dX2_walk_54 : decode cX2_walk 54 = .ok (.ifCond .eq 6, 3) := by decide +kernel
theorem dX2_walk_57 : decode cX2_walk 57 = .ok (.goto 40, 3) := by decide +kernel
theorem dX2_walk_60 : decode cX2_walk 60 = .ok (.aload_n 0, 1) := by decide +kernel
theorem dX2_walk_61 : decode cX2_walk 61 = .ok (.iload_n 1, 1) := by decide +kernel
theorem dX2_walk_62 : decode cX2_walk 62 = .ok (.iload 6, 2) := by decide +kernel
theorem dX2_walk_64 : decode cX2_walk 64 = .ok (.invokestatic 59, 3) := by decide +kernel
theorem dX2_walk_67 : decode cX2_walk 67 = .ok (.iload 4, 2) := by decide +kernel
theorem dX2_walk_69 : decode cX2_walk 69 = .ok (.iconst 1, 1) := by decide +kernel
theorem dX2_walk_70 : decode cX2_walk 70 = .ok (.iload 5, 2) := by decide +kernel
theorem dX2_walk_72 : decode cX2_walk 72 = .ok (.ishl, 1) := by decide +kernel
theorem dX2_walk_73 : decode cX2_walk 73 = .ok (.ior, 1) := by decide +kernel
theorem dX2_walk_74 : decode cX2_walk 74 = .ok (.invokevirtual 62, 3) := by decide +kernel
theorem dX2_walk_77 : decode cX2_walk 77 = .ok (.aload_n 0, 1) := by decide +kernel
theorem dX2_walk_78 : decode cX2_walk 78 = .ok (.iload_n 1, 1) := by decide +kernel
theorem dX2_walk_79 : decode cX2_walk 79 = .ok (.iload 6, 2) := by decide +kernel
theorem dX2_walk_81 : decode cX2_walk 81 = .ok (.iload_n 3, 1) := by decide +kernel
theorem dX2_walk_82 : decode cX2_walk 82 = .ok (.iconst 1, 1) := by decide +kernel
theorem dX2_walk_83 : decode cX2_walk 83 = .ok (.iload 6, 2) := by decide +kernel
theorem dX2_walk_85 : decode cX2_walk 85 = .ok (.ishl, 1) := by decide +kernel
theorem dX2_walk_86 : decode cX2_walk 86 = .ok (.ior, 1) := by decide +kernel
theorem dX2_walk_87 : decode cX2_walk 87 = .ok (.iload 4, 2) := by decide +kernel
theorem dX2_walk_89 : decode cX2_walk 89 = .ok (.iconst 1, 1) := by decide +kernel
theorem dX2_walk_90 : decode cX2_walk 90 = .ok (.iload 5, 2) := by decide +kernel
theorem dX2_walk_92 : decode cX2_walk 92 = .ok (.ishl, 1) := by decide +kernel
theorem dX2_walk_93 : decode cX2_walk 93 = .ok (.ior, 1) := by decide +kernel
theorem dX2_walk_94 : decode cX2_walk 94 = .ok (.invokestatic 49, 3) := by decide +kernel
theorem dX2_walk_97 : decode cX2_walk 97 = .ok (.iinc 5 1, 3) := by decide +kernel
theorem dX2_walk_100 : decode cX2_walk 100 = .ok (.goto (-97), 3) := by decide +kernel
theorem dX2_walk_103 : decode cX2_walk 103 = .ok (.return_, 1) := by decide +kernel
def F_X2_walk_3 (Wr : Int32 → Int32 → Int32 → Int32 → Mm → (Mm → Prop) → Prop)  (K3 : Int32 → Int32 → Int32 → Int32 → Int32 → Mm → Prop) (q : Mm → Prop) (x1 : Int32) (x2 : Int32) (x3 : Int32) (x4 : Int32) (x5 : Int32) (μ : Mm) : Prop :=
  (((μ p_GR 7) ≤ x5 → q μ) ∧ (¬ ((μ p_GR 7) ≤ x5) → Wp_J6_bitCount_0f7a4 x3 μ (fun z2 μ1 => (((6 : Int32) ≤ z2 → q μ1) ∧ (¬ ((6 : Int32) ≤ z2) → Wp_X2_beyond x5 x2 μ1 (fun z4 μ3 => ((z4 = (-1 : Int32) → K3 x1 x2 x3 x4 (x5 + (1 : Int32)) μ3) ∧ (¬ (z4 = (-1 : Int32)) → ((¬ (((x3 >>> (z4 &&& 31)) &&& (1 : Int32)) = 0) → K3 x1 x2 x3 x4 (x5 + (1 : Int32)) μ3) ∧ (((x3 >>> (z4 &&& 31)) &&& (1 : Int32)) = 0 → (((((μ3 p_GR 8) >>> (x5 &&& 31)) &&& (1 : Int32)) = 0 → Wp_X2_pairOf x1 z4 μ3 (fun z6 μ5 => Wp_X2_keepWay z6 (x4 ||| ((1 : Int32) <<< (x5 &&& 31))) μ5 (fun μ7 => Wr x1 z4 (x3 ||| ((1 : Int32) <<< (z4 &&& 31))) (x4 ||| ((1 : Int32) <<< (x5 &&& 31))) μ7 (fun μ8 => K3 x1 x2 x3 x4 (x5 + (1 : Int32)) μ8)))) ∧ (¬ ((((μ3 p_GR 8) >>> (x5 &&& 31)) &&& (1 : Int32)) = 0) → K3 x1 x2 x3 x4 (x5 + (1 : Int32)) μ3))))))))))))
def F_X2_walk_e (Wr : Int32 → Int32 → Int32 → Int32 → Mm → (Mm → Prop) → Prop)  (K3 : Int32 → Int32 → Int32 → Int32 → Int32 → Mm → Prop) (q : Mm → Prop) (x1 : Int32) (x2 : Int32) (x3 : Int32) (x4 : Int32) (μ : Mm) : Prop :=
  K3 x1 x2 x3 x4 (0 : Int32) μ
def Wp_X2_walk : Nat → Int32 → Int32 → Int32 → Int32 → Mm → (Mm → Prop) → Prop
  | 0 => fun _ _ _ _ _ _ => False
  | d + 1 => fun x1 x2 x3 x4 μ q => ∀ (K3 : Int32 → Int32 → Int32 → Int32 → Int32 → Mm → Prop), (∀ (x1 : Int32) (x2 : Int32) (x3 : Int32) (x4 : Int32) (x5 : Int32) (μ : Mm), F_X2_walk_3 (Wp_X2_walk d)  K3 q x1 x2 x3 x4 x5 μ → K3 x1 x2 x3 x4 x5 μ) → F_X2_walk_e (Wp_X2_walk d)  K3 q x1 x2 x3 x4 μ
abbrev KK_X2_walk_3 (g : GE) (f : FE)  : Int32 → Int32 → Int32 → Int32 → Int32 → Mm → Prop := fun x1 x2 x3 x4 x5 μ => KW g f 7 0 0 3 [some (.ref p_GR), some (.int x1), some (.int x2), some (.int x3), some (.int x4), some (.int x5), none] [] μ
set_option maxHeartbeats 2000000 in
theorem b_X2_walk_3 {d : Nat} {Wr : Int32 → Int32 → Int32 → Int32 → Mm → (Mm → Prop) → Prop}  {g : GE} {f : FE} {q : Mm → Prop} (cx : Cx g f cX2_walk 7 RX2 (1 + (d + 1)) (22 + (d + 1) * 26) 0 0) (hr : (f_M f).sig.returnType = none) (hl : (f_M f).locks = false) (hQ : f_Q f = MQ (f_b f) (QW g (qV q)) (f_a f) (f_s f) 0 0 (fun q => g.2.2.2.1 ≤ q)) (hrec : ∀  (x1 : Int32) (x2 : Int32) (x3 : Int32) (x4 : Int32) (μ : Mm) (q : Mm → Prop), Wr  x1 x2 x3 x4 μ q → MW g (f_l f) yX2_walk cX2_walk 7 none (1 + d) (22 + d * 26) [.ref p_GR, .int x1, .int x2, .int x3, .int x4] μ (qV q))  {x1 : Int32} {x2 : Int32} {x3 : Int32} {x4 : Int32} {x5 : Int32} {μ : Mm} (h : F_X2_walk_3 Wr  (KK_X2_walk_3 g f ) q x1 x2 x3 x4 x5 μ) : KK_X2_walk_3 g f  x1 x2 x3 x4 x5 μ := by
  unfold F_X2_walk_3 at h
  show KW g f 7 0 0 3 [some (.ref p_GR), some (.int x1), some (.int x2), some (.int x3), some (.int x4), some (.int x5), none] [] μ
  refine k_iload cx dX2_walk_3 rfl ?_
  refine k_aload_n cx dX2_walk_5 rfl rfl ?_
  refine k_get (o := none) (v := .int (μ p_GR 7)) cx fl_X2_36 ob_GR rfl rfl dX2_walk_6 ?_
  refine k_icmp_ge (tgt := 103) cx dX2_walk_9 (by decide) (fun hc => ?_) (fun hc => ?_)
  · replace h := h.1 hc
    exact k_ret_V cx hr hl hQ dX2_walk_103 h
  · replace h := h.2 hc
    refine k_iload_n cx dX2_walk_12 rfl rfl ?_
    refine k_callS (As := [.int x3]) (rest := []) cx (m_J6_bitCount_0f7a4 h) cv_X2_53 rfl rfl (Nat.le_of_ble_eq_true rfl) ⟨by omega, by omega⟩ dX2_walk_13 (fun v μ1 hq => ?_)
    obtain ⟨z2, rfl, h⟩ := hq
    refine k_bipush (v := (6 : Int32)) cx dX2_walk_16 (by decide +kernel) ?_
    refine k_icmp_ge (tgt := 103) cx dX2_walk_18 (by decide) (fun hc => ?_) (fun hc => ?_)
    · replace h := h.1 hc
      exact k_ret_V cx hr hl hQ dX2_walk_103 h
    · replace h := h.2 hc
      refine k_aload_n cx dX2_walk_21 rfl rfl ?_
      refine k_iload cx dX2_walk_22 rfl ?_
      refine k_iload_n cx dX2_walk_24 rfl rfl ?_
      refine k_callV (As := [.int x5, .int x2]) (rest := []) cx (m_X2_beyond h) cv_X2_42 ob_GR rfl rfl rfl rfl (Nat.le_of_ble_eq_true rfl) ⟨by omega, by omega⟩ dX2_walk_25 (fun v μ3 hq => ?_)
      obtain ⟨z4, rfl, h⟩ := hq
      refine k_istore cx dX2_walk_28 (by decide) ?_
      refine k_iload cx dX2_walk_30 rfl ?_
      refine k_iconst (v := (-1 : Int32)) cx dX2_walk_32 (by decide +kernel) ?_
      refine k_icmp_eq (tgt := 97) cx dX2_walk_33 (by decide) (fun hc => ?_) (fun hc => ?_)
      · replace h := h.1 hc
        refine k_iinc (v := (x5 + (1 : Int32))) cx dX2_walk_97 rfl rfl (by decide) ?_
        refine k_goto (tgt := 3) cx dX2_walk_100 (by decide) ?_
        exact k_weak h (lsLe.keep (lsLe.keep (lsLe.keep (lsLe.keep (lsLe.keep (lsLe.keep (lsLe.drop lsLe.nil)))))))
      · replace h := h.2 hc
        refine k_iload_n cx dX2_walk_36 rfl rfl ?_
        refine k_iload cx dX2_walk_37 rfl ?_
        refine k_ishr cx dX2_walk_39 ?_
        refine k_iconst (v := (1 : Int32)) cx dX2_walk_40 (by decide +kernel) ?_
        refine k_iand cx dX2_walk_41 ?_
        refine k_if_ne (tgt := 97) cx dX2_walk_42 (by decide) (fun hc => ?_) (fun hc => ?_)
        · replace h := h.1 hc
          refine k_iinc (v := (x5 + (1 : Int32))) cx dX2_walk_97 rfl rfl (by decide) ?_
          refine k_goto (tgt := 3) cx dX2_walk_100 (by decide) ?_
          exact k_weak h (lsLe.keep (lsLe.keep (lsLe.keep (lsLe.keep (lsLe.keep (lsLe.keep (lsLe.drop lsLe.nil)))))))
        · replace h := h.2 hc
          refine k_aload_n cx dX2_walk_45 rfl rfl ?_
          refine k_get (o := none) (v := .int (μ3 p_GR 8)) cx fl_X2_46 ob_GR rfl rfl dX2_walk_46 ?_
          refine k_iload cx dX2_walk_49 rfl ?_
          refine k_ishr cx dX2_walk_51 ?_
          refine k_iconst (v := (1 : Int32)) cx dX2_walk_52 (by decide +kernel) ?_
          refine k_iand cx dX2_walk_53 ?_
          refine k_if_eq (tgt := 60) cx dX2_walk_54 (by decide) (fun hc => ?_) (fun hc => ?_)
          · replace h := h.1 hc
            refine k_aload_n cx dX2_walk_60 rfl rfl ?_
            refine k_iload_n cx dX2_walk_61 rfl rfl ?_
            refine k_iload cx dX2_walk_62 rfl ?_
            refine k_callS (As := [.int x1, .int z4]) (rest := [.ref p_GR]) cx (m_X2_pairOf h) cv_X2_59 rfl rfl (Nat.le_of_ble_eq_true rfl) ⟨by omega, by omega⟩ dX2_walk_64 (fun v μ5 hq => ?_)
            obtain ⟨z6, rfl, h⟩ := hq
            refine k_iload cx dX2_walk_67 rfl ?_
            refine k_iconst (v := (1 : Int32)) cx dX2_walk_69 (by decide +kernel) ?_
            refine k_iload cx dX2_walk_70 rfl ?_
            refine k_ishl cx dX2_walk_72 ?_
            refine k_ior cx dX2_walk_73 ?_
            refine k_callV (As := [.int z6, .int (x4 ||| ((1 : Int32) <<< (x5 &&& 31)))]) (rest := []) cx (m_X2_keepWay h) cv_X2_62 ob_GR rfl rfl rfl rfl (Nat.le_of_ble_eq_true rfl) ⟨by omega, by omega⟩ dX2_walk_74 (fun v μ7 hq => ?_)
            obtain ⟨rfl, h⟩ := hq
            refine k_aload_n cx dX2_walk_77 rfl rfl ?_
            refine k_iload_n cx dX2_walk_78 rfl rfl ?_
            refine k_iload cx dX2_walk_79 rfl ?_
            refine k_iload_n cx dX2_walk_81 rfl rfl ?_
            refine k_iconst (v := (1 : Int32)) cx dX2_walk_82 (by decide +kernel) ?_
            refine k_iload cx dX2_walk_83 rfl ?_
            refine k_ishl cx dX2_walk_85 ?_
            refine k_ior cx dX2_walk_86 ?_
            refine k_iload cx dX2_walk_87 rfl ?_
            refine k_iconst (v := (1 : Int32)) cx dX2_walk_89 (by decide +kernel) ?_
            refine k_iload cx dX2_walk_90 rfl ?_
            refine k_ishl cx dX2_walk_92 ?_
            refine k_ior cx dX2_walk_93 ?_
            refine k_callS (As := [.ref p_GR, .int x1, .int z4, .int (x3 ||| ((1 : Int32) <<< (z4 &&& 31))), .int (x4 ||| ((1 : Int32) <<< (x5 &&& 31)))]) (rest := []) cx (hrec _ _ _ _ _ _ h) cv_X2_49 rfl rfl (Nat.le_of_ble_eq_true rfl) ⟨by omega, by omega⟩ dX2_walk_94 (fun v μ8 hq => ?_)
            obtain ⟨rfl, h⟩ := hq
            refine k_iinc (v := (x5 + (1 : Int32))) cx dX2_walk_97 rfl rfl (by decide) ?_
            refine k_goto (tgt := 3) cx dX2_walk_100 (by decide) ?_
            exact k_weak h (lsLe.keep (lsLe.keep (lsLe.keep (lsLe.keep (lsLe.keep (lsLe.keep (lsLe.drop lsLe.nil)))))))
          · replace h := h.2 hc
            refine k_goto (tgt := 97) cx dX2_walk_57 (by decide) ?_
            refine k_iinc (v := (x5 + (1 : Int32))) cx dX2_walk_97 rfl rfl (by decide) ?_
            refine k_goto (tgt := 3) cx dX2_walk_100 (by decide) ?_
            exact k_weak h (lsLe.keep (lsLe.keep (lsLe.keep (lsLe.keep (lsLe.keep (lsLe.keep (lsLe.drop lsLe.nil)))))))
set_option maxHeartbeats 2000000 in
theorem b_X2_walk_e {d : Nat} {Wr : Int32 → Int32 → Int32 → Int32 → Mm → (Mm → Prop) → Prop}  {g : GE} {f : FE} {q : Mm → Prop} (cx : Cx g f cX2_walk 7 RX2 (1 + (d + 1)) (22 + (d + 1) * 26) 0 0) (hr : (f_M f).sig.returnType = none) (hl : (f_M f).locks = false) (hQ : f_Q f = MQ (f_b f) (QW g (qV q)) (f_a f) (f_s f) 0 0 (fun q => g.2.2.2.1 ≤ q)) (hrec : ∀  (x1 : Int32) (x2 : Int32) (x3 : Int32) (x4 : Int32) (μ : Mm) (q : Mm → Prop), Wr  x1 x2 x3 x4 μ q → MW g (f_l f) yX2_walk cX2_walk 7 none (1 + d) (22 + d * 26) [.ref p_GR, .int x1, .int x2, .int x3, .int x4] μ (qV q))  {x1 : Int32} {x2 : Int32} {x3 : Int32} {x4 : Int32} {μ : Mm} (h : F_X2_walk_e Wr  (KK_X2_walk_3 g f ) q x1 x2 x3 x4 μ) : KW g f 7 0 0 0 [some (.ref p_GR), some (.int x1), some (.int x2), some (.int x3), some (.int x4), none, none] [] μ := by
  unfold F_X2_walk_e at h
  refine k_iconst (v := (0 : Int32)) cx dX2_walk_0 (by decide +kernel) ?_
  refine k_istore cx dX2_walk_1 (by decide) ?_
  exact k_weak h (lsLe.keep (lsLe.keep (lsLe.keep (lsLe.keep (lsLe.keep (lsLe.keep (lsLe.keep lsLe.nil)))))))
theorem m_X2_walk {g : GE} {l : Launch} : ∀ (d : Nat)  (x1 : Int32) (x2 : Int32) (x3 : Int32) (x4 : Int32) (μ : Mm) (q : Mm → Prop), Wp_X2_walk d  x1 x2 x3 x4 μ q → MW g l yX2_walk cX2_walk 7 none (1 + d) (22 + d * 26) [.ref p_GR, .int x1, .int x2, .int x3, .int x4] μ (qV q) := by
  intro d
  induction d with
  | zero => intros; contradiction
  | succ d ih =>
    intro  x1 x2 x3 x4 μ q  h
    refine met_of (by decide) (Nat.le_of_ble_eq_true rfl) (by intro v hv; simp only [List.mem_cons, List.not_mem_nil, or_false] at hv; rcases hv with rfl | rfl | rfl | rfl | rfl <;> rfl) ?_
    intro f hfl cx hr hl hQ
    subst hfl
    exact b_X2_walk_e  cx hr hl hQ ih (h (KK_X2_walk_3 g f ) (fun _ _ _ _ _ _ h => b_X2_walk_3  cx hr hl hQ ih h))
theorem dX2_findWays_0 : decode cX2_findWays 0 = .ok (.iconst 0, 1) := by decide +kernel
theorem dX2_findWays_1 : decode cX2_findWays 1 = .ok (.istore_n 1, 1) := by decide +kernel
theorem dX2_findWays_2 : decode cX2_findWays 2 = .ok (.iload_n 1, 1) := by decide +kernel
theorem dX2_findWays_3 : decode cX2_findWays 3 = .ok (.aload_n 0, 1) := by decide +kernel
theorem dX2_findWays_4 : decode cX2_findWays 4 = .ok (.getfield 29, 3) := by decide +kernel
theorem dX2_findWays_7 : decode cX2_findWays 7 = .ok (.arraylength, 1) := by decide +kernel
theorem dX2_findWays_8 : decode cX2_findWays 8 = .ok (.if_icmp .ge 16, 3) := by decide +kernel
theorem dX2_findWays_11 : decode cX2_findWays 11 = .ok (.aload_n 0, 1) := by decide +kernel
theorem dX2_findWays_12 : decode cX2_findWays 12 = .ok (.getfield 29, 3) := by decide +kernel
theorem dX2_findWays_15 : decode cX2_findWays 15 = .ok (.iload_n 1, 1) := by decide +kernel
theorem dX2_findWays_16 : decode cX2_findWays 16 = .ok (.iconst 0, 1) := by decide +kernel
theorem dX2_findWays_17 : decode cX2_findWays 17 = .ok (.iastore, 1) := by decide +kernel
theorem dX2_findWays_18 : decode cX2_findWays 18 = .ok (.iinc 1 1, 3) := by decide +kernel
theorem dX2_findWays_21 : decode cX2_findWays 21 = .ok (.goto (-19), 3) := by decide +kernel
theorem dX2_findWays_24 : decode cX2_findWays 24 = .ok (.iconst 0, 1) := by decide +kernel
theorem dX2_findWays_25 : decode cX2_findWays 25 = .ok (.istore_n 1, 1) := by decide +kernel
theorem dX2_findWays_26 : decode cX2_findWays 26 = .ok (.iload_n 1, 1) := by decide +kernel
theorem dX2_findWays_27 : decode cX2_findWays 27 = .ok (.aload_n 0, 1) := by decide +kernel
theorem dX2_findWays_28 : decode cX2_findWays 28 = .ok (.getfield 32, 3) := by decide +kernel
theorem dX2_findWays_31 : decode cX2_findWays 31 = .ok (.if_icmp .ge 19, 3) := by decide +kernel
theorem dX2_findWays_34 : decode cX2_findWays 34 = .ok (.aload_n 0, 1) := by decide +kernel
theorem dX2_findWays_35 : decode cX2_findWays 35 = .ok (.iload_n 1, 1) := by decide +kernel
theorem dX2_findWays_36 : decode cX2_findWays 36 = .ok (.iload_n 1, 1) := by decide +kernel
theorem dX2_findWays_37 : decode cX2_findWays 37 = .ok (.iconst 1, 1) := by decide +kernel
theorem dX2_findWays_38 : decode cX2_findWays 38 = .ok (.iload_n 1, 1) := by decide +kernel
theorem dX2_findWays_39 : decode cX2_findWays 39 = .ok (.ishl, 1) := by decide +kernel
theorem dX2_findWays_40 : decode cX2_findWays 40 = .ok (.iconst 0, 1) := by decide +kernel
theorem dX2_findWays_41 : decode cX2_findWays 41 = .ok (.invokestatic 49, 3) := by decide +kernel
theorem dX2_findWays_44 : decode cX2_findWays 44 = .ok (.iinc 1 1, 3) := by decide +kernel
theorem dX2_findWays_47 : decode cX2_findWays 47 = .ok (.goto (-21), 3) := by decide +kernel
theorem dX2_findWays_50 : decode cX2_findWays 50 = .ok (.return_, 1) := by decide +kernel
def F_X2_findWays_2  (K2 : Int32 → Mm → Prop) (K26 : Int32 → Mm → Prop) (q : Mm → Prop) (x1 : Int32) (μ : Mm) : Prop :=
  (((36 : Int32) ≤ x1 → K26 (0 : Int32) μ) ∧ (¬ ((36 : Int32) ≤ x1) → vp_in x1 36 ∧ K2 (x1 + (1 : Int32)) (up2 μ p_GR_wayCounts (x1).toNatClampNeg (0 : Int32))))
def F_X2_findWays_26  (K2 : Int32 → Mm → Prop) (K26 : Int32 → Mm → Prop) (q : Mm → Prop) (x1 : Int32) (μ : Mm) : Prop :=
  (((μ p_GR 6) ≤ x1 → q μ) ∧ (¬ ((μ p_GR 6) ≤ x1) → Wp_X2_walk 6 x1 x1 ((1 : Int32) <<< (x1 &&& 31)) (0 : Int32) μ (fun μ1 => K26 (x1 + (1 : Int32)) μ1)))
def F_X2_findWays_e  (K2 : Int32 → Mm → Prop) (K26 : Int32 → Mm → Prop) (q : Mm → Prop)  (μ : Mm) : Prop :=
  K2 (0 : Int32) μ
def Wp_X2_findWays   (μ : Mm) (q : Mm → Prop) : Prop := ∀ (K2 : Int32 → Mm → Prop) (K26 : Int32 → Mm → Prop), (∀ (x1 : Int32) (μ : Mm), F_X2_findWays_2  K2 K26 q x1 μ → K2 x1 μ) → (∀ (x1 : Int32) (μ : Mm), F_X2_findWays_26  K2 K26 q x1 μ → K26 x1 μ) → F_X2_findWays_e  K2 K26 q  μ
abbrev KK_X2_findWays_2 (g : GE) (f : FE)  : Int32 → Mm → Prop := fun x1 μ => KW g f 2 0 0 2 [some (.ref p_GR), some (.int x1)] [] μ
abbrev KK_X2_findWays_26 (g : GE) (f : FE)  : Int32 → Mm → Prop := fun x1 μ => KW g f 2 0 0 26 [some (.ref p_GR), some (.int x1)] [] μ
set_option maxHeartbeats 2000000 in
theorem b_X2_findWays_2  {g : GE} {f : FE} {q : Mm → Prop} (cx : Cx g f cX2_findWays 2 RX2 8 204 0 0) (hr : (f_M f).sig.returnType = none) (hl : (f_M f).locks = false) (hQ : f_Q f = MQ (f_b f) (QW g (qV q)) (f_a f) (f_s f) 0 0 (fun q => g.2.2.2.1 ≤ q))  {x1 : Int32} {μ : Mm} (h : F_X2_findWays_2  (KK_X2_findWays_2 g f ) (KK_X2_findWays_26 g f ) q x1 μ) : KK_X2_findWays_2 g f  x1 μ := by
  unfold F_X2_findWays_2 at h
  show KW g f 2 0 0 2 [some (.ref p_GR), some (.int x1)] [] μ
  refine k_iload_n cx dX2_findWays_2 rfl rfl ?_
  refine k_aload_n cx dX2_findWays_3 rfl rfl ?_
  refine k_get (o := some p_GR_wayCounts) (v := .ref p_GR_wayCounts) cx fl_X2_29 ob_GR rfl rfl dX2_findWays_4 ?_
  refine k_alen (v := (36 : Int32)) (t := 0) cx ar_GR_wayCounts (by decide) rfl (by decide +kernel) dX2_findWays_7 ?_
  refine k_icmp_ge (tgt := 24) cx dX2_findWays_8 (by decide) (fun hc => ?_) (fun hc => ?_)
  · replace h := h.1 hc
    refine k_iconst (v := (0 : Int32)) cx dX2_findWays_24 (by decide +kernel) ?_
    refine k_istore_n cx dX2_findWays_25 rfl (by decide) ?_
    exact k_weak h (lsLe.keep (lsLe.keep lsLe.nil))
  · replace h := h.2 hc
    refine k_aload_n cx dX2_findWays_11 rfl rfl ?_
    refine k_get (o := some p_GR_wayCounts) (v := .ref p_GR_wayCounts) cx fl_X2_29 ob_GR rfl rfl dX2_findWays_12 ?_
    refine k_iload_n cx dX2_findWays_15 rfl rfl ?_
    refine k_iconst (v := (0 : Int32)) cx dX2_findWays_16 (by decide +kernel) ?_
    obtain ⟨hi, h⟩ := h
    refine k_iast cx ar_GR_wayCounts hi dX2_findWays_17 ?_
    refine k_iinc (v := (x1 + (1 : Int32))) cx dX2_findWays_18 rfl rfl (by decide) ?_
    refine k_goto (tgt := 2) cx dX2_findWays_21 (by decide) ?_
    exact k_weak h (lsLe.keep (lsLe.keep lsLe.nil))
set_option maxHeartbeats 2000000 in
theorem b_X2_findWays_26  {g : GE} {f : FE} {q : Mm → Prop} (cx : Cx g f cX2_findWays 2 RX2 8 204 0 0) (hr : (f_M f).sig.returnType = none) (hl : (f_M f).locks = false) (hQ : f_Q f = MQ (f_b f) (QW g (qV q)) (f_a f) (f_s f) 0 0 (fun q => g.2.2.2.1 ≤ q))  {x1 : Int32} {μ : Mm} (h : F_X2_findWays_26  (KK_X2_findWays_2 g f ) (KK_X2_findWays_26 g f ) q x1 μ) : KK_X2_findWays_26 g f  x1 μ := by
  unfold F_X2_findWays_26 at h
  show KW g f 2 0 0 26 [some (.ref p_GR), some (.int x1)] [] μ
  refine k_iload_n cx dX2_findWays_26 rfl rfl ?_
  refine k_aload_n cx dX2_findWays_27 rfl rfl ?_
  refine k_get (o := none) (v := .int (μ p_GR 6)) cx fl_X2_32 ob_GR rfl rfl dX2_findWays_28 ?_
  refine k_icmp_ge (tgt := 50) cx dX2_findWays_31 (by decide) (fun hc => ?_) (fun hc => ?_)
  · replace h := h.1 hc
    exact k_ret_V cx hr hl hQ dX2_findWays_50 h
  · replace h := h.2 hc
    refine k_aload_n cx dX2_findWays_34 rfl rfl ?_
    refine k_iload_n cx dX2_findWays_35 rfl rfl ?_
    refine k_iload_n cx dX2_findWays_36 rfl rfl ?_
    refine k_iconst (v := (1 : Int32)) cx dX2_findWays_37 (by decide +kernel) ?_
    refine k_iload_n cx dX2_findWays_38 rfl rfl ?_
    refine k_ishl cx dX2_findWays_39 ?_
    refine k_iconst (v := (0 : Int32)) cx dX2_findWays_40 (by decide +kernel) ?_
    refine k_callS (As := [.ref p_GR, .int x1, .int x1, .int ((1 : Int32) <<< (x1 &&& 31)), .int (0 : Int32)]) (rest := []) cx (m_X2_walk 6 _ _ _ _ _ _  h) cv_X2_49 rfl rfl (Nat.le_of_ble_eq_true rfl) ⟨Nat.le_of_ble_eq_true rfl, Nat.le_of_ble_eq_true rfl⟩ dX2_findWays_41 (fun v μ1 hq => ?_)
    obtain ⟨rfl, h⟩ := hq
    refine k_iinc (v := (x1 + (1 : Int32))) cx dX2_findWays_44 rfl rfl (by decide) ?_
    refine k_goto (tgt := 26) cx dX2_findWays_47 (by decide) ?_
    exact k_weak h (lsLe.keep (lsLe.keep lsLe.nil))
set_option maxHeartbeats 2000000 in
theorem b_X2_findWays_e  {g : GE} {f : FE} {q : Mm → Prop} (cx : Cx g f cX2_findWays 2 RX2 8 204 0 0) (hr : (f_M f).sig.returnType = none) (hl : (f_M f).locks = false) (hQ : f_Q f = MQ (f_b f) (QW g (qV q)) (f_a f) (f_s f) 0 0 (fun q => g.2.2.2.1 ≤ q))   {μ : Mm} (h : F_X2_findWays_e  (KK_X2_findWays_2 g f ) (KK_X2_findWays_26 g f ) q  μ) : KW g f 2 0 0 0 [some (.ref p_GR), none] [] μ := by
  unfold F_X2_findWays_e at h
  refine k_iconst (v := (0 : Int32)) cx dX2_findWays_0 (by decide +kernel) ?_
  refine k_istore_n cx dX2_findWays_1 rfl (by decide) ?_
  exact k_weak h (lsLe.keep (lsLe.keep lsLe.nil))
theorem m_X2_findWays {g : GE} {l : Launch} {μ : Mm} {q : Mm → Prop}  (h : Wp_X2_findWays   μ q) : MW g l yX2_findWays cX2_findWays 2 none 8 204 [.ref p_GR] μ (qV q) := by
  refine met_of (by decide) (Nat.le_of_ble_eq_true rfl) (by intro v hv; simp only [List.mem_cons, List.not_mem_nil, or_false] at hv; subst hv; rfl) ?_
  intro f hfl cx hr hl hQ
  exact b_X2_findWays_e  cx hr hl hQ (h (KK_X2_findWays_2 g f ) (KK_X2_findWays_26 g f ) (fun _ _ h => b_X2_findWays_2  cx hr hl hQ h) (fun _ _ h => b_X2_findWays_26  cx hr hl hQ h))
theorem dX2_addLink_0 : decode cX2_addLink 0 = .ok (.aload_n 0, 1) := by decide +kernel
theorem dX2_addLink_1 : decode cX2_addLink 1 = .ok (.getfield 15, 3) := by decide +kernel
theorem dX2_addLink_4 : decode cX2_addLink 4 = .ok (.aload_n 0, 1) := by decide +kernel
theorem dX2_addLink_5 : decode cX2_addLink 5 = .ok (.getfield 36, 3) := by decide +kernel
theorem dX2_addLink_8 : decode cX2_addLink 8 = .ok (.iload_n 3, 1) := by decide +kernel
theorem dX2_addLink_9 : decode cX2_addLink 9 = .ok (.iastore, 1) := by decide +kernel
theorem dX2_addLink_10 : decode cX2_addLink 10 = .ok (.aload_n 0, 1) := by decide +kernel
theorem dX2_addLink_11 : decode cX2_addLink 11 = .ok (.getfield 18, 3) := by decide +kernel
theorem dX2_addLink_14 : decode cX2_addLink 14 = .ok (.aload_n 0, 1) := by decide +kernel
theorem dX2_addLink_15 : decode cX2_addLink 15 = .ok (.getfield 36, 3) := by decide +kernel
theorem dX2_addLink_18 : decode cX2_addLink 18 = .ok (.iload_n 1, 1) := by decide +kernel
theorem dX2_addLink_19 : decode cX2_addLink 19 = .ok (.iastore, 1) := by decide +kernel
theorem dX2_addLink_20 : decode cX2_addLink 20 = .ok (.aload_n 0, 1) := by decide +kernel
theorem dX2_addLink_21 : decode cX2_addLink 21 = .ok (.getfield 21, 3) := by decide +kernel
theorem dX2_addLink_24 : decode cX2_addLink 24 = .ok (.aload_n 0, 1) := by decide +kernel
theorem dX2_addLink_25 : decode cX2_addLink 25 = .ok (.getfield 36, 3) := by decide +kernel
theorem dX2_addLink_28 : decode cX2_addLink 28 = .ok (.iload_n 2, 1) := by decide +kernel
theorem dX2_addLink_29 : decode cX2_addLink 29 = .ok (.iastore, 1) := by decide +kernel
theorem dX2_addLink_30 : decode cX2_addLink 30 = .ok (.aload_n 0, 1) := by decide +kernel
theorem dX2_addLink_31 : decode cX2_addLink 31 = .ok (.dup, 1) := by decide +kernel
theorem dX2_addLink_32 : decode cX2_addLink 32 = .ok (.getfield 36, 3) := by decide +kernel
theorem dX2_addLink_35 : decode cX2_addLink 35 = .ok (.iconst 1, 1) := by decide +kernel
theorem dX2_addLink_36 : decode cX2_addLink 36 = .ok (.iadd, 1) := by decide +kernel
theorem dX2_addLink_37 : decode cX2_addLink 37 = .ok (.putfield 36, 3) := by decide +kernel
theorem dX2_addLink_40 : decode cX2_addLink 40 = .ok (.aload_n 0, 1) := by decide +kernel
theorem dX2_addLink_41 : decode cX2_addLink 41 = .ok (.invokevirtual 39, 3) := by decide +kernel
theorem dX2_addLink_44 : decode cX2_addLink 44 = .ok (.aload_n 0, 1) := by decide +kernel
theorem dX2_addLink_45 : decode cX2_addLink 45 = .ok (.getfield 36, 3) := by decide +kernel
theorem dX2_addLink_48 : decode cX2_addLink 48 = .ok (.iconst 1, 1) := by decide +kernel
theorem dX2_addLink_49 : decode cX2_addLink 49 = .ok (.isub, 1) := by decide +kernel
theorem dX2_addLink_50 : decode cX2_addLink 50 = .ok (.ireturn, 1) := by decide +kernel
def F_X2_addLink_e   (q : Int32 → Mm → Prop) (x1 : Int32) (x2 : Int32) (x3 : Int32) (μ : Mm) : Prop :=
  vp_in (μ p_GR 7) 9 ∧ vp_in ((up2 μ p_GR_linkRooms ((μ p_GR 7)).toNatClampNeg x3) p_GR 7) 9 ∧ vp_in ((up2 (up2 μ p_GR_linkRooms ((μ p_GR 7)).toNatClampNeg x3) p_GR_linkStarts (((up2 μ p_GR_linkRooms ((μ p_GR 7)).toNatClampNeg x3) p_GR 7)).toNatClampNeg x1) p_GR 7) 9 ∧ Wp_X2_findWays (up2 (up2 (up2 (up2 μ p_GR_linkRooms ((μ p_GR 7)).toNatClampNeg x3) p_GR_linkStarts (((up2 μ p_GR_linkRooms ((μ p_GR 7)).toNatClampNeg x3) p_GR 7)).toNatClampNeg x1) p_GR_linkEnds (((up2 (up2 μ p_GR_linkRooms ((μ p_GR 7)).toNatClampNeg x3) p_GR_linkStarts (((up2 μ p_GR_linkRooms ((μ p_GR 7)).toNatClampNeg x3) p_GR 7)).toNatClampNeg x1) p_GR 7)).toNatClampNeg x2) p_GR 7 (((up2 (up2 (up2 μ p_GR_linkRooms ((μ p_GR 7)).toNatClampNeg x3) p_GR_linkStarts (((up2 μ p_GR_linkRooms ((μ p_GR 7)).toNatClampNeg x3) p_GR 7)).toNatClampNeg x1) p_GR_linkEnds (((up2 (up2 μ p_GR_linkRooms ((μ p_GR 7)).toNatClampNeg x3) p_GR_linkStarts (((up2 μ p_GR_linkRooms ((μ p_GR 7)).toNatClampNeg x3) p_GR 7)).toNatClampNeg x1) p_GR 7)).toNatClampNeg x2) p_GR 7) + (1 : Int32))) (fun μ1 => q ((μ1 p_GR 7) - (1 : Int32)) μ1)
def Wp_X2_addLink  (x1 : Int32) (x2 : Int32) (x3 : Int32) (μ : Mm) (q : Int32 → Mm → Prop) : Prop := F_X2_addLink_e   q x1 x2 x3 μ
set_option maxHeartbeats 2000000 in
theorem b_X2_addLink_e  {g : GE} {f : FE} {q : Int32 → Mm → Prop} (cx : Cx g f cX2_addLink 4 RX2 9 225 0 0) (hr : (f_M f).sig.returnType = (some .int)) (hl : (f_M f).locks = false) (hQ : f_Q f = MQ (f_b f) (QW g (qI q)) (f_a f) (f_s f) 0 0 (fun q => g.2.2.2.1 ≤ q))  {x1 : Int32} {x2 : Int32} {x3 : Int32} {μ : Mm} (h : F_X2_addLink_e   q x1 x2 x3 μ) : KW g f 4 0 0 0 [some (.ref p_GR), some (.int x1), some (.int x2), some (.int x3)] [] μ := by
  unfold F_X2_addLink_e at h
  refine k_aload_n cx dX2_addLink_0 rfl rfl ?_
  refine k_get (o := some p_GR_linkRooms) (v := .ref p_GR_linkRooms) cx fl_X2_15 ob_GR rfl rfl dX2_addLink_1 ?_
  refine k_aload_n cx dX2_addLink_4 rfl rfl ?_
  refine k_get (o := none) (v := .int (μ p_GR 7)) cx fl_X2_36 ob_GR rfl rfl dX2_addLink_5 ?_
  refine k_iload_n cx dX2_addLink_8 rfl rfl ?_
  obtain ⟨hi, h⟩ := h
  refine k_iast cx ar_GR_linkRooms hi dX2_addLink_9 ?_
  refine k_aload_n cx dX2_addLink_10 rfl rfl ?_
  refine k_get (o := some p_GR_linkStarts) (v := .ref p_GR_linkStarts) cx fl_X2_18 ob_GR rfl rfl dX2_addLink_11 ?_
  refine k_aload_n cx dX2_addLink_14 rfl rfl ?_
  refine k_get (o := none) (v := .int ((up2 μ p_GR_linkRooms ((μ p_GR 7)).toNatClampNeg x3) p_GR 7)) cx fl_X2_36 ob_GR rfl rfl dX2_addLink_15 ?_
  refine k_iload_n cx dX2_addLink_18 rfl rfl ?_
  obtain ⟨hi, h⟩ := h
  refine k_iast cx ar_GR_linkStarts hi dX2_addLink_19 ?_
  refine k_aload_n cx dX2_addLink_20 rfl rfl ?_
  refine k_get (o := some p_GR_linkEnds) (v := .ref p_GR_linkEnds) cx fl_X2_21 ob_GR rfl rfl dX2_addLink_21 ?_
  refine k_aload_n cx dX2_addLink_24 rfl rfl ?_
  refine k_get (o := none) (v := .int ((up2 (up2 μ p_GR_linkRooms ((μ p_GR 7)).toNatClampNeg x3) p_GR_linkStarts (((up2 μ p_GR_linkRooms ((μ p_GR 7)).toNatClampNeg x3) p_GR 7)).toNatClampNeg x1) p_GR 7)) cx fl_X2_36 ob_GR rfl rfl dX2_addLink_25 ?_
  refine k_iload_n cx dX2_addLink_28 rfl rfl ?_
  obtain ⟨hi, h⟩ := h
  refine k_iast cx ar_GR_linkEnds hi dX2_addLink_29 ?_
  refine k_aload_n cx dX2_addLink_30 rfl rfl ?_
  refine k_dup cx dX2_addLink_31 rfl ?_
  refine k_get (o := none) (v := .int ((up2 (up2 (up2 μ p_GR_linkRooms ((μ p_GR 7)).toNatClampNeg x3) p_GR_linkStarts (((up2 μ p_GR_linkRooms ((μ p_GR 7)).toNatClampNeg x3) p_GR 7)).toNatClampNeg x1) p_GR_linkEnds (((up2 (up2 μ p_GR_linkRooms ((μ p_GR 7)).toNatClampNeg x3) p_GR_linkStarts (((up2 μ p_GR_linkRooms ((μ p_GR 7)).toNatClampNeg x3) p_GR 7)).toNatClampNeg x1) p_GR 7)).toNatClampNeg x2) p_GR 7)) cx fl_X2_36 ob_GR rfl rfl dX2_addLink_32 ?_
  refine k_iconst (v := (1 : Int32)) cx dX2_addLink_35 (by decide +kernel) ?_
  refine k_iadd cx dX2_addLink_36 ?_
  refine k_put cx fp_X2_36 ob_GR rfl rfl rfl dX2_addLink_37 ?_
  refine k_aload_n cx dX2_addLink_40 rfl rfl ?_
  refine k_callV (As := []) (rest := []) cx (m_X2_findWays h) cv_X2_39 ob_GR rfl rfl rfl rfl (Nat.le_of_ble_eq_true rfl) ⟨Nat.le_of_ble_eq_true rfl, Nat.le_of_ble_eq_true rfl⟩ dX2_addLink_41 (fun v μ1 hq => ?_)
  obtain ⟨rfl, h⟩ := hq
  refine k_aload_n cx dX2_addLink_44 rfl rfl ?_
  refine k_get (o := none) (v := .int (μ1 p_GR 7)) cx fl_X2_36 ob_GR rfl rfl dX2_addLink_45 ?_
  refine k_iconst (v := (1 : Int32)) cx dX2_addLink_48 (by decide +kernel) ?_
  refine k_isub cx dX2_addLink_49 ?_
  exact k_ret_I cx hr hl hQ dX2_addLink_50 h
theorem m_X2_addLink {g : GE} {l : Launch} {μ : Mm} {q : Int32 → Mm → Prop} {x1 : Int32} {x2 : Int32} {x3 : Int32}  (h : Wp_X2_addLink  x1 x2 x3 μ q) : MW g l yX2_addLink cX2_addLink 4 (some .int) 9 225 [.ref p_GR, .int x1, .int x2, .int x3] μ (qI q) := by
  refine met_of (by decide) (Nat.le_of_ble_eq_true rfl) (by intro v hv; simp only [List.mem_cons, List.not_mem_nil, or_false] at hv; rcases hv with rfl | rfl | rfl | rfl <;> rfl) ?_
  intro f hfl cx hr hl hQ
  exact b_X2_addLink_e  cx hr hl hQ (h  )
theorem dX2_addNode_0 : decode cX2_addNode 0 = .ok (.aload_n 0, 1) := by decide +kernel
theorem dX2_addNode_1 : decode cX2_addNode 1 = .ok (.getfield 9, 3) := by decide +kernel
theorem dX2_addNode_4 : decode cX2_addNode 4 = .ok (.aload_n 0, 1) := by decide +kernel
theorem dX2_addNode_5 : decode cX2_addNode 5 = .ok (.getfield 32, 3) := by decide +kernel
theorem dX2_addNode_8 : decode cX2_addNode 8 = .ok (.iload_n 1, 1) := by decide +kernel
theorem dX2_addNode_9 : decode cX2_addNode 9 = .ok (.iastore, 1) := by decide +kernel
theorem dX2_addNode_10 : decode cX2_addNode 10 = .ok (.aload_n 0, 1) := by decide +kernel
theorem dX2_addNode_11 : decode cX2_addNode 11 = .ok (.dup, 1) := by decide +kernel
theorem dX2_addNode_12 : decode cX2_addNode 12 = .ok (.getfield 32, 3) := by decide +kernel
theorem dX2_addNode_15 : decode cX2_addNode 15 = .ok (.iconst 1, 1) := by decide +kernel
theorem dX2_addNode_16 : decode cX2_addNode 16 = .ok (.iadd, 1) := by decide +kernel
theorem dX2_addNode_17 : decode cX2_addNode 17 = .ok (.putfield 32, 3) := by decide +kernel
theorem dX2_addNode_20 : decode cX2_addNode 20 = .ok (.aload_n 0, 1) := by decide +kernel
theorem dX2_addNode_21 : decode cX2_addNode 21 = .ok (.getfield 32, 3) := by decide +kernel
theorem dX2_addNode_24 : decode cX2_addNode 24 = .ok (.iconst 1, 1) := by decide +kernel
theorem dX2_addNode_25 : decode cX2_addNode 25 = .ok (.isub, 1) := by decide +kernel
theorem dX2_addNode_26 : decode cX2_addNode 26 = .ok (.ireturn, 1) := by decide +kernel
def F_X2_addNode_e   (q : Int32 → Mm → Prop) (x1 : Int32) (μ : Mm) : Prop :=
  vp_in (μ p_GR 6) 6 ∧ q (((up2 (up2 μ p_GR_nodeRooms ((μ p_GR 6)).toNatClampNeg x1) p_GR 6 (((up2 μ p_GR_nodeRooms ((μ p_GR 6)).toNatClampNeg x1) p_GR 6) + (1 : Int32))) p_GR 6) - (1 : Int32)) (up2 (up2 μ p_GR_nodeRooms ((μ p_GR 6)).toNatClampNeg x1) p_GR 6 (((up2 μ p_GR_nodeRooms ((μ p_GR 6)).toNatClampNeg x1) p_GR 6) + (1 : Int32)))
def Wp_X2_addNode  (x1 : Int32) (μ : Mm) (q : Int32 → Mm → Prop) : Prop := F_X2_addNode_e   q x1 μ
set_option maxHeartbeats 2000000 in
theorem b_X2_addNode_e  {g : GE} {f : FE} {q : Int32 → Mm → Prop} (cx : Cx g f cX2_addNode 2 RX2 0 0 0 0) (hr : (f_M f).sig.returnType = (some .int)) (hl : (f_M f).locks = false) (hQ : f_Q f = MQ (f_b f) (QW g (qI q)) (f_a f) (f_s f) 0 0 (fun q => g.2.2.2.1 ≤ q))  {x1 : Int32} {μ : Mm} (h : F_X2_addNode_e   q x1 μ) : KW g f 2 0 0 0 [some (.ref p_GR), some (.int x1)] [] μ := by
  unfold F_X2_addNode_e at h
  refine k_aload_n cx dX2_addNode_0 rfl rfl ?_
  refine k_get (o := some p_GR_nodeRooms) (v := .ref p_GR_nodeRooms) cx fl_X2_9 ob_GR rfl rfl dX2_addNode_1 ?_
  refine k_aload_n cx dX2_addNode_4 rfl rfl ?_
  refine k_get (o := none) (v := .int (μ p_GR 6)) cx fl_X2_32 ob_GR rfl rfl dX2_addNode_5 ?_
  refine k_iload_n cx dX2_addNode_8 rfl rfl ?_
  obtain ⟨hi, h⟩ := h
  refine k_iast cx ar_GR_nodeRooms hi dX2_addNode_9 ?_
  refine k_aload_n cx dX2_addNode_10 rfl rfl ?_
  refine k_dup cx dX2_addNode_11 rfl ?_
  refine k_get (o := none) (v := .int ((up2 μ p_GR_nodeRooms ((μ p_GR 6)).toNatClampNeg x1) p_GR 6)) cx fl_X2_32 ob_GR rfl rfl dX2_addNode_12 ?_
  refine k_iconst (v := (1 : Int32)) cx dX2_addNode_15 (by decide +kernel) ?_
  refine k_iadd cx dX2_addNode_16 ?_
  refine k_put cx fp_X2_32 ob_GR rfl rfl rfl dX2_addNode_17 ?_
  refine k_aload_n cx dX2_addNode_20 rfl rfl ?_
  refine k_get (o := none) (v := .int ((up2 (up2 μ p_GR_nodeRooms ((μ p_GR 6)).toNatClampNeg x1) p_GR 6 (((up2 μ p_GR_nodeRooms ((μ p_GR 6)).toNatClampNeg x1) p_GR 6) + (1 : Int32))) p_GR 6)) cx fl_X2_32 ob_GR rfl rfl dX2_addNode_21 ?_
  refine k_iconst (v := (1 : Int32)) cx dX2_addNode_24 (by decide +kernel) ?_
  refine k_isub cx dX2_addNode_25 ?_
  exact k_ret_I cx hr hl hQ dX2_addNode_26 h
theorem m_X2_addNode {g : GE} {l : Launch} {μ : Mm} {q : Int32 → Mm → Prop} {x1 : Int32}  (h : Wp_X2_addNode  x1 μ q) : MW g l yX2_addNode cX2_addNode 2 (some .int) 0 0 [.ref p_GR, .int x1] μ (qI q) := by
  refine met_of (by decide) (Nat.le_of_ble_eq_true rfl) (by intro v hv; simp only [List.mem_cons, List.not_mem_nil, or_false] at hv; rcases hv with rfl | rfl <;> rfl) ?_
  intro f hfl cx hr hl hQ
  exact b_X2_addNode_e  cx hr hl hQ (h  )
theorem dX2_areLinked_0 : decode cX2_areLinked 0 = .ok (.iconst 0, 1) := by decide +kernel
theorem dX2_areLinked_1 : decode cX2_areLinked 1 = .ok (.istore_n 3, 1) := by decide +kernel
theorem dX2_areLinked_2 : decode cX2_areLinked 2 = .ok (.iload_n 3, 1) := by decide +kernel
theorem dX2_areLinked_3 : decode cX2_areLinked 3 = .ok (.aload_n 0, 1) := by decide +kernel
theorem dX2_areLinked_4 : decode cX2_areLinked 4 = .ok (.getfield 36, 3) := by decide +kernel
theorem dX2_areLinked_7 : decode cX2_areLinked 7 = .ok (.if_icmp .ge 21, 3) := by decide +kernel
theorem dX2_areLinked_10 : decode cX2_areLinked 10 = .ok (.aload_n 0, 1) := by decide +kernel
theorem dX2_areLinked_11 : decode cX2_areLinked 11 = .ok (.iload_n 3, 1) := by decide +kernel
theorem dX2_areLinked_12 : decode cX2_areLinked 12 = .ok (.iload_n 1, 1) := by decide +kernel
theorem dX2_areLinked_13 : decode cX2_areLinked 13 = .ok (.invokevirtual 42, 3) := by decide +kernel
theorem dX2_areLinked_16 : decode cX2_areLinked 16 = .ok (.iload_n 2, 1) := by decide +kernel
theorem dX2_areLinked_17 : decode cX2_areLinked 17 = .ok (.if_icmp .ne 5, 3) := by decide +kernel
theorem dX2_areLinked_20 : decode cX2_areLinked 20 = .ok (.iconst 1, 1) := by decide +kernel
theorem dX2_areLinked_21 : decode cX2_areLinked 21 = .ok (.ireturn, 1) := by decide +kernel
theorem dX2_areLinked_22 : decode cX2_areLinked 22 = .ok (.iinc 3 1, 3) := by decide +kernel
theorem dX2_areLinked_25 : decode cX2_areLinked 25 = .ok (.goto (-23), 3) := by decide +kernel
theorem dX2_areLinked_28 : decode cX2_areLinked 28 = .ok (.iconst 0, 1) := by decide +kernel
theorem dX2_areLinked_29 : decode cX2_areLinked 29 = .ok (.ireturn, 1) := by decide +kernel
def F_X2_areLinked_2  (K2 : Int32 → Int32 → Int32 → Mm → Prop) (q : Bool → Mm → Prop) (x1 : Int32) (x2 : Int32) (x3 : Int32) (μ : Mm) : Prop :=
  (((μ p_GR 7) ≤ x3 → q false μ) ∧ (¬ ((μ p_GR 7) ≤ x3) → Wp_X2_beyond x3 x1 μ (fun z2 μ1 => ((¬ (z2 = x2) → K2 x1 x2 (x3 + (1 : Int32)) μ1) ∧ (z2 = x2 → q true μ1)))))
def F_X2_areLinked_e  (K2 : Int32 → Int32 → Int32 → Mm → Prop) (q : Bool → Mm → Prop) (x1 : Int32) (x2 : Int32) (μ : Mm) : Prop :=
  K2 x1 x2 (0 : Int32) μ
def Wp_X2_areLinked  (x1 : Int32) (x2 : Int32) (μ : Mm) (q : Bool → Mm → Prop) : Prop := ∀ (K2 : Int32 → Int32 → Int32 → Mm → Prop), (∀ (x1 : Int32) (x2 : Int32) (x3 : Int32) (μ : Mm), F_X2_areLinked_2  K2 q x1 x2 x3 μ → K2 x1 x2 x3 μ) → F_X2_areLinked_e  K2 q x1 x2 μ
abbrev KK_X2_areLinked_2 (g : GE) (f : FE)  : Int32 → Int32 → Int32 → Mm → Prop := fun x1 x2 x3 μ => KW g f 4 0 0 2 [some (.ref p_GR), some (.int x1), some (.int x2), some (.int x3)] [] μ
set_option maxHeartbeats 2000000 in
theorem b_X2_areLinked_2  {g : GE} {f : FE} {q : Bool → Mm → Prop} (cx : Cx g f cX2_areLinked 4 RX2 1 22 0 0) (hr : (f_M f).sig.returnType = (some .boolean)) (hl : (f_M f).locks = false) (hQ : f_Q f = MQ (f_b f) (QW g (qZ q)) (f_a f) (f_s f) 0 0 (fun q => g.2.2.2.1 ≤ q))  {x1 : Int32} {x2 : Int32} {x3 : Int32} {μ : Mm} (h : F_X2_areLinked_2  (KK_X2_areLinked_2 g f ) q x1 x2 x3 μ) : KK_X2_areLinked_2 g f  x1 x2 x3 μ := by
  unfold F_X2_areLinked_2 at h
  show KW g f 4 0 0 2 [some (.ref p_GR), some (.int x1), some (.int x2), some (.int x3)] [] μ
  refine k_iload_n cx dX2_areLinked_2 rfl rfl ?_
  refine k_aload_n cx dX2_areLinked_3 rfl rfl ?_
  refine k_get (o := none) (v := .int (μ p_GR 7)) cx fl_X2_36 ob_GR rfl rfl dX2_areLinked_4 ?_
  refine k_icmp_ge (tgt := 28) cx dX2_areLinked_7 (by decide) (fun hc => ?_) (fun hc => ?_)
  · replace h := h.1 hc
    refine k_iconst (v := (0 : Int32)) cx dX2_areLinked_28 (by decide +kernel) ?_
    exact k_ret_Z (b := false) cx hr hl hQ dX2_areLinked_29 rfl h
  · replace h := h.2 hc
    refine k_aload_n cx dX2_areLinked_10 rfl rfl ?_
    refine k_iload_n cx dX2_areLinked_11 rfl rfl ?_
    refine k_iload_n cx dX2_areLinked_12 rfl rfl ?_
    refine k_callV (As := [.int x3, .int x1]) (rest := []) cx (m_X2_beyond h) cv_X2_42 ob_GR rfl rfl rfl rfl (Nat.le_of_ble_eq_true rfl) ⟨Nat.le_of_ble_eq_true rfl, Nat.le_of_ble_eq_true rfl⟩ dX2_areLinked_13 (fun v μ1 hq => ?_)
    obtain ⟨z2, rfl, h⟩ := hq
    refine k_iload_n cx dX2_areLinked_16 rfl rfl ?_
    refine k_icmp_ne (tgt := 22) cx dX2_areLinked_17 (by decide) (fun hc => ?_) (fun hc => ?_)
    · replace h := h.1 hc
      refine k_iinc (v := (x3 + (1 : Int32))) cx dX2_areLinked_22 rfl rfl (by decide) ?_
      refine k_goto (tgt := 2) cx dX2_areLinked_25 (by decide) ?_
      exact k_weak h (lsLe.keep (lsLe.keep (lsLe.keep (lsLe.keep lsLe.nil))))
    · replace h := h.2 hc
      refine k_iconst (v := (1 : Int32)) cx dX2_areLinked_20 (by decide +kernel) ?_
      exact k_ret_Z (b := true) cx hr hl hQ dX2_areLinked_21 rfl h
set_option maxHeartbeats 2000000 in
theorem b_X2_areLinked_e  {g : GE} {f : FE} {q : Bool → Mm → Prop} (cx : Cx g f cX2_areLinked 4 RX2 1 22 0 0) (hr : (f_M f).sig.returnType = (some .boolean)) (hl : (f_M f).locks = false) (hQ : f_Q f = MQ (f_b f) (QW g (qZ q)) (f_a f) (f_s f) 0 0 (fun q => g.2.2.2.1 ≤ q))  {x1 : Int32} {x2 : Int32} {μ : Mm} (h : F_X2_areLinked_e  (KK_X2_areLinked_2 g f ) q x1 x2 μ) : KW g f 4 0 0 0 [some (.ref p_GR), some (.int x1), some (.int x2), none] [] μ := by
  unfold F_X2_areLinked_e at h
  refine k_iconst (v := (0 : Int32)) cx dX2_areLinked_0 (by decide +kernel) ?_
  refine k_istore_n cx dX2_areLinked_1 rfl (by decide) ?_
  exact k_weak h (lsLe.keep (lsLe.keep (lsLe.keep (lsLe.keep lsLe.nil))))
theorem m_X2_areLinked {g : GE} {l : Launch} {μ : Mm} {q : Bool → Mm → Prop} {x1 : Int32} {x2 : Int32}  (h : Wp_X2_areLinked  x1 x2 μ q) : MW g l yX2_areLinked cX2_areLinked 4 (some .boolean) 1 22 [.ref p_GR, .int x1, .int x2] μ (qZ q) := by
  refine met_of (by decide) (Nat.le_of_ble_eq_true rfl) (by intro v hv; simp only [List.mem_cons, List.not_mem_nil, or_false] at hv; rcases hv with rfl | rfl | rfl <;> rfl) ?_
  intro f hfl cx hr hl hQ
  exact b_X2_areLinked_e  cx hr hl hQ (h (KK_X2_areLinked_2 g f ) (fun _ _ _ _ h => b_X2_areLinked_2  cx hr hl hQ h))
theorem dX2_countOfWays_0 : decode cX2_countOfWays 0 = .ok (.iload_n 1, 1) := by decide +kernel
theorem dX2_countOfWays_1 : decode cX2_countOfWays 1 = .ok (.ifCond .lt 21, 3) := by decide +kernel
theorem dX2_countOfWays_4 : decode cX2_countOfWays 4 = .ok (.iload_n 1, 1) := by decide +kernel
theorem dX2_countOfWays_5 : decode cX2_countOfWays 5 = .ok (.aload_n 0, 1) := by decide +kernel
theorem dX2_countOfWays_6 : decode cX2_countOfWays 6 = .ok (.getfield 29, 3) := by decide +kernel
theorem dX2_countOfWays_9 : decode cX2_countOfWays 9 = .ok (.arraylength, 1) := by decide +kernel
theorem dX2_countOfWays_10 : decode cX2_countOfWays 10 = .ok (.if_icmp .ge 12, 3) := by decide +kernel
theorem dX2_countOfWays_13 : decode cX2_countOfWays 13 = .ok (.aload_n 0, 1) := by decide +kernel
theorem dX2_countOfWays_14 : decode cX2_countOfWays 14 = .ok (.getfield 29, 3) := by decide +kernel
theorem dX2_countOfWays_17 : decode cX2_countOfWays 17 = .ok (.iload_n 1, 1) := by decide +kernel
theorem dX2_countOfWays_18 : decode cX2_countOfWays 18 = .ok (.iaload, 1) := by decide +kernel
theorem dX2_countOfWays_19 : decode cX2_countOfWays 19 = .ok (.goto 4, 3) := by decide +kernel
theorem dX2_countOfWays_22 : decode cX2_countOfWays 22 = .ok (.iconst 0, 1) := by decide +kernel
theorem dX2_countOfWays_23 : decode cX2_countOfWays 23 = .ok (.ireturn, 1) := by decide +kernel
def F_X2_countOfWays_e   (q : Int32 → Mm → Prop) (x1 : Int32) (μ : Mm) : Prop :=
  ((x1 < 0 → q (0 : Int32) μ) ∧ (¬ (x1 < 0) → (((36 : Int32) ≤ x1 → q (0 : Int32) μ) ∧ (¬ ((36 : Int32) ≤ x1) → vp_in x1 36 ∧ q (μ p_GR_wayCounts (x1).toNatClampNeg) μ))))
def Wp_X2_countOfWays  (x1 : Int32) (μ : Mm) (q : Int32 → Mm → Prop) : Prop := F_X2_countOfWays_e   q x1 μ
set_option maxHeartbeats 2000000 in
theorem b_X2_countOfWays_e  {g : GE} {f : FE} {q : Int32 → Mm → Prop} (cx : Cx g f cX2_countOfWays 2 RX2 0 0 0 0) (hr : (f_M f).sig.returnType = (some .int)) (hl : (f_M f).locks = false) (hQ : f_Q f = MQ (f_b f) (QW g (qI q)) (f_a f) (f_s f) 0 0 (fun q => g.2.2.2.1 ≤ q))  {x1 : Int32} {μ : Mm} (h : F_X2_countOfWays_e   q x1 μ) : KW g f 2 0 0 0 [some (.ref p_GR), some (.int x1)] [] μ := by
  unfold F_X2_countOfWays_e at h
  refine k_iload_n cx dX2_countOfWays_0 rfl rfl ?_
  refine k_if_lt (tgt := 22) cx dX2_countOfWays_1 (by decide) (fun hc => ?_) (fun hc => ?_)
  · replace h := h.1 hc
    refine k_iconst (v := (0 : Int32)) cx dX2_countOfWays_22 (by decide +kernel) ?_
    exact k_ret_I cx hr hl hQ dX2_countOfWays_23 h
  · replace h := h.2 hc
    refine k_iload_n cx dX2_countOfWays_4 rfl rfl ?_
    refine k_aload_n cx dX2_countOfWays_5 rfl rfl ?_
    refine k_get (o := some p_GR_wayCounts) (v := .ref p_GR_wayCounts) cx fl_X2_29 ob_GR rfl rfl dX2_countOfWays_6 ?_
    refine k_alen (v := (36 : Int32)) (t := 0) cx ar_GR_wayCounts (by decide) rfl (by decide +kernel) dX2_countOfWays_9 ?_
    refine k_icmp_ge (tgt := 22) cx dX2_countOfWays_10 (by decide) (fun hc => ?_) (fun hc => ?_)
    · replace h := h.1 hc
      refine k_iconst (v := (0 : Int32)) cx dX2_countOfWays_22 (by decide +kernel) ?_
      exact k_ret_I cx hr hl hQ dX2_countOfWays_23 h
    · replace h := h.2 hc
      refine k_aload_n cx dX2_countOfWays_13 rfl rfl ?_
      refine k_get (o := some p_GR_wayCounts) (v := .ref p_GR_wayCounts) cx fl_X2_29 ob_GR rfl rfl dX2_countOfWays_14 ?_
      refine k_iload_n cx dX2_countOfWays_17 rfl rfl ?_
      obtain ⟨hi, h⟩ := h
      refine k_iald cx ar_GR_wayCounts hi dX2_countOfWays_18 ?_
      refine k_goto (tgt := 23) cx dX2_countOfWays_19 (by decide) ?_
      exact k_ret_I cx hr hl hQ dX2_countOfWays_23 h
theorem m_X2_countOfWays {g : GE} {l : Launch} {μ : Mm} {q : Int32 → Mm → Prop} {x1 : Int32}  (h : Wp_X2_countOfWays  x1 μ q) : MW g l yX2_countOfWays cX2_countOfWays 2 (some .int) 0 0 [.ref p_GR, .int x1] μ (qI q) := by
  refine met_of (by decide) (Nat.le_of_ble_eq_true rfl) (by intro v hv; simp only [List.mem_cons, List.not_mem_nil, or_false] at hv; rcases hv with rfl | rfl <;> rfl) ?_
  intro f hfl cx hr hl hQ
  exact b_X2_countOfWays_e  cx hr hl hQ (h  )
theorem dX2_hasLink_0 : decode cX2_hasLink 0 = .ok (.iload_n 1, 1) := by decide +kernel
theorem dX2_hasLink_1 : decode cX2_hasLink 1 = .ok (.ifCond .lt 15, 3) := by decide +kernel
theorem dX2_hasLink_4 : decode cX2_hasLink 4 = .ok (.iload_n 1, 1) := by decide +kernel
theorem dX2_hasLink_5 : decode cX2_hasLink 5 = .ok (.aload_n 0, 1) := by decide +kernel
theorem dX2_hasLink_6 : decode cX2_hasLink 6 = .ok (.getfield 36, 3) := by decide +kernel
theorem dX2_hasLink_9 : decode cX2_hasLink 9 = .ok (.if_icmp .ge 7, 3) := by decide +kernel
theorem dX2_hasLink_12 : decode cX2_hasLink 12 = .ok (.iconst 1, 1) := by decide +kernel
theorem dX2_hasLink_13 : decode cX2_hasLink 13 = .ok (.goto 4, 3) := by decide +kernel
theorem dX2_hasLink_16 : decode cX2_hasLink 16 = .ok (.iconst 0, 1) := by decide +kernel
theorem dX2_hasLink_17 : decode cX2_hasLink 17 = .ok (.ireturn, 1) := by decide +kernel
def F_X2_hasLink_e   (q : Bool → Mm → Prop) (x1 : Int32) (μ : Mm) : Prop :=
  ((x1 < 0 → q false μ) ∧ (¬ (x1 < 0) → (((μ p_GR 7) ≤ x1 → q false μ) ∧ (¬ ((μ p_GR 7) ≤ x1) → q true μ))))
def Wp_X2_hasLink  (x1 : Int32) (μ : Mm) (q : Bool → Mm → Prop) : Prop := F_X2_hasLink_e   q x1 μ
set_option maxHeartbeats 2000000 in
theorem b_X2_hasLink_e  {g : GE} {f : FE} {q : Bool → Mm → Prop} (cx : Cx g f cX2_hasLink 2 RX2 0 0 0 0) (hr : (f_M f).sig.returnType = (some .boolean)) (hl : (f_M f).locks = false) (hQ : f_Q f = MQ (f_b f) (QW g (qZ q)) (f_a f) (f_s f) 0 0 (fun q => g.2.2.2.1 ≤ q))  {x1 : Int32} {μ : Mm} (h : F_X2_hasLink_e   q x1 μ) : KW g f 2 0 0 0 [some (.ref p_GR), some (.int x1)] [] μ := by
  unfold F_X2_hasLink_e at h
  refine k_iload_n cx dX2_hasLink_0 rfl rfl ?_
  refine k_if_lt (tgt := 16) cx dX2_hasLink_1 (by decide) (fun hc => ?_) (fun hc => ?_)
  · replace h := h.1 hc
    refine k_iconst (v := (0 : Int32)) cx dX2_hasLink_16 (by decide +kernel) ?_
    exact k_ret_Z (b := false) cx hr hl hQ dX2_hasLink_17 rfl h
  · replace h := h.2 hc
    refine k_iload_n cx dX2_hasLink_4 rfl rfl ?_
    refine k_aload_n cx dX2_hasLink_5 rfl rfl ?_
    refine k_get (o := none) (v := .int (μ p_GR 7)) cx fl_X2_36 ob_GR rfl rfl dX2_hasLink_6 ?_
    refine k_icmp_ge (tgt := 16) cx dX2_hasLink_9 (by decide) (fun hc => ?_) (fun hc => ?_)
    · replace h := h.1 hc
      refine k_iconst (v := (0 : Int32)) cx dX2_hasLink_16 (by decide +kernel) ?_
      exact k_ret_Z (b := false) cx hr hl hQ dX2_hasLink_17 rfl h
    · replace h := h.2 hc
      refine k_iconst (v := (1 : Int32)) cx dX2_hasLink_12 (by decide +kernel) ?_
      refine k_goto (tgt := 17) cx dX2_hasLink_13 (by decide) ?_
      exact k_ret_Z (b := true) cx hr hl hQ dX2_hasLink_17 rfl h
theorem m_X2_hasLink {g : GE} {l : Launch} {μ : Mm} {q : Bool → Mm → Prop} {x1 : Int32}  (h : Wp_X2_hasLink  x1 μ q) : MW g l yX2_hasLink cX2_hasLink 2 (some .boolean) 0 0 [.ref p_GR, .int x1] μ (qZ q) := by
  refine met_of (by decide) (Nat.le_of_ble_eq_true rfl) (by intro v hv; simp only [List.mem_cons, List.not_mem_nil, or_false] at hv; rcases hv with rfl | rfl <;> rfl) ?_
  intro f hfl cx hr hl hQ
  exact b_X2_hasLink_e  cx hr hl hQ (h  )
theorem dX2_setFailed_0 : decode cX2_setFailed 0 = .ok (.aload_n 0, 1) := by decide +kernel
theorem dX2_setFailed_1 : decode cX2_setFailed 1 = .ok (.iload_n 2, 1) := by decide +kernel
theorem dX2_setFailed_2 : decode cX2_setFailed 2 = .ok (.ifCond .eq 14, 3) := by decide +kernel
theorem dX2_setFailed_5 : decode cX2_setFailed 5 = .ok (.aload_n 0, 1) := by decide +kernel
theorem dX2_setFailed_6 : decode cX2_setFailed 6 = .ok (.getfield 46, 3) := by decide +kernel
theorem dX2_setFailed_9 : decode cX2_setFailed 9 = .ok (.iconst 1, 1) := by decide +kernel
theorem dX2_setFailed_10 : decode cX2_setFailed 10 = .ok (.iload_n 1, 1) := by decide +kernel
theorem dX2_setFailed_11 : decode cX2_setFailed 11 = .ok (.ishl, 1) := by decide +kernel
theorem dX2_setFailed_12 : decode cX2_setFailed 12 = .ok (.ior, 1) := by decide +kernel
theorem dX2_setFailed_13 : decode cX2_setFailed 13 = .ok (.goto 13, 3) := by decide +kernel
theorem dX2_setFailed_16 : decode cX2_setFailed 16 = .ok (.aload_n 0, 1) := by decide +kernel
theorem dX2_setFailed_17 : decode cX2_setFailed 17 = .ok (.getfield 46, 3) := by decide +kernel
theorem dX2_setFailed_20 : decode cX2_setFailed 20 = .ok (.iconst 1, 1) := by decide +kernel
theorem dX2_setFailed_21 : decode cX2_setFailed 21 = .ok (.iload_n 1, 1) := by decide +kernel
theorem dX2_setFailed_22 : decode cX2_setFailed 22 = .ok (.ishl, 1) := by decide +kernel
theorem dX2_setFailed_23 : decode cX2_setFailed 23 = .ok (.iconst (-1), 1) := by decide +kernel
theorem dX2_setFailed_24 : decode cX2_setFailed 24 = .ok (.ixor, 1) := by decide +kernel
theorem dX2_setFailed_25 : decode cX2_setFailed 25 = .ok (.iand, 1) := by decide +kernel
theorem dX2_setFailed_26 : decode cX2_setFailed 26 = .ok (.putfield 46, 3) := by decide +kernel
theorem dX2_setFailed_29 : decode cX2_setFailed 29 = .ok (.aload_n 0, 1) := by decide +kernel
theorem dX2_setFailed_30 : decode cX2_setFailed 30 = .ok (.invokevirtual 39, 3) := by decide +kernel
theorem dX2_setFailed_33 : decode cX2_setFailed 33 = .ok (.return_, 1) := by decide +kernel
def F_X2_setFailed_e   (q : Mm → Prop) (x1 : Int32) (x2 : Int32) (μ : Mm) : Prop :=
  ((x2 = 0 → Wp_X2_findWays (up2 μ p_GR 8 ((μ p_GR 8) &&& (((1 : Int32) <<< (x1 &&& 31)) ^^^ (-1 : Int32)))) (fun μ1 => q μ1)) ∧ (¬ (x2 = 0) → Wp_X2_findWays (up2 μ p_GR 8 ((μ p_GR 8) ||| ((1 : Int32) <<< (x1 &&& 31)))) (fun μ2 => q μ2)))
def Wp_X2_setFailed  (x1 : Int32) (x2 : Int32) (μ : Mm) (q : Mm → Prop) : Prop := F_X2_setFailed_e   q x1 x2 μ
set_option maxHeartbeats 2000000 in
theorem b_X2_setFailed_e  {g : GE} {f : FE} {q : Mm → Prop} (cx : Cx g f cX2_setFailed 3 RX2 9 225 0 0) (hr : (f_M f).sig.returnType = none) (hl : (f_M f).locks = false) (hQ : f_Q f = MQ (f_b f) (QW g (qV q)) (f_a f) (f_s f) 0 0 (fun q => g.2.2.2.1 ≤ q))  {x1 : Int32} {x2 : Int32} {μ : Mm} (h : F_X2_setFailed_e   q x1 x2 μ) : KW g f 3 0 0 0 [some (.ref p_GR), some (.int x1), some (.int x2)] [] μ := by
  unfold F_X2_setFailed_e at h
  refine k_aload_n cx dX2_setFailed_0 rfl rfl ?_
  refine k_iload_n cx dX2_setFailed_1 rfl rfl ?_
  refine k_if_eq (tgt := 16) cx dX2_setFailed_2 (by decide) (fun hc => ?_) (fun hc => ?_)
  · replace h := h.1 hc
    refine k_aload_n cx dX2_setFailed_16 rfl rfl ?_
    refine k_get (o := none) (v := .int (μ p_GR 8)) cx fl_X2_46 ob_GR rfl rfl dX2_setFailed_17 ?_
    refine k_iconst (v := (1 : Int32)) cx dX2_setFailed_20 (by decide +kernel) ?_
    refine k_iload_n cx dX2_setFailed_21 rfl rfl ?_
    refine k_ishl cx dX2_setFailed_22 ?_
    refine k_iconst (v := (-1 : Int32)) cx dX2_setFailed_23 (by decide +kernel) ?_
    refine k_ixor cx dX2_setFailed_24 ?_
    refine k_iand cx dX2_setFailed_25 ?_
    refine k_put cx fp_X2_46 ob_GR rfl rfl rfl dX2_setFailed_26 ?_
    refine k_aload_n cx dX2_setFailed_29 rfl rfl ?_
    refine k_callV (As := []) (rest := []) cx (m_X2_findWays h) cv_X2_39 ob_GR rfl rfl rfl rfl (Nat.le_of_ble_eq_true rfl) ⟨Nat.le_of_ble_eq_true rfl, Nat.le_of_ble_eq_true rfl⟩ dX2_setFailed_30 (fun v μ1 hq => ?_)
    obtain ⟨rfl, h⟩ := hq
    exact k_ret_V cx hr hl hQ dX2_setFailed_33 h
  · replace h := h.2 hc
    refine k_aload_n cx dX2_setFailed_5 rfl rfl ?_
    refine k_get (o := none) (v := .int (μ p_GR 8)) cx fl_X2_46 ob_GR rfl rfl dX2_setFailed_6 ?_
    refine k_iconst (v := (1 : Int32)) cx dX2_setFailed_9 (by decide +kernel) ?_
    refine k_iload_n cx dX2_setFailed_10 rfl rfl ?_
    refine k_ishl cx dX2_setFailed_11 ?_
    refine k_ior cx dX2_setFailed_12 ?_
    refine k_goto (tgt := 26) cx dX2_setFailed_13 (by decide) ?_
    refine k_put cx fp_X2_46 ob_GR rfl rfl rfl dX2_setFailed_26 ?_
    refine k_aload_n cx dX2_setFailed_29 rfl rfl ?_
    refine k_callV (As := []) (rest := []) cx (m_X2_findWays h) cv_X2_39 ob_GR rfl rfl rfl rfl (Nat.le_of_ble_eq_true rfl) ⟨Nat.le_of_ble_eq_true rfl, Nat.le_of_ble_eq_true rfl⟩ dX2_setFailed_30 (fun v μ2 hq => ?_)
    obtain ⟨rfl, h⟩ := hq
    exact k_ret_V cx hr hl hQ dX2_setFailed_33 h
theorem m_X2_setFailed {g : GE} {l : Launch} {μ : Mm} {q : Mm → Prop} {x1 : Int32} {x2 : Int32}  (h : Wp_X2_setFailed  x1 x2 μ q) : MW g l yX2_setFailed cX2_setFailed 3 none 9 225 [.ref p_GR, .int x1, .int x2] μ (qV q) := by
  refine met_of (by decide) (Nat.le_of_ble_eq_true rfl) (by intro v hv; simp only [List.mem_cons, List.not_mem_nil, or_false] at hv; rcases hv with rfl | rfl | rfl <;> rfl) ?_
  intro f hfl cx hr hl hQ
  exact b_X2_setFailed_e  cx hr hl hQ (h  )
theorem dX2_wayOf_0 : decode cX2_wayOf 0 = .ok (.iload_n 1, 1) := by decide +kernel
theorem dX2_wayOf_1 : decode cX2_wayOf 1 = .ok (.ifCond .lt 26, 3) := by decide +kernel
theorem dX2_wayOf_4 : decode cX2_wayOf 4 = .ok (.iload_n 1, 1) := by decide +kernel
theorem dX2_wayOf_5 : decode cX2_wayOf 5 = .ok (.aload_n 0, 1) := by decide +kernel
theorem dX2_wayOf_6 : decode cX2_wayOf 6 = .ok (.getfield 26, 3) := by decide +kernel
theorem dX2_wayOf_9 : decode cX2_wayOf 9 = .ok (.arraylength, 1) := by decide +kernel
theorem dX2_wayOf_10 : decode cX2_wayOf 10 = .ok (.if_icmp .ge 17, 3) := by decide +kernel
theorem dX2_wayOf_13 : decode cX2_wayOf 13 = .ok (.iload_n 2, 1) := by decide +kernel
theorem dX2_wayOf_14 : decode cX2_wayOf 14 = .ok (.ifCond .lt 13, 3) := by decide +kernel
theorem dX2_wayOf_17 : decode cX2_wayOf 17 = .ok (.iload_n 2, 1) := by decide +kernel
theorem dX2_wayOf_18 : decode cX2_wayOf 18 = .ok (.bipush 15, 2) := by decide +kernel
theorem dX2_wayOf_20 : decode cX2_wayOf 20 = .ok (.if_icmp .ge 7, 3) := by decide +kernel
theorem dX2_wayOf_23 : decode cX2_wayOf 23 = .ok (.iconst 1, 1) := by decide +kernel
theorem dX2_wayOf_24 : decode cX2_wayOf 24 = .ok (.goto 4, 3) := by decide +kernel
theorem dX2_wayOf_27 : decode cX2_wayOf 27 = .ok (.iconst 0, 1) := by decide +kernel
theorem dX2_wayOf_28 : decode cX2_wayOf 28 = .ok (.istore_n 3, 1) := by decide +kernel
theorem dX2_wayOf_29 : decode cX2_wayOf 29 = .ok (.iload_n 3, 1) := by decide +kernel
theorem dX2_wayOf_30 : decode cX2_wayOf 30 = .ok (.ifCond .eq 14, 3) := by decide +kernel
theorem dX2_wayOf_33 : decode cX2_wayOf 33 = .ok (.aload_n 0, 1) := by decide +kernel
theorem dX2_wayOf_34 : decode cX2_wayOf 34 = .ok (.getfield 26, 3) := by decide +kernel
theorem dX2_wayOf_37 : decode cX2_wayOf 37 = .ok (.iload_n 1, 1) := by decide +kernel
theorem dX2_wayOf_38 : decode cX2_wayOf 38 = .ok (.aaload, 1) := by decide +kernel
theorem dX2_wayOf_39 : decode cX2_wayOf 39 = .ok (.iload_n 2, 1) := by decide +kernel
theorem dX2_wayOf_40 : decode cX2_wayOf 40 = .ok (.iaload, 1) := by decide +kernel
theorem dX2_wayOf_41 : decode cX2_wayOf 41 = .ok (.goto 4, 3) := by decide +kernel
theorem dX2_wayOf_44 : decode cX2_wayOf 44 = .ok (.iconst 0, 1) := by decide +kernel
theorem dX2_wayOf_45 : decode cX2_wayOf 45 = .ok (.ireturn, 1) := by decide +kernel
def F_X2_wayOf_28  (K28 : Int32 → Int32 → Int32 → Mm → Prop) (q : Int32 → Mm → Prop) (x1 : Int32) (x2 : Int32) (y0 : Int32) (μ : Mm) : Prop :=
  ((y0 = 0 → q (0 : Int32) μ) ∧ (¬ (y0 = 0) → vp_in x1 36 ∧ vp_in x2 15 ∧ q (μ (p_WY + (x1).toNatClampNeg) (x2).toNatClampNeg) μ))
def F_X2_wayOf_e  (K28 : Int32 → Int32 → Int32 → Mm → Prop) (q : Int32 → Mm → Prop) (x1 : Int32) (x2 : Int32) (μ : Mm) : Prop :=
  ((x1 < 0 → K28 x1 x2 (0 : Int32) μ) ∧ (¬ (x1 < 0) → (((36 : Int32) ≤ x1 → K28 x1 x2 (0 : Int32) μ) ∧ (¬ ((36 : Int32) ≤ x1) → ((x2 < 0 → K28 x1 x2 (0 : Int32) μ) ∧ (¬ (x2 < 0) → (((15 : Int32) ≤ x2 → K28 x1 x2 (0 : Int32) μ) ∧ (¬ ((15 : Int32) ≤ x2) → K28 x1 x2 (1 : Int32) μ))))))))
def Wp_X2_wayOf  (x1 : Int32) (x2 : Int32) (μ : Mm) (q : Int32 → Mm → Prop) : Prop := ∀ (K28 : Int32 → Int32 → Int32 → Mm → Prop), (∀ (x1 : Int32) (x2 : Int32) (y0 : Int32) (μ : Mm), F_X2_wayOf_28  K28 q x1 x2 y0 μ → K28 x1 x2 y0 μ) → F_X2_wayOf_e  K28 q x1 x2 μ
abbrev KK_X2_wayOf_28 (g : GE) (f : FE)  : Int32 → Int32 → Int32 → Mm → Prop := fun x1 x2 y0 μ => KW g f 4 0 0 28 [some (.ref p_GR), some (.int x1), some (.int x2), none] [.int y0] μ
set_option maxHeartbeats 2000000 in
theorem b_X2_wayOf_28  {g : GE} {f : FE} {q : Int32 → Mm → Prop} (cx : Cx g f cX2_wayOf 4 RX2 0 0 0 0) (hr : (f_M f).sig.returnType = (some .int)) (hl : (f_M f).locks = false) (hQ : f_Q f = MQ (f_b f) (QW g (qI q)) (f_a f) (f_s f) 0 0 (fun q => g.2.2.2.1 ≤ q))  {x1 : Int32} {x2 : Int32} {y0 : Int32} {μ : Mm} (h : F_X2_wayOf_28  (KK_X2_wayOf_28 g f ) q x1 x2 y0 μ) : KK_X2_wayOf_28 g f  x1 x2 y0 μ := by
  unfold F_X2_wayOf_28 at h
  show KW g f 4 0 0 28 [some (.ref p_GR), some (.int x1), some (.int x2), none] [.int y0] μ
  refine k_istore_n cx dX2_wayOf_28 rfl (by decide) ?_
  refine k_iload_n cx dX2_wayOf_29 rfl rfl ?_
  refine k_if_eq (tgt := 44) cx dX2_wayOf_30 (by decide) (fun hc => ?_) (fun hc => ?_)
  · replace h := h.1 hc
    refine k_iconst (v := (0 : Int32)) cx dX2_wayOf_44 (by decide +kernel) ?_
    exact k_ret_I cx hr hl hQ dX2_wayOf_45 h
  · replace h := h.2 hc
    refine k_aload_n cx dX2_wayOf_33 rfl rfl ?_
    refine k_get (o := some p_GR_ways) (v := .ref p_GR_ways) cx fl_X2_26 ob_GR rfl rfl dX2_wayOf_34 ?_
    refine k_iload_n cx dX2_wayOf_37 rfl rfl ?_
    obtain ⟨hi1, h⟩ := h
    refine k_aald_GR_ways cx hi1 dX2_wayOf_38 ?_
    refine k_iload_n cx dX2_wayOf_39 rfl rfl ?_
    obtain ⟨hi, h⟩ := h
    refine k_iald cx (ar_WY hi1) hi dX2_wayOf_40 ?_
    refine k_goto (tgt := 45) cx dX2_wayOf_41 (by decide) ?_
    exact k_ret_I cx hr hl hQ dX2_wayOf_45 h
set_option maxHeartbeats 2000000 in
theorem b_X2_wayOf_e  {g : GE} {f : FE} {q : Int32 → Mm → Prop} (cx : Cx g f cX2_wayOf 4 RX2 0 0 0 0) (hr : (f_M f).sig.returnType = (some .int)) (hl : (f_M f).locks = false) (hQ : f_Q f = MQ (f_b f) (QW g (qI q)) (f_a f) (f_s f) 0 0 (fun q => g.2.2.2.1 ≤ q))  {x1 : Int32} {x2 : Int32} {μ : Mm} (h : F_X2_wayOf_e  (KK_X2_wayOf_28 g f ) q x1 x2 μ) : KW g f 4 0 0 0 [some (.ref p_GR), some (.int x1), some (.int x2), none] [] μ := by
  unfold F_X2_wayOf_e at h
  refine k_iload_n cx dX2_wayOf_0 rfl rfl ?_
  refine k_if_lt (tgt := 27) cx dX2_wayOf_1 (by decide) (fun hc => ?_) (fun hc => ?_)
  · replace h := h.1 hc
    refine k_iconst (v := (0 : Int32)) cx dX2_wayOf_27 (by decide +kernel) ?_
    exact k_weak h (lsLe.keep (lsLe.keep (lsLe.keep (lsLe.keep lsLe.nil))))
  · replace h := h.2 hc
    refine k_iload_n cx dX2_wayOf_4 rfl rfl ?_
    refine k_aload_n cx dX2_wayOf_5 rfl rfl ?_
    refine k_get (o := some p_GR_ways) (v := .ref p_GR_ways) cx fl_X2_26 ob_GR rfl rfl dX2_wayOf_6 ?_
    refine k_alenR (v := (36 : Int32)) cx ar_GR_ways rfl (by decide +kernel) dX2_wayOf_9 ?_
    refine k_icmp_ge (tgt := 27) cx dX2_wayOf_10 (by decide) (fun hc => ?_) (fun hc => ?_)
    · replace h := h.1 hc
      refine k_iconst (v := (0 : Int32)) cx dX2_wayOf_27 (by decide +kernel) ?_
      exact k_weak h (lsLe.keep (lsLe.keep (lsLe.keep (lsLe.keep lsLe.nil))))
    · replace h := h.2 hc
      refine k_iload_n cx dX2_wayOf_13 rfl rfl ?_
      refine k_if_lt (tgt := 27) cx dX2_wayOf_14 (by decide) (fun hc => ?_) (fun hc => ?_)
      · replace h := h.1 hc
        refine k_iconst (v := (0 : Int32)) cx dX2_wayOf_27 (by decide +kernel) ?_
        exact k_weak h (lsLe.keep (lsLe.keep (lsLe.keep (lsLe.keep lsLe.nil))))
      · replace h := h.2 hc
        refine k_iload_n cx dX2_wayOf_17 rfl rfl ?_
        refine k_bipush (v := (15 : Int32)) cx dX2_wayOf_18 (by decide +kernel) ?_
        refine k_icmp_ge (tgt := 27) cx dX2_wayOf_20 (by decide) (fun hc => ?_) (fun hc => ?_)
        · replace h := h.1 hc
          refine k_iconst (v := (0 : Int32)) cx dX2_wayOf_27 (by decide +kernel) ?_
          exact k_weak h (lsLe.keep (lsLe.keep (lsLe.keep (lsLe.keep lsLe.nil))))
        · replace h := h.2 hc
          refine k_iconst (v := (1 : Int32)) cx dX2_wayOf_23 (by decide +kernel) ?_
          refine k_goto (tgt := 28) cx dX2_wayOf_24 (by decide) ?_
          exact k_weak h (lsLe.keep (lsLe.keep (lsLe.keep (lsLe.keep lsLe.nil))))
theorem m_X2_wayOf {g : GE} {l : Launch} {μ : Mm} {q : Int32 → Mm → Prop} {x1 : Int32} {x2 : Int32}  (h : Wp_X2_wayOf  x1 x2 μ q) : MW g l yX2_wayOf cX2_wayOf 4 (some .int) 0 0 [.ref p_GR, .int x1, .int x2] μ (qI q) := by
  refine met_of (by decide) (Nat.le_of_ble_eq_true rfl) (by intro v hv; simp only [List.mem_cons, List.not_mem_nil, or_false] at hv; rcases hv with rfl | rfl | rfl <;> rfl) ?_
  intro f hfl cx hr hl hQ
  exact b_X2_wayOf_e  cx hr hl hQ (h (KK_X2_wayOf_28 g f ) (fun _ _ _ _ h => b_X2_wayOf_28  cx hr hl hQ h))
theorem dX2_shortest_0 : decode cX2_shortest 0 = .ok (.iconst 0, 1) := by decide +kernel
theorem dX2_shortest_1 : decode cX2_shortest 1 = .ok (.istore_n 3, 1) := by decide +kernel
theorem dX2_shortest_2 : decode cX2_shortest 2 = .ok (.aload_n 0, 1) := by decide +kernel
theorem dX2_shortest_3 : decode cX2_shortest 3 = .ok (.iload_n 1, 1) := by decide +kernel
theorem dX2_shortest_4 : decode cX2_shortest 4 = .ok (.invokevirtual 66, 3) := by decide +kernel
theorem dX2_shortest_7 : decode cX2_shortest 7 = .ok (.istore 4, 2) := by decide +kernel
theorem dX2_shortest_9 : decode cX2_shortest 9 = .ok (.iconst 0, 1) := by decide +kernel
theorem dX2_shortest_10 : decode cX2_shortest 10 = .ok (.istore 5, 2) := by decide +kernel
theorem dX2_shortest_12 : decode cX2_shortest 12 = .ok (.iload 5, 2) := by decide +kernel
theorem dX2_shortest_14 : decode cX2_shortest 14 = .ok (.iload 4, 2) := by decide +kernel
theorem dX2_shortest_16 : decode cX2_shortest 16 = .ok (.if_icmp .ge 58, 3) := by decide +kernel
theorem dX2_shortest_19 : decode cX2_shortest 19 = .ok (.aload_n 0, 1) := by decide +kernel
theorem dX2_shortest_20 : decode cX2_shortest 20 = .ok (.iload_n 1, 1) := by decide +kernel
theorem dX2_shortest_21 : decode cX2_shortest 21 = .ok (.iload 5, 2) := by decide +kernel
theorem dX2_shortest_23 : decode cX2_shortest 23 = .ok (.invokevirtual 69, 3) := by decide +kernel
theorem dX2_shortest_26 : decode cX2_shortest 26 = .ok (.istore 6, 2) := by decide +kernel
theorem dX2_shortest_28 : decode cX2_shortest 28 = .ok (.iload_n 3, 1) := by decide +kernel
theorem dX2_shortest_29 : decode cX2_shortest 29 = .ok (.ifCond .eq 15, 3) := by decide +kernel
theorem dX2_shortest_32 : decode cX2_shortest 32 = .ok (.iload 6, 2) := by decide +kernel
theorem dX2_shortest_34 : decode cX2_shortest 34 = .ok (.invokestatic 53, 3) := by decide +kernel
theorem dX2_shortest_37 : decode cX2_shortest 37 = .ok (.iload_n 3, 1) := by decide +kernel
theorem dX2_shortest_38 : decode cX2_shortest 38 = .ok (.invokestatic 53, 3) := by decide +kernel
theorem dX2_shortest_41 : decode cX2_shortest 41 = .ok (.if_icmp .ge 7, 3) := by decide +kernel
theorem dX2_shortest_44 : decode cX2_shortest 44 = .ok (.iconst 1, 1) := by decide +kernel
theorem dX2_shortest_45 : decode cX2_shortest 45 = .ok (.goto 4, 3) := by decide +kernel
theorem dX2_shortest_48 : decode cX2_shortest 48 = .ok (.iconst 0, 1) := by decide +kernel
theorem dX2_shortest_49 : decode cX2_shortest 49 = .ok (.istore 7, 2) := by decide +kernel
theorem dX2_shortest_51 : decode cX2_shortest 51 = .ok (.iload 7, 2) := by decide +kernel
theorem dX2_shortest_53 : decode cX2_shortest 53 = .ok (.ifCond .eq 15, 3) := by decide +kernel
theorem dX2_shortest_56 : decode cX2_shortest 56 = .ok (.iload 6, 2) := by decide +kernel
theorem dX2_shortest_58 : decode cX2_shortest 58 = .ok (.iload_n 2, 1) := by decide +kernel
theorem dX2_shortest_59 : decode cX2_shortest 59 = .ok (.iconst (-1), 1) := by decide +kernel
theorem dX2_shortest_60 : decode cX2_shortest 60 = .ok (.ixor, 1) := by decide +kernel
theorem dX2_shortest_61 : decode cX2_shortest 61 = .ok (.iand, 1) := by decide +kernel
theorem dX2_shortest_62 : decode cX2_shortest 62 = .ok (.ifCond .ne 6, 3) := by decide +kernel
theorem dX2_shortest_65 : decode cX2_shortest 65 = .ok (.iload 6, 2) := by decide +kernel
theorem dX2_shortest_67 : decode cX2_shortest 67 = .ok (.istore_n 3, 1) := by decide +kernel
theorem dX2_shortest_68 : decode cX2_shortest 68 = .ok (.iinc 5 1, 3) := by decide +kernel
theorem dX2_shortest_71 : decode cX2_shortest 71 = .ok (.goto (-59), 3) := by decide +kernel
theorem dX2_shortest_74 : decode cX2_shortest 74 = .ok (.iload_n 3, 1) := by decide +kernel
theorem dX2_shortest_75 : decode cX2_shortest 75 = .ok (.ireturn, 1) := by decide +kernel
def F_X2_shortest_12  (K12 : Int32 → Int32 → Int32 → Int32 → Int32 → Mm → Prop) (K49 : Int32 → Int32 → Int32 → Int32 → Int32 → Int32 → Int32 → Mm → Prop) (q : Int32 → Mm → Prop) (x1 : Int32) (x2 : Int32) (x3 : Int32) (x4 : Int32) (x5 : Int32) (μ : Mm) : Prop :=
  ((x4 ≤ x5 → q x3 μ) ∧ (¬ (x4 ≤ x5) → Wp_X2_wayOf x1 x5 μ (fun z2 μ1 => ((x3 = 0 → K49 x1 x2 x3 x4 x5 z2 (1 : Int32) μ1) ∧ (¬ (x3 = 0) → Wp_J6_bitCount_0f7a4 z2 μ1 (fun z4 μ3 => Wp_J6_bitCount_0f7a4 x3 μ3 (fun z6 μ5 => ((z6 ≤ z4 → K49 x1 x2 x3 x4 x5 z2 (0 : Int32) μ5) ∧ (¬ (z6 ≤ z4) → K49 x1 x2 x3 x4 x5 z2 (1 : Int32) μ5)))))))))
def F_X2_shortest_49  (K12 : Int32 → Int32 → Int32 → Int32 → Int32 → Mm → Prop) (K49 : Int32 → Int32 → Int32 → Int32 → Int32 → Int32 → Int32 → Mm → Prop) (q : Int32 → Mm → Prop) (x1 : Int32) (x2 : Int32) (x3 : Int32) (x4 : Int32) (x5 : Int32) (x6 : Int32) (y0 : Int32) (μ : Mm) : Prop :=
  ((y0 = 0 → K12 x1 x2 x3 x4 (x5 + (1 : Int32)) μ) ∧ (¬ (y0 = 0) → ((¬ ((x6 &&& (x2 ^^^ (-1 : Int32))) = 0) → K12 x1 x2 x3 x4 (x5 + (1 : Int32)) μ) ∧ ((x6 &&& (x2 ^^^ (-1 : Int32))) = 0 → K12 x1 x2 x6 x4 (x5 + (1 : Int32)) μ))))
def F_X2_shortest_e  (K12 : Int32 → Int32 → Int32 → Int32 → Int32 → Mm → Prop) (K49 : Int32 → Int32 → Int32 → Int32 → Int32 → Int32 → Int32 → Mm → Prop) (q : Int32 → Mm → Prop) (x1 : Int32) (x2 : Int32) (μ : Mm) : Prop :=
  Wp_X2_countOfWays x1 μ (fun z2 μ1 => K12 x1 x2 (0 : Int32) z2 (0 : Int32) μ1)
def Wp_X2_shortest  (x1 : Int32) (x2 : Int32) (μ : Mm) (q : Int32 → Mm → Prop) : Prop := ∀ (K12 : Int32 → Int32 → Int32 → Int32 → Int32 → Mm → Prop) (K49 : Int32 → Int32 → Int32 → Int32 → Int32 → Int32 → Int32 → Mm → Prop), (∀ (x1 : Int32) (x2 : Int32) (x3 : Int32) (x4 : Int32) (x5 : Int32) (μ : Mm), F_X2_shortest_12  K12 K49 q x1 x2 x3 x4 x5 μ → K12 x1 x2 x3 x4 x5 μ) → (∀ (x1 : Int32) (x2 : Int32) (x3 : Int32) (x4 : Int32) (x5 : Int32) (x6 : Int32) (y0 : Int32) (μ : Mm), F_X2_shortest_49  K12 K49 q x1 x2 x3 x4 x5 x6 y0 μ → K49 x1 x2 x3 x4 x5 x6 y0 μ) → F_X2_shortest_e  K12 K49 q x1 x2 μ
abbrev KK_X2_shortest_12 (g : GE) (f : FE)  : Int32 → Int32 → Int32 → Int32 → Int32 → Mm → Prop := fun x1 x2 x3 x4 x5 μ => KW g f 8 0 0 12 [some (.ref p_GR), some (.int x1), some (.int x2), some (.int x3), some (.int x4), some (.int x5), none, none] [] μ
abbrev KK_X2_shortest_49 (g : GE) (f : FE)  : Int32 → Int32 → Int32 → Int32 → Int32 → Int32 → Int32 → Mm → Prop := fun x1 x2 x3 x4 x5 x6 y0 μ => KW g f 8 0 0 49 [some (.ref p_GR), some (.int x1), some (.int x2), some (.int x3), some (.int x4), some (.int x5), some (.int x6), none] [.int y0] μ
set_option maxHeartbeats 2000000 in
theorem b_X2_shortest_12  {g : GE} {f : FE} {q : Int32 → Mm → Prop} (cx : Cx g f cX2_shortest 8 RX2 1 23 0 0) (hr : (f_M f).sig.returnType = (some .int)) (hl : (f_M f).locks = false) (hQ : f_Q f = MQ (f_b f) (QW g (qI q)) (f_a f) (f_s f) 0 0 (fun q => g.2.2.2.1 ≤ q))  {x1 : Int32} {x2 : Int32} {x3 : Int32} {x4 : Int32} {x5 : Int32} {μ : Mm} (h : F_X2_shortest_12  (KK_X2_shortest_12 g f ) (KK_X2_shortest_49 g f ) q x1 x2 x3 x4 x5 μ) : KK_X2_shortest_12 g f  x1 x2 x3 x4 x5 μ := by
  unfold F_X2_shortest_12 at h
  show KW g f 8 0 0 12 [some (.ref p_GR), some (.int x1), some (.int x2), some (.int x3), some (.int x4), some (.int x5), none, none] [] μ
  refine k_iload cx dX2_shortest_12 rfl ?_
  refine k_iload cx dX2_shortest_14 rfl ?_
  refine k_icmp_ge (tgt := 74) cx dX2_shortest_16 (by decide) (fun hc => ?_) (fun hc => ?_)
  · replace h := h.1 hc
    refine k_iload_n cx dX2_shortest_74 rfl rfl ?_
    exact k_ret_I cx hr hl hQ dX2_shortest_75 h
  · replace h := h.2 hc
    refine k_aload_n cx dX2_shortest_19 rfl rfl ?_
    refine k_iload_n cx dX2_shortest_20 rfl rfl ?_
    refine k_iload cx dX2_shortest_21 rfl ?_
    refine k_callV (As := [.int x1, .int x5]) (rest := []) cx (m_X2_wayOf h) cv_X2_69 ob_GR rfl rfl rfl rfl (Nat.le_of_ble_eq_true rfl) ⟨Nat.le_of_ble_eq_true rfl, Nat.le_of_ble_eq_true rfl⟩ dX2_shortest_23 (fun v μ1 hq => ?_)
    obtain ⟨z2, rfl, h⟩ := hq
    refine k_istore cx dX2_shortest_26 (by decide) ?_
    refine k_iload_n cx dX2_shortest_28 rfl rfl ?_
    refine k_if_eq (tgt := 44) cx dX2_shortest_29 (by decide) (fun hc => ?_) (fun hc => ?_)
    · replace h := h.1 hc
      refine k_iconst (v := (1 : Int32)) cx dX2_shortest_44 (by decide +kernel) ?_
      refine k_goto (tgt := 49) cx dX2_shortest_45 (by decide) ?_
      exact k_weak h (lsLe.keep (lsLe.keep (lsLe.keep (lsLe.keep (lsLe.keep (lsLe.keep (lsLe.keep (lsLe.keep lsLe.nil))))))))
    · replace h := h.2 hc
      refine k_iload cx dX2_shortest_32 rfl ?_
      refine k_callS (As := [.int z2]) (rest := []) cx (m_J6_bitCount_0f7a4 h) cv_X2_53 rfl rfl (Nat.le_of_ble_eq_true rfl) ⟨Nat.le_of_ble_eq_true rfl, Nat.le_of_ble_eq_true rfl⟩ dX2_shortest_34 (fun v μ3 hq => ?_)
      obtain ⟨z4, rfl, h⟩ := hq
      refine k_iload_n cx dX2_shortest_37 rfl rfl ?_
      refine k_callS (As := [.int x3]) (rest := [.int z4]) cx (m_J6_bitCount_0f7a4 h) cv_X2_53 rfl rfl (Nat.le_of_ble_eq_true rfl) ⟨Nat.le_of_ble_eq_true rfl, Nat.le_of_ble_eq_true rfl⟩ dX2_shortest_38 (fun v μ5 hq => ?_)
      obtain ⟨z6, rfl, h⟩ := hq
      refine k_icmp_ge (tgt := 48) cx dX2_shortest_41 (by decide) (fun hc => ?_) (fun hc => ?_)
      · replace h := h.1 hc
        refine k_iconst (v := (0 : Int32)) cx dX2_shortest_48 (by decide +kernel) ?_
        exact k_weak h (lsLe.keep (lsLe.keep (lsLe.keep (lsLe.keep (lsLe.keep (lsLe.keep (lsLe.keep (lsLe.keep lsLe.nil))))))))
      · replace h := h.2 hc
        refine k_iconst (v := (1 : Int32)) cx dX2_shortest_44 (by decide +kernel) ?_
        refine k_goto (tgt := 49) cx dX2_shortest_45 (by decide) ?_
        exact k_weak h (lsLe.keep (lsLe.keep (lsLe.keep (lsLe.keep (lsLe.keep (lsLe.keep (lsLe.keep (lsLe.keep lsLe.nil))))))))
set_option maxHeartbeats 2000000 in
theorem b_X2_shortest_49  {g : GE} {f : FE} {q : Int32 → Mm → Prop} (cx : Cx g f cX2_shortest 8 RX2 1 23 0 0) (hr : (f_M f).sig.returnType = (some .int)) (hl : (f_M f).locks = false) (hQ : f_Q f = MQ (f_b f) (QW g (qI q)) (f_a f) (f_s f) 0 0 (fun q => g.2.2.2.1 ≤ q))  {x1 : Int32} {x2 : Int32} {x3 : Int32} {x4 : Int32} {x5 : Int32} {x6 : Int32} {y0 : Int32} {μ : Mm} (h : F_X2_shortest_49  (KK_X2_shortest_12 g f ) (KK_X2_shortest_49 g f ) q x1 x2 x3 x4 x5 x6 y0 μ) : KK_X2_shortest_49 g f  x1 x2 x3 x4 x5 x6 y0 μ := by
  unfold F_X2_shortest_49 at h
  show KW g f 8 0 0 49 [some (.ref p_GR), some (.int x1), some (.int x2), some (.int x3), some (.int x4), some (.int x5), some (.int x6), none] [.int y0] μ
  refine k_istore cx dX2_shortest_49 (by decide) ?_
  refine k_iload cx dX2_shortest_51 rfl ?_
  refine k_if_eq (tgt := 68) cx dX2_shortest_53 (by decide) (fun hc => ?_) (fun hc => ?_)
  · replace h := h.1 hc
    refine k_iinc (v := (x5 + (1 : Int32))) cx dX2_shortest_68 rfl rfl (by decide) ?_
    refine k_goto (tgt := 12) cx dX2_shortest_71 (by decide) ?_
    exact k_weak h (lsLe.keep (lsLe.keep (lsLe.keep (lsLe.keep (lsLe.keep (lsLe.keep (lsLe.drop (lsLe.drop lsLe.nil))))))))
  · replace h := h.2 hc
    refine k_iload cx dX2_shortest_56 rfl ?_
    refine k_iload_n cx dX2_shortest_58 rfl rfl ?_
    refine k_iconst (v := (-1 : Int32)) cx dX2_shortest_59 (by decide +kernel) ?_
    refine k_ixor cx dX2_shortest_60 ?_
    refine k_iand cx dX2_shortest_61 ?_
    refine k_if_ne (tgt := 68) cx dX2_shortest_62 (by decide) (fun hc => ?_) (fun hc => ?_)
    · replace h := h.1 hc
      refine k_iinc (v := (x5 + (1 : Int32))) cx dX2_shortest_68 rfl rfl (by decide) ?_
      refine k_goto (tgt := 12) cx dX2_shortest_71 (by decide) ?_
      exact k_weak h (lsLe.keep (lsLe.keep (lsLe.keep (lsLe.keep (lsLe.keep (lsLe.keep (lsLe.drop (lsLe.drop lsLe.nil))))))))
    · replace h := h.2 hc
      refine k_iload cx dX2_shortest_65 rfl ?_
      refine k_istore_n cx dX2_shortest_67 rfl (by decide) ?_
      refine k_iinc (v := (x5 + (1 : Int32))) cx dX2_shortest_68 rfl rfl (by decide) ?_
      refine k_goto (tgt := 12) cx dX2_shortest_71 (by decide) ?_
      exact k_weak h (lsLe.keep (lsLe.keep (lsLe.keep (lsLe.keep (lsLe.keep (lsLe.keep (lsLe.drop (lsLe.drop lsLe.nil))))))))
set_option maxHeartbeats 2000000 in
theorem b_X2_shortest_e  {g : GE} {f : FE} {q : Int32 → Mm → Prop} (cx : Cx g f cX2_shortest 8 RX2 1 23 0 0) (hr : (f_M f).sig.returnType = (some .int)) (hl : (f_M f).locks = false) (hQ : f_Q f = MQ (f_b f) (QW g (qI q)) (f_a f) (f_s f) 0 0 (fun q => g.2.2.2.1 ≤ q))  {x1 : Int32} {x2 : Int32} {μ : Mm} (h : F_X2_shortest_e  (KK_X2_shortest_12 g f ) (KK_X2_shortest_49 g f ) q x1 x2 μ) : KW g f 8 0 0 0 [some (.ref p_GR), some (.int x1), some (.int x2), none, none, none, none, none] [] μ := by
  unfold F_X2_shortest_e at h
  refine k_iconst (v := (0 : Int32)) cx dX2_shortest_0 (by decide +kernel) ?_
  refine k_istore_n cx dX2_shortest_1 rfl (by decide) ?_
  refine k_aload_n cx dX2_shortest_2 rfl rfl ?_
  refine k_iload_n cx dX2_shortest_3 rfl rfl ?_
  refine k_callV (As := [.int x1]) (rest := []) cx (m_X2_countOfWays h) cv_X2_66 ob_GR rfl rfl rfl rfl (Nat.le_of_ble_eq_true rfl) ⟨Nat.le_of_ble_eq_true rfl, Nat.le_of_ble_eq_true rfl⟩ dX2_shortest_4 (fun v μ1 hq => ?_)
  obtain ⟨z2, rfl, h⟩ := hq
  refine k_istore cx dX2_shortest_7 (by decide) ?_
  refine k_iconst (v := (0 : Int32)) cx dX2_shortest_9 (by decide +kernel) ?_
  refine k_istore cx dX2_shortest_10 (by decide) ?_
  exact k_weak h (lsLe.keep (lsLe.keep (lsLe.keep (lsLe.keep (lsLe.keep (lsLe.keep (lsLe.keep (lsLe.keep lsLe.nil))))))))
theorem m_X2_shortest {g : GE} {l : Launch} {μ : Mm} {q : Int32 → Mm → Prop} {x1 : Int32} {x2 : Int32}  (h : Wp_X2_shortest  x1 x2 μ q) : MW g l yX2_shortest cX2_shortest 8 (some .int) 1 23 [.ref p_GR, .int x1, .int x2] μ (qI q) := by
  refine met_of (by decide) (Nat.le_of_ble_eq_true rfl) (by intro v hv; simp only [List.mem_cons, List.not_mem_nil, or_false] at hv; rcases hv with rfl | rfl | rfl <;> rfl) ?_
  intro f hfl cx hr hl hQ
  exact b_X2_shortest_e  cx hr hl hQ (h (KK_X2_shortest_12 g f ) (KK_X2_shortest_49 g f ) (fun _ _ _ _ _ _ h => b_X2_shortest_12  cx hr hl hQ h) (fun _ _ _ _ _ _ _ _ h => b_X2_shortest_49  cx hr hl hQ h))
theorem dX3_giveWay_0 : decode cX3_giveWay 0 = .ok (.aload_n 0, 1) := by decide +kernel
theorem dX3_giveWay_1 : decode cX3_giveWay 1 = .ok (.getfield 19, 3) := by decide +kernel
theorem dX3_giveWay_4 : decode cX3_giveWay 4 = .ok (.aload_n 1, 1) := by decide +kernel
theorem dX3_giveWay_5 : decode cX3_giveWay 5 = .ok (.getfield 59, 3) := by decide +kernel
theorem dX3_giveWay_8 : decode cX3_giveWay 8 = .ok (.iload_n 2, 1) := by decide +kernel
theorem dX3_giveWay_9 : decode cX3_giveWay 9 = .ok (.iaload, 1) := by decide +kernel
theorem dX3_giveWay_10 : decode cX3_giveWay 10 = .ok (.aload_n 1, 1) := by decide +kernel
theorem dX3_giveWay_11 : decode cX3_giveWay 11 = .ok (.getfield 76, 3) := by decide +kernel
theorem dX3_giveWay_14 : decode cX3_giveWay 14 = .ok (.iload_n 2, 1) := by decide +kernel
theorem dX3_giveWay_15 : decode cX3_giveWay 15 = .ok (.iaload, 1) := by decide +kernel
theorem dX3_giveWay_16 : decode cX3_giveWay 16 = .ok (.ineg, 1) := by decide +kernel
theorem dX3_giveWay_17 : decode cX3_giveWay 17 = .ok (.invokevirtual 92, 3) := by decide +kernel
theorem dX3_giveWay_20 : decode cX3_giveWay 20 = .ok (.aload_n 1, 1) := by decide +kernel
theorem dX3_giveWay_21 : decode cX3_giveWay 21 = .ok (.getfield 59, 3) := by decide +kernel
theorem dX3_giveWay_24 : decode cX3_giveWay 24 = .ok (.iload_n 2, 1) := by decide +kernel
theorem dX3_giveWay_25 : decode cX3_giveWay 25 = .ok (.iload_n 3, 1) := by decide +kernel
theorem dX3_giveWay_26 : decode cX3_giveWay 26 = .ok (.iastore, 1) := by decide +kernel
theorem dX3_giveWay_27 : decode cX3_giveWay 27 = .ok (.aload_n 0, 1) := by decide +kernel
theorem dX3_giveWay_28 : decode cX3_giveWay 28 = .ok (.getfield 19, 3) := by decide +kernel
theorem dX3_giveWay_31 : decode cX3_giveWay 31 = .ok (.iload_n 3, 1) := by decide +kernel
theorem dX3_giveWay_32 : decode cX3_giveWay 32 = .ok (.aload_n 1, 1) := by decide +kernel
theorem dX3_giveWay_33 : decode cX3_giveWay 33 = .ok (.getfield 76, 3) := by decide +kernel
theorem dX3_giveWay_36 : decode cX3_giveWay 36 = .ok (.iload_n 2, 1) := by decide +kernel
theorem dX3_giveWay_37 : decode cX3_giveWay 37 = .ok (.iaload, 1) := by decide +kernel
theorem dX3_giveWay_38 : decode cX3_giveWay 38 = .ok (.invokevirtual 92, 3) := by decide +kernel
theorem dX3_giveWay_41 : decode cX3_giveWay 41 = .ok (.return_, 1) := by decide +kernel
def F_X3_giveWay_e (p1 : Nat)  (q : Mm → Prop) (x2 : Int32) (x3 : Int32) (μ : Mm) : Prop :=
  vp_in x2 3 ∧ vp_in x2 3 ∧ Wp_X0_carry (μ (p1 + 7) (x2).toNatClampNeg) (-(μ (p1 + 6) (x2).toNatClampNeg)) μ (fun μ1 => vp_in x2 3 ∧ vp_in x2 3 ∧ Wp_X0_carry x3 ((up2 μ1 (p1 + 7) (x2).toNatClampNeg x3) (p1 + 6) (x2).toNatClampNeg) (up2 μ1 (p1 + 7) (x2).toNatClampNeg x3) (fun μ2 => q μ2))
def Wp_X3_giveWay (p1 : Nat) (x2 : Int32) (x3 : Int32) (μ : Mm) (q : Mm → Prop) : Prop := F_X3_giveWay_e p1  q x2 x3 μ
set_option maxHeartbeats 2000000 in
theorem b_X3_giveWay_e {p1 : Nat} (h_p1 : isReq p1) {g : GE} {f : FE} {q : Mm → Prop} (cx : Cx g f cX3_giveWay 4 RX3 1 23 0 0) (hr : (f_M f).sig.returnType = none) (hl : (f_M f).locks = false) (hQ : f_Q f = MQ (f_b f) (QW g (qV q)) (f_a f) (f_s f) 0 0 (fun q => g.2.2.2.1 ≤ q))  {x2 : Int32} {x3 : Int32} {μ : Mm} (h : F_X3_giveWay_e p1  q x2 x3 μ) : KW g f 4 0 0 0 [some (.ref p_MV), some (.ref p1), some (.int x2), some (.int x3)] [] μ := by
  unfold F_X3_giveWay_e at h
  refine k_aload_n cx dX3_giveWay_0 rfl rfl ?_
  refine k_get (o := some p_BK) (v := .ref p_BK) cx fl_X3_19 ob_MV rfl rfl dX3_giveWay_1 ?_
  refine k_aload_n cx dX3_giveWay_4 rfl rfl ?_
  refine k_get (o := some (p1 + 7)) (v := .ref (p1 + 7)) cx fl_X3_59 (ob_RQ h_p1) rfl rfl dX3_giveWay_5 ?_
  refine k_iload_n cx dX3_giveWay_8 rfl rfl ?_
  obtain ⟨hi, h⟩ := h
  refine k_iald cx (ar_RQ h_p1 7 (by decide) (by decide)) hi dX3_giveWay_9 ?_
  refine k_aload_n cx dX3_giveWay_10 rfl rfl ?_
  refine k_get (o := some (p1 + 6)) (v := .ref (p1 + 6)) cx fl_X3_76 (ob_RQ h_p1) rfl rfl dX3_giveWay_11 ?_
  refine k_iload_n cx dX3_giveWay_14 rfl rfl ?_
  obtain ⟨hi, h⟩ := h
  refine k_iald cx (ar_RQ h_p1 6 (by decide) (by decide)) hi dX3_giveWay_15 ?_
  refine k_ineg cx dX3_giveWay_16 ?_
  refine k_callV (As := [.int (μ (p1 + 7) (x2).toNatClampNeg), .int (-(μ (p1 + 6) (x2).toNatClampNeg))]) (rest := []) cx (m_X0_carry h) cv_X3_92 ob_BK rfl rfl rfl rfl (Nat.le_of_ble_eq_true rfl) ⟨Nat.le_of_ble_eq_true rfl, Nat.le_of_ble_eq_true rfl⟩ dX3_giveWay_17 (fun v μ1 hq => ?_)
  obtain ⟨rfl, h⟩ := hq
  refine k_aload_n cx dX3_giveWay_20 rfl rfl ?_
  refine k_get (o := some (p1 + 7)) (v := .ref (p1 + 7)) cx fl_X3_59 (ob_RQ h_p1) rfl rfl dX3_giveWay_21 ?_
  refine k_iload_n cx dX3_giveWay_24 rfl rfl ?_
  refine k_iload_n cx dX3_giveWay_25 rfl rfl ?_
  obtain ⟨hi, h⟩ := h
  refine k_iast cx (ar_RQ h_p1 7 (by decide) (by decide)) hi dX3_giveWay_26 ?_
  refine k_aload_n cx dX3_giveWay_27 rfl rfl ?_
  refine k_get (o := some p_BK) (v := .ref p_BK) cx fl_X3_19 ob_MV rfl rfl dX3_giveWay_28 ?_
  refine k_iload_n cx dX3_giveWay_31 rfl rfl ?_
  refine k_aload_n cx dX3_giveWay_32 rfl rfl ?_
  refine k_get (o := some (p1 + 6)) (v := .ref (p1 + 6)) cx fl_X3_76 (ob_RQ h_p1) rfl rfl dX3_giveWay_33 ?_
  refine k_iload_n cx dX3_giveWay_36 rfl rfl ?_
  obtain ⟨hi, h⟩ := h
  refine k_iald cx (ar_RQ h_p1 6 (by decide) (by decide)) hi dX3_giveWay_37 ?_
  refine k_callV (As := [.int x3, .int ((up2 μ1 (p1 + 7) (x2).toNatClampNeg x3) (p1 + 6) (x2).toNatClampNeg)]) (rest := []) cx (m_X0_carry h) cv_X3_92 ob_BK rfl rfl rfl rfl (Nat.le_of_ble_eq_true rfl) ⟨Nat.le_of_ble_eq_true rfl, Nat.le_of_ble_eq_true rfl⟩ dX3_giveWay_38 (fun v μ2 hq => ?_)
  obtain ⟨rfl, h⟩ := hq
  exact k_ret_V cx hr hl hQ dX3_giveWay_41 h
theorem m_X3_giveWay {g : GE} {l : Launch} {μ : Mm} {q : Mm → Prop} {p1 : Nat} {x2 : Int32} {x3 : Int32} (h_p1 : isReq p1) (h : Wp_X3_giveWay p1 x2 x3 μ q) : MW g l yX3_giveWay cX3_giveWay 4 none 1 23 [.ref p_MV, .ref p1, .int x2, .int x3] μ (qV q) := by
  refine met_of (by decide) (Nat.le_of_ble_eq_true rfl) (by intro v hv; simp only [List.mem_cons, List.not_mem_nil, or_false] at hv; rcases hv with rfl | rfl | rfl | rfl <;> rfl) ?_
  intro f hfl cx hr hl hQ
  exact b_X3_giveWay_e h_p1 cx hr hl hQ (h  )
theorem dX5_nodeOf_0 : decode cX5_nodeOf 0 = .ok (.iload_n 1, 1) := by decide +kernel
theorem dX5_nodeOf_1 : decode cX5_nodeOf 1 = .ok (.ifCond .lt 20, 3) := by decide +kernel
theorem dX5_nodeOf_4 : decode cX5_nodeOf 4 = .ok (.iload_n 1, 1) := by decide +kernel
theorem dX5_nodeOf_5 : decode cX5_nodeOf 5 = .ok (.aload_n 0, 1) := by decide +kernel
theorem dX5_nodeOf_6 : decode cX5_nodeOf 6 = .ok (.getfield 42, 3) := by decide +kernel
theorem dX5_nodeOf_9 : decode cX5_nodeOf 9 = .ok (.if_icmp .ge 12, 3) := by decide +kernel
theorem dX5_nodeOf_12 : decode cX5_nodeOf 12 = .ok (.aload_n 0, 1) := by decide +kernel
theorem dX5_nodeOf_13 : decode cX5_nodeOf 13 = .ok (.getfield 18, 3) := by decide +kernel
theorem dX5_nodeOf_16 : decode cX5_nodeOf 16 = .ok (.iload_n 1, 1) := by decide +kernel
theorem dX5_nodeOf_17 : decode cX5_nodeOf 17 = .ok (.iaload, 1) := by decide +kernel
theorem dX5_nodeOf_18 : decode cX5_nodeOf 18 = .ok (.goto 4, 3) := by decide +kernel
theorem dX5_nodeOf_21 : decode cX5_nodeOf 21 = .ok (.iconst (-1), 1) := by decide +kernel
theorem dX5_nodeOf_22 : decode cX5_nodeOf 22 = .ok (.ireturn, 1) := by decide +kernel
def F_X5_nodeOf_e (p0 : Nat)  (q : Int32 → Mm → Prop) (x1 : Int32) (μ : Mm) : Prop :=
  ((x1 < 0 → q (-1 : Int32) μ) ∧ (¬ (x1 < 0) → (((μ p0 10) ≤ x1 → q (-1 : Int32) μ) ∧ (¬ ((μ p0 10) ≤ x1) → vp_in x1 3 ∧ q (μ (p0 + 3) (x1).toNatClampNeg) μ))))
def Wp_X5_nodeOf (p0 : Nat) (x1 : Int32) (μ : Mm) (q : Int32 → Mm → Prop) : Prop := F_X5_nodeOf_e p0  q x1 μ
set_option maxHeartbeats 2000000 in
theorem b_X5_nodeOf_e {p0 : Nat} (h_p0 : isReq p0) {g : GE} {f : FE} {q : Int32 → Mm → Prop} (cx : Cx g f cX5_nodeOf 2 RX5 0 0 0 0) (hr : (f_M f).sig.returnType = (some .int)) (hl : (f_M f).locks = false) (hQ : f_Q f = MQ (f_b f) (QW g (qI q)) (f_a f) (f_s f) 0 0 (fun q => g.2.2.2.1 ≤ q))  {x1 : Int32} {μ : Mm} (h : F_X5_nodeOf_e p0  q x1 μ) : KW g f 2 0 0 0 [some (.ref p0), some (.int x1)] [] μ := by
  unfold F_X5_nodeOf_e at h
  refine k_iload_n cx dX5_nodeOf_0 rfl rfl ?_
  refine k_if_lt (tgt := 21) cx dX5_nodeOf_1 (by decide) (fun hc => ?_) (fun hc => ?_)
  · replace h := h.1 hc
    refine k_iconst (v := (-1 : Int32)) cx dX5_nodeOf_21 (by decide +kernel) ?_
    exact k_ret_I cx hr hl hQ dX5_nodeOf_22 h
  · replace h := h.2 hc
    refine k_iload_n cx dX5_nodeOf_4 rfl rfl ?_
    refine k_aload_n cx dX5_nodeOf_5 rfl rfl ?_
    refine k_get (o := none) (v := .int (μ p0 10)) cx fl_X5_42 (ob_RQ h_p0) rfl rfl dX5_nodeOf_6 ?_
    refine k_icmp_ge (tgt := 21) cx dX5_nodeOf_9 (by decide) (fun hc => ?_) (fun hc => ?_)
    · replace h := h.1 hc
      refine k_iconst (v := (-1 : Int32)) cx dX5_nodeOf_21 (by decide +kernel) ?_
      exact k_ret_I cx hr hl hQ dX5_nodeOf_22 h
    · replace h := h.2 hc
      refine k_aload_n cx dX5_nodeOf_12 rfl rfl ?_
      refine k_get (o := some (p0 + 3)) (v := .ref (p0 + 3)) cx fl_X5_18 (ob_RQ h_p0) rfl rfl dX5_nodeOf_13 ?_
      refine k_iload_n cx dX5_nodeOf_16 rfl rfl ?_
      obtain ⟨hi, h⟩ := h
      refine k_iald cx (ar_RQ h_p0 3 (by decide) (by decide)) hi dX5_nodeOf_17 ?_
      refine k_goto (tgt := 22) cx dX5_nodeOf_18 (by decide) ?_
      exact k_ret_I cx hr hl hQ dX5_nodeOf_22 h
theorem m_X5_nodeOf {g : GE} {l : Launch} {μ : Mm} {q : Int32 → Mm → Prop} {p0 : Nat} {x1 : Int32} (h_p0 : isReq p0) (h : Wp_X5_nodeOf p0 x1 μ q) : MW g l yX5_nodeOf cX5_nodeOf 2 (some .int) 0 0 [.ref p0, .int x1] μ (qI q) := by
  refine met_of (by decide) (Nat.le_of_ble_eq_true rfl) (by intro v hv; simp only [List.mem_cons, List.not_mem_nil, or_false] at hv; rcases hv with rfl | rfl <;> rfl) ?_
  intro f hfl cx hr hl hQ
  exact b_X5_nodeOf_e h_p0 cx hr hl hQ (h  )
theorem dX5_pairOf_0 : decode cX5_pairOf 0 = .ok (.aload_n 0, 1) := by decide +kernel
theorem dX5_pairOf_1 : decode cX5_pairOf 1 = .ok (.aload_n 0, 1) := by decide +kernel
theorem dX5_pairOf_2 : decode cX5_pairOf 2 = .ok (.getfield 21, 3) := by decide +kernel
theorem dX5_pairOf_5 : decode cX5_pairOf 5 = .ok (.iload_n 1, 1) := by decide +kernel
theorem dX5_pairOf_6 : decode cX5_pairOf 6 = .ok (.iaload, 1) := by decide +kernel
theorem dX5_pairOf_7 : decode cX5_pairOf 7 = .ok (.invokevirtual 53, 3) := by decide +kernel
theorem dX5_pairOf_10 : decode cX5_pairOf 10 = .ok (.aload_n 0, 1) := by decide +kernel
theorem dX5_pairOf_11 : decode cX5_pairOf 11 = .ok (.aload_n 0, 1) := by decide +kernel
theorem dX5_pairOf_12 : decode cX5_pairOf 12 = .ok (.getfield 24, 3) := by decide +kernel
theorem dX5_pairOf_15 : decode cX5_pairOf 15 = .ok (.iload_n 1, 1) := by decide +kernel
theorem dX5_pairOf_16 : decode cX5_pairOf 16 = .ok (.iaload, 1) := by decide +kernel
theorem dX5_pairOf_17 : decode cX5_pairOf 17 = .ok (.invokevirtual 53, 3) := by decide +kernel
theorem dX5_pairOf_20 : decode cX5_pairOf 20 = .ok (.invokestatic 57, 3) := by decide +kernel
theorem dX5_pairOf_23 : decode cX5_pairOf 23 = .ok (.ireturn, 1) := by decide +kernel
def F_X5_pairOf_e (p0 : Nat)  (q : Int32 → Mm → Prop) (x1 : Int32) (μ : Mm) : Prop :=
  vp_in x1 3 ∧ Wp_X5_nodeOf p0 (μ (p0 + 4) (x1).toNatClampNeg) μ (fun z2 μ1 => vp_in x1 3 ∧ Wp_X5_nodeOf p0 (μ1 (p0 + 5) (x1).toNatClampNeg) μ1 (fun z4 μ3 => Wp_X2_pairOf z2 z4 μ3 (fun z6 μ5 => q z6 μ5)))
def Wp_X5_pairOf (p0 : Nat) (x1 : Int32) (μ : Mm) (q : Int32 → Mm → Prop) : Prop := F_X5_pairOf_e p0  q x1 μ
set_option maxHeartbeats 2000000 in
theorem b_X5_pairOf_e {p0 : Nat} (h_p0 : isReq p0) {g : GE} {f : FE} {q : Int32 → Mm → Prop} (cx : Cx g f cX5_pairOf 2 RX5 1 21 0 0) (hr : (f_M f).sig.returnType = (some .int)) (hl : (f_M f).locks = false) (hQ : f_Q f = MQ (f_b f) (QW g (qI q)) (f_a f) (f_s f) 0 0 (fun q => g.2.2.2.1 ≤ q))  {x1 : Int32} {μ : Mm} (h : F_X5_pairOf_e p0  q x1 μ) : KW g f 2 0 0 0 [some (.ref p0), some (.int x1)] [] μ := by
  unfold F_X5_pairOf_e at h
  refine k_aload_n cx dX5_pairOf_0 rfl rfl ?_
  refine k_aload_n cx dX5_pairOf_1 rfl rfl ?_
  refine k_get (o := some (p0 + 4)) (v := .ref (p0 + 4)) cx fl_X5_21 (ob_RQ h_p0) rfl rfl dX5_pairOf_2 ?_
  refine k_iload_n cx dX5_pairOf_5 rfl rfl ?_
  obtain ⟨hi, h⟩ := h
  refine k_iald cx (ar_RQ h_p0 4 (by decide) (by decide)) hi dX5_pairOf_6 ?_
  refine k_callV (As := [.int (μ (p0 + 4) (x1).toNatClampNeg)]) (rest := []) cx (m_X5_nodeOf h_p0 h) cv_X5_53 (ob_RQ h_p0) rfl rfl rfl rfl (Nat.le_of_ble_eq_true rfl) ⟨Nat.le_of_ble_eq_true rfl, Nat.le_of_ble_eq_true rfl⟩ dX5_pairOf_7 (fun v μ1 hq => ?_)
  obtain ⟨z2, rfl, h⟩ := hq
  refine k_aload_n cx dX5_pairOf_10 rfl rfl ?_
  refine k_aload_n cx dX5_pairOf_11 rfl rfl ?_
  refine k_get (o := some (p0 + 5)) (v := .ref (p0 + 5)) cx fl_X5_24 (ob_RQ h_p0) rfl rfl dX5_pairOf_12 ?_
  refine k_iload_n cx dX5_pairOf_15 rfl rfl ?_
  obtain ⟨hi, h⟩ := h
  refine k_iald cx (ar_RQ h_p0 5 (by decide) (by decide)) hi dX5_pairOf_16 ?_
  refine k_callV (As := [.int (μ1 (p0 + 5) (x1).toNatClampNeg)]) (rest := [.int z2]) cx (m_X5_nodeOf h_p0 h) cv_X5_53 (ob_RQ h_p0) rfl rfl rfl rfl (Nat.le_of_ble_eq_true rfl) ⟨Nat.le_of_ble_eq_true rfl, Nat.le_of_ble_eq_true rfl⟩ dX5_pairOf_17 (fun v μ3 hq => ?_)
  obtain ⟨z4, rfl, h⟩ := hq
  refine k_callS (As := [.int z2, .int z4]) (rest := []) cx (m_X2_pairOf h) cv_X5_57 rfl rfl (Nat.le_of_ble_eq_true rfl) ⟨Nat.le_of_ble_eq_true rfl, Nat.le_of_ble_eq_true rfl⟩ dX5_pairOf_20 (fun v μ5 hq => ?_)
  obtain ⟨z6, rfl, h⟩ := hq
  exact k_ret_I cx hr hl hQ dX5_pairOf_23 h
theorem m_X5_pairOf {g : GE} {l : Launch} {μ : Mm} {q : Int32 → Mm → Prop} {p0 : Nat} {x1 : Int32} (h_p0 : isReq p0) (h : Wp_X5_pairOf p0 x1 μ q) : MW g l yX5_pairOf cX5_pairOf 2 (some .int) 1 21 [.ref p0, .int x1] μ (qI q) := by
  refine met_of (by decide) (Nat.le_of_ble_eq_true rfl) (by intro v hv; simp only [List.mem_cons, List.not_mem_nil, or_false] at hv; rcases hv with rfl | rfl <;> rfl) ?_
  intro f hfl cx hr hl hQ
  exact b_X5_pairOf_e h_p0 cx hr hl hQ (h  )
theorem dX3_findWay_0 : decode cX3_findWay 0 = .ok (.aload_n 0, 1) := by decide +kernel
theorem dX3_findWay_1 : decode cX3_findWay 1 = .ok (.getfield 15, 3) := by decide +kernel
theorem dX3_findWay_4 : decode cX3_findWay 4 = .ok (.aload_n 1, 1) := by decide +kernel
theorem dX3_findWay_5 : decode cX3_findWay 5 = .ok (.iload_n 2, 1) := by decide +kernel
theorem dX3_findWay_6 : decode cX3_findWay 6 = .ok (.invokevirtual 73, 3) := by decide +kernel
theorem dX3_findWay_9 : decode cX3_findWay 9 = .ok (.aload_n 0, 1) := by decide +kernel
theorem dX3_findWay_10 : decode cX3_findWay 10 = .ok (.getfield 19, 3) := by decide +kernel
theorem dX3_findWay_13 : decode cX3_findWay 13 = .ok (.aload_n 1, 1) := by decide +kernel
theorem dX3_findWay_14 : decode cX3_findWay 14 = .ok (.getfield 76, 3) := by decide +kernel
theorem dX3_findWay_17 : decode cX3_findWay 17 = .ok (.iload_n 2, 1) := by decide +kernel
theorem dX3_findWay_18 : decode cX3_findWay 18 = .ok (.iaload, 1) := by decide +kernel
theorem dX3_findWay_19 : decode cX3_findWay 19 = .ok (.invokevirtual 79, 3) := by decide +kernel
theorem dX3_findWay_22 : decode cX3_findWay 22 = .ok (.invokevirtual 82, 3) := by decide +kernel
theorem dX3_findWay_25 : decode cX3_findWay 25 = .ok (.istore_n 3, 1) := by decide +kernel
theorem dX3_findWay_26 : decode cX3_findWay 26 = .ok (.aload_n 0, 1) := by decide +kernel
theorem dX3_findWay_27 : decode cX3_findWay 27 = .ok (.aload_n 1, 1) := by decide +kernel
theorem dX3_findWay_28 : decode cX3_findWay 28 = .ok (.iload_n 2, 1) := by decide +kernel
theorem dX3_findWay_29 : decode cX3_findWay 29 = .ok (.iload_n 3, 1) := by decide +kernel
theorem dX3_findWay_30 : decode cX3_findWay 30 = .ok (.invokevirtual 62, 3) := by decide +kernel
theorem dX3_findWay_33 : decode cX3_findWay 33 = .ok (.iload_n 3, 1) := by decide +kernel
theorem dX3_findWay_34 : decode cX3_findWay 34 = .ok (.ifCond .eq 7, 3) := by decide +kernel
theorem dX3_findWay_37 : decode cX3_findWay 37 = .ok (.iconst 1, 1) := by decide +kernel
theorem dX3_findWay_38 : decode cX3_findWay 38 = .ok (.goto 4, 3) := by decide +kernel
theorem dX3_findWay_41 : decode cX3_findWay 41 = .ok (.iconst 0, 1) := by decide +kernel
theorem dX3_findWay_42 : decode cX3_findWay 42 = .ok (.ireturn, 1) := by decide +kernel
def F_X3_findWay_e (p1 : Nat)  (q : Bool → Mm → Prop) (x2 : Int32) (μ : Mm) : Prop :=
  Wp_X5_pairOf p1 x2 μ (fun z2 μ1 => vp_in x2 3 ∧ Wp_X0_openFor (μ1 (p1 + 6) (x2).toNatClampNeg) μ1 (fun z4 μ3 => Wp_X2_shortest z2 z4 μ3 (fun z6 μ5 => Wp_X3_giveWay p1 x2 z6 μ5 (fun μ7 => ((z6 = 0 → q false μ7) ∧ (¬ (z6 = 0) → q true μ7))))))
def Wp_X3_findWay (p1 : Nat) (x2 : Int32) (μ : Mm) (q : Bool → Mm → Prop) : Prop := F_X3_findWay_e p1  q x2 μ
set_option maxHeartbeats 2000000 in
theorem b_X3_findWay_e {p1 : Nat} (h_p1 : isReq p1) {g : GE} {f : FE} {q : Bool → Mm → Prop} (cx : Cx g f cX3_findWay 4 RX3 2 50 0 0) (hr : (f_M f).sig.returnType = (some .boolean)) (hl : (f_M f).locks = false) (hQ : f_Q f = MQ (f_b f) (QW g (qZ q)) (f_a f) (f_s f) 0 0 (fun q => g.2.2.2.1 ≤ q))  {x2 : Int32} {μ : Mm} (h : F_X3_findWay_e p1  q x2 μ) : KW g f 4 0 0 0 [some (.ref p_MV), some (.ref p1), some (.int x2), none] [] μ := by
  unfold F_X3_findWay_e at h
  refine k_aload_n cx dX3_findWay_0 rfl rfl ?_
  refine k_get (o := some p_GR) (v := .ref p_GR) cx fl_X3_15 ob_MV rfl rfl dX3_findWay_1 ?_
  refine k_aload_n cx dX3_findWay_4 rfl rfl ?_
  refine k_iload_n cx dX3_findWay_5 rfl rfl ?_
  refine k_callV (As := [.int x2]) (rest := [.ref p_GR]) cx (m_X5_pairOf h_p1 h) cv_X3_73 (ob_RQ h_p1) rfl rfl rfl rfl (Nat.le_of_ble_eq_true rfl) ⟨Nat.le_of_ble_eq_true rfl, Nat.le_of_ble_eq_true rfl⟩ dX3_findWay_6 (fun v μ1 hq => ?_)
  obtain ⟨z2, rfl, h⟩ := hq
  refine k_aload_n cx dX3_findWay_9 rfl rfl ?_
  refine k_get (o := some p_BK) (v := .ref p_BK) cx fl_X3_19 ob_MV rfl rfl dX3_findWay_10 ?_
  refine k_aload_n cx dX3_findWay_13 rfl rfl ?_
  refine k_get (o := some (p1 + 6)) (v := .ref (p1 + 6)) cx fl_X3_76 (ob_RQ h_p1) rfl rfl dX3_findWay_14 ?_
  refine k_iload_n cx dX3_findWay_17 rfl rfl ?_
  obtain ⟨hi, h⟩ := h
  refine k_iald cx (ar_RQ h_p1 6 (by decide) (by decide)) hi dX3_findWay_18 ?_
  refine k_callV (As := [.int (μ1 (p1 + 6) (x2).toNatClampNeg)]) (rest := [.int z2, .ref p_GR]) cx (m_X0_openFor h) cv_X3_79 ob_BK rfl rfl rfl rfl (Nat.le_of_ble_eq_true rfl) ⟨Nat.le_of_ble_eq_true rfl, Nat.le_of_ble_eq_true rfl⟩ dX3_findWay_19 (fun v μ3 hq => ?_)
  obtain ⟨z4, rfl, h⟩ := hq
  refine k_callV (As := [.int z2, .int z4]) (rest := []) cx (m_X2_shortest h) cv_X3_82 ob_GR rfl rfl rfl rfl (Nat.le_of_ble_eq_true rfl) ⟨Nat.le_of_ble_eq_true rfl, Nat.le_of_ble_eq_true rfl⟩ dX3_findWay_22 (fun v μ5 hq => ?_)
  obtain ⟨z6, rfl, h⟩ := hq
  refine k_istore_n cx dX3_findWay_25 rfl (by decide) ?_
  refine k_aload_n cx dX3_findWay_26 rfl rfl ?_
  refine k_aload_n cx dX3_findWay_27 rfl rfl ?_
  refine k_iload_n cx dX3_findWay_28 rfl rfl ?_
  refine k_iload_n cx dX3_findWay_29 rfl rfl ?_
  refine k_callV (As := [.ref p1, .int x2, .int z6]) (rest := []) cx (m_X3_giveWay h_p1 h) cv_X3_62 ob_MV rfl rfl rfl rfl (Nat.le_of_ble_eq_true rfl) ⟨Nat.le_of_ble_eq_true rfl, Nat.le_of_ble_eq_true rfl⟩ dX3_findWay_30 (fun v μ7 hq => ?_)
  obtain ⟨rfl, h⟩ := hq
  refine k_iload_n cx dX3_findWay_33 rfl rfl ?_
  refine k_if_eq (tgt := 41) cx dX3_findWay_34 (by decide) (fun hc => ?_) (fun hc => ?_)
  · replace h := h.1 hc
    refine k_iconst (v := (0 : Int32)) cx dX3_findWay_41 (by decide +kernel) ?_
    exact k_ret_Z (b := false) cx hr hl hQ dX3_findWay_42 rfl h
  · replace h := h.2 hc
    refine k_iconst (v := (1 : Int32)) cx dX3_findWay_37 (by decide +kernel) ?_
    refine k_goto (tgt := 42) cx dX3_findWay_38 (by decide) ?_
    exact k_ret_Z (b := true) cx hr hl hQ dX3_findWay_42 rfl h
theorem m_X3_findWay {g : GE} {l : Launch} {μ : Mm} {q : Bool → Mm → Prop} {p1 : Nat} {x2 : Int32} (h_p1 : isReq p1) (h : Wp_X3_findWay p1 x2 μ q) : MW g l yX3_findWay cX3_findWay 4 (some .boolean) 2 50 [.ref p_MV, .ref p1, .int x2] μ (qZ q) := by
  refine met_of (by decide) (Nat.le_of_ble_eq_true rfl) (by intro v hv; simp only [List.mem_cons, List.not_mem_nil, or_false] at hv; rcases hv with rfl | rfl | rfl <;> rfl) ?_
  intro f hfl cx hr hl hQ
  exact b_X3_findWay_e h_p1 cx hr hl hQ (h  )
theorem dX3_putAt_0 : decode cX3_putAt 0 = .ok (.aload_n 0, 1) := by decide +kernel
theorem dX3_putAt_1 : decode cX3_putAt 1 = .ok (.getfield 19, 3) := by decide +kernel
theorem dX3_putAt_4 : decode cX3_putAt 4 = .ok (.aload_n 1, 1) := by decide +kernel
theorem dX3_putAt_5 : decode cX3_putAt 5 = .ok (.getfield 41, 3) := by decide +kernel
theorem dX3_putAt_8 : decode cX3_putAt 8 = .ok (.iload_n 2, 1) := by decide +kernel
theorem dX3_putAt_9 : decode cX3_putAt 9 = .ok (.iaload, 1) := by decide +kernel
theorem dX3_putAt_10 : decode cX3_putAt 10 = .ok (.aload_n 1, 1) := by decide +kernel
theorem dX3_putAt_11 : decode cX3_putAt 11 = .ok (.getfield 38, 3) := by decide +kernel
theorem dX3_putAt_14 : decode cX3_putAt 14 = .ok (.iload_n 2, 1) := by decide +kernel
theorem dX3_putAt_15 : decode cX3_putAt 15 = .ok (.iaload, 1) := by decide +kernel
theorem dX3_putAt_16 : decode cX3_putAt 16 = .ok (.iconst (-1), 1) := by decide +kernel
theorem dX3_putAt_17 : decode cX3_putAt 17 = .ok (.invokevirtual 88, 3) := by decide +kernel
theorem dX3_putAt_20 : decode cX3_putAt 20 = .ok (.aload_n 1, 1) := by decide +kernel
theorem dX3_putAt_21 : decode cX3_putAt 21 = .ok (.getfield 41, 3) := by decide +kernel
theorem dX3_putAt_24 : decode cX3_putAt 24 = .ok (.iload_n 2, 1) := by decide +kernel
theorem dX3_putAt_25 : decode cX3_putAt 25 = .ok (.iload_n 3, 1) := by decide +kernel
theorem dX3_putAt_26 : decode cX3_putAt 26 = .ok (.iastore, 1) := by decide +kernel
theorem dX3_putAt_27 : decode cX3_putAt 27 = .ok (.aload_n 0, 1) := by decide +kernel
theorem dX3_putAt_28 : decode cX3_putAt 28 = .ok (.getfield 19, 3) := by decide +kernel
theorem dX3_putAt_31 : decode cX3_putAt 31 = .ok (.iload_n 3, 1) := by decide +kernel
theorem dX3_putAt_32 : decode cX3_putAt 32 = .ok (.aload_n 1, 1) := by decide +kernel
theorem dX3_putAt_33 : decode cX3_putAt 33 = .ok (.getfield 38, 3) := by decide +kernel
theorem dX3_putAt_36 : decode cX3_putAt 36 = .ok (.iload_n 2, 1) := by decide +kernel
theorem dX3_putAt_37 : decode cX3_putAt 37 = .ok (.iaload, 1) := by decide +kernel
theorem dX3_putAt_38 : decode cX3_putAt 38 = .ok (.iconst 1, 1) := by decide +kernel
theorem dX3_putAt_39 : decode cX3_putAt 39 = .ok (.invokevirtual 88, 3) := by decide +kernel
theorem dX3_putAt_42 : decode cX3_putAt 42 = .ok (.return_, 1) := by decide +kernel
def F_X3_putAt_e (p1 : Nat)  (q : Mm → Prop) (x2 : Int32) (x3 : Int32) (μ : Mm) : Prop :=
  vp_in x2 3 ∧ vp_in x2 3 ∧ Wp_X0_enterPart (μ (p1 + 3) (x2).toNatClampNeg) (μ (p1 + 1) (x2).toNatClampNeg) (-1 : Int32) μ (fun μ1 => vp_in x2 3 ∧ vp_in x2 3 ∧ Wp_X0_enterPart x3 ((up2 μ1 (p1 + 3) (x2).toNatClampNeg x3) (p1 + 1) (x2).toNatClampNeg) (1 : Int32) (up2 μ1 (p1 + 3) (x2).toNatClampNeg x3) (fun μ2 => q μ2))
def Wp_X3_putAt (p1 : Nat) (x2 : Int32) (x3 : Int32) (μ : Mm) (q : Mm → Prop) : Prop := F_X3_putAt_e p1  q x2 x3 μ
set_option maxHeartbeats 2000000 in
theorem b_X3_putAt_e {p1 : Nat} (h_p1 : isReq p1) {g : GE} {f : FE} {q : Mm → Prop} (cx : Cx g f cX3_putAt 4 RX3 2 44 0 0) (hr : (f_M f).sig.returnType = none) (hl : (f_M f).locks = false) (hQ : f_Q f = MQ (f_b f) (QW g (qV q)) (f_a f) (f_s f) 0 0 (fun q => g.2.2.2.1 ≤ q))  {x2 : Int32} {x3 : Int32} {μ : Mm} (h : F_X3_putAt_e p1  q x2 x3 μ) : KW g f 4 0 0 0 [some (.ref p_MV), some (.ref p1), some (.int x2), some (.int x3)] [] μ := by
  unfold F_X3_putAt_e at h
  refine k_aload_n cx dX3_putAt_0 rfl rfl ?_
  refine k_get (o := some p_BK) (v := .ref p_BK) cx fl_X3_19 ob_MV rfl rfl dX3_putAt_1 ?_
  refine k_aload_n cx dX3_putAt_4 rfl rfl ?_
  refine k_get (o := some (p1 + 3)) (v := .ref (p1 + 3)) cx fl_X3_41 (ob_RQ h_p1) rfl rfl dX3_putAt_5 ?_
  refine k_iload_n cx dX3_putAt_8 rfl rfl ?_
  obtain ⟨hi, h⟩ := h
  refine k_iald cx (ar_RQ h_p1 3 (by decide) (by decide)) hi dX3_putAt_9 ?_
  refine k_aload_n cx dX3_putAt_10 rfl rfl ?_
  refine k_get (o := some (p1 + 1)) (v := .ref (p1 + 1)) cx fl_X3_38 (ob_RQ h_p1) rfl rfl dX3_putAt_11 ?_
  refine k_iload_n cx dX3_putAt_14 rfl rfl ?_
  obtain ⟨hi, h⟩ := h
  refine k_iald cx (ar_RQ h_p1 1 (by decide) (by decide)) hi dX3_putAt_15 ?_
  refine k_iconst (v := (-1 : Int32)) cx dX3_putAt_16 (by decide +kernel) ?_
  refine k_callV (As := [.int (μ (p1 + 3) (x2).toNatClampNeg), .int (μ (p1 + 1) (x2).toNatClampNeg), .int (-1 : Int32)]) (rest := []) cx (m_X0_enterPart h) cv_X3_88 ob_BK rfl rfl rfl rfl (Nat.le_of_ble_eq_true rfl) ⟨Nat.le_of_ble_eq_true rfl, Nat.le_of_ble_eq_true rfl⟩ dX3_putAt_17 (fun v μ1 hq => ?_)
  obtain ⟨rfl, h⟩ := hq
  refine k_aload_n cx dX3_putAt_20 rfl rfl ?_
  refine k_get (o := some (p1 + 3)) (v := .ref (p1 + 3)) cx fl_X3_41 (ob_RQ h_p1) rfl rfl dX3_putAt_21 ?_
  refine k_iload_n cx dX3_putAt_24 rfl rfl ?_
  refine k_iload_n cx dX3_putAt_25 rfl rfl ?_
  obtain ⟨hi, h⟩ := h
  refine k_iast cx (ar_RQ h_p1 3 (by decide) (by decide)) hi dX3_putAt_26 ?_
  refine k_aload_n cx dX3_putAt_27 rfl rfl ?_
  refine k_get (o := some p_BK) (v := .ref p_BK) cx fl_X3_19 ob_MV rfl rfl dX3_putAt_28 ?_
  refine k_iload_n cx dX3_putAt_31 rfl rfl ?_
  refine k_aload_n cx dX3_putAt_32 rfl rfl ?_
  refine k_get (o := some (p1 + 1)) (v := .ref (p1 + 1)) cx fl_X3_38 (ob_RQ h_p1) rfl rfl dX3_putAt_33 ?_
  refine k_iload_n cx dX3_putAt_36 rfl rfl ?_
  obtain ⟨hi, h⟩ := h
  refine k_iald cx (ar_RQ h_p1 1 (by decide) (by decide)) hi dX3_putAt_37 ?_
  refine k_iconst (v := (1 : Int32)) cx dX3_putAt_38 (by decide +kernel) ?_
  refine k_callV (As := [.int x3, .int ((up2 μ1 (p1 + 3) (x2).toNatClampNeg x3) (p1 + 1) (x2).toNatClampNeg), .int (1 : Int32)]) (rest := []) cx (m_X0_enterPart h) cv_X3_88 ob_BK rfl rfl rfl rfl (Nat.le_of_ble_eq_true rfl) ⟨Nat.le_of_ble_eq_true rfl, Nat.le_of_ble_eq_true rfl⟩ dX3_putAt_39 (fun v μ2 hq => ?_)
  obtain ⟨rfl, h⟩ := hq
  exact k_ret_V cx hr hl hQ dX3_putAt_42 h
theorem m_X3_putAt {g : GE} {l : Launch} {μ : Mm} {q : Mm → Prop} {p1 : Nat} {x2 : Int32} {x3 : Int32} (h_p1 : isReq p1) (h : Wp_X3_putAt p1 x2 x3 μ q) : MW g l yX3_putAt cX3_putAt 4 none 2 44 [.ref p_MV, .ref p1, .int x2, .int x3] μ (qV q) := by
  refine met_of (by decide) (Nat.le_of_ble_eq_true rfl) (by intro v hv; simp only [List.mem_cons, List.not_mem_nil, or_false] at hv; rcases hv with rfl | rfl | rfl | rfl <;> rfl) ?_
  intro f hfl cx hr hl hQ
  exact b_X3_putAt_e h_p1 cx hr hl hQ (h  )
theorem dX5_isLineOf_0 : decode cX5_isLineOf 0 = .ok (.aload_n 0, 1) := by decide +kernel
theorem dX5_isLineOf_1 : decode cX5_isLineOf 1 = .ok (.getfield 21, 3) := by decide +kernel
theorem dX5_isLineOf_4 : decode cX5_isLineOf 4 = .ok (.iload_n 1, 1) := by decide +kernel
theorem dX5_isLineOf_5 : decode cX5_isLineOf 5 = .ok (.iaload, 1) := by decide +kernel
theorem dX5_isLineOf_6 : decode cX5_isLineOf 6 = .ok (.iload_n 2, 1) := by decide +kernel
theorem dX5_isLineOf_7 : decode cX5_isLineOf 7 = .ok (.if_icmp .eq 13, 3) := by decide +kernel
theorem dX5_isLineOf_10 : decode cX5_isLineOf 10 = .ok (.aload_n 0, 1) := by decide +kernel
theorem dX5_isLineOf_11 : decode cX5_isLineOf 11 = .ok (.getfield 24, 3) := by decide +kernel
theorem dX5_isLineOf_14 : decode cX5_isLineOf 14 = .ok (.iload_n 1, 1) := by decide +kernel
theorem dX5_isLineOf_15 : decode cX5_isLineOf 15 = .ok (.iaload, 1) := by decide +kernel
theorem dX5_isLineOf_16 : decode cX5_isLineOf 16 = .ok (.iload_n 2, 1) := by decide +kernel
theorem dX5_isLineOf_17 : decode cX5_isLineOf 17 = .ok (.if_icmp .ne 7, 3) := by decide +kernel
theorem dX5_isLineOf_20 : decode cX5_isLineOf 20 = .ok (.iconst 1, 1) := by decide +kernel
theorem dX5_isLineOf_21 : decode cX5_isLineOf 21 = .ok (.goto 4, 3) := by decide +kernel
theorem dX5_isLineOf_24 : decode cX5_isLineOf 24 = .ok (.iconst 0, 1) := by decide +kernel
theorem dX5_isLineOf_25 : decode cX5_isLineOf 25 = .ok (.ireturn, 1) := by decide +kernel
def F_X5_isLineOf_e (p0 : Nat)  (q : Bool → Mm → Prop) (x1 : Int32) (x2 : Int32) (μ : Mm) : Prop :=
  vp_in x1 3 ∧ (((μ (p0 + 4) (x1).toNatClampNeg) = x2 → q true μ) ∧ (¬ ((μ (p0 + 4) (x1).toNatClampNeg) = x2) → vp_in x1 3 ∧ ((¬ ((μ (p0 + 5) (x1).toNatClampNeg) = x2) → q false μ) ∧ ((μ (p0 + 5) (x1).toNatClampNeg) = x2 → q true μ))))
def Wp_X5_isLineOf (p0 : Nat) (x1 : Int32) (x2 : Int32) (μ : Mm) (q : Bool → Mm → Prop) : Prop := F_X5_isLineOf_e p0  q x1 x2 μ
set_option maxHeartbeats 2000000 in
theorem b_X5_isLineOf_e {p0 : Nat} (h_p0 : isReq p0) {g : GE} {f : FE} {q : Bool → Mm → Prop} (cx : Cx g f cX5_isLineOf 3 RX5 0 0 0 0) (hr : (f_M f).sig.returnType = (some .boolean)) (hl : (f_M f).locks = false) (hQ : f_Q f = MQ (f_b f) (QW g (qZ q)) (f_a f) (f_s f) 0 0 (fun q => g.2.2.2.1 ≤ q))  {x1 : Int32} {x2 : Int32} {μ : Mm} (h : F_X5_isLineOf_e p0  q x1 x2 μ) : KW g f 3 0 0 0 [some (.ref p0), some (.int x1), some (.int x2)] [] μ := by
  unfold F_X5_isLineOf_e at h
  refine k_aload_n cx dX5_isLineOf_0 rfl rfl ?_
  refine k_get (o := some (p0 + 4)) (v := .ref (p0 + 4)) cx fl_X5_21 (ob_RQ h_p0) rfl rfl dX5_isLineOf_1 ?_
  refine k_iload_n cx dX5_isLineOf_4 rfl rfl ?_
  obtain ⟨hi, h⟩ := h
  refine k_iald cx (ar_RQ h_p0 4 (by decide) (by decide)) hi dX5_isLineOf_5 ?_
  refine k_iload_n cx dX5_isLineOf_6 rfl rfl ?_
  refine k_icmp_eq (tgt := 20) cx dX5_isLineOf_7 (by decide) (fun hc => ?_) (fun hc => ?_)
  · replace h := h.1 hc
    refine k_iconst (v := (1 : Int32)) cx dX5_isLineOf_20 (by decide +kernel) ?_
    refine k_goto (tgt := 25) cx dX5_isLineOf_21 (by decide) ?_
    exact k_ret_Z (b := true) cx hr hl hQ dX5_isLineOf_25 rfl h
  · replace h := h.2 hc
    refine k_aload_n cx dX5_isLineOf_10 rfl rfl ?_
    refine k_get (o := some (p0 + 5)) (v := .ref (p0 + 5)) cx fl_X5_24 (ob_RQ h_p0) rfl rfl dX5_isLineOf_11 ?_
    refine k_iload_n cx dX5_isLineOf_14 rfl rfl ?_
    obtain ⟨hi, h⟩ := h
    refine k_iald cx (ar_RQ h_p0 5 (by decide) (by decide)) hi dX5_isLineOf_15 ?_
    refine k_iload_n cx dX5_isLineOf_16 rfl rfl ?_
    refine k_icmp_ne (tgt := 24) cx dX5_isLineOf_17 (by decide) (fun hc => ?_) (fun hc => ?_)
    · replace h := h.1 hc
      refine k_iconst (v := (0 : Int32)) cx dX5_isLineOf_24 (by decide +kernel) ?_
      exact k_ret_Z (b := false) cx hr hl hQ dX5_isLineOf_25 rfl h
    · replace h := h.2 hc
      refine k_iconst (v := (1 : Int32)) cx dX5_isLineOf_20 (by decide +kernel) ?_
      refine k_goto (tgt := 25) cx dX5_isLineOf_21 (by decide) ?_
      exact k_ret_Z (b := true) cx hr hl hQ dX5_isLineOf_25 rfl h
theorem m_X5_isLineOf {g : GE} {l : Launch} {μ : Mm} {q : Bool → Mm → Prop} {p0 : Nat} {x1 : Int32} {x2 : Int32} (h_p0 : isReq p0) (h : Wp_X5_isLineOf p0 x1 x2 μ q) : MW g l yX5_isLineOf cX5_isLineOf 3 (some .boolean) 0 0 [.ref p0, .int x1, .int x2] μ (qZ q) := by
  refine met_of (by decide) (Nat.le_of_ble_eq_true rfl) (by intro v hv; simp only [List.mem_cons, List.not_mem_nil, or_false] at hv; rcases hv with rfl | rfl | rfl <;> rfl) ?_
  intro f hfl cx hr hl hQ
  exact b_X5_isLineOf_e h_p0 cx hr hl hQ (h  )
theorem dX3_takeBack_0 : decode cX3_takeBack 0 = .ok (.aload_n 0, 1) := by decide +kernel
theorem dX3_takeBack_1 : decode cX3_takeBack 1 = .ok (.aload_n 1, 1) := by decide +kernel
theorem dX3_takeBack_2 : decode cX3_takeBack 2 = .ok (.iload_n 2, 1) := by decide +kernel
theorem dX3_takeBack_3 : decode cX3_takeBack 3 = .ok (.aload_n 0, 1) := by decide +kernel
theorem dX3_takeBack_4 : decode cX3_takeBack 4 = .ok (.getfield 44, 3) := by decide +kernel
theorem dX3_takeBack_7 : decode cX3_takeBack 7 = .ok (.invokevirtual 48, 3) := by decide +kernel
theorem dX3_takeBack_10 : decode cX3_takeBack 10 = .ok (.iconst 0, 1) := by decide +kernel
theorem dX3_takeBack_11 : decode cX3_takeBack 11 = .ok (.istore_n 3, 1) := by decide +kernel
theorem dX3_takeBack_12 : decode cX3_takeBack 12 = .ok (.iload_n 3, 1) := by decide +kernel
theorem dX3_takeBack_13 : decode cX3_takeBack 13 = .ok (.aload_n 1, 1) := by decide +kernel
theorem dX3_takeBack_14 : decode cX3_takeBack 14 = .ok (.getfield 52, 3) := by decide +kernel
theorem dX3_takeBack_17 : decode cX3_takeBack 17 = .ok (.if_icmp .ge 30, 3) := by decide +kernel
theorem dX3_takeBack_20 : decode cX3_takeBack 20 = .ok (.aload_n 1, 1) := by decide +kernel
theorem dX3_takeBack_21 : decode cX3_takeBack 21 = .ok (.iload_n 3, 1) := by decide +kernel
theorem dX3_takeBack_22 : decode cX3_takeBack 22 = .ok (.iload_n 2, 1) := by decide +kernel
theorem dX3_takeBack_23 : decode cX3_takeBack 23 = .ok (.invokevirtual 55, 3) := by decide +kernel
theorem dX3_takeBack_26 : decode cX3_takeBack 26 = .ok (.ifCond .eq 15, 3) := by decide +kernel
theorem dX3_takeBack_29 : decode cX3_takeBack 29 = .ok (.aload_n 0, 1) := by decide +kernel
theorem dX3_takeBack_30 : decode cX3_takeBack 30 = .ok (.aload_n 1, 1) := by decide +kernel
theorem dX3_takeBack_31 : decode cX3_takeBack 31 = .ok (.iload_n 3, 1) := by decide +kernel
theorem dX3_takeBack_32 : decode cX3_takeBack 32 = .ok (.aload_n 0, 1) := by decide +kernel
theorem dX3_takeBack_33 : decode cX3_takeBack 33 = .ok (.getfield 9, 3) := by decide +kernel
theorem dX3_takeBack_36 : decode cX3_takeBack 36 = .ok (.iload_n 3, 1) := by decide +kernel
theorem dX3_takeBack_37 : decode cX3_takeBack 37 = .ok (.iaload, 1) := by decide +kernel
theorem dX3_takeBack_38 : decode cX3_takeBack 38 = .ok (.invokevirtual 62, 3) := by decide +kernel
theorem dX3_takeBack_41 : decode cX3_takeBack 41 = .ok (.iinc 3 1, 3) := by decide +kernel
theorem dX3_takeBack_44 : decode cX3_takeBack 44 = .ok (.goto (-32), 3) := by decide +kernel
theorem dX3_takeBack_47 : decode cX3_takeBack 47 = .ok (.return_, 1) := by decide +kernel
def F_X3_takeBack_12 (p1 : Nat) (K12 : Int32 → Int32 → Mm → Prop) (q : Mm → Prop) (x2 : Int32) (x3 : Int32) (μ : Mm) : Prop :=
  (((μ p1 11) ≤ x3 → q μ) ∧ (¬ ((μ p1 11) ≤ x3) → Wp_X5_isLineOf p1 x3 x2 μ (fun b2 μ1 => (((bI b2) = 0 → K12 x2 (x3 + (1 : Int32)) μ1) ∧ (¬ ((bI b2) = 0) → vp_in x3 3 ∧ Wp_X3_giveWay p1 x3 (μ1 p_MV_waysBefore (x3).toNatClampNeg) μ1 (fun μ3 => K12 x2 (x3 + (1 : Int32)) μ3))))))
def F_X3_takeBack_e (p1 : Nat) (K12 : Int32 → Int32 → Mm → Prop) (q : Mm → Prop) (x2 : Int32) (μ : Mm) : Prop :=
  Wp_X3_putAt p1 x2 (μ p_MV 3) μ (fun μ1 => K12 x2 (0 : Int32) μ1)
def Wp_X3_takeBack (p1 : Nat) (x2 : Int32) (μ : Mm) (q : Mm → Prop) : Prop := ∀ (K12 : Int32 → Int32 → Mm → Prop), (∀ (x2 : Int32) (x3 : Int32) (μ : Mm), F_X3_takeBack_12 p1 K12 q x2 x3 μ → K12 x2 x3 μ) → F_X3_takeBack_e p1 K12 q x2 μ
abbrev KK_X3_takeBack_12 (g : GE) (f : FE) (p1 : Nat) : Int32 → Int32 → Mm → Prop := fun x2 x3 μ => KW g f 4 0 0 12 [some (.ref p_MV), some (.ref p1), some (.int x2), some (.int x3)] [] μ
set_option maxHeartbeats 2000000 in
theorem b_X3_takeBack_12 {p1 : Nat} (h_p1 : isReq p1) {g : GE} {f : FE} {q : Mm → Prop} (cx : Cx g f cX3_takeBack 4 RX3 3 67 0 0) (hr : (f_M f).sig.returnType = none) (hl : (f_M f).locks = false) (hQ : f_Q f = MQ (f_b f) (QW g (qV q)) (f_a f) (f_s f) 0 0 (fun q => g.2.2.2.1 ≤ q))  {x2 : Int32} {x3 : Int32} {μ : Mm} (h : F_X3_takeBack_12 p1 (KK_X3_takeBack_12 g f p1) q x2 x3 μ) : KK_X3_takeBack_12 g f p1 x2 x3 μ := by
  unfold F_X3_takeBack_12 at h
  show KW g f 4 0 0 12 [some (.ref p_MV), some (.ref p1), some (.int x2), some (.int x3)] [] μ
  refine k_iload_n cx dX3_takeBack_12 rfl rfl ?_
  refine k_aload_n cx dX3_takeBack_13 rfl rfl ?_
  refine k_get (o := none) (v := .int (μ p1 11)) cx fl_X3_52 (ob_RQ h_p1) rfl rfl dX3_takeBack_14 ?_
  refine k_icmp_ge (tgt := 47) cx dX3_takeBack_17 (by decide) (fun hc => ?_) (fun hc => ?_)
  · replace h := h.1 hc
    exact k_ret_V cx hr hl hQ dX3_takeBack_47 h
  · replace h := h.2 hc
    refine k_aload_n cx dX3_takeBack_20 rfl rfl ?_
    refine k_iload_n cx dX3_takeBack_21 rfl rfl ?_
    refine k_iload_n cx dX3_takeBack_22 rfl rfl ?_
    refine k_callV (As := [.int x3, .int x2]) (rest := []) cx (m_X5_isLineOf h_p1 h) cv_X3_55 (ob_RQ h_p1) rfl rfl rfl rfl (Nat.le_of_ble_eq_true rfl) ⟨Nat.le_of_ble_eq_true rfl, Nat.le_of_ble_eq_true rfl⟩ dX3_takeBack_23 (fun v μ1 hq => ?_)
    obtain ⟨b2, rfl, h⟩ := hq
    refine k_if_eq (tgt := 41) cx dX3_takeBack_26 (by decide) (fun hc => ?_) (fun hc => ?_)
    · replace h := h.1 hc
      refine k_iinc (v := (x3 + (1 : Int32))) cx dX3_takeBack_41 rfl rfl (by decide) ?_
      refine k_goto (tgt := 12) cx dX3_takeBack_44 (by decide) ?_
      exact k_weak h (lsLe.keep (lsLe.keep (lsLe.keep (lsLe.keep lsLe.nil))))
    · replace h := h.2 hc
      refine k_aload_n cx dX3_takeBack_29 rfl rfl ?_
      refine k_aload_n cx dX3_takeBack_30 rfl rfl ?_
      refine k_iload_n cx dX3_takeBack_31 rfl rfl ?_
      refine k_aload_n cx dX3_takeBack_32 rfl rfl ?_
      refine k_get (o := some p_MV_waysBefore) (v := .ref p_MV_waysBefore) cx fl_X3_9 ob_MV rfl rfl dX3_takeBack_33 ?_
      refine k_iload_n cx dX3_takeBack_36 rfl rfl ?_
      obtain ⟨hi, h⟩ := h
      refine k_iald cx ar_MV_waysBefore hi dX3_takeBack_37 ?_
      refine k_callV (As := [.ref p1, .int x3, .int (μ1 p_MV_waysBefore (x3).toNatClampNeg)]) (rest := []) cx (m_X3_giveWay h_p1 h) cv_X3_62 ob_MV rfl rfl rfl rfl (Nat.le_of_ble_eq_true rfl) ⟨Nat.le_of_ble_eq_true rfl, Nat.le_of_ble_eq_true rfl⟩ dX3_takeBack_38 (fun v μ3 hq => ?_)
      obtain ⟨rfl, h⟩ := hq
      refine k_iinc (v := (x3 + (1 : Int32))) cx dX3_takeBack_41 rfl rfl (by decide) ?_
      refine k_goto (tgt := 12) cx dX3_takeBack_44 (by decide) ?_
      exact k_weak h (lsLe.keep (lsLe.keep (lsLe.keep (lsLe.keep lsLe.nil))))
set_option maxHeartbeats 2000000 in
theorem b_X3_takeBack_e {p1 : Nat} (h_p1 : isReq p1) {g : GE} {f : FE} {q : Mm → Prop} (cx : Cx g f cX3_takeBack 4 RX3 3 67 0 0) (hr : (f_M f).sig.returnType = none) (hl : (f_M f).locks = false) (hQ : f_Q f = MQ (f_b f) (QW g (qV q)) (f_a f) (f_s f) 0 0 (fun q => g.2.2.2.1 ≤ q))  {x2 : Int32} {μ : Mm} (h : F_X3_takeBack_e p1 (KK_X3_takeBack_12 g f p1) q x2 μ) : KW g f 4 0 0 0 [some (.ref p_MV), some (.ref p1), some (.int x2), none] [] μ := by
  unfold F_X3_takeBack_e at h
  refine k_aload_n cx dX3_takeBack_0 rfl rfl ?_
  refine k_aload_n cx dX3_takeBack_1 rfl rfl ?_
  refine k_iload_n cx dX3_takeBack_2 rfl rfl ?_
  refine k_aload_n cx dX3_takeBack_3 rfl rfl ?_
  refine k_get (o := none) (v := .int (μ p_MV 3)) cx fl_X3_44 ob_MV rfl rfl dX3_takeBack_4 ?_
  refine k_callV (As := [.ref p1, .int x2, .int (μ p_MV 3)]) (rest := []) cx (m_X3_putAt h_p1 h) cv_X3_48 ob_MV rfl rfl rfl rfl (Nat.le_of_ble_eq_true rfl) ⟨Nat.le_of_ble_eq_true rfl, Nat.le_of_ble_eq_true rfl⟩ dX3_takeBack_7 (fun v μ1 hq => ?_)
  obtain ⟨rfl, h⟩ := hq
  refine k_iconst (v := (0 : Int32)) cx dX3_takeBack_10 (by decide +kernel) ?_
  refine k_istore_n cx dX3_takeBack_11 rfl (by decide) ?_
  exact k_weak h (lsLe.keep (lsLe.keep (lsLe.keep (lsLe.keep lsLe.nil))))
theorem m_X3_takeBack {g : GE} {l : Launch} {μ : Mm} {q : Mm → Prop} {p1 : Nat} {x2 : Int32} (h_p1 : isReq p1) (h : Wp_X3_takeBack p1 x2 μ q) : MW g l yX3_takeBack cX3_takeBack 4 none 3 67 [.ref p_MV, .ref p1, .int x2] μ (qV q) := by
  refine met_of (by decide) (Nat.le_of_ble_eq_true rfl) (by intro v hv; simp only [List.mem_cons, List.not_mem_nil, or_false] at hv; rcases hv with rfl | rfl | rfl <;> rfl) ?_
  intro f hfl cx hr hl hQ
  exact b_X3_takeBack_e h_p1 cx hr hl hQ (h (KK_X3_takeBack_12 g f p1) (fun _ _ _ h => b_X3_takeBack_12 h_p1 cx hr hl hQ h))
theorem dX5_isAt_0 : decode cX5_isAt 0 = .ok (.iconst 0, 1) := by decide +kernel
theorem dX5_isAt_1 : decode cX5_isAt 1 = .ok (.istore_n 2, 1) := by decide +kernel
theorem dX5_isAt_2 : decode cX5_isAt 2 = .ok (.iload_n 2, 1) := by decide +kernel
theorem dX5_isAt_3 : decode cX5_isAt 3 = .ok (.aload_n 0, 1) := by decide +kernel
theorem dX5_isAt_4 : decode cX5_isAt 4 = .ok (.getfield 42, 3) := by decide +kernel
theorem dX5_isAt_7 : decode cX5_isAt 7 = .ok (.if_icmp .ge 21, 3) := by decide +kernel
theorem dX5_isAt_10 : decode cX5_isAt 10 = .ok (.aload_n 0, 1) := by decide +kernel
theorem dX5_isAt_11 : decode cX5_isAt 11 = .ok (.getfield 18, 3) := by decide +kernel
theorem dX5_isAt_14 : decode cX5_isAt 14 = .ok (.iload_n 2, 1) := by decide +kernel
theorem dX5_isAt_15 : decode cX5_isAt 15 = .ok (.iaload, 1) := by decide +kernel
theorem dX5_isAt_16 : decode cX5_isAt 16 = .ok (.iload_n 1, 1) := by decide +kernel
theorem dX5_isAt_17 : decode cX5_isAt 17 = .ok (.if_icmp .ne 5, 3) := by decide +kernel
theorem dX5_isAt_20 : decode cX5_isAt 20 = .ok (.iconst 1, 1) := by decide +kernel
theorem dX5_isAt_21 : decode cX5_isAt 21 = .ok (.ireturn, 1) := by decide +kernel
theorem dX5_isAt_22 : decode cX5_isAt 22 = .ok (.iinc 2 1, 3) := by decide +kernel
theorem dX5_isAt_25 : decode cX5_isAt 25 = .ok (.goto (-23), 3) := by decide +kernel
theorem dX5_isAt_28 : decode cX5_isAt 28 = .ok (.iconst 0, 1) := by decide +kernel
theorem dX5_isAt_29 : decode cX5_isAt 29 = .ok (.ireturn, 1) := by decide +kernel
def F_X5_isAt_2 (p0 : Nat) (K2 : Int32 → Int32 → Mm → Prop) (q : Bool → Mm → Prop) (x1 : Int32) (x2 : Int32) (μ : Mm) : Prop :=
  (((μ p0 10) ≤ x2 → q false μ) ∧ (¬ ((μ p0 10) ≤ x2) → vp_in x2 3 ∧ ((¬ ((μ (p0 + 3) (x2).toNatClampNeg) = x1) → K2 x1 (x2 + (1 : Int32)) μ) ∧ ((μ (p0 + 3) (x2).toNatClampNeg) = x1 → q true μ))))
def F_X5_isAt_e (p0 : Nat) (K2 : Int32 → Int32 → Mm → Prop) (q : Bool → Mm → Prop) (x1 : Int32) (μ : Mm) : Prop :=
  K2 x1 (0 : Int32) μ
def Wp_X5_isAt (p0 : Nat) (x1 : Int32) (μ : Mm) (q : Bool → Mm → Prop) : Prop := ∀ (K2 : Int32 → Int32 → Mm → Prop), (∀ (x1 : Int32) (x2 : Int32) (μ : Mm), F_X5_isAt_2 p0 K2 q x1 x2 μ → K2 x1 x2 μ) → F_X5_isAt_e p0 K2 q x1 μ
abbrev KK_X5_isAt_2 (g : GE) (f : FE) (p0 : Nat) : Int32 → Int32 → Mm → Prop := fun x1 x2 μ => KW g f 3 0 0 2 [some (.ref p0), some (.int x1), some (.int x2)] [] μ
set_option maxHeartbeats 2000000 in
theorem b_X5_isAt_2 {p0 : Nat} (h_p0 : isReq p0) {g : GE} {f : FE} {q : Bool → Mm → Prop} (cx : Cx g f cX5_isAt 3 RX5 0 0 0 0) (hr : (f_M f).sig.returnType = (some .boolean)) (hl : (f_M f).locks = false) (hQ : f_Q f = MQ (f_b f) (QW g (qZ q)) (f_a f) (f_s f) 0 0 (fun q => g.2.2.2.1 ≤ q))  {x1 : Int32} {x2 : Int32} {μ : Mm} (h : F_X5_isAt_2 p0 (KK_X5_isAt_2 g f p0) q x1 x2 μ) : KK_X5_isAt_2 g f p0 x1 x2 μ := by
  unfold F_X5_isAt_2 at h
  show KW g f 3 0 0 2 [some (.ref p0), some (.int x1), some (.int x2)] [] μ
  refine k_iload_n cx dX5_isAt_2 rfl rfl ?_
  refine k_aload_n cx dX5_isAt_3 rfl rfl ?_
  refine k_get (o := none) (v := .int (μ p0 10)) cx fl_X5_42 (ob_RQ h_p0) rfl rfl dX5_isAt_4 ?_
  refine k_icmp_ge (tgt := 28) cx dX5_isAt_7 (by decide) (fun hc => ?_) (fun hc => ?_)
  · replace h := h.1 hc
    refine k_iconst (v := (0 : Int32)) cx dX5_isAt_28 (by decide +kernel) ?_
    exact k_ret_Z (b := false) cx hr hl hQ dX5_isAt_29 rfl h
  · replace h := h.2 hc
    refine k_aload_n cx dX5_isAt_10 rfl rfl ?_
    refine k_get (o := some (p0 + 3)) (v := .ref (p0 + 3)) cx fl_X5_18 (ob_RQ h_p0) rfl rfl dX5_isAt_11 ?_
    refine k_iload_n cx dX5_isAt_14 rfl rfl ?_
    obtain ⟨hi, h⟩ := h
    refine k_iald cx (ar_RQ h_p0 3 (by decide) (by decide)) hi dX5_isAt_15 ?_
    refine k_iload_n cx dX5_isAt_16 rfl rfl ?_
    refine k_icmp_ne (tgt := 22) cx dX5_isAt_17 (by decide) (fun hc => ?_) (fun hc => ?_)
    · replace h := h.1 hc
      refine k_iinc (v := (x2 + (1 : Int32))) cx dX5_isAt_22 rfl rfl (by decide) ?_
      refine k_goto (tgt := 2) cx dX5_isAt_25 (by decide) ?_
      exact k_weak h (lsLe.keep (lsLe.keep (lsLe.keep lsLe.nil)))
    · replace h := h.2 hc
      refine k_iconst (v := (1 : Int32)) cx dX5_isAt_20 (by decide +kernel) ?_
      exact k_ret_Z (b := true) cx hr hl hQ dX5_isAt_21 rfl h
set_option maxHeartbeats 2000000 in
theorem b_X5_isAt_e {p0 : Nat} (h_p0 : isReq p0) {g : GE} {f : FE} {q : Bool → Mm → Prop} (cx : Cx g f cX5_isAt 3 RX5 0 0 0 0) (hr : (f_M f).sig.returnType = (some .boolean)) (hl : (f_M f).locks = false) (hQ : f_Q f = MQ (f_b f) (QW g (qZ q)) (f_a f) (f_s f) 0 0 (fun q => g.2.2.2.1 ≤ q))  {x1 : Int32} {μ : Mm} (h : F_X5_isAt_e p0 (KK_X5_isAt_2 g f p0) q x1 μ) : KW g f 3 0 0 0 [some (.ref p0), some (.int x1), none] [] μ := by
  unfold F_X5_isAt_e at h
  refine k_iconst (v := (0 : Int32)) cx dX5_isAt_0 (by decide +kernel) ?_
  refine k_istore_n cx dX5_isAt_1 rfl (by decide) ?_
  exact k_weak h (lsLe.keep (lsLe.keep (lsLe.keep lsLe.nil)))
theorem m_X5_isAt {g : GE} {l : Launch} {μ : Mm} {q : Bool → Mm → Prop} {p0 : Nat} {x1 : Int32} (h_p0 : isReq p0) (h : Wp_X5_isAt p0 x1 μ q) : MW g l yX5_isAt cX5_isAt 3 (some .boolean) 0 0 [.ref p0, .int x1] μ (qZ q) := by
  refine met_of (by decide) (Nat.le_of_ble_eq_true rfl) (by intro v hv; simp only [List.mem_cons, List.not_mem_nil, or_false] at hv; rcases hv with rfl | rfl <;> rfl) ?_
  intro f hfl cx hr hl hQ
  exact b_X5_isAt_e h_p0 cx hr hl hQ (h (KK_X5_isAt_2 g f p0) (fun _ _ _ h => b_X5_isAt_2 h_p0 cx hr hl hQ h))
theorem dX3_shift_0 : decode cX3_shift 0 = .ok (.aload_n 1, 1) := by decide +kernel
theorem dX3_shift_1 : decode cX3_shift 1 = .ok (.getfield 23, 3) := by decide +kernel
theorem dX3_shift_4 : decode cX3_shift 4 = .ok (.iload_n 2, 1) := by decide +kernel
theorem dX3_shift_5 : decode cX3_shift 5 = .ok (.iaload, 1) := by decide +kernel
theorem dX3_shift_6 : decode cX3_shift 6 = .ok (.iload_n 3, 1) := by decide +kernel
theorem dX3_shift_7 : decode cX3_shift 7 = .ok (.ishr, 1) := by decide +kernel
theorem dX3_shift_8 : decode cX3_shift 8 = .ok (.iconst 1, 1) := by decide +kernel
theorem dX3_shift_9 : decode cX3_shift 9 = .ok (.iand, 1) := by decide +kernel
theorem dX3_shift_10 : decode cX3_shift 10 = .ok (.ifCond .eq 15, 3) := by decide +kernel
theorem dX3_shift_13 : decode cX3_shift 13 = .ok (.aload_n 1, 1) := by decide +kernel
theorem dX3_shift_14 : decode cX3_shift 14 = .ok (.iload_n 3, 1) := by decide +kernel
theorem dX3_shift_15 : decode cX3_shift 15 = .ok (.invokevirtual 28, 3) := by decide +kernel
theorem dX3_shift_18 : decode cX3_shift 18 = .ok (.ifCond .ne 7, 3) := by decide +kernel
theorem dX3_shift_21 : decode cX3_shift 21 = .ok (.iconst 1, 1) := by decide +kernel
theorem dX3_shift_22 : decode cX3_shift 22 = .ok (.goto 4, 3) := by decide +kernel
theorem dX3_shift_25 : decode cX3_shift 25 = .ok (.iconst 0, 1) := by decide +kernel
theorem dX3_shift_26 : decode cX3_shift 26 = .ok (.istore 4, 2) := by decide +kernel
theorem dX3_shift_28 : decode cX3_shift 28 = .ok (.iload 4, 2) := by decide +kernel
theorem dX3_shift_30 : decode cX3_shift 30 = .ok (.ifCond .eq 20, 3) := by decide +kernel
theorem dX3_shift_33 : decode cX3_shift 33 = .ok (.aload_n 0, 1) := by decide +kernel
theorem dX3_shift_34 : decode cX3_shift 34 = .ok (.getfield 19, 3) := by decide +kernel
theorem dX3_shift_37 : decode cX3_shift 37 = .ok (.iload_n 3, 1) := by decide +kernel
theorem dX3_shift_38 : decode cX3_shift 38 = .ok (.invokevirtual 32, 3) := by decide +kernel
theorem dX3_shift_41 : decode cX3_shift 41 = .ok (.aload_n 1, 1) := by decide +kernel
theorem dX3_shift_42 : decode cX3_shift 42 = .ok (.getfield 38, 3) := by decide +kernel
theorem dX3_shift_45 : decode cX3_shift 45 = .ok (.iload_n 2, 1) := by decide +kernel
theorem dX3_shift_46 : decode cX3_shift 46 = .ok (.iaload, 1) := by decide +kernel
theorem dX3_shift_47 : decode cX3_shift 47 = .ok (.if_icmp .ge 5, 3) := by decide +kernel
theorem dX3_shift_50 : decode cX3_shift 50 = .ok (.iconst 0, 1) := by decide +kernel
theorem dX3_shift_51 : decode cX3_shift 51 = .ok (.ireturn, 1) := by decide +kernel
theorem dX3_shift_52 : decode cX3_shift 52 = .ok (.aload_n 0, 1) := by decide +kernel
theorem dX3_shift_53 : decode cX3_shift 53 = .ok (.aload_n 1, 1) := by decide +kernel
theorem dX3_shift_54 : decode cX3_shift 54 = .ok (.getfield 41, 3) := by decide +kernel
theorem dX3_shift_57 : decode cX3_shift 57 = .ok (.iload_n 2, 1) := by decide +kernel
theorem dX3_shift_58 : decode cX3_shift 58 = .ok (.iaload, 1) := by decide +kernel
theorem dX3_shift_59 : decode cX3_shift 59 = .ok (.putfield 44, 3) := by decide +kernel
theorem dX3_shift_62 : decode cX3_shift 62 = .ok (.aload_n 0, 1) := by decide +kernel
theorem dX3_shift_63 : decode cX3_shift 63 = .ok (.aload_n 1, 1) := by decide +kernel
theorem dX3_shift_64 : decode cX3_shift 64 = .ok (.iload_n 2, 1) := by decide +kernel
theorem dX3_shift_65 : decode cX3_shift 65 = .ok (.iload_n 3, 1) := by decide +kernel
theorem dX3_shift_66 : decode cX3_shift 66 = .ok (.invokevirtual 48, 3) := by decide +kernel
theorem dX3_shift_69 : decode cX3_shift 69 = .ok (.iconst 0, 1) := by decide +kernel
theorem dX3_shift_70 : decode cX3_shift 70 = .ok (.istore 5, 2) := by decide +kernel
theorem dX3_shift_72 : decode cX3_shift 72 = .ok (.iload 5, 2) := by decide +kernel
theorem dX3_shift_74 : decode cX3_shift 74 = .ok (.aload_n 1, 1) := by decide +kernel
theorem dX3_shift_75 : decode cX3_shift 75 = .ok (.getfield 52, 3) := by decide +kernel
theorem dX3_shift_78 : decode cX3_shift 78 = .ok (.if_icmp .ge 41, 3) := by decide +kernel
theorem dX3_shift_81 : decode cX3_shift 81 = .ok (.aload_n 1, 1) := by decide +kernel
theorem dX3_shift_82 : decode cX3_shift 82 = .ok (.iload 5, 2) := by decide +kernel
theorem dX3_shift_84 : decode cX3_shift 84 = .ok (.iload_n 2, 1) := by decide +kernel
theorem dX3_shift_85 : decode cX3_shift 85 = .ok (.invokevirtual 55, 3) := by decide +kernel
theorem dX3_shift_88 : decode cX3_shift 88 = .ok (.ifCond .eq 25, 3) := by decide +kernel
theorem dX3_shift_91 : decode cX3_shift 91 = .ok (.aload_n 0, 1) := by decide +kernel
theorem dX3_shift_92 : decode cX3_shift 92 = .ok (.getfield 9, 3) := by decide +kernel
theorem dX3_shift_95 : decode cX3_shift 95 = .ok (.iload 5, 2) := by decide +kernel
theorem dX3_shift_97 : decode cX3_shift 97 = .ok (.aload_n 1, 1) := by decide +kernel
theorem dX3_shift_98 : decode cX3_shift 98 = .ok (.getfield 59, 3) := by decide +kernel
theorem dX3_shift_101 : decode cX3_shift 101 = .ok (.iload 5, 2) := by decide +kernel
theorem dX3_shift_103 : decode cX3_shift 103 = .ok (.iaload, 1) := by decide +kernel
theorem dX3_shift_104 : decode cX3_shift 104 = .ok (.iastore, 1) := by decide +kernel
theorem dX3_shift_105 : decode cX3_shift 105 = .ok (.aload_n 0, 1) := by decide +kernel
theorem dX3_shift_106 : decode cX3_shift 106 = .ok (.aload_n 1, 1) := by decide +kernel
theorem dX3_shift_107 : decode cX3_shift 107 = .ok (.iload 5, 2) := by decide +kernel
theorem dX3_shift_109 : decode cX3_shift 109 = .ok (.iconst 0, 1) := by decide +kernel
theorem dX3_shift_110 : decode cX3_shift 110 = .ok (.invokevirtual 62, 3) := by decide +kernel
theorem dX3_shift_113 : decode cX3_shift 113 = .ok (.iinc 5 1, 3) := by decide +kernel
theorem dX3_shift_116 : decode cX3_shift 116 = .ok (.goto (-44), 3) := by decide +kernel
theorem dX3_shift_119 : decode cX3_shift 119 = .ok (.iconst 0, 1) := by decide +kernel
theorem dX3_shift_120 : decode cX3_shift 120 = .ok (.istore 5, 2) := by decide +kernel
theorem dX3_shift_122 : decode cX3_shift 122 = .ok (.iload 5, 2) := by decide +kernel
theorem dX3_shift_124 : decode cX3_shift 124 = .ok (.aload_n 1, 1) := by decide +kernel
theorem dX3_shift_125 : decode cX3_shift 125 = .ok (.getfield 52, 3) := by decide +kernel
theorem dX3_shift_128 : decode cX3_shift 128 = .ok (.if_icmp .ge 37, 3) := by decide +kernel
theorem dX3_shift_131 : decode cX3_shift 131 = .ok (.aload_n 1, 1) := by decide +kernel
theorem dX3_shift_132 : decode cX3_shift 132 = .ok (.iload 5, 2) := by decide +kernel
theorem dX3_shift_134 : decode cX3_shift 134 = .ok (.iload_n 2, 1) := by decide +kernel
theorem dX3_shift_135 : decode cX3_shift 135 = .ok (.invokevirtual 55, 3) := by decide +kernel
theorem dX3_shift_138 : decode cX3_shift 138 = .ok (.ifCond .eq 21, 3) := by decide +kernel
theorem dX3_shift_141 : decode cX3_shift 141 = .ok (.aload_n 0, 1) := by decide +kernel
theorem dX3_shift_142 : decode cX3_shift 142 = .ok (.aload_n 1, 1) := by decide +kernel
theorem dX3_shift_143 : decode cX3_shift 143 = .ok (.iload 5, 2) := by decide +kernel
theorem dX3_shift_145 : decode cX3_shift 145 = .ok (.invokevirtual 65, 3) := by decide +kernel
theorem dX3_shift_148 : decode cX3_shift 148 = .ok (.ifCond .ne 11, 3) := by decide +kernel
theorem dX3_shift_151 : decode cX3_shift 151 = .ok (.aload_n 0, 1) := by decide +kernel
theorem dX3_shift_152 : decode cX3_shift 152 = .ok (.aload_n 1, 1) := by decide +kernel
theorem dX3_shift_153 : decode cX3_shift 153 = .ok (.iload_n 2, 1) := by decide +kernel
theorem dX3_shift_154 : decode cX3_shift 154 = .ok (.invokevirtual 69, 3) := by decide +kernel
theorem dX3_shift_157 : decode cX3_shift 157 = .ok (.iconst 0, 1) := by decide +kernel
theorem dX3_shift_158 : decode cX3_shift 158 = .ok (.ireturn, 1) := by decide +kernel
theorem dX3_shift_159 : decode cX3_shift 159 = .ok (.iinc 5 1, 3) := by decide +kernel
theorem dX3_shift_162 : decode cX3_shift 162 = .ok (.goto (-40), 3) := by decide +kernel
theorem dX3_shift_165 : decode cX3_shift 165 = .ok (.iconst 1, 1) := by decide +kernel
theorem dX3_shift_166 : decode cX3_shift 166 = .ok (.ireturn, 1) := by decide +kernel
def F_X3_shift_26 (p1 : Nat) (K26 : Int32 → Int32 → Int32 → Mm → Prop) (K72 : Int32 → Int32 → Mm → Prop) (K122 : Int32 → Int32 → Mm → Prop) (q : Bool → Mm → Prop) (x2 : Int32) (x3 : Int32) (y0 : Int32) (μ : Mm) : Prop :=
  ((y0 = 0 → q false μ) ∧ (¬ (y0 = 0) → Wp_X0_leftAtNode x3 μ (fun z2 μ1 => vp_in x2 3 ∧ (((μ1 (p1 + 1) (x2).toNatClampNeg) ≤ z2 → vp_in x2 3 ∧ Wp_X3_putAt p1 x2 x3 (up2 μ1 p_MV 3 (μ1 (p1 + 3) (x2).toNatClampNeg)) (fun μ3 => K72 x2 (0 : Int32) μ3)) ∧ (¬ ((μ1 (p1 + 1) (x2).toNatClampNeg) ≤ z2) → q false μ1)))))
def F_X3_shift_72 (p1 : Nat) (K26 : Int32 → Int32 → Int32 → Mm → Prop) (K72 : Int32 → Int32 → Mm → Prop) (K122 : Int32 → Int32 → Mm → Prop) (q : Bool → Mm → Prop) (x2 : Int32) (x5 : Int32) (μ : Mm) : Prop :=
  (((μ p1 11) ≤ x5 → K122 x2 (0 : Int32) μ) ∧ (¬ ((μ p1 11) ≤ x5) → Wp_X5_isLineOf p1 x5 x2 μ (fun b2 μ1 => (((bI b2) = 0 → K72 x2 (x5 + (1 : Int32)) μ1) ∧ (¬ ((bI b2) = 0) → vp_in x5 3 ∧ vp_in x5 3 ∧ Wp_X3_giveWay p1 x5 (0 : Int32) (up2 μ1 p_MV_waysBefore (x5).toNatClampNeg (μ1 (p1 + 7) (x5).toNatClampNeg)) (fun μ3 => K72 x2 (x5 + (1 : Int32)) μ3))))))
def F_X3_shift_122 (p1 : Nat) (K26 : Int32 → Int32 → Int32 → Mm → Prop) (K72 : Int32 → Int32 → Mm → Prop) (K122 : Int32 → Int32 → Mm → Prop) (q : Bool → Mm → Prop) (x2 : Int32) (x5 : Int32) (μ : Mm) : Prop :=
  (((μ p1 11) ≤ x5 → q true μ) ∧ (¬ ((μ p1 11) ≤ x5) → Wp_X5_isLineOf p1 x5 x2 μ (fun b2 μ1 => (((bI b2) = 0 → K122 x2 (x5 + (1 : Int32)) μ1) ∧ (¬ ((bI b2) = 0) → Wp_X3_findWay p1 x5 μ1 (fun b4 μ3 => ((¬ ((bI b4) = 0) → K122 x2 (x5 + (1 : Int32)) μ3) ∧ ((bI b4) = 0 → Wp_X3_takeBack p1 x2 μ3 (fun μ5 => q false μ5)))))))))
def F_X3_shift_e (p1 : Nat) (K26 : Int32 → Int32 → Int32 → Mm → Prop) (K72 : Int32 → Int32 → Mm → Prop) (K122 : Int32 → Int32 → Mm → Prop) (q : Bool → Mm → Prop) (x2 : Int32) (x3 : Int32) (μ : Mm) : Prop :=
  vp_in x2 3 ∧ (((((μ (p1 + 2) (x2).toNatClampNeg) >>> (x3 &&& 31)) &&& (1 : Int32)) = 0 → K26 x2 x3 (0 : Int32) μ) ∧ (¬ ((((μ (p1 + 2) (x2).toNatClampNeg) >>> (x3 &&& 31)) &&& (1 : Int32)) = 0) → Wp_X5_isAt p1 x3 μ (fun b2 μ1 => ((¬ ((bI b2) = 0) → K26 x2 x3 (0 : Int32) μ1) ∧ ((bI b2) = 0 → K26 x2 x3 (1 : Int32) μ1)))))
def Wp_X3_shift (p1 : Nat) (x2 : Int32) (x3 : Int32) (μ : Mm) (q : Bool → Mm → Prop) : Prop := ∀ (K26 : Int32 → Int32 → Int32 → Mm → Prop) (K72 : Int32 → Int32 → Mm → Prop) (K122 : Int32 → Int32 → Mm → Prop), (∀ (x2 : Int32) (x3 : Int32) (y0 : Int32) (μ : Mm), F_X3_shift_26 p1 K26 K72 K122 q x2 x3 y0 μ → K26 x2 x3 y0 μ) → (∀ (x2 : Int32) (x5 : Int32) (μ : Mm), F_X3_shift_72 p1 K26 K72 K122 q x2 x5 μ → K72 x2 x5 μ) → (∀ (x2 : Int32) (x5 : Int32) (μ : Mm), F_X3_shift_122 p1 K26 K72 K122 q x2 x5 μ → K122 x2 x5 μ) → F_X3_shift_e p1 K26 K72 K122 q x2 x3 μ
abbrev KK_X3_shift_26 (g : GE) (f : FE) (p1 : Nat) : Int32 → Int32 → Int32 → Mm → Prop := fun x2 x3 y0 μ => KW g f 6 0 0 26 [some (.ref p_MV), some (.ref p1), some (.int x2), some (.int x3), none, none] [.int y0] μ
abbrev KK_X3_shift_72 (g : GE) (f : FE) (p1 : Nat) : Int32 → Int32 → Mm → Prop := fun x2 x5 μ => KW g f 6 0 0 72 [some (.ref p_MV), some (.ref p1), some (.int x2), none, none, some (.int x5)] [] μ
abbrev KK_X3_shift_122 (g : GE) (f : FE) (p1 : Nat) : Int32 → Int32 → Mm → Prop := fun x2 x5 μ => KW g f 6 0 0 122 [some (.ref p_MV), some (.ref p1), some (.int x2), none, none, some (.int x5)] [] μ
set_option maxHeartbeats 2000000 in
theorem b_X3_shift_26 {p1 : Nat} (h_p1 : isReq p1) {g : GE} {f : FE} {q : Bool → Mm → Prop} (cx : Cx g f cX3_shift 6 RX3 4 90 0 0) (hr : (f_M f).sig.returnType = (some .boolean)) (hl : (f_M f).locks = false) (hQ : f_Q f = MQ (f_b f) (QW g (qZ q)) (f_a f) (f_s f) 0 0 (fun q => g.2.2.2.1 ≤ q))  {x2 : Int32} {x3 : Int32} {y0 : Int32} {μ : Mm} (h : F_X3_shift_26 p1 (KK_X3_shift_26 g f p1) (KK_X3_shift_72 g f p1) (KK_X3_shift_122 g f p1) q x2 x3 y0 μ) : KK_X3_shift_26 g f p1 x2 x3 y0 μ := by
  unfold F_X3_shift_26 at h
  show KW g f 6 0 0 26 [some (.ref p_MV), some (.ref p1), some (.int x2), some (.int x3), none, none] [.int y0] μ
  refine k_istore cx dX3_shift_26 (by decide) ?_
  refine k_iload cx dX3_shift_28 rfl ?_
  refine k_if_eq (tgt := 50) cx dX3_shift_30 (by decide) (fun hc => ?_) (fun hc => ?_)
  · replace h := h.1 hc
    refine k_iconst (v := (0 : Int32)) cx dX3_shift_50 (by decide +kernel) ?_
    exact k_ret_Z (b := false) cx hr hl hQ dX3_shift_51 rfl h
  · replace h := h.2 hc
    refine k_aload_n cx dX3_shift_33 rfl rfl ?_
    refine k_get (o := some p_BK) (v := .ref p_BK) cx fl_X3_19 ob_MV rfl rfl dX3_shift_34 ?_
    refine k_iload_n cx dX3_shift_37 rfl rfl ?_
    refine k_callV (As := [.int x3]) (rest := []) cx (m_X0_leftAtNode h) cv_X3_32 ob_BK rfl rfl rfl rfl (Nat.le_of_ble_eq_true rfl) ⟨Nat.le_of_ble_eq_true rfl, Nat.le_of_ble_eq_true rfl⟩ dX3_shift_38 (fun v μ1 hq => ?_)
    obtain ⟨z2, rfl, h⟩ := hq
    refine k_aload_n cx dX3_shift_41 rfl rfl ?_
    refine k_get (o := some (p1 + 1)) (v := .ref (p1 + 1)) cx fl_X3_38 (ob_RQ h_p1) rfl rfl dX3_shift_42 ?_
    refine k_iload_n cx dX3_shift_45 rfl rfl ?_
    obtain ⟨hi, h⟩ := h
    refine k_iald cx (ar_RQ h_p1 1 (by decide) (by decide)) hi dX3_shift_46 ?_
    refine k_icmp_ge (tgt := 52) cx dX3_shift_47 (by decide) (fun hc => ?_) (fun hc => ?_)
    · replace h := h.1 hc
      refine k_aload_n cx dX3_shift_52 rfl rfl ?_
      refine k_aload_n cx dX3_shift_53 rfl rfl ?_
      refine k_get (o := some (p1 + 3)) (v := .ref (p1 + 3)) cx fl_X3_41 (ob_RQ h_p1) rfl rfl dX3_shift_54 ?_
      refine k_iload_n cx dX3_shift_57 rfl rfl ?_
      obtain ⟨hi, h⟩ := h
      refine k_iald cx (ar_RQ h_p1 3 (by decide) (by decide)) hi dX3_shift_58 ?_
      refine k_put cx fp_X3_44 ob_MV rfl rfl rfl dX3_shift_59 ?_
      refine k_aload_n cx dX3_shift_62 rfl rfl ?_
      refine k_aload_n cx dX3_shift_63 rfl rfl ?_
      refine k_iload_n cx dX3_shift_64 rfl rfl ?_
      refine k_iload_n cx dX3_shift_65 rfl rfl ?_
      refine k_callV (As := [.ref p1, .int x2, .int x3]) (rest := []) cx (m_X3_putAt h_p1 h) cv_X3_48 ob_MV rfl rfl rfl rfl (Nat.le_of_ble_eq_true rfl) ⟨Nat.le_of_ble_eq_true rfl, Nat.le_of_ble_eq_true rfl⟩ dX3_shift_66 (fun v μ3 hq => ?_)
      obtain ⟨rfl, h⟩ := hq
      refine k_iconst (v := (0 : Int32)) cx dX3_shift_69 (by decide +kernel) ?_
      refine k_istore cx dX3_shift_70 (by decide) ?_
      exact k_weak h (lsLe.keep (lsLe.keep (lsLe.keep (lsLe.drop (lsLe.drop (lsLe.keep lsLe.nil))))))
    · replace h := h.2 hc
      refine k_iconst (v := (0 : Int32)) cx dX3_shift_50 (by decide +kernel) ?_
      exact k_ret_Z (b := false) cx hr hl hQ dX3_shift_51 rfl h
set_option maxHeartbeats 2000000 in
theorem b_X3_shift_72 {p1 : Nat} (h_p1 : isReq p1) {g : GE} {f : FE} {q : Bool → Mm → Prop} (cx : Cx g f cX3_shift 6 RX3 4 90 0 0) (hr : (f_M f).sig.returnType = (some .boolean)) (hl : (f_M f).locks = false) (hQ : f_Q f = MQ (f_b f) (QW g (qZ q)) (f_a f) (f_s f) 0 0 (fun q => g.2.2.2.1 ≤ q))  {x2 : Int32} {x5 : Int32} {μ : Mm} (h : F_X3_shift_72 p1 (KK_X3_shift_26 g f p1) (KK_X3_shift_72 g f p1) (KK_X3_shift_122 g f p1) q x2 x5 μ) : KK_X3_shift_72 g f p1 x2 x5 μ := by
  unfold F_X3_shift_72 at h
  show KW g f 6 0 0 72 [some (.ref p_MV), some (.ref p1), some (.int x2), none, none, some (.int x5)] [] μ
  refine k_iload cx dX3_shift_72 rfl ?_
  refine k_aload_n cx dX3_shift_74 rfl rfl ?_
  refine k_get (o := none) (v := .int (μ p1 11)) cx fl_X3_52 (ob_RQ h_p1) rfl rfl dX3_shift_75 ?_
  refine k_icmp_ge (tgt := 119) cx dX3_shift_78 (by decide) (fun hc => ?_) (fun hc => ?_)
  · replace h := h.1 hc
    refine k_iconst (v := (0 : Int32)) cx dX3_shift_119 (by decide +kernel) ?_
    refine k_istore cx dX3_shift_120 (by decide) ?_
    exact k_weak h (lsLe.keep (lsLe.keep (lsLe.keep (lsLe.keep (lsLe.keep (lsLe.keep lsLe.nil))))))
  · replace h := h.2 hc
    refine k_aload_n cx dX3_shift_81 rfl rfl ?_
    refine k_iload cx dX3_shift_82 rfl ?_
    refine k_iload_n cx dX3_shift_84 rfl rfl ?_
    refine k_callV (As := [.int x5, .int x2]) (rest := []) cx (m_X5_isLineOf h_p1 h) cv_X3_55 (ob_RQ h_p1) rfl rfl rfl rfl (Nat.le_of_ble_eq_true rfl) ⟨Nat.le_of_ble_eq_true rfl, Nat.le_of_ble_eq_true rfl⟩ dX3_shift_85 (fun v μ1 hq => ?_)
    obtain ⟨b2, rfl, h⟩ := hq
    refine k_if_eq (tgt := 113) cx dX3_shift_88 (by decide) (fun hc => ?_) (fun hc => ?_)
    · replace h := h.1 hc
      refine k_iinc (v := (x5 + (1 : Int32))) cx dX3_shift_113 rfl rfl (by decide) ?_
      refine k_goto (tgt := 72) cx dX3_shift_116 (by decide) ?_
      exact k_weak h (lsLe.keep (lsLe.keep (lsLe.keep (lsLe.keep (lsLe.keep (lsLe.keep lsLe.nil))))))
    · replace h := h.2 hc
      refine k_aload_n cx dX3_shift_91 rfl rfl ?_
      refine k_get (o := some p_MV_waysBefore) (v := .ref p_MV_waysBefore) cx fl_X3_9 ob_MV rfl rfl dX3_shift_92 ?_
      refine k_iload cx dX3_shift_95 rfl ?_
      refine k_aload_n cx dX3_shift_97 rfl rfl ?_
      refine k_get (o := some (p1 + 7)) (v := .ref (p1 + 7)) cx fl_X3_59 (ob_RQ h_p1) rfl rfl dX3_shift_98 ?_
      refine k_iload cx dX3_shift_101 rfl ?_
      obtain ⟨hi, h⟩ := h
      refine k_iald cx (ar_RQ h_p1 7 (by decide) (by decide)) hi dX3_shift_103 ?_
      obtain ⟨hi, h⟩ := h
      refine k_iast cx ar_MV_waysBefore hi dX3_shift_104 ?_
      refine k_aload_n cx dX3_shift_105 rfl rfl ?_
      refine k_aload_n cx dX3_shift_106 rfl rfl ?_
      refine k_iload cx dX3_shift_107 rfl ?_
      refine k_iconst (v := (0 : Int32)) cx dX3_shift_109 (by decide +kernel) ?_
      refine k_callV (As := [.ref p1, .int x5, .int (0 : Int32)]) (rest := []) cx (m_X3_giveWay h_p1 h) cv_X3_62 ob_MV rfl rfl rfl rfl (Nat.le_of_ble_eq_true rfl) ⟨Nat.le_of_ble_eq_true rfl, Nat.le_of_ble_eq_true rfl⟩ dX3_shift_110 (fun v μ3 hq => ?_)
      obtain ⟨rfl, h⟩ := hq
      refine k_iinc (v := (x5 + (1 : Int32))) cx dX3_shift_113 rfl rfl (by decide) ?_
      refine k_goto (tgt := 72) cx dX3_shift_116 (by decide) ?_
      exact k_weak h (lsLe.keep (lsLe.keep (lsLe.keep (lsLe.keep (lsLe.keep (lsLe.keep lsLe.nil))))))
set_option maxHeartbeats 2000000 in
theorem b_X3_shift_122 {p1 : Nat} (h_p1 : isReq p1) {g : GE} {f : FE} {q : Bool → Mm → Prop} (cx : Cx g f cX3_shift 6 RX3 4 90 0 0) (hr : (f_M f).sig.returnType = (some .boolean)) (hl : (f_M f).locks = false) (hQ : f_Q f = MQ (f_b f) (QW g (qZ q)) (f_a f) (f_s f) 0 0 (fun q => g.2.2.2.1 ≤ q))  {x2 : Int32} {x5 : Int32} {μ : Mm} (h : F_X3_shift_122 p1 (KK_X3_shift_26 g f p1) (KK_X3_shift_72 g f p1) (KK_X3_shift_122 g f p1) q x2 x5 μ) : KK_X3_shift_122 g f p1 x2 x5 μ := by
  unfold F_X3_shift_122 at h
  show KW g f 6 0 0 122 [some (.ref p_MV), some (.ref p1), some (.int x2), none, none, some (.int x5)] [] μ
  refine k_iload cx dX3_shift_122 rfl ?_
  refine k_aload_n cx dX3_shift_124 rfl rfl ?_
  refine k_get (o := none) (v := .int (μ p1 11)) cx fl_X3_52 (ob_RQ h_p1) rfl rfl dX3_shift_125 ?_
  refine k_icmp_ge (tgt := 165) cx dX3_shift_128 (by decide) (fun hc => ?_) (fun hc => ?_)
  · replace h := h.1 hc
    refine k_iconst (v := (1 : Int32)) cx dX3_shift_165 (by decide +kernel) ?_
    exact k_ret_Z (b := true) cx hr hl hQ dX3_shift_166 rfl h
  · replace h := h.2 hc
    refine k_aload_n cx dX3_shift_131 rfl rfl ?_
    refine k_iload cx dX3_shift_132 rfl ?_
    refine k_iload_n cx dX3_shift_134 rfl rfl ?_
    refine k_callV (As := [.int x5, .int x2]) (rest := []) cx (m_X5_isLineOf h_p1 h) cv_X3_55 (ob_RQ h_p1) rfl rfl rfl rfl (Nat.le_of_ble_eq_true rfl) ⟨Nat.le_of_ble_eq_true rfl, Nat.le_of_ble_eq_true rfl⟩ dX3_shift_135 (fun v μ1 hq => ?_)
    obtain ⟨b2, rfl, h⟩ := hq
    refine k_if_eq (tgt := 159) cx dX3_shift_138 (by decide) (fun hc => ?_) (fun hc => ?_)
    · replace h := h.1 hc
      refine k_iinc (v := (x5 + (1 : Int32))) cx dX3_shift_159 rfl rfl (by decide) ?_
      refine k_goto (tgt := 122) cx dX3_shift_162 (by decide) ?_
      exact k_weak h (lsLe.keep (lsLe.keep (lsLe.keep (lsLe.keep (lsLe.keep (lsLe.keep lsLe.nil))))))
    · replace h := h.2 hc
      refine k_aload_n cx dX3_shift_141 rfl rfl ?_
      refine k_aload_n cx dX3_shift_142 rfl rfl ?_
      refine k_iload cx dX3_shift_143 rfl ?_
      refine k_callV (As := [.ref p1, .int x5]) (rest := []) cx (m_X3_findWay h_p1 h) cv_X3_65 ob_MV rfl rfl rfl rfl (Nat.le_of_ble_eq_true rfl) ⟨Nat.le_of_ble_eq_true rfl, Nat.le_of_ble_eq_true rfl⟩ dX3_shift_145 (fun v μ3 hq => ?_)
      obtain ⟨b4, rfl, h⟩ := hq
      refine k_if_ne (tgt := 159) cx dX3_shift_148 (by decide) (fun hc => ?_) (fun hc => ?_)
      · replace h := h.1 hc
        refine k_iinc (v := (x5 + (1 : Int32))) cx dX3_shift_159 rfl rfl (by decide) ?_
        refine k_goto (tgt := 122) cx dX3_shift_162 (by decide) ?_
        exact k_weak h (lsLe.keep (lsLe.keep (lsLe.keep (lsLe.keep (lsLe.keep (lsLe.keep lsLe.nil))))))
      · replace h := h.2 hc
        refine k_aload_n cx dX3_shift_151 rfl rfl ?_
        refine k_aload_n cx dX3_shift_152 rfl rfl ?_
        refine k_iload_n cx dX3_shift_153 rfl rfl ?_
        refine k_callV (As := [.ref p1, .int x2]) (rest := []) cx (m_X3_takeBack h_p1 h) cv_X3_69 ob_MV rfl rfl rfl rfl (Nat.le_of_ble_eq_true rfl) ⟨Nat.le_of_ble_eq_true rfl, Nat.le_of_ble_eq_true rfl⟩ dX3_shift_154 (fun v μ5 hq => ?_)
        obtain ⟨rfl, h⟩ := hq
        refine k_iconst (v := (0 : Int32)) cx dX3_shift_157 (by decide +kernel) ?_
        exact k_ret_Z (b := false) cx hr hl hQ dX3_shift_158 rfl h
set_option maxHeartbeats 2000000 in
theorem b_X3_shift_e {p1 : Nat} (h_p1 : isReq p1) {g : GE} {f : FE} {q : Bool → Mm → Prop} (cx : Cx g f cX3_shift 6 RX3 4 90 0 0) (hr : (f_M f).sig.returnType = (some .boolean)) (hl : (f_M f).locks = false) (hQ : f_Q f = MQ (f_b f) (QW g (qZ q)) (f_a f) (f_s f) 0 0 (fun q => g.2.2.2.1 ≤ q))  {x2 : Int32} {x3 : Int32} {μ : Mm} (h : F_X3_shift_e p1 (KK_X3_shift_26 g f p1) (KK_X3_shift_72 g f p1) (KK_X3_shift_122 g f p1) q x2 x3 μ) : KW g f 6 0 0 0 [some (.ref p_MV), some (.ref p1), some (.int x2), some (.int x3), none, none] [] μ := by
  unfold F_X3_shift_e at h
  refine k_aload_n cx dX3_shift_0 rfl rfl ?_
  refine k_get (o := some (p1 + 2)) (v := .ref (p1 + 2)) cx fl_X3_23 (ob_RQ h_p1) rfl rfl dX3_shift_1 ?_
  refine k_iload_n cx dX3_shift_4 rfl rfl ?_
  obtain ⟨hi, h⟩ := h
  refine k_iald cx (ar_RQ h_p1 2 (by decide) (by decide)) hi dX3_shift_5 ?_
  refine k_iload_n cx dX3_shift_6 rfl rfl ?_
  refine k_ishr cx dX3_shift_7 ?_
  refine k_iconst (v := (1 : Int32)) cx dX3_shift_8 (by decide +kernel) ?_
  refine k_iand cx dX3_shift_9 ?_
  refine k_if_eq (tgt := 25) cx dX3_shift_10 (by decide) (fun hc => ?_) (fun hc => ?_)
  · replace h := h.1 hc
    refine k_iconst (v := (0 : Int32)) cx dX3_shift_25 (by decide +kernel) ?_
    exact k_weak h (lsLe.keep (lsLe.keep (lsLe.keep (lsLe.keep (lsLe.keep (lsLe.keep lsLe.nil))))))
  · replace h := h.2 hc
    refine k_aload_n cx dX3_shift_13 rfl rfl ?_
    refine k_iload_n cx dX3_shift_14 rfl rfl ?_
    refine k_callV (As := [.int x3]) (rest := []) cx (m_X5_isAt h_p1 h) cv_X3_28 (ob_RQ h_p1) rfl rfl rfl rfl (Nat.le_of_ble_eq_true rfl) ⟨Nat.le_of_ble_eq_true rfl, Nat.le_of_ble_eq_true rfl⟩ dX3_shift_15 (fun v μ1 hq => ?_)
    obtain ⟨b2, rfl, h⟩ := hq
    refine k_if_ne (tgt := 25) cx dX3_shift_18 (by decide) (fun hc => ?_) (fun hc => ?_)
    · replace h := h.1 hc
      refine k_iconst (v := (0 : Int32)) cx dX3_shift_25 (by decide +kernel) ?_
      exact k_weak h (lsLe.keep (lsLe.keep (lsLe.keep (lsLe.keep (lsLe.keep (lsLe.keep lsLe.nil))))))
    · replace h := h.2 hc
      refine k_iconst (v := (1 : Int32)) cx dX3_shift_21 (by decide +kernel) ?_
      refine k_goto (tgt := 26) cx dX3_shift_22 (by decide) ?_
      exact k_weak h (lsLe.keep (lsLe.keep (lsLe.keep (lsLe.keep (lsLe.keep (lsLe.keep lsLe.nil))))))
theorem m_X3_shift {g : GE} {l : Launch} {μ : Mm} {q : Bool → Mm → Prop} {p1 : Nat} {x2 : Int32} {x3 : Int32} (h_p1 : isReq p1) (h : Wp_X3_shift p1 x2 x3 μ q) : MW g l yX3_shift cX3_shift 6 (some .boolean) 4 90 [.ref p_MV, .ref p1, .int x2, .int x3] μ (qZ q) := by
  refine met_of (by decide) (Nat.le_of_ble_eq_true rfl) (by intro v hv; simp only [List.mem_cons, List.not_mem_nil, or_false] at hv; rcases hv with rfl | rfl | rfl | rfl <;> rfl) ?_
  intro f hfl cx hr hl hQ
  exact b_X3_shift_e h_p1 cx hr hl hQ (h (KK_X3_shift_26 g f p1) (KK_X3_shift_72 g f p1) (KK_X3_shift_122 g f p1) (fun _ _ _ _ h => b_X3_shift_26 h_p1 cx hr hl hQ h) (fun _ _ _ h => b_X3_shift_72 h_p1 cx hr hl hQ h) (fun _ _ _ h => b_X3_shift_122 h_p1 cx hr hl hQ h))
