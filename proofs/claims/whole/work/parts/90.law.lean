/-! the law -/
def II (μ : Mm) : Prop := ∃ S, Good S ∧ cInv S μ ∧ mInv S μ
theorem lg_self (x : Int64) : lg_cmp x x = 0 := by
  unfold lg_cmp
  rw [if_neg (fun h => by have := Int64.lt_iff_toInt_lt.1 h; omega), if_pos rfl]
theorem mInv.ofC {S : St} {μ μ2 : Mm} (h : mInv S μ) (hm : ∀ c, mCell c → μ2 c = μ c) : mInv S μ2 := h.fr (fun c hc => hm c (by unfold mIC at hc; unfold mCell; omega))
theorem cInv.ofM {S : St} {μ μ2 : Mm} (h : cInv S μ) (hm : Sm mCell μ μ2) : cInv S μ2 := h.fr (fun c hc => hm c (by unfold cCell at hc; unfold mCell; omega))
def LQ (K : Int32 → Mm → Prop) (y z2 z4 : Int32) (μ3 : Mm) : Prop := Wp_X8_thrown μ3 (fun z6 μ5 => ((z6 = z2 → ((¬ (z2 = 0) → K y μ5) ∧ (z2 = 0 → (((lg_cmp ((μ5 p_OUT 0).toInt64) (z4.toInt64)) = 0 → K y μ5) ∧ (¬ ((lg_cmp ((μ5 p_OUT 0).toInt64) (z4.toInt64)) = 0) → False))))) ∧ (¬ (z6 = z2) → False)))
theorem law_q {o : Ans} {S : St} {μ : Mm} {K : Int32 → Mm → Prop} {y : Int32} {R : Mm → (Int32 → Mm → Prop) → Prop} (ho : o.1 ≤ 3) (hg : Good o.2.2) (hI : mInv S μ) (rc : ∀ μ1 q, mInv S μ1 → rE o μ1 q → R μ1 q) (hK : ∀ μ2, II μ2 → K y μ2) : tE o μ (fun z2 μ1 => R μ1 (fun z4 μ3 => LQ K y z2 z4 μ3)) := by
  intro μ2 hc hm hout
  refine rc μ2 _ (hI.ofC hm) (fun μ3 z hm3 hs3 h35 hz => ?_)
  have hc3 := hc.ofM hs3
  have hk := hK μ3 ⟨o.2.2, hg, hc3, hm3⟩
  have e56 : μ3 p_OUT = μ2 p_OUT := hs3 p_OUT (by unfold mCell; decide)
  unfold LQ Wp_X8_thrown F_X8_thrown_e
  refine ⟨fun _ => ⟨fun _ => hk, fun h0 => ⟨fun _ => hk, fun hne => hne ?_⟩⟩, fun hne => hne h35⟩
  have h1 : o.1 = 0 := (nI_eq0 (by omega)).1 h0
  rw [e56, hout h1, hz h1]
  exact lg_self _
theorem ob_node (S : St) (x : Int32) : (o_node S x).1 ≤ 3 := by
  unfold o_node
  split
  · split <;> exact Nat.le_of_ble_eq_true rfl
  · exact Nat.le_of_ble_eq_true rfl
theorem ob_link (S : St) (x y z : Int32) : (o_link S x y z).1 ≤ 3 := by
  unfold o_link
  split
  · split
    · exact Nat.le_of_ble_eq_true rfl
    · split <;> exact Nat.le_of_ble_eq_true rfl
  · exact Nat.le_of_ble_eq_true rfl
theorem ob_fail (S : St) (x : Int32) (b : Bool) : (o_fail S x b).1 ≤ 3 := by
  unfold o_fail
  split <;> exact Nat.le_of_ble_eq_true rfl
theorem ob_part (S : St) (x y : Int32) : (o_part S x y).1 ≤ 3 := by
  unfold o_part
  split
  · split <;> exact Nat.le_of_ble_eq_true rfl
  · exact Nat.le_of_ble_eq_true rfl
theorem ob_line (S : St) (x y z : Int32) : (o_line S x y z).1 ≤ 3 := by
  unfold o_line
  split
  · split
    · exact Nat.le_of_ble_eq_true rfl
    · split <;> exact Nat.le_of_ble_eq_true rfl
  · exact Nat.le_of_ble_eq_true rfl
theorem ob_place (S : St) (x y : Int32) : (o_place S x y).1 ≤ 3 := by
  unfold o_place
  split
  · split
    · exact Nat.le_of_ble_eq_true rfl
    · split <;> exact Nat.le_of_ble_eq_true rfl
  · exact Nat.le_of_ble_eq_true rfl
theorem ob_end (S : St) (x : Int32) : (o_end S x).1 ≤ 3 := by
  unfold o_end
  split
  · split <;> exact Nat.le_of_ble_eq_true rfl
  · exact Nat.le_of_ble_eq_true rfl
theorem ob_move (S : St) (x y z : Int32) : (o_move S x y z).1 ≤ 3 := by
  unfold o_move
  split
  · split
    · exact Nat.le_of_ble_eq_true rfl
    · split
      · exact Nat.le_of_ble_eq_true rfl
      · split <;> exact Nat.le_of_ble_eq_true rfl
  · exact Nat.le_of_ble_eq_true rfl
theorem ob_pass (S : St) (x : Int32) : (o_pass S x).1 ≤ 3 := by
  unfold o_pass
  split <;> exact Nat.le_of_ble_eq_true rfl
theorem ob_ofNode (S : St) (x y : Int32) : (o_ofNode S x y).1 ≤ 3 ∧ (o_ofNode S x y).2.2 = S := by
  unfold o_ofNode
  split
  · split <;> exact ⟨Nat.le_of_ble_eq_true rfl, rfl⟩
  · exact ⟨Nat.le_of_ble_eq_true rfl, rfl⟩
theorem ob_ofLink (S : St) (x y : Int32) : (o_ofLink S x y).1 ≤ 3 ∧ (o_ofLink S x y).2.2 = S := by
  unfold o_ofLink
  split
  · split <;> exact ⟨Nat.le_of_ble_eq_true rfl, rfl⟩
  · exact ⟨Nat.le_of_ble_eq_true rfl, rfl⟩
theorem ob_load (S : St) (x y : Int32) : (o_load S x y).1 ≤ 3 ∧ (o_load S x y).2.2 = S := by
  unfold o_load
  split
  · split <;> exact ⟨Nat.le_of_ble_eq_true rfl, rfl⟩
  · exact ⟨Nat.le_of_ble_eq_true rfl, rfl⟩
theorem ob_told (S : St) (x y : Int32) : (o_told S x y).1 ≤ 3 ∧ (o_told S x y).2.2 = S := by
  unfold o_told
  split
  · split <;> exact ⟨Nat.le_of_ble_eq_true rfl, rfl⟩
  · exact ⟨Nat.le_of_ble_eq_true rfl, rfl⟩
theorem ob_at (S : St) (x y : Int32) : (o_at S x y).1 ≤ 3 ∧ (o_at S x y).2.2 = S := by
  unfold o_at
  split
  · split <;> exact ⟨Nat.le_of_ble_eq_true rfl, rfl⟩
  · exact ⟨Nat.le_of_ble_eq_true rfl, rfl⟩
theorem ob_way (S : St) (x y z : Int32) : (o_way S x y z).1 ≤ 3 ∧ (o_way S x y z).2.2 = S := by
  unfold o_way
  split
  · split
    · split <;> exact ⟨Nat.le_of_ble_eq_true rfl, rfl⟩
    · exact ⟨Nat.le_of_ble_eq_true rfl, rfl⟩
  · exact ⟨Nat.le_of_ble_eq_true rfl, rfl⟩
/-! at first -/
def S00 : St := ((0, (fun _ => 0), (fun _ => 0), 0), (fun _ _ => 0), (fun _ _ _ => 0))
theorem S00_good : Good S00 := by
  refine ⟨by decide, by decide, ⟨by decide, fun k hk => absurd hk (Nat.not_lt_zero k), fun k hk => absurd hk (Nat.not_lt_zero k), fun j k hj => absurd hj (Nat.not_lt_zero j)⟩, fun k hk => absurd hk (Nat.not_lt_zero k), by decide, fun v hv => absurd hv (Nat.not_lt_zero v), fun k hk => absurd hk (Nat.not_lt_zero k), fun i _ => ⟨by show (0 : Nat) ≤ 3; omega, by show (0 : Nat) ≤ 3; omega, fun k hk => absurd hk (Nat.not_lt_zero k), fun l hl => absurd hl (Nat.not_lt_zero l), fun j l hj => absurd hj (Nat.not_lt_zero j)⟩, fun i hi => absurd hi (Nat.not_lt_zero i), fun _ _ _ => rfl, fun _ _ _ => ⟨rfl, rfl⟩⟩
theorem II_0 : II (fun _ _ => 0) := by
  refine ⟨S00, S00_good, ⟨⟨⟨by decide, rfl, fun k hk => absurd hk (Nat.not_lt_zero k), rfl, by decide⟩, rfl, fun v hv => absurd hv (Nat.not_lt_zero v), fun k hk => absurd hk (Nat.not_lt_zero k), fun a b _ _ _ => ⟨rfl, fun j hj => absurd hj (Nat.not_lt_zero j)⟩⟩, ⟨fun v _ => ⟨rfl, rfl⟩, fun k _ => ⟨rfl, rfl, fun f _ => rfl⟩⟩, rfl, rfl, fun i _ => ⟨rfl, rfl, rfl, fun k hk => absurd hk (Nat.not_lt_zero k), fun l hl => absurd hl (Nat.not_lt_zero l)⟩, fun i hi => absurd hi (Nat.not_lt_zero i)⟩, ⟨⟨⟨by decide, rfl, fun k hk => absurd hk (Nat.not_lt_zero k), fun k _ => ?_⟩, rfl, fun v hv => absurd hv (Nat.not_lt_zero v), fun k hk => absurd hk (Nat.not_lt_zero k)⟩, rfl, rfl, fun i _ => ⟨rfl, rfl, rfl, fun k hk => absurd hk (Nat.not_lt_zero k), fun l hl => absurd hl (Nat.not_lt_zero l)⟩, fun i hi => absurd hi (Nat.not_lt_zero i)⟩⟩
  show (0 : Int32) = bI ((0 : Nat).testBit k)
  rw [Nat.zero_testBit]
  rfl
theorem law_pure : ∀ (L : Nat) (xs : Nat → Int32), L ≤ 2048 → LawP L xs := by
  intro L xs hL
  refine ⟨II, II_0, fun μ i K hII hi hK => ?_⟩
  obtain ⟨S, hG, hc, hm⟩ := hII
  have v : ∀ d, d < 4 → vp_in (nI (4 * i + d)) L := fun d hd => inN (by omega) (by omega)
  have v0 : vp_in (nI (4 * i)) L := v 0 (by omega)
  have v1 : vp_in (nI (4 * i) + (1 : Int32)) L := by rw [show (1 : Int32) = nI 1 from rfl, nI_add]; exact v 1 (by omega)
  have v2 : vp_in (nI (4 * i) + (2 : Int32)) L := by rw [show (2 : Int32) = nI 2 from rfl, nI_add]; exact v 2 (by omega)
  have v3 : vp_in (nI (4 * i) + (3 : Int32)) L := by rw [show (3 : Int32) = nI 3 from rfl, nI_add]; exact v 3 (by omega)
  unfold F_law_h
  refine ⟨fun _ => trivial, fun _ => ⟨v0, ⟨fun _ => ?_, fun _ => ?_, fun _ => ?_, fun _ => ?_, fun _ => ?_, fun _ => ?_, fun _ => ?_, fun _ => ?_, fun _ => ?_, fun _ => ?_, fun _ => ?_, fun _ => ?_, fun _ => ?_, fun _ => ?_, fun _ => ?_, fun _ => ?_, fun _ => ?_, fun _ => ?_, fun _ => ?_, fun _ => ?_⟩, fun _ => hK μ ⟨S, hG, hc, hm⟩⟩⟩
  · unfold F_law_0
    refine ⟨v1, tt_node hG hc (fun μ2 a b c => ⟨v1, ?_⟩)⟩
    exact law_q (R := Wp_X8_node _) (ob_node S _) (g_node hG) hm (fun μ1 q h1 h2 => rr_node hG h1 h2) hK μ2 a b c
  · unfold F_law_1
    refine ⟨v1, v2, v3, tt_link hG hc (fun μ2 a b c => ⟨v1, v2, v3, ?_⟩)⟩
    exact law_q (R := Wp_X8_link _ _ _) (ob_link S _ _ _) (g_link hG) hm (fun μ1 q h1 h2 => rr_link hG h1 h2) hK μ2 a b c
  · unfold F_law_2
    refine ⟨v1, v2, fun hx => ?_, fun hx => ?_⟩
    · refine tt_fail (b := false) hG hc (fun μ2 a b c => ⟨v1, v2, fun _ => ?_, fun hn => absurd hx hn⟩)
      exact law_q (R := Wp_X8_fail _ _) (ob_fail S _ false) (g_fail hG) hm (fun μ1 q h1 h2 => rr_fail (b := false) hG h1 h2) hK μ2 a b c
    · refine tt_fail (b := true) hG hc (fun μ2 a b c => ⟨v1, v2, fun hn => absurd hn hx, fun _ => ?_⟩)
      exact law_q (R := Wp_X8_fail _ _) (ob_fail S _ true) (g_fail hG) hm (fun μ1 q h1 h2 => rr_fail (b := true) hG h1 h2) hK μ2 a b c
  · unfold F_law_3
    refine ⟨v1, v2, tt_part hG hc (fun μ2 a b c => ⟨v1, v2, ?_⟩)⟩
    exact law_q (R := Wp_X8_part _ _) (ob_part S _ _) (g_part hG) hm (fun μ1 q h1 h2 => rr_part hG h1 h2) hK μ2 a b c
  · unfold F_law_4
    refine ⟨v1, v2, v3, tt_line hG hc (fun μ2 a b c => ⟨v1, v2, v3, ?_⟩)⟩
    exact law_q (R := Wp_X8_line _ _ _) (ob_line S _ _ _) (g_line hG) hm (fun μ1 q h1 h2 => rr_line hG h1 h2) hK μ2 a b c
  · unfold F_law_5
    refine tt_clear hG hc (fun μ2 h1 h2 => rr_clear hG (hm.ofC h2) (fun μ3 h3 h4 => ?_))
    exact ⟨fun _ => hK μ3 ⟨clrS S, g_clear hG, h1.ofM h4, h3⟩, fun hn => hn rfl⟩
  · unfold F_law_6
    refine ⟨v1, v2, tt_place hG hc (fun μ2 a b c => ⟨v1, v2, ?_⟩)⟩
    exact law_q (R := Wp_X8_place _ _) (ob_place S _ _) (g_place hG) hm (fun μ1 q h1 h2 => rr_place hG h1 h2) hK μ2 a b c
  · unfold F_law_7
    refine ⟨v1, tt_end hG hc (fun μ2 h1 h2 => ⟨v1, rr_end hG (hm.ofC h2) (fun μ3 h3 h4 h5 => ?_)⟩)⟩
    unfold Wp_X8_thrown F_X8_thrown_e
    exact ⟨fun _ => hK μ3 ⟨_, g_end hG, h1.ofM h4, h3⟩, fun hn => hn h5⟩
  · unfold F_law_8
    refine ⟨v1, v2, v3, tt_move hG hc (fun μ2 a b c => ⟨v1, v2, v3, ?_⟩)⟩
    exact law_q (R := Wp_X8_move _ _ _) (ob_move S _ _ _) (g_move hG) hm (fun μ1 q h1 h2 => rr_move hG h1 h2) hK μ2 a b c
  · unfold F_law_9
    refine ⟨v1, tt_pass hG hc (fun μ2 a b c => ⟨v1, ?_⟩)⟩
    exact law_q (R := Wp_X8_pass _) (ob_pass S _) (g_pass hG) hm (fun μ1 q h1 h2 => rr_pass hG h1 h2) hK μ2 a b c
  · unfold F_law_10
    refine tt_now hc (rr_now hm ?_)
    exact ⟨fun _ => hK _ ⟨S, hG, hc.ofM (Sm.up (Or.inl rfl)), hm.can⟩, fun hn => hn rfl⟩
  · unfold F_law_11
    refine ⟨v1, v2, tt_ofNode hG hc (fun μ2 a b c => ⟨v1, v2, ?_⟩)⟩
    exact law_q (R := Wp_X8_ofNode _ _) (ob_ofNode S _ _).1 (by rw [(ob_ofNode S _ _).2]; exact hG) hm (fun μ1 q h1 h2 => rr_ofNode hG h1 h2) hK μ2 a b c
  · unfold F_law_12
    refine ⟨v1, v2, tt_ofLink hG hc (fun μ2 a b c => ⟨v1, v2, ?_⟩)⟩
    exact law_q (R := Wp_X8_ofLink _ _) (ob_ofLink S _ _).1 (by rw [(ob_ofLink S _ _).2]; exact hG) hm (fun μ1 q h1 h2 => rr_ofLink hG h1 h2) hK μ2 a b c
  · unfold F_law_13
    refine ⟨v1, v2, tt_load hG hc (fun μ2 a b c => ⟨v1, v2, ?_⟩)⟩
    exact law_q (R := Wp_X8_load _ _) (ob_load S _ _).1 (by rw [(ob_load S _ _).2]; exact hG) hm (fun μ1 q h1 h2 => rr_load hG h1 h2) hK μ2 a b c
  · unfold F_law_14
    refine ⟨v1, v2, tt_told hG hc (fun μ2 a b c => ⟨v1, v2, ?_⟩)⟩
    exact law_q (R := Wp_X8_told _ _) (ob_told S _ _).1 (by rw [(ob_told S _ _).2]; exact hG) hm (fun μ1 q h1 h2 => rr_told hG h1 h2) hK μ2 a b c
  · unfold F_law_15
    refine ⟨v1, v2, tt_at hG hc (fun μ2 a b c => ⟨v1, v2, ?_⟩)⟩
    exact law_q (R := Wp_X8_at _ _) (ob_at S _ _).1 (by rw [(ob_at S _ _).2]; exact hG) hm (fun μ1 q h1 h2 => rr_at hG h1 h2) hK μ2 a b c
  · unfold F_law_16
    refine ⟨v1, v2, v3, tt_way hG hc (fun μ2 a b c => ⟨v1, v2, v3, ?_⟩)⟩
    exact law_q (R := Wp_X8_way _ _ _) (ob_way S _ _ _).1 (by rw [(ob_way S _ _ _).2]; exact hG) hm (fun μ1 q h1 h2 => rr_way hG h1 h2) hK μ2 a b c
  · unfold F_law_17
    refine tt_least hG hc (fun μ2 h1 h2 => ?_)
    unfold Wp_X8_least F_X8_least_e
    refine rr_leastNow hG (hm.ofC h2) (fun μ3 h3 h4 => ?_)
    exact ⟨fun _ => hK μ3 ⟨S, hG, h1.ofM h4, h3⟩, fun hn => hn rfl⟩
  · unfold F_law_18
    refine tt_leastAnew hG hc (fun μ2 h1 h2 => ?_)
    unfold Wp_X8_leastAnew F_X8_leastAnew_e
    refine rr_leastNow hG (hm.ofC h2) (fun μ3 h3 h4 => ?_)
    exact ⟨fun _ => hK μ3 ⟨S, hG, h1.ofM h4, h3⟩, fun hn => hn rfl⟩
  · unfold F_law_19
    refine tt_freeing hG hc (fun μ2 z h1 h2 hz => rr_freeing hG (hm.ofC h2) (fun μ3 z2 h3 h4 hz2 => ?_))
    exact ⟨fun _ => hK μ3 ⟨S, hG, h1.ofM h4, h3⟩, fun hn => hn (hz.uniq hz2)⟩
