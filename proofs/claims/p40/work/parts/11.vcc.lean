set_option maxRecDepth 100000 in
set_option maxHeartbeats 4000000 in
theorem v_X12_in {ad : Nat → Nat} {d : Nat} {Q : Option Value → Wm → Prop} {m : Wm} {y0 y2 y4 : Int64} (h : (((lg_cmp y0 y2) < 0 → Q (some (.int (0 : Int32))) m) ∧ (¬ (lg_cmp y0 y2) < 0 → ((0 < (lg_cmp y0 y4) → Q (some (.int (0 : Int32))) m) ∧ (¬ 0 < (lg_cmp y0 y4) → Q (some (.int (1 : Int32))) m))))) : Ct ad μX12_in d [.long y0, .long y2, .long y4] m Q := by
  refine Ct.of (by decide +kernel) rfl (Nat.le_of_ble_eq_true rfl) ?_
  refine aw_eq (L' := [(0, .long y0), (2, .long y2), (4, .long y4)]) ?_ rfl rfl rfl
  refine aw_lload_n (j := 0) dX12_in_0 rfl rfl ?_
  refine aw_lload_n (j := 1) dX12_in_1 rfl rfl ?_
  refine aw_lcmp dX12_in_2 ?_
  refine aw_if_lt (tgt := 17) dX12_in_3 (by decide) (fun hc => ?_) (fun hc => ?_)
  · have h := h.1 hc
    refine aw_iconst (v := 0) dX12_in_17 (by decide) ?_
    exact aw_ret (v := some (.int (0 : Int32))) rfl (Or.inr (Or.inl ⟨_, .boolean, rfl, rfl, by decide, dX12_in_18⟩)) h
  · have h := h.2 hc
    refine aw_lload_n (j := 0) dX12_in_6 rfl rfl ?_
    refine aw_lload (j := 2) dX12_in_7 rfl ?_
    refine aw_lcmp dX12_in_9 ?_
    refine aw_if_gt (tgt := 17) dX12_in_10 (by decide) (fun hc => ?_) (fun hc => ?_)
    · have h := h.1 hc
      refine aw_iconst (v := 0) dX12_in_17 (by decide) ?_
      exact aw_ret (v := some (.int (0 : Int32))) rfl (Or.inr (Or.inl ⟨_, .boolean, rfl, rfl, by decide, dX12_in_18⟩)) h
    · have h := h.2 hc
      refine aw_iconst (v := 1) dX12_in_13 (by decide) ?_
      refine aw_goto (tgt := 18) dX12_in_14 (by decide) ?_
      exact aw_ret (v := some (.int (1 : Int32))) rfl (Or.inr (Or.inl ⟨_, .boolean, rfl, rfl, by decide, dX12_in_18⟩)) h
set_option maxRecDepth 100000 in
set_option maxHeartbeats 4000000 in
theorem v_X12_has {ad : Nat → Nat} {d : Nat} {Q : Option Value → Wm → Prop} {m : Wm} {x0 x1 : Int32} (h : ((¬ ((x0 >>> (x1 &&& 31)) &&& (1 : Int32)) = (1 : Int32) → Q (some (.int (0 : Int32))) m) ∧ (((x0 >>> (x1 &&& 31)) &&& (1 : Int32)) = (1 : Int32) → Q (some (.int (1 : Int32))) m))) : Ct ad μX12_has d [.int x0, .int x1] m Q := by
  refine Ct.of (by decide +kernel) rfl (Nat.le_of_ble_eq_true rfl) ?_
  refine aw_eq (L' := [(0, .int x0), (1, .int x1)]) ?_ rfl rfl rfl
  refine aw_iload_n (j := 0) dX12_has_0 rfl rfl ?_
  refine aw_iload_n (j := 1) dX12_has_1 rfl rfl ?_
  refine aw_ishr dX12_has_2 ?_
  refine aw_iconst (v := 1) dX12_has_3 (by decide) ?_
  refine aw_iand dX12_has_4 ?_
  refine aw_iconst (v := 1) dX12_has_5 (by decide) ?_
  refine aw_icmp_ne (tgt := 13) dX12_has_6 (by decide) (fun hc => ?_) (fun hc => ?_)
  · have h := h.1 hc
    refine aw_iconst (v := 0) dX12_has_13 (by decide) ?_
    exact aw_ret (v := some (.int (0 : Int32))) rfl (Or.inr (Or.inl ⟨_, .boolean, rfl, rfl, by decide, dX12_has_14⟩)) h
  · have h := h.2 hc
    refine aw_iconst (v := 1) dX12_has_9 (by decide) ?_
    refine aw_goto (tgt := 14) dX12_has_10 (by decide) ?_
    exact aw_ret (v := some (.int (1 : Int32))) rfl (Or.inr (Or.inl ⟨_, .boolean, rfl, rfl, by decide, dX12_has_14⟩)) h
set_option maxRecDepth 100000 in
set_option maxHeartbeats 4000000 in
theorem v_X12_lost {ad : Nat → Nat} {d : Nat} {Q : Option Value → Wm → Prop} {m : Wm} (h : Q (some (.int (0 : Int32))) (uI m 187 17 (1 : Int32))) : Ct ad μX12_lost d [.ref (ad 187)] m Q := by
  refine Ct.of (by decide +kernel) rfl (Nat.le_of_ble_eq_true rfl) ?_
  refine aw_eq (L' := [(0, .ref (ad 187))]) ?_ rfl rfl rfl
  refine aw_aload_n (j := 0) dX12_lost_0 rfl rfl ?_
  refine aw_iconst (v := 1) dX12_lost_1 (by decide) ?_
  refine aw_putI dX12_lost_2 f_X12_110 cl_X12 rfl ly_187 rfl rfl rfl ?_
  refine aw_iconst (v := 0) dX12_lost_5 (by decide) ?_
  exact aw_ret (v := some (.int (0 : Int32))) rfl (Or.inr (Or.inl ⟨_, .int, rfl, rfl, rfl, dX12_lost_6⟩)) h
set_option maxRecDepth 100000 in
set_option maxHeartbeats 4000000 in
theorem v_X12_tell {ad : Nat → Nat} {d : Nat} {Q : Option Value → Wm → Prop} {m : Wm} {y1 : Int64} (h : (vp_in (m.1 187 16) 16 ∧ Q none (uI (uL m 196 (m.1 187 16).toNatClampNeg y1) 187 16 (((uL m 196 (m.1 187 16).toNatClampNeg y1).1 187 16) + (1 : Int32))))) : Ct ad μX12_tell d [.ref (ad 187), .long y1] m Q := by
  refine Ct.of (by decide +kernel) rfl (Nat.le_of_ble_eq_true rfl) ?_
  refine aw_eq (L' := [(0, .ref (ad 187)), (1, .long y1)]) ?_ rfl rfl rfl
  refine aw_aload_n (j := 0) dX12_tell_0 rfl rfl ?_
  refine aw_getfield (c := 199) (v := .ref (ad 196)) dX12_tell_1 f_X12_43 ly_187 rfl rfl ?_
  refine aw_aload_n (j := 0) dX12_tell_4 rfl rfl ?_
  refine aw_getfield (c := 0) (v := .int (m.1 187 16)) dX12_tell_5 f_X12_113 ly_187 rfl rfl ?_
  refine aw_lload_n (j := 1) dX12_tell_8 rfl rfl ?_
  obtain ⟨hi, h⟩ := h
  refine aw_lastore dX12_tell_9 ly_196 hi ?_
  refine aw_aload_n (j := 0) dX12_tell_10 rfl rfl ?_
  refine aw_dup dX12_tell_11 rfl ?_
  refine aw_getfield (c := 0) (v := .int ((uL m 196 (m.1 187 16).toNatClampNeg y1).1 187 16)) dX12_tell_12 f_X12_113 ly_187 rfl rfl ?_
  refine aw_iconst (v := 1) dX12_tell_15 (by decide) ?_
  refine aw_iadd dX12_tell_16 ?_
  refine aw_putI dX12_tell_17 f_X12_113 cl_X12 rfl ly_187 rfl rfl rfl ?_
  exact aw_ret (v := none) rfl (Or.inl ⟨rfl, rfl, dX12_tell_20⟩) h
set_option maxRecDepth 100000 in
set_option maxHeartbeats 4000000 in
theorem v_X12_isSide {ad : Nat → Nat} {d : Nat} {Q : Option Value → Wm → Prop} {m : Wm} {x1 : Int32} (h : (Ct ad μX12_in d [.long x1.toInt64, .long (0 : Int64), .long (((m.1 187 1) - (1 : Int32)).toInt64)] m (fun r m1 => ∃ v2 : Int32, r = some (.int v2) ∧ (bz v2 ∧ Q (some (.int v2)) m1)))) : Ct ad μX12_isSide (d + 1) [.ref (ad 187), .int x1] m Q := by
  refine Ct.of (by decide +kernel) rfl (Nat.le_of_ble_eq_true rfl) ?_
  refine aw_eq (L' := [(0, .ref (ad 187)), (1, .int x1)]) ?_ rfl rfl rfl
  refine aw_iload_n (j := 1) dX12_isSide_0 rfl rfl ?_
  refine aw_i2l dX12_isSide_1 ?_
  refine aw_lconst (v := 0) dX12_isSide_2 (by decide) ?_
  refine aw_aload_n (j := 0) dX12_isSide_3 rfl rfl ?_
  refine aw_getfield (c := 0) (v := .int (m.1 187 1)) dX12_isSide_4 f_X12_116 ly_187 rfl rfl ?_
  refine aw_iconst (v := 1) dX12_isSide_7 (by decide) ?_
  refine aw_isub dX12_isSide_8 ?_
  refine aw_i2l dX12_isSide_9 ?_
  refine aw_callS (rest := []) [.long x1.toInt64, .long (0 : Int64), .long (((m.1 187 1) - (1 : Int32)).toInt64)] dX12_isSide_10 k_X12_119 rfl h (Nat.le_of_ble_eq_true rfl) (fun v m1 h => ?_)
  obtain ⟨v2, rfl, h⟩ := h
  refine aw_eq (L' := [(0, .ref (ad 187)), (1, .int x1)]) (st' := [.int v2]) (m' := m1) ?_ rfl rfl rfl
  exact aw_ret (v := some (.int v2)) rfl (Or.inr (Or.inl ⟨_, .boolean, rfl, rfl, h.1.n, dX12_isSide_13⟩)) h.2
set_option maxRecDepth 100000 in
set_option maxHeartbeats 4000000 in
theorem v_X12_isArt {ad : Nat → Nat} {d : Nat} {Q : Option Value → Wm → Prop} {m : Wm} {x1 : Int32} (h : (Ct ad μX12_in d [.long x1.toInt64, .long (0 : Int64), .long (((m.1 187 0) - (1 : Int32)).toInt64)] m (fun r m1 => ∃ v2 : Int32, r = some (.int v2) ∧ (bz v2 ∧ Q (some (.int v2)) m1)))) : Ct ad μX12_isArt (d + 1) [.ref (ad 187), .int x1] m Q := by
  refine Ct.of (by decide +kernel) rfl (Nat.le_of_ble_eq_true rfl) ?_
  refine aw_eq (L' := [(0, .ref (ad 187)), (1, .int x1)]) ?_ rfl rfl rfl
  refine aw_iload_n (j := 1) dX12_isArt_0 rfl rfl ?_
  refine aw_i2l dX12_isArt_1 ?_
  refine aw_lconst (v := 0) dX12_isArt_2 (by decide) ?_
  refine aw_aload_n (j := 0) dX12_isArt_3 rfl rfl ?_
  refine aw_getfield (c := 0) (v := .int (m.1 187 0)) dX12_isArt_4 f_X12_9 ly_187 rfl rfl ?_
  refine aw_iconst (v := 1) dX12_isArt_7 (by decide) ?_
  refine aw_isub dX12_isArt_8 ?_
  refine aw_i2l dX12_isArt_9 ?_
  refine aw_callS (rest := []) [.long x1.toInt64, .long (0 : Int64), .long (((m.1 187 0) - (1 : Int32)).toInt64)] dX12_isArt_10 k_X12_119 rfl h (Nat.le_of_ble_eq_true rfl) (fun v m1 h => ?_)
  obtain ⟨v2, rfl, h⟩ := h
  refine aw_eq (L' := [(0, .ref (ad 187)), (1, .int x1)]) (st' := [.int v2]) (m' := m1) ?_ rfl rfl rfl
  exact aw_ret (v := some (.int v2)) rfl (Or.inr (Or.inl ⟨_, .boolean, rfl, rfl, h.1.n, dX12_isArt_13⟩)) h.2
set_option maxRecDepth 100000 in
set_option maxHeartbeats 4000000 in
theorem v_X12_areTwo {ad : Nat → Nat} {d : Nat} {Q : Option Value → Wm → Prop} {m : Wm} {x1 x2 : Int32} (h : (Ct ad μX12_isSide d [.ref (ad 187), .int x1] m (fun r m1 => ∃ v2 : Int32, r = some (.int v2) ∧ ((v2 = 0 → Q (some (.int (0 : Int32))) m1) ∧ (¬ v2 = 0 → (Ct ad μX12_isSide d [.ref (ad 187), .int x2] m1 (fun r m3 => ∃ v4 : Int32, r = some (.int v4) ∧ ((v4 = 0 → Q (some (.int (0 : Int32))) m3) ∧ (¬ v4 = 0 → ((x1 = x2 → Q (some (.int (0 : Int32))) m3) ∧ (¬ x1 = x2 → Q (some (.int (1 : Int32))) m3))))))))))) : Ct ad μX12_areTwo (d + 1) [.ref (ad 187), .int x1, .int x2] m Q := by
  refine Ct.of (by decide +kernel) rfl (Nat.le_of_ble_eq_true rfl) ?_
  refine aw_eq (L' := [(0, .ref (ad 187)), (1, .int x1), (2, .int x2)]) ?_ rfl rfl rfl
  refine aw_aload_n (j := 0) dX12_areTwo_0 rfl rfl ?_
  refine aw_iload_n (j := 1) dX12_areTwo_1 rfl rfl ?_
  refine aw_callV (rest := []) [.int x1] dX12_areTwo_2 ly_187 rfl k_X12_123 rfl h (Nat.le_of_ble_eq_true rfl) (fun v m1 h => ?_)
  obtain ⟨v2, rfl, h⟩ := h
  refine aw_eq (L' := [(0, .ref (ad 187)), (1, .int x1), (2, .int x2)]) (st' := [.int v2]) (m' := m1) ?_ rfl rfl rfl
  refine aw_if_eq (tgt := 25) dX12_areTwo_5 (by decide) (fun hc => ?_) (fun hc => ?_)
  · have h := h.1 hc
    refine aw_iconst (v := 0) dX12_areTwo_25 (by decide) ?_
    exact aw_ret (v := some (.int (0 : Int32))) rfl (Or.inr (Or.inl ⟨_, .boolean, rfl, rfl, by decide, dX12_areTwo_26⟩)) h
  · have h := h.2 hc
    refine aw_aload_n (j := 0) dX12_areTwo_8 rfl rfl ?_
    refine aw_iload_n (j := 2) dX12_areTwo_9 rfl rfl ?_
    refine aw_callV (rest := []) [.int x2] dX12_areTwo_10 ly_187 rfl k_X12_123 rfl h (Nat.le_of_ble_eq_true rfl) (fun v m3 h => ?_)
    obtain ⟨v4, rfl, h⟩ := h
    refine aw_eq (L' := [(0, .ref (ad 187)), (1, .int x1), (2, .int x2)]) (st' := [.int v4]) (m' := m3) ?_ rfl rfl rfl
    refine aw_if_eq (tgt := 25) dX12_areTwo_13 (by decide) (fun hc => ?_) (fun hc => ?_)
    · have h := h.1 hc
      refine aw_iconst (v := 0) dX12_areTwo_25 (by decide) ?_
      exact aw_ret (v := some (.int (0 : Int32))) rfl (Or.inr (Or.inl ⟨_, .boolean, rfl, rfl, by decide, dX12_areTwo_26⟩)) h
    · have h := h.2 hc
      refine aw_iload_n (j := 1) dX12_areTwo_16 rfl rfl ?_
      refine aw_iload_n (j := 2) dX12_areTwo_17 rfl rfl ?_
      refine aw_icmp_eq (tgt := 25) dX12_areTwo_18 (by decide) (fun hc => ?_) (fun hc => ?_)
      · have h := h.1 hc
        refine aw_iconst (v := 0) dX12_areTwo_25 (by decide) ?_
        exact aw_ret (v := some (.int (0 : Int32))) rfl (Or.inr (Or.inl ⟨_, .boolean, rfl, rfl, by decide, dX12_areTwo_26⟩)) h
      · have h := h.2 hc
        refine aw_iconst (v := 1) dX12_areTwo_21 (by decide) ?_
        refine aw_goto (tgt := 26) dX12_areTwo_22 (by decide) ?_
        exact aw_ret (v := some (.int (1 : Int32))) rfl (Or.inr (Or.inl ⟨_, .boolean, rfl, rfl, by decide, dX12_areTwo_26⟩)) h
set_option maxRecDepth 100000 in
set_option maxHeartbeats 4000000 in
theorem v_X12_common {ad : Nat → Nat} {d : Nat} {Q : Option Value → Wm → Prop} {m : Wm} {y0 y2 : Int64} (h : ((¬ (lg_cmp y2 (0 : Int64)) = 0 → (¬ y2 = 0 ∧ (Ct ad μX12_common d [.long y2, .long (y0 - y0 / y2 * y2)] m (fun r m1 => ∃ w2 : Int64, r = some (.long w2) ∧ Q (some (.long w2)) m1)))) ∧ ((lg_cmp y2 (0 : Int64)) = 0 → Q (some (.long y0)) m))) : Ct ad μX12_common (d + 1) [.long y0, .long y2] m Q := by
  refine Ct.of (by decide +kernel) rfl (Nat.le_of_ble_eq_true rfl) ?_
  refine aw_eq (L' := [(0, .long y0), (2, .long y2)]) ?_ rfl rfl rfl
  refine aw_lload_n (j := 1) dX12_common_0 rfl rfl ?_
  refine aw_lconst (v := 0) dX12_common_1 (by decide) ?_
  refine aw_lcmp dX12_common_2 ?_
  refine aw_if_ne (tgt := 10) dX12_common_3 (by decide) (fun hc => ?_) (fun hc => ?_)
  · have h := h.1 hc
    refine aw_lload_n (j := 1) dX12_common_10 rfl rfl ?_
    refine aw_lload_n (j := 0) dX12_common_11 rfl rfl ?_
    refine aw_lload_n (j := 1) dX12_common_12 rfl rfl ?_
    obtain ⟨hz, h⟩ := h
    refine aw_lrem dX12_common_13 hz ?_
    refine aw_callS (rest := []) [.long y2, .long (y0 - y0 / y2 * y2)] dX12_common_14 k_X12_127 rfl h (Nat.le_of_ble_eq_true rfl) (fun v m1 h => ?_)
    obtain ⟨w2, rfl, h⟩ := h
    refine aw_eq (L' := [(0, .long y0), (2, .long y2)]) (st' := [.long w2]) (m' := m1) ?_ rfl rfl rfl
    exact aw_ret (v := some (.long w2)) rfl (Or.inr (Or.inr ⟨_, rfl, rfl, dX12_common_17⟩)) h
  · have h := h.2 hc
    refine aw_lload_n (j := 0) dX12_common_6 rfl rfl ?_
    refine aw_goto (tgt := 17) dX12_common_7 (by decide) ?_
    exact aw_ret (v := some (.long y0)) rfl (Or.inr (Or.inr ⟨_, rfl, rfl, dX12_common_17⟩)) h
set_option maxRecDepth 100000 in
set_option maxHeartbeats 4000000 in
theorem v_X12_tellPart {ad : Nat → Nat} {d : Nat} {Q : Option Value → Wm → Prop} {m : Wm} {y1 y3 : Int64} (h : (Ct ad μX12_common d [.long y1, .long y3] m (fun r m1 => ∃ w2 : Int64, r = some (.long w2) ∧ (¬ w2 = 0 ∧ (Ct ad μX12_tell d [.ref (ad 187), .long (y1 / w2)] m1 (fun r m3 => r = none ∧ (¬ w2 = 0 ∧ (Ct ad μX12_tell d [.ref (ad 187), .long (y3 / w2)] m3 (fun r m4 => r = none ∧ Q none m4))))))))) : Ct ad μX12_tellPart (d + 1) [.ref (ad 187), .long y1, .long y3] m Q := by
  refine Ct.of (by decide +kernel) rfl (Nat.le_of_ble_eq_true rfl) ?_
  refine aw_eq (L' := [(0, .ref (ad 187)), (1, .long y1), (3, .long y3)]) ?_ rfl rfl rfl
  refine aw_lload_n (j := 1) dX12_tellPart_0 rfl rfl ?_
  refine aw_lload_n (j := 2) dX12_tellPart_1 rfl rfl ?_
  refine aw_callS (rest := []) [.long y1, .long y3] dX12_tellPart_2 k_X12_127 rfl h (Nat.le_of_ble_eq_true rfl) (fun v m1 h => ?_)
  obtain ⟨w2, rfl, h⟩ := h
  refine aw_eq (L' := [(0, .ref (ad 187)), (1, .long y1), (3, .long y3)]) (st' := [.long w2]) (m' := m1) ?_ rfl rfl rfl
  refine aw_lstore (L' := [(5, .long w2), (0, .ref (ad 187)), (1, .long y1), (3, .long y3)]) dX12_tellPart_5 (by decide) rfl ?_
  refine aw_aload_n (j := 1) dX12_tellPart_7 rfl rfl ?_
  refine aw_lload_n (j := 2) dX12_tellPart_8 rfl rfl ?_
  refine aw_lload (j := 0) dX12_tellPart_9 rfl ?_
  obtain ⟨hz, h⟩ := h
  refine aw_ldiv dX12_tellPart_11 hz ?_
  refine aw_callV (rest := []) [.long (y1 / w2)] dX12_tellPart_12 ly_187 rfl k_X12_131 rfl h (Nat.le_of_ble_eq_true rfl) (fun v m3 h => ?_)
  obtain ⟨rfl, h⟩ := h
  refine aw_eq (L' := [(5, .long w2), (0, .ref (ad 187)), (1, .long y1), (3, .long y3)]) (st' := []) (m' := m3) ?_ rfl rfl rfl
  refine aw_aload_n (j := 1) dX12_tellPart_15 rfl rfl ?_
  refine aw_lload_n (j := 3) dX12_tellPart_16 rfl rfl ?_
  refine aw_lload (j := 0) dX12_tellPart_17 rfl ?_
  obtain ⟨hz, h⟩ := h
  refine aw_ldiv dX12_tellPart_19 hz ?_
  refine aw_callV (rest := []) [.long (y3 / w2)] dX12_tellPart_20 ly_187 rfl k_X12_131 rfl h (Nat.le_of_ble_eq_true rfl) (fun v m4 h => ?_)
  obtain ⟨rfl, h⟩ := h
  refine aw_eq (L' := [(5, .long w2), (0, .ref (ad 187)), (1, .long y1), (3, .long y3)]) (st' := []) (m' := m4) ?_ rfl rfl rfl
  exact aw_ret (v := none) rfl (Or.inl ⟨rfl, rfl, dX12_tellPart_23⟩) h
set_option maxRecDepth 100000 in
set_option maxHeartbeats 4000000 in
theorem v_X12_sign {ad : Nat → Nat} {d : Nat} {Q : Option Value → Wm → Prop} {m : Wm} {x1 : Int32} (h : (((((uI m 187 17 (0 : Int32)).1 187 14) + (4 : Int32)) ≤ (80 : Int32) → AW ad E0 μX12_sign d Q 20 [(0, .ref (ad 187)), (1, .int x1), (2, .int (3 : Int32))] [] (uI m 187 17 (0 : Int32))) ∧ (¬ (((uI m 187 17 (0 : Int32)).1 187 14) + (4 : Int32)) ≤ (80 : Int32) → Q (some (.int (-1 : Int32))) (uI m 187 17 (0 : Int32))))) : Ct ad μX12_sign d [.ref (ad 187), .int x1] m Q := by
  refine Ct.of (by decide +kernel) rfl (Nat.le_of_ble_eq_true rfl) ?_
  refine aw_eq (L' := [(0, .ref (ad 187)), (1, .int x1)]) ?_ rfl rfl rfl
  refine aw_aload_n (j := 0) dX12_sign_0 rfl rfl ?_
  refine aw_iconst (v := 0) dX12_sign_1 (by decide) ?_
  refine aw_putI dX12_sign_2 f_X12_110 cl_X12 rfl ly_187 rfl rfl rfl ?_
  refine aw_aload_n (j := 0) dX12_sign_5 rfl rfl ?_
  refine aw_getfield (c := 0) (v := .int ((uI m 187 17 (0 : Int32)).1 187 14)) dX12_sign_6 f_X12_135 ly_187 rfl rfl ?_
  refine aw_iconst (v := 4) dX12_sign_9 (by decide) ?_
  refine aw_iadd dX12_sign_10 ?_
  refine aw_bipush (v := 80) dX12_sign_11 (by decide) ?_
  refine aw_icmp_le (tgt := 18) dX12_sign_13 (by decide) (fun hc => ?_) (fun hc => ?_)
  · have h := h.1 hc
    refine aw_iconst (v := 3) dX12_sign_18 (by decide) ?_
    refine aw_istore_n (L' := [(2, .int (3 : Int32)), (0, .ref (ad 187)), (1, .int x1)]) dX12_sign_19 rfl (by decide) rfl ?_
    exact aw_sub [1, 2, 0] rfl h
  · have h := h.2 hc
    refine aw_iconst (v := -1) dX12_sign_16 (by decide) ?_
    exact aw_ret (v := some (.int (-1 : Int32))) rfl (Or.inr (Or.inl ⟨_, .int, rfl, rfl, rfl, dX12_sign_17⟩)) h
set_option maxRecDepth 100000 in
set_option maxHeartbeats 4000000 in
theorem g_X12_sign_20 {ad : Nat → Nat} {d : Nat} {Q : Option Value → Wm → Prop} {m : Wm} {x1 x2 : Int32} (h : ((x2 < 0 → Q (some (.int (m.1 187 14))) m) ∧ (¬ x2 < 0 → (vp_in (m.1 187 14) 80 ∧ AW ad E0 μX12_sign d Q 20 [(0, .ref (ad 187)), (1, .int x1), (2, .int (x2 + (-1 : Int32)))] [] (uI (uI m 187 14 ((m.1 187 14) + (1 : Int32))) 195 (m.1 187 14).toNatClampNeg (vp_nar .byte ((x1 >>> (((8 : Int32) * x2) &&& 31)).toInt8.toInt32))))))) : AW ad E0 μX12_sign d Q 20 [(0, .ref (ad 187)), (1, .int x1), (2, .int x2)] [] m := by
  refine aw_iload_n (j := 2) dX12_sign_20 rfl rfl ?_
  refine aw_if_lt (tgt := 53) dX12_sign_21 (by decide) (fun hc => ?_) (fun hc => ?_)
  · have h := h.1 hc
    refine aw_aload_n (j := 0) dX12_sign_53 rfl rfl ?_
    refine aw_getfield (c := 0) (v := .int (m.1 187 14)) dX12_sign_54 f_X12_135 ly_187 rfl rfl ?_
    exact aw_ret (v := some (.int (m.1 187 14))) rfl (Or.inr (Or.inl ⟨_, .int, rfl, rfl, rfl, dX12_sign_57⟩)) h
  · have h := h.2 hc
    refine aw_aload_n (j := 0) dX12_sign_24 rfl rfl ?_
    refine aw_getfield (c := 198) (v := .ref (ad 195)) dX12_sign_25 f_X12_39 ly_187 rfl rfl ?_
    refine aw_aload_n (j := 0) dX12_sign_28 rfl rfl ?_
    refine aw_dup dX12_sign_29 rfl ?_
    refine aw_getfield (c := 0) (v := .int (m.1 187 14)) dX12_sign_30 f_X12_135 ly_187 rfl rfl ?_
    refine aw_dup_x1 dX12_sign_33 rfl rfl ?_
    refine aw_iconst (v := 1) dX12_sign_34 (by decide) ?_
    refine aw_iadd dX12_sign_35 ?_
    refine aw_putI dX12_sign_36 f_X12_135 cl_X12 rfl ly_187 rfl rfl rfl ?_
    refine aw_iload_n (j := 1) dX12_sign_39 rfl rfl ?_
    refine aw_bipush (v := 8) dX12_sign_40 (by decide) ?_
    refine aw_iload_n (j := 2) dX12_sign_42 rfl rfl ?_
    refine aw_imul dX12_sign_43 ?_
    refine aw_ishr dX12_sign_44 ?_
    refine aw_i2b dX12_sign_45 ?_
    obtain ⟨hi, h⟩ := h
    refine aw_bastore dX12_sign_46 ly_195 hi ?_
    refine aw_iinc (j := 2) (v := x2 + (-1 : Int32)) (L' := [(2, .int (x2 + (-1 : Int32))), (0, .ref (ad 187)), (1, .int x1)]) dX12_sign_47 rfl rfl (by decide) rfl ?_
    refine aw_goto (tgt := 20) dX12_sign_50 (by decide) ?_
    exact aw_sub [1, 2, 0] rfl h
set_option maxRecDepth 100000 in
set_option maxHeartbeats 4000000 in
theorem v_X12_end {ad : Nat → Nat} {d : Nat} {Q : Option Value → Wm → Prop} {m : Wm} {x1 : Int32} (h : (Ct ad μX12_in d [.long x1.toInt64, .long (0 : Int64), .long (((uI m 187 17 (0 : Int32)).1 187 14).toInt64)] (uI m 187 17 (0 : Int32)) (fun r m1 => ∃ v2 : Int32, r = some (.int v2) ∧ ((¬ v2 = 0 → Q (some (.int (1 : Int32))) (uI m1 187 14 x1)) ∧ (v2 = 0 → Q (some (.int (0 : Int32))) m1))))) : Ct ad μX12_end (d + 1) [.ref (ad 187), .int x1] m Q := by
  refine Ct.of (by decide +kernel) rfl (Nat.le_of_ble_eq_true rfl) ?_
  refine aw_eq (L' := [(0, .ref (ad 187)), (1, .int x1)]) ?_ rfl rfl rfl
  refine aw_aload_n (j := 0) dX12_end_0 rfl rfl ?_
  refine aw_iconst (v := 0) dX12_end_1 (by decide) ?_
  refine aw_putI dX12_end_2 f_X12_110 cl_X12 rfl ly_187 rfl rfl rfl ?_
  refine aw_iload_n (j := 1) dX12_end_5 rfl rfl ?_
  refine aw_i2l dX12_end_6 ?_
  refine aw_lconst (v := 0) dX12_end_7 (by decide) ?_
  refine aw_aload_n (j := 0) dX12_end_8 rfl rfl ?_
  refine aw_getfield (c := 0) (v := .int ((uI m 187 17 (0 : Int32)).1 187 14)) dX12_end_9 f_X12_135 ly_187 rfl rfl ?_
  refine aw_i2l dX12_end_12 ?_
  refine aw_callS (rest := []) [.long x1.toInt64, .long (0 : Int64), .long (((uI m 187 17 (0 : Int32)).1 187 14).toInt64)] dX12_end_13 k_X12_119 rfl h (Nat.le_of_ble_eq_true rfl) (fun v m1 h => ?_)
  obtain ⟨v2, rfl, h⟩ := h
  refine aw_eq (L' := [(0, .ref (ad 187)), (1, .int x1)]) (st' := [.int v2]) (m' := m1) ?_ rfl rfl rfl
  refine aw_if_ne (tgt := 21) dX12_end_16 (by decide) (fun hc => ?_) (fun hc => ?_)
  · have h := h.1 hc
    refine aw_aload_n (j := 0) dX12_end_21 rfl rfl ?_
    refine aw_iload_n (j := 1) dX12_end_22 rfl rfl ?_
    refine aw_putI dX12_end_23 f_X12_135 cl_X12 rfl ly_187 rfl rfl rfl ?_
    refine aw_iconst (v := 1) dX12_end_26 (by decide) ?_
    exact aw_ret (v := some (.int (1 : Int32))) rfl (Or.inr (Or.inl ⟨_, .boolean, rfl, rfl, by decide, dX12_end_27⟩)) h
  · have h := h.2 hc
    refine aw_iconst (v := 0) dX12_end_19 (by decide) ?_
    exact aw_ret (v := some (.int (0 : Int32))) rfl (Or.inr (Or.inl ⟨_, .boolean, rfl, rfl, by decide, dX12_end_20⟩)) h
set_option maxRecDepth 100000 in
set_option maxHeartbeats 4000000 in
theorem v_X12_begin {ad : Nat → Nat} {d : Nat} {Q : Option Value → Wm → Prop} {m : Wm} {a1 na1 : Nat} {x2 x3 : Int32} (ha1 : LAY[a1]? = some (.inr (1, na1))) (h : Q none (uI (uI (uI (uI (uR m 187 18 (some a1)) 187 19 x2) 187 20 x3) 187 21 (0 : Int32)) 187 22 (-1 : Int32))) : Ct ad μX12_begin d [.ref (ad 187), .ref (ad a1), .int x2, .int x3] m Q := by
  refine Ct.of (by decide +kernel) rfl (Nat.le_of_ble_eq_true rfl) ?_
  refine aw_eq (L' := [(0, .ref (ad 187)), (1, .ref (ad a1)), (2, .int x2), (3, .int x3)]) ?_ rfl rfl rfl
  refine aw_aload_n (j := 0) dX12_begin_0 rfl rfl ?_
  refine aw_aload_n (j := 1) dX12_begin_1 rfl rfl ?_
  refine aw_putR dX12_begin_2 f_X12_138 cl_X12 rfl ly_187 rfl rfl rfl ?_
  refine aw_aload_n (j := 0) dX12_begin_5 rfl rfl ?_
  refine aw_iload_n (j := 2) dX12_begin_6 rfl rfl ?_
  refine aw_putI dX12_begin_7 f_X12_141 cl_X12 rfl ly_187 rfl rfl rfl ?_
  refine aw_aload_n (j := 0) dX12_begin_10 rfl rfl ?_
  refine aw_iload_n (j := 3) dX12_begin_11 rfl rfl ?_
  refine aw_putI dX12_begin_12 f_X12_144 cl_X12 rfl ly_187 rfl rfl rfl ?_
  refine aw_aload_n (j := 0) dX12_begin_15 rfl rfl ?_
  refine aw_iconst (v := 0) dX12_begin_16 (by decide) ?_
  refine aw_putI dX12_begin_17 f_X12_147 cl_X12 rfl ly_187 rfl rfl rfl ?_
  refine aw_aload_n (j := 0) dX12_begin_20 rfl rfl ?_
  refine aw_iconst (v := -1) dX12_begin_21 (by decide) ?_
  refine aw_putI dX12_begin_22 f_X12_150 cl_X12 rfl ly_187 rfl rfl rfl ?_
  exact aw_ret (v := none) rfl (Or.inl ⟨rfl, rfl, dX12_begin_25⟩) h
set_option maxRecDepth 100000 in
set_option maxHeartbeats 4000000 in
theorem v_X12_here {ad : Nat → Nat} {d : Nat} {Q : Option Value → Wm → Prop} {m : Wm} (h : (((m.1 187 19) ≤ (m.1 187 21) → Q (some (.int (-1 : Int32))) m) ∧ (¬ (m.1 187 19) ≤ (m.1 187 21) → (((m.1 187 20) ≤ (m.1 187 21) → Q (some (.int (-1 : Int32))) m) ∧ (¬ (m.1 187 20) ≤ (m.1 187 21) → (∃ r1 nr1, m.2.2 187 18 = some r1 ∧ LAY[r1]? = some (.inr (1, nr1)) ∧ (vp_in (m.1 187 21) nr1 ∧ Q (some (.int (m.1 r1 (m.1 187 21).toNatClampNeg))) m))))))) : Ct ad μX12_here d [.ref (ad 187)] m Q := by
  refine Ct.of (by decide +kernel) rfl (Nat.le_of_ble_eq_true rfl) ?_
  refine aw_eq (L' := [(0, .ref (ad 187))]) ?_ rfl rfl rfl
  refine aw_aload_n (j := 0) dX12_here_0 rfl rfl ?_
  refine aw_getfield (c := 0) (v := .int (m.1 187 21)) dX12_here_1 f_X12_147 ly_187 rfl rfl ?_
  refine aw_aload_n (j := 0) dX12_here_4 rfl rfl ?_
  refine aw_getfield (c := 0) (v := .int (m.1 187 19)) dX12_here_5 f_X12_141 ly_187 rfl rfl ?_
  refine aw_icmp_ge (tgt := 34) dX12_here_8 (by decide) (fun hc => ?_) (fun hc => ?_)
  · have h := h.1 hc
    refine aw_iconst (v := -1) dX12_here_34 (by decide) ?_
    exact aw_ret (v := some (.int (-1 : Int32))) rfl (Or.inr (Or.inl ⟨_, .int, rfl, rfl, rfl, dX12_here_35⟩)) h
  · have h := h.2 hc
    refine aw_aload_n (j := 0) dX12_here_11 rfl rfl ?_
    refine aw_getfield (c := 0) (v := .int (m.1 187 21)) dX12_here_12 f_X12_147 ly_187 rfl rfl ?_
    refine aw_aload_n (j := 0) dX12_here_15 rfl rfl ?_
    refine aw_getfield (c := 0) (v := .int (m.1 187 20)) dX12_here_16 f_X12_144 ly_187 rfl rfl ?_
    refine aw_icmp_ge (tgt := 34) dX12_here_19 (by decide) (fun hc => ?_) (fun hc => ?_)
    · have h := h.1 hc
      refine aw_iconst (v := -1) dX12_here_34 (by decide) ?_
      exact aw_ret (v := some (.int (-1 : Int32))) rfl (Or.inr (Or.inl ⟨_, .int, rfl, rfl, rfl, dX12_here_35⟩)) h
    · have h := h.2 hc
      refine aw_aload_n (j := 0) dX12_here_22 rfl rfl ?_
      obtain ⟨r1, nr1, hrr1, hr1, h⟩ := h
      refine aw_getfield (c := 2) (v := .ref (ad r1)) dX12_here_23 f_X12_138 ly_187 rfl (by show va_rf (Option.map ad (m.2.2 187 18)) = _; rw [hrr1]; rfl) ?_
      refine aw_aload_n (j := 0) dX12_here_26 rfl rfl ?_
      refine aw_getfield (c := 0) (v := .int (m.1 187 21)) dX12_here_27 f_X12_147 ly_187 rfl rfl ?_
      obtain ⟨hi, h⟩ := h
      refine aw_baload dX12_here_30 hr1 hi ?_
      refine aw_goto (tgt := 35) dX12_here_31 (by decide) ?_
      exact aw_ret (v := some (.int (m.1 r1 (m.1 187 21).toNatClampNeg))) rfl (Or.inr (Or.inl ⟨_, .int, rfl, rfl, rfl, dX12_here_35⟩)) h
set_option maxRecDepth 100000 in
set_option maxHeartbeats 4000000 in
theorem v_X12_fine {ad : Nat → Nat} {d : Nat} {Q : Option Value → Wm → Prop} {m : Wm} (h : ((¬ (m.1 187 22) = (-1 : Int32) → Q (some (.int (0 : Int32))) m) ∧ ((m.1 187 22) = (-1 : Int32) → Q (some (.int (1 : Int32))) m))) : Ct ad μX12_fine d [.ref (ad 187)] m Q := by
  refine Ct.of (by decide +kernel) rfl (Nat.le_of_ble_eq_true rfl) ?_
  refine aw_eq (L' := [(0, .ref (ad 187))]) ?_ rfl rfl rfl
  refine aw_aload_n (j := 0) dX12_fine_0 rfl rfl ?_
  refine aw_getfield (c := 0) (v := .int (m.1 187 22)) dX12_fine_1 f_X12_150 ly_187 rfl rfl ?_
  refine aw_iconst (v := -1) dX12_fine_4 (by decide) ?_
  refine aw_icmp_ne (tgt := 12) dX12_fine_5 (by decide) (fun hc => ?_) (fun hc => ?_)
  · have h := h.1 hc
    refine aw_iconst (v := 0) dX12_fine_12 (by decide) ?_
    exact aw_ret (v := some (.int (0 : Int32))) rfl (Or.inr (Or.inl ⟨_, .boolean, rfl, rfl, by decide, dX12_fine_13⟩)) h
  · have h := h.2 hc
    refine aw_iconst (v := 1) dX12_fine_8 (by decide) ?_
    refine aw_goto (tgt := 13) dX12_fine_9 (by decide) ?_
    exact aw_ret (v := some (.int (1 : Int32))) rfl (Or.inr (Or.inl ⟨_, .boolean, rfl, rfl, by decide, dX12_fine_13⟩)) h
set_option maxRecDepth 100000 in
set_option maxHeartbeats 4000000 in
theorem v_X12_fault {ad : Nat → Nat} {d : Nat} {Q : Option Value → Wm → Prop} {m : Wm} {x1 : Int32} (h : (Ct ad μX12_fine d [.ref (ad 187)] m (fun r m1 => ∃ v2 : Int32, r = some (.int v2) ∧ ((v2 = 0 → Q none m1) ∧ (¬ v2 = 0 → Q none (uI m1 187 22 x1)))))) : Ct ad μX12_fault (d + 1) [.ref (ad 187), .int x1] m Q := by
  refine Ct.of (by decide +kernel) rfl (Nat.le_of_ble_eq_true rfl) ?_
  refine aw_eq (L' := [(0, .ref (ad 187)), (1, .int x1)]) ?_ rfl rfl rfl
  refine aw_aload_n (j := 0) dX12_fault_0 rfl rfl ?_
  refine aw_callV (rest := []) [] dX12_fault_1 ly_187 rfl k_X12_153 rfl h (Nat.le_of_ble_eq_true rfl) (fun v m1 h => ?_)
  obtain ⟨v2, rfl, h⟩ := h
  refine aw_eq (L' := [(0, .ref (ad 187)), (1, .int x1)]) (st' := [.int v2]) (m' := m1) ?_ rfl rfl rfl
  refine aw_if_eq (tgt := 12) dX12_fault_4 (by decide) (fun hc => ?_) (fun hc => ?_)
  · have h := h.1 hc
    exact aw_ret (v := none) rfl (Or.inl ⟨rfl, rfl, dX12_fault_12⟩) h
  · have h := h.2 hc
    refine aw_aload_n (j := 0) dX12_fault_7 rfl rfl ?_
    refine aw_iload_n (j := 1) dX12_fault_8 rfl rfl ?_
    refine aw_putI dX12_fault_9 f_X12_150 cl_X12 rfl ly_187 rfl rfl rfl ?_
    exact aw_ret (v := none) rfl (Or.inl ⟨rfl, rfl, dX12_fault_12⟩) h
set_option maxRecDepth 100000 in
set_option maxHeartbeats 4000000 in
theorem v_X12_passes {ad : Nat → Nat} {d : Nat} {Q : Option Value → Wm → Prop} {m : Wm} {x1 : Int32} (h : (Ct ad μX12_fine d [.ref (ad 187)] m (fun r m1 => ∃ v2 : Int32, r = some (.int v2) ∧ ((v2 = 0 → Q (some (.int (0 : Int32))) m1) ∧ (¬ v2 = 0 → (Ct ad μX12_here d [.ref (ad 187)] m1 (fun r m3 => ∃ v4 : Int32, r = some (.int v4) ∧ ((v4 = x1 → Q (some (.int (1 : Int32))) (uI m3 187 21 ((m3.1 187 21) + (1 : Int32)))) ∧ (¬ v4 = x1 → Q (some (.int (0 : Int32))) m3))))))))) : Ct ad μX12_passes (d + 1) [.ref (ad 187), .int x1] m Q := by
  refine Ct.of (by decide +kernel) rfl (Nat.le_of_ble_eq_true rfl) ?_
  refine aw_eq (L' := [(0, .ref (ad 187)), (1, .int x1)]) ?_ rfl rfl rfl
  refine aw_aload_n (j := 0) dX12_passes_0 rfl rfl ?_
  refine aw_callV (rest := []) [] dX12_passes_1 ly_187 rfl k_X12_153 rfl h (Nat.le_of_ble_eq_true rfl) (fun v m1 h => ?_)
  obtain ⟨v2, rfl, h⟩ := h
  refine aw_eq (L' := [(0, .ref (ad 187)), (1, .int x1)]) (st' := [.int v2]) (m' := m1) ?_ rfl rfl rfl
  refine aw_if_eq (tgt := 15) dX12_passes_4 (by decide) (fun hc => ?_) (fun hc => ?_)
  · have h := h.1 hc
    refine aw_iconst (v := 0) dX12_passes_15 (by decide) ?_
    exact aw_ret (v := some (.int (0 : Int32))) rfl (Or.inr (Or.inl ⟨_, .boolean, rfl, rfl, by decide, dX12_passes_16⟩)) h
  · have h := h.2 hc
    refine aw_aload_n (j := 0) dX12_passes_7 rfl rfl ?_
    refine aw_callV (rest := []) [] dX12_passes_8 ly_187 rfl k_X12_157 rfl h (Nat.le_of_ble_eq_true rfl) (fun v m3 h => ?_)
    obtain ⟨v4, rfl, h⟩ := h
    refine aw_eq (L' := [(0, .ref (ad 187)), (1, .int x1)]) (st' := [.int v4]) (m' := m3) ?_ rfl rfl rfl
    refine aw_iload_n (j := 1) dX12_passes_11 rfl rfl ?_
    refine aw_icmp_eq (tgt := 17) dX12_passes_12 (by decide) (fun hc => ?_) (fun hc => ?_)
    · have h := h.1 hc
      refine aw_aload_n (j := 0) dX12_passes_17 rfl rfl ?_
      refine aw_dup dX12_passes_18 rfl ?_
      refine aw_getfield (c := 0) (v := .int (m3.1 187 21)) dX12_passes_19 f_X12_147 ly_187 rfl rfl ?_
      refine aw_iconst (v := 1) dX12_passes_22 (by decide) ?_
      refine aw_iadd dX12_passes_23 ?_
      refine aw_putI dX12_passes_24 f_X12_147 cl_X12 rfl ly_187 rfl rfl rfl ?_
      refine aw_iconst (v := 1) dX12_passes_27 (by decide) ?_
      exact aw_ret (v := some (.int (1 : Int32))) rfl (Or.inr (Or.inl ⟨_, .boolean, rfl, rfl, by decide, dX12_passes_28⟩)) h
    · have h := h.2 hc
      refine aw_iconst (v := 0) dX12_passes_15 (by decide) ?_
      exact aw_ret (v := some (.int (0 : Int32))) rfl (Or.inr (Or.inl ⟨_, .boolean, rfl, rfl, by decide, dX12_passes_16⟩)) h
set_option maxRecDepth 100000 in
set_option maxHeartbeats 4000000 in
theorem v_X12_need {ad : Nat → Nat} {d : Nat} {Q : Option Value → Wm → Prop} {m : Wm} {x1 : Int32} (h : (Ct ad μX12_passes d [.ref (ad 187), .int x1] m (fun r m1 => ∃ v2 : Int32, r = some (.int v2) ∧ ((¬ v2 = 0 → Q none m1) ∧ (v2 = 0 → (Ct ad μX12_fault d [.ref (ad 187), .int (m1.1 187 21)] m1 (fun r m3 => r = none ∧ Q none m3))))))) : Ct ad μX12_need (d + 1) [.ref (ad 187), .int x1] m Q := by
  refine Ct.of (by decide +kernel) rfl (Nat.le_of_ble_eq_true rfl) ?_
  refine aw_eq (L' := [(0, .ref (ad 187)), (1, .int x1)]) ?_ rfl rfl rfl
  refine aw_aload_n (j := 0) dX12_need_0 rfl rfl ?_
  refine aw_iload_n (j := 1) dX12_need_1 rfl rfl ?_
  refine aw_callV (rest := []) [.int x1] dX12_need_2 ly_187 rfl k_X12_161 rfl h (Nat.le_of_ble_eq_true rfl) (fun v m1 h => ?_)
  obtain ⟨v2, rfl, h⟩ := h
  refine aw_eq (L' := [(0, .ref (ad 187)), (1, .int x1)]) (st' := [.int v2]) (m' := m1) ?_ rfl rfl rfl
  refine aw_if_ne (tgt := 16) dX12_need_5 (by decide) (fun hc => ?_) (fun hc => ?_)
  · have h := h.1 hc
    exact aw_ret (v := none) rfl (Or.inl ⟨rfl, rfl, dX12_need_16⟩) h
  · have h := h.2 hc
    refine aw_aload_n (j := 0) dX12_need_8 rfl rfl ?_
    refine aw_aload_n (j := 0) dX12_need_9 rfl rfl ?_
    refine aw_getfield (c := 0) (v := .int (m1.1 187 21)) dX12_need_10 f_X12_147 ly_187 rfl rfl ?_
    refine aw_callV (rest := []) [.int (m1.1 187 21)] dX12_need_13 ly_187 rfl k_X12_165 rfl h (Nat.le_of_ble_eq_true rfl) (fun v m3 h => ?_)
    obtain ⟨rfl, h⟩ := h
    refine aw_eq (L' := [(0, .ref (ad 187)), (1, .int x1)]) (st' := []) (m' := m3) ?_ rfl rfl rfl
    exact aw_ret (v := none) rfl (Or.inl ⟨rfl, rfl, dX12_need_16⟩) h
set_option maxRecDepth 100000 in
set_option maxHeartbeats 4000000 in
theorem v_X12_digit {ad : Nat → Nat} {d : Nat} {Q : Option Value → Wm → Prop} {m : Wm} {x1 x2 : Int32} (h : (Ct ad μX12_fine d [.ref (ad 187)] m (fun r m1 => ∃ v2 : Int32, r = some (.int v2) ∧ ((¬ v2 = 0 → (Ct ad μX12_here d [.ref (ad 187)] m1 (fun r m3 => ∃ v4 : Int32, r = some (.int v4) ∧ (Ct ad μX12_in d [.long v4.toInt64, .long (((48 : Int32) + x1).toInt64), .long (((48 : Int32) + x2).toInt64)] m3 (fun r m5 => ∃ v6 : Int32, r = some (.int v6) ∧ ((¬ v6 = 0 → (∃ r7 nr7, (uI m5 187 21 ((m5.1 187 21) + (1 : Int32))).2.2 187 18 = some r7 ∧ LAY[r7]? = some (.inr (1, nr7)) ∧ (vp_in (((uI m5 187 21 ((m5.1 187 21) + (1 : Int32))).1 187 21) - (1 : Int32)) nr7 ∧ Q (some (.int (((uI m5 187 21 ((m5.1 187 21) + (1 : Int32))).1 r7 (((uI m5 187 21 ((m5.1 187 21) + (1 : Int32))).1 187 21) - (1 : Int32)).toNatClampNeg) - (48 : Int32)))) (uI m5 187 21 ((m5.1 187 21) + (1 : Int32)))))) ∧ (v6 = 0 → (Ct ad μX12_fault d [.ref (ad 187), .int (m5.1 187 21)] m5 (fun r m8 => r = none ∧ Q (some (.int (0 : Int32))) m8))))))))) ∧ (v2 = 0 → Q (some (.int (0 : Int32))) m1))))) : Ct ad μX12_digit (d + 1) [.ref (ad 187), .int x1, .int x2] m Q := by
  refine Ct.of (by decide +kernel) rfl (Nat.le_of_ble_eq_true rfl) ?_
  refine aw_eq (L' := [(0, .ref (ad 187)), (1, .int x1), (2, .int x2)]) ?_ rfl rfl rfl
  refine aw_aload_n (j := 0) dX12_digit_0 rfl rfl ?_
  refine aw_callV (rest := []) [] dX12_digit_1 ly_187 rfl k_X12_153 rfl h (Nat.le_of_ble_eq_true rfl) (fun v m1 h => ?_)
  obtain ⟨v2, rfl, h⟩ := h
  refine aw_eq (L' := [(0, .ref (ad 187)), (1, .int x1), (2, .int x2)]) (st' := [.int v2]) (m' := m1) ?_ rfl rfl rfl
  refine aw_if_ne (tgt := 9) dX12_digit_4 (by decide) (fun hc => ?_) (fun hc => ?_)
  · have h := h.1 hc
    refine aw_aload_n (j := 0) dX12_digit_9 rfl rfl ?_
    refine aw_callV (rest := []) [] dX12_digit_10 ly_187 rfl k_X12_157 rfl h (Nat.le_of_ble_eq_true rfl) (fun v m3 h => ?_)
    obtain ⟨v4, rfl, h⟩ := h
    refine aw_eq (L' := [(0, .ref (ad 187)), (1, .int x1), (2, .int x2)]) (st' := [.int v4]) (m' := m3) ?_ rfl rfl rfl
    refine aw_i2l dX12_digit_13 ?_
    refine aw_bipush (v := 48) dX12_digit_14 (by decide) ?_
    refine aw_iload_n (j := 1) dX12_digit_16 rfl rfl ?_
    refine aw_iadd dX12_digit_17 ?_
    refine aw_i2l dX12_digit_18 ?_
    refine aw_bipush (v := 48) dX12_digit_19 (by decide) ?_
    refine aw_iload_n (j := 2) dX12_digit_21 rfl rfl ?_
    refine aw_iadd dX12_digit_22 ?_
    refine aw_i2l dX12_digit_23 ?_
    refine aw_callS (rest := []) [.long v4.toInt64, .long (((48 : Int32) + x1).toInt64), .long (((48 : Int32) + x2).toInt64)] dX12_digit_24 k_X12_119 rfl h (Nat.le_of_ble_eq_true rfl) (fun v m5 h => ?_)
    obtain ⟨v6, rfl, h⟩ := h
    refine aw_eq (L' := [(0, .ref (ad 187)), (1, .int x1), (2, .int x2)]) (st' := [.int v6]) (m' := m5) ?_ rfl rfl rfl
    refine aw_if_ne (tgt := 40) dX12_digit_27 (by decide) (fun hc => ?_) (fun hc => ?_)
    · have h := h.1 hc
      refine aw_aload_n (j := 0) dX12_digit_40 rfl rfl ?_
      refine aw_dup dX12_digit_41 rfl ?_
      refine aw_getfield (c := 0) (v := .int (m5.1 187 21)) dX12_digit_42 f_X12_147 ly_187 rfl rfl ?_
      refine aw_iconst (v := 1) dX12_digit_45 (by decide) ?_
      refine aw_iadd dX12_digit_46 ?_
      refine aw_putI dX12_digit_47 f_X12_147 cl_X12 rfl ly_187 rfl rfl rfl ?_
      refine aw_aload_n (j := 0) dX12_digit_50 rfl rfl ?_
      obtain ⟨r7, nr7, hrr7, hr7, h⟩ := h
      refine aw_getfield (c := 2) (v := .ref (ad r7)) dX12_digit_51 f_X12_138 ly_187 rfl (by show va_rf (Option.map ad ((uI m5 187 21 ((m5.1 187 21) + (1 : Int32))).2.2 187 18)) = _; rw [hrr7]; rfl) ?_
      refine aw_aload_n (j := 0) dX12_digit_54 rfl rfl ?_
      refine aw_getfield (c := 0) (v := .int ((uI m5 187 21 ((m5.1 187 21) + (1 : Int32))).1 187 21)) dX12_digit_55 f_X12_147 ly_187 rfl rfl ?_
      refine aw_iconst (v := 1) dX12_digit_58 (by decide) ?_
      refine aw_isub dX12_digit_59 ?_
      obtain ⟨hi, h⟩ := h
      refine aw_baload dX12_digit_60 hr7 hi ?_
      refine aw_bipush (v := 48) dX12_digit_61 (by decide) ?_
      refine aw_isub dX12_digit_63 ?_
      exact aw_ret (v := some (.int (((uI m5 187 21 ((m5.1 187 21) + (1 : Int32))).1 r7 (((uI m5 187 21 ((m5.1 187 21) + (1 : Int32))).1 187 21) - (1 : Int32)).toNatClampNeg) - (48 : Int32)))) rfl (Or.inr (Or.inl ⟨_, .int, rfl, rfl, rfl, dX12_digit_64⟩)) h
    · have h := h.2 hc
      refine aw_aload_n (j := 0) dX12_digit_30 rfl rfl ?_
      refine aw_aload_n (j := 0) dX12_digit_31 rfl rfl ?_
      refine aw_getfield (c := 0) (v := .int (m5.1 187 21)) dX12_digit_32 f_X12_147 ly_187 rfl rfl ?_
      refine aw_callV (rest := []) [.int (m5.1 187 21)] dX12_digit_35 ly_187 rfl k_X12_165 rfl h (Nat.le_of_ble_eq_true rfl) (fun v m8 h => ?_)
      obtain ⟨rfl, h⟩ := h
      refine aw_eq (L' := [(0, .ref (ad 187)), (1, .int x1), (2, .int x2)]) (st' := []) (m' := m8) ?_ rfl rfl rfl
      refine aw_iconst (v := 0) dX12_digit_38 (by decide) ?_
      exact aw_ret (v := some (.int (0 : Int32))) rfl (Or.inr (Or.inl ⟨_, .int, rfl, rfl, rfl, dX12_digit_39⟩)) h
  · have h := h.2 hc
    refine aw_iconst (v := 0) dX12_digit_7 (by decide) ?_
    exact aw_ret (v := some (.int (0 : Int32))) rfl (Or.inr (Or.inl ⟨_, .int, rfl, rfl, rfl, dX12_digit_8⟩)) h
set_option maxRecDepth 100000 in
set_option maxHeartbeats 4000000 in
theorem v_X12_number {ad : Nat → Nat} {d : Nat} {Q : Option Value → Wm → Prop} {m : Wm} {x1 : Int32} (h : AW ad E0 μX12_number (d + 1) Q 4 [(0, .ref (ad 187)), (1, .int x1), (2, .int (0 : Int32)), (3, .int (0 : Int32))] [] m) : Ct ad μX12_number (d + 1) [.ref (ad 187), .int x1] m Q := by
  refine Ct.of (by decide +kernel) rfl (Nat.le_of_ble_eq_true rfl) ?_
  refine aw_eq (L' := [(0, .ref (ad 187)), (1, .int x1)]) ?_ rfl rfl rfl
  refine aw_iconst (v := 0) dX12_number_0 (by decide) ?_
  refine aw_istore_n (L' := [(2, .int (0 : Int32)), (0, .ref (ad 187)), (1, .int x1)]) dX12_number_1 rfl (by decide) rfl ?_
  refine aw_iconst (v := 0) dX12_number_2 (by decide) ?_
  refine aw_istore_n (L' := [(3, .int (0 : Int32)), (2, .int (0 : Int32)), (0, .ref (ad 187)), (1, .int x1)]) dX12_number_3 rfl (by decide) rfl ?_
  exact aw_sub [2, 3, 1, 0] rfl h
set_option maxRecDepth 100000 in
set_option maxHeartbeats 4000000 in
theorem g_X12_number_4 {ad : Nat → Nat} {d : Nat} {Q : Option Value → Wm → Prop} {m : Wm} {x1 x2 x3 : Int32} (h : ((x1 ≤ x3 → Q (some (.int x2)) m) ∧ (¬ x1 ≤ x3 → (Ct ad μX12_here d [.ref (ad 187)] m (fun r m1 => ∃ v2 : Int32, r = some (.int v2) ∧ (Ct ad μX12_in d [.long v2.toInt64, .long (48 : Int64), .long (57 : Int64)] m1 (fun r m3 => ∃ v4 : Int32, r = some (.int v4) ∧ ((v4 = 0 → Q (some (.int x2)) m3) ∧ (¬ v4 = 0 → (Ct ad μX12_here d [.ref (ad 187)] m3 (fun r m5 => ∃ v6 : Int32, r = some (.int v6) ∧ AW ad E0 μX12_number (d + 1) Q 4 [(0, .ref (ad 187)), (1, .int x1), (2, .int ((((10 : Int32) * x2) + v6) - (48 : Int32))), (3, .int (x3 + (1 : Int32)))] [] (uI m5 187 21 ((m5.1 187 21) + (1 : Int32)))))))))))))) : AW ad E0 μX12_number (d + 1) Q 4 [(0, .ref (ad 187)), (1, .int x1), (2, .int x2), (3, .int x3)] [] m := by
  refine aw_iload_n (j := 3) dX12_number_4 rfl rfl ?_
  refine aw_iload_n (j := 1) dX12_number_5 rfl rfl ?_
  refine aw_icmp_ge (tgt := 55) dX12_number_6 (by decide) (fun hc => ?_) (fun hc => ?_)
  · have h := h.1 hc
    refine aw_iload_n (j := 2) dX12_number_55 rfl rfl ?_
    exact aw_ret (v := some (.int x2)) rfl (Or.inr (Or.inl ⟨_, .int, rfl, rfl, rfl, dX12_number_56⟩)) h
  · have h := h.2 hc
    refine aw_aload_n (j := 0) dX12_number_9 rfl rfl ?_
    refine aw_callV (rest := []) [] dX12_number_10 ly_187 rfl k_X12_157 rfl h (Nat.le_of_ble_eq_true rfl) (fun v m1 h => ?_)
    obtain ⟨v2, rfl, h⟩ := h
    refine aw_eq (L' := [(0, .ref (ad 187)), (1, .int x1), (2, .int x2), (3, .int x3)]) (st' := [.int v2]) (m' := m1) ?_ rfl rfl rfl
    refine aw_i2l dX12_number_13 ?_
    refine aw_ldc2 dX12_number_14 c_X12_169 ?_
    refine aw_ldc2 dX12_number_17 c_X12_171 ?_
    refine aw_callS (rest := []) [.long v2.toInt64, .long (48 : Int64), .long (57 : Int64)] dX12_number_20 k_X12_119 rfl h (Nat.le_of_ble_eq_true rfl) (fun v m3 h => ?_)
    obtain ⟨v4, rfl, h⟩ := h
    refine aw_eq (L' := [(0, .ref (ad 187)), (1, .int x1), (2, .int x2), (3, .int x3)]) (st' := [.int v4]) (m' := m3) ?_ rfl rfl rfl
    refine aw_if_eq (tgt := 55) dX12_number_23 (by decide) (fun hc => ?_) (fun hc => ?_)
    · have h := h.1 hc
      refine aw_iload_n (j := 2) dX12_number_55 rfl rfl ?_
      exact aw_ret (v := some (.int x2)) rfl (Or.inr (Or.inl ⟨_, .int, rfl, rfl, rfl, dX12_number_56⟩)) h
    · have h := h.2 hc
      refine aw_bipush (v := 10) dX12_number_26 (by decide) ?_
      refine aw_iload_n (j := 2) dX12_number_28 rfl rfl ?_
      refine aw_imul dX12_number_29 ?_
      refine aw_aload_n (j := 0) dX12_number_30 rfl rfl ?_
      refine aw_callV (rest := [.int ((10 : Int32) * x2)]) [] dX12_number_31 ly_187 rfl k_X12_157 rfl h (Nat.le_of_ble_eq_true rfl) (fun v m5 h => ?_)
      obtain ⟨v6, rfl, h⟩ := h
      refine aw_eq (L' := [(0, .ref (ad 187)), (1, .int x1), (2, .int x2), (3, .int x3)]) (st' := [.int v6, .int ((10 : Int32) * x2)]) (m' := m5) ?_ rfl rfl rfl
      refine aw_iadd dX12_number_34 ?_
      refine aw_bipush (v := 48) dX12_number_35 (by decide) ?_
      refine aw_isub dX12_number_37 ?_
      refine aw_istore_n (L' := [(2, .int ((((10 : Int32) * x2) + v6) - (48 : Int32))), (0, .ref (ad 187)), (1, .int x1), (3, .int x3)]) dX12_number_38 rfl (by decide) rfl ?_
      refine aw_aload_n (j := 1) dX12_number_39 rfl rfl ?_
      refine aw_dup dX12_number_40 rfl ?_
      refine aw_getfield (c := 0) (v := .int (m5.1 187 21)) dX12_number_41 f_X12_147 ly_187 rfl rfl ?_
      refine aw_iconst (v := 1) dX12_number_44 (by decide) ?_
      refine aw_iadd dX12_number_45 ?_
      refine aw_putI dX12_number_46 f_X12_147 cl_X12 rfl ly_187 rfl rfl rfl ?_
      refine aw_iinc (j := 3) (v := x3 + (1 : Int32)) (L' := [(3, .int (x3 + (1 : Int32))), (2, .int ((((10 : Int32) * x2) + v6) - (48 : Int32))), (0, .ref (ad 187)), (1, .int x1)]) dX12_number_49 rfl rfl (by decide) rfl ?_
      refine aw_goto (tgt := 4) dX12_number_52 (by decide) ?_
      exact aw_sub [2, 3, 1, 0] rfl h
set_option maxRecDepth 100000 in
set_option maxHeartbeats 4000000 in
theorem v_X12_league {ad : Nat → Nat} {d : Nat} {Q : Option Value → Wm → Prop} {m : Wm} (h : (Ct ad μX12_begin d [.ref (ad 187), .ref (ad 195), .int ((uI m 187 17 (0 : Int32)).1 187 14), .int (76 : Int32)] (uI m 187 17 (0 : Int32)) (fun r m1 => r = none ∧ ((¬ ((uI m1 187 14 (0 : Int32)).1 187 19) = 0 → AW ad E0 μX12_league (d + 1) Q 57 [(0, .ref (ad 187)), (1, .int ((uI m1 187 14 (0 : Int32)).1 187 0)), (2, .int ((uI m1 187 14 (0 : Int32)).1 187 1)), (3, .int ((uI m1 187 14 (0 : Int32)).1 187 1)), (4, .int (0 : Int32)), (5, .int (0 : Int32)), (6, .int (1 : Int32))] [] (uI m1 187 14 (0 : Int32))) ∧ (((uI m1 187 14 (0 : Int32)).1 187 19) = 0 → Q (some (.int (0 : Int32))) (uI m1 187 14 (0 : Int32))))))) : Ct ad μX12_league (d + 1) [.ref (ad 187)] m Q := by
  refine Ct.of (by decide +kernel) rfl (Nat.le_of_ble_eq_true rfl) ?_
  refine aw_eq (L' := [(0, .ref (ad 187))]) ?_ rfl rfl rfl
  refine aw_aload_n (j := 0) dX12_league_0 rfl rfl ?_
  refine aw_iconst (v := 0) dX12_league_1 (by decide) ?_
  refine aw_putI dX12_league_2 f_X12_110 cl_X12 rfl ly_187 rfl rfl rfl ?_
  refine aw_aload_n (j := 0) dX12_league_5 rfl rfl ?_
  refine aw_aload_n (j := 0) dX12_league_6 rfl rfl ?_
  refine aw_getfield (c := 198) (v := .ref (ad 195)) dX12_league_7 f_X12_39 ly_187 rfl rfl ?_
  refine aw_aload_n (j := 0) dX12_league_10 rfl rfl ?_
  refine aw_getfield (c := 0) (v := .int ((uI m 187 17 (0 : Int32)).1 187 14)) dX12_league_11 f_X12_135 ly_187 rfl rfl ?_
  refine aw_bipush (v := 76) dX12_league_14 (by decide) ?_
  refine aw_callV (rest := []) [.ref (ad 195), .int ((uI m 187 17 (0 : Int32)).1 187 14), .int (76 : Int32)] dX12_league_16 ly_187 rfl k_X12_173 rfl h (Nat.le_of_ble_eq_true rfl) (fun v m1 h => ?_)
  obtain ⟨rfl, h⟩ := h
  refine aw_eq (L' := [(0, .ref (ad 187))]) (st' := []) (m' := m1) ?_ rfl rfl rfl
  refine aw_aload_n (j := 0) dX12_league_19 rfl rfl ?_
  refine aw_iconst (v := 0) dX12_league_20 (by decide) ?_
  refine aw_putI dX12_league_21 f_X12_135 cl_X12 rfl ly_187 rfl rfl rfl ?_
  refine aw_aload_n (j := 0) dX12_league_24 rfl rfl ?_
  refine aw_getfield (c := 0) (v := .int ((uI m1 187 14 (0 : Int32)).1 187 19)) dX12_league_25 f_X12_141 ly_187 rfl rfl ?_
  refine aw_if_ne (tgt := 33) dX12_league_28 (by decide) (fun hc => ?_) (fun hc => ?_)
  · have h := h.1 hc
    refine aw_aload_n (j := 0) dX12_league_33 rfl rfl ?_
    refine aw_getfield (c := 0) (v := .int ((uI m1 187 14 (0 : Int32)).1 187 0)) dX12_league_34 f_X12_9 ly_187 rfl rfl ?_
    refine aw_istore_n (L' := [(1, .int ((uI m1 187 14 (0 : Int32)).1 187 0)), (0, .ref (ad 187))]) dX12_league_37 rfl (by decide) rfl ?_
    refine aw_aload_n (j := 1) dX12_league_38 rfl rfl ?_
    refine aw_getfield (c := 0) (v := .int ((uI m1 187 14 (0 : Int32)).1 187 1)) dX12_league_39 f_X12_116 ly_187 rfl rfl ?_
    refine aw_istore_n (L' := [(2, .int ((uI m1 187 14 (0 : Int32)).1 187 1)), (1, .int ((uI m1 187 14 (0 : Int32)).1 187 0)), (0, .ref (ad 187))]) dX12_league_42 rfl (by decide) rfl ?_
    refine aw_aload_n (j := 2) dX12_league_43 rfl rfl ?_
    refine aw_getfield (c := 0) (v := .int ((uI m1 187 14 (0 : Int32)).1 187 1)) dX12_league_44 f_X12_116 ly_187 rfl rfl ?_
    refine aw_istore_n (L' := [(3, .int ((uI m1 187 14 (0 : Int32)).1 187 1)), (2, .int ((uI m1 187 14 (0 : Int32)).1 187 1)), (1, .int ((uI m1 187 14 (0 : Int32)).1 187 0)), (0, .ref (ad 187))]) dX12_league_47 rfl (by decide) rfl ?_
    refine aw_iconst (v := 0) dX12_league_48 (by decide) ?_
    refine aw_istore (L' := [(4, .int (0 : Int32)), (3, .int ((uI m1 187 14 (0 : Int32)).1 187 1)), (2, .int ((uI m1 187 14 (0 : Int32)).1 187 1)), (1, .int ((uI m1 187 14 (0 : Int32)).1 187 0)), (0, .ref (ad 187))]) dX12_league_49 (by decide) rfl ?_
    refine aw_iconst (v := 0) dX12_league_51 (by decide) ?_
    refine aw_istore (L' := [(5, .int (0 : Int32)), (4, .int (0 : Int32)), (3, .int ((uI m1 187 14 (0 : Int32)).1 187 1)), (2, .int ((uI m1 187 14 (0 : Int32)).1 187 1)), (1, .int ((uI m1 187 14 (0 : Int32)).1 187 0)), (0, .ref (ad 187))]) dX12_league_52 (by decide) rfl ?_
    refine aw_iconst (v := 1) dX12_league_54 (by decide) ?_
    refine aw_istore (L' := [(6, .int (1 : Int32)), (5, .int (0 : Int32)), (4, .int (0 : Int32)), (3, .int ((uI m1 187 14 (0 : Int32)).1 187 1)), (2, .int ((uI m1 187 14 (0 : Int32)).1 187 1)), (1, .int ((uI m1 187 14 (0 : Int32)).1 187 0)), (0, .ref (ad 187))]) dX12_league_55 (by decide) rfl ?_
    exact aw_sub [6, 5, 4, 3, 2, 1, 0] rfl h
  · have h := h.2 hc
    refine aw_iconst (v := 0) dX12_league_31 (by decide) ?_
    exact aw_ret (v := some (.int (0 : Int32))) rfl (Or.inr (Or.inl ⟨_, .int, rfl, rfl, rfl, dX12_league_32⟩)) h
set_option maxRecDepth 100000 in
set_option maxHeartbeats 4000000 in
theorem g_X12_league_57 {ad : Nat → Nat} {d : Nat} {Q : Option Value → Wm → Prop} {m : Wm} {x1 x2 x3 x4 x5 x6 : Int32} (h : ((x6 = 0 → AW ad E0 μX12_league (d + 1) Q 184 [(0, .ref (ad 187)), (1, .int x1), (2, .int x2), (3, .int x3), (4, .int x4), (5, .int x5)] [] m) ∧ (¬ x6 = 0 → (Ct ad μX12_fine d [.ref (ad 187)] m (fun r m1 => ∃ v2 : Int32, r = some (.int v2) ∧ ((v2 = 0 → AW ad E0 μX12_league (d + 1) Q 184 [(0, .ref (ad 187)), (1, .int x1), (2, .int x2), (3, .int x3), (4, .int x4), (5, .int x5)] [] m1) ∧ (¬ v2 = 0 → (Ct ad μX12_passes d [.ref (ad 187), .int (119 : Int32)] m1 (fun r m3 => ∃ v4 : Int32, r = some (.int v4) ∧ ((v4 = 0 → ((¬ x3 = (8 : Int32) → AW ad E0 μX12_league (d + 1) Q 115 [(0, .ref (ad 187)), (1, .int x1), (2, .int x2), (3, .int x3), (4, .int x4), (5, .int x5), (7, .int (0 : Int32))] [] m3) ∧ (x3 = (8 : Int32) → (Ct ad μX12_fault d [.ref (ad 187), .int (m3.1 187 21)] m3 (fun r m5 => r = none ∧ (Ct ad μX12_passes d [.ref (ad 187), .int (59 : Int32)] m5 (fun r m6 => ∃ v7 : Int32, r = some (.int v7) ∧ AW ad E0 μX12_league (d + 1) Q 57 [(0, .ref (ad 187)), (1, .int x1), (2, .int x2), (3, .int x3), (4, .int x4), (5, .int (x5 + (1 : Int32))), (6, .int v7)] [] m6))))))) ∧ (¬ v4 = 0 → (Ct ad μX12_digit d [.ref (ad 187), .int (1 : Int32), .int (4 : Int32)] m3 (fun r m8 => ∃ v9 : Int32, r = some (.int v9) ∧ (Ct ad μX12_passes d [.ref (ad 187), .int (59 : Int32)] m8 (fun r m10 => ∃ v11 : Int32, r = some (.int v11) ∧ AW ad E0 μX12_league (d + 1) Q 57 [(0, .ref (ad 187)), (1, .int v9), (2, .int (0 : Int32)), (3, .int (0 : Int32)), (4, .int (1 : Int32)), (5, .int (x5 + (1 : Int32))), (6, .int v11)] [] m10))))))))))))))) : AW ad E0 μX12_league (d + 1) Q 57 [(0, .ref (ad 187)), (1, .int x1), (2, .int x2), (3, .int x3), (4, .int x4), (5, .int x5), (6, .int x6)] [] m := by
  refine aw_iload (j := 6) dX12_league_57 rfl ?_
  refine aw_if_eq (tgt := 184) dX12_league_59 (by decide) (fun hc => ?_) (fun hc => ?_)
  · have h := h.1 hc
    exact aw_sub [0, 1, 2, 3, 4, 5] rfl h
  · have h := h.2 hc
    refine aw_aload_n (j := 0) dX12_league_62 rfl rfl ?_
    refine aw_callV (rest := []) [] dX12_league_63 ly_187 rfl k_X12_153 rfl h (Nat.le_of_ble_eq_true rfl) (fun v m1 h => ?_)
    obtain ⟨v2, rfl, h⟩ := h
    refine aw_eq (L' := [(0, .ref (ad 187)), (1, .int x1), (2, .int x2), (3, .int x3), (4, .int x4), (5, .int x5), (6, .int x6)]) (st' := [.int v2]) (m' := m1) ?_ rfl rfl rfl
    refine aw_if_eq (tgt := 184) dX12_league_66 (by decide) (fun hc => ?_) (fun hc => ?_)
    · have h := h.1 hc
      exact aw_sub [0, 1, 2, 3, 4, 5] rfl h
    · have h := h.2 hc
      refine aw_aload_n (j := 0) dX12_league_69 rfl rfl ?_
      refine aw_bipush (v := 119) dX12_league_70 (by decide) ?_
      refine aw_callV (rest := []) [.int (119 : Int32)] dX12_league_72 ly_187 rfl k_X12_161 rfl h (Nat.le_of_ble_eq_true rfl) (fun v m3 h => ?_)
      obtain ⟨v4, rfl, h⟩ := h
      refine aw_eq (L' := [(0, .ref (ad 187)), (1, .int x1), (2, .int x2), (3, .int x3), (4, .int x4), (5, .int x5), (6, .int x6)]) (st' := [.int v4]) (m' := m3) ?_ rfl rfl rfl
      refine aw_if_eq (tgt := 95) dX12_league_75 (by decide) (fun hc => ?_) (fun hc => ?_)
      · have h := h.1 hc
        refine aw_iload_n (j := 3) dX12_league_95 rfl rfl ?_
        refine aw_bipush (v := 8) dX12_league_96 (by decide) ?_
        refine aw_icmp_ne (tgt := 112) dX12_league_98 (by decide) (fun hc => ?_) (fun hc => ?_)
        · have h := h.1 hc
          refine aw_iconst (v := 0) dX12_league_112 (by decide) ?_
          refine aw_istore (L' := [(7, .int (0 : Int32)), (0, .ref (ad 187)), (1, .int x1), (2, .int x2), (3, .int x3), (4, .int x4), (5, .int x5), (6, .int x6)]) dX12_league_113 (by decide) rfl ?_
          exact aw_sub [1, 2, 3, 4, 5, 6, 0] rfl h
        · have h := h.2 hc
          refine aw_aload_n (j := 0) dX12_league_101 rfl rfl ?_
          refine aw_aload_n (j := 0) dX12_league_102 rfl rfl ?_
          refine aw_getfield (c := 0) (v := .int (m3.1 187 21)) dX12_league_103 f_X12_147 ly_187 rfl rfl ?_
          refine aw_callV (rest := []) [.int (m3.1 187 21)] dX12_league_106 ly_187 rfl k_X12_165 rfl h (Nat.le_of_ble_eq_true rfl) (fun v m5 h => ?_)
          obtain ⟨rfl, h⟩ := h
          refine aw_eq (L' := [(0, .ref (ad 187)), (1, .int x1), (2, .int x2), (3, .int x3), (4, .int x4), (5, .int x5), (6, .int x6)]) (st' := []) (m' := m5) ?_ rfl rfl rfl
          refine aw_goto (tgt := 170) dX12_league_109 (by decide) ?_
          refine aw_iinc (j := 5) (v := x5 + (1 : Int32)) (L' := [(5, .int (x5 + (1 : Int32))), (0, .ref (ad 187)), (1, .int x1), (2, .int x2), (3, .int x3), (4, .int x4), (6, .int x6)]) dX12_league_170 rfl rfl (by decide) rfl ?_
          refine aw_aload_n (j := 1) dX12_league_173 rfl rfl ?_
          refine aw_bipush (v := 59) dX12_league_174 (by decide) ?_
          refine aw_callV (rest := []) [.int (59 : Int32)] dX12_league_176 ly_187 rfl k_X12_161 rfl h (Nat.le_of_ble_eq_true rfl) (fun v m6 h => ?_)
          obtain ⟨v7, rfl, h⟩ := h
          refine aw_eq (L' := [(5, .int (x5 + (1 : Int32))), (0, .ref (ad 187)), (1, .int x1), (2, .int x2), (3, .int x3), (4, .int x4), (6, .int x6)]) (st' := [.int v7]) (m' := m6) ?_ rfl rfl rfl
          refine aw_istore (L' := [(6, .int v7), (5, .int (x5 + (1 : Int32))), (0, .ref (ad 187)), (1, .int x1), (2, .int x2), (3, .int x3), (4, .int x4)]) dX12_league_179 (by decide) rfl ?_
          refine aw_goto (tgt := 57) dX12_league_181 (by decide) ?_
          exact aw_sub [2, 3, 4, 5, 6, 1, 0] rfl h
      · have h := h.2 hc
        refine aw_aload_n (j := 0) dX12_league_78 rfl rfl ?_
        refine aw_iconst (v := 1) dX12_league_79 (by decide) ?_
        refine aw_iconst (v := 4) dX12_league_80 (by decide) ?_
        refine aw_callV (rest := []) [.int (1 : Int32), .int (4 : Int32)] dX12_league_81 ly_187 rfl k_X12_177 rfl h (Nat.le_of_ble_eq_true rfl) (fun v m8 h => ?_)
        obtain ⟨v9, rfl, h⟩ := h
        refine aw_eq (L' := [(0, .ref (ad 187)), (1, .int x1), (2, .int x2), (3, .int x3), (4, .int x4), (5, .int x5), (6, .int x6)]) (st' := [.int v9]) (m' := m8) ?_ rfl rfl rfl
        refine aw_istore_n (L' := [(1, .int v9), (0, .ref (ad 187)), (2, .int x2), (3, .int x3), (4, .int x4), (5, .int x5), (6, .int x6)]) dX12_league_84 rfl (by decide) rfl ?_
        refine aw_iconst (v := 0) dX12_league_85 (by decide) ?_
        refine aw_istore_n (L' := [(2, .int (0 : Int32)), (1, .int v9), (0, .ref (ad 187)), (3, .int x3), (4, .int x4), (5, .int x5), (6, .int x6)]) dX12_league_86 rfl (by decide) rfl ?_
        refine aw_iconst (v := 0) dX12_league_87 (by decide) ?_
        refine aw_istore_n (L' := [(3, .int (0 : Int32)), (2, .int (0 : Int32)), (1, .int v9), (0, .ref (ad 187)), (4, .int x4), (5, .int x5), (6, .int x6)]) dX12_league_88 rfl (by decide) rfl ?_
        refine aw_iconst (v := 1) dX12_league_89 (by decide) ?_
        refine aw_istore (L' := [(4, .int (1 : Int32)), (3, .int (0 : Int32)), (2, .int (0 : Int32)), (1, .int v9), (0, .ref (ad 187)), (5, .int x5), (6, .int x6)]) dX12_league_90 (by decide) rfl ?_
        refine aw_goto (tgt := 170) dX12_league_92 (by decide) ?_
        refine aw_iinc (j := 5) (v := x5 + (1 : Int32)) (L' := [(5, .int (x5 + (1 : Int32))), (4, .int (1 : Int32)), (3, .int (0 : Int32)), (2, .int (0 : Int32)), (1, .int v9), (0, .ref (ad 187)), (6, .int x6)]) dX12_league_170 rfl rfl (by decide) rfl ?_
        refine aw_aload_n (j := 5) dX12_league_173 rfl rfl ?_
        refine aw_bipush (v := 59) dX12_league_174 (by decide) ?_
        refine aw_callV (rest := []) [.int (59 : Int32)] dX12_league_176 ly_187 rfl k_X12_161 rfl h (Nat.le_of_ble_eq_true rfl) (fun v m10 h => ?_)
        obtain ⟨v11, rfl, h⟩ := h
        refine aw_eq (L' := [(5, .int (x5 + (1 : Int32))), (4, .int (1 : Int32)), (3, .int (0 : Int32)), (2, .int (0 : Int32)), (1, .int v9), (0, .ref (ad 187)), (6, .int x6)]) (st' := [.int v11]) (m' := m10) ?_ rfl rfl rfl
        refine aw_istore (L' := [(6, .int v11), (5, .int (x5 + (1 : Int32))), (4, .int (1 : Int32)), (3, .int (0 : Int32)), (2, .int (0 : Int32)), (1, .int v9), (0, .ref (ad 187))]) dX12_league_179 (by decide) rfl ?_
        refine aw_goto (tgt := 57) dX12_league_181 (by decide) ?_
        exact aw_sub [6, 5, 4, 3, 2, 1, 0] rfl h
set_option maxRecDepth 100000 in
set_option maxHeartbeats 4000000 in
theorem g_X12_league_115 {ad : Nat → Nat} {d : Nat} {Q : Option Value → Wm → Prop} {m : Wm} {x1 x2 x3 x4 x5 x7 : Int32} (h : (((4 : Int32) ≤ x7 → (Ct ad μX12_passes d [.ref (ad 187), .int (33 : Int32)] m (fun r m1 => ∃ v2 : Int32, r = some (.int v2) ∧ (vp_in x3 8 ∧ (Ct ad μX12_passes d [.ref (ad 187), .int (59 : Int32)] (uI m1 198 x3.toNatClampNeg (vp_nar .boolean v2)) (fun r m3 => ∃ v4 : Int32, r = some (.int v4) ∧ AW ad E0 μX12_league (d + 1) Q 57 [(0, .ref (ad 187)), (1, .int x1), (2, .int x2), (3, .int (x3 + (1 : Int32))), (4, .int x4), (5, .int (x5 + (1 : Int32))), (6, .int v4)] [] m3)))))) ∧ (¬ (4 : Int32) ≤ x7 → ((x1 ≤ x7 → (vp_in (((4 : Int32) * x3) + x7) 32 ∧ AW ad E0 μX12_league (d + 1) Q 115 [(0, .ref (ad 187)), (1, .int x1), (2, .int x2), (3, .int x3), (4, .int x4), (5, .int x5), (7, .int (x7 + (1 : Int32)))] [] (uI m 197 (((4 : Int32) * x3) + x7).toNatClampNeg (0 : Int32)))) ∧ (¬ x1 ≤ x7 → (Ct ad μX12_digit d [.ref (ad 187), .int (0 : Int32), .int (7 : Int32)] m (fun r m5 => ∃ v6 : Int32, r = some (.int v6) ∧ (vp_in (((4 : Int32) * x3) + x7) 32 ∧ AW ad E0 μX12_league (d + 1) Q 115 [(0, .ref (ad 187)), (1, .int x1), (2, .int x2), (3, .int x3), (4, .int x4), (5, .int x5), (7, .int (x7 + (1 : Int32)))] [] (uI m5 197 (((4 : Int32) * x3) + x7).toNatClampNeg v6))))))))) : AW ad E0 μX12_league (d + 1) Q 115 [(0, .ref (ad 187)), (1, .int x1), (2, .int x2), (3, .int x3), (4, .int x4), (5, .int x5), (7, .int x7)] [] m := by
  refine aw_iload (j := 6) dX12_league_115 rfl ?_
  refine aw_iconst (v := 4) dX12_league_117 (by decide) ?_
  refine aw_icmp_ge (tgt := 155) dX12_league_118 (by decide) (fun hc => ?_) (fun hc => ?_)
  · have h := h.1 hc
    refine aw_aload_n (j := 0) dX12_league_155 rfl rfl ?_
    refine aw_getfield (c := 201) (v := .ref (ad 198)) dX12_league_156 f_X12_50 ly_187 rfl rfl ?_
    refine aw_iload_n (j := 3) dX12_league_159 rfl rfl ?_
    refine aw_aload_n (j := 0) dX12_league_160 rfl rfl ?_
    refine aw_bipush (v := 33) dX12_league_161 (by decide) ?_
    refine aw_callV (rest := [.int x3, .ref (ad 198)]) [.int (33 : Int32)] dX12_league_163 ly_187 rfl k_X12_161 rfl h (Nat.le_of_ble_eq_true rfl) (fun v m1 h => ?_)
    obtain ⟨v2, rfl, h⟩ := h
    refine aw_eq (L' := [(0, .ref (ad 187)), (1, .int x1), (2, .int x2), (3, .int x3), (4, .int x4), (5, .int x5), (7, .int x7)]) (st' := [.int v2, .int x3, .ref (ad 198)]) (m' := m1) ?_ rfl rfl rfl
    obtain ⟨hi, h⟩ := h
    refine aw_zastore dX12_league_166 ly_198 hi ?_
    refine aw_iinc (j := 3) (v := x3 + (1 : Int32)) (L' := [(3, .int (x3 + (1 : Int32))), (0, .ref (ad 187)), (1, .int x1), (2, .int x2), (4, .int x4), (5, .int x5), (7, .int x7)]) dX12_league_167 rfl rfl (by decide) rfl ?_
    refine aw_iinc (j := 5) (v := x5 + (1 : Int32)) (L' := [(5, .int (x5 + (1 : Int32))), (3, .int (x3 + (1 : Int32))), (0, .ref (ad 187)), (1, .int x1), (2, .int x2), (4, .int x4), (7, .int x7)]) dX12_league_170 rfl rfl (by decide) rfl ?_
    refine aw_aload_n (j := 2) dX12_league_173 rfl rfl ?_
    refine aw_bipush (v := 59) dX12_league_174 (by decide) ?_
    refine aw_callV (rest := []) [.int (59 : Int32)] dX12_league_176 ly_187 rfl k_X12_161 rfl h (Nat.le_of_ble_eq_true rfl) (fun v m3 h => ?_)
    obtain ⟨v4, rfl, h⟩ := h
    refine aw_eq (L' := [(5, .int (x5 + (1 : Int32))), (3, .int (x3 + (1 : Int32))), (0, .ref (ad 187)), (1, .int x1), (2, .int x2), (4, .int x4), (7, .int x7)]) (st' := [.int v4]) (m' := m3) ?_ rfl rfl rfl
    refine aw_istore (L' := [(6, .int v4), (5, .int (x5 + (1 : Int32))), (3, .int (x3 + (1 : Int32))), (0, .ref (ad 187)), (1, .int x1), (2, .int x2), (4, .int x4), (7, .int x7)]) dX12_league_179 (by decide) rfl ?_
    refine aw_goto (tgt := 57) dX12_league_181 (by decide) ?_
    exact aw_sub [3, 4, 5, 2, 6, 1, 0] rfl h
  · have h := h.2 hc
    refine aw_aload_n (j := 0) dX12_league_121 rfl rfl ?_
    refine aw_getfield (c := 200) (v := .ref (ad 197)) dX12_league_122 f_X12_47 ly_187 rfl rfl ?_
    refine aw_iconst (v := 4) dX12_league_125 (by decide) ?_
    refine aw_iload_n (j := 3) dX12_league_126 rfl rfl ?_
    refine aw_imul dX12_league_127 ?_
    refine aw_iload (j := 6) dX12_league_128 rfl ?_
    refine aw_iadd dX12_league_130 ?_
    refine aw_iload (j := 6) dX12_league_131 rfl ?_
    refine aw_iload_n (j := 1) dX12_league_133 rfl rfl ?_
    refine aw_icmp_ge (tgt := 147) dX12_league_134 (by decide) (fun hc => ?_) (fun hc => ?_)
    · have h := h.1 hc
      refine aw_iconst (v := 0) dX12_league_147 (by decide) ?_
      obtain ⟨hi, h⟩ := h
      refine aw_iastore dX12_league_148 ly_197 hi ?_
      refine aw_iinc (j := 6) (v := x7 + (1 : Int32)) (L' := [(7, .int (x7 + (1 : Int32))), (0, .ref (ad 187)), (1, .int x1), (2, .int x2), (3, .int x3), (4, .int x4), (5, .int x5)]) dX12_league_149 rfl rfl (by decide) rfl ?_
      refine aw_goto (tgt := 115) dX12_league_152 (by decide) ?_
      exact aw_sub [1, 2, 3, 4, 5, 6, 0] rfl h
    · have h := h.2 hc
      refine aw_aload_n (j := 0) dX12_league_137 rfl rfl ?_
      refine aw_iconst (v := 0) dX12_league_138 (by decide) ?_
      refine aw_bipush (v := 7) dX12_league_139 (by decide) ?_
      refine aw_callV (rest := [.int (((4 : Int32) * x3) + x7), .ref (ad 197)]) [.int (0 : Int32), .int (7 : Int32)] dX12_league_141 ly_187 rfl k_X12_177 rfl h (Nat.le_of_ble_eq_true rfl) (fun v m5 h => ?_)
      obtain ⟨v6, rfl, h⟩ := h
      refine aw_eq (L' := [(0, .ref (ad 187)), (1, .int x1), (2, .int x2), (3, .int x3), (4, .int x4), (5, .int x5), (7, .int x7)]) (st' := [.int v6, .int (((4 : Int32) * x3) + x7), .ref (ad 197)]) (m' := m5) ?_ rfl rfl rfl
      refine aw_goto (tgt := 148) dX12_league_144 (by decide) ?_
      obtain ⟨hi, h⟩ := h
      refine aw_iastore dX12_league_148 ly_197 hi ?_
      refine aw_iinc (j := 6) (v := x7 + (1 : Int32)) (L' := [(7, .int (x7 + (1 : Int32))), (0, .ref (ad 187)), (1, .int x1), (2, .int x2), (3, .int x3), (4, .int x4), (5, .int x5)]) dX12_league_149 rfl rfl (by decide) rfl ?_
      refine aw_goto (tgt := 115) dX12_league_152 (by decide) ?_
      exact aw_sub [1, 2, 3, 4, 5, 6, 0] rfl h
set_option maxRecDepth 100000 in
set_option maxHeartbeats 4000000 in
theorem g_X12_league_184 {ad : Nat → Nat} {d : Nat} {Q : Option Value → Wm → Prop} {m : Wm} {x1 x2 x3 x4 x5 : Int32} (h : (((m.1 187 19) ≤ (m.1 187 21) → AW ad E0 μX12_league (d + 1) Q 203 [(0, .ref (ad 187)), (1, .int x1), (2, .int x2), (3, .int x3), (4, .int x4), (5, .int x5)] [] m) ∧ (¬ (m.1 187 19) ≤ (m.1 187 21) → (Ct ad μX12_fault d [.ref (ad 187), .int (m.1 187 21)] m (fun r m1 => r = none ∧ AW ad E0 μX12_league (d + 1) Q 203 [(0, .ref (ad 187)), (1, .int x1), (2, .int x2), (3, .int x3), (4, .int x4), (5, .int x5)] [] m1))))) : AW ad E0 μX12_league (d + 1) Q 184 [(0, .ref (ad 187)), (1, .int x1), (2, .int x2), (3, .int x3), (4, .int x4), (5, .int x5)] [] m := by
  refine aw_aload_n (j := 0) dX12_league_184 rfl rfl ?_
  refine aw_getfield (c := 0) (v := .int (m.1 187 21)) dX12_league_185 f_X12_147 ly_187 rfl rfl ?_
  refine aw_aload_n (j := 0) dX12_league_188 rfl rfl ?_
  refine aw_getfield (c := 0) (v := .int (m.1 187 19)) dX12_league_189 f_X12_141 ly_187 rfl rfl ?_
  refine aw_icmp_ge (tgt := 203) dX12_league_192 (by decide) (fun hc => ?_) (fun hc => ?_)
  · have h := h.1 hc
    exact aw_sub [0, 1, 2, 3, 4, 5] rfl h
  · have h := h.2 hc
    refine aw_aload_n (j := 0) dX12_league_195 rfl rfl ?_
    refine aw_aload_n (j := 0) dX12_league_196 rfl rfl ?_
    refine aw_getfield (c := 0) (v := .int (m.1 187 21)) dX12_league_197 f_X12_147 ly_187 rfl rfl ?_
    refine aw_callV (rest := []) [.int (m.1 187 21)] dX12_league_200 ly_187 rfl k_X12_165 rfl h (Nat.le_of_ble_eq_true rfl) (fun v m1 h => ?_)
    obtain ⟨rfl, h⟩ := h
    refine aw_eq (L' := [(0, .ref (ad 187)), (1, .int x1), (2, .int x2), (3, .int x3), (4, .int x4), (5, .int x5)]) (st' := []) (m' := m1) ?_ rfl rfl rfl
    exact aw_sub [0, 1, 2, 3, 4, 5] rfl h
set_option maxRecDepth 100000 in
set_option maxHeartbeats 4000000 in
theorem g_X12_league_203 {ad : Nat → Nat} {d : Nat} {Q : Option Value → Wm → Prop} {m : Wm} {x1 x2 x3 x4 x5 : Int32} (h : (Ct ad μX12_fine d [.ref (ad 187)] m (fun r m1 => ∃ v2 : Int32, r = some (.int v2) ∧ ((¬ v2 = 0 → ((x4 = 0 → AW ad E0 μX12_league (d + 1) Q 250 [(0, .ref (ad 187)), (3, .int x3), (4, .int x4), (5, .int x5), (7, .int x2)] [] m1) ∧ (¬ x4 = 0 → AW ad E0 μX12_league (d + 1) Q 250 [(0, .ref (ad 187)), (3, .int x3), (4, .int x4), (5, .int x5), (7, .int x2)] [] (uI (uI (uI (uI (uI m1 187 0 x1) 187 10 (0 : Int32)) 187 11 (0 : Int32)) 187 12 (0 : Int32)) 187 52 (0 : Int32))))) ∧ (v2 = 0 → Q (some (.int ((-1 : Int32) - (m1.1 187 22)))) m1))))) : AW ad E0 μX12_league (d + 1) Q 203 [(0, .ref (ad 187)), (1, .int x1), (2, .int x2), (3, .int x3), (4, .int x4), (5, .int x5)] [] m := by
  refine aw_aload_n (j := 0) dX12_league_203 rfl rfl ?_
  refine aw_callV (rest := []) [] dX12_league_204 ly_187 rfl k_X12_153 rfl h (Nat.le_of_ble_eq_true rfl) (fun v m1 h => ?_)
  obtain ⟨v2, rfl, h⟩ := h
  refine aw_eq (L' := [(0, .ref (ad 187)), (1, .int x1), (2, .int x2), (3, .int x3), (4, .int x4), (5, .int x5)]) (st' := [.int v2]) (m' := m1) ?_ rfl rfl rfl
  refine aw_if_ne (tgt := 217) dX12_league_207 (by decide) (fun hc => ?_) (fun hc => ?_)
  · have h := h.1 hc
    refine aw_iload (j := 4) dX12_league_217 rfl ?_
    refine aw_if_eq (tgt := 247) dX12_league_219 (by decide) (fun hc => ?_) (fun hc => ?_)
    · have h := h.1 hc
      refine aw_iload_n (j := 2) dX12_league_247 rfl rfl ?_
      refine aw_istore (L' := [(7, .int x2), (0, .ref (ad 187)), (1, .int x1), (2, .int x2), (3, .int x3), (4, .int x4), (5, .int x5)]) dX12_league_248 (by decide) rfl ?_
      exact aw_sub [1, 4, 5, 6, 0] rfl h
    · have h := h.2 hc
      refine aw_aload_n (j := 0) dX12_league_222 rfl rfl ?_
      refine aw_iload_n (j := 1) dX12_league_223 rfl rfl ?_
      refine aw_putI dX12_league_224 f_X12_9 cl_X12 rfl ly_187 rfl rfl rfl ?_
      refine aw_aload_n (j := 0) dX12_league_227 rfl rfl ?_
      refine aw_iconst (v := 0) dX12_league_228 (by decide) ?_
      refine aw_putI dX12_league_229 f_X12_181 cl_X12 rfl ly_187 rfl rfl rfl ?_
      refine aw_aload_n (j := 0) dX12_league_232 rfl rfl ?_
      refine aw_iconst (v := 0) dX12_league_233 (by decide) ?_
      refine aw_putI dX12_league_234 f_X12_184 cl_X12 rfl ly_187 rfl rfl rfl ?_
      refine aw_aload_n (j := 0) dX12_league_237 rfl rfl ?_
      refine aw_iconst (v := 0) dX12_league_238 (by decide) ?_
      refine aw_putI dX12_league_239 f_X12_187 cl_X12 rfl ly_187 rfl rfl rfl ?_
      refine aw_aload_n (j := 0) dX12_league_242 rfl rfl ?_
      refine aw_iconst (v := 0) dX12_league_243 (by decide) ?_
      refine aw_putI dX12_league_244 f_X12_190 cl_X12 rfl ly_187 rfl rfl rfl ?_
      refine aw_iload_n (j := 2) dX12_league_247 rfl rfl ?_
      refine aw_istore (L' := [(7, .int x2), (0, .ref (ad 187)), (1, .int x1), (2, .int x2), (3, .int x3), (4, .int x4), (5, .int x5)]) dX12_league_248 (by decide) rfl ?_
      exact aw_sub [1, 4, 5, 6, 0] rfl h
  · have h := h.2 hc
    refine aw_iconst (v := -1) dX12_league_210 (by decide) ?_
    refine aw_aload_n (j := 0) dX12_league_211 rfl rfl ?_
    refine aw_getfield (c := 0) (v := .int (m1.1 187 22)) dX12_league_212 f_X12_150 ly_187 rfl rfl ?_
    refine aw_isub dX12_league_215 ?_
    exact aw_ret (v := some (.int ((-1 : Int32) - (m1.1 187 22)))) rfl (Or.inr (Or.inl ⟨_, .int, rfl, rfl, rfl, dX12_league_216⟩)) h
set_option maxRecDepth 100000 in
set_option maxHeartbeats 4000000 in
theorem g_X12_league_250 {ad : Nat → Nat} {d : Nat} {Q : Option Value → Wm → Prop} {m : Wm} {x3 x4 x5 x7 : Int32} (h : ((x3 ≤ x7 → ((¬ x4 = 0 → AW ad E0 μX12_league (d + 1) Q 362 [(0, .ref (ad 187)), (3, .int x3), (5, .int x5)] [] (uI m 187 53 ((m.1 187 53) + (1 : Int32)))) ∧ (x4 = 0 → ((x3 ≤ (m.1 187 1) → AW ad E0 μX12_league (d + 1) Q 362 [(0, .ref (ad 187)), (3, .int x3), (5, .int x5)] [] m) ∧ (¬ x3 ≤ (m.1 187 1) → AW ad E0 μX12_league (d + 1) Q 362 [(0, .ref (ad 187)), (3, .int x3), (5, .int x5)] [] (uI m 187 53 ((m.1 187 53) + (1 : Int32)))))))) ∧ (¬ x3 ≤ x7 → AW ad E0 μX12_league (d + 1) Q 259 [(0, .ref (ad 187)), (3, .int x3), (4, .int x4), (5, .int x5), (7, .int x7), (8, .int (0 : Int32))] [] m))) : AW ad E0 μX12_league (d + 1) Q 250 [(0, .ref (ad 187)), (3, .int x3), (4, .int x4), (5, .int x5), (7, .int x7)] [] m := by
  refine aw_iload (j := 4) dX12_league_250 rfl ?_
  refine aw_iload_n (j := 1) dX12_league_252 rfl rfl ?_
  refine aw_icmp_ge (tgt := 339) dX12_league_253 (by decide) (fun hc => ?_) (fun hc => ?_)
  · have h := h.1 hc
    refine aw_iload (j := 2) dX12_league_339 rfl ?_
    refine aw_if_ne (tgt := 352) dX12_league_341 (by decide) (fun hc => ?_) (fun hc => ?_)
    · have h := h.1 hc
      refine aw_aload_n (j := 0) dX12_league_352 rfl rfl ?_
      refine aw_dup dX12_league_353 rfl ?_
      refine aw_getfield (c := 0) (v := .int (m.1 187 53)) dX12_league_354 f_X12_193 ly_187 rfl rfl ?_
      refine aw_iconst (v := 1) dX12_league_357 (by decide) ?_
      refine aw_iadd dX12_league_358 ?_
      refine aw_putI dX12_league_359 f_X12_193 cl_X12 rfl ly_187 rfl rfl rfl ?_
      exact aw_sub [0, 1, 3] rfl h
    · have h := h.2 hc
      refine aw_iload_n (j := 1) dX12_league_344 rfl rfl ?_
      refine aw_aload_n (j := 0) dX12_league_345 rfl rfl ?_
      refine aw_getfield (c := 0) (v := .int (m.1 187 1)) dX12_league_346 f_X12_116 ly_187 rfl rfl ?_
      refine aw_icmp_le (tgt := 362) dX12_league_349 (by decide) (fun hc => ?_) (fun hc => ?_)
      · have h := h.1 hc
        exact aw_sub [0, 1, 3] rfl h
      · have h := h.2 hc
        refine aw_aload_n (j := 0) dX12_league_352 rfl rfl ?_
        refine aw_dup dX12_league_353 rfl ?_
        refine aw_getfield (c := 0) (v := .int (m.1 187 53)) dX12_league_354 f_X12_193 ly_187 rfl rfl ?_
        refine aw_iconst (v := 1) dX12_league_357 (by decide) ?_
        refine aw_iadd dX12_league_358 ?_
        refine aw_putI dX12_league_359 f_X12_193 cl_X12 rfl ly_187 rfl rfl rfl ?_
        exact aw_sub [0, 1, 3] rfl h
  · have h := h.2 hc
    refine aw_iconst (v := 0) dX12_league_256 (by decide) ?_
    refine aw_istore (L' := [(8, .int (0 : Int32)), (0, .ref (ad 187)), (3, .int x3), (4, .int x4), (5, .int x5), (7, .int x7)]) dX12_league_257 (by decide) rfl ?_
    exact aw_sub [1, 2, 3, 4, 5, 0] rfl h
set_option maxRecDepth 100000 in
set_option maxHeartbeats 4000000 in
theorem g_X12_league_259 {ad : Nat → Nat} {d : Nat} {Q : Option Value → Wm → Prop} {m : Wm} {x3 x4 x5 x7 x8 : Int32} (h : (((4 : Int32) ≤ x8 → (vp_in x7 8 ∧ (vp_in x7 8 ∧ (vp_in x7 8 ∧ (vp_in x7 8 ∧ (vp_in x7 8 ∧ AW ad E0 μX12_league (d + 1) Q 250 [(0, .ref (ad 187)), (3, .int x3), (4, .int x4), (5, .int x5), (7, .int (x7 + (1 : Int32)))] [] (uI (uI (uI (uI m 189 x7.toNatClampNeg (vp_nar .boolean (m.1 198 x7.toNatClampNeg))) 190 x7.toNatClampNeg (0 : Int32)) 191 x7.toNatClampNeg (0 : Int32)) 192 x7.toNatClampNeg (0 : Int32)))))))) ∧ (¬ (4 : Int32) ≤ x8 → (vp_in (((4 : Int32) * x7) + x8) 32 ∧ (vp_in (((4 : Int32) * x7) + x8) 32 ∧ AW ad E0 μX12_league (d + 1) Q 259 [(0, .ref (ad 187)), (3, .int x3), (4, .int x4), (5, .int x5), (7, .int x7), (8, .int (x8 + (1 : Int32)))] [] (uI m 188 (((4 : Int32) * x7) + x8).toNatClampNeg (m.1 197 (((4 : Int32) * x7) + x8).toNatClampNeg))))))) : AW ad E0 μX12_league (d + 1) Q 259 [(0, .ref (ad 187)), (3, .int x3), (4, .int x4), (5, .int x5), (7, .int x7), (8, .int x8)] [] m := by
  refine aw_iload (j := 5) dX12_league_259 rfl ?_
  refine aw_iconst (v := 4) dX12_league_261 (by decide) ?_
  refine aw_icmp_ge (tgt := 295) dX12_league_262 (by decide) (fun hc => ?_) (fun hc => ?_)
  · have h := h.1 hc
    refine aw_aload_n (j := 0) dX12_league_295 rfl rfl ?_
    refine aw_getfield (c := 192) (v := .ref (ad 189)) dX12_league_296 f_X12_17 ly_187 rfl rfl ?_
    refine aw_iload (j := 4) dX12_league_299 rfl ?_
    refine aw_aload_n (j := 0) dX12_league_301 rfl rfl ?_
    refine aw_getfield (c := 201) (v := .ref (ad 198)) dX12_league_302 f_X12_50 ly_187 rfl rfl ?_
    refine aw_iload (j := 4) dX12_league_305 rfl ?_
    obtain ⟨hi, h⟩ := h
    refine aw_zaload dX12_league_307 ly_198 hi ?_
    obtain ⟨hi, h⟩ := h
    refine aw_zastore dX12_league_308 ly_189 hi ?_
    refine aw_aload_n (j := 0) dX12_league_309 rfl rfl ?_
    refine aw_getfield (c := 193) (v := .ref (ad 190)) dX12_league_310 f_X12_21 ly_187 rfl rfl ?_
    refine aw_iload (j := 4) dX12_league_313 rfl ?_
    refine aw_iconst (v := 0) dX12_league_315 (by decide) ?_
    obtain ⟨hi, h⟩ := h
    refine aw_iastore dX12_league_316 ly_190 hi ?_
    refine aw_aload_n (j := 0) dX12_league_317 rfl rfl ?_
    refine aw_getfield (c := 194) (v := .ref (ad 191)) dX12_league_318 f_X12_24 ly_187 rfl rfl ?_
    refine aw_iload (j := 4) dX12_league_321 rfl ?_
    refine aw_iconst (v := 0) dX12_league_323 (by decide) ?_
    obtain ⟨hi, h⟩ := h
    refine aw_iastore dX12_league_324 ly_191 hi ?_
    refine aw_aload_n (j := 0) dX12_league_325 rfl rfl ?_
    refine aw_getfield (c := 195) (v := .ref (ad 192)) dX12_league_326 f_X12_27 ly_187 rfl rfl ?_
    refine aw_iload (j := 4) dX12_league_329 rfl ?_
    refine aw_iconst (v := 0) dX12_league_331 (by decide) ?_
    obtain ⟨hi, h⟩ := h
    refine aw_iastore dX12_league_332 ly_192 hi ?_
    refine aw_iinc (j := 4) (v := x7 + (1 : Int32)) (L' := [(7, .int (x7 + (1 : Int32))), (0, .ref (ad 187)), (3, .int x3), (4, .int x4), (5, .int x5), (8, .int x8)]) dX12_league_333 rfl rfl (by decide) rfl ?_
    refine aw_goto (tgt := 250) dX12_league_336 (by decide) ?_
    exact aw_sub [1, 2, 3, 4, 0] rfl h
  · have h := h.2 hc
    refine aw_aload_n (j := 0) dX12_league_265 rfl rfl ?_
    refine aw_getfield (c := 191) (v := .ref (ad 188)) dX12_league_266 f_X12_13 ly_187 rfl rfl ?_
    refine aw_iconst (v := 4) dX12_league_269 (by decide) ?_
    refine aw_iload (j := 4) dX12_league_270 rfl ?_
    refine aw_imul dX12_league_272 ?_
    refine aw_iload (j := 5) dX12_league_273 rfl ?_
    refine aw_iadd dX12_league_275 ?_
    refine aw_aload_n (j := 0) dX12_league_276 rfl rfl ?_
    refine aw_getfield (c := 200) (v := .ref (ad 197)) dX12_league_277 f_X12_47 ly_187 rfl rfl ?_
    refine aw_iconst (v := 4) dX12_league_280 (by decide) ?_
    refine aw_iload (j := 4) dX12_league_281 rfl ?_
    refine aw_imul dX12_league_283 ?_
    refine aw_iload (j := 5) dX12_league_284 rfl ?_
    refine aw_iadd dX12_league_286 ?_
    obtain ⟨hi, h⟩ := h
    refine aw_iaload dX12_league_287 ly_197 hi ?_
    obtain ⟨hi, h⟩ := h
    refine aw_iastore dX12_league_288 ly_188 hi ?_
    refine aw_iinc (j := 5) (v := x8 + (1 : Int32)) (L' := [(8, .int (x8 + (1 : Int32))), (0, .ref (ad 187)), (3, .int x3), (4, .int x4), (5, .int x5), (7, .int x7)]) dX12_league_289 rfl rfl (by decide) rfl ?_
    refine aw_goto (tgt := 259) dX12_league_292 (by decide) ?_
    exact aw_sub [1, 2, 3, 4, 5, 0] rfl h
set_option maxRecDepth 100000 in
set_option maxHeartbeats 4000000 in
theorem g_X12_league_362 {ad : Nat → Nat} {d : Nat} {Q : Option Value → Wm → Prop} {m : Wm} {x3 x5 : Int32} (h : Q (some (.int x5)) (uI (uI m 187 1 x3) 187 30 (0 : Int32))) : AW ad E0 μX12_league (d + 1) Q 362 [(0, .ref (ad 187)), (3, .int x3), (5, .int x5)] [] m := by
  refine aw_aload_n (j := 0) dX12_league_362 rfl rfl ?_
  refine aw_iload_n (j := 1) dX12_league_363 rfl rfl ?_
  refine aw_putI dX12_league_364 f_X12_116 cl_X12 rfl ly_187 rfl rfl rfl ?_
  refine aw_aload_n (j := 0) dX12_league_367 rfl rfl ?_
  refine aw_iconst (v := 0) dX12_league_368 (by decide) ?_
  refine aw_putI dX12_league_369 f_X12_196 cl_X12 rfl ly_187 rfl rfl rfl ?_
  refine aw_iload (j := 2) dX12_league_372 rfl ?_
  exact aw_ret (v := some (.int x5)) rfl (Or.inr (Or.inl ⟨_, .int, rfl, rfl, rfl, dX12_league_374⟩)) h
set_option maxRecDepth 100000 in
set_option maxHeartbeats 4000000 in
theorem v_X12_plan {ad : Nat → Nat} {d : Nat} {Q : Option Value → Wm → Prop} {m : Wm} (h : (Ct ad μX12_begin d [.ref (ad 187), .ref (ad 195), .int ((uI m 187 17 (0 : Int32)).1 187 14), .int (76 : Int32)] (uI m 187 17 (0 : Int32)) (fun r m1 => r = none ∧ ((((uI m1 187 14 (0 : Int32)).1 187 19) ≤ 0 → AW ad E0 μX12_plan (d + 1) Q 41 [(0, .ref (ad 187)), (1, .int (0 : Int32)), (2, .int (0 : Int32)), (3, .int (0 : Int32))] [] (uI m1 187 14 (0 : Int32))) ∧ (¬ ((uI m1 187 14 (0 : Int32)).1 187 19) ≤ 0 → AW ad E0 μX12_plan (d + 1) Q 41 [(0, .ref (ad 187)), (1, .int (0 : Int32)), (2, .int (0 : Int32)), (3, .int (1 : Int32))] [] (uI m1 187 14 (0 : Int32))))))) : Ct ad μX12_plan (d + 1) [.ref (ad 187)] m Q := by
  refine Ct.of (by decide +kernel) rfl (Nat.le_of_ble_eq_true rfl) ?_
  refine aw_eq (L' := [(0, .ref (ad 187))]) ?_ rfl rfl rfl
  refine aw_aload_n (j := 0) dX12_plan_0 rfl rfl ?_
  refine aw_iconst (v := 0) dX12_plan_1 (by decide) ?_
  refine aw_putI dX12_plan_2 f_X12_110 cl_X12 rfl ly_187 rfl rfl rfl ?_
  refine aw_aload_n (j := 0) dX12_plan_5 rfl rfl ?_
  refine aw_aload_n (j := 0) dX12_plan_6 rfl rfl ?_
  refine aw_getfield (c := 198) (v := .ref (ad 195)) dX12_plan_7 f_X12_39 ly_187 rfl rfl ?_
  refine aw_aload_n (j := 0) dX12_plan_10 rfl rfl ?_
  refine aw_getfield (c := 0) (v := .int ((uI m 187 17 (0 : Int32)).1 187 14)) dX12_plan_11 f_X12_135 ly_187 rfl rfl ?_
  refine aw_bipush (v := 76) dX12_plan_14 (by decide) ?_
  refine aw_callV (rest := []) [.ref (ad 195), .int ((uI m 187 17 (0 : Int32)).1 187 14), .int (76 : Int32)] dX12_plan_16 ly_187 rfl k_X12_173 rfl h (Nat.le_of_ble_eq_true rfl) (fun v m1 h => ?_)
  obtain ⟨rfl, h⟩ := h
  refine aw_eq (L' := [(0, .ref (ad 187))]) (st' := []) (m' := m1) ?_ rfl rfl rfl
  refine aw_aload_n (j := 0) dX12_plan_19 rfl rfl ?_
  refine aw_iconst (v := 0) dX12_plan_20 (by decide) ?_
  refine aw_putI dX12_plan_21 f_X12_135 cl_X12 rfl ly_187 rfl rfl rfl ?_
  refine aw_iconst (v := 0) dX12_plan_24 (by decide) ?_
  refine aw_istore_n (L' := [(1, .int (0 : Int32)), (0, .ref (ad 187))]) dX12_plan_25 rfl (by decide) rfl ?_
  refine aw_iconst (v := 0) dX12_plan_26 (by decide) ?_
  refine aw_istore_n (L' := [(2, .int (0 : Int32)), (1, .int (0 : Int32)), (0, .ref (ad 187))]) dX12_plan_27 rfl (by decide) rfl ?_
  refine aw_aload_n (j := 2) dX12_plan_28 rfl rfl ?_
  refine aw_getfield (c := 0) (v := .int ((uI m1 187 14 (0 : Int32)).1 187 19)) dX12_plan_29 f_X12_141 ly_187 rfl rfl ?_
  refine aw_if_le (tgt := 39) dX12_plan_32 (by decide) (fun hc => ?_) (fun hc => ?_)
  · have h := h.1 hc
    refine aw_iconst (v := 0) dX12_plan_39 (by decide) ?_
    refine aw_istore_n (L' := [(3, .int (0 : Int32)), (2, .int (0 : Int32)), (1, .int (0 : Int32)), (0, .ref (ad 187))]) dX12_plan_40 rfl (by decide) rfl ?_
    exact aw_sub [3, 2, 1, 0] rfl h
  · have h := h.2 hc
    refine aw_iconst (v := 1) dX12_plan_35 (by decide) ?_
    refine aw_goto (tgt := 40) dX12_plan_36 (by decide) ?_
    refine aw_istore_n (L' := [(3, .int (1 : Int32)), (2, .int (0 : Int32)), (1, .int (0 : Int32)), (0, .ref (ad 187))]) dX12_plan_40 rfl (by decide) rfl ?_
    exact aw_sub [3, 2, 1, 0] rfl h
set_option maxRecDepth 100000 in
set_option maxHeartbeats 4000000 in
theorem g_X12_plan_41 {ad : Nat → Nat} {d : Nat} {Q : Option Value → Wm → Prop} {m : Wm} {x1 x2 x3 : Int32} (h : ((x3 = 0 → AW ad E0 μX12_plan (d + 1) Q 238 [(0, .ref (ad 187)), (1, .int x1), (2, .int x2)] [] m) ∧ (¬ x3 = 0 → (Ct ad μX12_fine d [.ref (ad 187)] m (fun r m1 => ∃ v2 : Int32, r = some (.int v2) ∧ ((v2 = 0 → AW ad E0 μX12_plan (d + 1) Q 238 [(0, .ref (ad 187)), (1, .int x1), (2, .int x2)] [] m1) ∧ (¬ v2 = 0 → ((¬ x1 = (12 : Int32) → AW ad E0 μX12_plan (d + 1) Q 72 [(0, .ref (ad 187)), (1, .int x1), (2, .int x2), (4, .int (0 : Int32)), (5, .int (1 : Int32))] [] m1) ∧ (x1 = (12 : Int32) → (Ct ad μX12_fault d [.ref (ad 187), .int (m1.1 187 21)] m1 (fun r m3 => r = none ∧ AW ad E0 μX12_plan (d + 1) Q 72 [(0, .ref (ad 187)), (1, .int x1), (2, .int x2), (4, .int (0 : Int32)), (5, .int (1 : Int32))] [] m3))))))))))) : AW ad E0 μX12_plan (d + 1) Q 41 [(0, .ref (ad 187)), (1, .int x1), (2, .int x2), (3, .int x3)] [] m := by
  refine aw_iload_n (j := 3) dX12_plan_41 rfl rfl ?_
  refine aw_if_eq (tgt := 238) dX12_plan_42 (by decide) (fun hc => ?_) (fun hc => ?_)
  · have h := h.1 hc
    exact aw_sub [0, 1, 2] rfl h
  · have h := h.2 hc
    refine aw_aload_n (j := 0) dX12_plan_45 rfl rfl ?_
    refine aw_callV (rest := []) [] dX12_plan_46 ly_187 rfl k_X12_153 rfl h (Nat.le_of_ble_eq_true rfl) (fun v m1 h => ?_)
    obtain ⟨v2, rfl, h⟩ := h
    refine aw_eq (L' := [(0, .ref (ad 187)), (1, .int x1), (2, .int x2), (3, .int x3)]) (st' := [.int v2]) (m' := m1) ?_ rfl rfl rfl
    refine aw_if_eq (tgt := 238) dX12_plan_49 (by decide) (fun hc => ?_) (fun hc => ?_)
    · have h := h.1 hc
      exact aw_sub [0, 1, 2] rfl h
    · have h := h.2 hc
      refine aw_iload_n (j := 1) dX12_plan_52 rfl rfl ?_
      refine aw_bipush (v := 12) dX12_plan_53 (by decide) ?_
      refine aw_icmp_ne (tgt := 66) dX12_plan_55 (by decide) (fun hc => ?_) (fun hc => ?_)
      · have h := h.1 hc
        refine aw_iconst (v := 0) dX12_plan_66 (by decide) ?_
        refine aw_istore (L' := [(4, .int (0 : Int32)), (0, .ref (ad 187)), (1, .int x1), (2, .int x2), (3, .int x3)]) dX12_plan_67 (by decide) rfl ?_
        refine aw_iconst (v := 1) dX12_plan_69 (by decide) ?_
        refine aw_istore (L' := [(5, .int (1 : Int32)), (4, .int (0 : Int32)), (0, .ref (ad 187)), (1, .int x1), (2, .int x2), (3, .int x3)]) dX12_plan_70 (by decide) rfl ?_
        exact aw_sub [2, 3, 4, 1, 0] rfl h
      · have h := h.2 hc
        refine aw_aload_n (j := 0) dX12_plan_58 rfl rfl ?_
        refine aw_aload_n (j := 0) dX12_plan_59 rfl rfl ?_
        refine aw_getfield (c := 0) (v := .int (m1.1 187 21)) dX12_plan_60 f_X12_147 ly_187 rfl rfl ?_
        refine aw_callV (rest := []) [.int (m1.1 187 21)] dX12_plan_63 ly_187 rfl k_X12_165 rfl h (Nat.le_of_ble_eq_true rfl) (fun v m3 h => ?_)
        obtain ⟨rfl, h⟩ := h
        refine aw_eq (L' := [(0, .ref (ad 187)), (1, .int x1), (2, .int x2), (3, .int x3)]) (st' := []) (m' := m3) ?_ rfl rfl rfl
        refine aw_iconst (v := 0) dX12_plan_66 (by decide) ?_
        refine aw_istore (L' := [(4, .int (0 : Int32)), (0, .ref (ad 187)), (1, .int x1), (2, .int x2), (3, .int x3)]) dX12_plan_67 (by decide) rfl ?_
        refine aw_iconst (v := 1) dX12_plan_69 (by decide) ?_
        refine aw_istore (L' := [(5, .int (1 : Int32)), (4, .int (0 : Int32)), (0, .ref (ad 187)), (1, .int x1), (2, .int x2), (3, .int x3)]) dX12_plan_70 (by decide) rfl ?_
        exact aw_sub [2, 3, 4, 1, 0] rfl h
set_option maxRecDepth 100000 in
set_option maxHeartbeats 4000000 in
theorem g_X12_plan_72 {ad : Nat → Nat} {d : Nat} {Q : Option Value → Wm → Prop} {m : Wm} {x1 x2 x4 x5 : Int32} (h : ((x5 = 0 → (Ct ad μX12_passes d [.ref (ad 187), .int (59 : Int32)] m (fun r m1 => ∃ v2 : Int32, r = some (.int v2) ∧ AW ad E0 μX12_plan (d + 1) Q 41 [(0, .ref (ad 187)), (1, .int (x1 + (1 : Int32))), (2, .int x2), (3, .int v2)] [] m1))) ∧ (¬ x5 = 0 → (Ct ad μX12_fine d [.ref (ad 187)] m (fun r m3 => ∃ v4 : Int32, r = some (.int v4) ∧ ((v4 = 0 → (Ct ad μX12_passes d [.ref (ad 187), .int (59 : Int32)] m3 (fun r m5 => ∃ v6 : Int32, r = some (.int v6) ∧ AW ad E0 μX12_plan (d + 1) Q 41 [(0, .ref (ad 187)), (1, .int (x1 + (1 : Int32))), (2, .int x2), (3, .int v6)] [] m5))) ∧ (¬ v4 = 0 → (Ct ad μX12_side d [.ref (ad 187), .int x4] m3 (fun r m7 => ∃ v8 : Int32, r = some (.int v8) ∧ (Ct ad μX12_passes d [.ref (ad 187), .int (33 : Int32)] m7 (fun r m9 => ∃ v10 : Int32, r = some (.int v10) ∧ (Ct ad μX12_need d [.ref (ad 187), .int (45 : Int32)] m9 (fun r m11 => r = none ∧ (Ct ad μX12_side d [.ref (ad 187), .int (x4 ||| ((1 : Int32) <<< (v8 &&& 31)))] m11 (fun r m12 => ∃ v13 : Int32, r = some (.int v13) ∧ (Ct ad μX12_passes d [.ref (ad 187), .int (33 : Int32)] m12 (fun r m14 => ∃ v15 : Int32, r = some (.int v15) ∧ (Ct ad μX12_fine d [.ref (ad 187)] m14 (fun r m16 => ∃ v17 : Int32, r = some (.int v17) ∧ ((v17 = 0 → (Ct ad μX12_passes d [.ref (ad 187), .int (44 : Int32)] m16 (fun r m18 => ∃ v19 : Int32, r = some (.int v19) ∧ AW ad E0 μX12_plan (d + 1) Q 72 [(0, .ref (ad 187)), (1, .int x1), (2, .int x2), (4, .int ((x4 ||| ((1 : Int32) <<< (v8 &&& 31))) ||| ((1 : Int32) <<< (v13 &&& 31)))), (5, .int v19)] [] m18))) ∧ (¬ v17 = 0 → (vp_in ((4 : Int32) * x2) 160 ∧ (vp_in (((4 : Int32) * x2) + (1 : Int32)) 160 ∧ ((v10 = 0 → ((v15 = 0 → AW ad E0 μX12_plan (d + 1) Q 198 [(0, .ref (ad 187)), (1, .int x1), (2, .int x2), (4, .int ((x4 ||| ((1 : Int32) <<< (v8 &&& 31))) ||| ((1 : Int32) <<< (v13 &&& 31))))] [.int (0 : Int32), .int (0 : Int32), .int (((4 : Int32) * x2) + (2 : Int32)), .ref (ad 199)] (uI (uI m16 199 ((4 : Int32) * x2).toNatClampNeg v8) 199 (((4 : Int32) * x2) + (1 : Int32)).toNatClampNeg v13)) ∧ (¬ v15 = 0 → AW ad E0 μX12_plan (d + 1) Q 198 [(0, .ref (ad 187)), (1, .int x1), (2, .int x2), (4, .int ((x4 ||| ((1 : Int32) <<< (v8 &&& 31))) ||| ((1 : Int32) <<< (v13 &&& 31))))] [.int (2 : Int32), .int (0 : Int32), .int (((4 : Int32) * x2) + (2 : Int32)), .ref (ad 199)] (uI (uI m16 199 ((4 : Int32) * x2).toNatClampNeg v8) 199 (((4 : Int32) * x2) + (1 : Int32)).toNatClampNeg v13)))) ∧ (¬ v10 = 0 → ((v15 = 0 → AW ad E0 μX12_plan (d + 1) Q 198 [(0, .ref (ad 187)), (1, .int x1), (2, .int x2), (4, .int ((x4 ||| ((1 : Int32) <<< (v8 &&& 31))) ||| ((1 : Int32) <<< (v13 &&& 31))))] [.int (0 : Int32), .int (1 : Int32), .int (((4 : Int32) * x2) + (2 : Int32)), .ref (ad 199)] (uI (uI m16 199 ((4 : Int32) * x2).toNatClampNeg v8) 199 (((4 : Int32) * x2) + (1 : Int32)).toNatClampNeg v13)) ∧ (¬ v15 = 0 → AW ad E0 μX12_plan (d + 1) Q 198 [(0, .ref (ad 187)), (1, .int x1), (2, .int x2), (4, .int ((x4 ||| ((1 : Int32) <<< (v8 &&& 31))) ||| ((1 : Int32) <<< (v13 &&& 31))))] [.int (2 : Int32), .int (1 : Int32), .int (((4 : Int32) * x2) + (2 : Int32)), .ref (ad 199)] (uI (uI m16 199 ((4 : Int32) * x2).toNatClampNeg v8) 199 (((4 : Int32) * x2) + (1 : Int32)).toNatClampNeg v13)))))))))))))))))))))))))))) : AW ad E0 μX12_plan (d + 1) Q 72 [(0, .ref (ad 187)), (1, .int x1), (2, .int x2), (4, .int x4), (5, .int x5)] [] m := by
  refine aw_iload (j := 4) dX12_plan_72 rfl ?_
  refine aw_if_eq (tgt := 225) dX12_plan_74 (by decide) (fun hc => ?_) (fun hc => ?_)
  · have h := h.1 hc
    refine aw_iinc (j := 1) (v := x1 + (1 : Int32)) (L' := [(1, .int (x1 + (1 : Int32))), (0, .ref (ad 187)), (2, .int x2), (4, .int x4), (5, .int x5)]) dX12_plan_225 rfl rfl (by decide) rfl ?_
    refine aw_aload_n (j := 1) dX12_plan_228 rfl rfl ?_
    refine aw_bipush (v := 59) dX12_plan_229 (by decide) ?_
    refine aw_callV (rest := []) [.int (59 : Int32)] dX12_plan_231 ly_187 rfl k_X12_161 rfl h (Nat.le_of_ble_eq_true rfl) (fun v m1 h => ?_)
    obtain ⟨v2, rfl, h⟩ := h
    refine aw_eq (L' := [(1, .int (x1 + (1 : Int32))), (0, .ref (ad 187)), (2, .int x2), (4, .int x4), (5, .int x5)]) (st' := [.int v2]) (m' := m1) ?_ rfl rfl rfl
    refine aw_istore_n (L' := [(3, .int v2), (1, .int (x1 + (1 : Int32))), (0, .ref (ad 187)), (2, .int x2), (4, .int x4), (5, .int x5)]) dX12_plan_234 rfl (by decide) rfl ?_
    refine aw_goto (tgt := 41) dX12_plan_235 (by decide) ?_
    exact aw_sub [2, 1, 3, 0] rfl h
  · have h := h.2 hc
    refine aw_aload_n (j := 0) dX12_plan_77 rfl rfl ?_
    refine aw_callV (rest := []) [] dX12_plan_78 ly_187 rfl k_X12_153 rfl h (Nat.le_of_ble_eq_true rfl) (fun v m3 h => ?_)
    obtain ⟨v4, rfl, h⟩ := h
    refine aw_eq (L' := [(0, .ref (ad 187)), (1, .int x1), (2, .int x2), (4, .int x4), (5, .int x5)]) (st' := [.int v4]) (m' := m3) ?_ rfl rfl rfl
    refine aw_if_eq (tgt := 225) dX12_plan_81 (by decide) (fun hc => ?_) (fun hc => ?_)
    · have h := h.1 hc
      refine aw_iinc (j := 1) (v := x1 + (1 : Int32)) (L' := [(1, .int (x1 + (1 : Int32))), (0, .ref (ad 187)), (2, .int x2), (4, .int x4), (5, .int x5)]) dX12_plan_225 rfl rfl (by decide) rfl ?_
      refine aw_aload_n (j := 1) dX12_plan_228 rfl rfl ?_
      refine aw_bipush (v := 59) dX12_plan_229 (by decide) ?_
      refine aw_callV (rest := []) [.int (59 : Int32)] dX12_plan_231 ly_187 rfl k_X12_161 rfl h (Nat.le_of_ble_eq_true rfl) (fun v m5 h => ?_)
      obtain ⟨v6, rfl, h⟩ := h
      refine aw_eq (L' := [(1, .int (x1 + (1 : Int32))), (0, .ref (ad 187)), (2, .int x2), (4, .int x4), (5, .int x5)]) (st' := [.int v6]) (m' := m5) ?_ rfl rfl rfl
      refine aw_istore_n (L' := [(3, .int v6), (1, .int (x1 + (1 : Int32))), (0, .ref (ad 187)), (2, .int x2), (4, .int x4), (5, .int x5)]) dX12_plan_234 rfl (by decide) rfl ?_
      refine aw_goto (tgt := 41) dX12_plan_235 (by decide) ?_
      exact aw_sub [2, 1, 3, 0] rfl h
    · have h := h.2 hc
      refine aw_aload_n (j := 0) dX12_plan_84 rfl rfl ?_
      refine aw_iload (j := 3) dX12_plan_85 rfl ?_
      refine aw_callV (rest := []) [.int x4] dX12_plan_87 ly_187 rfl k_X12_199 rfl h (Nat.le_of_ble_eq_true rfl) (fun v m7 h => ?_)
      obtain ⟨v8, rfl, h⟩ := h
      refine aw_eq (L' := [(0, .ref (ad 187)), (1, .int x1), (2, .int x2), (4, .int x4), (5, .int x5)]) (st' := [.int v8]) (m' := m7) ?_ rfl rfl rfl
      refine aw_istore (L' := [(6, .int v8), (0, .ref (ad 187)), (1, .int x1), (2, .int x2), (4, .int x4), (5, .int x5)]) dX12_plan_90 (by decide) rfl ?_
      refine aw_aload_n (j := 1) dX12_plan_92 rfl rfl ?_
      refine aw_bipush (v := 33) dX12_plan_93 (by decide) ?_
      refine aw_callV (rest := []) [.int (33 : Int32)] dX12_plan_95 ly_187 rfl k_X12_161 rfl h (Nat.le_of_ble_eq_true rfl) (fun v m9 h => ?_)
      obtain ⟨v10, rfl, h⟩ := h
      refine aw_eq (L' := [(6, .int v8), (0, .ref (ad 187)), (1, .int x1), (2, .int x2), (4, .int x4), (5, .int x5)]) (st' := [.int v10]) (m' := m9) ?_ rfl rfl rfl
      refine aw_istore (L' := [(7, .int v10), (6, .int v8), (0, .ref (ad 187)), (1, .int x1), (2, .int x2), (4, .int x4), (5, .int x5)]) dX12_plan_98 (by decide) rfl ?_
      refine aw_iload (j := 5) dX12_plan_100 rfl ?_
      refine aw_iconst (v := 1) dX12_plan_102 (by decide) ?_
      refine aw_iload (j := 1) dX12_plan_103 rfl ?_
      refine aw_ishl dX12_plan_105 ?_
      refine aw_ior dX12_plan_106 ?_
      refine aw_istore (L' := [(4, .int (x4 ||| ((1 : Int32) <<< (v8 &&& 31)))), (7, .int v10), (6, .int v8), (0, .ref (ad 187)), (1, .int x1), (2, .int x2), (5, .int x5)]) dX12_plan_107 (by decide) rfl ?_
      refine aw_aload_n (j := 3) dX12_plan_109 rfl rfl ?_
      refine aw_bipush (v := 45) dX12_plan_110 (by decide) ?_
      refine aw_callV (rest := []) [.int (45 : Int32)] dX12_plan_112 ly_187 rfl k_X12_203 rfl h (Nat.le_of_ble_eq_true rfl) (fun v m11 h => ?_)
      obtain ⟨rfl, h⟩ := h
      refine aw_eq (L' := [(4, .int (x4 ||| ((1 : Int32) <<< (v8 &&& 31)))), (7, .int v10), (6, .int v8), (0, .ref (ad 187)), (1, .int x1), (2, .int x2), (5, .int x5)]) (st' := []) (m' := m11) ?_ rfl rfl rfl
      refine aw_aload_n (j := 3) dX12_plan_115 rfl rfl ?_
      refine aw_iload (j := 0) dX12_plan_116 rfl ?_
      refine aw_callV (rest := []) [.int (x4 ||| ((1 : Int32) <<< (v8 &&& 31)))] dX12_plan_118 ly_187 rfl k_X12_199 rfl h (Nat.le_of_ble_eq_true rfl) (fun v m12 h => ?_)
      obtain ⟨v13, rfl, h⟩ := h
      refine aw_eq (L' := [(4, .int (x4 ||| ((1 : Int32) <<< (v8 &&& 31)))), (7, .int v10), (6, .int v8), (0, .ref (ad 187)), (1, .int x1), (2, .int x2), (5, .int x5)]) (st' := [.int v13]) (m' := m12) ?_ rfl rfl rfl
      refine aw_istore (L' := [(8, .int v13), (4, .int (x4 ||| ((1 : Int32) <<< (v8 &&& 31)))), (7, .int v10), (6, .int v8), (0, .ref (ad 187)), (1, .int x1), (2, .int x2), (5, .int x5)]) dX12_plan_121 (by decide) rfl ?_
      refine aw_aload_n (j := 4) dX12_plan_123 rfl rfl ?_
      refine aw_bipush (v := 33) dX12_plan_124 (by decide) ?_
      refine aw_callV (rest := []) [.int (33 : Int32)] dX12_plan_126 ly_187 rfl k_X12_161 rfl h (Nat.le_of_ble_eq_true rfl) (fun v m14 h => ?_)
      obtain ⟨v15, rfl, h⟩ := h
      refine aw_eq (L' := [(8, .int v13), (4, .int (x4 ||| ((1 : Int32) <<< (v8 &&& 31)))), (7, .int v10), (6, .int v8), (0, .ref (ad 187)), (1, .int x1), (2, .int x2), (5, .int x5)]) (st' := [.int v15]) (m' := m14) ?_ rfl rfl rfl
      refine aw_istore (L' := [(9, .int v15), (8, .int v13), (4, .int (x4 ||| ((1 : Int32) <<< (v8 &&& 31)))), (7, .int v10), (6, .int v8), (0, .ref (ad 187)), (1, .int x1), (2, .int x2), (5, .int x5)]) dX12_plan_129 (by decide) rfl ?_
      refine aw_iload (j := 2) dX12_plan_131 rfl ?_
      refine aw_iconst (v := 1) dX12_plan_133 (by decide) ?_
      refine aw_iload (j := 1) dX12_plan_134 rfl ?_
      refine aw_ishl dX12_plan_136 ?_
      refine aw_ior dX12_plan_137 ?_
      refine aw_istore (L' := [(4, .int ((x4 ||| ((1 : Int32) <<< (v8 &&& 31))) ||| ((1 : Int32) <<< (v13 &&& 31)))), (9, .int v15), (8, .int v13), (7, .int v10), (6, .int v8), (0, .ref (ad 187)), (1, .int x1), (2, .int x2), (5, .int x5)]) dX12_plan_138 (by decide) rfl ?_
      refine aw_aload_n (j := 5) dX12_plan_140 rfl rfl ?_
      refine aw_callV (rest := []) [] dX12_plan_141 ly_187 rfl k_X12_153 rfl h (Nat.le_of_ble_eq_true rfl) (fun v m16 h => ?_)
      obtain ⟨v17, rfl, h⟩ := h
      refine aw_eq (L' := [(4, .int ((x4 ||| ((1 : Int32) <<< (v8 &&& 31))) ||| ((1 : Int32) <<< (v13 &&& 31)))), (9, .int v15), (8, .int v13), (7, .int v10), (6, .int v8), (0, .ref (ad 187)), (1, .int x1), (2, .int x2), (5, .int x5)]) (st' := [.int v17]) (m' := m16) ?_ rfl rfl rfl
      refine aw_if_eq (tgt := 214) dX12_plan_144 (by decide) (fun hc => ?_) (fun hc => ?_)
      · have h := h.1 hc
        refine aw_aload_n (j := 5) dX12_plan_214 rfl rfl ?_
        refine aw_bipush (v := 44) dX12_plan_215 (by decide) ?_
        refine aw_callV (rest := []) [.int (44 : Int32)] dX12_plan_217 ly_187 rfl k_X12_161 rfl h (Nat.le_of_ble_eq_true rfl) (fun v m18 h => ?_)
        obtain ⟨v19, rfl, h⟩ := h
        refine aw_eq (L' := [(4, .int ((x4 ||| ((1 : Int32) <<< (v8 &&& 31))) ||| ((1 : Int32) <<< (v13 &&& 31)))), (9, .int v15), (8, .int v13), (7, .int v10), (6, .int v8), (0, .ref (ad 187)), (1, .int x1), (2, .int x2), (5, .int x5)]) (st' := [.int v19]) (m' := m18) ?_ rfl rfl rfl
        refine aw_istore (L' := [(5, .int v19), (4, .int ((x4 ||| ((1 : Int32) <<< (v8 &&& 31))) ||| ((1 : Int32) <<< (v13 &&& 31)))), (9, .int v15), (8, .int v13), (7, .int v10), (6, .int v8), (0, .ref (ad 187)), (1, .int x1), (2, .int x2)]) dX12_plan_220 (by decide) rfl ?_
        refine aw_goto (tgt := 72) dX12_plan_222 (by decide) ?_
        exact aw_sub [6, 7, 8, 1, 0] rfl h
      · have h := h.2 hc
        refine aw_aload_n (j := 5) dX12_plan_147 rfl rfl ?_
        refine aw_getfield (c := 202) (v := .ref (ad 199)) dX12_plan_148 f_X12_53 ly_187 rfl rfl ?_
        refine aw_iconst (v := 4) dX12_plan_151 (by decide) ?_
        refine aw_iload_n (j := 7) dX12_plan_152 rfl rfl ?_
        refine aw_imul dX12_plan_153 ?_
        refine aw_iload (j := 4) dX12_plan_154 rfl ?_
        obtain ⟨hi, h⟩ := h
        refine aw_iastore dX12_plan_156 ly_199 hi ?_
        refine aw_aload_n (j := 5) dX12_plan_157 rfl rfl ?_
        refine aw_getfield (c := 202) (v := .ref (ad 199)) dX12_plan_158 f_X12_53 ly_187 rfl rfl ?_
        refine aw_iconst (v := 4) dX12_plan_161 (by decide) ?_
        refine aw_iload_n (j := 7) dX12_plan_162 rfl rfl ?_
        refine aw_imul dX12_plan_163 ?_
        refine aw_iconst (v := 1) dX12_plan_164 (by decide) ?_
        refine aw_iadd dX12_plan_165 ?_
        refine aw_iload (j := 2) dX12_plan_166 rfl ?_
        obtain ⟨hi, h⟩ := h
        refine aw_iastore dX12_plan_168 ly_199 hi ?_
        refine aw_aload_n (j := 5) dX12_plan_169 rfl rfl ?_
        refine aw_getfield (c := 202) (v := .ref (ad 199)) dX12_plan_170 f_X12_53 ly_187 rfl rfl ?_
        refine aw_iconst (v := 4) dX12_plan_173 (by decide) ?_
        refine aw_iload_n (j := 7) dX12_plan_174 rfl rfl ?_
        refine aw_imul dX12_plan_175 ?_
        refine aw_iconst (v := 2) dX12_plan_176 (by decide) ?_
        refine aw_iadd dX12_plan_177 ?_
        refine aw_iload (j := 3) dX12_plan_178 rfl ?_
        refine aw_if_eq (tgt := 187) dX12_plan_180 (by decide) (fun hc => ?_) (fun hc => ?_)
        · have h := h.1 hc
          refine aw_iconst (v := 0) dX12_plan_187 (by decide) ?_
          refine aw_iload (j := 1) dX12_plan_188 rfl ?_
          refine aw_if_eq (tgt := 197) dX12_plan_190 (by decide) (fun hc => ?_) (fun hc => ?_)
          · have h := h.1 hc
            refine aw_iconst (v := 0) dX12_plan_197 (by decide) ?_
            exact aw_sub [5, 6, 7, 0] rfl h
          · have h := h.2 hc
            refine aw_iconst (v := 2) dX12_plan_193 (by decide) ?_
            refine aw_goto (tgt := 198) dX12_plan_194 (by decide) ?_
            exact aw_sub [5, 6, 7, 0] rfl h
        · have h := h.2 hc
          refine aw_iconst (v := 1) dX12_plan_183 (by decide) ?_
          refine aw_goto (tgt := 188) dX12_plan_184 (by decide) ?_
          refine aw_iload (j := 1) dX12_plan_188 rfl ?_
          refine aw_if_eq (tgt := 197) dX12_plan_190 (by decide) (fun hc => ?_) (fun hc => ?_)
          · have h := h.1 hc
            refine aw_iconst (v := 0) dX12_plan_197 (by decide) ?_
            exact aw_sub [5, 6, 7, 0] rfl h
          · have h := h.2 hc
            refine aw_iconst (v := 2) dX12_plan_193 (by decide) ?_
            refine aw_goto (tgt := 198) dX12_plan_194 (by decide) ?_
            exact aw_sub [5, 6, 7, 0] rfl h
set_option maxRecDepth 100000 in
set_option maxHeartbeats 4000000 in
theorem g_X12_plan_198 {ad : Nat → Nat} {d : Nat} {Q : Option Value → Wm → Prop} {m : Wm} {e3 ne3 : Nat} {x1 x2 x4 s0 s1 s2 : Int32} (he3 : LAY[e3]? = some (.inr (0, ne3))) (h : (vp_in s2 ne3 ∧ (vp_in (((4 : Int32) * x2) + (3 : Int32)) 160 ∧ (Ct ad μX12_passes d [.ref (ad 187), .int (44 : Int32)] (uI (uI m e3 s2.toNatClampNeg (s1 + s0)) 199 (((4 : Int32) * x2) + (3 : Int32)).toNatClampNeg x1) (fun r m1 => ∃ v2 : Int32, r = some (.int v2) ∧ AW ad E0 μX12_plan (d + 1) Q 72 [(0, .ref (ad 187)), (1, .int x1), (2, .int (x2 + (1 : Int32))), (4, .int x4), (5, .int v2)] [] m1))))) : AW ad E0 μX12_plan (d + 1) Q 198 [(0, .ref (ad 187)), (1, .int x1), (2, .int x2), (4, .int x4)] [.int s0, .int s1, .int s2, .ref (ad e3)] m := by
  refine aw_iadd dX12_plan_198 ?_
  obtain ⟨hi, h⟩ := h
  refine aw_iastore dX12_plan_199 he3 hi ?_
  refine aw_aload_n (j := 0) dX12_plan_200 rfl rfl ?_
  refine aw_getfield (c := 202) (v := .ref (ad 199)) dX12_plan_201 f_X12_53 ly_187 rfl rfl ?_
  refine aw_iconst (v := 4) dX12_plan_204 (by decide) ?_
  refine aw_iload_n (j := 2) dX12_plan_205 rfl rfl ?_
  refine aw_imul dX12_plan_206 ?_
  refine aw_iconst (v := 3) dX12_plan_207 (by decide) ?_
  refine aw_iadd dX12_plan_208 ?_
  refine aw_iload_n (j := 1) dX12_plan_209 rfl rfl ?_
  obtain ⟨hi, h⟩ := h
  refine aw_iastore dX12_plan_210 ly_199 hi ?_
  refine aw_iinc (j := 2) (v := x2 + (1 : Int32)) (L' := [(2, .int (x2 + (1 : Int32))), (0, .ref (ad 187)), (1, .int x1), (4, .int x4)]) dX12_plan_211 rfl rfl (by decide) rfl ?_
  refine aw_aload_n (j := 1) dX12_plan_214 rfl rfl ?_
  refine aw_bipush (v := 44) dX12_plan_215 (by decide) ?_
  refine aw_callV (rest := []) [.int (44 : Int32)] dX12_plan_217 ly_187 rfl k_X12_161 rfl h (Nat.le_of_ble_eq_true rfl) (fun v m1 h => ?_)
  obtain ⟨v2, rfl, h⟩ := h
  refine aw_eq (L' := [(2, .int (x2 + (1 : Int32))), (0, .ref (ad 187)), (1, .int x1), (4, .int x4)]) (st' := [.int v2]) (m' := m1) ?_ rfl rfl rfl
  refine aw_istore (L' := [(5, .int v2), (2, .int (x2 + (1 : Int32))), (0, .ref (ad 187)), (1, .int x1), (4, .int x4)]) dX12_plan_220 (by decide) rfl ?_
  refine aw_goto (tgt := 72) dX12_plan_222 (by decide) ?_
  exact aw_sub [2, 3, 1, 4, 0] rfl h
set_option maxRecDepth 100000 in
set_option maxHeartbeats 4000000 in
theorem g_X12_plan_238 {ad : Nat → Nat} {d : Nat} {Q : Option Value → Wm → Prop} {m : Wm} {x1 x2 : Int32} (h : (((m.1 187 19) ≤ (m.1 187 21) → AW ad E0 μX12_plan (d + 1) Q 257 [(0, .ref (ad 187)), (1, .int x1), (2, .int x2)] [] m) ∧ (¬ (m.1 187 19) ≤ (m.1 187 21) → (Ct ad μX12_fault d [.ref (ad 187), .int (m.1 187 21)] m (fun r m1 => r = none ∧ AW ad E0 μX12_plan (d + 1) Q 257 [(0, .ref (ad 187)), (1, .int x1), (2, .int x2)] [] m1))))) : AW ad E0 μX12_plan (d + 1) Q 238 [(0, .ref (ad 187)), (1, .int x1), (2, .int x2)] [] m := by
  refine aw_aload_n (j := 0) dX12_plan_238 rfl rfl ?_
  refine aw_getfield (c := 0) (v := .int (m.1 187 21)) dX12_plan_239 f_X12_147 ly_187 rfl rfl ?_
  refine aw_aload_n (j := 0) dX12_plan_242 rfl rfl ?_
  refine aw_getfield (c := 0) (v := .int (m.1 187 19)) dX12_plan_243 f_X12_141 ly_187 rfl rfl ?_
  refine aw_icmp_ge (tgt := 257) dX12_plan_246 (by decide) (fun hc => ?_) (fun hc => ?_)
  · have h := h.1 hc
    exact aw_sub [0, 1, 2] rfl h
  · have h := h.2 hc
    refine aw_aload_n (j := 0) dX12_plan_249 rfl rfl ?_
    refine aw_aload_n (j := 0) dX12_plan_250 rfl rfl ?_
    refine aw_getfield (c := 0) (v := .int (m.1 187 21)) dX12_plan_251 f_X12_147 ly_187 rfl rfl ?_
    refine aw_callV (rest := []) [.int (m.1 187 21)] dX12_plan_254 ly_187 rfl k_X12_165 rfl h (Nat.le_of_ble_eq_true rfl) (fun v m1 h => ?_)
    obtain ⟨rfl, h⟩ := h
    refine aw_eq (L' := [(0, .ref (ad 187)), (1, .int x1), (2, .int x2)]) (st' := []) (m' := m1) ?_ rfl rfl rfl
    exact aw_sub [0, 1, 2] rfl h
set_option maxRecDepth 100000 in
set_option maxHeartbeats 4000000 in
theorem g_X12_plan_257 {ad : Nat → Nat} {d : Nat} {Q : Option Value → Wm → Prop} {m : Wm} {x1 x2 : Int32} (h : (Ct ad μX12_fine d [.ref (ad 187)] m (fun r m1 => ∃ v2 : Int32, r = some (.int v2) ∧ ((¬ v2 = 0 → AW ad E0 μX12_plan (d + 1) Q 274 [(0, .ref (ad 187)), (1, .int x1), (2, .int x2), (4, .int (0 : Int32))] [] m1) ∧ (v2 = 0 → Q (some (.int ((-1 : Int32) - (m1.1 187 22)))) m1))))) : AW ad E0 μX12_plan (d + 1) Q 257 [(0, .ref (ad 187)), (1, .int x1), (2, .int x2)] [] m := by
  refine aw_aload_n (j := 0) dX12_plan_257 rfl rfl ?_
  refine aw_callV (rest := []) [] dX12_plan_258 ly_187 rfl k_X12_153 rfl h (Nat.le_of_ble_eq_true rfl) (fun v m1 h => ?_)
  obtain ⟨v2, rfl, h⟩ := h
  refine aw_eq (L' := [(0, .ref (ad 187)), (1, .int x1), (2, .int x2)]) (st' := [.int v2]) (m' := m1) ?_ rfl rfl rfl
  refine aw_if_ne (tgt := 271) dX12_plan_261 (by decide) (fun hc => ?_) (fun hc => ?_)
  · have h := h.1 hc
    refine aw_iconst (v := 0) dX12_plan_271 (by decide) ?_
    refine aw_istore (L' := [(4, .int (0 : Int32)), (0, .ref (ad 187)), (1, .int x1), (2, .int x2)]) dX12_plan_272 (by decide) rfl ?_
    exact aw_sub [1, 2, 3, 0] rfl h
  · have h := h.2 hc
    refine aw_iconst (v := -1) dX12_plan_264 (by decide) ?_
    refine aw_aload_n (j := 0) dX12_plan_265 rfl rfl ?_
    refine aw_getfield (c := 0) (v := .int (m1.1 187 22)) dX12_plan_266 f_X12_150 ly_187 rfl rfl ?_
    refine aw_isub dX12_plan_269 ?_
    exact aw_ret (v := some (.int ((-1 : Int32) - (m1.1 187 22)))) rfl (Or.inr (Or.inl ⟨_, .int, rfl, rfl, rfl, dX12_plan_270⟩)) h
set_option maxRecDepth 100000 in
set_option maxHeartbeats 4000000 in
theorem g_X12_plan_274 {ad : Nat → Nat} {d : Nat} {Q : Option Value → Wm → Prop} {m : Wm} {x1 x2 x4 : Int32} (h : ((((4 : Int32) * x2) ≤ x4 → Q (some (.int x1)) (uI (uI (uI m 187 10 x2) 187 11 x1) 187 12 (0 : Int32))) ∧ (¬ ((4 : Int32) * x2) ≤ x4 → (vp_in x4 160 ∧ (vp_in x4 160 ∧ AW ad E0 μX12_plan (d + 1) Q 274 [(0, .ref (ad 187)), (1, .int x1), (2, .int x2), (4, .int (x4 + (1 : Int32)))] [] (uI m 194 x4.toNatClampNeg (m.1 199 x4.toNatClampNeg))))))) : AW ad E0 μX12_plan (d + 1) Q 274 [(0, .ref (ad 187)), (1, .int x1), (2, .int x2), (4, .int x4)] [] m := by
  refine aw_iload (j := 3) dX12_plan_274 rfl ?_
  refine aw_iconst (v := 4) dX12_plan_276 (by decide) ?_
  refine aw_iload_n (j := 2) dX12_plan_277 rfl rfl ?_
  refine aw_imul dX12_plan_278 ?_
  refine aw_icmp_ge (tgt := 302) dX12_plan_279 (by decide) (fun hc => ?_) (fun hc => ?_)
  · have h := h.1 hc
    refine aw_aload_n (j := 0) dX12_plan_302 rfl rfl ?_
    refine aw_iload_n (j := 2) dX12_plan_303 rfl rfl ?_
    refine aw_putI dX12_plan_304 f_X12_181 cl_X12 rfl ly_187 rfl rfl rfl ?_
    refine aw_aload_n (j := 0) dX12_plan_307 rfl rfl ?_
    refine aw_iload_n (j := 1) dX12_plan_308 rfl rfl ?_
    refine aw_putI dX12_plan_309 f_X12_184 cl_X12 rfl ly_187 rfl rfl rfl ?_
    refine aw_aload_n (j := 0) dX12_plan_312 rfl rfl ?_
    refine aw_iconst (v := 0) dX12_plan_313 (by decide) ?_
    refine aw_putI dX12_plan_314 f_X12_187 cl_X12 rfl ly_187 rfl rfl rfl ?_
    refine aw_iload_n (j := 1) dX12_plan_317 rfl rfl ?_
    exact aw_ret (v := some (.int x1)) rfl (Or.inr (Or.inl ⟨_, .int, rfl, rfl, rfl, dX12_plan_318⟩)) h
  · have h := h.2 hc
    refine aw_aload_n (j := 0) dX12_plan_282 rfl rfl ?_
    refine aw_getfield (c := 197) (v := .ref (ad 194)) dX12_plan_283 f_X12_36 ly_187 rfl rfl ?_
    refine aw_iload (j := 3) dX12_plan_286 rfl ?_
    refine aw_aload_n (j := 0) dX12_plan_288 rfl rfl ?_
    refine aw_getfield (c := 202) (v := .ref (ad 199)) dX12_plan_289 f_X12_53 ly_187 rfl rfl ?_
    refine aw_iload (j := 3) dX12_plan_292 rfl ?_
    obtain ⟨hi, h⟩ := h
    refine aw_iaload dX12_plan_294 ly_199 hi ?_
    obtain ⟨hi, h⟩ := h
    refine aw_iastore dX12_plan_295 ly_194 hi ?_
    refine aw_iinc (j := 3) (v := x4 + (1 : Int32)) (L' := [(4, .int (x4 + (1 : Int32))), (0, .ref (ad 187)), (1, .int x1), (2, .int x2)]) dX12_plan_296 rfl rfl (by decide) rfl ?_
    refine aw_goto (tgt := 274) dX12_plan_299 (by decide) ?_
    exact aw_sub [1, 2, 3, 0] rfl h
set_option maxRecDepth 100000 in
set_option maxHeartbeats 4000000 in
theorem v_X12_side {ad : Nat → Nat} {d : Nat} {Q : Option Value → Wm → Prop} {m : Wm} {x1 : Int32} (h : (Ct ad μX12_digit d [.ref (ad 187), .int (0 : Int32), .int (9 : Int32)] m (fun r m1 => ∃ v2 : Int32, r = some (.int v2) ∧ (Ct ad μX12_fine d [.ref (ad 187)] m1 (fun r m3 => ∃ v4 : Int32, r = some (.int v4) ∧ ((v4 = 0 → Q (some (.int v2)) m3) ∧ (¬ v4 = 0 → (Ct ad μX12_isSide d [.ref (ad 187), .int v2] m3 (fun r m5 => ∃ v6 : Int32, r = some (.int v6) ∧ ((v6 = 0 → AW ad E0 μX12_side (d + 1) Q 31 [(0, .ref (ad 187)), (2, .int v2)] [] m5) ∧ (¬ v6 = 0 → (Ct ad μX12_has d [.int x1, .int v2] m5 (fun r m7 => ∃ v8 : Int32, r = some (.int v8) ∧ ((v8 = 0 → Q (some (.int v2)) m7) ∧ (¬ v8 = 0 → AW ad E0 μX12_side (d + 1) Q 31 [(0, .ref (ad 187)), (2, .int v2)] [] m7))))))))))))))) : Ct ad μX12_side (d + 1) [.ref (ad 187), .int x1] m Q := by
  refine Ct.of (by decide +kernel) rfl (Nat.le_of_ble_eq_true rfl) ?_
  refine aw_eq (L' := [(0, .ref (ad 187)), (1, .int x1)]) ?_ rfl rfl rfl
  refine aw_aload_n (j := 0) dX12_side_0 rfl rfl ?_
  refine aw_iconst (v := 0) dX12_side_1 (by decide) ?_
  refine aw_bipush (v := 9) dX12_side_2 (by decide) ?_
  refine aw_callV (rest := []) [.int (0 : Int32), .int (9 : Int32)] dX12_side_4 ly_187 rfl k_X12_177 rfl h (Nat.le_of_ble_eq_true rfl) (fun v m1 h => ?_)
  obtain ⟨v2, rfl, h⟩ := h
  refine aw_eq (L' := [(0, .ref (ad 187)), (1, .int x1)]) (st' := [.int v2]) (m' := m1) ?_ rfl rfl rfl
  refine aw_istore_n (L' := [(2, .int v2), (0, .ref (ad 187)), (1, .int x1)]) dX12_side_7 rfl (by decide) rfl ?_
  refine aw_aload_n (j := 1) dX12_side_8 rfl rfl ?_
  refine aw_callV (rest := []) [] dX12_side_9 ly_187 rfl k_X12_153 rfl h (Nat.le_of_ble_eq_true rfl) (fun v m3 h => ?_)
  obtain ⟨v4, rfl, h⟩ := h
  refine aw_eq (L' := [(2, .int v2), (0, .ref (ad 187)), (1, .int x1)]) (st' := [.int v4]) (m' := m3) ?_ rfl rfl rfl
  refine aw_if_eq (tgt := 41) dX12_side_12 (by decide) (fun hc => ?_) (fun hc => ?_)
  · have h := h.1 hc
    refine aw_iload_n (j := 0) dX12_side_41 rfl rfl ?_
    exact aw_ret (v := some (.int v2)) rfl (Or.inr (Or.inl ⟨_, .int, rfl, rfl, rfl, dX12_side_42⟩)) h
  · have h := h.2 hc
    refine aw_aload_n (j := 1) dX12_side_15 rfl rfl ?_
    refine aw_iload_n (j := 0) dX12_side_16 rfl rfl ?_
    refine aw_callV (rest := []) [.int v2] dX12_side_17 ly_187 rfl k_X12_123 rfl h (Nat.le_of_ble_eq_true rfl) (fun v m5 h => ?_)
    obtain ⟨v6, rfl, h⟩ := h
    refine aw_eq (L' := [(2, .int v2), (0, .ref (ad 187)), (1, .int x1)]) (st' := [.int v6]) (m' := m5) ?_ rfl rfl rfl
    refine aw_if_eq (tgt := 31) dX12_side_20 (by decide) (fun hc => ?_) (fun hc => ?_)
    · have h := h.1 hc
      exact aw_sub [1, 0] rfl h
    · have h := h.2 hc
      refine aw_iload_n (j := 2) dX12_side_23 rfl rfl ?_
      refine aw_iload_n (j := 0) dX12_side_24 rfl rfl ?_
      refine aw_callS (rest := []) [.int x1, .int v2] dX12_side_25 k_X12_207 rfl h (Nat.le_of_ble_eq_true rfl) (fun v m7 h => ?_)
      obtain ⟨v8, rfl, h⟩ := h
      refine aw_eq (L' := [(2, .int v2), (0, .ref (ad 187)), (1, .int x1)]) (st' := [.int v8]) (m' := m7) ?_ rfl rfl rfl
      refine aw_if_eq (tgt := 41) dX12_side_28 (by decide) (fun hc => ?_) (fun hc => ?_)
      · have h := h.1 hc
        refine aw_iload_n (j := 0) dX12_side_41 rfl rfl ?_
        exact aw_ret (v := some (.int v2)) rfl (Or.inr (Or.inl ⟨_, .int, rfl, rfl, rfl, dX12_side_42⟩)) h
      · have h := h.2 hc
        exact aw_sub [1, 0] rfl h
set_option maxRecDepth 100000 in
set_option maxHeartbeats 4000000 in
theorem g_X12_side_31 {ad : Nat → Nat} {d : Nat} {Q : Option Value → Wm → Prop} {m : Wm} {x2 : Int32} (h : (Ct ad μX12_fault d [.ref (ad 187), .int ((m.1 187 21) - (1 : Int32))] m (fun r m1 => r = none ∧ Q (some (.int x2)) m1))) : AW ad E0 μX12_side (d + 1) Q 31 [(0, .ref (ad 187)), (2, .int x2)] [] m := by
  refine aw_aload_n (j := 0) dX12_side_31 rfl rfl ?_
  refine aw_aload_n (j := 0) dX12_side_32 rfl rfl ?_
  refine aw_getfield (c := 0) (v := .int (m.1 187 21)) dX12_side_33 f_X12_147 ly_187 rfl rfl ?_
  refine aw_iconst (v := 1) dX12_side_36 (by decide) ?_
  refine aw_isub dX12_side_37 ?_
  refine aw_callV (rest := []) [.int ((m.1 187 21) - (1 : Int32))] dX12_side_38 ly_187 rfl k_X12_165 rfl h (Nat.le_of_ble_eq_true rfl) (fun v m1 h => ?_)
  obtain ⟨rfl, h⟩ := h
  refine aw_eq (L' := [(0, .ref (ad 187)), (2, .int x2)]) (st' := []) (m' := m1) ?_ rfl rfl rfl
  refine aw_iload_n (j := 1) dX12_side_41 rfl rfl ?_
  exact aw_ret (v := some (.int x2)) rfl (Or.inr (Or.inl ⟨_, .int, rfl, rfl, rfl, dX12_side_42⟩)) h
set_option maxRecDepth 100000 in
set_option maxHeartbeats 4000000 in
theorem v_X12_held {ad : Nat → Nat} {d : Nat} {Q : Option Value → Wm → Prop} {m : Wm} {x1 : Int32} (h : (Ct ad μX12_sum d [.ref (ad 187), .int x1] m (fun r m1 => ∃ v2 : Int32, r = some (.int v2) ∧ (Ct ad μX12_passes d [.ref (ad 187), .int (60 : Int32)] m1 (fun r m3 => ∃ v4 : Int32, r = some (.int v4) ∧ ((v4 = 0 → (Ct ad μX12_passes d [.ref (ad 187), .int (62 : Int32)] m3 (fun r m5 => ∃ v6 : Int32, r = some (.int v6) ∧ ((v6 = 0 → (Ct ad μX12_passes d [.ref (ad 187), .int (61 : Int32)] m5 (fun r m7 => ∃ v8 : Int32, r = some (.int v8) ∧ ((v8 = 0 → Q (some (.int v2)) m7) ∧ (¬ v8 = 0 → (Ct ad μX12_sum d [.ref (ad 187), .int x1] m7 (fun r m9 => ∃ v10 : Int32, r = some (.int v10) ∧ ((¬ v2 = v10 → Q (some (.int (0 : Int32))) m9) ∧ (v2 = v10 → Q (some (.int (1 : Int32))) m9))))))))) ∧ (¬ v6 = 0 → (Ct ad μX12_sum d [.ref (ad 187), .int x1] m5 (fun r m11 => ∃ v12 : Int32, r = some (.int v12) ∧ ((v2 ≤ v12 → Q (some (.int (0 : Int32))) m11) ∧ (¬ v2 ≤ v12 → Q (some (.int (1 : Int32))) m11))))))))) ∧ (¬ v4 = 0 → (Ct ad μX12_sum d [.ref (ad 187), .int x1] m3 (fun r m13 => ∃ v14 : Int32, r = some (.int v14) ∧ ((v14 ≤ v2 → Q (some (.int (0 : Int32))) m13) ∧ (¬ v14 ≤ v2 → Q (some (.int (1 : Int32))) m13))))))))))) : Ct ad μX12_held (d + 1) [.ref (ad 187), .int x1] m Q := by
  refine Ct.of (by decide +kernel) rfl (Nat.le_of_ble_eq_true rfl) ?_
  refine aw_eq (L' := [(0, .ref (ad 187)), (1, .int x1)]) ?_ rfl rfl rfl
  refine aw_aload_n (j := 0) dX12_held_0 rfl rfl ?_
  refine aw_iload_n (j := 1) dX12_held_1 rfl rfl ?_
  refine aw_callV (rest := []) [.int x1] dX12_held_2 ly_187 rfl k_X12_211 rfl h (Nat.le_of_ble_eq_true rfl) (fun v m1 h => ?_)
  obtain ⟨v2, rfl, h⟩ := h
  refine aw_eq (L' := [(0, .ref (ad 187)), (1, .int x1)]) (st' := [.int v2]) (m' := m1) ?_ rfl rfl rfl
  refine aw_istore_n (L' := [(2, .int v2), (0, .ref (ad 187)), (1, .int x1)]) dX12_held_5 rfl (by decide) rfl ?_
  refine aw_aload_n (j := 1) dX12_held_6 rfl rfl ?_
  refine aw_bipush (v := 60) dX12_held_7 (by decide) ?_
  refine aw_callV (rest := []) [.int (60 : Int32)] dX12_held_9 ly_187 rfl k_X12_161 rfl h (Nat.le_of_ble_eq_true rfl) (fun v m3 h => ?_)
  obtain ⟨v4, rfl, h⟩ := h
  refine aw_eq (L' := [(2, .int v2), (0, .ref (ad 187)), (1, .int x1)]) (st' := [.int v4]) (m' := m3) ?_ rfl rfl rfl
  refine aw_if_eq (tgt := 30) dX12_held_12 (by decide) (fun hc => ?_) (fun hc => ?_)
  · have h := h.1 hc
    refine aw_aload_n (j := 1) dX12_held_30 rfl rfl ?_
    refine aw_bipush (v := 62) dX12_held_31 (by decide) ?_
    refine aw_callV (rest := []) [.int (62 : Int32)] dX12_held_33 ly_187 rfl k_X12_161 rfl h (Nat.le_of_ble_eq_true rfl) (fun v m5 h => ?_)
    obtain ⟨v6, rfl, h⟩ := h
    refine aw_eq (L' := [(2, .int v2), (0, .ref (ad 187)), (1, .int x1)]) (st' := [.int v6]) (m' := m5) ?_ rfl rfl rfl
    refine aw_if_eq (tgt := 54) dX12_held_36 (by decide) (fun hc => ?_) (fun hc => ?_)
    · have h := h.1 hc
      refine aw_aload_n (j := 1) dX12_held_54 rfl rfl ?_
      refine aw_bipush (v := 61) dX12_held_55 (by decide) ?_
      refine aw_callV (rest := []) [.int (61 : Int32)] dX12_held_57 ly_187 rfl k_X12_161 rfl h (Nat.le_of_ble_eq_true rfl) (fun v m7 h => ?_)
      obtain ⟨v8, rfl, h⟩ := h
      refine aw_eq (L' := [(2, .int v2), (0, .ref (ad 187)), (1, .int x1)]) (st' := [.int v8]) (m' := m7) ?_ rfl rfl rfl
      refine aw_if_eq (tgt := 78) dX12_held_60 (by decide) (fun hc => ?_) (fun hc => ?_)
      · have h := h.1 hc
        refine aw_iload_n (j := 0) dX12_held_78 rfl rfl ?_
        exact aw_ret (v := some (.int v2)) rfl (Or.inr (Or.inl ⟨_, .int, rfl, rfl, rfl, dX12_held_79⟩)) h
      · have h := h.2 hc
        refine aw_iload_n (j := 0) dX12_held_63 rfl rfl ?_
        refine aw_aload_n (j := 1) dX12_held_64 rfl rfl ?_
        refine aw_iload_n (j := 2) dX12_held_65 rfl rfl ?_
        refine aw_callV (rest := [.int v2]) [.int x1] dX12_held_66 ly_187 rfl k_X12_211 rfl h (Nat.le_of_ble_eq_true rfl) (fun v m9 h => ?_)
        obtain ⟨v10, rfl, h⟩ := h
        refine aw_eq (L' := [(2, .int v2), (0, .ref (ad 187)), (1, .int x1)]) (st' := [.int v10, .int v2]) (m' := m9) ?_ rfl rfl rfl
        refine aw_icmp_ne (tgt := 76) dX12_held_69 (by decide) (fun hc => ?_) (fun hc => ?_)
        · have h := h.1 hc
          refine aw_iconst (v := 0) dX12_held_76 (by decide) ?_
          exact aw_ret (v := some (.int (0 : Int32))) rfl (Or.inr (Or.inl ⟨_, .int, rfl, rfl, rfl, dX12_held_77⟩)) h
        · have h := h.2 hc
          refine aw_iconst (v := 1) dX12_held_72 (by decide) ?_
          refine aw_goto (tgt := 77) dX12_held_73 (by decide) ?_
          exact aw_ret (v := some (.int (1 : Int32))) rfl (Or.inr (Or.inl ⟨_, .int, rfl, rfl, rfl, dX12_held_77⟩)) h
    · have h := h.2 hc
      refine aw_iload_n (j := 0) dX12_held_39 rfl rfl ?_
      refine aw_aload_n (j := 1) dX12_held_40 rfl rfl ?_
      refine aw_iload_n (j := 2) dX12_held_41 rfl rfl ?_
      refine aw_callV (rest := [.int v2]) [.int x1] dX12_held_42 ly_187 rfl k_X12_211 rfl h (Nat.le_of_ble_eq_true rfl) (fun v m11 h => ?_)
      obtain ⟨v12, rfl, h⟩ := h
      refine aw_eq (L' := [(2, .int v2), (0, .ref (ad 187)), (1, .int x1)]) (st' := [.int v12, .int v2]) (m' := m11) ?_ rfl rfl rfl
      refine aw_icmp_le (tgt := 52) dX12_held_45 (by decide) (fun hc => ?_) (fun hc => ?_)
      · have h := h.1 hc
        refine aw_iconst (v := 0) dX12_held_52 (by decide) ?_
        exact aw_ret (v := some (.int (0 : Int32))) rfl (Or.inr (Or.inl ⟨_, .int, rfl, rfl, rfl, dX12_held_53⟩)) h
      · have h := h.2 hc
        refine aw_iconst (v := 1) dX12_held_48 (by decide) ?_
        refine aw_goto (tgt := 53) dX12_held_49 (by decide) ?_
        exact aw_ret (v := some (.int (1 : Int32))) rfl (Or.inr (Or.inl ⟨_, .int, rfl, rfl, rfl, dX12_held_53⟩)) h
  · have h := h.2 hc
    refine aw_iload_n (j := 0) dX12_held_15 rfl rfl ?_
    refine aw_aload_n (j := 1) dX12_held_16 rfl rfl ?_
    refine aw_iload_n (j := 2) dX12_held_17 rfl rfl ?_
    refine aw_callV (rest := [.int v2]) [.int x1] dX12_held_18 ly_187 rfl k_X12_211 rfl h (Nat.le_of_ble_eq_true rfl) (fun v m13 h => ?_)
    obtain ⟨v14, rfl, h⟩ := h
    refine aw_eq (L' := [(2, .int v2), (0, .ref (ad 187)), (1, .int x1)]) (st' := [.int v14, .int v2]) (m' := m13) ?_ rfl rfl rfl
    refine aw_icmp_ge (tgt := 28) dX12_held_21 (by decide) (fun hc => ?_) (fun hc => ?_)
    · have h := h.1 hc
      refine aw_iconst (v := 0) dX12_held_28 (by decide) ?_
      exact aw_ret (v := some (.int (0 : Int32))) rfl (Or.inr (Or.inl ⟨_, .int, rfl, rfl, rfl, dX12_held_29⟩)) h
    · have h := h.2 hc
      refine aw_iconst (v := 1) dX12_held_24 (by decide) ?_
      refine aw_goto (tgt := 29) dX12_held_25 (by decide) ?_
      exact aw_ret (v := some (.int (1 : Int32))) rfl (Or.inr (Or.inl ⟨_, .int, rfl, rfl, rfl, dX12_held_29⟩)) h
set_option maxRecDepth 100000 in
set_option maxHeartbeats 4000000 in
theorem v_X12_sum {ad : Nat → Nat} {d : Nat} {Q : Option Value → Wm → Prop} {m : Wm} {x1 : Int32} (h : (Ct ad μX12_product d [.ref (ad 187), .int x1] m (fun r m1 => ∃ v2 : Int32, r = some (.int v2) ∧ AW ad E0 μX12_sum (d + 1) Q 6 [(0, .ref (ad 187)), (1, .int x1), (2, .int v2)] [] m1))) : Ct ad μX12_sum (d + 1) [.ref (ad 187), .int x1] m Q := by
  refine Ct.of (by decide +kernel) rfl (Nat.le_of_ble_eq_true rfl) ?_
  refine aw_eq (L' := [(0, .ref (ad 187)), (1, .int x1)]) ?_ rfl rfl rfl
  refine aw_aload_n (j := 0) dX12_sum_0 rfl rfl ?_
  refine aw_iload_n (j := 1) dX12_sum_1 rfl rfl ?_
  refine aw_callV (rest := []) [.int x1] dX12_sum_2 ly_187 rfl k_X12_214 rfl h (Nat.le_of_ble_eq_true rfl) (fun v m1 h => ?_)
  obtain ⟨v2, rfl, h⟩ := h
  refine aw_eq (L' := [(0, .ref (ad 187)), (1, .int x1)]) (st' := [.int v2]) (m' := m1) ?_ rfl rfl rfl
  refine aw_istore_n (L' := [(2, .int v2), (0, .ref (ad 187)), (1, .int x1)]) dX12_sum_5 rfl (by decide) rfl ?_
  exact aw_sub [1, 2, 0] rfl h
set_option maxRecDepth 100000 in
set_option maxHeartbeats 4000000 in
theorem g_X12_sum_6 {ad : Nat → Nat} {d : Nat} {Q : Option Value → Wm → Prop} {m : Wm} {x1 x2 : Int32} (h : (Ct ad μX12_fine d [.ref (ad 187)] m (fun r m1 => ∃ v2 : Int32, r = some (.int v2) ∧ ((v2 = 0 → Q (some (.int x2)) m1) ∧ (¬ v2 = 0 → (Ct ad μX12_here d [.ref (ad 187)] m1 (fun r m3 => ∃ v4 : Int32, r = some (.int v4) ∧ ((v4 = (43 : Int32) → AW ad E0 μX12_sum (d + 1) Q 31 [(0, .ref (ad 187)), (1, .int x1), (2, .int x2)] [] m3) ∧ (¬ v4 = (43 : Int32) → (Ct ad μX12_here d [.ref (ad 187)] m3 (fun r m5 => ∃ v6 : Int32, r = some (.int v6) ∧ ((¬ v6 = (45 : Int32) → Q (some (.int x2)) m5) ∧ (v6 = (45 : Int32) → AW ad E0 μX12_sum (d + 1) Q 31 [(0, .ref (ad 187)), (1, .int x1), (2, .int x2)] [] m5))))))))))))) : AW ad E0 μX12_sum (d + 1) Q 6 [(0, .ref (ad 187)), (1, .int x1), (2, .int x2)] [] m := by
  refine aw_aload_n (j := 0) dX12_sum_6 rfl rfl ?_
  refine aw_callV (rest := []) [] dX12_sum_7 ly_187 rfl k_X12_153 rfl h (Nat.le_of_ble_eq_true rfl) (fun v m1 h => ?_)
  obtain ⟨v2, rfl, h⟩ := h
  refine aw_eq (L' := [(0, .ref (ad 187)), (1, .int x1), (2, .int x2)]) (st' := [.int v2]) (m' := m1) ?_ rfl rfl rfl
  refine aw_if_eq (tgt := 82) dX12_sum_10 (by decide) (fun hc => ?_) (fun hc => ?_)
  · have h := h.1 hc
    refine aw_iload_n (j := 2) dX12_sum_82 rfl rfl ?_
    exact aw_ret (v := some (.int x2)) rfl (Or.inr (Or.inl ⟨_, .int, rfl, rfl, rfl, dX12_sum_83⟩)) h
  · have h := h.2 hc
    refine aw_aload_n (j := 0) dX12_sum_13 rfl rfl ?_
    refine aw_callV (rest := []) [] dX12_sum_14 ly_187 rfl k_X12_157 rfl h (Nat.le_of_ble_eq_true rfl) (fun v m3 h => ?_)
    obtain ⟨v4, rfl, h⟩ := h
    refine aw_eq (L' := [(0, .ref (ad 187)), (1, .int x1), (2, .int x2)]) (st' := [.int v4]) (m' := m3) ?_ rfl rfl rfl
    refine aw_bipush (v := 43) dX12_sum_17 (by decide) ?_
    refine aw_icmp_eq (tgt := 31) dX12_sum_19 (by decide) (fun hc => ?_) (fun hc => ?_)
    · have h := h.1 hc
      exact aw_sub [0, 1, 2] rfl h
    · have h := h.2 hc
      refine aw_aload_n (j := 0) dX12_sum_22 rfl rfl ?_
      refine aw_callV (rest := []) [] dX12_sum_23 ly_187 rfl k_X12_157 rfl h (Nat.le_of_ble_eq_true rfl) (fun v m5 h => ?_)
      obtain ⟨v6, rfl, h⟩ := h
      refine aw_eq (L' := [(0, .ref (ad 187)), (1, .int x1), (2, .int x2)]) (st' := [.int v6]) (m' := m5) ?_ rfl rfl rfl
      refine aw_bipush (v := 45) dX12_sum_26 (by decide) ?_
      refine aw_icmp_ne (tgt := 82) dX12_sum_28 (by decide) (fun hc => ?_) (fun hc => ?_)
      · have h := h.1 hc
        refine aw_iload_n (j := 2) dX12_sum_82 rfl rfl ?_
        exact aw_ret (v := some (.int x2)) rfl (Or.inr (Or.inl ⟨_, .int, rfl, rfl, rfl, dX12_sum_83⟩)) h
      · have h := h.2 hc
        exact aw_sub [0, 1, 2] rfl h
set_option maxRecDepth 100000 in
set_option maxHeartbeats 4000000 in
theorem g_X12_sum_31 {ad : Nat → Nat} {d : Nat} {Q : Option Value → Wm → Prop} {m : Wm} {x1 x2 : Int32} (h : (Ct ad μX12_here d [.ref (ad 187)] m (fun r m1 => ∃ v2 : Int32, r = some (.int v2) ∧ ((¬ v2 = (43 : Int32) → AW ad E0 μX12_sum (d + 1) Q 45 [(0, .ref (ad 187)), (1, .int x1), (2, .int x2)] [.int (0 : Int32)] m1) ∧ (v2 = (43 : Int32) → AW ad E0 μX12_sum (d + 1) Q 45 [(0, .ref (ad 187)), (1, .int x1), (2, .int x2)] [.int (1 : Int32)] m1))))) : AW ad E0 μX12_sum (d + 1) Q 31 [(0, .ref (ad 187)), (1, .int x1), (2, .int x2)] [] m := by
  refine aw_aload_n (j := 0) dX12_sum_31 rfl rfl ?_
  refine aw_callV (rest := []) [] dX12_sum_32 ly_187 rfl k_X12_157 rfl h (Nat.le_of_ble_eq_true rfl) (fun v m1 h => ?_)
  obtain ⟨v2, rfl, h⟩ := h
  refine aw_eq (L' := [(0, .ref (ad 187)), (1, .int x1), (2, .int x2)]) (st' := [.int v2]) (m' := m1) ?_ rfl rfl rfl
  refine aw_bipush (v := 43) dX12_sum_35 (by decide) ?_
  refine aw_icmp_ne (tgt := 44) dX12_sum_37 (by decide) (fun hc => ?_) (fun hc => ?_)
  · have h := h.1 hc
    refine aw_iconst (v := 0) dX12_sum_44 (by decide) ?_
    exact aw_sub [0, 1, 2] rfl h
  · have h := h.2 hc
    refine aw_iconst (v := 1) dX12_sum_40 (by decide) ?_
    refine aw_goto (tgt := 45) dX12_sum_41 (by decide) ?_
    exact aw_sub [0, 1, 2] rfl h
set_option maxRecDepth 100000 in
set_option maxHeartbeats 4000000 in
theorem g_X12_sum_45 {ad : Nat → Nat} {d : Nat} {Q : Option Value → Wm → Prop} {m : Wm} {x1 x2 s0 : Int32} (h : (Ct ad μX12_product d [.ref (ad 187), .int x1] (uI m 187 21 ((m.1 187 21) + (1 : Int32))) (fun r m1 => ∃ v2 : Int32, r = some (.int v2) ∧ ((s0 = 0 → AW ad E0 μX12_sum (d + 1) Q 6 [(0, .ref (ad 187)), (1, .int x1), (2, .int (x2 - v2))] [] m1) ∧ (¬ s0 = 0 → AW ad E0 μX12_sum (d + 1) Q 6 [(0, .ref (ad 187)), (1, .int x1), (2, .int (x2 + v2))] [] m1))))) : AW ad E0 μX12_sum (d + 1) Q 45 [(0, .ref (ad 187)), (1, .int x1), (2, .int x2)] [.int s0] m := by
  refine aw_istore_n (L' := [(3, .int s0), (0, .ref (ad 187)), (1, .int x1), (2, .int x2)]) dX12_sum_45 rfl (by decide) rfl ?_
  refine aw_aload_n (j := 1) dX12_sum_46 rfl rfl ?_
  refine aw_dup dX12_sum_47 rfl ?_
  refine aw_getfield (c := 0) (v := .int (m.1 187 21)) dX12_sum_48 f_X12_147 ly_187 rfl rfl ?_
  refine aw_iconst (v := 1) dX12_sum_51 (by decide) ?_
  refine aw_iadd dX12_sum_52 ?_
  refine aw_putI dX12_sum_53 f_X12_147 cl_X12 rfl ly_187 rfl rfl rfl ?_
  refine aw_aload_n (j := 1) dX12_sum_56 rfl rfl ?_
  refine aw_iload_n (j := 2) dX12_sum_57 rfl rfl ?_
  refine aw_callV (rest := []) [.int x1] dX12_sum_58 ly_187 rfl k_X12_214 rfl h (Nat.le_of_ble_eq_true rfl) (fun v m1 h => ?_)
  obtain ⟨v2, rfl, h⟩ := h
  refine aw_eq (L' := [(3, .int s0), (0, .ref (ad 187)), (1, .int x1), (2, .int x2)]) (st' := [.int v2]) (m' := m1) ?_ rfl rfl rfl
  refine aw_istore (L' := [(4, .int v2), (3, .int s0), (0, .ref (ad 187)), (1, .int x1), (2, .int x2)]) dX12_sum_61 (by decide) rfl ?_
  refine aw_iload_n (j := 1) dX12_sum_63 rfl rfl ?_
  refine aw_if_eq (tgt := 74) dX12_sum_64 (by decide) (fun hc => ?_) (fun hc => ?_)
  · have h := h.1 hc
    refine aw_iload_n (j := 4) dX12_sum_74 rfl rfl ?_
    refine aw_iload (j := 0) dX12_sum_75 rfl ?_
    refine aw_isub dX12_sum_77 ?_
    refine aw_istore_n (L' := [(2, .int (x2 - v2)), (4, .int v2), (3, .int s0), (0, .ref (ad 187)), (1, .int x1)]) dX12_sum_78 rfl (by decide) rfl ?_
    refine aw_goto (tgt := 6) dX12_sum_79 (by decide) ?_
    exact aw_sub [3, 4, 0] rfl h
  · have h := h.2 hc
    refine aw_iload_n (j := 4) dX12_sum_67 rfl rfl ?_
    refine aw_iload (j := 0) dX12_sum_68 rfl ?_
    refine aw_iadd dX12_sum_70 ?_
    refine aw_goto (tgt := 78) dX12_sum_71 (by decide) ?_
    refine aw_istore_n (L' := [(2, .int (x2 + v2)), (4, .int v2), (3, .int s0), (0, .ref (ad 187)), (1, .int x1)]) dX12_sum_78 rfl (by decide) rfl ?_
    refine aw_goto (tgt := 6) dX12_sum_79 (by decide) ?_
    exact aw_sub [3, 4, 0] rfl h
set_option maxRecDepth 100000 in
set_option maxHeartbeats 4000000 in
theorem v_X12_product {ad : Nat → Nat} {d : Nat} {Q : Option Value → Wm → Prop} {m : Wm} {x1 : Int32} (h : (Ct ad μX12_thing d [.ref (ad 187), .int x1] m (fun r m1 => ∃ v2 : Int32, r = some (.int v2) ∧ AW ad E0 μX12_product (d + 1) Q 6 [(0, .ref (ad 187)), (1, .int x1), (2, .int v2)] [] m1))) : Ct ad μX12_product (d + 1) [.ref (ad 187), .int x1] m Q := by
  refine Ct.of (by decide +kernel) rfl (Nat.le_of_ble_eq_true rfl) ?_
  refine aw_eq (L' := [(0, .ref (ad 187)), (1, .int x1)]) ?_ rfl rfl rfl
  refine aw_aload_n (j := 0) dX12_product_0 rfl rfl ?_
  refine aw_iload_n (j := 1) dX12_product_1 rfl rfl ?_
  refine aw_callV (rest := []) [.int x1] dX12_product_2 ly_187 rfl k_X12_217 rfl h (Nat.le_of_ble_eq_true rfl) (fun v m1 h => ?_)
  obtain ⟨v2, rfl, h⟩ := h
  refine aw_eq (L' := [(0, .ref (ad 187)), (1, .int x1)]) (st' := [.int v2]) (m' := m1) ?_ rfl rfl rfl
  refine aw_istore_n (L' := [(2, .int v2), (0, .ref (ad 187)), (1, .int x1)]) dX12_product_5 rfl (by decide) rfl ?_
  exact aw_sub [1, 2, 0] rfl h
set_option maxRecDepth 100000 in
set_option maxHeartbeats 4000000 in
theorem g_X12_product_6 {ad : Nat → Nat} {d : Nat} {Q : Option Value → Wm → Prop} {m : Wm} {x1 x2 : Int32} (h : (Ct ad μX12_fine d [.ref (ad 187)] m (fun r m1 => ∃ v2 : Int32, r = some (.int v2) ∧ ((v2 = 0 → Q (some (.int x2)) m1) ∧ (¬ v2 = 0 → (Ct ad μX12_here d [.ref (ad 187)] m1 (fun r m3 => ∃ v4 : Int32, r = some (.int v4) ∧ ((v4 = (42 : Int32) → AW ad E0 μX12_product (d + 1) Q 31 [(0, .ref (ad 187)), (1, .int x1), (2, .int x2)] [] m3) ∧ (¬ v4 = (42 : Int32) → (Ct ad μX12_here d [.ref (ad 187)] m3 (fun r m5 => ∃ v6 : Int32, r = some (.int v6) ∧ ((¬ v6 = (47 : Int32) → Q (some (.int x2)) m5) ∧ (v6 = (47 : Int32) → AW ad E0 μX12_product (d + 1) Q 31 [(0, .ref (ad 187)), (1, .int x1), (2, .int x2)] [] m5))))))))))))) : AW ad E0 μX12_product (d + 1) Q 6 [(0, .ref (ad 187)), (1, .int x1), (2, .int x2)] [] m := by
  refine aw_aload_n (j := 0) dX12_product_6 rfl rfl ?_
  refine aw_callV (rest := []) [] dX12_product_7 ly_187 rfl k_X12_153 rfl h (Nat.le_of_ble_eq_true rfl) (fun v m1 h => ?_)
  obtain ⟨v2, rfl, h⟩ := h
  refine aw_eq (L' := [(0, .ref (ad 187)), (1, .int x1), (2, .int x2)]) (st' := [.int v2]) (m' := m1) ?_ rfl rfl rfl
  refine aw_if_eq (tgt := 91) dX12_product_10 (by decide) (fun hc => ?_) (fun hc => ?_)
  · have h := h.1 hc
    refine aw_iload_n (j := 2) dX12_product_91 rfl rfl ?_
    exact aw_ret (v := some (.int x2)) rfl (Or.inr (Or.inl ⟨_, .int, rfl, rfl, rfl, dX12_product_92⟩)) h
  · have h := h.2 hc
    refine aw_aload_n (j := 0) dX12_product_13 rfl rfl ?_
    refine aw_callV (rest := []) [] dX12_product_14 ly_187 rfl k_X12_157 rfl h (Nat.le_of_ble_eq_true rfl) (fun v m3 h => ?_)
    obtain ⟨v4, rfl, h⟩ := h
    refine aw_eq (L' := [(0, .ref (ad 187)), (1, .int x1), (2, .int x2)]) (st' := [.int v4]) (m' := m3) ?_ rfl rfl rfl
    refine aw_bipush (v := 42) dX12_product_17 (by decide) ?_
    refine aw_icmp_eq (tgt := 31) dX12_product_19 (by decide) (fun hc => ?_) (fun hc => ?_)
    · have h := h.1 hc
      exact aw_sub [0, 1, 2] rfl h
    · have h := h.2 hc
      refine aw_aload_n (j := 0) dX12_product_22 rfl rfl ?_
      refine aw_callV (rest := []) [] dX12_product_23 ly_187 rfl k_X12_157 rfl h (Nat.le_of_ble_eq_true rfl) (fun v m5 h => ?_)
      obtain ⟨v6, rfl, h⟩ := h
      refine aw_eq (L' := [(0, .ref (ad 187)), (1, .int x1), (2, .int x2)]) (st' := [.int v6]) (m' := m5) ?_ rfl rfl rfl
      refine aw_bipush (v := 47) dX12_product_26 (by decide) ?_
      refine aw_icmp_ne (tgt := 91) dX12_product_28 (by decide) (fun hc => ?_) (fun hc => ?_)
      · have h := h.1 hc
        refine aw_iload_n (j := 2) dX12_product_91 rfl rfl ?_
        exact aw_ret (v := some (.int x2)) rfl (Or.inr (Or.inl ⟨_, .int, rfl, rfl, rfl, dX12_product_92⟩)) h
      · have h := h.2 hc
        exact aw_sub [0, 1, 2] rfl h
set_option maxRecDepth 100000 in
set_option maxHeartbeats 4000000 in
theorem g_X12_product_31 {ad : Nat → Nat} {d : Nat} {Q : Option Value → Wm → Prop} {m : Wm} {x1 x2 : Int32} (h : (Ct ad μX12_here d [.ref (ad 187)] m (fun r m1 => ∃ v2 : Int32, r = some (.int v2) ∧ ((¬ v2 = (42 : Int32) → AW ad E0 μX12_product (d + 1) Q 45 [(0, .ref (ad 187)), (1, .int x1), (2, .int x2)] [.int (0 : Int32)] m1) ∧ (v2 = (42 : Int32) → AW ad E0 μX12_product (d + 1) Q 45 [(0, .ref (ad 187)), (1, .int x1), (2, .int x2)] [.int (1 : Int32)] m1))))) : AW ad E0 μX12_product (d + 1) Q 31 [(0, .ref (ad 187)), (1, .int x1), (2, .int x2)] [] m := by
  refine aw_aload_n (j := 0) dX12_product_31 rfl rfl ?_
  refine aw_callV (rest := []) [] dX12_product_32 ly_187 rfl k_X12_157 rfl h (Nat.le_of_ble_eq_true rfl) (fun v m1 h => ?_)
  obtain ⟨v2, rfl, h⟩ := h
  refine aw_eq (L' := [(0, .ref (ad 187)), (1, .int x1), (2, .int x2)]) (st' := [.int v2]) (m' := m1) ?_ rfl rfl rfl
  refine aw_bipush (v := 42) dX12_product_35 (by decide) ?_
  refine aw_icmp_ne (tgt := 44) dX12_product_37 (by decide) (fun hc => ?_) (fun hc => ?_)
  · have h := h.1 hc
    refine aw_iconst (v := 0) dX12_product_44 (by decide) ?_
    exact aw_sub [0, 1, 2] rfl h
  · have h := h.2 hc
    refine aw_iconst (v := 1) dX12_product_40 (by decide) ?_
    refine aw_goto (tgt := 45) dX12_product_41 (by decide) ?_
    exact aw_sub [0, 1, 2] rfl h
set_option maxRecDepth 100000 in
set_option maxHeartbeats 4000000 in
theorem g_X12_product_45 {ad : Nat → Nat} {d : Nat} {Q : Option Value → Wm → Prop} {m : Wm} {x1 x2 s0 : Int32} (h : (Ct ad μX12_thing d [.ref (ad 187), .int x1] (uI m 187 21 ((m.1 187 21) + (1 : Int32))) (fun r m1 => ∃ v2 : Int32, r = some (.int v2) ∧ ((s0 = 0 → ((¬ v2 = 0 → (¬ v2 = 0 ∧ AW ad E0 μX12_product (d + 1) Q 6 [(0, .ref (ad 187)), (1, .int x1), (2, .int (x2 / v2))] [] m1)) ∧ (v2 = 0 → AW ad E0 μX12_product (d + 1) Q 6 [(0, .ref (ad 187)), (1, .int x1), (2, .int (0 : Int32))] [] m1))) ∧ (¬ s0 = 0 → AW ad E0 μX12_product (d + 1) Q 6 [(0, .ref (ad 187)), (1, .int x1), (2, .int (x2 * v2))] [] m1))))) : AW ad E0 μX12_product (d + 1) Q 45 [(0, .ref (ad 187)), (1, .int x1), (2, .int x2)] [.int s0] m := by
  refine aw_istore_n (L' := [(3, .int s0), (0, .ref (ad 187)), (1, .int x1), (2, .int x2)]) dX12_product_45 rfl (by decide) rfl ?_
  refine aw_aload_n (j := 1) dX12_product_46 rfl rfl ?_
  refine aw_dup dX12_product_47 rfl ?_
  refine aw_getfield (c := 0) (v := .int (m.1 187 21)) dX12_product_48 f_X12_147 ly_187 rfl rfl ?_
  refine aw_iconst (v := 1) dX12_product_51 (by decide) ?_
  refine aw_iadd dX12_product_52 ?_
  refine aw_putI dX12_product_53 f_X12_147 cl_X12 rfl ly_187 rfl rfl rfl ?_
  refine aw_aload_n (j := 1) dX12_product_56 rfl rfl ?_
  refine aw_iload_n (j := 2) dX12_product_57 rfl rfl ?_
  refine aw_callV (rest := []) [.int x1] dX12_product_58 ly_187 rfl k_X12_217 rfl h (Nat.le_of_ble_eq_true rfl) (fun v m1 h => ?_)
  obtain ⟨v2, rfl, h⟩ := h
  refine aw_eq (L' := [(3, .int s0), (0, .ref (ad 187)), (1, .int x1), (2, .int x2)]) (st' := [.int v2]) (m' := m1) ?_ rfl rfl rfl
  refine aw_istore (L' := [(4, .int v2), (3, .int s0), (0, .ref (ad 187)), (1, .int x1), (2, .int x2)]) dX12_product_61 (by decide) rfl ?_
  refine aw_iload_n (j := 1) dX12_product_63 rfl rfl ?_
  refine aw_if_eq (tgt := 74) dX12_product_64 (by decide) (fun hc => ?_) (fun hc => ?_)
  · have h := h.1 hc
    refine aw_iload (j := 0) dX12_product_74 rfl ?_
    refine aw_if_ne (tgt := 83) dX12_product_76 (by decide) (fun hc => ?_) (fun hc => ?_)
    · have h := h.1 hc
      refine aw_iload_n (j := 4) dX12_product_83 rfl rfl ?_
      refine aw_iload (j := 0) dX12_product_84 rfl ?_
      obtain ⟨hz, h⟩ := h
      refine aw_idiv dX12_product_86 hz ?_
      refine aw_istore_n (L' := [(2, .int (x2 / v2)), (4, .int v2), (3, .int s0), (0, .ref (ad 187)), (1, .int x1)]) dX12_product_87 rfl (by decide) rfl ?_
      refine aw_goto (tgt := 6) dX12_product_88 (by decide) ?_
      exact aw_sub [3, 4, 0] rfl h
    · have h := h.2 hc
      refine aw_iconst (v := 0) dX12_product_79 (by decide) ?_
      refine aw_goto (tgt := 87) dX12_product_80 (by decide) ?_
      refine aw_istore_n (L' := [(2, .int (0 : Int32)), (4, .int v2), (3, .int s0), (0, .ref (ad 187)), (1, .int x1)]) dX12_product_87 rfl (by decide) rfl ?_
      refine aw_goto (tgt := 6) dX12_product_88 (by decide) ?_
      exact aw_sub [3, 4, 0] rfl h
  · have h := h.2 hc
    refine aw_iload_n (j := 4) dX12_product_67 rfl rfl ?_
    refine aw_iload (j := 0) dX12_product_68 rfl ?_
    refine aw_imul dX12_product_70 ?_
    refine aw_goto (tgt := 87) dX12_product_71 (by decide) ?_
    refine aw_istore_n (L' := [(2, .int (x2 * v2)), (4, .int v2), (3, .int s0), (0, .ref (ad 187)), (1, .int x1)]) dX12_product_87 rfl (by decide) rfl ?_
    refine aw_goto (tgt := 6) dX12_product_88 (by decide) ?_
    exact aw_sub [3, 4, 0] rfl h
set_option maxRecDepth 100000 in
set_option maxHeartbeats 4000000 in
theorem v_X12_thing {ad : Nat → Nat} {d : Nat} {Q : Option Value → Wm → Prop} {m : Wm} {x1 : Int32} (h : (Ct ad μX12_passes d [.ref (ad 187), .int (45 : Int32)] m (fun r m1 => ∃ v2 : Int32, r = some (.int v2) ∧ ((v2 = 0 → (Ct ad μX12_fine d [.ref (ad 187)] m1 (fun r m3 => ∃ v4 : Int32, r = some (.int v4) ∧ ((¬ v4 = 0 → (Ct ad μX12_here d [.ref (ad 187)] m3 (fun r m5 => ∃ v6 : Int32, r = some (.int v6) ∧ ((¬ v6 = (40 : Int32) → AW ad E0 μX12_thing (d + 1) Q 67 [(0, .ref (ad 187)), (2, .int v6)] [] m5) ∧ (v6 = (40 : Int32) → (((4 : Int32) ≤ x1 → AW ad E0 μX12_thing (d + 1) Q 67 [(0, .ref (ad 187)), (2, .int v6)] [] m5) ∧ (¬ (4 : Int32) ≤ x1 → (Ct ad μX12_held d [.ref (ad 187), .int (x1 + (1 : Int32))] (uI m5 187 21 ((m5.1 187 21) + (1 : Int32))) (fun r m7 => ∃ v8 : Int32, r = some (.int v8) ∧ (Ct ad μX12_need d [.ref (ad 187), .int (41 : Int32)] m7 (fun r m9 => r = none ∧ Q (some (.int v8)) m9))))))))))) ∧ (v4 = 0 → Q (some (.int (0 : Int32))) m3))))) ∧ (¬ v2 = 0 → (Ct ad μX12_thing d [.ref (ad 187), .int x1] m1 (fun r m10 => ∃ v11 : Int32, r = some (.int v11) ∧ Q (some (.int (-v11))) m10))))))) : Ct ad μX12_thing (d + 1) [.ref (ad 187), .int x1] m Q := by
  refine Ct.of (by decide +kernel) rfl (Nat.le_of_ble_eq_true rfl) ?_
  refine aw_eq (L' := [(0, .ref (ad 187)), (1, .int x1)]) ?_ rfl rfl rfl
  refine aw_aload_n (j := 0) dX12_thing_0 rfl rfl ?_
  refine aw_bipush (v := 45) dX12_thing_1 (by decide) ?_
  refine aw_callV (rest := []) [.int (45 : Int32)] dX12_thing_3 ly_187 rfl k_X12_161 rfl h (Nat.le_of_ble_eq_true rfl) (fun v m1 h => ?_)
  obtain ⟨v2, rfl, h⟩ := h
  refine aw_eq (L' := [(0, .ref (ad 187)), (1, .int x1)]) (st' := [.int v2]) (m' := m1) ?_ rfl rfl rfl
  refine aw_if_eq (tgt := 16) dX12_thing_6 (by decide) (fun hc => ?_) (fun hc => ?_)
  · have h := h.1 hc
    refine aw_aload_n (j := 0) dX12_thing_16 rfl rfl ?_
    refine aw_callV (rest := []) [] dX12_thing_17 ly_187 rfl k_X12_153 rfl h (Nat.le_of_ble_eq_true rfl) (fun v m3 h => ?_)
    obtain ⟨v4, rfl, h⟩ := h
    refine aw_eq (L' := [(0, .ref (ad 187)), (1, .int x1)]) (st' := [.int v4]) (m' := m3) ?_ rfl rfl rfl
    refine aw_if_ne (tgt := 25) dX12_thing_20 (by decide) (fun hc => ?_) (fun hc => ?_)
    · have h := h.1 hc
      refine aw_aload_n (j := 0) dX12_thing_25 rfl rfl ?_
      refine aw_callV (rest := []) [] dX12_thing_26 ly_187 rfl k_X12_157 rfl h (Nat.le_of_ble_eq_true rfl) (fun v m5 h => ?_)
      obtain ⟨v6, rfl, h⟩ := h
      refine aw_eq (L' := [(0, .ref (ad 187)), (1, .int x1)]) (st' := [.int v6]) (m' := m5) ?_ rfl rfl rfl
      refine aw_istore_n (L' := [(2, .int v6), (0, .ref (ad 187)), (1, .int x1)]) dX12_thing_29 rfl (by decide) rfl ?_
      refine aw_iload_n (j := 0) dX12_thing_30 rfl rfl ?_
      refine aw_bipush (v := 40) dX12_thing_31 (by decide) ?_
      refine aw_icmp_ne (tgt := 67) dX12_thing_33 (by decide) (fun hc => ?_) (fun hc => ?_)
      · have h := h.1 hc
        exact aw_sub [1, 0] rfl h
      · have h := h.2 hc
        refine aw_iload_n (j := 2) dX12_thing_36 rfl rfl ?_
        refine aw_iconst (v := 4) dX12_thing_37 (by decide) ?_
        refine aw_icmp_ge (tgt := 67) dX12_thing_38 (by decide) (fun hc => ?_) (fun hc => ?_)
        · have h := h.1 hc
          exact aw_sub [1, 0] rfl h
        · have h := h.2 hc
          refine aw_aload_n (j := 1) dX12_thing_41 rfl rfl ?_
          refine aw_dup dX12_thing_42 rfl ?_
          refine aw_getfield (c := 0) (v := .int (m5.1 187 21)) dX12_thing_43 f_X12_147 ly_187 rfl rfl ?_
          refine aw_iconst (v := 1) dX12_thing_46 (by decide) ?_
          refine aw_iadd dX12_thing_47 ?_
          refine aw_putI dX12_thing_48 f_X12_147 cl_X12 rfl ly_187 rfl rfl rfl ?_
          refine aw_aload_n (j := 1) dX12_thing_51 rfl rfl ?_
          refine aw_iload_n (j := 2) dX12_thing_52 rfl rfl ?_
          refine aw_iconst (v := 1) dX12_thing_53 (by decide) ?_
          refine aw_iadd dX12_thing_54 ?_
          refine aw_callV (rest := []) [.int (x1 + (1 : Int32))] dX12_thing_55 ly_187 rfl k_X12_220 rfl h (Nat.le_of_ble_eq_true rfl) (fun v m7 h => ?_)
          obtain ⟨v8, rfl, h⟩ := h
          refine aw_eq (L' := [(2, .int v6), (0, .ref (ad 187)), (1, .int x1)]) (st' := [.int v8]) (m' := m7) ?_ rfl rfl rfl
          refine aw_istore_n (L' := [(3, .int v8), (2, .int v6), (0, .ref (ad 187)), (1, .int x1)]) dX12_thing_58 rfl (by decide) rfl ?_
          refine aw_aload_n (j := 2) dX12_thing_59 rfl rfl ?_
          refine aw_bipush (v := 41) dX12_thing_60 (by decide) ?_
          refine aw_callV (rest := []) [.int (41 : Int32)] dX12_thing_62 ly_187 rfl k_X12_203 rfl h (Nat.le_of_ble_eq_true rfl) (fun v m9 h => ?_)
          obtain ⟨rfl, h⟩ := h
          refine aw_eq (L' := [(3, .int v8), (2, .int v6), (0, .ref (ad 187)), (1, .int x1)]) (st' := []) (m' := m9) ?_ rfl rfl rfl
          refine aw_iload_n (j := 0) dX12_thing_65 rfl rfl ?_
          exact aw_ret (v := some (.int v8)) rfl (Or.inr (Or.inl ⟨_, .int, rfl, rfl, rfl, dX12_thing_66⟩)) h
    · have h := h.2 hc
      refine aw_iconst (v := 0) dX12_thing_23 (by decide) ?_
      exact aw_ret (v := some (.int (0 : Int32))) rfl (Or.inr (Or.inl ⟨_, .int, rfl, rfl, rfl, dX12_thing_24⟩)) h
  · have h := h.2 hc
    refine aw_aload_n (j := 0) dX12_thing_9 rfl rfl ?_
    refine aw_iload_n (j := 1) dX12_thing_10 rfl rfl ?_
    refine aw_callV (rest := []) [.int x1] dX12_thing_11 ly_187 rfl k_X12_217 rfl h (Nat.le_of_ble_eq_true rfl) (fun v m10 h => ?_)
    obtain ⟨v11, rfl, h⟩ := h
    refine aw_eq (L' := [(0, .ref (ad 187)), (1, .int x1)]) (st' := [.int v11]) (m' := m10) ?_ rfl rfl rfl
    refine aw_ineg dX12_thing_14 ?_
    exact aw_ret (v := some (.int (-v11))) rfl (Or.inr (Or.inl ⟨_, .int, rfl, rfl, rfl, dX12_thing_15⟩)) h
set_option maxRecDepth 100000 in
set_option maxHeartbeats 4000000 in
theorem g_X12_thing_67 {ad : Nat → Nat} {d : Nat} {Q : Option Value → Wm → Prop} {m : Wm} {x2 : Int32} (h : (Ct ad μX12_in d [.long x2.toInt64, .long (48 : Int64), .long (57 : Int64)] m (fun r m1 => ∃ v2 : Int32, r = some (.int v2) ∧ ((v2 = 0 → (Ct ad μX12_in d [.long x2.toInt64, .long (97 : Int64), .long (100 : Int64)] m1 (fun r m3 => ∃ v4 : Int32, r = some (.int v4) ∧ ((¬ v4 = 0 → AW ad E0 μX12_thing (d + 1) Q 147 [(0, .ref (ad 187)), (2, .int x2)] [] m3) ∧ (v4 = 0 → ((x2 = (115 : Int32) → AW ad E0 μX12_thing (d + 1) Q 147 [(0, .ref (ad 187)), (2, .int x2)] [] m3) ∧ (¬ x2 = (115 : Int32) → ((x2 = (109 : Int32) → AW ad E0 μX12_thing (d + 1) Q 147 [(0, .ref (ad 187)), (2, .int x2)] [] m3) ∧ (¬ x2 = (109 : Int32) → ((x2 = (108 : Int32) → AW ad E0 μX12_thing (d + 1) Q 147 [(0, .ref (ad 187)), (2, .int x2)] [] m3) ∧ (¬ x2 = (108 : Int32) → ((x2 = (105 : Int32) → AW ad E0 μX12_thing (d + 1) Q 147 [(0, .ref (ad 187)), (2, .int x2)] [] m3) ∧ (¬ x2 = (105 : Int32) → ((x2 = (112 : Int32) → AW ad E0 μX12_thing (d + 1) Q 147 [(0, .ref (ad 187)), (2, .int x2)] [] m3) ∧ (¬ x2 = (112 : Int32) → ((x2 = (114 : Int32) → AW ad E0 μX12_thing (d + 1) Q 147 [(0, .ref (ad 187)), (2, .int x2)] [] m3) ∧ (¬ x2 = (114 : Int32) → (Ct ad μX12_fault d [.ref (ad 187), .int (m3.1 187 21)] m3 (fun r m5 => r = none ∧ Q (some (.int (0 : Int32))) m5))))))))))))))))))) ∧ (¬ v2 = 0 → (Ct ad μX12_number d [.ref (ad 187), .int (3 : Int32)] m1 (fun r m6 => ∃ v7 : Int32, r = some (.int v7) ∧ Q (some (.int v7)) m6))))))) : AW ad E0 μX12_thing (d + 1) Q 67 [(0, .ref (ad 187)), (2, .int x2)] [] m := by
  refine aw_iload_n (j := 1) dX12_thing_67 rfl rfl ?_
  refine aw_i2l dX12_thing_68 ?_
  refine aw_ldc2 dX12_thing_69 c_X12_169 ?_
  refine aw_ldc2 dX12_thing_72 c_X12_171 ?_
  refine aw_callS (rest := []) [.long x2.toInt64, .long (48 : Int64), .long (57 : Int64)] dX12_thing_75 k_X12_119 rfl h (Nat.le_of_ble_eq_true rfl) (fun v m1 h => ?_)
  obtain ⟨v2, rfl, h⟩ := h
  refine aw_eq (L' := [(0, .ref (ad 187)), (2, .int x2)]) (st' := [.int v2]) (m' := m1) ?_ rfl rfl rfl
  refine aw_if_eq (tgt := 87) dX12_thing_78 (by decide) (fun hc => ?_) (fun hc => ?_)
  · have h := h.1 hc
    refine aw_iload_n (j := 1) dX12_thing_87 rfl rfl ?_
    refine aw_i2l dX12_thing_88 ?_
    refine aw_ldc2 dX12_thing_89 c_X12_226 ?_
    refine aw_ldc2 dX12_thing_92 c_X12_228 ?_
    refine aw_callS (rest := []) [.long x2.toInt64, .long (97 : Int64), .long (100 : Int64)] dX12_thing_95 k_X12_119 rfl h (Nat.le_of_ble_eq_true rfl) (fun v m3 h => ?_)
    obtain ⟨v4, rfl, h⟩ := h
    refine aw_eq (L' := [(0, .ref (ad 187)), (2, .int x2)]) (st' := [.int v4]) (m' := m3) ?_ rfl rfl rfl
    refine aw_if_ne (tgt := 147) dX12_thing_98 (by decide) (fun hc => ?_) (fun hc => ?_)
    · have h := h.1 hc
      exact aw_sub [0, 1] rfl h
    · have h := h.2 hc
      refine aw_iload_n (j := 1) dX12_thing_101 rfl rfl ?_
      refine aw_bipush (v := 115) dX12_thing_102 (by decide) ?_
      refine aw_icmp_eq (tgt := 147) dX12_thing_104 (by decide) (fun hc => ?_) (fun hc => ?_)
      · have h := h.1 hc
        exact aw_sub [0, 1] rfl h
      · have h := h.2 hc
        refine aw_iload_n (j := 1) dX12_thing_107 rfl rfl ?_
        refine aw_bipush (v := 109) dX12_thing_108 (by decide) ?_
        refine aw_icmp_eq (tgt := 147) dX12_thing_110 (by decide) (fun hc => ?_) (fun hc => ?_)
        · have h := h.1 hc
          exact aw_sub [0, 1] rfl h
        · have h := h.2 hc
          refine aw_iload_n (j := 1) dX12_thing_113 rfl rfl ?_
          refine aw_bipush (v := 108) dX12_thing_114 (by decide) ?_
          refine aw_icmp_eq (tgt := 147) dX12_thing_116 (by decide) (fun hc => ?_) (fun hc => ?_)
          · have h := h.1 hc
            exact aw_sub [0, 1] rfl h
          · have h := h.2 hc
            refine aw_iload_n (j := 1) dX12_thing_119 rfl rfl ?_
            refine aw_bipush (v := 105) dX12_thing_120 (by decide) ?_
            refine aw_icmp_eq (tgt := 147) dX12_thing_122 (by decide) (fun hc => ?_) (fun hc => ?_)
            · have h := h.1 hc
              exact aw_sub [0, 1] rfl h
            · have h := h.2 hc
              refine aw_iload_n (j := 1) dX12_thing_125 rfl rfl ?_
              refine aw_bipush (v := 112) dX12_thing_126 (by decide) ?_
              refine aw_icmp_eq (tgt := 147) dX12_thing_128 (by decide) (fun hc => ?_) (fun hc => ?_)
              · have h := h.1 hc
                exact aw_sub [0, 1] rfl h
              · have h := h.2 hc
                refine aw_iload_n (j := 1) dX12_thing_131 rfl rfl ?_
                refine aw_bipush (v := 114) dX12_thing_132 (by decide) ?_
                refine aw_icmp_eq (tgt := 147) dX12_thing_134 (by decide) (fun hc => ?_) (fun hc => ?_)
                · have h := h.1 hc
                  exact aw_sub [0, 1] rfl h
                · have h := h.2 hc
                  refine aw_aload_n (j := 0) dX12_thing_137 rfl rfl ?_
                  refine aw_aload_n (j := 0) dX12_thing_138 rfl rfl ?_
                  refine aw_getfield (c := 0) (v := .int (m3.1 187 21)) dX12_thing_139 f_X12_147 ly_187 rfl rfl ?_
                  refine aw_callV (rest := []) [.int (m3.1 187 21)] dX12_thing_142 ly_187 rfl k_X12_165 rfl h (Nat.le_of_ble_eq_true rfl) (fun v m5 h => ?_)
                  obtain ⟨rfl, h⟩ := h
                  refine aw_eq (L' := [(0, .ref (ad 187)), (2, .int x2)]) (st' := []) (m' := m5) ?_ rfl rfl rfl
                  refine aw_iconst (v := 0) dX12_thing_145 (by decide) ?_
                  exact aw_ret (v := some (.int (0 : Int32))) rfl (Or.inr (Or.inl ⟨_, .int, rfl, rfl, rfl, dX12_thing_146⟩)) h
  · have h := h.2 hc
    refine aw_aload_n (j := 0) dX12_thing_81 rfl rfl ?_
    refine aw_iconst (v := 3) dX12_thing_82 (by decide) ?_
    refine aw_callV (rest := []) [.int (3 : Int32)] dX12_thing_83 ly_187 rfl k_X12_223 rfl h (Nat.le_of_ble_eq_true rfl) (fun v m6 h => ?_)
    obtain ⟨v7, rfl, h⟩ := h
    refine aw_eq (L' := [(0, .ref (ad 187)), (2, .int x2)]) (st' := [.int v7]) (m' := m6) ?_ rfl rfl rfl
    exact aw_ret (v := some (.int v7)) rfl (Or.inr (Or.inl ⟨_, .int, rfl, rfl, rfl, dX12_thing_86⟩)) h
set_option maxRecDepth 100000 in
set_option maxHeartbeats 4000000 in
theorem g_X12_thing_147 {ad : Nat → Nat} {d : Nat} {Q : Option Value → Wm → Prop} {m : Wm} {x2 : Int32} (h : ((¬ ((uI m 187 21 ((m.1 187 21) + (1 : Int32))).1 187 28) = (-1 : Int32) → (Ct ad μX12_letter d [.ref (ad 187), .int x2] (uI m 187 21 ((m.1 187 21) + (1 : Int32))) (fun r m1 => ∃ v2 : Int32, r = some (.int v2) ∧ Q (some (.int v2)) m1))) ∧ (((uI m 187 21 ((m.1 187 21) + (1 : Int32))).1 187 28) = (-1 : Int32) → Q (some (.int (0 : Int32))) (uI m 187 21 ((m.1 187 21) + (1 : Int32)))))) : AW ad E0 μX12_thing (d + 1) Q 147 [(0, .ref (ad 187)), (2, .int x2)] [] m := by
  refine aw_aload_n (j := 0) dX12_thing_147 rfl rfl ?_
  refine aw_dup dX12_thing_148 rfl ?_
  refine aw_getfield (c := 0) (v := .int (m.1 187 21)) dX12_thing_149 f_X12_147 ly_187 rfl rfl ?_
  refine aw_iconst (v := 1) dX12_thing_152 (by decide) ?_
  refine aw_iadd dX12_thing_153 ?_
  refine aw_putI dX12_thing_154 f_X12_147 cl_X12 rfl ly_187 rfl rfl rfl ?_
  refine aw_aload_n (j := 0) dX12_thing_157 rfl rfl ?_
  refine aw_getfield (c := 0) (v := .int ((uI m 187 21 ((m.1 187 21) + (1 : Int32))).1 187 28)) dX12_thing_158 f_X12_59 ly_187 rfl rfl ?_
  refine aw_iconst (v := -1) dX12_thing_161 (by decide) ?_
  refine aw_icmp_ne (tgt := 169) dX12_thing_162 (by decide) (fun hc => ?_) (fun hc => ?_)
  · have h := h.1 hc
    refine aw_aload_n (j := 0) dX12_thing_169 rfl rfl ?_
    refine aw_iload_n (j := 1) dX12_thing_170 rfl rfl ?_
    refine aw_callV (rest := []) [.int x2] dX12_thing_171 ly_187 rfl k_X12_230 rfl h (Nat.le_of_ble_eq_true rfl) (fun v m1 h => ?_)
    obtain ⟨v2, rfl, h⟩ := h
    refine aw_eq (L' := [(0, .ref (ad 187)), (2, .int x2)]) (st' := [.int v2]) (m' := m1) ?_ rfl rfl rfl
    exact aw_ret (v := some (.int v2)) rfl (Or.inr (Or.inl ⟨_, .int, rfl, rfl, rfl, dX12_thing_174⟩)) h
  · have h := h.2 hc
    refine aw_iconst (v := 0) dX12_thing_165 (by decide) ?_
    refine aw_goto (tgt := 174) dX12_thing_166 (by decide) ?_
    exact aw_ret (v := some (.int (0 : Int32))) rfl (Or.inr (Or.inl ⟨_, .int, rfl, rfl, rfl, dX12_thing_174⟩)) h
set_option maxRecDepth 100000 in
set_option maxHeartbeats 4000000 in
theorem v_X12_letter {ad : Nat → Nat} {d : Nat} {Q : Option Value → Wm → Prop} {m : Wm} {x1 : Int32} (h : AW ad E0 μX12_letter (d + 1) Q 14 [(0, .ref (ad 187)), (1, .int x1), (2, .int (m.1 187 28)), (3, .int (0 : Int32)), (4, .int (7 : Int32)), (5, .int (0 : Int32))] [] m) : Ct ad μX12_letter (d + 1) [.ref (ad 187), .int x1] m Q := by
  refine Ct.of (by decide +kernel) rfl (Nat.le_of_ble_eq_true rfl) ?_
  refine aw_eq (L' := [(0, .ref (ad 187)), (1, .int x1)]) ?_ rfl rfl rfl
  refine aw_aload_n (j := 0) dX12_letter_0 rfl rfl ?_
  refine aw_getfield (c := 0) (v := .int (m.1 187 28)) dX12_letter_1 f_X12_59 ly_187 rfl rfl ?_
  refine aw_istore_n (L' := [(2, .int (m.1 187 28)), (0, .ref (ad 187)), (1, .int x1)]) dX12_letter_4 rfl (by decide) rfl ?_
  refine aw_iconst (v := 0) dX12_letter_5 (by decide) ?_
  refine aw_istore_n (L' := [(3, .int (0 : Int32)), (2, .int (m.1 187 28)), (0, .ref (ad 187)), (1, .int x1)]) dX12_letter_6 rfl (by decide) rfl ?_
  refine aw_bipush (v := 7) dX12_letter_7 (by decide) ?_
  refine aw_istore (L' := [(4, .int (7 : Int32)), (3, .int (0 : Int32)), (2, .int (m.1 187 28)), (0, .ref (ad 187)), (1, .int x1)]) dX12_letter_9 (by decide) rfl ?_
  refine aw_iconst (v := 0) dX12_letter_11 (by decide) ?_
  refine aw_istore (L' := [(5, .int (0 : Int32)), (4, .int (7 : Int32)), (3, .int (0 : Int32)), (2, .int (m.1 187 28)), (0, .ref (ad 187)), (1, .int x1)]) dX12_letter_12 (by decide) rfl ?_
  exact aw_sub [4, 5, 3, 2, 1, 0] rfl h
set_option maxRecDepth 100000 in
set_option maxHeartbeats 4000000 in
theorem g_X12_letter_14 {ad : Nat → Nat} {d : Nat} {Q : Option Value → Wm → Prop} {m : Wm} {x1 x2 x3 x4 x5 : Int32} (h : (((m.1 187 0) ≤ x5 → ((x1 = 105 → Q (some (.int x2)) m) ∧ (x1 = 108 → Q (some (.int x4)) m) ∧ (x1 = 109 → Q (some (.int x3)) m) ∧ (x1 = 112 → (vp_in x2 8 ∧ Q (some (.int (m.1 190 x2.toNatClampNeg))) m)) ∧ (x1 = 114 → (vp_in x2 8 ∧ Q (some (.int (m.1 191 x2.toNatClampNeg))) m)) ∧ (x1 = 115 → (Ct ad μX12_sumOf d [.ref (ad 187), .int x2] m (fun r m3 => ∃ v4 : Int32, r = some (.int v4) ∧ Q (some (.int v4)) m3))) ∧ (¬ x1 = 105 → ¬ x1 = 108 → ¬ x1 = 109 → ¬ x1 = 112 → ¬ x1 = 114 → ¬ x1 = 115 → (Ct ad μX12_isArt d [.ref (ad 187), .int (x1 - (97 : Int32))] m (fun r m1 => ∃ v2 : Int32, r = some (.int v2) ∧ ((v2 = 0 → Q (some (.int (0 : Int32))) m1) ∧ (¬ v2 = 0 → (vp_in ((((4 : Int32) * x2) + x1) - (97 : Int32)) 32 ∧ Q (some (.int (m1.1 188 ((((4 : Int32) * x2) + x1) - (97 : Int32)).toNatClampNeg))) m1)))))))) ∧ (¬ (m.1 187 0) ≤ x5 → (vp_in (((4 : Int32) * x2) + x5) 32 ∧ (vp_in (((4 : Int32) * x2) + x5) 32 ∧ AW ad E0 μX12_letter (d + 1) Q 14 [(0, .ref (ad 187)), (1, .int x1), (2, .int x2), (3, .int (if x3 < (m.1 188 (((4 : Int32) * x2) + x5).toNatClampNeg) then (m.1 188 (((4 : Int32) * x2) + x5).toNatClampNeg) else x3)), (4, .int (if (m.1 188 (((4 : Int32) * x2) + x5).toNatClampNeg) < x4 then (m.1 188 (((4 : Int32) * x2) + x5).toNatClampNeg) else x4)), (5, .int (x5 + (1 : Int32)))] [] m))))) : AW ad E0 μX12_letter (d + 1) Q 14 [(0, .ref (ad 187)), (1, .int x1), (2, .int x2), (3, .int x3), (4, .int x4), (5, .int x5)] [] m := by
  refine aw_iload (j := 5) dX12_letter_14 rfl ?_
  refine aw_aload_n (j := 0) dX12_letter_16 rfl rfl ?_
  refine aw_getfield (c := 0) (v := .int (m.1 187 0)) dX12_letter_17 f_X12_9 ly_187 rfl rfl ?_
  refine aw_icmp_ge (tgt := 63) dX12_letter_20 (by decide) (fun hc => ?_) (fun hc => ?_)
  · have h := h.1 hc
    refine aw_iload_n (j := 1) dX12_letter_63 rfl rfl ?_
    by_cases c0 : x1 = 105
    · have h := h.1 c0
      refine aw_tswIn (tgt := 135) dX12_letter_64 c0 (by decide) (by decide) (by first | rfl | decide) (by decide) ?_
      refine aw_iload_n (j := 2) dX12_letter_135 rfl rfl ?_
      exact aw_ret (v := some (.int x2)) rfl (Or.inr (Or.inl ⟨_, .int, rfl, rfl, rfl, dX12_letter_136⟩)) h
    by_cases c1 : x1 = 108
    · have h := h.2.1 c1
      refine aw_tswIn (tgt := 132) dX12_letter_64 c1 (by decide) (by decide) (by first | rfl | decide) (by decide) ?_
      refine aw_iload (j := 4) dX12_letter_132 rfl ?_
      exact aw_ret (v := some (.int x4)) rfl (Or.inr (Or.inl ⟨_, .int, rfl, rfl, rfl, dX12_letter_134⟩)) h
    by_cases c2 : x1 = 109
    · have h := h.2.2.1 c2
      refine aw_tswIn (tgt := 130) dX12_letter_64 c2 (by decide) (by decide) (by first | rfl | decide) (by decide) ?_
      refine aw_iload_n (j := 3) dX12_letter_130 rfl rfl ?_
      exact aw_ret (v := some (.int x3)) rfl (Or.inr (Or.inl ⟨_, .int, rfl, rfl, rfl, dX12_letter_131⟩)) h
    by_cases c3 : x1 = 112
    · have h := h.2.2.2.1 c3
      refine aw_tswIn (tgt := 137) dX12_letter_64 c3 (by decide) (by decide) (by first | rfl | decide) (by decide) ?_
      refine aw_aload_n (j := 0) dX12_letter_137 rfl rfl ?_
      refine aw_getfield (c := 193) (v := .ref (ad 190)) dX12_letter_138 f_X12_21 ly_187 rfl rfl ?_
      refine aw_iload_n (j := 2) dX12_letter_141 rfl rfl ?_
      obtain ⟨hi, h⟩ := h
      refine aw_iaload dX12_letter_142 ly_190 hi ?_
      exact aw_ret (v := some (.int (m.1 190 x2.toNatClampNeg))) rfl (Or.inr (Or.inl ⟨_, .int, rfl, rfl, rfl, dX12_letter_143⟩)) h
    by_cases c4 : x1 = 114
    · have h := h.2.2.2.2.1 c4
      refine aw_tswIn (tgt := 144) dX12_letter_64 c4 (by decide) (by decide) (by first | rfl | decide) (by decide) ?_
      refine aw_aload_n (j := 0) dX12_letter_144 rfl rfl ?_
      refine aw_getfield (c := 194) (v := .ref (ad 191)) dX12_letter_145 f_X12_24 ly_187 rfl rfl ?_
      refine aw_iload_n (j := 2) dX12_letter_148 rfl rfl ?_
      obtain ⟨hi, h⟩ := h
      refine aw_iaload dX12_letter_149 ly_191 hi ?_
      exact aw_ret (v := some (.int (m.1 191 x2.toNatClampNeg))) rfl (Or.inr (Or.inl ⟨_, .int, rfl, rfl, rfl, dX12_letter_150⟩)) h
    by_cases c5 : x1 = 115
    · have h := h.2.2.2.2.2.1 c5
      refine aw_tswIn (tgt := 124) dX12_letter_64 c5 (by decide) (by decide) (by first | rfl | decide) (by decide) ?_
      refine aw_aload_n (j := 0) dX12_letter_124 rfl rfl ?_
      refine aw_iload_n (j := 2) dX12_letter_125 rfl rfl ?_
      refine aw_callV (rest := []) [.int x2] dX12_letter_126 ly_187 rfl k_X12_241 rfl h (Nat.le_of_ble_eq_true rfl) (fun v m3 h => ?_)
      obtain ⟨v4, rfl, h⟩ := h
      refine aw_eq (L' := [(0, .ref (ad 187)), (1, .int x1), (2, .int x2), (3, .int x3), (4, .int x4), (5, .int x5)]) (st' := [.int v4]) (m' := m3) ?_ rfl rfl rfl
      exact aw_ret (v := some (.int v4)) rfl (Or.inr (Or.inl ⟨_, .int, rfl, rfl, rfl, dX12_letter_129⟩)) h
    by_cases k0 : x1 = 106
    · have h := h.2.2.2.2.2.2 c0 c1 c2 c3 c4 c5
      refine aw_tswIn (tgt := 151) dX12_letter_64 k0 (by decide) (by decide) (by first | rfl | decide) (by decide) ?_
      refine aw_aload_n (j := 0) dX12_letter_151 rfl rfl ?_
      refine aw_iload_n (j := 1) dX12_letter_152 rfl rfl ?_
      refine aw_bipush (v := 97) dX12_letter_153 (by decide) ?_
      refine aw_isub dX12_letter_155 ?_
      refine aw_callV (rest := []) [.int (x1 - (97 : Int32))] dX12_letter_156 ly_187 rfl k_X12_244 rfl h (Nat.le_of_ble_eq_true rfl) (fun v m1 h => ?_)
      obtain ⟨v2, rfl, h⟩ := h
      refine aw_eq (L' := [(0, .ref (ad 187)), (1, .int x1), (2, .int x2), (3, .int x3), (4, .int x4), (5, .int x5)]) (st' := [.int v2]) (m' := m1) ?_ rfl rfl rfl
      refine aw_if_eq (tgt := 178) dX12_letter_159 (by decide) (fun hc => ?_) (fun hc => ?_)
      · have h := h.1 hc
        refine aw_iconst (v := 0) dX12_letter_178 (by decide) ?_
        exact aw_ret (v := some (.int (0 : Int32))) rfl (Or.inr (Or.inl ⟨_, .int, rfl, rfl, rfl, dX12_letter_179⟩)) h
      · have h := h.2 hc
        refine aw_aload_n (j := 0) dX12_letter_162 rfl rfl ?_
        refine aw_getfield (c := 191) (v := .ref (ad 188)) dX12_letter_163 f_X12_13 ly_187 rfl rfl ?_
        refine aw_iconst (v := 4) dX12_letter_166 (by decide) ?_
        refine aw_iload_n (j := 2) dX12_letter_167 rfl rfl ?_
        refine aw_imul dX12_letter_168 ?_
        refine aw_iload_n (j := 1) dX12_letter_169 rfl rfl ?_
        refine aw_iadd dX12_letter_170 ?_
        refine aw_bipush (v := 97) dX12_letter_171 (by decide) ?_
        refine aw_isub dX12_letter_173 ?_
        obtain ⟨hi, h⟩ := h
        refine aw_iaload dX12_letter_174 ly_188 hi ?_
        refine aw_goto (tgt := 179) dX12_letter_175 (by decide) ?_
        exact aw_ret (v := some (.int (m1.1 188 ((((4 : Int32) * x2) + x1) - (97 : Int32)).toNatClampNeg))) rfl (Or.inr (Or.inl ⟨_, .int, rfl, rfl, rfl, dX12_letter_179⟩)) h
    by_cases k1 : x1 = 107
    · have h := h.2.2.2.2.2.2 c0 c1 c2 c3 c4 c5
      refine aw_tswIn (tgt := 151) dX12_letter_64 k1 (by decide) (by decide) (by first | rfl | decide) (by decide) ?_
      refine aw_aload_n (j := 0) dX12_letter_151 rfl rfl ?_
      refine aw_iload_n (j := 1) dX12_letter_152 rfl rfl ?_
      refine aw_bipush (v := 97) dX12_letter_153 (by decide) ?_
      refine aw_isub dX12_letter_155 ?_
      refine aw_callV (rest := []) [.int (x1 - (97 : Int32))] dX12_letter_156 ly_187 rfl k_X12_244 rfl h (Nat.le_of_ble_eq_true rfl) (fun v m1 h => ?_)
      obtain ⟨v2, rfl, h⟩ := h
      refine aw_eq (L' := [(0, .ref (ad 187)), (1, .int x1), (2, .int x2), (3, .int x3), (4, .int x4), (5, .int x5)]) (st' := [.int v2]) (m' := m1) ?_ rfl rfl rfl
      refine aw_if_eq (tgt := 178) dX12_letter_159 (by decide) (fun hc => ?_) (fun hc => ?_)
      · have h := h.1 hc
        refine aw_iconst (v := 0) dX12_letter_178 (by decide) ?_
        exact aw_ret (v := some (.int (0 : Int32))) rfl (Or.inr (Or.inl ⟨_, .int, rfl, rfl, rfl, dX12_letter_179⟩)) h
      · have h := h.2 hc
        refine aw_aload_n (j := 0) dX12_letter_162 rfl rfl ?_
        refine aw_getfield (c := 191) (v := .ref (ad 188)) dX12_letter_163 f_X12_13 ly_187 rfl rfl ?_
        refine aw_iconst (v := 4) dX12_letter_166 (by decide) ?_
        refine aw_iload_n (j := 2) dX12_letter_167 rfl rfl ?_
        refine aw_imul dX12_letter_168 ?_
        refine aw_iload_n (j := 1) dX12_letter_169 rfl rfl ?_
        refine aw_iadd dX12_letter_170 ?_
        refine aw_bipush (v := 97) dX12_letter_171 (by decide) ?_
        refine aw_isub dX12_letter_173 ?_
        obtain ⟨hi, h⟩ := h
        refine aw_iaload dX12_letter_174 ly_188 hi ?_
        refine aw_goto (tgt := 179) dX12_letter_175 (by decide) ?_
        exact aw_ret (v := some (.int (m1.1 188 ((((4 : Int32) * x2) + x1) - (97 : Int32)).toNatClampNeg))) rfl (Or.inr (Or.inl ⟨_, .int, rfl, rfl, rfl, dX12_letter_179⟩)) h
    by_cases k2 : x1 = 110
    · have h := h.2.2.2.2.2.2 c0 c1 c2 c3 c4 c5
      refine aw_tswIn (tgt := 151) dX12_letter_64 k2 (by decide) (by decide) (by first | rfl | decide) (by decide) ?_
      refine aw_aload_n (j := 0) dX12_letter_151 rfl rfl ?_
      refine aw_iload_n (j := 1) dX12_letter_152 rfl rfl ?_
      refine aw_bipush (v := 97) dX12_letter_153 (by decide) ?_
      refine aw_isub dX12_letter_155 ?_
      refine aw_callV (rest := []) [.int (x1 - (97 : Int32))] dX12_letter_156 ly_187 rfl k_X12_244 rfl h (Nat.le_of_ble_eq_true rfl) (fun v m1 h => ?_)
      obtain ⟨v2, rfl, h⟩ := h
      refine aw_eq (L' := [(0, .ref (ad 187)), (1, .int x1), (2, .int x2), (3, .int x3), (4, .int x4), (5, .int x5)]) (st' := [.int v2]) (m' := m1) ?_ rfl rfl rfl
      refine aw_if_eq (tgt := 178) dX12_letter_159 (by decide) (fun hc => ?_) (fun hc => ?_)
      · have h := h.1 hc
        refine aw_iconst (v := 0) dX12_letter_178 (by decide) ?_
        exact aw_ret (v := some (.int (0 : Int32))) rfl (Or.inr (Or.inl ⟨_, .int, rfl, rfl, rfl, dX12_letter_179⟩)) h
      · have h := h.2 hc
        refine aw_aload_n (j := 0) dX12_letter_162 rfl rfl ?_
        refine aw_getfield (c := 191) (v := .ref (ad 188)) dX12_letter_163 f_X12_13 ly_187 rfl rfl ?_
        refine aw_iconst (v := 4) dX12_letter_166 (by decide) ?_
        refine aw_iload_n (j := 2) dX12_letter_167 rfl rfl ?_
        refine aw_imul dX12_letter_168 ?_
        refine aw_iload_n (j := 1) dX12_letter_169 rfl rfl ?_
        refine aw_iadd dX12_letter_170 ?_
        refine aw_bipush (v := 97) dX12_letter_171 (by decide) ?_
        refine aw_isub dX12_letter_173 ?_
        obtain ⟨hi, h⟩ := h
        refine aw_iaload dX12_letter_174 ly_188 hi ?_
        refine aw_goto (tgt := 179) dX12_letter_175 (by decide) ?_
        exact aw_ret (v := some (.int (m1.1 188 ((((4 : Int32) * x2) + x1) - (97 : Int32)).toNatClampNeg))) rfl (Or.inr (Or.inl ⟨_, .int, rfl, rfl, rfl, dX12_letter_179⟩)) h
    by_cases k3 : x1 = 111
    · have h := h.2.2.2.2.2.2 c0 c1 c2 c3 c4 c5
      refine aw_tswIn (tgt := 151) dX12_letter_64 k3 (by decide) (by decide) (by first | rfl | decide) (by decide) ?_
      refine aw_aload_n (j := 0) dX12_letter_151 rfl rfl ?_
      refine aw_iload_n (j := 1) dX12_letter_152 rfl rfl ?_
      refine aw_bipush (v := 97) dX12_letter_153 (by decide) ?_
      refine aw_isub dX12_letter_155 ?_
      refine aw_callV (rest := []) [.int (x1 - (97 : Int32))] dX12_letter_156 ly_187 rfl k_X12_244 rfl h (Nat.le_of_ble_eq_true rfl) (fun v m1 h => ?_)
      obtain ⟨v2, rfl, h⟩ := h
      refine aw_eq (L' := [(0, .ref (ad 187)), (1, .int x1), (2, .int x2), (3, .int x3), (4, .int x4), (5, .int x5)]) (st' := [.int v2]) (m' := m1) ?_ rfl rfl rfl
      refine aw_if_eq (tgt := 178) dX12_letter_159 (by decide) (fun hc => ?_) (fun hc => ?_)
      · have h := h.1 hc
        refine aw_iconst (v := 0) dX12_letter_178 (by decide) ?_
        exact aw_ret (v := some (.int (0 : Int32))) rfl (Or.inr (Or.inl ⟨_, .int, rfl, rfl, rfl, dX12_letter_179⟩)) h
      · have h := h.2 hc
        refine aw_aload_n (j := 0) dX12_letter_162 rfl rfl ?_
        refine aw_getfield (c := 191) (v := .ref (ad 188)) dX12_letter_163 f_X12_13 ly_187 rfl rfl ?_
        refine aw_iconst (v := 4) dX12_letter_166 (by decide) ?_
        refine aw_iload_n (j := 2) dX12_letter_167 rfl rfl ?_
        refine aw_imul dX12_letter_168 ?_
        refine aw_iload_n (j := 1) dX12_letter_169 rfl rfl ?_
        refine aw_iadd dX12_letter_170 ?_
        refine aw_bipush (v := 97) dX12_letter_171 (by decide) ?_
        refine aw_isub dX12_letter_173 ?_
        obtain ⟨hi, h⟩ := h
        refine aw_iaload dX12_letter_174 ly_188 hi ?_
        refine aw_goto (tgt := 179) dX12_letter_175 (by decide) ?_
        exact aw_ret (v := some (.int (m1.1 188 ((((4 : Int32) * x2) + x1) - (97 : Int32)).toNatClampNeg))) rfl (Or.inr (Or.inl ⟨_, .int, rfl, rfl, rfl, dX12_letter_179⟩)) h
    by_cases k4 : x1 = 113
    · have h := h.2.2.2.2.2.2 c0 c1 c2 c3 c4 c5
      refine aw_tswIn (tgt := 151) dX12_letter_64 k4 (by decide) (by decide) (by first | rfl | decide) (by decide) ?_
      refine aw_aload_n (j := 0) dX12_letter_151 rfl rfl ?_
      refine aw_iload_n (j := 1) dX12_letter_152 rfl rfl ?_
      refine aw_bipush (v := 97) dX12_letter_153 (by decide) ?_
      refine aw_isub dX12_letter_155 ?_
      refine aw_callV (rest := []) [.int (x1 - (97 : Int32))] dX12_letter_156 ly_187 rfl k_X12_244 rfl h (Nat.le_of_ble_eq_true rfl) (fun v m1 h => ?_)
      obtain ⟨v2, rfl, h⟩ := h
      refine aw_eq (L' := [(0, .ref (ad 187)), (1, .int x1), (2, .int x2), (3, .int x3), (4, .int x4), (5, .int x5)]) (st' := [.int v2]) (m' := m1) ?_ rfl rfl rfl
      refine aw_if_eq (tgt := 178) dX12_letter_159 (by decide) (fun hc => ?_) (fun hc => ?_)
      · have h := h.1 hc
        refine aw_iconst (v := 0) dX12_letter_178 (by decide) ?_
        exact aw_ret (v := some (.int (0 : Int32))) rfl (Or.inr (Or.inl ⟨_, .int, rfl, rfl, rfl, dX12_letter_179⟩)) h
      · have h := h.2 hc
        refine aw_aload_n (j := 0) dX12_letter_162 rfl rfl ?_
        refine aw_getfield (c := 191) (v := .ref (ad 188)) dX12_letter_163 f_X12_13 ly_187 rfl rfl ?_
        refine aw_iconst (v := 4) dX12_letter_166 (by decide) ?_
        refine aw_iload_n (j := 2) dX12_letter_167 rfl rfl ?_
        refine aw_imul dX12_letter_168 ?_
        refine aw_iload_n (j := 1) dX12_letter_169 rfl rfl ?_
        refine aw_iadd dX12_letter_170 ?_
        refine aw_bipush (v := 97) dX12_letter_171 (by decide) ?_
        refine aw_isub dX12_letter_173 ?_
        obtain ⟨hi, h⟩ := h
        refine aw_iaload dX12_letter_174 ly_188 hi ?_
        refine aw_goto (tgt := 179) dX12_letter_175 (by decide) ?_
        exact aw_ret (v := some (.int (m1.1 188 ((((4 : Int32) * x2) + x1) - (97 : Int32)).toNatClampNeg))) rfl (Or.inr (Or.inl ⟨_, .int, rfl, rfl, rfl, dX12_letter_179⟩)) h
    have h := h.2.2.2.2.2.2 c0 c1 c2 c3 c4 c5
    refine aw_tswOut (tgt := 151) dX12_letter_64 (by have e0 := i32_ne (n := 105) c0 (by decide); have e1 := i32_ne (n := 108) c1 (by decide); have e2 := i32_ne (n := 109) c2 (by decide); have e3 := i32_ne (n := 112) c3 (by decide); have e4 := i32_ne (n := 114) c4 (by decide); have e5 := i32_ne (n := 115) c5 (by decide); have f0 := i32_ne (n := 106) k0 (by decide); have f1 := i32_ne (n := 107) k1 (by decide); have f2 := i32_ne (n := 110) k2 (by decide); have f3 := i32_ne (n := 111) k3 (by decide); have f4 := i32_ne (n := 113) k4 (by decide); omega) (by decide) ?_
    refine aw_aload_n (j := 0) dX12_letter_151 rfl rfl ?_
    refine aw_iload_n (j := 1) dX12_letter_152 rfl rfl ?_
    refine aw_bipush (v := 97) dX12_letter_153 (by decide) ?_
    refine aw_isub dX12_letter_155 ?_
    refine aw_callV (rest := []) [.int (x1 - (97 : Int32))] dX12_letter_156 ly_187 rfl k_X12_244 rfl h (Nat.le_of_ble_eq_true rfl) (fun v m1 h => ?_)
    obtain ⟨v2, rfl, h⟩ := h
    refine aw_eq (L' := [(0, .ref (ad 187)), (1, .int x1), (2, .int x2), (3, .int x3), (4, .int x4), (5, .int x5)]) (st' := [.int v2]) (m' := m1) ?_ rfl rfl rfl
    refine aw_if_eq (tgt := 178) dX12_letter_159 (by decide) (fun hc => ?_) (fun hc => ?_)
    · have h := h.1 hc
      refine aw_iconst (v := 0) dX12_letter_178 (by decide) ?_
      exact aw_ret (v := some (.int (0 : Int32))) rfl (Or.inr (Or.inl ⟨_, .int, rfl, rfl, rfl, dX12_letter_179⟩)) h
    · have h := h.2 hc
      refine aw_aload_n (j := 0) dX12_letter_162 rfl rfl ?_
      refine aw_getfield (c := 191) (v := .ref (ad 188)) dX12_letter_163 f_X12_13 ly_187 rfl rfl ?_
      refine aw_iconst (v := 4) dX12_letter_166 (by decide) ?_
      refine aw_iload_n (j := 2) dX12_letter_167 rfl rfl ?_
      refine aw_imul dX12_letter_168 ?_
      refine aw_iload_n (j := 1) dX12_letter_169 rfl rfl ?_
      refine aw_iadd dX12_letter_170 ?_
      refine aw_bipush (v := 97) dX12_letter_171 (by decide) ?_
      refine aw_isub dX12_letter_173 ?_
      obtain ⟨hi, h⟩ := h
      refine aw_iaload dX12_letter_174 ly_188 hi ?_
      refine aw_goto (tgt := 179) dX12_letter_175 (by decide) ?_
      exact aw_ret (v := some (.int (m1.1 188 ((((4 : Int32) * x2) + x1) - (97 : Int32)).toNatClampNeg))) rfl (Or.inr (Or.inl ⟨_, .int, rfl, rfl, rfl, dX12_letter_179⟩)) h
  · have h := h.2 hc
    refine aw_iload_n (j := 3) dX12_letter_23 rfl rfl ?_
    refine aw_aload_n (j := 0) dX12_letter_24 rfl rfl ?_
    refine aw_getfield (c := 191) (v := .ref (ad 188)) dX12_letter_25 f_X12_13 ly_187 rfl rfl ?_
    refine aw_iconst (v := 4) dX12_letter_28 (by decide) ?_
    refine aw_iload_n (j := 2) dX12_letter_29 rfl rfl ?_
    refine aw_imul dX12_letter_30 ?_
    refine aw_iload (j := 5) dX12_letter_31 rfl ?_
    refine aw_iadd dX12_letter_33 ?_
    obtain ⟨hi, h⟩ := h
    refine aw_iaload dX12_letter_34 ly_188 hi ?_
    refine aw_max dX12_letter_35 k_X12_233 (Nat.le_of_ble_eq_true rfl) ?_
    refine aw_istore_n (L' := [(3, .int (if x3 < (m.1 188 (((4 : Int32) * x2) + x5).toNatClampNeg) then (m.1 188 (((4 : Int32) * x2) + x5).toNatClampNeg) else x3)), (0, .ref (ad 187)), (1, .int x1), (2, .int x2), (4, .int x4), (5, .int x5)]) dX12_letter_38 rfl (by decide) rfl ?_
    refine aw_iload (j := 4) dX12_letter_39 rfl ?_
    refine aw_aload_n (j := 1) dX12_letter_41 rfl rfl ?_
    refine aw_getfield (c := 191) (v := .ref (ad 188)) dX12_letter_42 f_X12_13 ly_187 rfl rfl ?_
    refine aw_iconst (v := 4) dX12_letter_45 (by decide) ?_
    refine aw_iload_n (j := 3) dX12_letter_46 rfl rfl ?_
    refine aw_imul dX12_letter_47 ?_
    refine aw_iload (j := 5) dX12_letter_48 rfl ?_
    refine aw_iadd dX12_letter_50 ?_
    obtain ⟨hi, h⟩ := h
    refine aw_iaload dX12_letter_51 ly_188 hi ?_
    refine aw_min dX12_letter_52 k_X12_238 (Nat.le_of_ble_eq_true rfl) ?_
    refine aw_istore (L' := [(4, .int (if (m.1 188 (((4 : Int32) * x2) + x5).toNatClampNeg) < x4 then (m.1 188 (((4 : Int32) * x2) + x5).toNatClampNeg) else x4)), (3, .int (if x3 < (m.1 188 (((4 : Int32) * x2) + x5).toNatClampNeg) then (m.1 188 (((4 : Int32) * x2) + x5).toNatClampNeg) else x3)), (0, .ref (ad 187)), (1, .int x1), (2, .int x2), (5, .int x5)]) dX12_letter_55 (by decide) rfl ?_
    refine aw_iinc (j := 5) (v := x5 + (1 : Int32)) (L' := [(5, .int (x5 + (1 : Int32))), (4, .int (if (m.1 188 (((4 : Int32) * x2) + x5).toNatClampNeg) < x4 then (m.1 188 (((4 : Int32) * x2) + x5).toNatClampNeg) else x4)), (3, .int (if x3 < (m.1 188 (((4 : Int32) * x2) + x5).toNatClampNeg) then (m.1 188 (((4 : Int32) * x2) + x5).toNatClampNeg) else x3)), (0, .ref (ad 187)), (1, .int x1), (2, .int x2)]) dX12_letter_57 rfl rfl (by decide) rfl ?_
    refine aw_goto (tgt := 14) dX12_letter_60 (by decide) ?_
    exact aw_sub [3, 4, 5, 2, 1, 0] rfl h
set_option maxRecDepth 100000 in
set_option maxHeartbeats 4000000 in
theorem v_X12_rule {ad : Nat → Nat} {d : Nat} {Q : Option Value → Wm → Prop} {m : Wm} (h : (Ct ad μX12_begin d [.ref (ad 187), .ref (ad 195), .int ((uI m 187 17 (0 : Int32)).1 187 14), .int (40 : Int32)] (uI m 187 17 (0 : Int32)) (fun r m1 => r = none ∧ ((((uI m 187 17 (0 : Int32)).1 187 14) ≤ 0 → AW ad E0 μX12_rule (d + 1) Q 73 [(0, .ref (ad 187)), (1, .int ((uI m 187 17 (0 : Int32)).1 187 14)), (2, .int (0 : Int32))] [] (uI (uI m1 187 14 (0 : Int32)) 187 28 (-1 : Int32))) ∧ (¬ ((uI m 187 17 (0 : Int32)).1 187 14) ≤ 0 → (Ct ad μX12_held d [.ref (ad 187), .int (0 : Int32)] (uI (uI m1 187 14 (0 : Int32)) 187 28 (-1 : Int32)) (fun r m2 => ∃ v3 : Int32, r = some (.int v3) ∧ ((((uI m 187 17 (0 : Int32)).1 187 14) ≤ (m2.1 187 21) → AW ad E0 μX12_rule (d + 1) Q 57 [(0, .ref (ad 187)), (1, .int ((uI m 187 17 (0 : Int32)).1 187 14))] [] m2) ∧ (¬ ((uI m 187 17 (0 : Int32)).1 187 14) ≤ (m2.1 187 21) → (Ct ad μX12_fault d [.ref (ad 187), .int (m2.1 187 21)] m2 (fun r m4 => r = none ∧ AW ad E0 μX12_rule (d + 1) Q 57 [(0, .ref (ad 187)), (1, .int ((uI m 187 17 (0 : Int32)).1 187 14))] [] m4))))))))))) : Ct ad μX12_rule (d + 1) [.ref (ad 187)] m Q := by
  refine Ct.of (by decide +kernel) rfl (Nat.le_of_ble_eq_true rfl) ?_
  refine aw_eq (L' := [(0, .ref (ad 187))]) ?_ rfl rfl rfl
  refine aw_aload_n (j := 0) dX12_rule_0 rfl rfl ?_
  refine aw_iconst (v := 0) dX12_rule_1 (by decide) ?_
  refine aw_putI dX12_rule_2 f_X12_110 cl_X12 rfl ly_187 rfl rfl rfl ?_
  refine aw_aload_n (j := 0) dX12_rule_5 rfl rfl ?_
  refine aw_getfield (c := 0) (v := .int ((uI m 187 17 (0 : Int32)).1 187 14)) dX12_rule_6 f_X12_135 ly_187 rfl rfl ?_
  refine aw_istore_n (L' := [(1, .int ((uI m 187 17 (0 : Int32)).1 187 14)), (0, .ref (ad 187))]) dX12_rule_9 rfl (by decide) rfl ?_
  refine aw_aload_n (j := 1) dX12_rule_10 rfl rfl ?_
  refine aw_aload_n (j := 1) dX12_rule_11 rfl rfl ?_
  refine aw_getfield (c := 198) (v := .ref (ad 195)) dX12_rule_12 f_X12_39 ly_187 rfl rfl ?_
  refine aw_iload_n (j := 0) dX12_rule_15 rfl rfl ?_
  refine aw_bipush (v := 40) dX12_rule_16 (by decide) ?_
  refine aw_callV (rest := []) [.ref (ad 195), .int ((uI m 187 17 (0 : Int32)).1 187 14), .int (40 : Int32)] dX12_rule_18 ly_187 rfl k_X12_173 rfl h (Nat.le_of_ble_eq_true rfl) (fun v m1 h => ?_)
  obtain ⟨rfl, h⟩ := h
  refine aw_eq (L' := [(1, .int ((uI m 187 17 (0 : Int32)).1 187 14)), (0, .ref (ad 187))]) (st' := []) (m' := m1) ?_ rfl rfl rfl
  refine aw_aload_n (j := 1) dX12_rule_21 rfl rfl ?_
  refine aw_iconst (v := 0) dX12_rule_22 (by decide) ?_
  refine aw_putI dX12_rule_23 f_X12_135 cl_X12 rfl ly_187 rfl rfl rfl ?_
  refine aw_aload_n (j := 1) dX12_rule_26 rfl rfl ?_
  refine aw_iconst (v := -1) dX12_rule_27 (by decide) ?_
  refine aw_putI dX12_rule_28 f_X12_59 cl_X12 rfl ly_187 rfl rfl rfl ?_
  refine aw_iload_n (j := 0) dX12_rule_31 rfl rfl ?_
  refine aw_if_le (tgt := 71) dX12_rule_32 (by decide) (fun hc => ?_) (fun hc => ?_)
  · have h := h.1 hc
    refine aw_iconst (v := 0) dX12_rule_71 (by decide) ?_
    refine aw_istore_n (L' := [(2, .int (0 : Int32)), (1, .int ((uI m 187 17 (0 : Int32)).1 187 14)), (0, .ref (ad 187))]) dX12_rule_72 rfl (by decide) rfl ?_
    exact aw_sub [2, 1, 0] rfl h
  · have h := h.2 hc
    refine aw_aload_n (j := 1) dX12_rule_35 rfl rfl ?_
    refine aw_iconst (v := 0) dX12_rule_36 (by decide) ?_
    refine aw_callV (rest := []) [.int (0 : Int32)] dX12_rule_37 ly_187 rfl k_X12_220 rfl h (Nat.le_of_ble_eq_true rfl) (fun v m2 h => ?_)
    obtain ⟨v3, rfl, h⟩ := h
    refine aw_eq (L' := [(1, .int ((uI m 187 17 (0 : Int32)).1 187 14)), (0, .ref (ad 187))]) (st' := [.int v3]) (m' := m2) ?_ rfl rfl rfl
    refine aw_pop dX12_rule_40 rfl ?_
    refine aw_aload_n (j := 1) dX12_rule_41 rfl rfl ?_
    refine aw_getfield (c := 0) (v := .int (m2.1 187 21)) dX12_rule_42 f_X12_147 ly_187 rfl rfl ?_
    refine aw_iload_n (j := 0) dX12_rule_45 rfl rfl ?_
    refine aw_icmp_ge (tgt := 57) dX12_rule_46 (by decide) (fun hc => ?_) (fun hc => ?_)
    · have h := h.1 hc
      exact aw_sub [1, 0] rfl h
    · have h := h.2 hc
      refine aw_aload_n (j := 1) dX12_rule_49 rfl rfl ?_
      refine aw_aload_n (j := 1) dX12_rule_50 rfl rfl ?_
      refine aw_getfield (c := 0) (v := .int (m2.1 187 21)) dX12_rule_51 f_X12_147 ly_187 rfl rfl ?_
      refine aw_callV (rest := []) [.int (m2.1 187 21)] dX12_rule_54 ly_187 rfl k_X12_165 rfl h (Nat.le_of_ble_eq_true rfl) (fun v m4 h => ?_)
      obtain ⟨rfl, h⟩ := h
      refine aw_eq (L' := [(1, .int ((uI m 187 17 (0 : Int32)).1 187 14)), (0, .ref (ad 187))]) (st' := []) (m' := m4) ?_ rfl rfl rfl
      exact aw_sub [1, 0] rfl h
set_option maxRecDepth 100000 in
set_option maxHeartbeats 4000000 in
theorem g_X12_rule_57 {ad : Nat → Nat} {d : Nat} {Q : Option Value → Wm → Prop} {m : Wm} {x1 : Int32} (h : (Ct ad μX12_fine d [.ref (ad 187)] m (fun r m1 => ∃ v2 : Int32, r = some (.int v2) ∧ ((¬ v2 = 0 → AW ad E0 μX12_rule (d + 1) Q 73 [(0, .ref (ad 187)), (1, .int x1), (2, .int (0 : Int32))] [] m1) ∧ (v2 = 0 → Q (some (.int ((-1 : Int32) - (m1.1 187 22)))) m1))))) : AW ad E0 μX12_rule (d + 1) Q 57 [(0, .ref (ad 187)), (1, .int x1)] [] m := by
  refine aw_aload_n (j := 0) dX12_rule_57 rfl rfl ?_
  refine aw_callV (rest := []) [] dX12_rule_58 ly_187 rfl k_X12_153 rfl h (Nat.le_of_ble_eq_true rfl) (fun v m1 h => ?_)
  obtain ⟨v2, rfl, h⟩ := h
  refine aw_eq (L' := [(0, .ref (ad 187)), (1, .int x1)]) (st' := [.int v2]) (m' := m1) ?_ rfl rfl rfl
  refine aw_if_ne (tgt := 71) dX12_rule_61 (by decide) (fun hc => ?_) (fun hc => ?_)
  · have h := h.1 hc
    refine aw_iconst (v := 0) dX12_rule_71 (by decide) ?_
    refine aw_istore_n (L' := [(2, .int (0 : Int32)), (0, .ref (ad 187)), (1, .int x1)]) dX12_rule_72 rfl (by decide) rfl ?_
    exact aw_sub [1, 2, 0] rfl h
  · have h := h.2 hc
    refine aw_iconst (v := -1) dX12_rule_64 (by decide) ?_
    refine aw_aload_n (j := 0) dX12_rule_65 rfl rfl ?_
    refine aw_getfield (c := 0) (v := .int (m1.1 187 22)) dX12_rule_66 f_X12_150 ly_187 rfl rfl ?_
    refine aw_isub dX12_rule_69 ?_
    exact aw_ret (v := some (.int ((-1 : Int32) - (m1.1 187 22)))) rfl (Or.inr (Or.inl ⟨_, .int, rfl, rfl, rfl, dX12_rule_70⟩)) h
set_option maxRecDepth 100000 in
set_option maxHeartbeats 4000000 in
theorem g_X12_rule_73 {ad : Nat → Nat} {d : Nat} {Q : Option Value → Wm → Prop} {m : Wm} {x1 x2 : Int32} (h : ((x1 ≤ x2 → Q (some (.int (0 : Int32))) (uI m 187 27 x1)) ∧ (¬ x1 ≤ x2 → (vp_in x2 80 ∧ (vp_in x2 40 ∧ AW ad E0 μX12_rule (d + 1) Q 73 [(0, .ref (ad 187)), (1, .int x1), (2, .int (x2 + (1 : Int32)))] [] (uI m 200 x2.toNatClampNeg (vp_nar .byte (m.1 195 x2.toNatClampNeg)))))))) : AW ad E0 μX12_rule (d + 1) Q 73 [(0, .ref (ad 187)), (1, .int x1), (2, .int x2)] [] m := by
  refine aw_iload_n (j := 2) dX12_rule_73 rfl rfl ?_
  refine aw_iload_n (j := 1) dX12_rule_74 rfl rfl ?_
  refine aw_icmp_ge (tgt := 96) dX12_rule_75 (by decide) (fun hc => ?_) (fun hc => ?_)
  · have h := h.1 hc
    refine aw_aload_n (j := 0) dX12_rule_96 rfl rfl ?_
    refine aw_iload_n (j := 1) dX12_rule_97 rfl rfl ?_
    refine aw_putI dX12_rule_98 f_X12_247 cl_X12 rfl ly_187 rfl rfl rfl ?_
    refine aw_iconst (v := 0) dX12_rule_101 (by decide) ?_
    exact aw_ret (v := some (.int (0 : Int32))) rfl (Or.inr (Or.inl ⟨_, .int, rfl, rfl, rfl, dX12_rule_102⟩)) h
  · have h := h.2 hc
    refine aw_aload_n (j := 0) dX12_rule_78 rfl rfl ?_
    refine aw_getfield (c := 203) (v := .ref (ad 200)) dX12_rule_79 f_X12_56 ly_187 rfl rfl ?_
    refine aw_iload_n (j := 2) dX12_rule_82 rfl rfl ?_
    refine aw_aload_n (j := 0) dX12_rule_83 rfl rfl ?_
    refine aw_getfield (c := 198) (v := .ref (ad 195)) dX12_rule_84 f_X12_39 ly_187 rfl rfl ?_
    refine aw_iload_n (j := 2) dX12_rule_87 rfl rfl ?_
    obtain ⟨hi, h⟩ := h
    refine aw_baload dX12_rule_88 ly_195 hi ?_
    obtain ⟨hi, h⟩ := h
    refine aw_bastore dX12_rule_89 ly_200 hi ?_
    refine aw_iinc (j := 2) (v := x2 + (1 : Int32)) (L' := [(2, .int (x2 + (1 : Int32))), (0, .ref (ad 187)), (1, .int x1)]) dX12_rule_90 rfl rfl (by decide) rfl ?_
    refine aw_goto (tgt := 73) dX12_rule_93 (by decide) ?_
    exact aw_sub [1, 2, 0] rfl h
set_option maxRecDepth 100000 in
set_option maxHeartbeats 4000000 in
theorem v_X12_sumOf {ad : Nat → Nat} {d : Nat} {Q : Option Value → Wm → Prop} {m : Wm} {x1 : Int32} (h : AW ad E0 μX12_sumOf d Q 4 [(0, .ref (ad 187)), (1, .int x1), (2, .int (0 : Int32)), (3, .int (0 : Int32))] [] m) : Ct ad μX12_sumOf d [.ref (ad 187), .int x1] m Q := by
  refine Ct.of (by decide +kernel) rfl (Nat.le_of_ble_eq_true rfl) ?_
  refine aw_eq (L' := [(0, .ref (ad 187)), (1, .int x1)]) ?_ rfl rfl rfl
  refine aw_iconst (v := 0) dX12_sumOf_0 (by decide) ?_
  refine aw_istore_n (L' := [(2, .int (0 : Int32)), (0, .ref (ad 187)), (1, .int x1)]) dX12_sumOf_1 rfl (by decide) rfl ?_
  refine aw_iconst (v := 0) dX12_sumOf_2 (by decide) ?_
  refine aw_istore_n (L' := [(3, .int (0 : Int32)), (2, .int (0 : Int32)), (0, .ref (ad 187)), (1, .int x1)]) dX12_sumOf_3 rfl (by decide) rfl ?_
  exact aw_sub [2, 3, 1, 0] rfl h
set_option maxRecDepth 100000 in
set_option maxHeartbeats 4000000 in
theorem g_X12_sumOf_4 {ad : Nat → Nat} {d : Nat} {Q : Option Value → Wm → Prop} {m : Wm} {x1 x2 x3 : Int32} (h : (((m.1 187 0) ≤ x3 → Q (some (.int x2)) m) ∧ (¬ (m.1 187 0) ≤ x3 → (vp_in (((4 : Int32) * x1) + x3) 32 ∧ AW ad E0 μX12_sumOf d Q 4 [(0, .ref (ad 187)), (1, .int x1), (2, .int (x2 + (m.1 188 (((4 : Int32) * x1) + x3).toNatClampNeg))), (3, .int (x3 + (1 : Int32)))] [] m)))) : AW ad E0 μX12_sumOf d Q 4 [(0, .ref (ad 187)), (1, .int x1), (2, .int x2), (3, .int x3)] [] m := by
  refine aw_iload_n (j := 3) dX12_sumOf_4 rfl rfl ?_
  refine aw_aload_n (j := 0) dX12_sumOf_5 rfl rfl ?_
  refine aw_getfield (c := 0) (v := .int (m.1 187 0)) dX12_sumOf_6 f_X12_9 ly_187 rfl rfl ?_
  refine aw_icmp_ge (tgt := 31) dX12_sumOf_9 (by decide) (fun hc => ?_) (fun hc => ?_)
  · have h := h.1 hc
    refine aw_iload_n (j := 2) dX12_sumOf_31 rfl rfl ?_
    exact aw_ret (v := some (.int x2)) rfl (Or.inr (Or.inl ⟨_, .int, rfl, rfl, rfl, dX12_sumOf_32⟩)) h
  · have h := h.2 hc
    refine aw_iload_n (j := 2) dX12_sumOf_12 rfl rfl ?_
    refine aw_aload_n (j := 0) dX12_sumOf_13 rfl rfl ?_
    refine aw_getfield (c := 191) (v := .ref (ad 188)) dX12_sumOf_14 f_X12_13 ly_187 rfl rfl ?_
    refine aw_iconst (v := 4) dX12_sumOf_17 (by decide) ?_
    refine aw_iload_n (j := 1) dX12_sumOf_18 rfl rfl ?_
    refine aw_imul dX12_sumOf_19 ?_
    refine aw_iload_n (j := 3) dX12_sumOf_20 rfl rfl ?_
    refine aw_iadd dX12_sumOf_21 ?_
    obtain ⟨hi, h⟩ := h
    refine aw_iaload dX12_sumOf_22 ly_188 hi ?_
    refine aw_iadd dX12_sumOf_23 ?_
    refine aw_istore_n (L' := [(2, .int (x2 + (m.1 188 (((4 : Int32) * x1) + x3).toNatClampNeg))), (0, .ref (ad 187)), (1, .int x1), (3, .int x3)]) dX12_sumOf_24 rfl (by decide) rfl ?_
    refine aw_iinc (j := 3) (v := x3 + (1 : Int32)) (L' := [(3, .int (x3 + (1 : Int32))), (2, .int (x2 + (m.1 188 (((4 : Int32) * x1) + x3).toNatClampNeg))), (0, .ref (ad 187)), (1, .int x1)]) dX12_sumOf_25 rfl rfl (by decide) rfl ?_
    refine aw_goto (tgt := 4) dX12_sumOf_28 (by decide) ?_
    exact aw_sub [2, 3, 1, 0] rfl h
set_option maxRecDepth 100000 in
set_option maxHeartbeats 4000000 in
theorem v_X12_sumOfAll {ad : Nat → Nat} {d : Nat} {Q : Option Value → Wm → Prop} {m : Wm} (h : AW ad E0 μX12_sumOfAll (d + 1) Q 4 [(0, .ref (ad 187)), (1, .int (0 : Int32)), (2, .int (0 : Int32))] [] m) : Ct ad μX12_sumOfAll (d + 1) [.ref (ad 187)] m Q := by
  refine Ct.of (by decide +kernel) rfl (Nat.le_of_ble_eq_true rfl) ?_
  refine aw_eq (L' := [(0, .ref (ad 187))]) ?_ rfl rfl rfl
  refine aw_iconst (v := 0) dX12_sumOfAll_0 (by decide) ?_
  refine aw_istore_n (L' := [(1, .int (0 : Int32)), (0, .ref (ad 187))]) dX12_sumOfAll_1 rfl (by decide) rfl ?_
  refine aw_iconst (v := 0) dX12_sumOfAll_2 (by decide) ?_
  refine aw_istore_n (L' := [(2, .int (0 : Int32)), (1, .int (0 : Int32)), (0, .ref (ad 187))]) dX12_sumOfAll_3 rfl (by decide) rfl ?_
  exact aw_sub [2, 1, 0] rfl h
set_option maxRecDepth 100000 in
set_option maxHeartbeats 4000000 in
theorem g_X12_sumOfAll_4 {ad : Nat → Nat} {d : Nat} {Q : Option Value → Wm → Prop} {m : Wm} {x1 x2 : Int32} (h : (((m.1 187 1) ≤ x2 → Q (some (.int x1)) m) ∧ (¬ (m.1 187 1) ≤ x2 → (Ct ad μX12_sumOf d [.ref (ad 187), .int x2] m (fun r m1 => ∃ v2 : Int32, r = some (.int v2) ∧ AW ad E0 μX12_sumOfAll (d + 1) Q 4 [(0, .ref (ad 187)), (1, .int (x1 + v2)), (2, .int (x2 + (1 : Int32)))] [] m1))))) : AW ad E0 μX12_sumOfAll (d + 1) Q 4 [(0, .ref (ad 187)), (1, .int x1), (2, .int x2)] [] m := by
  refine aw_iload_n (j := 2) dX12_sumOfAll_4 rfl rfl ?_
  refine aw_aload_n (j := 0) dX12_sumOfAll_5 rfl rfl ?_
  refine aw_getfield (c := 0) (v := .int (m.1 187 1)) dX12_sumOfAll_6 f_X12_116 ly_187 rfl rfl ?_
  refine aw_icmp_ge (tgt := 26) dX12_sumOfAll_9 (by decide) (fun hc => ?_) (fun hc => ?_)
  · have h := h.1 hc
    refine aw_iload_n (j := 1) dX12_sumOfAll_26 rfl rfl ?_
    exact aw_ret (v := some (.int x1)) rfl (Or.inr (Or.inl ⟨_, .int, rfl, rfl, rfl, dX12_sumOfAll_27⟩)) h
  · have h := h.2 hc
    refine aw_iload_n (j := 1) dX12_sumOfAll_12 rfl rfl ?_
    refine aw_aload_n (j := 0) dX12_sumOfAll_13 rfl rfl ?_
    refine aw_iload_n (j := 2) dX12_sumOfAll_14 rfl rfl ?_
    refine aw_callV (rest := [.int x1]) [.int x2] dX12_sumOfAll_15 ly_187 rfl k_X12_241 rfl h (Nat.le_of_ble_eq_true rfl) (fun v m1 h => ?_)
    obtain ⟨v2, rfl, h⟩ := h
    refine aw_eq (L' := [(0, .ref (ad 187)), (1, .int x1), (2, .int x2)]) (st' := [.int v2, .int x1]) (m' := m1) ?_ rfl rfl rfl
    refine aw_iadd dX12_sumOfAll_18 ?_
    refine aw_istore_n (L' := [(1, .int (x1 + v2)), (0, .ref (ad 187)), (2, .int x2)]) dX12_sumOfAll_19 rfl (by decide) rfl ?_
    refine aw_iinc (j := 2) (v := x2 + (1 : Int32)) (L' := [(2, .int (x2 + (1 : Int32))), (1, .int (x1 + v2)), (0, .ref (ad 187))]) dX12_sumOfAll_20 rfl rfl (by decide) rfl ?_
    refine aw_goto (tgt := 4) dX12_sumOfAll_23 (by decide) ?_
    exact aw_sub [2, 1, 0] rfl h
set_option maxRecDepth 100000 in
set_option maxHeartbeats 4000000 in
theorem v_X12_power {ad : Nat → Nat} {d : Nat} {Q : Option Value → Wm → Prop} {m : Wm} {x1 : Int32} (h : ((¬ (m.1 187 27) = 0 → (Ct ad μX12_begin d [.ref (ad 187), .ref (ad 200), .int (m.1 187 27), .int (40 : Int32)] m (fun r m1 => r = none ∧ (Ct ad μX12_held d [.ref (ad 187), .int (0 : Int32)] (uI m1 187 28 x1) (fun r m2 => ∃ v3 : Int32, r = some (.int v3) ∧ Q (some (.int (if (-9999 : Int32) < (if v3 < (9999 : Int32) then v3 else (9999 : Int32)) then (if v3 < (9999 : Int32) then v3 else (9999 : Int32)) else (-9999 : Int32)))) m2))))) ∧ ((m.1 187 27) = 0 → (Ct ad μX12_sumOf d [.ref (ad 187), .int x1] m (fun r m4 => ∃ v5 : Int32, r = some (.int v5) ∧ Q (some (.int v5)) m4))))) : Ct ad μX12_power (d + 1) [.ref (ad 187), .int x1] m Q := by
  refine Ct.of (by decide +kernel) rfl (Nat.le_of_ble_eq_true rfl) ?_
  refine aw_eq (L' := [(0, .ref (ad 187)), (1, .int x1)]) ?_ rfl rfl rfl
  refine aw_aload_n (j := 0) dX12_power_0 rfl rfl ?_
  refine aw_getfield (c := 0) (v := .int (m.1 187 27)) dX12_power_1 f_X12_247 ly_187 rfl rfl ?_
  refine aw_if_ne (tgt := 13) dX12_power_4 (by decide) (fun hc => ?_) (fun hc => ?_)
  · have h := h.1 hc
    refine aw_aload_n (j := 0) dX12_power_13 rfl rfl ?_
    refine aw_aload_n (j := 0) dX12_power_14 rfl rfl ?_
    refine aw_getfield (c := 203) (v := .ref (ad 200)) dX12_power_15 f_X12_56 ly_187 rfl rfl ?_
    refine aw_aload_n (j := 0) dX12_power_18 rfl rfl ?_
    refine aw_getfield (c := 0) (v := .int (m.1 187 27)) dX12_power_19 f_X12_247 ly_187 rfl rfl ?_
    refine aw_bipush (v := 40) dX12_power_22 (by decide) ?_
    refine aw_callV (rest := []) [.ref (ad 200), .int (m.1 187 27), .int (40 : Int32)] dX12_power_24 ly_187 rfl k_X12_173 rfl h (Nat.le_of_ble_eq_true rfl) (fun v m1 h => ?_)
    obtain ⟨rfl, h⟩ := h
    refine aw_eq (L' := [(0, .ref (ad 187)), (1, .int x1)]) (st' := []) (m' := m1) ?_ rfl rfl rfl
    refine aw_aload_n (j := 0) dX12_power_27 rfl rfl ?_
    refine aw_iload_n (j := 1) dX12_power_28 rfl rfl ?_
    refine aw_putI dX12_power_29 f_X12_59 cl_X12 rfl ly_187 rfl rfl rfl ?_
    refine aw_sipush (v := -9999) dX12_power_32 (by decide) ?_
    refine aw_sipush (v := 9999) dX12_power_35 (by decide) ?_
    refine aw_aload_n (j := 0) dX12_power_38 rfl rfl ?_
    refine aw_iconst (v := 0) dX12_power_39 (by decide) ?_
    refine aw_callV (rest := [.int (9999 : Int32), .int (-9999 : Int32)]) [.int (0 : Int32)] dX12_power_40 ly_187 rfl k_X12_220 rfl h (Nat.le_of_ble_eq_true rfl) (fun v m2 h => ?_)
    obtain ⟨v3, rfl, h⟩ := h
    refine aw_eq (L' := [(0, .ref (ad 187)), (1, .int x1)]) (st' := [.int v3, .int (9999 : Int32), .int (-9999 : Int32)]) (m' := m2) ?_ rfl rfl rfl
    refine aw_min dX12_power_43 k_X12_238 (Nat.le_of_ble_eq_true rfl) ?_
    refine aw_max dX12_power_46 k_X12_233 (Nat.le_of_ble_eq_true rfl) ?_
    exact aw_ret (v := some (.int (if (-9999 : Int32) < (if v3 < (9999 : Int32) then v3 else (9999 : Int32)) then (if v3 < (9999 : Int32) then v3 else (9999 : Int32)) else (-9999 : Int32)))) rfl (Or.inr (Or.inl ⟨_, .int, rfl, rfl, rfl, dX12_power_49⟩)) h
  · have h := h.2 hc
    refine aw_aload_n (j := 0) dX12_power_7 rfl rfl ?_
    refine aw_iload_n (j := 1) dX12_power_8 rfl rfl ?_
    refine aw_callV (rest := []) [.int x1] dX12_power_9 ly_187 rfl k_X12_241 rfl h (Nat.le_of_ble_eq_true rfl) (fun v m4 h => ?_)
    obtain ⟨v5, rfl, h⟩ := h
    refine aw_eq (L' := [(0, .ref (ad 187)), (1, .int x1)]) (st' := [.int v5]) (m' := m4) ?_ rfl rfl rfl
    exact aw_ret (v := some (.int v5)) rfl (Or.inr (Or.inl ⟨_, .int, rfl, rfl, rfl, dX12_power_12⟩)) h
set_option maxRecDepth 100000 in
set_option maxHeartbeats 4000000 in
theorem v_X12_skill {ad : Nat → Nat} {d : Nat} {Q : Option Value → Wm → Prop} {m : Wm} {x1 x2 : Int32} (h : (Ct ad μX12_isSide d [.ref (ad 187), .int x1] (uI m 187 17 (0 : Int32)) (fun r m1 => ∃ v2 : Int32, r = some (.int v2) ∧ ((v2 = 0 → Q (some (.int (-1 : Int32))) m1) ∧ (¬ v2 = 0 → (Ct ad μX12_isArt d [.ref (ad 187), .int x2] m1 (fun r m3 => ∃ v4 : Int32, r = some (.int v4) ∧ ((v4 = 0 → Q (some (.int (-1 : Int32))) m3) ∧ (¬ v4 = 0 → (vp_in (((4 : Int32) * x1) + x2) 32 ∧ Q (some (.int (m3.1 188 (((4 : Int32) * x1) + x2).toNatClampNeg))) m3)))))))))) : Ct ad μX12_skill (d + 1) [.ref (ad 187), .int x1, .int x2] m Q := by
  refine Ct.of (by decide +kernel) rfl (Nat.le_of_ble_eq_true rfl) ?_
  refine aw_eq (L' := [(0, .ref (ad 187)), (1, .int x1), (2, .int x2)]) ?_ rfl rfl rfl
  refine aw_aload_n (j := 0) dX12_skill_0 rfl rfl ?_
  refine aw_iconst (v := 0) dX12_skill_1 (by decide) ?_
  refine aw_putI dX12_skill_2 f_X12_110 cl_X12 rfl ly_187 rfl rfl rfl ?_
  refine aw_aload_n (j := 0) dX12_skill_5 rfl rfl ?_
  refine aw_iload_n (j := 1) dX12_skill_6 rfl rfl ?_
  refine aw_callV (rest := []) [.int x1] dX12_skill_7 ly_187 rfl k_X12_123 rfl h (Nat.le_of_ble_eq_true rfl) (fun v m1 h => ?_)
  obtain ⟨v2, rfl, h⟩ := h
  refine aw_eq (L' := [(0, .ref (ad 187)), (1, .int x1), (2, .int x2)]) (st' := [.int v2]) (m' := m1) ?_ rfl rfl rfl
  refine aw_if_eq (tgt := 34) dX12_skill_10 (by decide) (fun hc => ?_) (fun hc => ?_)
  · have h := h.1 hc
    refine aw_iconst (v := -1) dX12_skill_34 (by decide) ?_
    exact aw_ret (v := some (.int (-1 : Int32))) rfl (Or.inr (Or.inl ⟨_, .int, rfl, rfl, rfl, dX12_skill_35⟩)) h
  · have h := h.2 hc
    refine aw_aload_n (j := 0) dX12_skill_13 rfl rfl ?_
    refine aw_iload_n (j := 2) dX12_skill_14 rfl rfl ?_
    refine aw_callV (rest := []) [.int x2] dX12_skill_15 ly_187 rfl k_X12_244 rfl h (Nat.le_of_ble_eq_true rfl) (fun v m3 h => ?_)
    obtain ⟨v4, rfl, h⟩ := h
    refine aw_eq (L' := [(0, .ref (ad 187)), (1, .int x1), (2, .int x2)]) (st' := [.int v4]) (m' := m3) ?_ rfl rfl rfl
    refine aw_if_eq (tgt := 34) dX12_skill_18 (by decide) (fun hc => ?_) (fun hc => ?_)
    · have h := h.1 hc
      refine aw_iconst (v := -1) dX12_skill_34 (by decide) ?_
      exact aw_ret (v := some (.int (-1 : Int32))) rfl (Or.inr (Or.inl ⟨_, .int, rfl, rfl, rfl, dX12_skill_35⟩)) h
    · have h := h.2 hc
      refine aw_aload_n (j := 0) dX12_skill_21 rfl rfl ?_
      refine aw_getfield (c := 191) (v := .ref (ad 188)) dX12_skill_22 f_X12_13 ly_187 rfl rfl ?_
      refine aw_iconst (v := 4) dX12_skill_25 (by decide) ?_
      refine aw_iload_n (j := 1) dX12_skill_26 rfl rfl ?_
      refine aw_imul dX12_skill_27 ?_
      refine aw_iload_n (j := 2) dX12_skill_28 rfl rfl ?_
      refine aw_iadd dX12_skill_29 ?_
      obtain ⟨hi, h⟩ := h
      refine aw_iaload dX12_skill_30 ly_188 hi ?_
      refine aw_goto (tgt := 35) dX12_skill_31 (by decide) ?_
      exact aw_ret (v := some (.int (m3.1 188 (((4 : Int32) * x1) + x2).toNatClampNeg))) rfl (Or.inr (Or.inl ⟨_, .int, rfl, rfl, rfl, dX12_skill_35⟩)) h
set_option maxRecDepth 100000 in
set_option maxHeartbeats 4000000 in
theorem v_X12_of {ad : Nat → Nat} {d : Nat} {Q : Option Value → Wm → Prop} {m : Wm} {x1 x2 : Int32} (h : (Ct ad μX12_isSide d [.ref (ad 187), .int x1] (uI m 187 17 (0 : Int32)) (fun r m1 => ∃ v2 : Int32, r = some (.int v2) ∧ ((v2 = 0 → (Ct ad μX12_lost d [.ref (ad 187)] m1 (fun r m3 => ∃ v4 : Int32, r = some (.int v4) ∧ Q (some (.int v4)) m3))) ∧ (¬ v2 = 0 → (Ct ad μX12_in d [.long x2.toInt64, .long (0 : Int64), .long (4 : Int64)] m1 (fun r m5 => ∃ v6 : Int32, r = some (.int v6) ∧ ((¬ v6 = 0 → ((¬ x2 = 0 → ((¬ x2 = (1 : Int32) → ((¬ x2 = (2 : Int32) → ((¬ x2 = (3 : Int32) → (vp_in x1 8 ∧ Q (some (.int (m5.1 192 x1.toNatClampNeg))) m5)) ∧ (x2 = (3 : Int32) → (vp_in x1 8 ∧ (((m5.1 189 x1.toNatClampNeg) = 0 → Q (some (.int (0 : Int32))) m5) ∧ (¬ (m5.1 189 x1.toNatClampNeg) = 0 → Q (some (.int (1 : Int32))) m5)))))) ∧ (x2 = (2 : Int32) → (vp_in x1 8 ∧ Q (some (.int (m5.1 191 x1.toNatClampNeg))) m5)))) ∧ (x2 = (1 : Int32) → (vp_in x1 8 ∧ Q (some (.int (m5.1 190 x1.toNatClampNeg))) m5)))) ∧ (x2 = 0 → (Ct ad μX12_power d [.ref (ad 187), .int x1] m5 (fun r m7 => ∃ v8 : Int32, r = some (.int v8) ∧ Q (some (.int v8)) m7))))) ∧ (v6 = 0 → (Ct ad μX12_lost d [.ref (ad 187)] m5 (fun r m9 => ∃ v10 : Int32, r = some (.int v10) ∧ Q (some (.int v10)) m9))))))))))) : Ct ad μX12_of (d + 1) [.ref (ad 187), .int x1, .int x2] m Q := by
  refine Ct.of (by decide +kernel) rfl (Nat.le_of_ble_eq_true rfl) ?_
  refine aw_eq (L' := [(0, .ref (ad 187)), (1, .int x1), (2, .int x2)]) ?_ rfl rfl rfl
  refine aw_aload_n (j := 0) dX12_of_0 rfl rfl ?_
  refine aw_iconst (v := 0) dX12_of_1 (by decide) ?_
  refine aw_putI dX12_of_2 f_X12_110 cl_X12 rfl ly_187 rfl rfl rfl ?_
  refine aw_aload_n (j := 0) dX12_of_5 rfl rfl ?_
  refine aw_iload_n (j := 1) dX12_of_6 rfl rfl ?_
  refine aw_callV (rest := []) [.int x1] dX12_of_7 ly_187 rfl k_X12_123 rfl h (Nat.le_of_ble_eq_true rfl) (fun v m1 h => ?_)
  obtain ⟨v2, rfl, h⟩ := h
  refine aw_eq (L' := [(0, .ref (ad 187)), (1, .int x1), (2, .int x2)]) (st' := [.int v2]) (m' := m1) ?_ rfl rfl rfl
  refine aw_if_eq (tgt := 25) dX12_of_10 (by decide) (fun hc => ?_) (fun hc => ?_)
  · have h := h.1 hc
    refine aw_aload_n (j := 0) dX12_of_25 rfl rfl ?_
    refine aw_callV (rest := []) [] dX12_of_26 ly_187 rfl k_X12_252 rfl h (Nat.le_of_ble_eq_true rfl) (fun v m3 h => ?_)
    obtain ⟨v4, rfl, h⟩ := h
    refine aw_eq (L' := [(0, .ref (ad 187)), (1, .int x1), (2, .int x2)]) (st' := [.int v4]) (m' := m3) ?_ rfl rfl rfl
    exact aw_ret (v := some (.int v4)) rfl (Or.inr (Or.inl ⟨_, .int, rfl, rfl, rfl, dX12_of_29⟩)) h
  · have h := h.2 hc
    refine aw_iload_n (j := 2) dX12_of_13 rfl rfl ?_
    refine aw_i2l dX12_of_14 ?_
    refine aw_lconst (v := 0) dX12_of_15 (by decide) ?_
    refine aw_ldc2 dX12_of_16 c_X12_250 ?_
    refine aw_callS (rest := []) [.long x2.toInt64, .long (0 : Int64), .long (4 : Int64)] dX12_of_19 k_X12_119 rfl h (Nat.le_of_ble_eq_true rfl) (fun v m5 h => ?_)
    obtain ⟨v6, rfl, h⟩ := h
    refine aw_eq (L' := [(0, .ref (ad 187)), (1, .int x1), (2, .int x2)]) (st' := [.int v6]) (m' := m5) ?_ rfl rfl rfl
    refine aw_if_ne (tgt := 30) dX12_of_22 (by decide) (fun hc => ?_) (fun hc => ?_)
    · have h := h.1 hc
      refine aw_iload_n (j := 2) dX12_of_30 rfl rfl ?_
      refine aw_if_ne (tgt := 42) dX12_of_31 (by decide) (fun hc => ?_) (fun hc => ?_)
      · have h := h.1 hc
        refine aw_iload_n (j := 2) dX12_of_42 rfl rfl ?_
        refine aw_iconst (v := 1) dX12_of_43 (by decide) ?_
        refine aw_icmp_ne (tgt := 56) dX12_of_44 (by decide) (fun hc => ?_) (fun hc => ?_)
        · have h := h.1 hc
          refine aw_iload_n (j := 2) dX12_of_56 rfl rfl ?_
          refine aw_iconst (v := 2) dX12_of_57 (by decide) ?_
          refine aw_icmp_ne (tgt := 70) dX12_of_58 (by decide) (fun hc => ?_) (fun hc => ?_)
          · have h := h.1 hc
            refine aw_iload_n (j := 2) dX12_of_70 rfl rfl ?_
            refine aw_iconst (v := 3) dX12_of_71 (by decide) ?_
            refine aw_icmp_ne (tgt := 92) dX12_of_72 (by decide) (fun hc => ?_) (fun hc => ?_)
            · have h := h.1 hc
              refine aw_aload_n (j := 0) dX12_of_92 rfl rfl ?_
              refine aw_getfield (c := 195) (v := .ref (ad 192)) dX12_of_93 f_X12_27 ly_187 rfl rfl ?_
              refine aw_iload_n (j := 1) dX12_of_96 rfl rfl ?_
              obtain ⟨hi, h⟩ := h
              refine aw_iaload dX12_of_97 ly_192 hi ?_
              exact aw_ret (v := some (.int (m5.1 192 x1.toNatClampNeg))) rfl (Or.inr (Or.inl ⟨_, .int, rfl, rfl, rfl, dX12_of_98⟩)) h
            · have h := h.2 hc
              refine aw_aload_n (j := 0) dX12_of_75 rfl rfl ?_
              refine aw_getfield (c := 192) (v := .ref (ad 189)) dX12_of_76 f_X12_17 ly_187 rfl rfl ?_
              refine aw_iload_n (j := 1) dX12_of_79 rfl rfl ?_
              obtain ⟨hi, h⟩ := h
              refine aw_zaload dX12_of_80 ly_189 hi ?_
              refine aw_if_eq (tgt := 88) dX12_of_81 (by decide) (fun hc => ?_) (fun hc => ?_)
              · have h := h.1 hc
                refine aw_iconst (v := 0) dX12_of_88 (by decide) ?_
                refine aw_goto (tgt := 98) dX12_of_89 (by decide) ?_
                exact aw_ret (v := some (.int (0 : Int32))) rfl (Or.inr (Or.inl ⟨_, .int, rfl, rfl, rfl, dX12_of_98⟩)) h
              · have h := h.2 hc
                refine aw_iconst (v := 1) dX12_of_84 (by decide) ?_
                refine aw_goto (tgt := 98) dX12_of_85 (by decide) ?_
                exact aw_ret (v := some (.int (1 : Int32))) rfl (Or.inr (Or.inl ⟨_, .int, rfl, rfl, rfl, dX12_of_98⟩)) h
          · have h := h.2 hc
            refine aw_aload_n (j := 0) dX12_of_61 rfl rfl ?_
            refine aw_getfield (c := 194) (v := .ref (ad 191)) dX12_of_62 f_X12_24 ly_187 rfl rfl ?_
            refine aw_iload_n (j := 1) dX12_of_65 rfl rfl ?_
            obtain ⟨hi, h⟩ := h
            refine aw_iaload dX12_of_66 ly_191 hi ?_
            refine aw_goto (tgt := 98) dX12_of_67 (by decide) ?_
            exact aw_ret (v := some (.int (m5.1 191 x1.toNatClampNeg))) rfl (Or.inr (Or.inl ⟨_, .int, rfl, rfl, rfl, dX12_of_98⟩)) h
        · have h := h.2 hc
          refine aw_aload_n (j := 0) dX12_of_47 rfl rfl ?_
          refine aw_getfield (c := 193) (v := .ref (ad 190)) dX12_of_48 f_X12_21 ly_187 rfl rfl ?_
          refine aw_iload_n (j := 1) dX12_of_51 rfl rfl ?_
          obtain ⟨hi, h⟩ := h
          refine aw_iaload dX12_of_52 ly_190 hi ?_
          refine aw_goto (tgt := 98) dX12_of_53 (by decide) ?_
          exact aw_ret (v := some (.int (m5.1 190 x1.toNatClampNeg))) rfl (Or.inr (Or.inl ⟨_, .int, rfl, rfl, rfl, dX12_of_98⟩)) h
      · have h := h.2 hc
        refine aw_aload_n (j := 0) dX12_of_34 rfl rfl ?_
        refine aw_iload_n (j := 1) dX12_of_35 rfl rfl ?_
        refine aw_callV (rest := []) [.int x1] dX12_of_36 ly_187 rfl k_X12_255 rfl h (Nat.le_of_ble_eq_true rfl) (fun v m7 h => ?_)
        obtain ⟨v8, rfl, h⟩ := h
        refine aw_eq (L' := [(0, .ref (ad 187)), (1, .int x1), (2, .int x2)]) (st' := [.int v8]) (m' := m7) ?_ rfl rfl rfl
        refine aw_goto (tgt := 98) dX12_of_39 (by decide) ?_
        exact aw_ret (v := some (.int v8)) rfl (Or.inr (Or.inl ⟨_, .int, rfl, rfl, rfl, dX12_of_98⟩)) h
    · have h := h.2 hc
      refine aw_aload_n (j := 0) dX12_of_25 rfl rfl ?_
      refine aw_callV (rest := []) [] dX12_of_26 ly_187 rfl k_X12_252 rfl h (Nat.le_of_ble_eq_true rfl) (fun v m9 h => ?_)
      obtain ⟨v10, rfl, h⟩ := h
      refine aw_eq (L' := [(0, .ref (ad 187)), (1, .int x1), (2, .int x2)]) (st' := [.int v10]) (m' := m9) ?_ rfl rfl rfl
      exact aw_ret (v := some (.int v10)) rfl (Or.inr (Or.inl ⟨_, .int, rfl, rfl, rfl, dX12_of_29⟩)) h
set_option maxRecDepth 100000 in
set_option maxHeartbeats 4000000 in
theorem v_X12_law {ad : Nat → Nat} {d : Nat} {Q : Option Value → Wm → Prop} {m : Wm} {x1 x2 : Int32} (h : ((¬ x1 = (1 : Int32) → AW ad E0 μX12_law (d + 1) Q 15 [(0, .ref (ad 187)), (1, .int x1), (2, .int x2)] [.int (0 : Int32)] (uI m 187 17 (0 : Int32))) ∧ (x1 = (1 : Int32) → AW ad E0 μX12_law (d + 1) Q 15 [(0, .ref (ad 187)), (1, .int x1), (2, .int x2)] [.int (1 : Int32)] (uI m 187 17 (0 : Int32))))) : Ct ad μX12_law (d + 1) [.ref (ad 187), .int x1, .int x2] m Q := by
  refine Ct.of (by decide +kernel) rfl (Nat.le_of_ble_eq_true rfl) ?_
  refine aw_eq (L' := [(0, .ref (ad 187)), (1, .int x1), (2, .int x2)]) ?_ rfl rfl rfl
  refine aw_aload_n (j := 0) dX12_law_0 rfl rfl ?_
  refine aw_iconst (v := 0) dX12_law_1 (by decide) ?_
  refine aw_putI dX12_law_2 f_X12_110 cl_X12 rfl ly_187 rfl rfl rfl ?_
  refine aw_iload_n (j := 1) dX12_law_5 rfl rfl ?_
  refine aw_iconst (v := 1) dX12_law_6 (by decide) ?_
  refine aw_icmp_ne (tgt := 14) dX12_law_7 (by decide) (fun hc => ?_) (fun hc => ?_)
  · have h := h.1 hc
    refine aw_iconst (v := 0) dX12_law_14 (by decide) ?_
    exact aw_sub [0, 1, 2] rfl h
  · have h := h.2 hc
    refine aw_iconst (v := 1) dX12_law_10 (by decide) ?_
    refine aw_goto (tgt := 15) dX12_law_11 (by decide) ?_
    exact aw_sub [0, 1, 2] rfl h
set_option maxRecDepth 100000 in
set_option maxHeartbeats 4000000 in
theorem g_X12_law_15 {ad : Nat → Nat} {d : Nat} {Q : Option Value → Wm → Prop} {m : Wm} {x1 x2 s0 : Int32} (h : ((x1 = 0 → AW ad E0 μX12_law (d + 1) Q 50 [(0, .ref (ad 187)), (1, .int x1), (2, .int x2), (3, .int s0)] [.int (3 : Int32)] m) ∧ (¬ x1 = 0 → ((¬ x1 = (1 : Int32) → ((¬ x1 = (2 : Int32) → ((¬ x1 = (3 : Int32) → AW ad E0 μX12_law (d + 1) Q 50 [(0, .ref (ad 187)), (1, .int x1), (2, .int x2), (3, .int s0)] [.int (50 : Int32)] m) ∧ (x1 = (3 : Int32) → AW ad E0 μX12_law (d + 1) Q 50 [(0, .ref (ad 187)), (1, .int x1), (2, .int x2), (3, .int s0)] [.int (99 : Int32)] m))) ∧ (x1 = (2 : Int32) → AW ad E0 μX12_law (d + 1) Q 50 [(0, .ref (ad 187)), (1, .int x1), (2, .int x2), (3, .int s0)] [.int (2 : Int32)] m))) ∧ (x1 = (1 : Int32) → AW ad E0 μX12_law (d + 1) Q 50 [(0, .ref (ad 187)), (1, .int x1), (2, .int x2), (3, .int s0)] [.int (3 : Int32)] m))))) : AW ad E0 μX12_law (d + 1) Q 15 [(0, .ref (ad 187)), (1, .int x1), (2, .int x2)] [.int s0] m := by
  refine aw_istore_n (L' := [(3, .int s0), (0, .ref (ad 187)), (1, .int x1), (2, .int x2)]) dX12_law_15 rfl (by decide) rfl ?_
  refine aw_iload_n (j := 2) dX12_law_16 rfl rfl ?_
  refine aw_if_eq (tgt := 25) dX12_law_17 (by decide) (fun hc => ?_) (fun hc => ?_)
  · have h := h.1 hc
    refine aw_iconst (v := 3) dX12_law_25 (by decide) ?_
    refine aw_goto (tgt := 50) dX12_law_26 (by decide) ?_
    exact aw_sub [1, 2, 3, 0] rfl h
  · have h := h.2 hc
    refine aw_iload_n (j := 2) dX12_law_20 rfl rfl ?_
    refine aw_iconst (v := 1) dX12_law_21 (by decide) ?_
    refine aw_icmp_ne (tgt := 29) dX12_law_22 (by decide) (fun hc => ?_) (fun hc => ?_)
    · have h := h.1 hc
      refine aw_iload_n (j := 2) dX12_law_29 rfl rfl ?_
      refine aw_iconst (v := 2) dX12_law_30 (by decide) ?_
      refine aw_icmp_ne (tgt := 38) dX12_law_31 (by decide) (fun hc => ?_) (fun hc => ?_)
      · have h := h.1 hc
        refine aw_iload_n (j := 2) dX12_law_38 rfl rfl ?_
        refine aw_iconst (v := 3) dX12_law_39 (by decide) ?_
        refine aw_icmp_ne (tgt := 48) dX12_law_40 (by decide) (fun hc => ?_) (fun hc => ?_)
        · have h := h.1 hc
          refine aw_bipush (v := 50) dX12_law_48 (by decide) ?_
          exact aw_sub [1, 2, 3, 0] rfl h
        · have h := h.2 hc
          refine aw_bipush (v := 99) dX12_law_43 (by decide) ?_
          refine aw_goto (tgt := 50) dX12_law_45 (by decide) ?_
          exact aw_sub [1, 2, 3, 0] rfl h
      · have h := h.2 hc
        refine aw_iconst (v := 2) dX12_law_34 (by decide) ?_
        refine aw_goto (tgt := 50) dX12_law_35 (by decide) ?_
        exact aw_sub [1, 2, 3, 0] rfl h
    · have h := h.2 hc
      refine aw_iconst (v := 3) dX12_law_25 (by decide) ?_
      refine aw_goto (tgt := 50) dX12_law_26 (by decide) ?_
      exact aw_sub [1, 2, 3, 0] rfl h
set_option maxRecDepth 100000 in
set_option maxHeartbeats 4000000 in
theorem g_X12_law_50 {ad : Nat → Nat} {d : Nat} {Q : Option Value → Wm → Prop} {m : Wm} {x1 x2 x3 s0 : Int32} (h : (Ct ad μX12_in d [.long x1.toInt64, .long (0 : Int64), .long (4 : Int64)] m (fun r m1 => ∃ v2 : Int32, r = some (.int v2) ∧ ((v2 = 0 → Q (some (.int (-1 : Int32))) m1) ∧ (¬ v2 = 0 → (Ct ad μX12_in d [.long x2.toInt64, .long x3.toInt64, .long s0.toInt64] m1 (fun r m3 => ∃ v4 : Int32, r = some (.int v4) ∧ ((¬ v4 = 0 → (vp_in x1 5 ∧ (vp_in x1 5 ∧ Q (some (.int (m3.1 193 x1.toNatClampNeg))) (uI m3 193 x1.toNatClampNeg x2)))) ∧ (v4 = 0 → Q (some (.int (-1 : Int32))) m3))))))))) : AW ad E0 μX12_law (d + 1) Q 50 [(0, .ref (ad 187)), (1, .int x1), (2, .int x2), (3, .int x3)] [.int s0] m := by
  refine aw_istore (L' := [(4, .int s0), (0, .ref (ad 187)), (1, .int x1), (2, .int x2), (3, .int x3)]) dX12_law_50 (by decide) rfl ?_
  refine aw_iload_n (j := 2) dX12_law_52 rfl rfl ?_
  refine aw_i2l dX12_law_53 ?_
  refine aw_lconst (v := 0) dX12_law_54 (by decide) ?_
  refine aw_ldc2 dX12_law_55 c_X12_250 ?_
  refine aw_callS (rest := []) [.long x1.toInt64, .long (0 : Int64), .long (4 : Int64)] dX12_law_58 k_X12_119 rfl h (Nat.le_of_ble_eq_true rfl) (fun v m1 h => ?_)
  obtain ⟨v2, rfl, h⟩ := h
  refine aw_eq (L' := [(4, .int s0), (0, .ref (ad 187)), (1, .int x1), (2, .int x2), (3, .int x3)]) (st' := [.int v2]) (m' := m1) ?_ rfl rfl rfl
  refine aw_if_eq (tgt := 77) dX12_law_61 (by decide) (fun hc => ?_) (fun hc => ?_)
  · have h := h.1 hc
    refine aw_iconst (v := -1) dX12_law_77 (by decide) ?_
    exact aw_ret (v := some (.int (-1 : Int32))) rfl (Or.inr (Or.inl ⟨_, .int, rfl, rfl, rfl, dX12_law_78⟩)) h
  · have h := h.2 hc
    refine aw_iload_n (j := 3) dX12_law_64 rfl rfl ?_
    refine aw_i2l dX12_law_65 ?_
    refine aw_iload_n (j := 4) dX12_law_66 rfl rfl ?_
    refine aw_i2l dX12_law_67 ?_
    refine aw_iload (j := 0) dX12_law_68 rfl ?_
    refine aw_i2l dX12_law_70 ?_
    refine aw_callS (rest := []) [.long x2.toInt64, .long x3.toInt64, .long s0.toInt64] dX12_law_71 k_X12_119 rfl h (Nat.le_of_ble_eq_true rfl) (fun v m3 h => ?_)
    obtain ⟨v4, rfl, h⟩ := h
    refine aw_eq (L' := [(4, .int s0), (0, .ref (ad 187)), (1, .int x1), (2, .int x2), (3, .int x3)]) (st' := [.int v4]) (m' := m3) ?_ rfl rfl rfl
    refine aw_if_ne (tgt := 79) dX12_law_74 (by decide) (fun hc => ?_) (fun hc => ?_)
    · have h := h.1 hc
      refine aw_aload_n (j := 1) dX12_law_79 rfl rfl ?_
      refine aw_getfield (c := 196) (v := .ref (ad 193)) dX12_law_80 f_X12_30 ly_187 rfl rfl ?_
      refine aw_iload_n (j := 2) dX12_law_83 rfl rfl ?_
      obtain ⟨hi, h⟩ := h
      refine aw_iaload dX12_law_84 ly_193 hi ?_
      refine aw_istore (L' := [(5, .int (m3.1 193 x1.toNatClampNeg)), (4, .int s0), (0, .ref (ad 187)), (1, .int x1), (2, .int x2), (3, .int x3)]) dX12_law_85 (by decide) rfl ?_
      refine aw_aload_n (j := 2) dX12_law_87 rfl rfl ?_
      refine aw_getfield (c := 196) (v := .ref (ad 193)) dX12_law_88 f_X12_30 ly_187 rfl rfl ?_
      refine aw_iload_n (j := 3) dX12_law_91 rfl rfl ?_
      refine aw_iload_n (j := 4) dX12_law_92 rfl rfl ?_
      obtain ⟨hi, h⟩ := h
      refine aw_iastore dX12_law_93 ly_193 hi ?_
      refine aw_iload (j := 0) dX12_law_94 rfl ?_
      exact aw_ret (v := some (.int (m3.1 193 x1.toNatClampNeg))) rfl (Or.inr (Or.inl ⟨_, .int, rfl, rfl, rfl, dX12_law_96⟩)) h
    · have h := h.2 hc
      refine aw_iconst (v := -1) dX12_law_77 (by decide) ?_
      exact aw_ret (v := some (.int (-1 : Int32))) rfl (Or.inr (Or.inl ⟨_, .int, rfl, rfl, rfl, dX12_law_78⟩)) h
set_option maxRecDepth 100000 in
set_option maxHeartbeats 4000000 in
theorem v_X12_sheet {ad : Nat → Nat} {d : Nat} {Q : Option Value → Wm → Prop} {m : Wm} {x1 x2 x3 x4 x5 : Int32} (h : (Ct ad μX12_isArt d [.ref (ad 187), .int x1] (uI m 187 17 (0 : Int32)) (fun r m1 => ∃ v2 : Int32, r = some (.int v2) ∧ ((v2 = 0 → Q (some (.int (-1 : Int32))) m1) ∧ (¬ v2 = 0 → (Ct ad μX12_in d [.long x2.toInt64, .long (0 : Int64), .long (3 : Int64)] m1 (fun r m3 => ∃ v4 : Int32, r = some (.int v4) ∧ ((v4 = 0 → Q (some (.int (-1 : Int32))) m3) ∧ (¬ v4 = 0 → ((x3 ≤ (8 : Int32) → (((3 : Int32) ≤ x2 → AW ad E0 μX12_sheet (d + 1) Q 55 [(0, .ref (ad 187)), (1, .int x1), (2, .int x2), (3, .int x3), (5, .int x5), (6, .int (0 : Int32)), (7, .int x4), (8, .int (0 : Int32))] [] m3) ∧ (¬ (3 : Int32) ≤ x2 → ((0 ≤ x3 → AW ad E0 μX12_sheet (d + 1) Q 55 [(0, .ref (ad 187)), (1, .int x1), (2, .int x2), (3, .int x3), (5, .int x5), (6, .int (0 : Int32)), (7, .int x4), (8, .int (0 : Int32))] [] m3) ∧ (¬ 0 ≤ x3 → Q (some (.int (-2 : Int32))) m3))))) ∧ (¬ x3 ≤ (8 : Int32) → Q (some (.int (-1 : Int32))) m3))))))))))) : Ct ad μX12_sheet (d + 1) [.ref (ad 187), .int x1, .int x2, .int x3, .int x4, .int x5] m Q := by
  refine Ct.of (by decide +kernel) rfl (Nat.le_of_ble_eq_true rfl) ?_
  refine aw_eq (L' := [(0, .ref (ad 187)), (1, .int x1), (2, .int x2), (3, .int x3), (4, .int x4), (5, .int x5)]) ?_ rfl rfl rfl
  refine aw_aload_n (j := 0) dX12_sheet_0 rfl rfl ?_
  refine aw_iconst (v := 0) dX12_sheet_1 (by decide) ?_
  refine aw_putI dX12_sheet_2 f_X12_110 cl_X12 rfl ly_187 rfl rfl rfl ?_
  refine aw_aload_n (j := 0) dX12_sheet_5 rfl rfl ?_
  refine aw_iload_n (j := 1) dX12_sheet_6 rfl rfl ?_
  refine aw_callV (rest := []) [.int x1] dX12_sheet_7 ly_187 rfl k_X12_244 rfl h (Nat.le_of_ble_eq_true rfl) (fun v m1 h => ?_)
  obtain ⟨v2, rfl, h⟩ := h
  refine aw_eq (L' := [(0, .ref (ad 187)), (1, .int x1), (2, .int x2), (3, .int x3), (4, .int x4), (5, .int x5)]) (st' := [.int v2]) (m' := m1) ?_ rfl rfl rfl
  refine aw_if_eq (tgt := 31) dX12_sheet_10 (by decide) (fun hc => ?_) (fun hc => ?_)
  · have h := h.1 hc
    refine aw_iconst (v := -1) dX12_sheet_31 (by decide) ?_
    exact aw_ret (v := some (.int (-1 : Int32))) rfl (Or.inr (Or.inl ⟨_, .int, rfl, rfl, rfl, dX12_sheet_32⟩)) h
  · have h := h.2 hc
    refine aw_iload_n (j := 2) dX12_sheet_13 rfl rfl ?_
    refine aw_i2l dX12_sheet_14 ?_
    refine aw_lconst (v := 0) dX12_sheet_15 (by decide) ?_
    refine aw_ldc2 dX12_sheet_16 c_X12_258 ?_
    refine aw_callS (rest := []) [.long x2.toInt64, .long (0 : Int64), .long (3 : Int64)] dX12_sheet_19 k_X12_119 rfl h (Nat.le_of_ble_eq_true rfl) (fun v m3 h => ?_)
    obtain ⟨v4, rfl, h⟩ := h
    refine aw_eq (L' := [(0, .ref (ad 187)), (1, .int x1), (2, .int x2), (3, .int x3), (4, .int x4), (5, .int x5)]) (st' := [.int v4]) (m' := m3) ?_ rfl rfl rfl
    refine aw_if_eq (tgt := 31) dX12_sheet_22 (by decide) (fun hc => ?_) (fun hc => ?_)
    · have h := h.1 hc
      refine aw_iconst (v := -1) dX12_sheet_31 (by decide) ?_
      exact aw_ret (v := some (.int (-1 : Int32))) rfl (Or.inr (Or.inl ⟨_, .int, rfl, rfl, rfl, dX12_sheet_32⟩)) h
    · have h := h.2 hc
      refine aw_iload_n (j := 3) dX12_sheet_25 rfl rfl ?_
      refine aw_bipush (v := 8) dX12_sheet_26 (by decide) ?_
      refine aw_icmp_le (tgt := 33) dX12_sheet_28 (by decide) (fun hc => ?_) (fun hc => ?_)
      · have h := h.1 hc
        refine aw_iload_n (j := 2) dX12_sheet_33 rfl rfl ?_
        refine aw_iconst (v := 3) dX12_sheet_34 (by decide) ?_
        refine aw_icmp_ge (tgt := 45) dX12_sheet_35 (by decide) (fun hc => ?_) (fun hc => ?_)
        · have h := h.1 hc
          refine aw_iconst (v := 0) dX12_sheet_45 (by decide) ?_
          refine aw_istore (L' := [(6, .int (0 : Int32)), (0, .ref (ad 187)), (1, .int x1), (2, .int x2), (3, .int x3), (4, .int x4), (5, .int x5)]) dX12_sheet_46 (by decide) rfl ?_
          refine aw_iload (j := 5) dX12_sheet_48 rfl ?_
          refine aw_istore (L' := [(7, .int x4), (6, .int (0 : Int32)), (0, .ref (ad 187)), (1, .int x1), (2, .int x2), (3, .int x3), (4, .int x4), (5, .int x5)]) dX12_sheet_50 (by decide) rfl ?_
          refine aw_iconst (v := 0) dX12_sheet_52 (by decide) ?_
          refine aw_istore (L' := [(8, .int (0 : Int32)), (7, .int x4), (6, .int (0 : Int32)), (0, .ref (ad 187)), (1, .int x1), (2, .int x2), (3, .int x3), (4, .int x4), (5, .int x5)]) dX12_sheet_53 (by decide) rfl ?_
          exact aw_sub [3, 4, 5, 6, 8, 2, 1, 0] rfl h
        · have h := h.2 hc
          refine aw_iload_n (j := 3) dX12_sheet_38 rfl rfl ?_
          refine aw_if_ge (tgt := 45) dX12_sheet_39 (by decide) (fun hc => ?_) (fun hc => ?_)
          · have h := h.1 hc
            refine aw_iconst (v := 0) dX12_sheet_45 (by decide) ?_
            refine aw_istore (L' := [(6, .int (0 : Int32)), (0, .ref (ad 187)), (1, .int x1), (2, .int x2), (3, .int x3), (4, .int x4), (5, .int x5)]) dX12_sheet_46 (by decide) rfl ?_
            refine aw_iload (j := 5) dX12_sheet_48 rfl ?_
            refine aw_istore (L' := [(7, .int x4), (6, .int (0 : Int32)), (0, .ref (ad 187)), (1, .int x1), (2, .int x2), (3, .int x3), (4, .int x4), (5, .int x5)]) dX12_sheet_50 (by decide) rfl ?_
            refine aw_iconst (v := 0) dX12_sheet_52 (by decide) ?_
            refine aw_istore (L' := [(8, .int (0 : Int32)), (7, .int x4), (6, .int (0 : Int32)), (0, .ref (ad 187)), (1, .int x1), (2, .int x2), (3, .int x3), (4, .int x4), (5, .int x5)]) dX12_sheet_53 (by decide) rfl ?_
            exact aw_sub [3, 4, 5, 6, 8, 2, 1, 0] rfl h
          · have h := h.2 hc
            refine aw_bipush (v := -2) dX12_sheet_42 (by decide) ?_
            exact aw_ret (v := some (.int (-2 : Int32))) rfl (Or.inr (Or.inl ⟨_, .int, rfl, rfl, rfl, dX12_sheet_44⟩)) h
      · have h := h.2 hc
        refine aw_iconst (v := -1) dX12_sheet_31 (by decide) ?_
        exact aw_ret (v := some (.int (-1 : Int32))) rfl (Or.inr (Or.inl ⟨_, .int, rfl, rfl, rfl, dX12_sheet_32⟩)) h
set_option maxRecDepth 100000 in
set_option maxHeartbeats 4000000 in
theorem g_X12_sheet_55 {ad : Nat → Nat} {d : Nat} {Q : Option Value → Wm → Prop} {m : Wm} {x1 x2 x3 x5 x6 x7 x8 : Int32} (h : (((m.1 187 1) ≤ x8 → ((¬ x2 = (3 : Int32) → Q (some (.int x6)) (uI m 187 30 (0 : Int32))) ∧ (x2 = (3 : Int32) → Q (some (.int (-3 : Int32))) (uI m 187 30 (0 : Int32))))) ∧ (¬ (m.1 187 1) ≤ x8 → ((¬ x2 = 0 → ((¬ x2 = (1 : Int32) → AW ad E0 μX12_sheet (d + 1) Q 87 [(0, .ref (ad 187)), (1, .int x1), (2, .int x2), (3, .int x3), (5, .int x5), (6, .int x6), (7, .int x7), (8, .int x8)] [.int x7] m) ∧ (x2 = (1 : Int32) → AW ad E0 μX12_sheet (d + 1) Q 87 [(0, .ref (ad 187)), (1, .int x1), (2, .int x2), (3, .int x3), (5, .int x5), (6, .int x6), (7, .int x7), (8, .int x8)] [.int x7.toInt16.toInt32] m))) ∧ (x2 = 0 → AW ad E0 μX12_sheet (d + 1) Q 87 [(0, .ref (ad 187)), (1, .int x1), (2, .int x2), (3, .int x3), (5, .int x5), (6, .int x6), (7, .int x7), (8, .int x8)] [.int x7.toInt8.toInt32] m))))) : AW ad E0 μX12_sheet (d + 1) Q 55 [(0, .ref (ad 187)), (1, .int x1), (2, .int x2), (3, .int x3), (5, .int x5), (6, .int x6), (7, .int x7), (8, .int x8)] [] m := by
  refine aw_iload (j := 7) dX12_sheet_55 rfl ?_
  refine aw_aload_n (j := 0) dX12_sheet_57 rfl rfl ?_
  refine aw_getfield (c := 0) (v := .int (m.1 187 1)) dX12_sheet_58 f_X12_116 ly_187 rfl rfl ?_
  refine aw_icmp_ge (tgt := 155) dX12_sheet_61 (by decide) (fun hc => ?_) (fun hc => ?_)
  · have h := h.1 hc
    refine aw_aload_n (j := 0) dX12_sheet_155 rfl rfl ?_
    refine aw_iconst (v := 0) dX12_sheet_156 (by decide) ?_
    refine aw_putI dX12_sheet_157 f_X12_196 cl_X12 rfl ly_187 rfl rfl rfl ?_
    refine aw_iload_n (j := 2) dX12_sheet_160 rfl rfl ?_
    refine aw_iconst (v := 3) dX12_sheet_161 (by decide) ?_
    refine aw_icmp_ne (tgt := 170) dX12_sheet_162 (by decide) (fun hc => ?_) (fun hc => ?_)
    · have h := h.1 hc
      refine aw_iload (j := 5) dX12_sheet_170 rfl ?_
      exact aw_ret (v := some (.int x6)) rfl (Or.inr (Or.inl ⟨_, .int, rfl, rfl, rfl, dX12_sheet_172⟩)) h
    · have h := h.2 hc
      refine aw_bipush (v := -3) dX12_sheet_165 (by decide) ?_
      refine aw_goto (tgt := 172) dX12_sheet_167 (by decide) ?_
      exact aw_ret (v := some (.int (-3 : Int32))) rfl (Or.inr (Or.inl ⟨_, .int, rfl, rfl, rfl, dX12_sheet_172⟩)) h
  · have h := h.2 hc
    refine aw_iload_n (j := 2) dX12_sheet_64 rfl rfl ?_
    refine aw_if_ne (tgt := 74) dX12_sheet_65 (by decide) (fun hc => ?_) (fun hc => ?_)
    · have h := h.1 hc
      refine aw_iload_n (j := 2) dX12_sheet_74 rfl rfl ?_
      refine aw_iconst (v := 1) dX12_sheet_75 (by decide) ?_
      refine aw_icmp_ne (tgt := 85) dX12_sheet_76 (by decide) (fun hc => ?_) (fun hc => ?_)
      · have h := h.1 hc
        refine aw_iload (j := 6) dX12_sheet_85 rfl ?_
        exact aw_sub [0, 1, 2, 3, 4, 5, 6, 7] rfl h
      · have h := h.2 hc
        refine aw_iload (j := 6) dX12_sheet_79 rfl ?_
        refine aw_i2s dX12_sheet_81 ?_
        refine aw_goto (tgt := 87) dX12_sheet_82 (by decide) ?_
        exact aw_sub [0, 1, 2, 3, 4, 5, 6, 7] rfl h
    · have h := h.2 hc
      refine aw_iload (j := 6) dX12_sheet_68 rfl ?_
      refine aw_i2b dX12_sheet_70 ?_
      refine aw_goto (tgt := 87) dX12_sheet_71 (by decide) ?_
      exact aw_sub [0, 1, 2, 3, 4, 5, 6, 7] rfl h
set_option maxRecDepth 100000 in
set_option maxHeartbeats 4000000 in
theorem g_X12_sheet_87 {ad : Nat → Nat} {d : Nat} {Q : Option Value → Wm → Prop} {m : Wm} {x1 x2 x3 x5 x6 x7 x8 s0 : Int32} (h : ((x2 = (3 : Int32) → AW ad E0 μX12_sheet (d + 1) Q 125 [(0, .ref (ad 187)), (1, .int x1), (2, .int x2), (3, .int x3), (5, .int x5), (6, .int x6), (7, .int x7), (8, .int x8)] [.int (0 : Int32), .int (((4 : Int32) * x8) + x1), .ref (ad 188)] m) ∧ (¬ x2 = (3 : Int32) → ((x8 < x3 → AW ad E0 μX12_sheet (d + 1) Q 125 [(0, .ref (ad 187)), (1, .int x1), (2, .int x2), (3, .int x3), (5, .int x5), (6, .int x6), (7, .int x7), (8, .int x8)] [.int (if (0 : Int32) < (if s0 < (7 : Int32) then s0 else (7 : Int32)) then (if s0 < (7 : Int32) then s0 else (7 : Int32)) else (0 : Int32)), .int (((4 : Int32) * x8) + x1), .ref (ad 188)] m) ∧ (¬ x8 < x3 → AW ad E0 μX12_sheet (d + 1) Q 125 [(0, .ref (ad 187)), (1, .int x1), (2, .int x2), (3, .int x3), (5, .int x5), (6, .int x6), (7, .int x7), (8, .int x8)] [.int (0 : Int32), .int (((4 : Int32) * x8) + x1), .ref (ad 188)] m))))) : AW ad E0 μX12_sheet (d + 1) Q 87 [(0, .ref (ad 187)), (1, .int x1), (2, .int x2), (3, .int x3), (5, .int x5), (6, .int x6), (7, .int x7), (8, .int x8)] [.int s0] m := by
  refine aw_istore (L' := [(9, .int s0), (0, .ref (ad 187)), (1, .int x1), (2, .int x2), (3, .int x3), (5, .int x5), (6, .int x6), (7, .int x7), (8, .int x8)]) dX12_sheet_87 (by decide) rfl ?_
  refine aw_aload_n (j := 1) dX12_sheet_89 rfl rfl ?_
  refine aw_getfield (c := 191) (v := .ref (ad 188)) dX12_sheet_90 f_X12_13 ly_187 rfl rfl ?_
  refine aw_iconst (v := 4) dX12_sheet_93 (by decide) ?_
  refine aw_iload (j := 8) dX12_sheet_94 rfl ?_
  refine aw_imul dX12_sheet_96 ?_
  refine aw_iload_n (j := 2) dX12_sheet_97 rfl rfl ?_
  refine aw_iadd dX12_sheet_98 ?_
  refine aw_iload_n (j := 3) dX12_sheet_99 rfl rfl ?_
  refine aw_iconst (v := 3) dX12_sheet_100 (by decide) ?_
  refine aw_icmp_eq (tgt := 110) dX12_sheet_101 (by decide) (fun hc => ?_) (fun hc => ?_)
  · have h := h.1 hc
    refine aw_iconst (v := 0) dX12_sheet_110 (by decide) ?_
    refine aw_goto (tgt := 125) dX12_sheet_111 (by decide) ?_
    exact aw_sub [1, 2, 3, 4, 5, 6, 7, 8] rfl h
  · have h := h.2 hc
    refine aw_iload (j := 8) dX12_sheet_104 rfl ?_
    refine aw_iload_n (j := 4) dX12_sheet_106 rfl rfl ?_
    refine aw_icmp_lt (tgt := 114) dX12_sheet_107 (by decide) (fun hc => ?_) (fun hc => ?_)
    · have h := h.1 hc
      refine aw_iconst (v := 0) dX12_sheet_114 (by decide) ?_
      refine aw_bipush (v := 7) dX12_sheet_115 (by decide) ?_
      refine aw_iload (j := 0) dX12_sheet_117 rfl ?_
      refine aw_min dX12_sheet_119 k_X12_238 (Nat.le_of_ble_eq_true rfl) ?_
      refine aw_max dX12_sheet_122 k_X12_233 (Nat.le_of_ble_eq_true rfl) ?_
      exact aw_sub [1, 2, 3, 4, 5, 6, 7, 8] rfl h
    · have h := h.2 hc
      refine aw_iconst (v := 0) dX12_sheet_110 (by decide) ?_
      refine aw_goto (tgt := 125) dX12_sheet_111 (by decide) ?_
      exact aw_sub [1, 2, 3, 4, 5, 6, 7, 8] rfl h
set_option maxRecDepth 100000 in
set_option maxHeartbeats 4000000 in
theorem g_X12_sheet_125 {ad : Nat → Nat} {d : Nat} {Q : Option Value → Wm → Prop} {m : Wm} {e2 ne2 : Nat} {x1 x2 x3 x5 x6 x7 x8 s0 s1 : Int32} (he2 : LAY[e2]? = some (.inr (0, ne2))) (h : (vp_in s1 ne2 ∧ (vp_in (((4 : Int32) * x8) + x1) 32 ∧ AW ad E0 μX12_sheet (d + 1) Q 55 [(0, .ref (ad 187)), (1, .int x1), (2, .int x2), (3, .int x3), (5, .int x5), (6, .int (x6 + ((uI m e2 s1.toNatClampNeg s0).1 188 (((4 : Int32) * x8) + x1).toNatClampNeg))), (7, .int (x7 + x5)), (8, .int (x8 + (1 : Int32)))] [] (uI m e2 s1.toNatClampNeg s0)))) : AW ad E0 μX12_sheet (d + 1) Q 125 [(0, .ref (ad 187)), (1, .int x1), (2, .int x2), (3, .int x3), (5, .int x5), (6, .int x6), (7, .int x7), (8, .int x8)] [.int s0, .int s1, .ref (ad e2)] m := by
  obtain ⟨hi, h⟩ := h
  refine aw_iastore dX12_sheet_125 he2 hi ?_
  refine aw_iload (j := 5) dX12_sheet_126 rfl ?_
  refine aw_aload_n (j := 0) dX12_sheet_128 rfl rfl ?_
  refine aw_getfield (c := 191) (v := .ref (ad 188)) dX12_sheet_129 f_X12_13 ly_187 rfl rfl ?_
  refine aw_iconst (v := 4) dX12_sheet_132 (by decide) ?_
  refine aw_iload (j := 7) dX12_sheet_133 rfl ?_
  refine aw_imul dX12_sheet_135 ?_
  refine aw_iload_n (j := 1) dX12_sheet_136 rfl rfl ?_
  refine aw_iadd dX12_sheet_137 ?_
  obtain ⟨hi, h⟩ := h
  refine aw_iaload dX12_sheet_138 ly_188 hi ?_
  refine aw_iadd dX12_sheet_139 ?_
  refine aw_istore (L' := [(6, .int (x6 + ((uI m e2 s1.toNatClampNeg s0).1 188 (((4 : Int32) * x8) + x1).toNatClampNeg))), (0, .ref (ad 187)), (1, .int x1), (2, .int x2), (3, .int x3), (5, .int x5), (7, .int x7), (8, .int x8)]) dX12_sheet_140 (by decide) rfl ?_
  refine aw_iload (j := 6) dX12_sheet_142 rfl ?_
  refine aw_iload (j := 5) dX12_sheet_144 rfl ?_
  refine aw_iadd dX12_sheet_146 ?_
  refine aw_istore (L' := [(7, .int (x7 + x5)), (6, .int (x6 + ((uI m e2 s1.toNatClampNeg s0).1 188 (((4 : Int32) * x8) + x1).toNatClampNeg))), (0, .ref (ad 187)), (1, .int x1), (2, .int x2), (3, .int x3), (5, .int x5), (8, .int x8)]) dX12_sheet_147 (by decide) rfl ?_
  refine aw_iinc (j := 7) (v := x8 + (1 : Int32)) (L' := [(8, .int (x8 + (1 : Int32))), (7, .int (x7 + x5)), (6, .int (x6 + ((uI m e2 s1.toNatClampNeg s0).1 188 (((4 : Int32) * x8) + x1).toNatClampNeg))), (0, .ref (ad 187)), (1, .int x1), (2, .int x2), (3, .int x3), (5, .int x5)]) dX12_sheet_149 rfl rfl (by decide) rfl ?_
  refine aw_goto (tgt := 55) dX12_sheet_152 (by decide) ?_
  exact aw_sub [3, 4, 5, 6, 7, 2, 1, 0] rfl h
set_option maxRecDepth 100000 in
set_option maxHeartbeats 4000000 in
theorem v_X12_ill {ad : Nat → Nat} {d : Nat} {Q : Option Value → Wm → Prop} {m : Wm} {x1 x2 : Int32} (h : (Ct ad μX12_isSide d [.ref (ad 187), .int x1] (uI m 187 17 (0 : Int32)) (fun r m1 => ∃ v2 : Int32, r = some (.int v2) ∧ ((¬ v2 = 0 → (vp_in x1 8 ∧ Q (some (.int (1 : Int32))) (uI m1 189 x1.toNatClampNeg (vp_nar .boolean x2)))) ∧ (v2 = 0 → Q (some (.int (0 : Int32))) m1))))) : Ct ad μX12_ill (d + 1) [.ref (ad 187), .int x1, .int x2] m Q := by
  refine Ct.of (by decide +kernel) rfl (Nat.le_of_ble_eq_true rfl) ?_
  refine aw_eq (L' := [(0, .ref (ad 187)), (1, .int x1), (2, .int x2)]) ?_ rfl rfl rfl
  refine aw_aload_n (j := 0) dX12_ill_0 rfl rfl ?_
  refine aw_iconst (v := 0) dX12_ill_1 (by decide) ?_
  refine aw_putI dX12_ill_2 f_X12_110 cl_X12 rfl ly_187 rfl rfl rfl ?_
  refine aw_aload_n (j := 0) dX12_ill_5 rfl rfl ?_
  refine aw_iload_n (j := 1) dX12_ill_6 rfl rfl ?_
  refine aw_callV (rest := []) [.int x1] dX12_ill_7 ly_187 rfl k_X12_123 rfl h (Nat.le_of_ble_eq_true rfl) (fun v m1 h => ?_)
  obtain ⟨v2, rfl, h⟩ := h
  refine aw_eq (L' := [(0, .ref (ad 187)), (1, .int x1), (2, .int x2)]) (st' := [.int v2]) (m' := m1) ?_ rfl rfl rfl
  refine aw_if_ne (tgt := 15) dX12_ill_10 (by decide) (fun hc => ?_) (fun hc => ?_)
  · have h := h.1 hc
    refine aw_aload_n (j := 0) dX12_ill_15 rfl rfl ?_
    refine aw_getfield (c := 192) (v := .ref (ad 189)) dX12_ill_16 f_X12_17 ly_187 rfl rfl ?_
    refine aw_iload_n (j := 1) dX12_ill_19 rfl rfl ?_
    refine aw_iload_n (j := 2) dX12_ill_20 rfl rfl ?_
    obtain ⟨hi, h⟩ := h
    refine aw_zastore dX12_ill_21 ly_189 hi ?_
    refine aw_iconst (v := 1) dX12_ill_22 (by decide) ?_
    exact aw_ret (v := some (.int (1 : Int32))) rfl (Or.inr (Or.inl ⟨_, .boolean, rfl, rfl, by decide, dX12_ill_23⟩)) h
  · have h := h.2 hc
    refine aw_iconst (v := 0) dX12_ill_13 (by decide) ?_
    exact aw_ret (v := some (.int (0 : Int32))) rfl (Or.inr (Or.inl ⟨_, .boolean, rfl, rfl, by decide, dX12_ill_14⟩)) h
set_option maxRecDepth 100000 in
set_option maxHeartbeats 4000000 in
theorem v_X12_winner {ad : Nat → Nat} {d : Nat} {Q : Option Value → Wm → Prop} {m : Wm} {x1 x2 x3 : Int32} (h : ((¬ x3 = (1 : Int32) → ((¬ x3 = (2 : Int32) → ((¬ x3 = (3 : Int32) → (Ct ad μX12_power d [.ref (ad 187), .int x1] m (fun r m1 => ∃ v2 : Int32, r = some (.int v2) ∧ (Ct ad μX12_power d [.ref (ad 187), .int x2] m1 (fun r m3 => ∃ v4 : Int32, r = some (.int v4) ∧ (((v2 - v4) ≤ (m3.1 193 (3 : Int32).toNatClampNeg) → (((-(v2 - v4)) ≤ (m3.1 193 (3 : Int32).toNatClampNeg) → Q (some (.int (2 : Int32))) m3) ∧ (¬ (-(v2 - v4)) ≤ (m3.1 193 (3 : Int32).toNatClampNeg) → Q (some (.int (1 : Int32))) m3))) ∧ (¬ (v2 - v4) ≤ (m3.1 193 (3 : Int32).toNatClampNeg) → Q (some (.int (0 : Int32))) m3))))))) ∧ (x3 = (3 : Int32) → Q (some (.int (2 : Int32))) m))) ∧ (x3 = (2 : Int32) → Q (some (.int (0 : Int32))) m))) ∧ (x3 = (1 : Int32) → Q (some (.int (1 : Int32))) m))) : Ct ad μX12_winner (d + 1) [.ref (ad 187), .int x1, .int x2, .int x3] m Q := by
  refine Ct.of (by decide +kernel) rfl (Nat.le_of_ble_eq_true rfl) ?_
  refine aw_eq (L' := [(0, .ref (ad 187)), (1, .int x1), (2, .int x2), (3, .int x3)]) ?_ rfl rfl rfl
  refine aw_iload_n (j := 3) dX12_winner_0 rfl rfl ?_
  refine aw_iconst (v := 1) dX12_winner_1 (by decide) ?_
  refine aw_icmp_ne (tgt := 7) dX12_winner_2 (by decide) (fun hc => ?_) (fun hc => ?_)
  · have h := h.1 hc
    refine aw_iload_n (j := 3) dX12_winner_7 rfl rfl ?_
    refine aw_iconst (v := 2) dX12_winner_8 (by decide) ?_
    refine aw_icmp_ne (tgt := 14) dX12_winner_9 (by decide) (fun hc => ?_) (fun hc => ?_)
    · have h := h.1 hc
      refine aw_iload_n (j := 3) dX12_winner_14 rfl rfl ?_
      refine aw_iconst (v := 3) dX12_winner_15 (by decide) ?_
      refine aw_icmp_ne (tgt := 21) dX12_winner_16 (by decide) (fun hc => ?_) (fun hc => ?_)
      · have h := h.1 hc
        refine aw_aload_n (j := 0) dX12_winner_21 rfl rfl ?_
        refine aw_iload_n (j := 1) dX12_winner_22 rfl rfl ?_
        refine aw_callV (rest := []) [.int x1] dX12_winner_23 ly_187 rfl k_X12_255 rfl h (Nat.le_of_ble_eq_true rfl) (fun v m1 h => ?_)
        obtain ⟨v2, rfl, h⟩ := h
        refine aw_eq (L' := [(0, .ref (ad 187)), (1, .int x1), (2, .int x2), (3, .int x3)]) (st' := [.int v2]) (m' := m1) ?_ rfl rfl rfl
        refine aw_aload_n (j := 0) dX12_winner_26 rfl rfl ?_
        refine aw_iload_n (j := 2) dX12_winner_27 rfl rfl ?_
        refine aw_callV (rest := [.int v2]) [.int x2] dX12_winner_28 ly_187 rfl k_X12_255 rfl h (Nat.le_of_ble_eq_true rfl) (fun v m3 h => ?_)
        obtain ⟨v4, rfl, h⟩ := h
        refine aw_eq (L' := [(0, .ref (ad 187)), (1, .int x1), (2, .int x2), (3, .int x3)]) (st' := [.int v4, .int v2]) (m' := m3) ?_ rfl rfl rfl
        refine aw_isub dX12_winner_31 ?_
        refine aw_istore (L' := [(4, .int (v2 - v4)), (0, .ref (ad 187)), (1, .int x1), (2, .int x2), (3, .int x3)]) dX12_winner_32 (by decide) rfl ?_
        refine aw_iload (j := 0) dX12_winner_34 rfl ?_
        refine aw_aload_n (j := 1) dX12_winner_36 rfl rfl ?_
        refine aw_getfield (c := 196) (v := .ref (ad 193)) dX12_winner_37 f_X12_30 ly_187 rfl rfl ?_
        refine aw_iconst (v := 3) dX12_winner_40 (by decide) ?_
        refine aw_iaload dX12_winner_41 ly_193 (by unfold vp_in; decide) ?_
        refine aw_icmp_le (tgt := 49) dX12_winner_42 (by decide) (fun hc => ?_) (fun hc => ?_)
        · have h := h.1 hc
          refine aw_iload (j := 0) dX12_winner_49 rfl ?_
          refine aw_ineg dX12_winner_51 ?_
          refine aw_aload_n (j := 1) dX12_winner_52 rfl rfl ?_
          refine aw_getfield (c := 196) (v := .ref (ad 193)) dX12_winner_53 f_X12_30 ly_187 rfl rfl ?_
          refine aw_iconst (v := 3) dX12_winner_56 (by decide) ?_
          refine aw_iaload dX12_winner_57 ly_193 (by unfold vp_in; decide) ?_
          refine aw_icmp_le (tgt := 65) dX12_winner_58 (by decide) (fun hc => ?_) (fun hc => ?_)
          · have h := h.1 hc
            refine aw_iconst (v := 2) dX12_winner_65 (by decide) ?_
            exact aw_ret (v := some (.int (2 : Int32))) rfl (Or.inr (Or.inl ⟨_, .int, rfl, rfl, rfl, dX12_winner_66⟩)) h
          · have h := h.2 hc
            refine aw_iconst (v := 1) dX12_winner_61 (by decide) ?_
            refine aw_goto (tgt := 66) dX12_winner_62 (by decide) ?_
            exact aw_ret (v := some (.int (1 : Int32))) rfl (Or.inr (Or.inl ⟨_, .int, rfl, rfl, rfl, dX12_winner_66⟩)) h
        · have h := h.2 hc
          refine aw_iconst (v := 0) dX12_winner_45 (by decide) ?_
          refine aw_goto (tgt := 66) dX12_winner_46 (by decide) ?_
          exact aw_ret (v := some (.int (0 : Int32))) rfl (Or.inr (Or.inl ⟨_, .int, rfl, rfl, rfl, dX12_winner_66⟩)) h
      · have h := h.2 hc
        refine aw_iconst (v := 2) dX12_winner_19 (by decide) ?_
        exact aw_ret (v := some (.int (2 : Int32))) rfl (Or.inr (Or.inl ⟨_, .int, rfl, rfl, rfl, dX12_winner_20⟩)) h
    · have h := h.2 hc
      refine aw_iconst (v := 0) dX12_winner_12 (by decide) ?_
      exact aw_ret (v := some (.int (0 : Int32))) rfl (Or.inr (Or.inl ⟨_, .int, rfl, rfl, rfl, dX12_winner_13⟩)) h
  · have h := h.2 hc
    refine aw_iconst (v := 1) dX12_winner_5 (by decide) ?_
    exact aw_ret (v := some (.int (1 : Int32))) rfl (Or.inr (Or.inl ⟨_, .int, rfl, rfl, rfl, dX12_winner_6⟩)) h
set_option maxRecDepth 100000 in
set_option maxHeartbeats 4000000 in
theorem v_X12_artOf {ad : Nat → Nat} {d : Nat} {Q : Option Value → Wm → Prop} {m : Wm} {x1 x2 : Int32} (h : AW ad E0 μX12_artOf d Q 8 [(0, .ref (ad 187)), (1, .int x1), (2, .int x2), (3, .int (-1 : Int32)), (4, .int (0 : Int32)), (5, .int (0 : Int32))] [] m) : Ct ad μX12_artOf d [.ref (ad 187), .int x1, .int x2] m Q := by
  refine Ct.of (by decide +kernel) rfl (Nat.le_of_ble_eq_true rfl) ?_
  refine aw_eq (L' := [(0, .ref (ad 187)), (1, .int x1), (2, .int x2)]) ?_ rfl rfl rfl
  refine aw_iconst (v := -1) dX12_artOf_0 (by decide) ?_
  refine aw_istore_n (L' := [(3, .int (-1 : Int32)), (0, .ref (ad 187)), (1, .int x1), (2, .int x2)]) dX12_artOf_1 rfl (by decide) rfl ?_
  refine aw_iconst (v := 0) dX12_artOf_2 (by decide) ?_
  refine aw_istore (L' := [(4, .int (0 : Int32)), (3, .int (-1 : Int32)), (0, .ref (ad 187)), (1, .int x1), (2, .int x2)]) dX12_artOf_3 (by decide) rfl ?_
  refine aw_iconst (v := 0) dX12_artOf_5 (by decide) ?_
  refine aw_istore (L' := [(5, .int (0 : Int32)), (4, .int (0 : Int32)), (3, .int (-1 : Int32)), (0, .ref (ad 187)), (1, .int x1), (2, .int x2)]) dX12_artOf_6 (by decide) rfl ?_
  exact aw_sub [3, 4, 5, 2, 1, 0] rfl h
set_option maxRecDepth 100000 in
set_option maxHeartbeats 4000000 in
theorem g_X12_artOf_8 {ad : Nat → Nat} {d : Nat} {Q : Option Value → Wm → Prop} {m : Wm} {x1 x2 x3 x4 x5 : Int32} (h : (((m.1 187 0) ≤ x5 → Q (some (.int x3)) m) ∧ (¬ (m.1 187 0) ≤ x5 → (vp_in (((4 : Int32) * x1) + x5) 32 ∧ (vp_in (((4 : Int32) * x2) + x5) 32 ∧ ((x4 < ((m.1 188 (((4 : Int32) * x1) + x5).toNatClampNeg) - (m.1 188 (((4 : Int32) * x2) + x5).toNatClampNeg)) → AW ad E0 μX12_artOf d Q 8 [(0, .ref (ad 187)), (1, .int x1), (2, .int x2), (3, .int x5), (4, .int ((m.1 188 (((4 : Int32) * x1) + x5).toNatClampNeg) - (m.1 188 (((4 : Int32) * x2) + x5).toNatClampNeg))), (5, .int (x5 + (1 : Int32)))] [] m) ∧ (¬ x4 < ((m.1 188 (((4 : Int32) * x1) + x5).toNatClampNeg) - (m.1 188 (((4 : Int32) * x2) + x5).toNatClampNeg)) → AW ad E0 μX12_artOf d Q 8 [(0, .ref (ad 187)), (1, .int x1), (2, .int x2), (3, .int x3), (4, .int x4), (5, .int (x5 + (1 : Int32)))] [] m))))))) : AW ad E0 μX12_artOf d Q 8 [(0, .ref (ad 187)), (1, .int x1), (2, .int x2), (3, .int x3), (4, .int x4), (5, .int x5)] [] m := by
  refine aw_iload (j := 5) dX12_artOf_8 rfl ?_
  refine aw_aload_n (j := 0) dX12_artOf_10 rfl rfl ?_
  refine aw_getfield (c := 0) (v := .int (m.1 187 0)) dX12_artOf_11 f_X12_9 ly_187 rfl rfl ?_
  refine aw_icmp_ge (tgt := 65) dX12_artOf_14 (by decide) (fun hc => ?_) (fun hc => ?_)
  · have h := h.1 hc
    refine aw_iload_n (j := 3) dX12_artOf_65 rfl rfl ?_
    exact aw_ret (v := some (.int x3)) rfl (Or.inr (Or.inl ⟨_, .int, rfl, rfl, rfl, dX12_artOf_66⟩)) h
  · have h := h.2 hc
    refine aw_aload_n (j := 0) dX12_artOf_17 rfl rfl ?_
    refine aw_getfield (c := 191) (v := .ref (ad 188)) dX12_artOf_18 f_X12_13 ly_187 rfl rfl ?_
    refine aw_iconst (v := 4) dX12_artOf_21 (by decide) ?_
    refine aw_iload_n (j := 1) dX12_artOf_22 rfl rfl ?_
    refine aw_imul dX12_artOf_23 ?_
    refine aw_iload (j := 5) dX12_artOf_24 rfl ?_
    refine aw_iadd dX12_artOf_26 ?_
    obtain ⟨hi, h⟩ := h
    refine aw_iaload dX12_artOf_27 ly_188 hi ?_
    refine aw_aload_n (j := 0) dX12_artOf_28 rfl rfl ?_
    refine aw_getfield (c := 191) (v := .ref (ad 188)) dX12_artOf_29 f_X12_13 ly_187 rfl rfl ?_
    refine aw_iconst (v := 4) dX12_artOf_32 (by decide) ?_
    refine aw_iload_n (j := 2) dX12_artOf_33 rfl rfl ?_
    refine aw_imul dX12_artOf_34 ?_
    refine aw_iload (j := 5) dX12_artOf_35 rfl ?_
    refine aw_iadd dX12_artOf_37 ?_
    obtain ⟨hi, h⟩ := h
    refine aw_iaload dX12_artOf_38 ly_188 hi ?_
    refine aw_isub dX12_artOf_39 ?_
    refine aw_istore (L' := [(6, .int ((m.1 188 (((4 : Int32) * x1) + x5).toNatClampNeg) - (m.1 188 (((4 : Int32) * x2) + x5).toNatClampNeg))), (0, .ref (ad 187)), (1, .int x1), (2, .int x2), (3, .int x3), (4, .int x4), (5, .int x5)]) dX12_artOf_40 (by decide) rfl ?_
    refine aw_iload (j := 0) dX12_artOf_42 rfl ?_
    refine aw_iload (j := 5) dX12_artOf_44 rfl ?_
    refine aw_icmp_gt (tgt := 52) dX12_artOf_46 (by decide) (fun hc => ?_) (fun hc => ?_)
    · have h := h.1 hc
      refine aw_iload (j := 6) dX12_artOf_52 rfl ?_
      refine aw_istore_n (L' := [(3, .int x5), (6, .int ((m.1 188 (((4 : Int32) * x1) + x5).toNatClampNeg) - (m.1 188 (((4 : Int32) * x2) + x5).toNatClampNeg))), (0, .ref (ad 187)), (1, .int x1), (2, .int x2), (4, .int x4), (5, .int x5)]) dX12_artOf_54 rfl (by decide) rfl ?_
      refine aw_iload (j := 1) dX12_artOf_55 rfl ?_
      refine aw_istore (L' := [(4, .int ((m.1 188 (((4 : Int32) * x1) + x5).toNatClampNeg) - (m.1 188 (((4 : Int32) * x2) + x5).toNatClampNeg))), (3, .int x5), (6, .int ((m.1 188 (((4 : Int32) * x1) + x5).toNatClampNeg) - (m.1 188 (((4 : Int32) * x2) + x5).toNatClampNeg))), (0, .ref (ad 187)), (1, .int x1), (2, .int x2), (5, .int x5)]) dX12_artOf_57 (by decide) rfl ?_
      refine aw_iinc (j := 6) (v := x5 + (1 : Int32)) (L' := [(5, .int (x5 + (1 : Int32))), (4, .int ((m.1 188 (((4 : Int32) * x1) + x5).toNatClampNeg) - (m.1 188 (((4 : Int32) * x2) + x5).toNatClampNeg))), (3, .int x5), (6, .int ((m.1 188 (((4 : Int32) * x1) + x5).toNatClampNeg) - (m.1 188 (((4 : Int32) * x2) + x5).toNatClampNeg))), (0, .ref (ad 187)), (1, .int x1), (2, .int x2)]) dX12_artOf_59 rfl rfl (by decide) rfl ?_
      refine aw_goto (tgt := 8) dX12_artOf_62 (by decide) ?_
      exact aw_sub [4, 5, 6, 2, 1, 0] rfl h
    · have h := h.2 hc
      refine aw_goto (tgt := 59) dX12_artOf_49 (by decide) ?_
      refine aw_iinc (j := 6) (v := x5 + (1 : Int32)) (L' := [(5, .int (x5 + (1 : Int32))), (6, .int ((m.1 188 (((4 : Int32) * x1) + x5).toNatClampNeg) - (m.1 188 (((4 : Int32) * x2) + x5).toNatClampNeg))), (0, .ref (ad 187)), (1, .int x1), (2, .int x2), (3, .int x3), (4, .int x4)]) dX12_artOf_59 rfl rfl (by decide) rfl ?_
      refine aw_goto (tgt := 8) dX12_artOf_62 (by decide) ?_
      exact aw_sub [2, 3, 4, 5, 6, 0] rfl h
set_option maxRecDepth 100000 in
set_option maxHeartbeats 4000000 in
theorem v_X12_gainOf {ad : Nat → Nat} {d : Nat} {Q : Option Value → Wm → Prop} {m : Wm} {x1 x2 x3 : Int32} (h : (vp_in x1 8 ∧ (((m.1 189 x1.toNatClampNeg) = 0 → (vp_in (((4 : Int32) * x1) + x3) 32 ∧ (vp_in (((4 : Int32) * x2) + x3) 32 ∧ Q (some (.int (if ((m.1 188 (((4 : Int32) * x1) + x3).toNatClampNeg) - (m.1 188 (((4 : Int32) * x2) + x3).toNatClampNeg)) < (m.1 193 (1 : Int32).toNatClampNeg) then ((m.1 188 (((4 : Int32) * x1) + x3).toNatClampNeg) - (m.1 188 (((4 : Int32) * x2) + x3).toNatClampNeg)) else (m.1 193 (1 : Int32).toNatClampNeg)))) m))) ∧ (¬ (m.1 189 x1.toNatClampNeg) = 0 → Q (some (.int (0 : Int32))) m)))) : Ct ad μX12_gainOf (d + 1) [.ref (ad 187), .int x1, .int x2, .int x3] m Q := by
  refine Ct.of (by decide +kernel) rfl (Nat.le_of_ble_eq_true rfl) ?_
  refine aw_eq (L' := [(0, .ref (ad 187)), (1, .int x1), (2, .int x2), (3, .int x3)]) ?_ rfl rfl rfl
  refine aw_aload_n (j := 0) dX12_gainOf_0 rfl rfl ?_
  refine aw_getfield (c := 192) (v := .ref (ad 189)) dX12_gainOf_1 f_X12_17 ly_187 rfl rfl ?_
  refine aw_iload_n (j := 1) dX12_gainOf_4 rfl rfl ?_
  obtain ⟨hi, h⟩ := h
  refine aw_zaload dX12_gainOf_5 ly_189 hi ?_
  refine aw_if_eq (tgt := 13) dX12_gainOf_6 (by decide) (fun hc => ?_) (fun hc => ?_)
  · have h := h.1 hc
    refine aw_aload_n (j := 0) dX12_gainOf_13 rfl rfl ?_
    refine aw_getfield (c := 196) (v := .ref (ad 193)) dX12_gainOf_14 f_X12_30 ly_187 rfl rfl ?_
    refine aw_iconst (v := 1) dX12_gainOf_17 (by decide) ?_
    refine aw_iaload dX12_gainOf_18 ly_193 (by unfold vp_in; decide) ?_
    refine aw_aload_n (j := 0) dX12_gainOf_19 rfl rfl ?_
    refine aw_getfield (c := 191) (v := .ref (ad 188)) dX12_gainOf_20 f_X12_13 ly_187 rfl rfl ?_
    refine aw_iconst (v := 4) dX12_gainOf_23 (by decide) ?_
    refine aw_iload_n (j := 1) dX12_gainOf_24 rfl rfl ?_
    refine aw_imul dX12_gainOf_25 ?_
    refine aw_iload_n (j := 3) dX12_gainOf_26 rfl rfl ?_
    refine aw_iadd dX12_gainOf_27 ?_
    obtain ⟨hi, h⟩ := h
    refine aw_iaload dX12_gainOf_28 ly_188 hi ?_
    refine aw_aload_n (j := 0) dX12_gainOf_29 rfl rfl ?_
    refine aw_getfield (c := 191) (v := .ref (ad 188)) dX12_gainOf_30 f_X12_13 ly_187 rfl rfl ?_
    refine aw_iconst (v := 4) dX12_gainOf_33 (by decide) ?_
    refine aw_iload_n (j := 2) dX12_gainOf_34 rfl rfl ?_
    refine aw_imul dX12_gainOf_35 ?_
    refine aw_iload_n (j := 3) dX12_gainOf_36 rfl rfl ?_
    refine aw_iadd dX12_gainOf_37 ?_
    obtain ⟨hi, h⟩ := h
    refine aw_iaload dX12_gainOf_38 ly_188 hi ?_
    refine aw_isub dX12_gainOf_39 ?_
    refine aw_min dX12_gainOf_40 k_X12_238 (Nat.le_of_ble_eq_true rfl) ?_
    exact aw_ret (v := some (.int (if ((m.1 188 (((4 : Int32) * x1) + x3).toNatClampNeg) - (m.1 188 (((4 : Int32) * x2) + x3).toNatClampNeg)) < (m.1 193 (1 : Int32).toNatClampNeg) then ((m.1 188 (((4 : Int32) * x1) + x3).toNatClampNeg) - (m.1 188 (((4 : Int32) * x2) + x3).toNatClampNeg)) else (m.1 193 (1 : Int32).toNatClampNeg)))) rfl (Or.inr (Or.inl ⟨_, .int, rfl, rfl, rfl, dX12_gainOf_43⟩)) h
  · have h := h.2 hc
    refine aw_iconst (v := 0) dX12_gainOf_9 (by decide) ?_
    refine aw_goto (tgt := 43) dX12_gainOf_10 (by decide) ?_
    exact aw_ret (v := some (.int (0 : Int32))) rfl (Or.inr (Or.inl ⟨_, .int, rfl, rfl, rfl, dX12_gainOf_43⟩)) h
set_option maxRecDepth 100000 in
set_option maxHeartbeats 4000000 in
theorem v_X12_teach {ad : Nat → Nat} {d : Nat} {Q : Option Value → Wm → Prop} {m : Wm} {x1 x2 : Int32} (h : (Ct ad μX12_artOf d [.ref (ad 187), .int x1, .int x2] m (fun r m1 => ∃ v2 : Int32, r = some (.int v2) ∧ ((¬ v2 = (-1 : Int32) → (Ct ad μX12_gainOf d [.ref (ad 187), .int x1, .int x2, .int v2] m1 (fun r m3 => ∃ v4 : Int32, r = some (.int v4) ∧ (vp_in (((4 : Int32) * x2) + v2) 32 ∧ (vp_in (((4 : Int32) * x2) + v2) 32 ∧ (vp_in x1 8 ∧ (vp_in x1 8 ∧ (vp_in (((4 : Int32) * x1) + v2) 32 ∧ (vp_in (((4 : Int32) * x1) + v2) 32 ∧ Q none (uI (uI (uI m3 188 (((4 : Int32) * x2) + v2).toNatClampNeg ((m3.1 188 (((4 : Int32) * x2) + v2).toNatClampNeg) + v4)) 191 x1.toNatClampNeg (((uI m3 188 (((4 : Int32) * x2) + v2).toNatClampNeg ((m3.1 188 (((4 : Int32) * x2) + v2).toNatClampNeg) + v4)).1 191 x1.toNatClampNeg) + v4)) 188 (((4 : Int32) * x1) + v2).toNatClampNeg (if (0 : Int32) < (if ((((uI (uI m3 188 (((4 : Int32) * x2) + v2).toNatClampNeg ((m3.1 188 (((4 : Int32) * x2) + v2).toNatClampNeg) + v4)) 191 x1.toNatClampNeg (((uI m3 188 (((4 : Int32) * x2) + v2).toNatClampNeg ((m3.1 188 (((4 : Int32) * x2) + v2).toNatClampNeg) + v4)).1 191 x1.toNatClampNeg) + v4)).1 188 (((4 : Int32) * x1) + v2).toNatClampNeg) + ((uI (uI m3 188 (((4 : Int32) * x2) + v2).toNatClampNeg ((m3.1 188 (((4 : Int32) * x2) + v2).toNatClampNeg) + v4)) 191 x1.toNatClampNeg (((uI m3 188 (((4 : Int32) * x2) + v2).toNatClampNeg ((m3.1 188 (((4 : Int32) * x2) + v2).toNatClampNeg) + v4)).1 191 x1.toNatClampNeg) + v4)).1 193 (2 : Int32).toNatClampNeg)) - (1 : Int32)) < (7 : Int32) then ((((uI (uI m3 188 (((4 : Int32) * x2) + v2).toNatClampNeg ((m3.1 188 (((4 : Int32) * x2) + v2).toNatClampNeg) + v4)) 191 x1.toNatClampNeg (((uI m3 188 (((4 : Int32) * x2) + v2).toNatClampNeg ((m3.1 188 (((4 : Int32) * x2) + v2).toNatClampNeg) + v4)).1 191 x1.toNatClampNeg) + v4)).1 188 (((4 : Int32) * x1) + v2).toNatClampNeg) + ((uI (uI m3 188 (((4 : Int32) * x2) + v2).toNatClampNeg ((m3.1 188 (((4 : Int32) * x2) + v2).toNatClampNeg) + v4)) 191 x1.toNatClampNeg (((uI m3 188 (((4 : Int32) * x2) + v2).toNatClampNeg ((m3.1 188 (((4 : Int32) * x2) + v2).toNatClampNeg) + v4)).1 191 x1.toNatClampNeg) + v4)).1 193 (2 : Int32).toNatClampNeg)) - (1 : Int32)) else (7 : Int32)) then (if ((((uI (uI m3 188 (((4 : Int32) * x2) + v2).toNatClampNeg ((m3.1 188 (((4 : Int32) * x2) + v2).toNatClampNeg) + v4)) 191 x1.toNatClampNeg (((uI m3 188 (((4 : Int32) * x2) + v2).toNatClampNeg ((m3.1 188 (((4 : Int32) * x2) + v2).toNatClampNeg) + v4)).1 191 x1.toNatClampNeg) + v4)).1 188 (((4 : Int32) * x1) + v2).toNatClampNeg) + ((uI (uI m3 188 (((4 : Int32) * x2) + v2).toNatClampNeg ((m3.1 188 (((4 : Int32) * x2) + v2).toNatClampNeg) + v4)) 191 x1.toNatClampNeg (((uI m3 188 (((4 : Int32) * x2) + v2).toNatClampNeg ((m3.1 188 (((4 : Int32) * x2) + v2).toNatClampNeg) + v4)).1 191 x1.toNatClampNeg) + v4)).1 193 (2 : Int32).toNatClampNeg)) - (1 : Int32)) < (7 : Int32) then ((((uI (uI m3 188 (((4 : Int32) * x2) + v2).toNatClampNeg ((m3.1 188 (((4 : Int32) * x2) + v2).toNatClampNeg) + v4)) 191 x1.toNatClampNeg (((uI m3 188 (((4 : Int32) * x2) + v2).toNatClampNeg ((m3.1 188 (((4 : Int32) * x2) + v2).toNatClampNeg) + v4)).1 191 x1.toNatClampNeg) + v4)).1 188 (((4 : Int32) * x1) + v2).toNatClampNeg) + ((uI (uI m3 188 (((4 : Int32) * x2) + v2).toNatClampNeg ((m3.1 188 (((4 : Int32) * x2) + v2).toNatClampNeg) + v4)) 191 x1.toNatClampNeg (((uI m3 188 (((4 : Int32) * x2) + v2).toNatClampNeg ((m3.1 188 (((4 : Int32) * x2) + v2).toNatClampNeg) + v4)).1 191 x1.toNatClampNeg) + v4)).1 193 (2 : Int32).toNatClampNeg)) - (1 : Int32)) else (7 : Int32)) else (0 : Int32)))))))))))) ∧ (v2 = (-1 : Int32) → Q none m1))))) : Ct ad μX12_teach (d + 1) [.ref (ad 187), .int x1, .int x2] m Q := by
  refine Ct.of (by decide +kernel) rfl (Nat.le_of_ble_eq_true rfl) ?_
  refine aw_eq (L' := [(0, .ref (ad 187)), (1, .int x1), (2, .int x2)]) ?_ rfl rfl rfl
  refine aw_aload_n (j := 0) dX12_teach_0 rfl rfl ?_
  refine aw_iload_n (j := 1) dX12_teach_1 rfl rfl ?_
  refine aw_iload_n (j := 2) dX12_teach_2 rfl rfl ?_
  refine aw_callV (rest := []) [.int x1, .int x2] dX12_teach_3 ly_187 rfl k_X12_260 rfl h (Nat.le_of_ble_eq_true rfl) (fun v m1 h => ?_)
  obtain ⟨v2, rfl, h⟩ := h
  refine aw_eq (L' := [(0, .ref (ad 187)), (1, .int x1), (2, .int x2)]) (st' := [.int v2]) (m' := m1) ?_ rfl rfl rfl
  refine aw_istore_n (L' := [(3, .int v2), (0, .ref (ad 187)), (1, .int x1), (2, .int x2)]) dX12_teach_6 rfl (by decide) rfl ?_
  refine aw_iload_n (j := 0) dX12_teach_7 rfl rfl ?_
  refine aw_iconst (v := -1) dX12_teach_8 (by decide) ?_
  refine aw_icmp_ne (tgt := 13) dX12_teach_9 (by decide) (fun hc => ?_) (fun hc => ?_)
  · have h := h.1 hc
    refine aw_aload_n (j := 1) dX12_teach_13 rfl rfl ?_
    refine aw_iload_n (j := 2) dX12_teach_14 rfl rfl ?_
    refine aw_iload_n (j := 3) dX12_teach_15 rfl rfl ?_
    refine aw_iload_n (j := 0) dX12_teach_16 rfl rfl ?_
    refine aw_callV (rest := []) [.int x1, .int x2, .int v2] dX12_teach_17 ly_187 rfl k_X12_263 rfl h (Nat.le_of_ble_eq_true rfl) (fun v m3 h => ?_)
    obtain ⟨v4, rfl, h⟩ := h
    refine aw_eq (L' := [(3, .int v2), (0, .ref (ad 187)), (1, .int x1), (2, .int x2)]) (st' := [.int v4]) (m' := m3) ?_ rfl rfl rfl
    refine aw_istore (L' := [(4, .int v4), (3, .int v2), (0, .ref (ad 187)), (1, .int x1), (2, .int x2)]) dX12_teach_20 (by decide) rfl ?_
    refine aw_aload_n (j := 2) dX12_teach_22 rfl rfl ?_
    refine aw_getfield (c := 191) (v := .ref (ad 188)) dX12_teach_23 f_X12_13 ly_187 rfl rfl ?_
    refine aw_iconst (v := 4) dX12_teach_26 (by decide) ?_
    refine aw_iload_n (j := 4) dX12_teach_27 rfl rfl ?_
    refine aw_imul dX12_teach_28 ?_
    refine aw_iload_n (j := 1) dX12_teach_29 rfl rfl ?_
    refine aw_iadd dX12_teach_30 ?_
    refine aw_dup2_11 dX12_teach_31 rfl rfl ?_
    obtain ⟨hi, h⟩ := h
    refine aw_iaload dX12_teach_32 ly_188 hi ?_
    refine aw_iload (j := 0) dX12_teach_33 rfl ?_
    refine aw_iadd dX12_teach_35 ?_
    obtain ⟨hi, h⟩ := h
    refine aw_iastore dX12_teach_36 ly_188 hi ?_
    refine aw_aload_n (j := 2) dX12_teach_37 rfl rfl ?_
    refine aw_getfield (c := 194) (v := .ref (ad 191)) dX12_teach_38 f_X12_24 ly_187 rfl rfl ?_
    refine aw_iload_n (j := 3) dX12_teach_41 rfl rfl ?_
    refine aw_dup2_11 dX12_teach_42 rfl rfl ?_
    obtain ⟨hi, h⟩ := h
    refine aw_iaload dX12_teach_43 ly_191 hi ?_
    refine aw_iload (j := 0) dX12_teach_44 rfl ?_
    refine aw_iadd dX12_teach_46 ?_
    obtain ⟨hi, h⟩ := h
    refine aw_iastore dX12_teach_47 ly_191 hi ?_
    refine aw_aload_n (j := 2) dX12_teach_48 rfl rfl ?_
    refine aw_getfield (c := 191) (v := .ref (ad 188)) dX12_teach_49 f_X12_13 ly_187 rfl rfl ?_
    refine aw_iconst (v := 4) dX12_teach_52 (by decide) ?_
    refine aw_iload_n (j := 3) dX12_teach_53 rfl rfl ?_
    refine aw_imul dX12_teach_54 ?_
    refine aw_iload_n (j := 1) dX12_teach_55 rfl rfl ?_
    refine aw_iadd dX12_teach_56 ?_
    refine aw_iconst (v := 0) dX12_teach_57 (by decide) ?_
    refine aw_bipush (v := 7) dX12_teach_58 (by decide) ?_
    refine aw_aload_n (j := 2) dX12_teach_60 rfl rfl ?_
    refine aw_getfield (c := 191) (v := .ref (ad 188)) dX12_teach_61 f_X12_13 ly_187 rfl rfl ?_
    refine aw_iconst (v := 4) dX12_teach_64 (by decide) ?_
    refine aw_iload_n (j := 3) dX12_teach_65 rfl rfl ?_
    refine aw_imul dX12_teach_66 ?_
    refine aw_iload_n (j := 1) dX12_teach_67 rfl rfl ?_
    refine aw_iadd dX12_teach_68 ?_
    obtain ⟨hi, h⟩ := h
    refine aw_iaload dX12_teach_69 ly_188 hi ?_
    refine aw_aload_n (j := 2) dX12_teach_70 rfl rfl ?_
    refine aw_getfield (c := 196) (v := .ref (ad 193)) dX12_teach_71 f_X12_30 ly_187 rfl rfl ?_
    refine aw_iconst (v := 2) dX12_teach_74 (by decide) ?_
    refine aw_iaload dX12_teach_75 ly_193 (by unfold vp_in; decide) ?_
    refine aw_iadd dX12_teach_76 ?_
    refine aw_iconst (v := 1) dX12_teach_77 (by decide) ?_
    refine aw_isub dX12_teach_78 ?_
    refine aw_min dX12_teach_79 k_X12_238 (Nat.le_of_ble_eq_true rfl) ?_
    refine aw_max dX12_teach_82 k_X12_233 (Nat.le_of_ble_eq_true rfl) ?_
    obtain ⟨hi, h⟩ := h
    refine aw_iastore dX12_teach_85 ly_188 hi ?_
    exact aw_ret (v := none) rfl (Or.inl ⟨rfl, rfl, dX12_teach_86⟩) h
  · have h := h.2 hc
    exact aw_ret (v := none) rfl (Or.inl ⟨rfl, rfl, dX12_teach_12⟩) h
set_option maxRecDepth 100000 in
set_option maxHeartbeats 4000000 in
theorem v_X12_isThrown {ad : Nat → Nat} {d : Nat} {Q : Option Value → Wm → Prop} {m : Wm} {x0 : Int32} (h : (Ct ad μX12_in d [.long x0.toInt64, .long (0 : Int64), .long (3 : Int64)] m (fun r m1 => ∃ v2 : Int32, r = some (.int v2) ∧ (bz v2 ∧ Q (some (.int v2)) m1)))) : Ct ad μX12_isThrown (d + 1) [.int x0] m Q := by
  refine Ct.of (by decide +kernel) rfl (Nat.le_of_ble_eq_true rfl) ?_
  refine aw_eq (L' := [(0, .int x0)]) ?_ rfl rfl rfl
  refine aw_iload_n (j := 0) dX12_isThrown_0 rfl rfl ?_
  refine aw_i2l dX12_isThrown_1 ?_
  refine aw_lconst (v := 0) dX12_isThrown_2 (by decide) ?_
  refine aw_ldc2 dX12_isThrown_3 c_X12_258 ?_
  refine aw_callS (rest := []) [.long x0.toInt64, .long (0 : Int64), .long (3 : Int64)] dX12_isThrown_6 k_X12_119 rfl h (Nat.le_of_ble_eq_true rfl) (fun v m1 h => ?_)
  obtain ⟨v2, rfl, h⟩ := h
  refine aw_eq (L' := [(0, .int x0)]) (st' := [.int v2]) (m' := m1) ?_ rfl rfl rfl
  exact aw_ret (v := some (.int v2)) rfl (Or.inr (Or.inl ⟨_, .boolean, rfl, rfl, h.1.n, dX12_isThrown_9⟩)) h.2
set_option maxRecDepth 100000 in
set_option maxHeartbeats 4000000 in
theorem v_X12_game {ad : Nat → Nat} {d : Nat} {Q : Option Value → Wm → Prop} {m : Wm} {x1 x2 x3 : Int32} (h : (Ct ad μX12_areTwo d [.ref (ad 187), .int x1, .int x2] (uI m 187 17 (0 : Int32)) (fun r m1 => ∃ v2 : Int32, r = some (.int v2) ∧ ((v2 = 0 → Q (some (.int (-1 : Int32))) m1) ∧ (¬ v2 = 0 → (Ct ad μX12_isThrown d [.int x3] m1 (fun r m3 => ∃ v4 : Int32, r = some (.int v4) ∧ ((¬ v4 = 0 → (Ct ad μX12_winner d [.ref (ad 187), .int x1, .int x2, .int x3] m3 (fun r m5 => ∃ v6 : Int32, r = some (.int v6) ∧ ((v6 = (2 : Int32) → AW ad E0 μX12_game (d + 1) Q 150 [(0, .ref (ad 187)), (4, .int v6), (5, .int (-1 : Int32)), (6, .int (0 : Int32))] [] (uI m5 187 16 (0 : Int32))) ∧ (¬ v6 = (2 : Int32) → ((((uI m5 187 16 (0 : Int32)).1 193 (0 : Int32).toNatClampNeg) = (3 : Int32) → AW ad E0 μX12_game (d + 1) Q 150 [(0, .ref (ad 187)), (4, .int v6), (5, .int (-1 : Int32)), (6, .int (0 : Int32))] [] (uI m5 187 16 (0 : Int32))) ∧ (¬ ((uI m5 187 16 (0 : Int32)).1 193 (0 : Int32).toNatClampNeg) = (3 : Int32) → ((¬ v6 = 0 → AW ad E0 μX12_game (d + 1) Q 69 [(0, .ref (ad 187)), (1, .int x1), (2, .int x2), (4, .int v6)] [.int (0 : Int32)] (uI m5 187 16 (0 : Int32))) ∧ (v6 = 0 → AW ad E0 μX12_game (d + 1) Q 69 [(0, .ref (ad 187)), (1, .int x1), (2, .int x2), (4, .int v6)] [.int (1 : Int32)] (uI m5 187 16 (0 : Int32))))))))))) ∧ (v4 = 0 → Q (some (.int (-1 : Int32))) m3))))))))) : Ct ad μX12_game (d + 1) [.ref (ad 187), .int x1, .int x2, .int x3] m Q := by
  refine Ct.of (by decide +kernel) rfl (Nat.le_of_ble_eq_true rfl) ?_
  refine aw_eq (L' := [(0, .ref (ad 187)), (1, .int x1), (2, .int x2), (3, .int x3)]) ?_ rfl rfl rfl
  refine aw_aload_n (j := 0) dX12_game_0 rfl rfl ?_
  refine aw_iconst (v := 0) dX12_game_1 (by decide) ?_
  refine aw_putI dX12_game_2 f_X12_110 cl_X12 rfl ly_187 rfl rfl rfl ?_
  refine aw_aload_n (j := 0) dX12_game_5 rfl rfl ?_
  refine aw_iload_n (j := 1) dX12_game_6 rfl rfl ?_
  refine aw_iload_n (j := 2) dX12_game_7 rfl rfl ?_
  refine aw_callV (rest := []) [.int x1, .int x2] dX12_game_8 ly_187 rfl k_X12_267 rfl h (Nat.le_of_ble_eq_true rfl) (fun v m1 h => ?_)
  obtain ⟨v2, rfl, h⟩ := h
  refine aw_eq (L' := [(0, .ref (ad 187)), (1, .int x1), (2, .int x2), (3, .int x3)]) (st' := [.int v2]) (m' := m1) ?_ rfl rfl rfl
  refine aw_if_eq (tgt := 21) dX12_game_11 (by decide) (fun hc => ?_) (fun hc => ?_)
  · have h := h.1 hc
    refine aw_iconst (v := -1) dX12_game_21 (by decide) ?_
    exact aw_ret (v := some (.int (-1 : Int32))) rfl (Or.inr (Or.inl ⟨_, .int, rfl, rfl, rfl, dX12_game_22⟩)) h
  · have h := h.2 hc
    refine aw_iload_n (j := 3) dX12_game_14 rfl rfl ?_
    refine aw_callS (rest := []) [.int x3] dX12_game_15 k_X12_270 rfl h (Nat.le_of_ble_eq_true rfl) (fun v m3 h => ?_)
    obtain ⟨v4, rfl, h⟩ := h
    refine aw_eq (L' := [(0, .ref (ad 187)), (1, .int x1), (2, .int x2), (3, .int x3)]) (st' := [.int v4]) (m' := m3) ?_ rfl rfl rfl
    refine aw_if_ne (tgt := 23) dX12_game_18 (by decide) (fun hc => ?_) (fun hc => ?_)
    · have h := h.1 hc
      refine aw_aload_n (j := 0) dX12_game_23 rfl rfl ?_
      refine aw_iload_n (j := 1) dX12_game_24 rfl rfl ?_
      refine aw_iload_n (j := 2) dX12_game_25 rfl rfl ?_
      refine aw_iload_n (j := 3) dX12_game_26 rfl rfl ?_
      refine aw_callV (rest := []) [.int x1, .int x2, .int x3] dX12_game_27 ly_187 rfl k_X12_273 rfl h (Nat.le_of_ble_eq_true rfl) (fun v m5 h => ?_)
      obtain ⟨v6, rfl, h⟩ := h
      refine aw_eq (L' := [(0, .ref (ad 187)), (1, .int x1), (2, .int x2), (3, .int x3)]) (st' := [.int v6]) (m' := m5) ?_ rfl rfl rfl
      refine aw_istore (L' := [(4, .int v6), (0, .ref (ad 187)), (1, .int x1), (2, .int x2), (3, .int x3)]) dX12_game_30 (by decide) rfl ?_
      refine aw_aload_n (j := 1) dX12_game_32 rfl rfl ?_
      refine aw_iconst (v := 0) dX12_game_33 (by decide) ?_
      refine aw_putI dX12_game_34 f_X12_113 cl_X12 rfl ly_187 rfl rfl rfl ?_
      refine aw_iconst (v := -1) dX12_game_37 (by decide) ?_
      refine aw_istore (L' := [(5, .int (-1 : Int32)), (4, .int v6), (0, .ref (ad 187)), (1, .int x1), (2, .int x2), (3, .int x3)]) dX12_game_38 (by decide) rfl ?_
      refine aw_iconst (v := 0) dX12_game_40 (by decide) ?_
      refine aw_istore (L' := [(6, .int (0 : Int32)), (5, .int (-1 : Int32)), (4, .int v6), (0, .ref (ad 187)), (1, .int x1), (2, .int x2), (3, .int x3)]) dX12_game_41 (by decide) rfl ?_
      refine aw_iload (j := 2) dX12_game_43 rfl ?_
      refine aw_iconst (v := 2) dX12_game_45 (by decide) ?_
      refine aw_icmp_eq (tgt := 150) dX12_game_46 (by decide) (fun hc => ?_) (fun hc => ?_)
      · have h := h.1 hc
        exact aw_sub [3, 2, 1, 0] rfl h
      · have h := h.2 hc
        refine aw_aload_n (j := 3) dX12_game_49 rfl rfl ?_
        refine aw_getfield (c := 196) (v := .ref (ad 193)) dX12_game_50 f_X12_30 ly_187 rfl rfl ?_
        refine aw_iconst (v := 0) dX12_game_53 (by decide) ?_
        refine aw_iaload dX12_game_54 ly_193 (by unfold vp_in; decide) ?_
        refine aw_iconst (v := 3) dX12_game_55 (by decide) ?_
        refine aw_icmp_eq (tgt := 150) dX12_game_56 (by decide) (fun hc => ?_) (fun hc => ?_)
        · have h := h.1 hc
          exact aw_sub [3, 2, 1, 0] rfl h
        · have h := h.2 hc
          refine aw_iload (j := 2) dX12_game_59 rfl ?_
          refine aw_if_ne (tgt := 68) dX12_game_61 (by decide) (fun hc => ?_) (fun hc => ?_)
          · have h := h.1 hc
            refine aw_iconst (v := 0) dX12_game_68 (by decide) ?_
            exact aw_sub [3, 4, 5, 2] rfl h
          · have h := h.2 hc
            refine aw_iconst (v := 1) dX12_game_64 (by decide) ?_
            refine aw_goto (tgt := 69) dX12_game_65 (by decide) ?_
            exact aw_sub [3, 4, 5, 2] rfl h
    · have h := h.2 hc
      refine aw_iconst (v := -1) dX12_game_21 (by decide) ?_
      exact aw_ret (v := some (.int (-1 : Int32))) rfl (Or.inr (Or.inl ⟨_, .int, rfl, rfl, rfl, dX12_game_22⟩)) h
set_option maxRecDepth 100000 in
set_option maxHeartbeats 4000000 in
theorem g_X12_game_69 {ad : Nat → Nat} {d : Nat} {Q : Option Value → Wm → Prop} {m : Wm} {x1 x2 x4 s0 : Int32} (h : (((m.1 193 (0 : Int32).toNatClampNeg) = (1 : Int32) → ((¬ s0 = (0 : Int32) → AW ad E0 μX12_game (d + 1) Q 92 [(0, .ref (ad 187)), (1, .int x1), (2, .int x2), (4, .int x4)] [.int (0 : Int32)] m) ∧ (s0 = (0 : Int32) → AW ad E0 μX12_game (d + 1) Q 92 [(0, .ref (ad 187)), (1, .int x1), (2, .int x2), (4, .int x4)] [.int (1 : Int32)] m))) ∧ (¬ (m.1 193 (0 : Int32).toNatClampNeg) = (1 : Int32) → ((¬ s0 = (1 : Int32) → AW ad E0 μX12_game (d + 1) Q 92 [(0, .ref (ad 187)), (1, .int x1), (2, .int x2), (4, .int x4)] [.int (0 : Int32)] m) ∧ (s0 = (1 : Int32) → AW ad E0 μX12_game (d + 1) Q 92 [(0, .ref (ad 187)), (1, .int x1), (2, .int x2), (4, .int x4)] [.int (1 : Int32)] m))))) : AW ad E0 μX12_game (d + 1) Q 69 [(0, .ref (ad 187)), (1, .int x1), (2, .int x2), (4, .int x4)] [.int s0] m := by
  refine aw_aload_n (j := 0) dX12_game_69 rfl rfl ?_
  refine aw_getfield (c := 196) (v := .ref (ad 193)) dX12_game_70 f_X12_30 ly_187 rfl rfl ?_
  refine aw_iconst (v := 0) dX12_game_73 (by decide) ?_
  refine aw_iaload dX12_game_74 ly_193 (by unfold vp_in; decide) ?_
  refine aw_iconst (v := 1) dX12_game_75 (by decide) ?_
  refine aw_icmp_eq (tgt := 83) dX12_game_76 (by decide) (fun hc => ?_) (fun hc => ?_)
  · have h := h.1 hc
    refine aw_iconst (v := 0) dX12_game_83 (by decide) ?_
    refine aw_icmp_ne (tgt := 91) dX12_game_84 (by decide) (fun hc => ?_) (fun hc => ?_)
    · have h := h.1 hc
      refine aw_iconst (v := 0) dX12_game_91 (by decide) ?_
      exact aw_sub [0, 1, 2, 3] rfl h
    · have h := h.2 hc
      refine aw_iconst (v := 1) dX12_game_87 (by decide) ?_
      refine aw_goto (tgt := 92) dX12_game_88 (by decide) ?_
      exact aw_sub [0, 1, 2, 3] rfl h
  · have h := h.2 hc
    refine aw_iconst (v := 1) dX12_game_79 (by decide) ?_
    refine aw_goto (tgt := 84) dX12_game_80 (by decide) ?_
    refine aw_icmp_ne (tgt := 91) dX12_game_84 (by decide) (fun hc => ?_) (fun hc => ?_)
    · have h := h.1 hc
      refine aw_iconst (v := 0) dX12_game_91 (by decide) ?_
      exact aw_sub [0, 1, 2, 3] rfl h
    · have h := h.2 hc
      refine aw_iconst (v := 1) dX12_game_87 (by decide) ?_
      refine aw_goto (tgt := 92) dX12_game_88 (by decide) ?_
      exact aw_sub [0, 1, 2, 3] rfl h
set_option maxRecDepth 100000 in
set_option maxHeartbeats 4000000 in
theorem g_X12_game_92 {ad : Nat → Nat} {d : Nat} {Q : Option Value → Wm → Prop} {m : Wm} {x1 x2 x4 s0 : Int32} (h : ((s0 = 0 → ((s0 = 0 → AW ad E0 μX12_game (d + 1) Q 116 [(0, .ref (ad 187)), (4, .int x4), (8, .int x2)] [.int x1] m) ∧ (¬ s0 = 0 → AW ad E0 μX12_game (d + 1) Q 116 [(0, .ref (ad 187)), (4, .int x4), (8, .int x2)] [.int x2] m))) ∧ (¬ s0 = 0 → ((s0 = 0 → AW ad E0 μX12_game (d + 1) Q 116 [(0, .ref (ad 187)), (4, .int x4), (8, .int x1)] [.int x1] m) ∧ (¬ s0 = 0 → AW ad E0 μX12_game (d + 1) Q 116 [(0, .ref (ad 187)), (4, .int x4), (8, .int x1)] [.int x2] m))))) : AW ad E0 μX12_game (d + 1) Q 92 [(0, .ref (ad 187)), (1, .int x1), (2, .int x2), (4, .int x4)] [.int s0] m := by
  refine aw_istore (L' := [(7, .int s0), (0, .ref (ad 187)), (1, .int x1), (2, .int x2), (4, .int x4)]) dX12_game_92 (by decide) rfl ?_
  refine aw_iload (j := 0) dX12_game_94 rfl ?_
  refine aw_if_eq (tgt := 103) dX12_game_96 (by decide) (fun hc => ?_) (fun hc => ?_)
  · have h := h.1 hc
    refine aw_iload_n (j := 3) dX12_game_103 rfl rfl ?_
    refine aw_istore (L' := [(8, .int x2), (7, .int s0), (0, .ref (ad 187)), (1, .int x1), (2, .int x2), (4, .int x4)]) dX12_game_104 (by decide) rfl ?_
    refine aw_iload (j := 1) dX12_game_106 rfl ?_
    refine aw_if_eq (tgt := 115) dX12_game_108 (by decide) (fun hc => ?_) (fun hc => ?_)
    · have h := h.1 hc
      refine aw_iload_n (j := 3) dX12_game_115 rfl rfl ?_
      exact aw_sub [2, 5, 0] rfl h
    · have h := h.2 hc
      refine aw_iload_n (j := 4) dX12_game_111 rfl rfl ?_
      refine aw_goto (tgt := 116) dX12_game_112 (by decide) ?_
      exact aw_sub [2, 5, 0] rfl h
  · have h := h.2 hc
    refine aw_iload_n (j := 2) dX12_game_99 rfl rfl ?_
    refine aw_goto (tgt := 104) dX12_game_100 (by decide) ?_
    refine aw_istore (L' := [(8, .int x1), (7, .int s0), (0, .ref (ad 187)), (1, .int x1), (2, .int x2), (4, .int x4)]) dX12_game_104 (by decide) rfl ?_
    refine aw_iload (j := 1) dX12_game_106 rfl ?_
    refine aw_if_eq (tgt := 115) dX12_game_108 (by decide) (fun hc => ?_) (fun hc => ?_)
    · have h := h.1 hc
      refine aw_iload_n (j := 3) dX12_game_115 rfl rfl ?_
      exact aw_sub [2, 5, 0] rfl h
    · have h := h.2 hc
      refine aw_iload_n (j := 4) dX12_game_111 rfl rfl ?_
      refine aw_goto (tgt := 116) dX12_game_112 (by decide) ?_
      exact aw_sub [2, 5, 0] rfl h
set_option maxRecDepth 100000 in
set_option maxHeartbeats 4000000 in
theorem g_X12_game_116 {ad : Nat → Nat} {d : Nat} {Q : Option Value → Wm → Prop} {m : Wm} {x4 x8 s0 : Int32} (h : (Ct ad μX12_artOf d [.ref (ad 187), .int x8, .int s0] m (fun r m1 => ∃ v2 : Int32, r = some (.int v2) ∧ ((¬ v2 = (-1 : Int32) → (Ct ad μX12_gainOf d [.ref (ad 187), .int x8, .int s0, .int v2] m1 (fun r m3 => ∃ v4 : Int32, r = some (.int v4) ∧ AW ad E0 μX12_game (d + 1) Q 150 [(0, .ref (ad 187)), (4, .int x4), (5, .int v2), (6, .int v4)] [] m3))) ∧ (v2 = (-1 : Int32) → AW ad E0 μX12_game (d + 1) Q 150 [(0, .ref (ad 187)), (4, .int x4), (5, .int v2), (6, .int (0 : Int32))] [] m1))))) : AW ad E0 μX12_game (d + 1) Q 116 [(0, .ref (ad 187)), (4, .int x4), (8, .int x8)] [.int s0] m := by
  refine aw_istore (L' := [(9, .int s0), (0, .ref (ad 187)), (4, .int x4), (8, .int x8)]) dX12_game_116 (by decide) rfl ?_
  refine aw_aload_n (j := 1) dX12_game_118 rfl rfl ?_
  refine aw_iload (j := 3) dX12_game_119 rfl ?_
  refine aw_iload (j := 0) dX12_game_121 rfl ?_
  refine aw_callV (rest := []) [.int x8, .int s0] dX12_game_123 ly_187 rfl k_X12_260 rfl h (Nat.le_of_ble_eq_true rfl) (fun v m1 h => ?_)
  obtain ⟨v2, rfl, h⟩ := h
  refine aw_eq (L' := [(9, .int s0), (0, .ref (ad 187)), (4, .int x4), (8, .int x8)]) (st' := [.int v2]) (m' := m1) ?_ rfl rfl rfl
  refine aw_istore (L' := [(5, .int v2), (9, .int s0), (0, .ref (ad 187)), (4, .int x4), (8, .int x8)]) dX12_game_126 (by decide) rfl ?_
  refine aw_iload (j := 0) dX12_game_128 rfl ?_
  refine aw_iconst (v := -1) dX12_game_130 (by decide) ?_
  refine aw_icmp_ne (tgt := 138) dX12_game_131 (by decide) (fun hc => ?_) (fun hc => ?_)
  · have h := h.1 hc
    refine aw_aload_n (j := 2) dX12_game_138 rfl rfl ?_
    refine aw_iload (j := 4) dX12_game_139 rfl ?_
    refine aw_iload (j := 1) dX12_game_141 rfl ?_
    refine aw_iload (j := 0) dX12_game_143 rfl ?_
    refine aw_callV (rest := []) [.int x8, .int s0, .int v2] dX12_game_145 ly_187 rfl k_X12_263 rfl h (Nat.le_of_ble_eq_true rfl) (fun v m3 h => ?_)
    obtain ⟨v4, rfl, h⟩ := h
    refine aw_eq (L' := [(5, .int v2), (9, .int s0), (0, .ref (ad 187)), (4, .int x4), (8, .int x8)]) (st' := [.int v4]) (m' := m3) ?_ rfl rfl rfl
    refine aw_istore (L' := [(6, .int v4), (5, .int v2), (9, .int s0), (0, .ref (ad 187)), (4, .int x4), (8, .int x8)]) dX12_game_148 (by decide) rfl ?_
    exact aw_sub [3, 4, 1, 0] rfl h
  · have h := h.2 hc
    refine aw_iconst (v := 0) dX12_game_134 (by decide) ?_
    refine aw_goto (tgt := 148) dX12_game_135 (by decide) ?_
    refine aw_istore (L' := [(6, .int (0 : Int32)), (5, .int v2), (9, .int s0), (0, .ref (ad 187)), (4, .int x4), (8, .int x8)]) dX12_game_148 (by decide) rfl ?_
    exact aw_sub [3, 4, 1, 0] rfl h
set_option maxRecDepth 100000 in
set_option maxHeartbeats 4000000 in
theorem g_X12_game_150 {ad : Nat → Nat} {d : Nat} {Q : Option Value → Wm → Prop} {m : Wm} {x4 x5 x6 : Int32} (h : (Ct ad μX12_tell d [.ref (ad 187), .long x5.toInt64] m (fun r m1 => r = none ∧ (Ct ad μX12_tell d [.ref (ad 187), .long x6.toInt64] m1 (fun r m2 => r = none ∧ Q (some (.int x4)) m2))))) : AW ad E0 μX12_game (d + 1) Q 150 [(0, .ref (ad 187)), (4, .int x4), (5, .int x5), (6, .int x6)] [] m := by
  refine aw_aload_n (j := 0) dX12_game_150 rfl rfl ?_
  refine aw_iload (j := 2) dX12_game_151 rfl ?_
  refine aw_i2l dX12_game_153 ?_
  refine aw_callV (rest := []) [.long x5.toInt64] dX12_game_154 ly_187 rfl k_X12_131 rfl h (Nat.le_of_ble_eq_true rfl) (fun v m1 h => ?_)
  obtain ⟨rfl, h⟩ := h
  refine aw_eq (L' := [(0, .ref (ad 187)), (4, .int x4), (5, .int x5), (6, .int x6)]) (st' := []) (m' := m1) ?_ rfl rfl rfl
  refine aw_aload_n (j := 0) dX12_game_157 rfl rfl ?_
  refine aw_iload (j := 3) dX12_game_158 rfl ?_
  refine aw_i2l dX12_game_160 ?_
  refine aw_callV (rest := []) [.long x6.toInt64] dX12_game_161 ly_187 rfl k_X12_131 rfl h (Nat.le_of_ble_eq_true rfl) (fun v m2 h => ?_)
  obtain ⟨rfl, h⟩ := h
  refine aw_eq (L' := [(0, .ref (ad 187)), (4, .int x4), (5, .int x5), (6, .int x6)]) (st' := []) (m' := m2) ?_ rfl rfl rfl
  refine aw_iload (j := 1) dX12_game_164 rfl ?_
  exact aw_ret (v := some (.int x4)) rfl (Or.inr (Or.inl ⟨_, .int, rfl, rfl, rfl, dX12_game_166⟩)) h
set_option maxRecDepth 100000 in
set_option maxHeartbeats 4000000 in
theorem v_X12_chanceOf {ad : Nat → Nat} {d : Nat} {Q : Option Value → Wm → Prop} {m : Wm} {x1 x2 : Int32} (h : (Ct ad μX12_power d [.ref (ad 187), .int x1] m (fun r m1 => ∃ v2 : Int32, r = some (.int v2) ∧ (Ct ad μX12_power d [.ref (ad 187), .int x2] m1 (fun r m3 => ∃ v4 : Int32, r = some (.int v4) ∧ Q (some (.int (if (0 : Int32) < (if ((50 : Int32) + ((m.1 193 (4 : Int32).toNatClampNeg) * (v2 - v4))) < (100 : Int32) then ((50 : Int32) + ((m.1 193 (4 : Int32).toNatClampNeg) * (v2 - v4))) else (100 : Int32)) then (if ((50 : Int32) + ((m.1 193 (4 : Int32).toNatClampNeg) * (v2 - v4))) < (100 : Int32) then ((50 : Int32) + ((m.1 193 (4 : Int32).toNatClampNeg) * (v2 - v4))) else (100 : Int32)) else (0 : Int32)))) m3))))) : Ct ad μX12_chanceOf (d + 1) [.ref (ad 187), .int x1, .int x2] m Q := by
  refine Ct.of (by decide +kernel) rfl (Nat.le_of_ble_eq_true rfl) ?_
  refine aw_eq (L' := [(0, .ref (ad 187)), (1, .int x1), (2, .int x2)]) ?_ rfl rfl rfl
  refine aw_iconst (v := 0) dX12_chanceOf_0 (by decide) ?_
  refine aw_bipush (v := 100) dX12_chanceOf_1 (by decide) ?_
  refine aw_bipush (v := 50) dX12_chanceOf_3 (by decide) ?_
  refine aw_aload_n (j := 0) dX12_chanceOf_5 rfl rfl ?_
  refine aw_getfield (c := 196) (v := .ref (ad 193)) dX12_chanceOf_6 f_X12_30 ly_187 rfl rfl ?_
  refine aw_iconst (v := 4) dX12_chanceOf_9 (by decide) ?_
  refine aw_iaload dX12_chanceOf_10 ly_193 (by unfold vp_in; decide) ?_
  refine aw_aload_n (j := 0) dX12_chanceOf_11 rfl rfl ?_
  refine aw_iload_n (j := 1) dX12_chanceOf_12 rfl rfl ?_
  refine aw_callV (rest := [.int (m.1 193 (4 : Int32).toNatClampNeg), .int (50 : Int32), .int (100 : Int32), .int (0 : Int32)]) [.int x1] dX12_chanceOf_13 ly_187 rfl k_X12_255 rfl h (Nat.le_of_ble_eq_true rfl) (fun v m1 h => ?_)
  obtain ⟨v2, rfl, h⟩ := h
  refine aw_eq (L' := [(0, .ref (ad 187)), (1, .int x1), (2, .int x2)]) (st' := [.int v2, .int (m.1 193 (4 : Int32).toNatClampNeg), .int (50 : Int32), .int (100 : Int32), .int (0 : Int32)]) (m' := m1) ?_ rfl rfl rfl
  refine aw_aload_n (j := 0) dX12_chanceOf_16 rfl rfl ?_
  refine aw_iload_n (j := 2) dX12_chanceOf_17 rfl rfl ?_
  refine aw_callV (rest := [.int v2, .int (m.1 193 (4 : Int32).toNatClampNeg), .int (50 : Int32), .int (100 : Int32), .int (0 : Int32)]) [.int x2] dX12_chanceOf_18 ly_187 rfl k_X12_255 rfl h (Nat.le_of_ble_eq_true rfl) (fun v m3 h => ?_)
  obtain ⟨v4, rfl, h⟩ := h
  refine aw_eq (L' := [(0, .ref (ad 187)), (1, .int x1), (2, .int x2)]) (st' := [.int v4, .int v2, .int (m.1 193 (4 : Int32).toNatClampNeg), .int (50 : Int32), .int (100 : Int32), .int (0 : Int32)]) (m' := m3) ?_ rfl rfl rfl
  refine aw_isub dX12_chanceOf_21 ?_
  refine aw_imul dX12_chanceOf_22 ?_
  refine aw_iadd dX12_chanceOf_23 ?_
  refine aw_min dX12_chanceOf_24 k_X12_238 (Nat.le_of_ble_eq_true rfl) ?_
  refine aw_max dX12_chanceOf_27 k_X12_233 (Nat.le_of_ble_eq_true rfl) ?_
  exact aw_ret (v := some (.int (if (0 : Int32) < (if ((50 : Int32) + ((m.1 193 (4 : Int32).toNatClampNeg) * (v2 - v4))) < (100 : Int32) then ((50 : Int32) + ((m.1 193 (4 : Int32).toNatClampNeg) * (v2 - v4))) else (100 : Int32)) then (if ((50 : Int32) + ((m.1 193 (4 : Int32).toNatClampNeg) * (v2 - v4))) < (100 : Int32) then ((50 : Int32) + ((m.1 193 (4 : Int32).toNatClampNeg) * (v2 - v4))) else (100 : Int32)) else (0 : Int32)))) rfl (Or.inr (Or.inl ⟨_, .int, rfl, rfl, rfl, dX12_chanceOf_30⟩)) h
set_option maxRecDepth 100000 in
set_option maxHeartbeats 4000000 in
theorem v_X12_odds {ad : Nat → Nat} {d : Nat} {Q : Option Value → Wm → Prop} {m : Wm} {x1 x2 : Int32} (h : (Ct ad μX12_areTwo d [.ref (ad 187), .int x1, .int x2] (uI m 187 17 (0 : Int32)) (fun r m1 => ∃ v2 : Int32, r = some (.int v2) ∧ ((v2 = 0 → Q (some (.int (-1 : Int32))) m1) ∧ (¬ v2 = 0 → (Ct ad μX12_chanceOf d [.ref (ad 187), .int x1, .int x2] m1 (fun r m3 => ∃ v4 : Int32, r = some (.int v4) ∧ Q (some (.int v4)) m3))))))) : Ct ad μX12_odds (d + 1) [.ref (ad 187), .int x1, .int x2] m Q := by
  refine Ct.of (by decide +kernel) rfl (Nat.le_of_ble_eq_true rfl) ?_
  refine aw_eq (L' := [(0, .ref (ad 187)), (1, .int x1), (2, .int x2)]) ?_ rfl rfl rfl
  refine aw_aload_n (j := 0) dX12_odds_0 rfl rfl ?_
  refine aw_iconst (v := 0) dX12_odds_1 (by decide) ?_
  refine aw_putI dX12_odds_2 f_X12_110 cl_X12 rfl ly_187 rfl rfl rfl ?_
  refine aw_aload_n (j := 0) dX12_odds_5 rfl rfl ?_
  refine aw_iload_n (j := 1) dX12_odds_6 rfl rfl ?_
  refine aw_iload_n (j := 2) dX12_odds_7 rfl rfl ?_
  refine aw_callV (rest := []) [.int x1, .int x2] dX12_odds_8 ly_187 rfl k_X12_267 rfl h (Nat.le_of_ble_eq_true rfl) (fun v m1 h => ?_)
  obtain ⟨v2, rfl, h⟩ := h
  refine aw_eq (L' := [(0, .ref (ad 187)), (1, .int x1), (2, .int x2)]) (st' := [.int v2]) (m' := m1) ?_ rfl rfl rfl
  refine aw_if_eq (tgt := 23) dX12_odds_11 (by decide) (fun hc => ?_) (fun hc => ?_)
  · have h := h.1 hc
    refine aw_iconst (v := -1) dX12_odds_23 (by decide) ?_
    exact aw_ret (v := some (.int (-1 : Int32))) rfl (Or.inr (Or.inl ⟨_, .int, rfl, rfl, rfl, dX12_odds_24⟩)) h
  · have h := h.2 hc
    refine aw_aload_n (j := 0) dX12_odds_14 rfl rfl ?_
    refine aw_iload_n (j := 1) dX12_odds_15 rfl rfl ?_
    refine aw_iload_n (j := 2) dX12_odds_16 rfl rfl ?_
    refine aw_callV (rest := []) [.int x1, .int x2] dX12_odds_17 ly_187 rfl k_X12_276 rfl h (Nat.le_of_ble_eq_true rfl) (fun v m3 h => ?_)
    obtain ⟨v4, rfl, h⟩ := h
    refine aw_eq (L' := [(0, .ref (ad 187)), (1, .int x1), (2, .int x2)]) (st' := [.int v4]) (m' := m3) ?_ rfl rfl rfl
    refine aw_goto (tgt := 24) dX12_odds_20 (by decide) ?_
    exact aw_ret (v := some (.int v4)) rfl (Or.inr (Or.inl ⟨_, .int, rfl, rfl, rfl, dX12_odds_24⟩)) h
set_option maxRecDepth 100000 in
set_option maxHeartbeats 4000000 in
theorem v_X12_settle {ad : Nat → Nat} {d : Nat} {Q : Option Value → Wm → Prop} {m : Wm} {x1 x2 x3 x4 : Int32} (h : (Ct ad μX12_has d [.int x3, .int (0 : Int32)] m (fun r m1 => ∃ v2 : Int32, r = some (.int v2) ∧ ((v2 = 0 → AW ad E0 μX12_settle (d + 1) Q 18 [(0, .ref (ad 187)), (1, .int x1), (2, .int x2), (3, .int x3), (4, .int x4)] [] m1) ∧ (¬ v2 = 0 → (vp_in x1 8 ∧ (vp_in x1 8 ∧ AW ad E0 μX12_settle (d + 1) Q 18 [(0, .ref (ad 187)), (1, .int x1), (2, .int x2), (3, .int x3), (4, .int x4)] [] (uI m1 192 x1.toNatClampNeg ((m1.1 192 x1.toNatClampNeg) + (1 : Int32)))))))))) : Ct ad μX12_settle (d + 1) [.ref (ad 187), .int x1, .int x2, .int x3, .int x4] m Q := by
  refine Ct.of (by decide +kernel) rfl (Nat.le_of_ble_eq_true rfl) ?_
  refine aw_eq (L' := [(0, .ref (ad 187)), (1, .int x1), (2, .int x2), (3, .int x3), (4, .int x4)]) ?_ rfl rfl rfl
  refine aw_iload_n (j := 3) dX12_settle_0 rfl rfl ?_
  refine aw_iconst (v := 0) dX12_settle_1 (by decide) ?_
  refine aw_callS (rest := []) [.int x3, .int (0 : Int32)] dX12_settle_2 k_X12_207 rfl h (Nat.le_of_ble_eq_true rfl) (fun v m1 h => ?_)
  obtain ⟨v2, rfl, h⟩ := h
  refine aw_eq (L' := [(0, .ref (ad 187)), (1, .int x1), (2, .int x2), (3, .int x3), (4, .int x4)]) (st' := [.int v2]) (m' := m1) ?_ rfl rfl rfl
  refine aw_if_eq (tgt := 18) dX12_settle_5 (by decide) (fun hc => ?_) (fun hc => ?_)
  · have h := h.1 hc
    exact aw_sub [0, 1, 2, 3, 4] rfl h
  · have h := h.2 hc
    refine aw_aload_n (j := 0) dX12_settle_8 rfl rfl ?_
    refine aw_getfield (c := 195) (v := .ref (ad 192)) dX12_settle_9 f_X12_27 ly_187 rfl rfl ?_
    refine aw_iload_n (j := 1) dX12_settle_12 rfl rfl ?_
    refine aw_dup2_11 dX12_settle_13 rfl rfl ?_
    obtain ⟨hi, h⟩ := h
    refine aw_iaload dX12_settle_14 ly_192 hi ?_
    refine aw_iconst (v := 1) dX12_settle_15 (by decide) ?_
    refine aw_iadd dX12_settle_16 ?_
    obtain ⟨hi, h⟩ := h
    refine aw_iastore dX12_settle_17 ly_192 hi ?_
    exact aw_sub [0, 1, 2, 3, 4] rfl h
set_option maxRecDepth 100000 in
set_option maxHeartbeats 4000000 in
theorem g_X12_settle_18 {ad : Nat → Nat} {d : Nat} {Q : Option Value → Wm → Prop} {m : Wm} {x1 x2 x3 x4 : Int32} (h : (Ct ad μX12_has d [.int x3, .int (1 : Int32)] m (fun r m1 => ∃ v2 : Int32, r = some (.int v2) ∧ ((v2 = 0 → AW ad E0 μX12_settle (d + 1) Q 36 [(0, .ref (ad 187)), (1, .int x1), (2, .int x2), (4, .int x4)] [] m1) ∧ (¬ v2 = 0 → (vp_in x2 8 ∧ (vp_in x2 8 ∧ AW ad E0 μX12_settle (d + 1) Q 36 [(0, .ref (ad 187)), (1, .int x1), (2, .int x2), (4, .int x4)] [] (uI m1 192 x2.toNatClampNeg ((m1.1 192 x2.toNatClampNeg) + (1 : Int32)))))))))) : AW ad E0 μX12_settle (d + 1) Q 18 [(0, .ref (ad 187)), (1, .int x1), (2, .int x2), (3, .int x3), (4, .int x4)] [] m := by
  refine aw_iload_n (j := 3) dX12_settle_18 rfl rfl ?_
  refine aw_iconst (v := 1) dX12_settle_19 (by decide) ?_
  refine aw_callS (rest := []) [.int x3, .int (1 : Int32)] dX12_settle_20 k_X12_207 rfl h (Nat.le_of_ble_eq_true rfl) (fun v m1 h => ?_)
  obtain ⟨v2, rfl, h⟩ := h
  refine aw_eq (L' := [(0, .ref (ad 187)), (1, .int x1), (2, .int x2), (3, .int x3), (4, .int x4)]) (st' := [.int v2]) (m' := m1) ?_ rfl rfl rfl
  refine aw_if_eq (tgt := 36) dX12_settle_23 (by decide) (fun hc => ?_) (fun hc => ?_)
  · have h := h.1 hc
    exact aw_sub [0, 1, 2, 4] rfl h
  · have h := h.2 hc
    refine aw_aload_n (j := 0) dX12_settle_26 rfl rfl ?_
    refine aw_getfield (c := 195) (v := .ref (ad 192)) dX12_settle_27 f_X12_27 ly_187 rfl rfl ?_
    refine aw_iload_n (j := 2) dX12_settle_30 rfl rfl ?_
    refine aw_dup2_11 dX12_settle_31 rfl rfl ?_
    obtain ⟨hi, h⟩ := h
    refine aw_iaload dX12_settle_32 ly_192 hi ?_
    refine aw_iconst (v := 1) dX12_settle_33 (by decide) ?_
    refine aw_iadd dX12_settle_34 ?_
    obtain ⟨hi, h⟩ := h
    refine aw_iastore dX12_settle_35 ly_192 hi ?_
    exact aw_sub [0, 1, 2, 4] rfl h
set_option maxRecDepth 100000 in
set_option maxHeartbeats 4000000 in
theorem g_X12_settle_36 {ad : Nat → Nat} {d : Nat} {Q : Option Value → Wm → Prop} {m : Wm} {x1 x2 x4 : Int32} (h : ((¬ x4 = (2 : Int32) → ((¬ x4 = 0 → ((¬ x4 = 0 → AW ad E0 μX12_settle (d + 1) Q 85 [(0, .ref (ad 187)), (5, .int x2)] [.int x1] m) ∧ (x4 = 0 → AW ad E0 μX12_settle (d + 1) Q 85 [(0, .ref (ad 187)), (5, .int x2)] [.int x2] m))) ∧ (x4 = 0 → ((¬ x4 = 0 → AW ad E0 μX12_settle (d + 1) Q 85 [(0, .ref (ad 187)), (5, .int x1)] [.int x1] m) ∧ (x4 = 0 → AW ad E0 μX12_settle (d + 1) Q 85 [(0, .ref (ad 187)), (5, .int x1)] [.int x2] m))))) ∧ (x4 = (2 : Int32) → (vp_in x1 8 ∧ (vp_in x1 8 ∧ (vp_in x2 8 ∧ (vp_in x2 8 ∧ Q none (uI (uI m 190 x1.toNatClampNeg ((m.1 190 x1.toNatClampNeg) + (1 : Int32))) 190 x2.toNatClampNeg (((uI m 190 x1.toNatClampNeg ((m.1 190 x1.toNatClampNeg) + (1 : Int32))).1 190 x2.toNatClampNeg) + (1 : Int32)))))))))) : AW ad E0 μX12_settle (d + 1) Q 36 [(0, .ref (ad 187)), (1, .int x1), (2, .int x2), (4, .int x4)] [] m := by
  refine aw_iload (j := 3) dX12_settle_36 rfl ?_
  refine aw_iconst (v := 2) dX12_settle_38 (by decide) ?_
  refine aw_icmp_ne (tgt := 63) dX12_settle_39 (by decide) (fun hc => ?_) (fun hc => ?_)
  · have h := h.1 hc
    refine aw_iload (j := 3) dX12_settle_63 rfl ?_
    refine aw_if_ne (tgt := 72) dX12_settle_65 (by decide) (fun hc => ?_) (fun hc => ?_)
    · have h := h.1 hc
      refine aw_iload_n (j := 2) dX12_settle_72 rfl rfl ?_
      refine aw_istore (L' := [(5, .int x2), (0, .ref (ad 187)), (1, .int x1), (2, .int x2), (4, .int x4)]) dX12_settle_73 (by decide) rfl ?_
      refine aw_iload (j := 4) dX12_settle_75 rfl ?_
      refine aw_if_ne (tgt := 84) dX12_settle_77 (by decide) (fun hc => ?_) (fun hc => ?_)
      · have h := h.1 hc
        refine aw_iload_n (j := 2) dX12_settle_84 rfl rfl ?_
        exact aw_sub [1, 0] rfl h
      · have h := h.2 hc
        refine aw_iload_n (j := 3) dX12_settle_80 rfl rfl ?_
        refine aw_goto (tgt := 85) dX12_settle_81 (by decide) ?_
        exact aw_sub [1, 0] rfl h
    · have h := h.2 hc
      refine aw_iload_n (j := 1) dX12_settle_68 rfl rfl ?_
      refine aw_goto (tgt := 73) dX12_settle_69 (by decide) ?_
      refine aw_istore (L' := [(5, .int x1), (0, .ref (ad 187)), (1, .int x1), (2, .int x2), (4, .int x4)]) dX12_settle_73 (by decide) rfl ?_
      refine aw_iload (j := 4) dX12_settle_75 rfl ?_
      refine aw_if_ne (tgt := 84) dX12_settle_77 (by decide) (fun hc => ?_) (fun hc => ?_)
      · have h := h.1 hc
        refine aw_iload_n (j := 2) dX12_settle_84 rfl rfl ?_
        exact aw_sub [1, 0] rfl h
      · have h := h.2 hc
        refine aw_iload_n (j := 3) dX12_settle_80 rfl rfl ?_
        refine aw_goto (tgt := 85) dX12_settle_81 (by decide) ?_
        exact aw_sub [1, 0] rfl h
  · have h := h.2 hc
    refine aw_aload_n (j := 0) dX12_settle_42 rfl rfl ?_
    refine aw_getfield (c := 193) (v := .ref (ad 190)) dX12_settle_43 f_X12_21 ly_187 rfl rfl ?_
    refine aw_iload_n (j := 1) dX12_settle_46 rfl rfl ?_
    refine aw_dup2_11 dX12_settle_47 rfl rfl ?_
    obtain ⟨hi, h⟩ := h
    refine aw_iaload dX12_settle_48 ly_190 hi ?_
    refine aw_iconst (v := 1) dX12_settle_49 (by decide) ?_
    refine aw_iadd dX12_settle_50 ?_
    obtain ⟨hi, h⟩ := h
    refine aw_iastore dX12_settle_51 ly_190 hi ?_
    refine aw_aload_n (j := 0) dX12_settle_52 rfl rfl ?_
    refine aw_getfield (c := 193) (v := .ref (ad 190)) dX12_settle_53 f_X12_21 ly_187 rfl rfl ?_
    refine aw_iload_n (j := 2) dX12_settle_56 rfl rfl ?_
    refine aw_dup2_11 dX12_settle_57 rfl rfl ?_
    obtain ⟨hi, h⟩ := h
    refine aw_iaload dX12_settle_58 ly_190 hi ?_
    refine aw_iconst (v := 1) dX12_settle_59 (by decide) ?_
    refine aw_iadd dX12_settle_60 ?_
    obtain ⟨hi, h⟩ := h
    refine aw_iastore dX12_settle_61 ly_190 hi ?_
    exact aw_ret (v := none) rfl (Or.inl ⟨rfl, rfl, dX12_settle_62⟩) h
set_option maxRecDepth 100000 in
set_option maxHeartbeats 4000000 in
theorem g_X12_settle_85 {ad : Nat → Nat} {d : Nat} {Q : Option Value → Wm → Prop} {m : Wm} {x5 s0 : Int32} (h : (vp_in x5 8 ∧ (vp_in x5 8 ∧ ((((uI m 190 x5.toNatClampNeg ((m.1 190 x5.toNatClampNeg) + (3 : Int32))).1 193 (0 : Int32).toNatClampNeg) = 0 → (Ct ad μX12_teach d [.ref (ad 187), .int x5, .int s0] (uI m 190 x5.toNatClampNeg ((m.1 190 x5.toNatClampNeg) + (3 : Int32))) (fun r m1 => r = none ∧ AW ad E0 μX12_settle (d + 1) Q 125 [(0, .ref (ad 187)), (5, .int x5), (6, .int s0)] [] m1))) ∧ (¬ ((uI m 190 x5.toNatClampNeg ((m.1 190 x5.toNatClampNeg) + (3 : Int32))).1 193 (0 : Int32).toNatClampNeg) = 0 → ((¬ ((uI m 190 x5.toNatClampNeg ((m.1 190 x5.toNatClampNeg) + (3 : Int32))).1 193 (0 : Int32).toNatClampNeg) = (2 : Int32) → AW ad E0 μX12_settle (d + 1) Q 125 [(0, .ref (ad 187)), (5, .int x5), (6, .int s0)] [] (uI m 190 x5.toNatClampNeg ((m.1 190 x5.toNatClampNeg) + (3 : Int32)))) ∧ (((uI m 190 x5.toNatClampNeg ((m.1 190 x5.toNatClampNeg) + (3 : Int32))).1 193 (0 : Int32).toNatClampNeg) = (2 : Int32) → (Ct ad μX12_teach d [.ref (ad 187), .int x5, .int s0] (uI m 190 x5.toNatClampNeg ((m.1 190 x5.toNatClampNeg) + (3 : Int32))) (fun r m2 => r = none ∧ AW ad E0 μX12_settle (d + 1) Q 125 [(0, .ref (ad 187)), (5, .int x5), (6, .int s0)] [] m2))))))))) : AW ad E0 μX12_settle (d + 1) Q 85 [(0, .ref (ad 187)), (5, .int x5)] [.int s0] m := by
  refine aw_istore (L' := [(6, .int s0), (0, .ref (ad 187)), (5, .int x5)]) dX12_settle_85 (by decide) rfl ?_
  refine aw_aload_n (j := 1) dX12_settle_87 rfl rfl ?_
  refine aw_getfield (c := 193) (v := .ref (ad 190)) dX12_settle_88 f_X12_21 ly_187 rfl rfl ?_
  refine aw_iload (j := 2) dX12_settle_91 rfl ?_
  refine aw_dup2_11 dX12_settle_93 rfl rfl ?_
  obtain ⟨hi, h⟩ := h
  refine aw_iaload dX12_settle_94 ly_190 hi ?_
  refine aw_iconst (v := 3) dX12_settle_95 (by decide) ?_
  refine aw_iadd dX12_settle_96 ?_
  obtain ⟨hi, h⟩ := h
  refine aw_iastore dX12_settle_97 ly_190 hi ?_
  refine aw_aload_n (j := 1) dX12_settle_98 rfl rfl ?_
  refine aw_getfield (c := 196) (v := .ref (ad 193)) dX12_settle_99 f_X12_30 ly_187 rfl rfl ?_
  refine aw_iconst (v := 0) dX12_settle_102 (by decide) ?_
  refine aw_iaload dX12_settle_103 ly_193 (by unfold vp_in; decide) ?_
  refine aw_if_eq (tgt := 117) dX12_settle_104 (by decide) (fun hc => ?_) (fun hc => ?_)
  · have h := h.1 hc
    refine aw_aload_n (j := 1) dX12_settle_117 rfl rfl ?_
    refine aw_iload (j := 2) dX12_settle_118 rfl ?_
    refine aw_iload (j := 0) dX12_settle_120 rfl ?_
    refine aw_callV (rest := []) [.int x5, .int s0] dX12_settle_122 ly_187 rfl k_X12_279 rfl h (Nat.le_of_ble_eq_true rfl) (fun v m1 h => ?_)
    obtain ⟨rfl, h⟩ := h
    refine aw_eq (L' := [(6, .int s0), (0, .ref (ad 187)), (5, .int x5)]) (st' := []) (m' := m1) ?_ rfl rfl rfl
    exact aw_sub [1, 2, 0] rfl h
  · have h := h.2 hc
    refine aw_aload_n (j := 1) dX12_settle_107 rfl rfl ?_
    refine aw_getfield (c := 196) (v := .ref (ad 193)) dX12_settle_108 f_X12_30 ly_187 rfl rfl ?_
    refine aw_iconst (v := 0) dX12_settle_111 (by decide) ?_
    refine aw_iaload dX12_settle_112 ly_193 (by unfold vp_in; decide) ?_
    refine aw_iconst (v := 2) dX12_settle_113 (by decide) ?_
    refine aw_icmp_ne (tgt := 125) dX12_settle_114 (by decide) (fun hc => ?_) (fun hc => ?_)
    · have h := h.1 hc
      exact aw_sub [1, 2, 0] rfl h
    · have h := h.2 hc
      refine aw_aload_n (j := 1) dX12_settle_117 rfl rfl ?_
      refine aw_iload (j := 2) dX12_settle_118 rfl ?_
      refine aw_iload (j := 0) dX12_settle_120 rfl ?_
      refine aw_callV (rest := []) [.int x5, .int s0] dX12_settle_122 ly_187 rfl k_X12_279 rfl h (Nat.le_of_ble_eq_true rfl) (fun v m2 h => ?_)
      obtain ⟨rfl, h⟩ := h
      refine aw_eq (L' := [(6, .int s0), (0, .ref (ad 187)), (5, .int x5)]) (st' := []) (m' := m2) ?_ rfl rfl rfl
      exact aw_sub [1, 2, 0] rfl h
set_option maxRecDepth 100000 in
set_option maxHeartbeats 4000000 in
theorem g_X12_settle_125 {ad : Nat → Nat} {d : Nat} {Q : Option Value → Wm → Prop} {m : Wm} {x5 x6 : Int32} (h : (((m.1 193 (0 : Int32).toNatClampNeg) = (1 : Int32) → (Ct ad μX12_teach d [.ref (ad 187), .int x6, .int x5] m (fun r m1 => r = none ∧ Q none m1))) ∧ (¬ (m.1 193 (0 : Int32).toNatClampNeg) = (1 : Int32) → ((¬ (m.1 193 (0 : Int32).toNatClampNeg) = (2 : Int32) → Q none m) ∧ ((m.1 193 (0 : Int32).toNatClampNeg) = (2 : Int32) → (Ct ad μX12_teach d [.ref (ad 187), .int x6, .int x5] m (fun r m2 => r = none ∧ Q none m2))))))) : AW ad E0 μX12_settle (d + 1) Q 125 [(0, .ref (ad 187)), (5, .int x5), (6, .int x6)] [] m := by
  refine aw_aload_n (j := 0) dX12_settle_125 rfl rfl ?_
  refine aw_getfield (c := 196) (v := .ref (ad 193)) dX12_settle_126 f_X12_30 ly_187 rfl rfl ?_
  refine aw_iconst (v := 0) dX12_settle_129 (by decide) ?_
  refine aw_iaload dX12_settle_130 ly_193 (by unfold vp_in; decide) ?_
  refine aw_iconst (v := 1) dX12_settle_131 (by decide) ?_
  refine aw_icmp_eq (tgt := 145) dX12_settle_132 (by decide) (fun hc => ?_) (fun hc => ?_)
  · have h := h.1 hc
    refine aw_aload_n (j := 0) dX12_settle_145 rfl rfl ?_
    refine aw_iload (j := 2) dX12_settle_146 rfl ?_
    refine aw_iload (j := 1) dX12_settle_148 rfl ?_
    refine aw_callV (rest := []) [.int x6, .int x5] dX12_settle_150 ly_187 rfl k_X12_279 rfl h (Nat.le_of_ble_eq_true rfl) (fun v m1 h => ?_)
    obtain ⟨rfl, h⟩ := h
    refine aw_eq (L' := [(0, .ref (ad 187)), (5, .int x5), (6, .int x6)]) (st' := []) (m' := m1) ?_ rfl rfl rfl
    exact aw_ret (v := none) rfl (Or.inl ⟨rfl, rfl, dX12_settle_153⟩) h
  · have h := h.2 hc
    refine aw_aload_n (j := 0) dX12_settle_135 rfl rfl ?_
    refine aw_getfield (c := 196) (v := .ref (ad 193)) dX12_settle_136 f_X12_30 ly_187 rfl rfl ?_
    refine aw_iconst (v := 0) dX12_settle_139 (by decide) ?_
    refine aw_iaload dX12_settle_140 ly_193 (by unfold vp_in; decide) ?_
    refine aw_iconst (v := 2) dX12_settle_141 (by decide) ?_
    refine aw_icmp_ne (tgt := 153) dX12_settle_142 (by decide) (fun hc => ?_) (fun hc => ?_)
    · have h := h.1 hc
      exact aw_ret (v := none) rfl (Or.inl ⟨rfl, rfl, dX12_settle_153⟩) h
    · have h := h.2 hc
      refine aw_aload_n (j := 0) dX12_settle_145 rfl rfl ?_
      refine aw_iload (j := 2) dX12_settle_146 rfl ?_
      refine aw_iload (j := 1) dX12_settle_148 rfl ?_
      refine aw_callV (rest := []) [.int x6, .int x5] dX12_settle_150 ly_187 rfl k_X12_279 rfl h (Nat.le_of_ble_eq_true rfl) (fun v m2 h => ?_)
      obtain ⟨rfl, h⟩ := h
      refine aw_eq (L' := [(0, .ref (ad 187)), (5, .int x5), (6, .int x6)]) (st' := []) (m' := m2) ?_ rfl rfl rfl
      exact aw_ret (v := none) rfl (Or.inl ⟨rfl, rfl, dX12_settle_153⟩) h
set_option maxRecDepth 100000 in
set_option maxHeartbeats 4000000 in
theorem v_X12_drawHundred {ad : Nat → Nat} {d : Nat} {Q : Option Value → Wm → Prop} {m : Wm} (h : Q (some (.int (((((uI m 187 8 (((m.1 187 8) * (1103515245 : Int32)) + (12345 : Int32))).1 187 8).toUInt32 >>> ((16 : Int32).toUInt32 &&& Int32.toUInt32 31)).toInt32) - ((((uI m 187 8 (((m.1 187 8) * (1103515245 : Int32)) + (12345 : Int32))).1 187 8).toUInt32 >>> ((16 : Int32).toUInt32 &&& Int32.toUInt32 31)).toInt32) / (100 : Int32) * (100 : Int32)))) (uI m 187 8 (((m.1 187 8) * (1103515245 : Int32)) + (12345 : Int32)))) : Ct ad μX12_drawHundred d [.ref (ad 187)] m Q := by
  refine Ct.of (by decide +kernel) rfl (Nat.le_of_ble_eq_true rfl) ?_
  refine aw_eq (L' := [(0, .ref (ad 187))]) ?_ rfl rfl rfl
  refine aw_aload_n (j := 0) dX12_drawHundred_0 rfl rfl ?_
  refine aw_aload_n (j := 0) dX12_drawHundred_1 rfl rfl ?_
  refine aw_getfield (c := 0) (v := .int (m.1 187 8)) dX12_drawHundred_2 f_X12_33 ly_187 rfl rfl ?_
  refine aw_ldcw dX12_drawHundred_5 c_X12_283 ?_
  refine aw_imul dX12_drawHundred_8 ?_
  refine aw_sipush (v := 12345) dX12_drawHundred_9 (by decide) ?_
  refine aw_iadd dX12_drawHundred_12 ?_
  refine aw_putI dX12_drawHundred_13 f_X12_33 cl_X12 rfl ly_187 rfl rfl rfl ?_
  refine aw_aload_n (j := 0) dX12_drawHundred_16 rfl rfl ?_
  refine aw_getfield (c := 0) (v := .int ((uI m 187 8 (((m.1 187 8) * (1103515245 : Int32)) + (12345 : Int32))).1 187 8)) dX12_drawHundred_17 f_X12_33 ly_187 rfl rfl ?_
  refine aw_bipush (v := 16) dX12_drawHundred_20 (by decide) ?_
  refine aw_iushr dX12_drawHundred_22 ?_
  refine aw_bipush (v := 100) dX12_drawHundred_23 (by decide) ?_
  refine aw_irem dX12_drawHundred_25 (by decide) ?_
  exact aw_ret (v := some (.int (((((uI m 187 8 (((m.1 187 8) * (1103515245 : Int32)) + (12345 : Int32))).1 187 8).toUInt32 >>> ((16 : Int32).toUInt32 &&& Int32.toUInt32 31)).toInt32) - ((((uI m 187 8 (((m.1 187 8) * (1103515245 : Int32)) + (12345 : Int32))).1 187 8).toUInt32 >>> ((16 : Int32).toUInt32 &&& Int32.toUInt32 31)).toInt32) / (100 : Int32) * (100 : Int32)))) rfl (Or.inr (Or.inl ⟨_, .int, rfl, rfl, rfl, dX12_drawHundred_26⟩)) h
set_option maxRecDepth 100000 in
set_option maxHeartbeats 4000000 in
theorem v_X12_goGame {ad : Nat → Nat} {d : Nat} {Q : Option Value → Wm → Prop} {m : Wm} {x1 x2 x3 x4 : Int32} (h : ((x4 = 0 → (Ct ad μX12_winner d [.ref (ad 187), .int x1, .int x2, .int x3] m (fun r m1 => ∃ v2 : Int32, r = some (.int v2) ∧ AW ad E0 μX12_goGame (d + 1) Q 46 [(0, .ref (ad 187)), (1, .int x1), (2, .int x2), (3, .int x3)] [.int v2] m1))) ∧ (¬ x4 = 0 → (((m.1 193 (4 : Int32).toNatClampNeg) ≤ 0 → (Ct ad μX12_winner d [.ref (ad 187), .int x1, .int x2, .int x3] m (fun r m3 => ∃ v4 : Int32, r = some (.int v4) ∧ AW ad E0 μX12_goGame (d + 1) Q 46 [(0, .ref (ad 187)), (1, .int x1), (2, .int x2), (3, .int x3)] [.int v4] m3))) ∧ (¬ (m.1 193 (4 : Int32).toNatClampNeg) ≤ 0 → ((¬ x3 = 0 → (Ct ad μX12_winner d [.ref (ad 187), .int x1, .int x2, .int x3] m (fun r m5 => ∃ v6 : Int32, r = some (.int v6) ∧ AW ad E0 μX12_goGame (d + 1) Q 46 [(0, .ref (ad 187)), (1, .int x1), (2, .int x2), (3, .int x3)] [.int v6] m5))) ∧ (x3 = 0 → (Ct ad μX12_drawHundred d [.ref (ad 187)] m (fun r m7 => ∃ v8 : Int32, r = some (.int v8) ∧ (Ct ad μX12_chanceOf d [.ref (ad 187), .int x1, .int x2] m7 (fun r m9 => ∃ v10 : Int32, r = some (.int v10) ∧ ((v10 ≤ v8 → AW ad E0 μX12_goGame (d + 1) Q 46 [(0, .ref (ad 187)), (1, .int x1), (2, .int x2), (3, .int x3)] [.int (1 : Int32)] m9) ∧ (¬ v10 ≤ v8 → AW ad E0 μX12_goGame (d + 1) Q 46 [(0, .ref (ad 187)), (1, .int x1), (2, .int x2), (3, .int x3)] [.int (0 : Int32)] m9))))))))))))) : Ct ad μX12_goGame (d + 1) [.ref (ad 187), .int x1, .int x2, .int x3, .int x4] m Q := by
  refine Ct.of (by decide +kernel) rfl (Nat.le_of_ble_eq_true rfl) ?_
  refine aw_eq (L' := [(0, .ref (ad 187)), (1, .int x1), (2, .int x2), (3, .int x3), (4, .int x4)]) ?_ rfl rfl rfl
  refine aw_iload (j := 4) dX12_goGame_0 rfl ?_
  refine aw_if_eq (tgt := 39) dX12_goGame_2 (by decide) (fun hc => ?_) (fun hc => ?_)
  · have h := h.1 hc
    refine aw_aload_n (j := 0) dX12_goGame_39 rfl rfl ?_
    refine aw_iload_n (j := 1) dX12_goGame_40 rfl rfl ?_
    refine aw_iload_n (j := 2) dX12_goGame_41 rfl rfl ?_
    refine aw_iload_n (j := 3) dX12_goGame_42 rfl rfl ?_
    refine aw_callV (rest := []) [.int x1, .int x2, .int x3] dX12_goGame_43 ly_187 rfl k_X12_273 rfl h (Nat.le_of_ble_eq_true rfl) (fun v m1 h => ?_)
    obtain ⟨v2, rfl, h⟩ := h
    refine aw_eq (L' := [(0, .ref (ad 187)), (1, .int x1), (2, .int x2), (3, .int x3), (4, .int x4)]) (st' := [.int v2]) (m' := m1) ?_ rfl rfl rfl
    exact aw_sub [0, 1, 2, 3] rfl h
  · have h := h.2 hc
    refine aw_aload_n (j := 0) dX12_goGame_5 rfl rfl ?_
    refine aw_getfield (c := 196) (v := .ref (ad 193)) dX12_goGame_6 f_X12_30 ly_187 rfl rfl ?_
    refine aw_iconst (v := 4) dX12_goGame_9 (by decide) ?_
    refine aw_iaload dX12_goGame_10 ly_193 (by unfold vp_in; decide) ?_
    refine aw_if_le (tgt := 39) dX12_goGame_11 (by decide) (fun hc => ?_) (fun hc => ?_)
    · have h := h.1 hc
      refine aw_aload_n (j := 0) dX12_goGame_39 rfl rfl ?_
      refine aw_iload_n (j := 1) dX12_goGame_40 rfl rfl ?_
      refine aw_iload_n (j := 2) dX12_goGame_41 rfl rfl ?_
      refine aw_iload_n (j := 3) dX12_goGame_42 rfl rfl ?_
      refine aw_callV (rest := []) [.int x1, .int x2, .int x3] dX12_goGame_43 ly_187 rfl k_X12_273 rfl h (Nat.le_of_ble_eq_true rfl) (fun v m3 h => ?_)
      obtain ⟨v4, rfl, h⟩ := h
      refine aw_eq (L' := [(0, .ref (ad 187)), (1, .int x1), (2, .int x2), (3, .int x3), (4, .int x4)]) (st' := [.int v4]) (m' := m3) ?_ rfl rfl rfl
      exact aw_sub [0, 1, 2, 3] rfl h
    · have h := h.2 hc
      refine aw_iload_n (j := 3) dX12_goGame_14 rfl rfl ?_
      refine aw_if_ne (tgt := 39) dX12_goGame_15 (by decide) (fun hc => ?_) (fun hc => ?_)
      · have h := h.1 hc
        refine aw_aload_n (j := 0) dX12_goGame_39 rfl rfl ?_
        refine aw_iload_n (j := 1) dX12_goGame_40 rfl rfl ?_
        refine aw_iload_n (j := 2) dX12_goGame_41 rfl rfl ?_
        refine aw_iload_n (j := 3) dX12_goGame_42 rfl rfl ?_
        refine aw_callV (rest := []) [.int x1, .int x2, .int x3] dX12_goGame_43 ly_187 rfl k_X12_273 rfl h (Nat.le_of_ble_eq_true rfl) (fun v m5 h => ?_)
        obtain ⟨v6, rfl, h⟩ := h
        refine aw_eq (L' := [(0, .ref (ad 187)), (1, .int x1), (2, .int x2), (3, .int x3), (4, .int x4)]) (st' := [.int v6]) (m' := m5) ?_ rfl rfl rfl
        exact aw_sub [0, 1, 2, 3] rfl h
      · have h := h.2 hc
        refine aw_aload_n (j := 0) dX12_goGame_18 rfl rfl ?_
        refine aw_callV (rest := []) [] dX12_goGame_19 ly_187 rfl k_X12_284 rfl h (Nat.le_of_ble_eq_true rfl) (fun v m7 h => ?_)
        obtain ⟨v8, rfl, h⟩ := h
        refine aw_eq (L' := [(0, .ref (ad 187)), (1, .int x1), (2, .int x2), (3, .int x3), (4, .int x4)]) (st' := [.int v8]) (m' := m7) ?_ rfl rfl rfl
        refine aw_aload_n (j := 0) dX12_goGame_22 rfl rfl ?_
        refine aw_iload_n (j := 1) dX12_goGame_23 rfl rfl ?_
        refine aw_iload_n (j := 2) dX12_goGame_24 rfl rfl ?_
        refine aw_callV (rest := [.int v8]) [.int x1, .int x2] dX12_goGame_25 ly_187 rfl k_X12_276 rfl h (Nat.le_of_ble_eq_true rfl) (fun v m9 h => ?_)
        obtain ⟨v10, rfl, h⟩ := h
        refine aw_eq (L' := [(0, .ref (ad 187)), (1, .int x1), (2, .int x2), (3, .int x3), (4, .int x4)]) (st' := [.int v10, .int v8]) (m' := m9) ?_ rfl rfl rfl
        refine aw_icmp_ge (tgt := 35) dX12_goGame_28 (by decide) (fun hc => ?_) (fun hc => ?_)
        · have h := h.1 hc
          refine aw_iconst (v := 1) dX12_goGame_35 (by decide) ?_
          refine aw_goto (tgt := 46) dX12_goGame_36 (by decide) ?_
          exact aw_sub [0, 1, 2, 3] rfl h
        · have h := h.2 hc
          refine aw_iconst (v := 0) dX12_goGame_31 (by decide) ?_
          refine aw_goto (tgt := 46) dX12_goGame_32 (by decide) ?_
          exact aw_sub [0, 1, 2, 3] rfl h
set_option maxRecDepth 100000 in
set_option maxHeartbeats 4000000 in
theorem g_X12_goGame_46 {ad : Nat → Nat} {d : Nat} {Q : Option Value → Wm → Prop} {m : Wm} {x1 x2 x3 s0 : Int32} (h : (Ct ad μX12_settle d [.ref (ad 187), .int x1, .int x2, .int x3, .int s0] m (fun r m1 => r = none ∧ Q (some (.int s0)) m1))) : AW ad E0 μX12_goGame (d + 1) Q 46 [(0, .ref (ad 187)), (1, .int x1), (2, .int x2), (3, .int x3)] [.int s0] m := by
  refine aw_istore (L' := [(5, .int s0), (0, .ref (ad 187)), (1, .int x1), (2, .int x2), (3, .int x3)]) dX12_goGame_46 (by decide) rfl ?_
  refine aw_aload_n (j := 1) dX12_goGame_48 rfl rfl ?_
  refine aw_iload_n (j := 2) dX12_goGame_49 rfl rfl ?_
  refine aw_iload_n (j := 3) dX12_goGame_50 rfl rfl ?_
  refine aw_iload_n (j := 4) dX12_goGame_51 rfl rfl ?_
  refine aw_iload (j := 0) dX12_goGame_52 rfl ?_
  refine aw_callV (rest := []) [.int x1, .int x2, .int x3, .int s0] dX12_goGame_54 ly_187 rfl k_X12_287 rfl h (Nat.le_of_ble_eq_true rfl) (fun v m1 h => ?_)
  obtain ⟨rfl, h⟩ := h
  refine aw_eq (L' := [(5, .int s0), (0, .ref (ad 187)), (1, .int x1), (2, .int x2), (3, .int x3)]) (st' := []) (m' := m1) ?_ rfl rfl rfl
  refine aw_iload (j := 0) dX12_goGame_57 rfl ?_
  exact aw_ret (v := some (.int s0)) rfl (Or.inr (Or.inl ⟨_, .int, rfl, rfl, rfl, dX12_goGame_59⟩)) h
set_option maxRecDepth 100000 in
set_option maxHeartbeats 4000000 in
theorem v_X12_lay {ad : Nat → Nat} {d : Nat} {Q : Option Value → Wm → Prop} {m : Wm} {a1 na1 : Nat} {x2 : Int32} (ha1 : LAY[a1]? = some (.inr (0, na1))) (h : AW ad E0 μX12_lay d Q 5 [(0, .ref (ad 187)), (1, .ref (ad a1)), (3, .int x2), (4, .int (0 : Int32))] [] m) : Ct ad μX12_lay d [.ref (ad 187), .ref (ad a1), .int x2] m Q := by
  refine Ct.of (by decide +kernel) rfl (Nat.le_of_ble_eq_true rfl) ?_
  refine aw_eq (L' := [(0, .ref (ad 187)), (1, .ref (ad a1)), (2, .int x2)]) ?_ rfl rfl rfl
  refine aw_iload_n (j := 2) dX12_lay_0 rfl rfl ?_
  refine aw_istore_n (L' := [(3, .int x2), (0, .ref (ad 187)), (1, .ref (ad a1)), (2, .int x2)]) dX12_lay_1 rfl (by decide) rfl ?_
  refine aw_iconst (v := 0) dX12_lay_2 (by decide) ?_
  refine aw_istore (L' := [(4, .int (0 : Int32)), (3, .int x2), (0, .ref (ad 187)), (1, .ref (ad a1)), (2, .int x2)]) dX12_lay_3 (by decide) rfl ?_
  exact aw_sub [2, 3, 1, 0] rfl h
set_option maxRecDepth 100000 in
set_option maxHeartbeats 4000000 in
theorem g_X12_lay_5 {ad : Nat → Nat} {d : Nat} {Q : Option Value → Wm → Prop} {m : Wm} {a1 na1 : Nat} {x3 x4 : Int32} (ha1 : LAY[a1]? = some (.inr (0, na1))) (h : (((32 : Int32) ≤ x4 → AW ad E0 μX12_lay d Q 37 [(0, .ref (ad 187)), (1, .ref (ad a1)), (3, .int (x3 + (32 : Int32))), (4, .int (0 : Int32))] [] m) ∧ (¬ (32 : Int32) ≤ x4 → (vp_in x4 32 ∧ (vp_in (x3 + x4) na1 ∧ AW ad E0 μX12_lay d Q 5 [(0, .ref (ad 187)), (1, .ref (ad a1)), (3, .int x3), (4, .int (x4 + (1 : Int32)))] [] (uI m a1 (x3 + x4).toNatClampNeg (m.1 188 x4.toNatClampNeg))))))) : AW ad E0 μX12_lay d Q 5 [(0, .ref (ad 187)), (1, .ref (ad a1)), (3, .int x3), (4, .int x4)] [] m := by
  refine aw_iload (j := 3) dX12_lay_5 rfl ?_
  refine aw_bipush (v := 32) dX12_lay_7 (by decide) ?_
  refine aw_icmp_ge (tgt := 31) dX12_lay_9 (by decide) (fun hc => ?_) (fun hc => ?_)
  · have h := h.1 hc
    refine aw_iinc (j := 2) (v := x3 + (32 : Int32)) (L' := [(3, .int (x3 + (32 : Int32))), (0, .ref (ad 187)), (1, .ref (ad a1)), (4, .int x4)]) dX12_lay_31 rfl rfl (by decide) rfl ?_
    refine aw_iconst (v := 0) dX12_lay_34 (by decide) ?_
    refine aw_istore (L' := [(4, .int (0 : Int32)), (3, .int (x3 + (32 : Int32))), (0, .ref (ad 187)), (1, .ref (ad a1))]) dX12_lay_35 (by decide) rfl ?_
    exact aw_sub [2, 3, 1, 0] rfl h
  · have h := h.2 hc
    refine aw_aload_n (j := 1) dX12_lay_12 rfl rfl ?_
    refine aw_iload_n (j := 2) dX12_lay_13 rfl rfl ?_
    refine aw_iload (j := 3) dX12_lay_14 rfl ?_
    refine aw_iadd dX12_lay_16 ?_
    refine aw_aload_n (j := 0) dX12_lay_17 rfl rfl ?_
    refine aw_getfield (c := 191) (v := .ref (ad 188)) dX12_lay_18 f_X12_13 ly_187 rfl rfl ?_
    refine aw_iload (j := 3) dX12_lay_21 rfl ?_
    obtain ⟨hi, h⟩ := h
    refine aw_iaload dX12_lay_23 ly_188 hi ?_
    obtain ⟨hi, h⟩ := h
    refine aw_iastore dX12_lay_24 ha1 hi ?_
    refine aw_iinc (j := 3) (v := x4 + (1 : Int32)) (L' := [(4, .int (x4 + (1 : Int32))), (0, .ref (ad 187)), (1, .ref (ad a1)), (3, .int x3)]) dX12_lay_25 rfl rfl (by decide) rfl ?_
    refine aw_goto (tgt := 5) dX12_lay_28 (by decide) ?_
    exact aw_sub [1, 2, 3, 0] rfl h
set_option maxRecDepth 100000 in
set_option maxHeartbeats 4000000 in
theorem g_X12_lay_37 {ad : Nat → Nat} {d : Nat} {Q : Option Value → Wm → Prop} {m : Wm} {a1 na1 : Nat} {x3 x4 : Int32} (ha1 : LAY[a1]? = some (.inr (0, na1))) (h : (((8 : Int32) ≤ x4 → (vp_in (x3 + (24 : Int32)) na1 ∧ Q none (uI m a1 (x3 + (24 : Int32)).toNatClampNeg (m.1 187 8)))) ∧ (¬ (8 : Int32) ≤ x4 → (vp_in x4 8 ∧ (vp_in (x3 + ((3 : Int32) * x4)) na1 ∧ (vp_in x4 8 ∧ (vp_in ((x3 + ((3 : Int32) * x4)) + (1 : Int32)) na1 ∧ (vp_in x4 8 ∧ (vp_in ((x3 + ((3 : Int32) * x4)) + (2 : Int32)) na1 ∧ AW ad E0 μX12_lay d Q 37 [(0, .ref (ad 187)), (1, .ref (ad a1)), (3, .int x3), (4, .int (x4 + (1 : Int32)))] [] (uI (uI (uI m a1 (x3 + ((3 : Int32) * x4)).toNatClampNeg (m.1 190 x4.toNatClampNeg)) a1 ((x3 + ((3 : Int32) * x4)) + (1 : Int32)).toNatClampNeg ((uI m a1 (x3 + ((3 : Int32) * x4)).toNatClampNeg (m.1 190 x4.toNatClampNeg)).1 191 x4.toNatClampNeg)) a1 ((x3 + ((3 : Int32) * x4)) + (2 : Int32)).toNatClampNeg ((uI (uI m a1 (x3 + ((3 : Int32) * x4)).toNatClampNeg (m.1 190 x4.toNatClampNeg)) a1 ((x3 + ((3 : Int32) * x4)) + (1 : Int32)).toNatClampNeg ((uI m a1 (x3 + ((3 : Int32) * x4)).toNatClampNeg (m.1 190 x4.toNatClampNeg)).1 191 x4.toNatClampNeg)).1 192 x4.toNatClampNeg))))))))))) : AW ad E0 μX12_lay d Q 37 [(0, .ref (ad 187)), (1, .ref (ad a1)), (3, .int x3), (4, .int x4)] [] m := by
  refine aw_iload (j := 3) dX12_lay_37 rfl ?_
  refine aw_bipush (v := 8) dX12_lay_39 (by decide) ?_
  refine aw_icmp_ge (tgt := 99) dX12_lay_41 (by decide) (fun hc => ?_) (fun hc => ?_)
  · have h := h.1 hc
    refine aw_aload_n (j := 1) dX12_lay_99 rfl rfl ?_
    refine aw_iload_n (j := 2) dX12_lay_100 rfl rfl ?_
    refine aw_bipush (v := 24) dX12_lay_101 (by decide) ?_
    refine aw_iadd dX12_lay_103 ?_
    refine aw_aload_n (j := 0) dX12_lay_104 rfl rfl ?_
    refine aw_getfield (c := 0) (v := .int (m.1 187 8)) dX12_lay_105 f_X12_33 ly_187 rfl rfl ?_
    obtain ⟨hi, h⟩ := h
    refine aw_iastore dX12_lay_108 ha1 hi ?_
    exact aw_ret (v := none) rfl (Or.inl ⟨rfl, rfl, dX12_lay_109⟩) h
  · have h := h.2 hc
    refine aw_aload_n (j := 1) dX12_lay_44 rfl rfl ?_
    refine aw_iload_n (j := 2) dX12_lay_45 rfl rfl ?_
    refine aw_iconst (v := 3) dX12_lay_46 (by decide) ?_
    refine aw_iload (j := 3) dX12_lay_47 rfl ?_
    refine aw_imul dX12_lay_49 ?_
    refine aw_iadd dX12_lay_50 ?_
    refine aw_aload_n (j := 0) dX12_lay_51 rfl rfl ?_
    refine aw_getfield (c := 193) (v := .ref (ad 190)) dX12_lay_52 f_X12_21 ly_187 rfl rfl ?_
    refine aw_iload (j := 3) dX12_lay_55 rfl ?_
    obtain ⟨hi, h⟩ := h
    refine aw_iaload dX12_lay_57 ly_190 hi ?_
    obtain ⟨hi, h⟩ := h
    refine aw_iastore dX12_lay_58 ha1 hi ?_
    refine aw_aload_n (j := 1) dX12_lay_59 rfl rfl ?_
    refine aw_iload_n (j := 2) dX12_lay_60 rfl rfl ?_
    refine aw_iconst (v := 3) dX12_lay_61 (by decide) ?_
    refine aw_iload (j := 3) dX12_lay_62 rfl ?_
    refine aw_imul dX12_lay_64 ?_
    refine aw_iadd dX12_lay_65 ?_
    refine aw_iconst (v := 1) dX12_lay_66 (by decide) ?_
    refine aw_iadd dX12_lay_67 ?_
    refine aw_aload_n (j := 0) dX12_lay_68 rfl rfl ?_
    refine aw_getfield (c := 194) (v := .ref (ad 191)) dX12_lay_69 f_X12_24 ly_187 rfl rfl ?_
    refine aw_iload (j := 3) dX12_lay_72 rfl ?_
    obtain ⟨hi, h⟩ := h
    refine aw_iaload dX12_lay_74 ly_191 hi ?_
    obtain ⟨hi, h⟩ := h
    refine aw_iastore dX12_lay_75 ha1 hi ?_
    refine aw_aload_n (j := 1) dX12_lay_76 rfl rfl ?_
    refine aw_iload_n (j := 2) dX12_lay_77 rfl rfl ?_
    refine aw_iconst (v := 3) dX12_lay_78 (by decide) ?_
    refine aw_iload (j := 3) dX12_lay_79 rfl ?_
    refine aw_imul dX12_lay_81 ?_
    refine aw_iadd dX12_lay_82 ?_
    refine aw_iconst (v := 2) dX12_lay_83 (by decide) ?_
    refine aw_iadd dX12_lay_84 ?_
    refine aw_aload_n (j := 0) dX12_lay_85 rfl rfl ?_
    refine aw_getfield (c := 195) (v := .ref (ad 192)) dX12_lay_86 f_X12_27 ly_187 rfl rfl ?_
    refine aw_iload (j := 3) dX12_lay_89 rfl ?_
    obtain ⟨hi, h⟩ := h
    refine aw_iaload dX12_lay_91 ly_192 hi ?_
    obtain ⟨hi, h⟩ := h
    refine aw_iastore dX12_lay_92 ha1 hi ?_
    refine aw_iinc (j := 3) (v := x4 + (1 : Int32)) (L' := [(4, .int (x4 + (1 : Int32))), (0, .ref (ad 187)), (1, .ref (ad a1)), (3, .int x3)]) dX12_lay_93 rfl rfl (by decide) rfl ?_
    refine aw_goto (tgt := 37) dX12_lay_96 (by decide) ?_
    exact aw_sub [1, 2, 3, 0] rfl h
set_option maxRecDepth 100000 in
set_option maxHeartbeats 4000000 in
theorem v_X12_bring {ad : Nat → Nat} {d : Nat} {Q : Option Value → Wm → Prop} {m : Wm} {a1 na1 : Nat} {x2 : Int32} (ha1 : LAY[a1]? = some (.inr (0, na1))) (h : AW ad E0 μX12_bring d Q 5 [(0, .ref (ad 187)), (1, .ref (ad a1)), (3, .int x2), (4, .int (0 : Int32))] [] m) : Ct ad μX12_bring d [.ref (ad 187), .ref (ad a1), .int x2] m Q := by
  refine Ct.of (by decide +kernel) rfl (Nat.le_of_ble_eq_true rfl) ?_
  refine aw_eq (L' := [(0, .ref (ad 187)), (1, .ref (ad a1)), (2, .int x2)]) ?_ rfl rfl rfl
  refine aw_iload_n (j := 2) dX12_bring_0 rfl rfl ?_
  refine aw_istore_n (L' := [(3, .int x2), (0, .ref (ad 187)), (1, .ref (ad a1)), (2, .int x2)]) dX12_bring_1 rfl (by decide) rfl ?_
  refine aw_iconst (v := 0) dX12_bring_2 (by decide) ?_
  refine aw_istore (L' := [(4, .int (0 : Int32)), (3, .int x2), (0, .ref (ad 187)), (1, .ref (ad a1)), (2, .int x2)]) dX12_bring_3 (by decide) rfl ?_
  exact aw_sub [2, 3, 1, 0] rfl h
set_option maxRecDepth 100000 in
set_option maxHeartbeats 4000000 in
theorem g_X12_bring_5 {ad : Nat → Nat} {d : Nat} {Q : Option Value → Wm → Prop} {m : Wm} {a1 na1 : Nat} {x3 x4 : Int32} (ha1 : LAY[a1]? = some (.inr (0, na1))) (h : (((32 : Int32) ≤ x4 → AW ad E0 μX12_bring d Q 37 [(0, .ref (ad 187)), (1, .ref (ad a1)), (3, .int (x3 + (32 : Int32))), (4, .int (0 : Int32))] [] m) ∧ (¬ (32 : Int32) ≤ x4 → (vp_in (x3 + x4) na1 ∧ (vp_in x4 32 ∧ AW ad E0 μX12_bring d Q 5 [(0, .ref (ad 187)), (1, .ref (ad a1)), (3, .int x3), (4, .int (x4 + (1 : Int32)))] [] (uI m 188 x4.toNatClampNeg (m.1 a1 (x3 + x4).toNatClampNeg))))))) : AW ad E0 μX12_bring d Q 5 [(0, .ref (ad 187)), (1, .ref (ad a1)), (3, .int x3), (4, .int x4)] [] m := by
  refine aw_iload (j := 3) dX12_bring_5 rfl ?_
  refine aw_bipush (v := 32) dX12_bring_7 (by decide) ?_
  refine aw_icmp_ge (tgt := 31) dX12_bring_9 (by decide) (fun hc => ?_) (fun hc => ?_)
  · have h := h.1 hc
    refine aw_iinc (j := 2) (v := x3 + (32 : Int32)) (L' := [(3, .int (x3 + (32 : Int32))), (0, .ref (ad 187)), (1, .ref (ad a1)), (4, .int x4)]) dX12_bring_31 rfl rfl (by decide) rfl ?_
    refine aw_iconst (v := 0) dX12_bring_34 (by decide) ?_
    refine aw_istore (L' := [(4, .int (0 : Int32)), (3, .int (x3 + (32 : Int32))), (0, .ref (ad 187)), (1, .ref (ad a1))]) dX12_bring_35 (by decide) rfl ?_
    exact aw_sub [2, 3, 1, 0] rfl h
  · have h := h.2 hc
    refine aw_aload_n (j := 0) dX12_bring_12 rfl rfl ?_
    refine aw_getfield (c := 191) (v := .ref (ad 188)) dX12_bring_13 f_X12_13 ly_187 rfl rfl ?_
    refine aw_iload (j := 3) dX12_bring_16 rfl ?_
    refine aw_aload_n (j := 1) dX12_bring_18 rfl rfl ?_
    refine aw_iload_n (j := 2) dX12_bring_19 rfl rfl ?_
    refine aw_iload (j := 3) dX12_bring_20 rfl ?_
    refine aw_iadd dX12_bring_22 ?_
    obtain ⟨hi, h⟩ := h
    refine aw_iaload dX12_bring_23 ha1 hi ?_
    obtain ⟨hi, h⟩ := h
    refine aw_iastore dX12_bring_24 ly_188 hi ?_
    refine aw_iinc (j := 3) (v := x4 + (1 : Int32)) (L' := [(4, .int (x4 + (1 : Int32))), (0, .ref (ad 187)), (1, .ref (ad a1)), (3, .int x3)]) dX12_bring_25 rfl rfl (by decide) rfl ?_
    refine aw_goto (tgt := 5) dX12_bring_28 (by decide) ?_
    exact aw_sub [1, 2, 3, 0] rfl h
set_option maxRecDepth 100000 in
set_option maxHeartbeats 4000000 in
theorem g_X12_bring_37 {ad : Nat → Nat} {d : Nat} {Q : Option Value → Wm → Prop} {m : Wm} {a1 na1 : Nat} {x3 x4 : Int32} (ha1 : LAY[a1]? = some (.inr (0, na1))) (h : (((8 : Int32) ≤ x4 → (vp_in (x3 + (24 : Int32)) na1 ∧ Q none (uI m 187 8 (m.1 a1 (x3 + (24 : Int32)).toNatClampNeg)))) ∧ (¬ (8 : Int32) ≤ x4 → (vp_in (x3 + ((3 : Int32) * x4)) na1 ∧ (vp_in x4 8 ∧ (vp_in ((x3 + ((3 : Int32) * x4)) + (1 : Int32)) na1 ∧ (vp_in x4 8 ∧ (vp_in ((x3 + ((3 : Int32) * x4)) + (2 : Int32)) na1 ∧ (vp_in x4 8 ∧ AW ad E0 μX12_bring d Q 37 [(0, .ref (ad 187)), (1, .ref (ad a1)), (3, .int x3), (4, .int (x4 + (1 : Int32)))] [] (uI (uI (uI m 190 x4.toNatClampNeg (m.1 a1 (x3 + ((3 : Int32) * x4)).toNatClampNeg)) 191 x4.toNatClampNeg ((uI m 190 x4.toNatClampNeg (m.1 a1 (x3 + ((3 : Int32) * x4)).toNatClampNeg)).1 a1 ((x3 + ((3 : Int32) * x4)) + (1 : Int32)).toNatClampNeg)) 192 x4.toNatClampNeg ((uI (uI m 190 x4.toNatClampNeg (m.1 a1 (x3 + ((3 : Int32) * x4)).toNatClampNeg)) 191 x4.toNatClampNeg ((uI m 190 x4.toNatClampNeg (m.1 a1 (x3 + ((3 : Int32) * x4)).toNatClampNeg)).1 a1 ((x3 + ((3 : Int32) * x4)) + (1 : Int32)).toNatClampNeg)).1 a1 ((x3 + ((3 : Int32) * x4)) + (2 : Int32)).toNatClampNeg))))))))))) : AW ad E0 μX12_bring d Q 37 [(0, .ref (ad 187)), (1, .ref (ad a1)), (3, .int x3), (4, .int x4)] [] m := by
  refine aw_iload (j := 3) dX12_bring_37 rfl ?_
  refine aw_bipush (v := 8) dX12_bring_39 (by decide) ?_
  refine aw_icmp_ge (tgt := 99) dX12_bring_41 (by decide) (fun hc => ?_) (fun hc => ?_)
  · have h := h.1 hc
    refine aw_aload_n (j := 0) dX12_bring_99 rfl rfl ?_
    refine aw_aload_n (j := 1) dX12_bring_100 rfl rfl ?_
    refine aw_iload_n (j := 2) dX12_bring_101 rfl rfl ?_
    refine aw_bipush (v := 24) dX12_bring_102 (by decide) ?_
    refine aw_iadd dX12_bring_104 ?_
    obtain ⟨hi, h⟩ := h
    refine aw_iaload dX12_bring_105 ha1 hi ?_
    refine aw_putI dX12_bring_106 f_X12_33 cl_X12 rfl ly_187 rfl rfl rfl ?_
    exact aw_ret (v := none) rfl (Or.inl ⟨rfl, rfl, dX12_bring_109⟩) h
  · have h := h.2 hc
    refine aw_aload_n (j := 0) dX12_bring_44 rfl rfl ?_
    refine aw_getfield (c := 193) (v := .ref (ad 190)) dX12_bring_45 f_X12_21 ly_187 rfl rfl ?_
    refine aw_iload (j := 3) dX12_bring_48 rfl ?_
    refine aw_aload_n (j := 1) dX12_bring_50 rfl rfl ?_
    refine aw_iload_n (j := 2) dX12_bring_51 rfl rfl ?_
    refine aw_iconst (v := 3) dX12_bring_52 (by decide) ?_
    refine aw_iload (j := 3) dX12_bring_53 rfl ?_
    refine aw_imul dX12_bring_55 ?_
    refine aw_iadd dX12_bring_56 ?_
    obtain ⟨hi, h⟩ := h
    refine aw_iaload dX12_bring_57 ha1 hi ?_
    obtain ⟨hi, h⟩ := h
    refine aw_iastore dX12_bring_58 ly_190 hi ?_
    refine aw_aload_n (j := 0) dX12_bring_59 rfl rfl ?_
    refine aw_getfield (c := 194) (v := .ref (ad 191)) dX12_bring_60 f_X12_24 ly_187 rfl rfl ?_
    refine aw_iload (j := 3) dX12_bring_63 rfl ?_
    refine aw_aload_n (j := 1) dX12_bring_65 rfl rfl ?_
    refine aw_iload_n (j := 2) dX12_bring_66 rfl rfl ?_
    refine aw_iconst (v := 3) dX12_bring_67 (by decide) ?_
    refine aw_iload (j := 3) dX12_bring_68 rfl ?_
    refine aw_imul dX12_bring_70 ?_
    refine aw_iadd dX12_bring_71 ?_
    refine aw_iconst (v := 1) dX12_bring_72 (by decide) ?_
    refine aw_iadd dX12_bring_73 ?_
    obtain ⟨hi, h⟩ := h
    refine aw_iaload dX12_bring_74 ha1 hi ?_
    obtain ⟨hi, h⟩ := h
    refine aw_iastore dX12_bring_75 ly_191 hi ?_
    refine aw_aload_n (j := 0) dX12_bring_76 rfl rfl ?_
    refine aw_getfield (c := 195) (v := .ref (ad 192)) dX12_bring_77 f_X12_27 ly_187 rfl rfl ?_
    refine aw_iload (j := 3) dX12_bring_80 rfl ?_
    refine aw_aload_n (j := 1) dX12_bring_82 rfl rfl ?_
    refine aw_iload_n (j := 2) dX12_bring_83 rfl rfl ?_
    refine aw_iconst (v := 3) dX12_bring_84 (by decide) ?_
    refine aw_iload (j := 3) dX12_bring_85 rfl ?_
    refine aw_imul dX12_bring_87 ?_
    refine aw_iadd dX12_bring_88 ?_
    refine aw_iconst (v := 2) dX12_bring_89 (by decide) ?_
    refine aw_iadd dX12_bring_90 ?_
    obtain ⟨hi, h⟩ := h
    refine aw_iaload dX12_bring_91 ha1 hi ?_
    obtain ⟨hi, h⟩ := h
    refine aw_iastore dX12_bring_92 ly_192 hi ?_
    refine aw_iinc (j := 3) (v := x4 + (1 : Int32)) (L' := [(4, .int (x4 + (1 : Int32))), (0, .ref (ad 187)), (1, .ref (ad a1)), (3, .int x3)]) dX12_bring_93 rfl rfl (by decide) rfl ?_
    refine aw_goto (tgt := 37) dX12_bring_96 (by decide) ?_
    exact aw_sub [1, 2, 3, 0] rfl h
set_option maxRecDepth 100000 in
set_option maxHeartbeats 4000000 in
theorem v_X12_remember {ad : Nat → Nat} {d : Nat} {Q : Option Value → Wm → Prop} {m : Wm} (h : ((¬ (m.1 187 30) = (20 : Int32) → AW ad E0 μX12_remember (d + 1) Q 49 [(0, .ref (ad 187))] [] m) ∧ ((m.1 187 30) = (20 : Int32) → AW ad E0 μX12_remember (d + 1) Q 11 [(0, .ref (ad 187)), (1, .int (0 : Int32))] [] m))) : Ct ad μX12_remember (d + 1) [.ref (ad 187)] m Q := by
  refine Ct.of (by decide +kernel) rfl (Nat.le_of_ble_eq_true rfl) ?_
  refine aw_eq (L' := [(0, .ref (ad 187))]) ?_ rfl rfl rfl
  refine aw_aload_n (j := 0) dX12_remember_0 rfl rfl ?_
  refine aw_getfield (c := 0) (v := .int (m.1 187 30)) dX12_remember_1 f_X12_196 ly_187 rfl rfl ?_
  refine aw_bipush (v := 20) dX12_remember_4 (by decide) ?_
  refine aw_icmp_ne (tgt := 49) dX12_remember_6 (by decide) (fun hc => ?_) (fun hc => ?_)
  · have h := h.1 hc
    exact aw_sub [0] rfl h
  · have h := h.2 hc
    refine aw_iconst (v := 0) dX12_remember_9 (by decide) ?_
    refine aw_istore_n (L' := [(1, .int (0 : Int32)), (0, .ref (ad 187))]) dX12_remember_10 rfl (by decide) rfl ?_
    exact aw_sub [1, 0] rfl h
set_option maxRecDepth 100000 in
set_option maxHeartbeats 4000000 in
theorem g_X12_remember_11 {ad : Nat → Nat} {d : Nat} {Q : Option Value → Wm → Prop} {m : Wm} {x1 : Int32} (h : (((1083 : Int32) ≤ x1 → AW ad E0 μX12_remember (d + 1) Q 49 [(0, .ref (ad 187))] [] (uI m 187 30 ((m.1 187 30) - (1 : Int32)))) ∧ (¬ (1083 : Int32) ≤ x1 → (vp_in (x1 + (57 : Int32)) 1140 ∧ (vp_in x1 1140 ∧ AW ad E0 μX12_remember (d + 1) Q 11 [(0, .ref (ad 187)), (1, .int (x1 + (1 : Int32)))] [] (uI m 201 x1.toNatClampNeg (m.1 201 (x1 + (57 : Int32)).toNatClampNeg))))))) : AW ad E0 μX12_remember (d + 1) Q 11 [(0, .ref (ad 187)), (1, .int x1)] [] m := by
  refine aw_iload_n (j := 1) dX12_remember_11 rfl rfl ?_
  refine aw_sipush (v := 1083) dX12_remember_12 (by decide) ?_
  refine aw_icmp_ge (tgt := 39) dX12_remember_15 (by decide) (fun hc => ?_) (fun hc => ?_)
  · have h := h.1 hc
    refine aw_aload_n (j := 0) dX12_remember_39 rfl rfl ?_
    refine aw_dup dX12_remember_40 rfl ?_
    refine aw_getfield (c := 0) (v := .int (m.1 187 30)) dX12_remember_41 f_X12_196 ly_187 rfl rfl ?_
    refine aw_iconst (v := 1) dX12_remember_44 (by decide) ?_
    refine aw_isub dX12_remember_45 ?_
    refine aw_putI dX12_remember_46 f_X12_196 cl_X12 rfl ly_187 rfl rfl rfl ?_
    exact aw_sub [0] rfl h
  · have h := h.2 hc
    refine aw_aload_n (j := 0) dX12_remember_18 rfl rfl ?_
    refine aw_getfield (c := 204) (v := .ref (ad 201)) dX12_remember_19 f_X12_62 ly_187 rfl rfl ?_
    refine aw_iload_n (j := 1) dX12_remember_22 rfl rfl ?_
    refine aw_aload_n (j := 0) dX12_remember_23 rfl rfl ?_
    refine aw_getfield (c := 204) (v := .ref (ad 201)) dX12_remember_24 f_X12_62 ly_187 rfl rfl ?_
    refine aw_iload_n (j := 1) dX12_remember_27 rfl rfl ?_
    refine aw_bipush (v := 57) dX12_remember_28 (by decide) ?_
    refine aw_iadd dX12_remember_30 ?_
    obtain ⟨hi, h⟩ := h
    refine aw_iaload dX12_remember_31 ly_201 hi ?_
    obtain ⟨hi, h⟩ := h
    refine aw_iastore dX12_remember_32 ly_201 hi ?_
    refine aw_iinc (j := 1) (v := x1 + (1 : Int32)) (L' := [(1, .int (x1 + (1 : Int32))), (0, .ref (ad 187))]) dX12_remember_33 rfl rfl (by decide) rfl ?_
    refine aw_goto (tgt := 11) dX12_remember_36 (by decide) ?_
    exact aw_sub [1, 0] rfl h
set_option maxRecDepth 100000 in
set_option maxHeartbeats 4000000 in
theorem g_X12_remember_49 {ad : Nat → Nat} {d : Nat} {Q : Option Value → Wm → Prop} {m : Wm} (h : (Ct ad μX12_lay d [.ref (ad 187), .ref (ad 201), .int ((57 : Int32) * (m.1 187 30))] m (fun r m1 => r = none ∧ Q none (uI m1 187 30 ((m1.1 187 30) + (1 : Int32)))))) : AW ad E0 μX12_remember (d + 1) Q 49 [(0, .ref (ad 187))] [] m := by
  refine aw_aload_n (j := 0) dX12_remember_49 rfl rfl ?_
  refine aw_aload_n (j := 0) dX12_remember_50 rfl rfl ?_
  refine aw_getfield (c := 204) (v := .ref (ad 201)) dX12_remember_51 f_X12_62 ly_187 rfl rfl ?_
  refine aw_bipush (v := 57) dX12_remember_54 (by decide) ?_
  refine aw_aload_n (j := 0) dX12_remember_56 rfl rfl ?_
  refine aw_getfield (c := 0) (v := .int (m.1 187 30)) dX12_remember_57 f_X12_196 ly_187 rfl rfl ?_
  refine aw_imul dX12_remember_60 ?_
  refine aw_callV (rest := []) [.ref (ad 201), .int ((57 : Int32) * (m.1 187 30))] dX12_remember_61 ly_187 rfl k_X12_291 rfl h (Nat.le_of_ble_eq_true rfl) (fun v m1 h => ?_)
  obtain ⟨rfl, h⟩ := h
  refine aw_eq (L' := [(0, .ref (ad 187))]) (st' := []) (m' := m1) ?_ rfl rfl rfl
  refine aw_aload_n (j := 0) dX12_remember_64 rfl rfl ?_
  refine aw_dup dX12_remember_65 rfl ?_
  refine aw_getfield (c := 0) (v := .int (m1.1 187 30)) dX12_remember_66 f_X12_196 ly_187 rfl rfl ?_
  refine aw_iconst (v := 1) dX12_remember_69 (by decide) ?_
  refine aw_iadd dX12_remember_70 ?_
  refine aw_putI dX12_remember_71 f_X12_196 cl_X12 rfl ly_187 rfl rfl rfl ?_
  exact aw_ret (v := none) rfl (Or.inl ⟨rfl, rfl, dX12_remember_74⟩) h
set_option maxRecDepth 100000 in
set_option maxHeartbeats 4000000 in
theorem v_X12_play {ad : Nat → Nat} {d : Nat} {Q : Option Value → Wm → Prop} {m : Wm} {x1 x2 x3 : Int32} (h : (Ct ad μX12_areTwo d [.ref (ad 187), .int x1, .int x2] (uI m 187 17 (0 : Int32)) (fun r m1 => ∃ v2 : Int32, r = some (.int v2) ∧ ((v2 = 0 → Q (some (.int (-1 : Int32))) m1) ∧ (¬ v2 = 0 → (Ct ad μX12_isThrown d [.int x3] m1 (fun r m3 => ∃ v4 : Int32, r = some (.int v4) ∧ ((¬ v4 = 0 → (Ct ad μX12_remember d [.ref (ad 187)] m3 (fun r m5 => r = none ∧ (Ct ad μX12_goGame d [.ref (ad 187), .int x1, .int x2, .int x3, .int (1 : Int32)] m5 (fun r m6 => ∃ v7 : Int32, r = some (.int v7) ∧ (vp_in x1 8 ∧ (Ct ad μX12_tell d [.ref (ad 187), .long (((uI m6 187 16 (0 : Int32)).1 190 x1.toNatClampNeg).toInt64)] (uI m6 187 16 (0 : Int32)) (fun r m8 => r = none ∧ (vp_in x2 8 ∧ (Ct ad μX12_tell d [.ref (ad 187), .long ((m8.1 190 x2.toNatClampNeg).toInt64)] m8 (fun r m9 => r = none ∧ Q (some (.int v7)) m9))))))))))) ∧ (v4 = 0 → Q (some (.int (-1 : Int32))) m3))))))))) : Ct ad μX12_play (d + 1) [.ref (ad 187), .int x1, .int x2, .int x3] m Q := by
  refine Ct.of (by decide +kernel) rfl (Nat.le_of_ble_eq_true rfl) ?_
  refine aw_eq (L' := [(0, .ref (ad 187)), (1, .int x1), (2, .int x2), (3, .int x3)]) ?_ rfl rfl rfl
  refine aw_aload_n (j := 0) dX12_play_0 rfl rfl ?_
  refine aw_iconst (v := 0) dX12_play_1 (by decide) ?_
  refine aw_putI dX12_play_2 f_X12_110 cl_X12 rfl ly_187 rfl rfl rfl ?_
  refine aw_aload_n (j := 0) dX12_play_5 rfl rfl ?_
  refine aw_iload_n (j := 1) dX12_play_6 rfl rfl ?_
  refine aw_iload_n (j := 2) dX12_play_7 rfl rfl ?_
  refine aw_callV (rest := []) [.int x1, .int x2] dX12_play_8 ly_187 rfl k_X12_267 rfl h (Nat.le_of_ble_eq_true rfl) (fun v m1 h => ?_)
  obtain ⟨v2, rfl, h⟩ := h
  refine aw_eq (L' := [(0, .ref (ad 187)), (1, .int x1), (2, .int x2), (3, .int x3)]) (st' := [.int v2]) (m' := m1) ?_ rfl rfl rfl
  refine aw_if_eq (tgt := 21) dX12_play_11 (by decide) (fun hc => ?_) (fun hc => ?_)
  · have h := h.1 hc
    refine aw_iconst (v := -1) dX12_play_21 (by decide) ?_
    exact aw_ret (v := some (.int (-1 : Int32))) rfl (Or.inr (Or.inl ⟨_, .int, rfl, rfl, rfl, dX12_play_22⟩)) h
  · have h := h.2 hc
    refine aw_iload_n (j := 3) dX12_play_14 rfl rfl ?_
    refine aw_callS (rest := []) [.int x3] dX12_play_15 k_X12_270 rfl h (Nat.le_of_ble_eq_true rfl) (fun v m3 h => ?_)
    obtain ⟨v4, rfl, h⟩ := h
    refine aw_eq (L' := [(0, .ref (ad 187)), (1, .int x1), (2, .int x2), (3, .int x3)]) (st' := [.int v4]) (m' := m3) ?_ rfl rfl rfl
    refine aw_if_ne (tgt := 23) dX12_play_18 (by decide) (fun hc => ?_) (fun hc => ?_)
    · have h := h.1 hc
      refine aw_aload_n (j := 0) dX12_play_23 rfl rfl ?_
      refine aw_callV (rest := []) [] dX12_play_24 ly_187 rfl k_X12_295 rfl h (Nat.le_of_ble_eq_true rfl) (fun v m5 h => ?_)
      obtain ⟨rfl, h⟩ := h
      refine aw_eq (L' := [(0, .ref (ad 187)), (1, .int x1), (2, .int x2), (3, .int x3)]) (st' := []) (m' := m5) ?_ rfl rfl rfl
      refine aw_aload_n (j := 0) dX12_play_27 rfl rfl ?_
      refine aw_iload_n (j := 1) dX12_play_28 rfl rfl ?_
      refine aw_iload_n (j := 2) dX12_play_29 rfl rfl ?_
      refine aw_iload_n (j := 3) dX12_play_30 rfl rfl ?_
      refine aw_iconst (v := 1) dX12_play_31 (by decide) ?_
      refine aw_callV (rest := []) [.int x1, .int x2, .int x3, .int (1 : Int32)] dX12_play_32 ly_187 rfl k_X12_298 rfl h (Nat.le_of_ble_eq_true rfl) (fun v m6 h => ?_)
      obtain ⟨v7, rfl, h⟩ := h
      refine aw_eq (L' := [(0, .ref (ad 187)), (1, .int x1), (2, .int x2), (3, .int x3)]) (st' := [.int v7]) (m' := m6) ?_ rfl rfl rfl
      refine aw_istore (L' := [(4, .int v7), (0, .ref (ad 187)), (1, .int x1), (2, .int x2), (3, .int x3)]) dX12_play_35 (by decide) rfl ?_
      refine aw_aload_n (j := 1) dX12_play_37 rfl rfl ?_
      refine aw_iconst (v := 0) dX12_play_38 (by decide) ?_
      refine aw_putI dX12_play_39 f_X12_113 cl_X12 rfl ly_187 rfl rfl rfl ?_
      refine aw_aload_n (j := 1) dX12_play_42 rfl rfl ?_
      refine aw_aload_n (j := 1) dX12_play_43 rfl rfl ?_
      refine aw_getfield (c := 193) (v := .ref (ad 190)) dX12_play_44 f_X12_21 ly_187 rfl rfl ?_
      refine aw_iload_n (j := 2) dX12_play_47 rfl rfl ?_
      obtain ⟨hi, h⟩ := h
      refine aw_iaload dX12_play_48 ly_190 hi ?_
      refine aw_i2l dX12_play_49 ?_
      refine aw_callV (rest := []) [.long (((uI m6 187 16 (0 : Int32)).1 190 x1.toNatClampNeg).toInt64)] dX12_play_50 ly_187 rfl k_X12_131 rfl h (Nat.le_of_ble_eq_true rfl) (fun v m8 h => ?_)
      obtain ⟨rfl, h⟩ := h
      refine aw_eq (L' := [(4, .int v7), (0, .ref (ad 187)), (1, .int x1), (2, .int x2), (3, .int x3)]) (st' := []) (m' := m8) ?_ rfl rfl rfl
      refine aw_aload_n (j := 1) dX12_play_53 rfl rfl ?_
      refine aw_aload_n (j := 1) dX12_play_54 rfl rfl ?_
      refine aw_getfield (c := 193) (v := .ref (ad 190)) dX12_play_55 f_X12_21 ly_187 rfl rfl ?_
      refine aw_iload_n (j := 3) dX12_play_58 rfl rfl ?_
      obtain ⟨hi, h⟩ := h
      refine aw_iaload dX12_play_59 ly_190 hi ?_
      refine aw_i2l dX12_play_60 ?_
      refine aw_callV (rest := []) [.long ((m8.1 190 x2.toNatClampNeg).toInt64)] dX12_play_61 ly_187 rfl k_X12_131 rfl h (Nat.le_of_ble_eq_true rfl) (fun v m9 h => ?_)
      obtain ⟨rfl, h⟩ := h
      refine aw_eq (L' := [(4, .int v7), (0, .ref (ad 187)), (1, .int x1), (2, .int x2), (3, .int x3)]) (st' := []) (m' := m9) ?_ rfl rfl rfl
      refine aw_iload (j := 0) dX12_play_64 rfl ?_
      exact aw_ret (v := some (.int v7)) rfl (Or.inr (Or.inl ⟨_, .int, rfl, rfl, rfl, dX12_play_66⟩)) h
    · have h := h.2 hc
      refine aw_iconst (v := -1) dX12_play_21 (by decide) ?_
      exact aw_ret (v := some (.int (-1 : Int32))) rfl (Or.inr (Or.inl ⟨_, .int, rfl, rfl, rfl, dX12_play_22⟩)) h
set_option maxRecDepth 100000 in
set_option maxHeartbeats 4000000 in
theorem v_X12_undo {ad : Nat → Nat} {d : Nat} {Q : Option Value → Wm → Prop} {m : Wm} (h : ((¬ ((uI m 187 17 (0 : Int32)).1 187 30) = 0 → (Ct ad μX12_bring d [.ref (ad 187), .ref (ad 201), .int ((57 : Int32) * ((uI (uI m 187 17 (0 : Int32)) 187 30 (((uI m 187 17 (0 : Int32)).1 187 30) - (1 : Int32))).1 187 30))] (uI (uI m 187 17 (0 : Int32)) 187 30 (((uI m 187 17 (0 : Int32)).1 187 30) - (1 : Int32))) (fun r m1 => r = none ∧ Q (some (.int (m1.1 187 30))) m1))) ∧ (((uI m 187 17 (0 : Int32)).1 187 30) = 0 → Q (some (.int (-1 : Int32))) (uI m 187 17 (0 : Int32))))) : Ct ad μX12_undo (d + 1) [.ref (ad 187)] m Q := by
  refine Ct.of (by decide +kernel) rfl (Nat.le_of_ble_eq_true rfl) ?_
  refine aw_eq (L' := [(0, .ref (ad 187))]) ?_ rfl rfl rfl
  refine aw_aload_n (j := 0) dX12_undo_0 rfl rfl ?_
  refine aw_iconst (v := 0) dX12_undo_1 (by decide) ?_
  refine aw_putI dX12_undo_2 f_X12_110 cl_X12 rfl ly_187 rfl rfl rfl ?_
  refine aw_aload_n (j := 0) dX12_undo_5 rfl rfl ?_
  refine aw_getfield (c := 0) (v := .int ((uI m 187 17 (0 : Int32)).1 187 30)) dX12_undo_6 f_X12_196 ly_187 rfl rfl ?_
  refine aw_if_ne (tgt := 14) dX12_undo_9 (by decide) (fun hc => ?_) (fun hc => ?_)
  · have h := h.1 hc
    refine aw_aload_n (j := 0) dX12_undo_14 rfl rfl ?_
    refine aw_dup dX12_undo_15 rfl ?_
    refine aw_getfield (c := 0) (v := .int ((uI m 187 17 (0 : Int32)).1 187 30)) dX12_undo_16 f_X12_196 ly_187 rfl rfl ?_
    refine aw_iconst (v := 1) dX12_undo_19 (by decide) ?_
    refine aw_isub dX12_undo_20 ?_
    refine aw_putI dX12_undo_21 f_X12_196 cl_X12 rfl ly_187 rfl rfl rfl ?_
    refine aw_aload_n (j := 0) dX12_undo_24 rfl rfl ?_
    refine aw_aload_n (j := 0) dX12_undo_25 rfl rfl ?_
    refine aw_getfield (c := 204) (v := .ref (ad 201)) dX12_undo_26 f_X12_62 ly_187 rfl rfl ?_
    refine aw_bipush (v := 57) dX12_undo_29 (by decide) ?_
    refine aw_aload_n (j := 0) dX12_undo_31 rfl rfl ?_
    refine aw_getfield (c := 0) (v := .int ((uI (uI m 187 17 (0 : Int32)) 187 30 (((uI m 187 17 (0 : Int32)).1 187 30) - (1 : Int32))).1 187 30)) dX12_undo_32 f_X12_196 ly_187 rfl rfl ?_
    refine aw_imul dX12_undo_35 ?_
    refine aw_callV (rest := []) [.ref (ad 201), .int ((57 : Int32) * ((uI (uI m 187 17 (0 : Int32)) 187 30 (((uI m 187 17 (0 : Int32)).1 187 30) - (1 : Int32))).1 187 30))] dX12_undo_36 ly_187 rfl k_X12_302 rfl h (Nat.le_of_ble_eq_true rfl) (fun v m1 h => ?_)
    obtain ⟨rfl, h⟩ := h
    refine aw_eq (L' := [(0, .ref (ad 187))]) (st' := []) (m' := m1) ?_ rfl rfl rfl
    refine aw_aload_n (j := 0) dX12_undo_39 rfl rfl ?_
    refine aw_getfield (c := 0) (v := .int (m1.1 187 30)) dX12_undo_40 f_X12_196 ly_187 rfl rfl ?_
    exact aw_ret (v := some (.int (m1.1 187 30))) rfl (Or.inr (Or.inl ⟨_, .int, rfl, rfl, rfl, dX12_undo_43⟩)) h
  · have h := h.2 hc
    refine aw_iconst (v := -1) dX12_undo_12 (by decide) ?_
    exact aw_ret (v := some (.int (-1 : Int32))) rfl (Or.inr (Or.inl ⟨_, .int, rfl, rfl, rfl, dX12_undo_13⟩)) h
set_option maxRecDepth 100000 in
set_option maxHeartbeats 4000000 in
theorem v_X12_judge {ad : Nat → Nat} {d : Nat} {Q : Option Value → Wm → Prop} {m : Wm} {x1 x2 : Int32} (h : (Ct ad μX12_in d [.long x1.toInt64, .long (0 : Int64), .long (3 : Int64)] (uI m 187 17 (0 : Int32)) (fun r m1 => ∃ v2 : Int32, r = some (.int v2) ∧ ((¬ v2 = 0 → (Ct ad μX12_lay d [.ref (ad 187), .ref (ad 202), .int (0 : Int32)] m1 (fun r m3 => r = none ∧ (Ct ad μX12_sumOfAll d [.ref (ad 187)] m3 (fun r m4 => ∃ v5 : Int32, r = some (.int v5) ∧ AW ad E0 μX12_judge (d + 1) Q 40 [(0, .ref (ad 187)), (1, .int x1), (2, .int x2), (3, .int v5), (4, .int (-2 : Int32)), (5, .int (0 : Int32))] [] m4))))) ∧ (v2 = 0 → Q (some (.int (-1 : Int32))) m1))))) : Ct ad μX12_judge (d + 1) [.ref (ad 187), .int x1, .int x2] m Q := by
  refine Ct.of (by decide +kernel) rfl (Nat.le_of_ble_eq_true rfl) ?_
  refine aw_eq (L' := [(0, .ref (ad 187)), (1, .int x1), (2, .int x2)]) ?_ rfl rfl rfl
  refine aw_aload_n (j := 0) dX12_judge_0 rfl rfl ?_
  refine aw_iconst (v := 0) dX12_judge_1 (by decide) ?_
  refine aw_putI dX12_judge_2 f_X12_110 cl_X12 rfl ly_187 rfl rfl rfl ?_
  refine aw_iload_n (j := 1) dX12_judge_5 rfl rfl ?_
  refine aw_i2l dX12_judge_6 ?_
  refine aw_lconst (v := 0) dX12_judge_7 (by decide) ?_
  refine aw_ldc2 dX12_judge_8 c_X12_258 ?_
  refine aw_callS (rest := []) [.long x1.toInt64, .long (0 : Int64), .long (3 : Int64)] dX12_judge_11 k_X12_119 rfl h (Nat.le_of_ble_eq_true rfl) (fun v m1 h => ?_)
  obtain ⟨v2, rfl, h⟩ := h
  refine aw_eq (L' := [(0, .ref (ad 187)), (1, .int x1), (2, .int x2)]) (st' := [.int v2]) (m' := m1) ?_ rfl rfl rfl
  refine aw_if_ne (tgt := 19) dX12_judge_14 (by decide) (fun hc => ?_) (fun hc => ?_)
  · have h := h.1 hc
    refine aw_aload_n (j := 0) dX12_judge_19 rfl rfl ?_
    refine aw_aload_n (j := 0) dX12_judge_20 rfl rfl ?_
    refine aw_getfield (c := 205) (v := .ref (ad 202)) dX12_judge_21 f_X12_65 ly_187 rfl rfl ?_
    refine aw_iconst (v := 0) dX12_judge_24 (by decide) ?_
    refine aw_callV (rest := []) [.ref (ad 202), .int (0 : Int32)] dX12_judge_25 ly_187 rfl k_X12_291 rfl h (Nat.le_of_ble_eq_true rfl) (fun v m3 h => ?_)
    obtain ⟨rfl, h⟩ := h
    refine aw_eq (L' := [(0, .ref (ad 187)), (1, .int x1), (2, .int x2)]) (st' := []) (m' := m3) ?_ rfl rfl rfl
    refine aw_aload_n (j := 0) dX12_judge_28 rfl rfl ?_
    refine aw_callV (rest := []) [] dX12_judge_29 ly_187 rfl k_X12_305 rfl h (Nat.le_of_ble_eq_true rfl) (fun v m4 h => ?_)
    obtain ⟨v5, rfl, h⟩ := h
    refine aw_eq (L' := [(0, .ref (ad 187)), (1, .int x1), (2, .int x2)]) (st' := [.int v5]) (m' := m4) ?_ rfl rfl rfl
    refine aw_istore_n (L' := [(3, .int v5), (0, .ref (ad 187)), (1, .int x1), (2, .int x2)]) dX12_judge_32 rfl (by decide) rfl ?_
    refine aw_bipush (v := -2) dX12_judge_33 (by decide) ?_
    refine aw_istore (L' := [(4, .int (-2 : Int32)), (3, .int v5), (0, .ref (ad 187)), (1, .int x1), (2, .int x2)]) dX12_judge_35 (by decide) rfl ?_
    refine aw_iconst (v := 0) dX12_judge_37 (by decide) ?_
    refine aw_istore (L' := [(5, .int (0 : Int32)), (4, .int (-2 : Int32)), (3, .int v5), (0, .ref (ad 187)), (1, .int x1), (2, .int x2)]) dX12_judge_38 (by decide) rfl ?_
    exact aw_sub [3, 4, 5, 2, 1, 0] rfl h
  · have h := h.2 hc
    refine aw_iconst (v := -1) dX12_judge_17 (by decide) ?_
    exact aw_ret (v := some (.int (-1 : Int32))) rfl (Or.inr (Or.inl ⟨_, .int, rfl, rfl, rfl, dX12_judge_18⟩)) h
set_option maxRecDepth 100000 in
set_option maxHeartbeats 4000000 in
theorem g_X12_judge_40 {ad : Nat → Nat} {d : Nat} {Q : Option Value → Wm → Prop} {m : Wm} {x1 x2 x3 x4 x5 : Int32} (h : ((x1 ≤ x5 → AW ad E0 μX12_judge (d + 1) Q 138 [(0, .ref (ad 187)), (3, .int x3), (4, .int x4)] [] m) ∧ (¬ x1 ≤ x5 → ((¬ x4 = (-2 : Int32) → AW ad E0 μX12_judge (d + 1) Q 138 [(0, .ref (ad 187)), (3, .int x3), (4, .int x4)] [] m) ∧ (x4 = (-2 : Int32) → (((2 : Int32) < (((x2 >>> (((10 : Int32) * x5) &&& 31)) &&& (1023 : Int32)) / (100 : Int32)) → AW ad E0 μX12_judge (d + 1) Q 40 [(0, .ref (ad 187)), (1, .int x1), (2, .int x2), (3, .int x3), (4, .int x5), (5, .int (x5 + (1 : Int32)))] [] m) ∧ (¬ (2 : Int32) < (((x2 >>> (((10 : Int32) * x5) &&& 31)) &&& (1023 : Int32)) / (100 : Int32)) → (Ct ad μX12_areTwo d [.ref (ad 187), .int ((((x2 >>> (((10 : Int32) * x5) &&& 31)) &&& (1023 : Int32)) / (10 : Int32)) - (((x2 >>> (((10 : Int32) * x5) &&& 31)) &&& (1023 : Int32)) / (10 : Int32)) / (10 : Int32) * (10 : Int32)), .int (((x2 >>> (((10 : Int32) * x5) &&& 31)) &&& (1023 : Int32)) - ((x2 >>> (((10 : Int32) * x5) &&& 31)) &&& (1023 : Int32)) / (10 : Int32) * (10 : Int32))] m (fun r m1 => ∃ v2 : Int32, r = some (.int v2) ∧ ((v2 = 0 → AW ad E0 μX12_judge (d + 1) Q 40 [(0, .ref (ad 187)), (1, .int x1), (2, .int x2), (3, .int x3), (4, .int x5), (5, .int (x5 + (1 : Int32)))] [] m1) ∧ (¬ v2 = 0 → ((((((x2 >>> (((10 : Int32) * x5) &&& 31)) &&& (1023 : Int32)) / (10 : Int32)) - (((x2 >>> (((10 : Int32) * x5) &&& 31)) &&& (1023 : Int32)) / (10 : Int32)) / (10 : Int32) * (10 : Int32)) ≤ (((x2 >>> (((10 : Int32) * x5) &&& 31)) &&& (1023 : Int32)) - ((x2 >>> (((10 : Int32) * x5) &&& 31)) &&& (1023 : Int32)) / (10 : Int32) * (10 : Int32)) → (Ct ad μX12_goGame d [.ref (ad 187), .int ((((x2 >>> (((10 : Int32) * x5) &&& 31)) &&& (1023 : Int32)) / (10 : Int32)) - (((x2 >>> (((10 : Int32) * x5) &&& 31)) &&& (1023 : Int32)) / (10 : Int32)) / (10 : Int32) * (10 : Int32)), .int (((x2 >>> (((10 : Int32) * x5) &&& 31)) &&& (1023 : Int32)) - ((x2 >>> (((10 : Int32) * x5) &&& 31)) &&& (1023 : Int32)) / (10 : Int32) * (10 : Int32)), .int (((x2 >>> (((10 : Int32) * x5) &&& 31)) &&& (1023 : Int32)) / (100 : Int32)), .int (0 : Int32)] m1 (fun r m3 => ∃ v4 : Int32, r = some (.int v4) ∧ AW ad E0 μX12_judge (d + 1) Q 40 [(0, .ref (ad 187)), (1, .int x1), (2, .int x2), (3, .int x3), (4, .int x4), (5, .int (x5 + (1 : Int32)))] [] m3))) ∧ (¬ ((((x2 >>> (((10 : Int32) * x5) &&& 31)) &&& (1023 : Int32)) / (10 : Int32)) - (((x2 >>> (((10 : Int32) * x5) &&& 31)) &&& (1023 : Int32)) / (10 : Int32)) / (10 : Int32) * (10 : Int32)) ≤ (((x2 >>> (((10 : Int32) * x5) &&& 31)) &&& (1023 : Int32)) - ((x2 >>> (((10 : Int32) * x5) &&& 31)) &&& (1023 : Int32)) / (10 : Int32) * (10 : Int32)) → AW ad E0 μX12_judge (d + 1) Q 40 [(0, .ref (ad 187)), (1, .int x1), (2, .int x2), (3, .int x3), (4, .int x5), (5, .int (x5 + (1 : Int32)))] [] m1))))))))))))) : AW ad E0 μX12_judge (d + 1) Q 40 [(0, .ref (ad 187)), (1, .int x1), (2, .int x2), (3, .int x3), (4, .int x4), (5, .int x5)] [] m := by
  refine aw_iload (j := 5) dX12_judge_40 rfl ?_
  refine aw_iload_n (j := 1) dX12_judge_42 rfl rfl ?_
  refine aw_icmp_ge (tgt := 138) dX12_judge_43 (by decide) (fun hc => ?_) (fun hc => ?_)
  · have h := h.1 hc
    exact aw_sub [0, 3, 4] rfl h
  · have h := h.2 hc
    refine aw_iload (j := 4) dX12_judge_46 rfl ?_
    refine aw_bipush (v := -2) dX12_judge_48 (by decide) ?_
    refine aw_icmp_ne (tgt := 138) dX12_judge_50 (by decide) (fun hc => ?_) (fun hc => ?_)
    · have h := h.1 hc
      exact aw_sub [0, 3, 4] rfl h
    · have h := h.2 hc
      refine aw_iload_n (j := 2) dX12_judge_53 rfl rfl ?_
      refine aw_bipush (v := 10) dX12_judge_54 (by decide) ?_
      refine aw_iload (j := 5) dX12_judge_56 rfl ?_
      refine aw_imul dX12_judge_58 ?_
      refine aw_ishr dX12_judge_59 ?_
      refine aw_sipush (v := 1023) dX12_judge_60 (by decide) ?_
      refine aw_iand dX12_judge_63 ?_
      refine aw_istore (L' := [(6, .int ((x2 >>> (((10 : Int32) * x5) &&& 31)) &&& (1023 : Int32))), (0, .ref (ad 187)), (1, .int x1), (2, .int x2), (3, .int x3), (4, .int x4), (5, .int x5)]) dX12_judge_64 (by decide) rfl ?_
      refine aw_iload (j := 0) dX12_judge_66 rfl ?_
      refine aw_bipush (v := 10) dX12_judge_68 (by decide) ?_
      refine aw_idiv dX12_judge_70 (by decide) ?_
      refine aw_bipush (v := 10) dX12_judge_71 (by decide) ?_
      refine aw_irem dX12_judge_73 (by decide) ?_
      refine aw_istore (L' := [(7, .int ((((x2 >>> (((10 : Int32) * x5) &&& 31)) &&& (1023 : Int32)) / (10 : Int32)) - (((x2 >>> (((10 : Int32) * x5) &&& 31)) &&& (1023 : Int32)) / (10 : Int32)) / (10 : Int32) * (10 : Int32))), (6, .int ((x2 >>> (((10 : Int32) * x5) &&& 31)) &&& (1023 : Int32))), (0, .ref (ad 187)), (1, .int x1), (2, .int x2), (3, .int x3), (4, .int x4), (5, .int x5)]) dX12_judge_74 (by decide) rfl ?_
      refine aw_iload (j := 1) dX12_judge_76 rfl ?_
      refine aw_bipush (v := 10) dX12_judge_78 (by decide) ?_
      refine aw_irem dX12_judge_80 (by decide) ?_
      refine aw_istore (L' := [(8, .int (((x2 >>> (((10 : Int32) * x5) &&& 31)) &&& (1023 : Int32)) - ((x2 >>> (((10 : Int32) * x5) &&& 31)) &&& (1023 : Int32)) / (10 : Int32) * (10 : Int32))), (7, .int ((((x2 >>> (((10 : Int32) * x5) &&& 31)) &&& (1023 : Int32)) / (10 : Int32)) - (((x2 >>> (((10 : Int32) * x5) &&& 31)) &&& (1023 : Int32)) / (10 : Int32)) / (10 : Int32) * (10 : Int32))), (6, .int ((x2 >>> (((10 : Int32) * x5) &&& 31)) &&& (1023 : Int32))), (0, .ref (ad 187)), (1, .int x1), (2, .int x2), (3, .int x3), (4, .int x4), (5, .int x5)]) dX12_judge_81 (by decide) rfl ?_
      refine aw_iload (j := 2) dX12_judge_83 rfl ?_
      refine aw_bipush (v := 100) dX12_judge_85 (by decide) ?_
      refine aw_idiv dX12_judge_87 (by decide) ?_
      refine aw_iconst (v := 2) dX12_judge_88 (by decide) ?_
      refine aw_icmp_gt (tgt := 110) dX12_judge_89 (by decide) (fun hc => ?_) (fun hc => ?_)
      · have h := h.1 hc
        refine aw_iload (j := 8) dX12_judge_110 rfl ?_
        refine aw_istore (L' := [(4, .int x5), (8, .int (((x2 >>> (((10 : Int32) * x5) &&& 31)) &&& (1023 : Int32)) - ((x2 >>> (((10 : Int32) * x5) &&& 31)) &&& (1023 : Int32)) / (10 : Int32) * (10 : Int32))), (7, .int ((((x2 >>> (((10 : Int32) * x5) &&& 31)) &&& (1023 : Int32)) / (10 : Int32)) - (((x2 >>> (((10 : Int32) * x5) &&& 31)) &&& (1023 : Int32)) / (10 : Int32)) / (10 : Int32) * (10 : Int32))), (6, .int ((x2 >>> (((10 : Int32) * x5) &&& 31)) &&& (1023 : Int32))), (0, .ref (ad 187)), (1, .int x1), (2, .int x2), (3, .int x3), (5, .int x5)]) dX12_judge_112 (by decide) rfl ?_
        refine aw_goto (tgt := 132) dX12_judge_114 (by decide) ?_
        refine aw_iinc (j := 8) (v := x5 + (1 : Int32)) (L' := [(5, .int (x5 + (1 : Int32))), (4, .int x5), (8, .int (((x2 >>> (((10 : Int32) * x5) &&& 31)) &&& (1023 : Int32)) - ((x2 >>> (((10 : Int32) * x5) &&& 31)) &&& (1023 : Int32)) / (10 : Int32) * (10 : Int32))), (7, .int ((((x2 >>> (((10 : Int32) * x5) &&& 31)) &&& (1023 : Int32)) / (10 : Int32)) - (((x2 >>> (((10 : Int32) * x5) &&& 31)) &&& (1023 : Int32)) / (10 : Int32)) / (10 : Int32) * (10 : Int32))), (6, .int ((x2 >>> (((10 : Int32) * x5) &&& 31)) &&& (1023 : Int32))), (0, .ref (ad 187)), (1, .int x1), (2, .int x2), (3, .int x3)]) dX12_judge_132 rfl rfl (by decide) rfl ?_
        refine aw_goto (tgt := 40) dX12_judge_135 (by decide) ?_
        exact aw_sub [5, 6, 7, 8, 1, 0] rfl h
      · have h := h.2 hc
        refine aw_aload_n (j := 3) dX12_judge_92 rfl rfl ?_
        refine aw_iload (j := 1) dX12_judge_93 rfl ?_
        refine aw_iload (j := 0) dX12_judge_95 rfl ?_
        refine aw_callV (rest := []) [.int ((((x2 >>> (((10 : Int32) * x5) &&& 31)) &&& (1023 : Int32)) / (10 : Int32)) - (((x2 >>> (((10 : Int32) * x5) &&& 31)) &&& (1023 : Int32)) / (10 : Int32)) / (10 : Int32) * (10 : Int32)), .int (((x2 >>> (((10 : Int32) * x5) &&& 31)) &&& (1023 : Int32)) - ((x2 >>> (((10 : Int32) * x5) &&& 31)) &&& (1023 : Int32)) / (10 : Int32) * (10 : Int32))] dX12_judge_97 ly_187 rfl k_X12_267 rfl h (Nat.le_of_ble_eq_true rfl) (fun v m1 h => ?_)
        obtain ⟨v2, rfl, h⟩ := h
        refine aw_eq (L' := [(8, .int (((x2 >>> (((10 : Int32) * x5) &&& 31)) &&& (1023 : Int32)) - ((x2 >>> (((10 : Int32) * x5) &&& 31)) &&& (1023 : Int32)) / (10 : Int32) * (10 : Int32))), (7, .int ((((x2 >>> (((10 : Int32) * x5) &&& 31)) &&& (1023 : Int32)) / (10 : Int32)) - (((x2 >>> (((10 : Int32) * x5) &&& 31)) &&& (1023 : Int32)) / (10 : Int32)) / (10 : Int32) * (10 : Int32))), (6, .int ((x2 >>> (((10 : Int32) * x5) &&& 31)) &&& (1023 : Int32))), (0, .ref (ad 187)), (1, .int x1), (2, .int x2), (3, .int x3), (4, .int x4), (5, .int x5)]) (st' := [.int v2]) (m' := m1) ?_ rfl rfl rfl
        refine aw_if_eq (tgt := 110) dX12_judge_100 (by decide) (fun hc => ?_) (fun hc => ?_)
        · have h := h.1 hc
          refine aw_iload (j := 8) dX12_judge_110 rfl ?_
          refine aw_istore (L' := [(4, .int x5), (8, .int (((x2 >>> (((10 : Int32) * x5) &&& 31)) &&& (1023 : Int32)) - ((x2 >>> (((10 : Int32) * x5) &&& 31)) &&& (1023 : Int32)) / (10 : Int32) * (10 : Int32))), (7, .int ((((x2 >>> (((10 : Int32) * x5) &&& 31)) &&& (1023 : Int32)) / (10 : Int32)) - (((x2 >>> (((10 : Int32) * x5) &&& 31)) &&& (1023 : Int32)) / (10 : Int32)) / (10 : Int32) * (10 : Int32))), (6, .int ((x2 >>> (((10 : Int32) * x5) &&& 31)) &&& (1023 : Int32))), (0, .ref (ad 187)), (1, .int x1), (2, .int x2), (3, .int x3), (5, .int x5)]) dX12_judge_112 (by decide) rfl ?_
          refine aw_goto (tgt := 132) dX12_judge_114 (by decide) ?_
          refine aw_iinc (j := 8) (v := x5 + (1 : Int32)) (L' := [(5, .int (x5 + (1 : Int32))), (4, .int x5), (8, .int (((x2 >>> (((10 : Int32) * x5) &&& 31)) &&& (1023 : Int32)) - ((x2 >>> (((10 : Int32) * x5) &&& 31)) &&& (1023 : Int32)) / (10 : Int32) * (10 : Int32))), (7, .int ((((x2 >>> (((10 : Int32) * x5) &&& 31)) &&& (1023 : Int32)) / (10 : Int32)) - (((x2 >>> (((10 : Int32) * x5) &&& 31)) &&& (1023 : Int32)) / (10 : Int32)) / (10 : Int32) * (10 : Int32))), (6, .int ((x2 >>> (((10 : Int32) * x5) &&& 31)) &&& (1023 : Int32))), (0, .ref (ad 187)), (1, .int x1), (2, .int x2), (3, .int x3)]) dX12_judge_132 rfl rfl (by decide) rfl ?_
          refine aw_goto (tgt := 40) dX12_judge_135 (by decide) ?_
          exact aw_sub [5, 6, 7, 8, 1, 0] rfl h
        · have h := h.2 hc
          refine aw_iload (j := 1) dX12_judge_103 rfl ?_
          refine aw_iload (j := 0) dX12_judge_105 rfl ?_
          refine aw_icmp_le (tgt := 117) dX12_judge_107 (by decide) (fun hc => ?_) (fun hc => ?_)
          · have h := h.1 hc
            refine aw_aload_n (j := 3) dX12_judge_117 rfl rfl ?_
            refine aw_iload (j := 1) dX12_judge_118 rfl ?_
            refine aw_iload (j := 0) dX12_judge_120 rfl ?_
            refine aw_iload (j := 2) dX12_judge_122 rfl ?_
            refine aw_bipush (v := 100) dX12_judge_124 (by decide) ?_
            refine aw_idiv dX12_judge_126 (by decide) ?_
            refine aw_iconst (v := 0) dX12_judge_127 (by decide) ?_
            refine aw_callV (rest := []) [.int ((((x2 >>> (((10 : Int32) * x5) &&& 31)) &&& (1023 : Int32)) / (10 : Int32)) - (((x2 >>> (((10 : Int32) * x5) &&& 31)) &&& (1023 : Int32)) / (10 : Int32)) / (10 : Int32) * (10 : Int32)), .int (((x2 >>> (((10 : Int32) * x5) &&& 31)) &&& (1023 : Int32)) - ((x2 >>> (((10 : Int32) * x5) &&& 31)) &&& (1023 : Int32)) / (10 : Int32) * (10 : Int32)), .int (((x2 >>> (((10 : Int32) * x5) &&& 31)) &&& (1023 : Int32)) / (100 : Int32)), .int (0 : Int32)] dX12_judge_128 ly_187 rfl k_X12_298 rfl h (Nat.le_of_ble_eq_true rfl) (fun v m3 h => ?_)
            obtain ⟨v4, rfl, h⟩ := h
            refine aw_eq (L' := [(8, .int (((x2 >>> (((10 : Int32) * x5) &&& 31)) &&& (1023 : Int32)) - ((x2 >>> (((10 : Int32) * x5) &&& 31)) &&& (1023 : Int32)) / (10 : Int32) * (10 : Int32))), (7, .int ((((x2 >>> (((10 : Int32) * x5) &&& 31)) &&& (1023 : Int32)) / (10 : Int32)) - (((x2 >>> (((10 : Int32) * x5) &&& 31)) &&& (1023 : Int32)) / (10 : Int32)) / (10 : Int32) * (10 : Int32))), (6, .int ((x2 >>> (((10 : Int32) * x5) &&& 31)) &&& (1023 : Int32))), (0, .ref (ad 187)), (1, .int x1), (2, .int x2), (3, .int x3), (4, .int x4), (5, .int x5)]) (st' := [.int v4]) (m' := m3) ?_ rfl rfl rfl
            refine aw_pop dX12_judge_131 rfl ?_
            refine aw_iinc (j := 8) (v := x5 + (1 : Int32)) (L' := [(5, .int (x5 + (1 : Int32))), (8, .int (((x2 >>> (((10 : Int32) * x5) &&& 31)) &&& (1023 : Int32)) - ((x2 >>> (((10 : Int32) * x5) &&& 31)) &&& (1023 : Int32)) / (10 : Int32) * (10 : Int32))), (7, .int ((((x2 >>> (((10 : Int32) * x5) &&& 31)) &&& (1023 : Int32)) / (10 : Int32)) - (((x2 >>> (((10 : Int32) * x5) &&& 31)) &&& (1023 : Int32)) / (10 : Int32)) / (10 : Int32) * (10 : Int32))), (6, .int ((x2 >>> (((10 : Int32) * x5) &&& 31)) &&& (1023 : Int32))), (0, .ref (ad 187)), (1, .int x1), (2, .int x2), (3, .int x3), (4, .int x4)]) dX12_judge_132 rfl rfl (by decide) rfl ?_
            refine aw_goto (tgt := 40) dX12_judge_135 (by decide) ?_
            exact aw_sub [4, 5, 6, 7, 8, 0] rfl h
          · have h := h.2 hc
            refine aw_iload (j := 8) dX12_judge_110 rfl ?_
            refine aw_istore (L' := [(4, .int x5), (8, .int (((x2 >>> (((10 : Int32) * x5) &&& 31)) &&& (1023 : Int32)) - ((x2 >>> (((10 : Int32) * x5) &&& 31)) &&& (1023 : Int32)) / (10 : Int32) * (10 : Int32))), (7, .int ((((x2 >>> (((10 : Int32) * x5) &&& 31)) &&& (1023 : Int32)) / (10 : Int32)) - (((x2 >>> (((10 : Int32) * x5) &&& 31)) &&& (1023 : Int32)) / (10 : Int32)) / (10 : Int32) * (10 : Int32))), (6, .int ((x2 >>> (((10 : Int32) * x5) &&& 31)) &&& (1023 : Int32))), (0, .ref (ad 187)), (1, .int x1), (2, .int x2), (3, .int x3), (5, .int x5)]) dX12_judge_112 (by decide) rfl ?_
            refine aw_goto (tgt := 132) dX12_judge_114 (by decide) ?_
            refine aw_iinc (j := 8) (v := x5 + (1 : Int32)) (L' := [(5, .int (x5 + (1 : Int32))), (4, .int x5), (8, .int (((x2 >>> (((10 : Int32) * x5) &&& 31)) &&& (1023 : Int32)) - ((x2 >>> (((10 : Int32) * x5) &&& 31)) &&& (1023 : Int32)) / (10 : Int32) * (10 : Int32))), (7, .int ((((x2 >>> (((10 : Int32) * x5) &&& 31)) &&& (1023 : Int32)) / (10 : Int32)) - (((x2 >>> (((10 : Int32) * x5) &&& 31)) &&& (1023 : Int32)) / (10 : Int32)) / (10 : Int32) * (10 : Int32))), (6, .int ((x2 >>> (((10 : Int32) * x5) &&& 31)) &&& (1023 : Int32))), (0, .ref (ad 187)), (1, .int x1), (2, .int x2), (3, .int x3)]) dX12_judge_132 rfl rfl (by decide) rfl ?_
            refine aw_goto (tgt := 40) dX12_judge_135 (by decide) ?_
            exact aw_sub [5, 6, 7, 8, 1, 0] rfl h
set_option maxRecDepth 100000 in
set_option maxHeartbeats 4000000 in
theorem g_X12_judge_138 {ad : Nat → Nat} {d : Nat} {Q : Option Value → Wm → Prop} {m : Wm} {x3 x4 : Int32} (h : (Ct ad μX12_sumOfAll d [.ref (ad 187)] m (fun r m1 => ∃ v2 : Int32, r = some (.int v2) ∧ (Ct ad μX12_bring d [.ref (ad 187), .ref (ad 202), .int (0 : Int32)] m1 (fun r m3 => r = none ∧ (Ct ad μX12_tell d [.ref (ad 187), .long ((v2 - x3).toInt64)] (uI m3 187 16 (0 : Int32)) (fun r m4 => r = none ∧ Q (some (.int x4)) m4))))))) : AW ad E0 μX12_judge (d + 1) Q 138 [(0, .ref (ad 187)), (3, .int x3), (4, .int x4)] [] m := by
  refine aw_aload_n (j := 0) dX12_judge_138 rfl rfl ?_
  refine aw_callV (rest := []) [] dX12_judge_139 ly_187 rfl k_X12_305 rfl h (Nat.le_of_ble_eq_true rfl) (fun v m1 h => ?_)
  obtain ⟨v2, rfl, h⟩ := h
  refine aw_eq (L' := [(0, .ref (ad 187)), (3, .int x3), (4, .int x4)]) (st' := [.int v2]) (m' := m1) ?_ rfl rfl rfl
  refine aw_iload_n (j := 1) dX12_judge_142 rfl rfl ?_
  refine aw_isub dX12_judge_143 ?_
  refine aw_istore (L' := [(5, .int (v2 - x3)), (0, .ref (ad 187)), (3, .int x3), (4, .int x4)]) dX12_judge_144 (by decide) rfl ?_
  refine aw_aload_n (j := 1) dX12_judge_146 rfl rfl ?_
  refine aw_aload_n (j := 1) dX12_judge_147 rfl rfl ?_
  refine aw_getfield (c := 205) (v := .ref (ad 202)) dX12_judge_148 f_X12_65 ly_187 rfl rfl ?_
  refine aw_iconst (v := 0) dX12_judge_151 (by decide) ?_
  refine aw_callV (rest := []) [.ref (ad 202), .int (0 : Int32)] dX12_judge_152 ly_187 rfl k_X12_302 rfl h (Nat.le_of_ble_eq_true rfl) (fun v m3 h => ?_)
  obtain ⟨rfl, h⟩ := h
  refine aw_eq (L' := [(5, .int (v2 - x3)), (0, .ref (ad 187)), (3, .int x3), (4, .int x4)]) (st' := []) (m' := m3) ?_ rfl rfl rfl
  refine aw_aload_n (j := 1) dX12_judge_155 rfl rfl ?_
  refine aw_iconst (v := 0) dX12_judge_156 (by decide) ?_
  refine aw_putI dX12_judge_157 f_X12_113 cl_X12 rfl ly_187 rfl rfl rfl ?_
  refine aw_aload_n (j := 1) dX12_judge_160 rfl rfl ?_
  refine aw_iload (j := 0) dX12_judge_161 rfl ?_
  refine aw_i2l dX12_judge_163 ?_
  refine aw_callV (rest := []) [.long ((v2 - x3).toInt64)] dX12_judge_164 ly_187 rfl k_X12_131 rfl h (Nat.le_of_ble_eq_true rfl) (fun v m4 h => ?_)
  obtain ⟨rfl, h⟩ := h
  refine aw_eq (L' := [(5, .int (v2 - x3)), (0, .ref (ad 187)), (3, .int x3), (4, .int x4)]) (st' := []) (m' := m4) ?_ rfl rfl rfl
  refine aw_iload (j := 3) dX12_judge_167 rfl ?_
  exact aw_ret (v := some (.int x4)) rfl (Or.inr (Or.inl ⟨_, .int, rfl, rfl, rfl, dX12_judge_169⟩)) h
set_option maxRecDepth 100000 in
set_option maxHeartbeats 4000000 in
theorem v_X12_goRounds {ad : Nat → Nat} {d : Nat} {Q : Option Value → Wm → Prop} {m : Wm} {x1 x2 x3 x4 : Int32} (h : AW ad E0 μX12_goRounds (d + 1) Q 13 [(0, .ref (ad 187)), (1, .int x1), (2, .int x2), (3, .int x3), (4, .int x4), (5, .int (0 : Int32))] [] (uI (uI m 187 32 (0 : Int32)) 187 33 (0 : Int32))) : Ct ad μX12_goRounds (d + 1) [.ref (ad 187), .int x1, .int x2, .int x3, .int x4] m Q := by
  refine Ct.of (by decide +kernel) rfl (Nat.le_of_ble_eq_true rfl) ?_
  refine aw_eq (L' := [(0, .ref (ad 187)), (1, .int x1), (2, .int x2), (3, .int x3), (4, .int x4)]) ?_ rfl rfl rfl
  refine aw_aload_n (j := 0) dX12_goRounds_0 rfl rfl ?_
  refine aw_iconst (v := 0) dX12_goRounds_1 (by decide) ?_
  refine aw_putI dX12_goRounds_2 f_X12_308 cl_X12 rfl ly_187 rfl rfl rfl ?_
  refine aw_aload_n (j := 0) dX12_goRounds_5 rfl rfl ?_
  refine aw_iconst (v := 0) dX12_goRounds_6 (by decide) ?_
  refine aw_putI dX12_goRounds_7 f_X12_311 cl_X12 rfl ly_187 rfl rfl rfl ?_
  refine aw_iconst (v := 0) dX12_goRounds_10 (by decide) ?_
  refine aw_istore (L' := [(5, .int (0 : Int32)), (0, .ref (ad 187)), (1, .int x1), (2, .int x2), (3, .int x3), (4, .int x4)]) dX12_goRounds_11 (by decide) rfl ?_
  exact aw_sub [1, 2, 3, 4, 5, 0] rfl h
set_option maxRecDepth 100000 in
set_option maxHeartbeats 4000000 in
theorem g_X12_goRounds_13 {ad : Nat → Nat} {d : Nat} {Q : Option Value → Wm → Prop} {m : Wm} {x1 x2 x3 x4 x5 : Int32} (h : ((x1 ≤ x5 → Q none m) ∧ (¬ x1 ≤ x5 → (¬ m.1 187 11 = 0 ∧ AW ad E0 μX12_goRounds (d + 1) Q 33 [(0, .ref (ad 187)), (1, .int x1), (2, .int x2), (3, .int x3), (4, .int x4), (5, .int x5), (6, .int ((x2 + x5) - (x2 + x5) / (m.1 187 11) * (m.1 187 11))), (7, .int (0 : Int32))] [] m)))) : AW ad E0 μX12_goRounds (d + 1) Q 13 [(0, .ref (ad 187)), (1, .int x1), (2, .int x2), (3, .int x3), (4, .int x4), (5, .int x5)] [] m := by
  refine aw_iload (j := 5) dX12_goRounds_13 rfl ?_
  refine aw_iload_n (j := 1) dX12_goRounds_15 rfl rfl ?_
  refine aw_icmp_ge (tgt := 146) dX12_goRounds_16 (by decide) (fun hc => ?_) (fun hc => ?_)
  · have h := h.1 hc
    exact aw_ret (v := none) rfl (Or.inl ⟨rfl, rfl, dX12_goRounds_146⟩) h
  · have h := h.2 hc
    refine aw_iload_n (j := 2) dX12_goRounds_19 rfl rfl ?_
    refine aw_iload (j := 5) dX12_goRounds_20 rfl ?_
    refine aw_iadd dX12_goRounds_22 ?_
    refine aw_aload_n (j := 0) dX12_goRounds_23 rfl rfl ?_
    refine aw_getfield (c := 0) (v := .int (m.1 187 11)) dX12_goRounds_24 f_X12_184 ly_187 rfl rfl ?_
    obtain ⟨hz, h⟩ := h
    refine aw_irem dX12_goRounds_27 hz ?_
    refine aw_istore (L' := [(6, .int ((x2 + x5) - (x2 + x5) / (m.1 187 11) * (m.1 187 11))), (0, .ref (ad 187)), (1, .int x1), (2, .int x2), (3, .int x3), (4, .int x4), (5, .int x5)]) dX12_goRounds_28 (by decide) rfl ?_
    refine aw_iconst (v := 0) dX12_goRounds_30 (by decide) ?_
    refine aw_istore (L' := [(7, .int (0 : Int32)), (6, .int ((x2 + x5) - (x2 + x5) / (m.1 187 11) * (m.1 187 11))), (0, .ref (ad 187)), (1, .int x1), (2, .int x2), (3, .int x3), (4, .int x4), (5, .int x5)]) dX12_goRounds_31 (by decide) rfl ?_
    exact aw_sub [2, 3, 4, 5, 6, 7, 1, 0] rfl h
set_option maxRecDepth 100000 in
set_option maxHeartbeats 4000000 in
theorem g_X12_goRounds_33 {ad : Nat → Nat} {d : Nat} {Q : Option Value → Wm → Prop} {m : Wm} {x1 x2 x3 x4 x5 x6 x7 : Int32} (h : (((m.1 187 10) ≤ x7 → AW ad E0 μX12_goRounds (d + 1) Q 13 [(0, .ref (ad 187)), (1, .int x1), (2, .int x2), (3, .int x3), (4, .int x4), (5, .int (x5 + (1 : Int32)))] [] m) ∧ (¬ (m.1 187 10) ≤ x7 → (vp_in (((4 : Int32) * x7) + (3 : Int32)) 160 ∧ (((m.1 194 (((4 : Int32) * x7) + (3 : Int32)).toNatClampNeg) = x6 → ((x3 = 0 → AW ad E0 μX12_goRounds (d + 1) Q 69 [(0, .ref (ad 187)), (1, .int x1), (2, .int x2), (3, .int x3), (4, .int x4), (5, .int x5), (6, .int x6), (7, .int x7)] [] m) ∧ (¬ x3 = 0 → (Ct ad μX12_remember d [.ref (ad 187)] m (fun r m1 => r = none ∧ AW ad E0 μX12_goRounds (d + 1) Q 69 [(0, .ref (ad 187)), (1, .int x1), (2, .int x2), (3, .int x3), (4, .int x4), (5, .int x5), (6, .int x6), (7, .int x7)] [] m1))))) ∧ (¬ (m.1 194 (((4 : Int32) * x7) + (3 : Int32)).toNatClampNeg) = x6 → AW ad E0 μX12_goRounds (d + 1) Q 33 [(0, .ref (ad 187)), (1, .int x1), (2, .int x2), (3, .int x3), (4, .int x4), (5, .int x5), (6, .int x6), (7, .int (x7 + (1 : Int32)))] [] m)))))) : AW ad E0 μX12_goRounds (d + 1) Q 33 [(0, .ref (ad 187)), (1, .int x1), (2, .int x2), (3, .int x3), (4, .int x4), (5, .int x5), (6, .int x6), (7, .int x7)] [] m := by
  refine aw_iload (j := 7) dX12_goRounds_33 rfl ?_
  refine aw_aload_n (j := 0) dX12_goRounds_35 rfl rfl ?_
  refine aw_getfield (c := 0) (v := .int (m.1 187 10)) dX12_goRounds_36 f_X12_181 ly_187 rfl rfl ?_
  refine aw_icmp_ge (tgt := 140) dX12_goRounds_39 (by decide) (fun hc => ?_) (fun hc => ?_)
  · have h := h.1 hc
    refine aw_iinc (j := 5) (v := x5 + (1 : Int32)) (L' := [(5, .int (x5 + (1 : Int32))), (0, .ref (ad 187)), (1, .int x1), (2, .int x2), (3, .int x3), (4, .int x4), (6, .int x6), (7, .int x7)]) dX12_goRounds_140 rfl rfl (by decide) rfl ?_
    refine aw_goto (tgt := 13) dX12_goRounds_143 (by decide) ?_
    exact aw_sub [1, 2, 3, 4, 5, 0] rfl h
  · have h := h.2 hc
    refine aw_aload_n (j := 0) dX12_goRounds_42 rfl rfl ?_
    refine aw_getfield (c := 197) (v := .ref (ad 194)) dX12_goRounds_43 f_X12_36 ly_187 rfl rfl ?_
    refine aw_iconst (v := 4) dX12_goRounds_46 (by decide) ?_
    refine aw_iload (j := 7) dX12_goRounds_47 rfl ?_
    refine aw_imul dX12_goRounds_49 ?_
    refine aw_iconst (v := 3) dX12_goRounds_50 (by decide) ?_
    refine aw_iadd dX12_goRounds_51 ?_
    obtain ⟨hi, h⟩ := h
    refine aw_iaload dX12_goRounds_52 ly_194 hi ?_
    refine aw_iload (j := 6) dX12_goRounds_53 rfl ?_
    refine aw_icmp_eq (tgt := 61) dX12_goRounds_55 (by decide) (fun hc => ?_) (fun hc => ?_)
    · have h := h.1 hc
      refine aw_iload_n (j := 3) dX12_goRounds_61 rfl rfl ?_
      refine aw_if_eq (tgt := 69) dX12_goRounds_62 (by decide) (fun hc => ?_) (fun hc => ?_)
      · have h := h.1 hc
        exact aw_sub [0, 1, 2, 3, 4, 5, 6, 7] rfl h
      · have h := h.2 hc
        refine aw_aload_n (j := 0) dX12_goRounds_65 rfl rfl ?_
        refine aw_callV (rest := []) [] dX12_goRounds_66 ly_187 rfl k_X12_295 rfl h (Nat.le_of_ble_eq_true rfl) (fun v m1 h => ?_)
        obtain ⟨rfl, h⟩ := h
        refine aw_eq (L' := [(0, .ref (ad 187)), (1, .int x1), (2, .int x2), (3, .int x3), (4, .int x4), (5, .int x5), (6, .int x6), (7, .int x7)]) (st' := []) (m' := m1) ?_ rfl rfl rfl
        exact aw_sub [0, 1, 2, 3, 4, 5, 6, 7] rfl h
    · have h := h.2 hc
      refine aw_goto (tgt := 134) dX12_goRounds_58 (by decide) ?_
      refine aw_iinc (j := 7) (v := x7 + (1 : Int32)) (L' := [(7, .int (x7 + (1 : Int32))), (0, .ref (ad 187)), (1, .int x1), (2, .int x2), (3, .int x3), (4, .int x4), (5, .int x5), (6, .int x6)]) dX12_goRounds_134 rfl rfl (by decide) rfl ?_
      refine aw_goto (tgt := 33) dX12_goRounds_137 (by decide) ?_
      exact aw_sub [1, 2, 3, 4, 5, 6, 7, 0] rfl h
set_option maxRecDepth 100000 in
set_option maxHeartbeats 4000000 in
theorem g_X12_goRounds_69 {ad : Nat → Nat} {d : Nat} {Q : Option Value → Wm → Prop} {m : Wm} {x1 x2 x3 x4 x5 x6 x7 : Int32} (h : (vp_in ((4 : Int32) * x7) 160 ∧ (vp_in (((4 : Int32) * x7) + (1 : Int32)) 160 ∧ (vp_in (((4 : Int32) * x7) + (2 : Int32)) 160 ∧ (Ct ad μX12_goGame d [.ref (ad 187), .int (m.1 194 ((4 : Int32) * x7).toNatClampNeg), .int (m.1 194 (((4 : Int32) * x7) + (1 : Int32)).toNatClampNeg), .int (m.1 194 (((4 : Int32) * x7) + (2 : Int32)).toNatClampNeg), .int x4] m (fun r m1 => ∃ v2 : Int32, r = some (.int v2) ∧ ((¬ v2 = (2 : Int32) → AW ad E0 μX12_goRounds (d + 1) Q 120 [(0, .ref (ad 187)), (1, .int x1), (2, .int x2), (3, .int x3), (4, .int x4), (5, .int x5), (6, .int x6), (7, .int x7)] [.int (0 : Int32), .int (m.1 187 33), .ref (ad 187)] m1) ∧ (v2 = (2 : Int32) → AW ad E0 μX12_goRounds (d + 1) Q 120 [(0, .ref (ad 187)), (1, .int x1), (2, .int x2), (3, .int x3), (4, .int x4), (5, .int x5), (6, .int x6), (7, .int x7)] [.int (1 : Int32), .int (m.1 187 33), .ref (ad 187)] m1)))))))) : AW ad E0 μX12_goRounds (d + 1) Q 69 [(0, .ref (ad 187)), (1, .int x1), (2, .int x2), (3, .int x3), (4, .int x4), (5, .int x5), (6, .int x6), (7, .int x7)] [] m := by
  refine aw_aload_n (j := 0) dX12_goRounds_69 rfl rfl ?_
  refine aw_dup dX12_goRounds_70 rfl ?_
  refine aw_getfield (c := 0) (v := .int (m.1 187 33)) dX12_goRounds_71 f_X12_311 ly_187 rfl rfl ?_
  refine aw_aload_n (j := 0) dX12_goRounds_74 rfl rfl ?_
  refine aw_aload_n (j := 0) dX12_goRounds_75 rfl rfl ?_
  refine aw_getfield (c := 197) (v := .ref (ad 194)) dX12_goRounds_76 f_X12_36 ly_187 rfl rfl ?_
  refine aw_iconst (v := 4) dX12_goRounds_79 (by decide) ?_
  refine aw_iload (j := 7) dX12_goRounds_80 rfl ?_
  refine aw_imul dX12_goRounds_82 ?_
  obtain ⟨hi, h⟩ := h
  refine aw_iaload dX12_goRounds_83 ly_194 hi ?_
  refine aw_aload_n (j := 0) dX12_goRounds_84 rfl rfl ?_
  refine aw_getfield (c := 197) (v := .ref (ad 194)) dX12_goRounds_85 f_X12_36 ly_187 rfl rfl ?_
  refine aw_iconst (v := 4) dX12_goRounds_88 (by decide) ?_
  refine aw_iload (j := 7) dX12_goRounds_89 rfl ?_
  refine aw_imul dX12_goRounds_91 ?_
  refine aw_iconst (v := 1) dX12_goRounds_92 (by decide) ?_
  refine aw_iadd dX12_goRounds_93 ?_
  obtain ⟨hi, h⟩ := h
  refine aw_iaload dX12_goRounds_94 ly_194 hi ?_
  refine aw_aload_n (j := 0) dX12_goRounds_95 rfl rfl ?_
  refine aw_getfield (c := 197) (v := .ref (ad 194)) dX12_goRounds_96 f_X12_36 ly_187 rfl rfl ?_
  refine aw_iconst (v := 4) dX12_goRounds_99 (by decide) ?_
  refine aw_iload (j := 7) dX12_goRounds_100 rfl ?_
  refine aw_imul dX12_goRounds_102 ?_
  refine aw_iconst (v := 2) dX12_goRounds_103 (by decide) ?_
  refine aw_iadd dX12_goRounds_104 ?_
  obtain ⟨hi, h⟩ := h
  refine aw_iaload dX12_goRounds_105 ly_194 hi ?_
  refine aw_iload (j := 4) dX12_goRounds_106 rfl ?_
  refine aw_callV (rest := [.int (m.1 187 33), .ref (ad 187)]) [.int (m.1 194 ((4 : Int32) * x7).toNatClampNeg), .int (m.1 194 (((4 : Int32) * x7) + (1 : Int32)).toNatClampNeg), .int (m.1 194 (((4 : Int32) * x7) + (2 : Int32)).toNatClampNeg), .int x4] dX12_goRounds_108 ly_187 rfl k_X12_298 rfl h (Nat.le_of_ble_eq_true rfl) (fun v m1 h => ?_)
  obtain ⟨v2, rfl, h⟩ := h
  refine aw_eq (L' := [(0, .ref (ad 187)), (1, .int x1), (2, .int x2), (3, .int x3), (4, .int x4), (5, .int x5), (6, .int x6), (7, .int x7)]) (st' := [.int v2, .int (m.1 187 33), .ref (ad 187)]) (m' := m1) ?_ rfl rfl rfl
  refine aw_iconst (v := 2) dX12_goRounds_111 (by decide) ?_
  refine aw_icmp_ne (tgt := 119) dX12_goRounds_112 (by decide) (fun hc => ?_) (fun hc => ?_)
  · have h := h.1 hc
    refine aw_iconst (v := 0) dX12_goRounds_119 (by decide) ?_
    exact aw_sub [0, 1, 2, 3, 4, 5, 6, 7] rfl h
  · have h := h.2 hc
    refine aw_iconst (v := 1) dX12_goRounds_115 (by decide) ?_
    refine aw_goto (tgt := 120) dX12_goRounds_116 (by decide) ?_
    exact aw_sub [0, 1, 2, 3, 4, 5, 6, 7] rfl h
set_option maxRecDepth 100000 in
set_option maxHeartbeats 4000000 in
theorem g_X12_goRounds_120 {ad : Nat → Nat} {d : Nat} {Q : Option Value → Wm → Prop} {m : Wm} {x1 x2 x3 x4 x5 x6 x7 s0 s1 : Int32} (h : AW ad E0 μX12_goRounds (d + 1) Q 33 [(0, .ref (ad 187)), (1, .int x1), (2, .int x2), (3, .int x3), (4, .int x4), (5, .int x5), (6, .int x6), (7, .int (x7 + (1 : Int32)))] [] (uI (uI m 187 33 (s1 + s0)) 187 32 (((uI m 187 33 (s1 + s0)).1 187 32) + (1 : Int32)))) : AW ad E0 μX12_goRounds (d + 1) Q 120 [(0, .ref (ad 187)), (1, .int x1), (2, .int x2), (3, .int x3), (4, .int x4), (5, .int x5), (6, .int x6), (7, .int x7)] [.int s0, .int s1, .ref (ad 187)] m := by
  refine aw_iadd dX12_goRounds_120 ?_
  refine aw_putI dX12_goRounds_121 f_X12_311 cl_X12 rfl ly_187 rfl rfl rfl ?_
  refine aw_aload_n (j := 0) dX12_goRounds_124 rfl rfl ?_
  refine aw_dup dX12_goRounds_125 rfl ?_
  refine aw_getfield (c := 0) (v := .int ((uI m 187 33 (s1 + s0)).1 187 32)) dX12_goRounds_126 f_X12_308 ly_187 rfl rfl ?_
  refine aw_iconst (v := 1) dX12_goRounds_129 (by decide) ?_
  refine aw_iadd dX12_goRounds_130 ?_
  refine aw_putI dX12_goRounds_131 f_X12_308 cl_X12 rfl ly_187 rfl rfl rfl ?_
  refine aw_iinc (j := 7) (v := x7 + (1 : Int32)) (L' := [(7, .int (x7 + (1 : Int32))), (0, .ref (ad 187)), (1, .int x1), (2, .int x2), (3, .int x3), (4, .int x4), (5, .int x5), (6, .int x6)]) dX12_goRounds_134 rfl rfl (by decide) rfl ?_
  refine aw_goto (tgt := 33) dX12_goRounds_137 (by decide) ?_
  exact aw_sub [1, 2, 3, 4, 5, 6, 7, 0] rfl h
set_option maxRecDepth 100000 in
set_option maxHeartbeats 4000000 in
theorem v_X12_rounds {ad : Nat → Nat} {d : Nat} {Q : Option Value → Wm → Prop} {m : Wm} {x1 : Int32} (h : (Ct ad μX12_in d [.long x1.toInt64, .long (0 : Int64), .long (200 : Int64)] (uI m 187 17 (0 : Int32)) (fun r m1 => ∃ v2 : Int32, r = some (.int v2) ∧ ((v2 = 0 → Q (some (.int (-1 : Int32))) m1) ∧ (¬ v2 = 0 → ((¬ (m1.1 187 11) = 0 → (Ct ad μX12_goRounds d [.ref (ad 187), .int x1, .int (m1.1 187 12), .int (1 : Int32), .int (1 : Int32)] m1 (fun r m3 => r = none ∧ (¬ m3.1 187 11 = 0 ∧ (Ct ad μX12_tell d [.ref (ad 187), .long (((uI (uI m3 187 12 (((m3.1 187 12) + x1) - ((m3.1 187 12) + x1) / (m3.1 187 11) * (m3.1 187 11))) 187 16 (0 : Int32)).1 187 33).toInt64)] (uI (uI m3 187 12 (((m3.1 187 12) + x1) - ((m3.1 187 12) + x1) / (m3.1 187 11) * (m3.1 187 11))) 187 16 (0 : Int32)) (fun r m4 => r = none ∧ (Ct ad μX12_sumOfAll d [.ref (ad 187)] m4 (fun r m5 => ∃ v6 : Int32, r = some (.int v6) ∧ (Ct ad μX12_tell d [.ref (ad 187), .long v6.toInt64] m5 (fun r m7 => r = none ∧ Q (some (.int (m7.1 187 32))) m7)))))))))) ∧ ((m1.1 187 11) = 0 → Q (some (.int (-1 : Int32))) m1))))))) : Ct ad μX12_rounds (d + 1) [.ref (ad 187), .int x1] m Q := by
  refine Ct.of (by decide +kernel) rfl (Nat.le_of_ble_eq_true rfl) ?_
  refine aw_eq (L' := [(0, .ref (ad 187)), (1, .int x1)]) ?_ rfl rfl rfl
  refine aw_aload_n (j := 0) dX12_rounds_0 rfl rfl ?_
  refine aw_iconst (v := 0) dX12_rounds_1 (by decide) ?_
  refine aw_putI dX12_rounds_2 f_X12_110 cl_X12 rfl ly_187 rfl rfl rfl ?_
  refine aw_iload_n (j := 1) dX12_rounds_5 rfl rfl ?_
  refine aw_i2l dX12_rounds_6 ?_
  refine aw_lconst (v := 0) dX12_rounds_7 (by decide) ?_
  refine aw_ldc2 dX12_rounds_8 c_X12_314 ?_
  refine aw_callS (rest := []) [.long x1.toInt64, .long (0 : Int64), .long (200 : Int64)] dX12_rounds_11 k_X12_119 rfl h (Nat.le_of_ble_eq_true rfl) (fun v m1 h => ?_)
  obtain ⟨v2, rfl, h⟩ := h
  refine aw_eq (L' := [(0, .ref (ad 187)), (1, .int x1)]) (st' := [.int v2]) (m' := m1) ?_ rfl rfl rfl
  refine aw_if_eq (tgt := 24) dX12_rounds_14 (by decide) (fun hc => ?_) (fun hc => ?_)
  · have h := h.1 hc
    refine aw_iconst (v := -1) dX12_rounds_24 (by decide) ?_
    exact aw_ret (v := some (.int (-1 : Int32))) rfl (Or.inr (Or.inl ⟨_, .int, rfl, rfl, rfl, dX12_rounds_25⟩)) h
  · have h := h.2 hc
    refine aw_aload_n (j := 0) dX12_rounds_17 rfl rfl ?_
    refine aw_getfield (c := 0) (v := .int (m1.1 187 11)) dX12_rounds_18 f_X12_184 ly_187 rfl rfl ?_
    refine aw_if_ne (tgt := 26) dX12_rounds_21 (by decide) (fun hc => ?_) (fun hc => ?_)
    · have h := h.1 hc
      refine aw_aload_n (j := 0) dX12_rounds_26 rfl rfl ?_
      refine aw_iload_n (j := 1) dX12_rounds_27 rfl rfl ?_
      refine aw_aload_n (j := 0) dX12_rounds_28 rfl rfl ?_
      refine aw_getfield (c := 0) (v := .int (m1.1 187 12)) dX12_rounds_29 f_X12_187 ly_187 rfl rfl ?_
      refine aw_iconst (v := 1) dX12_rounds_32 (by decide) ?_
      refine aw_iconst (v := 1) dX12_rounds_33 (by decide) ?_
      refine aw_callV (rest := []) [.int x1, .int (m1.1 187 12), .int (1 : Int32), .int (1 : Int32)] dX12_rounds_34 ly_187 rfl k_X12_316 rfl h (Nat.le_of_ble_eq_true rfl) (fun v m3 h => ?_)
      obtain ⟨rfl, h⟩ := h
      refine aw_eq (L' := [(0, .ref (ad 187)), (1, .int x1)]) (st' := []) (m' := m3) ?_ rfl rfl rfl
      refine aw_aload_n (j := 0) dX12_rounds_37 rfl rfl ?_
      refine aw_aload_n (j := 0) dX12_rounds_38 rfl rfl ?_
      refine aw_getfield (c := 0) (v := .int (m3.1 187 12)) dX12_rounds_39 f_X12_187 ly_187 rfl rfl ?_
      refine aw_iload_n (j := 1) dX12_rounds_42 rfl rfl ?_
      refine aw_iadd dX12_rounds_43 ?_
      refine aw_aload_n (j := 0) dX12_rounds_44 rfl rfl ?_
      refine aw_getfield (c := 0) (v := .int (m3.1 187 11)) dX12_rounds_45 f_X12_184 ly_187 rfl rfl ?_
      obtain ⟨hz, h⟩ := h
      refine aw_irem dX12_rounds_48 hz ?_
      refine aw_putI dX12_rounds_49 f_X12_187 cl_X12 rfl ly_187 rfl rfl rfl ?_
      refine aw_aload_n (j := 0) dX12_rounds_52 rfl rfl ?_
      refine aw_iconst (v := 0) dX12_rounds_53 (by decide) ?_
      refine aw_putI dX12_rounds_54 f_X12_113 cl_X12 rfl ly_187 rfl rfl rfl ?_
      refine aw_aload_n (j := 0) dX12_rounds_57 rfl rfl ?_
      refine aw_aload_n (j := 0) dX12_rounds_58 rfl rfl ?_
      refine aw_getfield (c := 0) (v := .int ((uI (uI m3 187 12 (((m3.1 187 12) + x1) - ((m3.1 187 12) + x1) / (m3.1 187 11) * (m3.1 187 11))) 187 16 (0 : Int32)).1 187 33)) dX12_rounds_59 f_X12_311 ly_187 rfl rfl ?_
      refine aw_i2l dX12_rounds_62 ?_
      refine aw_callV (rest := []) [.long (((uI (uI m3 187 12 (((m3.1 187 12) + x1) - ((m3.1 187 12) + x1) / (m3.1 187 11) * (m3.1 187 11))) 187 16 (0 : Int32)).1 187 33).toInt64)] dX12_rounds_63 ly_187 rfl k_X12_131 rfl h (Nat.le_of_ble_eq_true rfl) (fun v m4 h => ?_)
      obtain ⟨rfl, h⟩ := h
      refine aw_eq (L' := [(0, .ref (ad 187)), (1, .int x1)]) (st' := []) (m' := m4) ?_ rfl rfl rfl
      refine aw_aload_n (j := 0) dX12_rounds_66 rfl rfl ?_
      refine aw_aload_n (j := 0) dX12_rounds_67 rfl rfl ?_
      refine aw_callV (rest := [.ref (ad 187)]) [] dX12_rounds_68 ly_187 rfl k_X12_305 rfl h (Nat.le_of_ble_eq_true rfl) (fun v m5 h => ?_)
      obtain ⟨v6, rfl, h⟩ := h
      refine aw_eq (L' := [(0, .ref (ad 187)), (1, .int x1)]) (st' := [.int v6, .ref (ad 187)]) (m' := m5) ?_ rfl rfl rfl
      refine aw_i2l dX12_rounds_71 ?_
      refine aw_callV (rest := []) [.long v6.toInt64] dX12_rounds_72 ly_187 rfl k_X12_131 rfl h (Nat.le_of_ble_eq_true rfl) (fun v m7 h => ?_)
      obtain ⟨rfl, h⟩ := h
      refine aw_eq (L' := [(0, .ref (ad 187)), (1, .int x1)]) (st' := []) (m' := m7) ?_ rfl rfl rfl
      refine aw_aload_n (j := 0) dX12_rounds_75 rfl rfl ?_
      refine aw_getfield (c := 0) (v := .int (m7.1 187 32)) dX12_rounds_76 f_X12_308 ly_187 rfl rfl ?_
      exact aw_ret (v := some (.int (m7.1 187 32))) rfl (Or.inr (Or.inl ⟨_, .int, rfl, rfl, rfl, dX12_rounds_79⟩)) h
    · have h := h.2 hc
      refine aw_iconst (v := -1) dX12_rounds_24 (by decide) ?_
      exact aw_ret (v := some (.int (-1 : Int32))) rfl (Or.inr (Or.inl ⟨_, .int, rfl, rfl, rfl, dX12_rounds_25⟩)) h
set_option maxRecDepth 100000 in
set_option maxHeartbeats 4000000 in
theorem v_X12_isAhead {ad : Nat → Nat} {d : Nat} {Q : Option Value → Wm → Prop} {m : Wm} {x1 x2 : Int32} (h : (vp_in x1 8 ∧ (vp_in x2 8 ∧ (((m.1 190 x1.toNatClampNeg) = (m.1 190 x2.toNatClampNeg) → (Ct ad μX12_power d [.ref (ad 187), .int x1] m (fun r m1 => ∃ v2 : Int32, r = some (.int v2) ∧ (Ct ad μX12_power d [.ref (ad 187), .int x2] m1 (fun r m3 => ∃ v4 : Int32, r = some (.int v4) ∧ ((v2 = v4 → ((x2 ≤ x1 → Q (some (.int (0 : Int32))) m3) ∧ (¬ x2 ≤ x1 → Q (some (.int (1 : Int32))) m3))) ∧ (¬ v2 = v4 → ((v2 ≤ v4 → Q (some (.int (0 : Int32))) m3) ∧ (¬ v2 ≤ v4 → Q (some (.int (1 : Int32))) m3))))))))) ∧ (¬ (m.1 190 x1.toNatClampNeg) = (m.1 190 x2.toNatClampNeg) → (vp_in x1 8 ∧ (vp_in x2 8 ∧ (((m.1 190 x1.toNatClampNeg) ≤ (m.1 190 x2.toNatClampNeg) → Q (some (.int (0 : Int32))) m) ∧ (¬ (m.1 190 x1.toNatClampNeg) ≤ (m.1 190 x2.toNatClampNeg) → Q (some (.int (1 : Int32))) m))))))))) : Ct ad μX12_isAhead (d + 1) [.ref (ad 187), .int x1, .int x2] m Q := by
  refine Ct.of (by decide +kernel) rfl (Nat.le_of_ble_eq_true rfl) ?_
  refine aw_eq (L' := [(0, .ref (ad 187)), (1, .int x1), (2, .int x2)]) ?_ rfl rfl rfl
  refine aw_aload_n (j := 0) dX12_isAhead_0 rfl rfl ?_
  refine aw_getfield (c := 193) (v := .ref (ad 190)) dX12_isAhead_1 f_X12_21 ly_187 rfl rfl ?_
  refine aw_iload_n (j := 1) dX12_isAhead_4 rfl rfl ?_
  obtain ⟨hi, h⟩ := h
  refine aw_iaload dX12_isAhead_5 ly_190 hi ?_
  refine aw_aload_n (j := 0) dX12_isAhead_6 rfl rfl ?_
  refine aw_getfield (c := 193) (v := .ref (ad 190)) dX12_isAhead_7 f_X12_21 ly_187 rfl rfl ?_
  refine aw_iload_n (j := 2) dX12_isAhead_10 rfl rfl ?_
  obtain ⟨hi, h⟩ := h
  refine aw_iaload dX12_isAhead_11 ly_190 hi ?_
  refine aw_icmp_eq (tgt := 36) dX12_isAhead_12 (by decide) (fun hc => ?_) (fun hc => ?_)
  · have h := h.1 hc
    refine aw_aload_n (j := 0) dX12_isAhead_36 rfl rfl ?_
    refine aw_iload_n (j := 1) dX12_isAhead_37 rfl rfl ?_
    refine aw_callV (rest := []) [.int x1] dX12_isAhead_38 ly_187 rfl k_X12_255 rfl h (Nat.le_of_ble_eq_true rfl) (fun v m1 h => ?_)
    obtain ⟨v2, rfl, h⟩ := h
    refine aw_eq (L' := [(0, .ref (ad 187)), (1, .int x1), (2, .int x2)]) (st' := [.int v2]) (m' := m1) ?_ rfl rfl rfl
    refine aw_istore_n (L' := [(3, .int v2), (0, .ref (ad 187)), (1, .int x1), (2, .int x2)]) dX12_isAhead_41 rfl (by decide) rfl ?_
    refine aw_aload_n (j := 1) dX12_isAhead_42 rfl rfl ?_
    refine aw_iload_n (j := 3) dX12_isAhead_43 rfl rfl ?_
    refine aw_callV (rest := []) [.int x2] dX12_isAhead_44 ly_187 rfl k_X12_255 rfl h (Nat.le_of_ble_eq_true rfl) (fun v m3 h => ?_)
    obtain ⟨v4, rfl, h⟩ := h
    refine aw_eq (L' := [(3, .int v2), (0, .ref (ad 187)), (1, .int x1), (2, .int x2)]) (st' := [.int v4]) (m' := m3) ?_ rfl rfl rfl
    refine aw_istore (L' := [(4, .int v4), (3, .int v2), (0, .ref (ad 187)), (1, .int x1), (2, .int x2)]) dX12_isAhead_47 (by decide) rfl ?_
    refine aw_iload_n (j := 1) dX12_isAhead_49 rfl rfl ?_
    refine aw_iload (j := 0) dX12_isAhead_50 rfl ?_
    refine aw_icmp_eq (tgt := 69) dX12_isAhead_52 (by decide) (fun hc => ?_) (fun hc => ?_)
    · have h := h.1 hc
      refine aw_iload_n (j := 3) dX12_isAhead_69 rfl rfl ?_
      refine aw_iload_n (j := 4) dX12_isAhead_70 rfl rfl ?_
      refine aw_icmp_ge (tgt := 78) dX12_isAhead_71 (by decide) (fun hc => ?_) (fun hc => ?_)
      · have h := h.1 hc
        refine aw_iconst (v := 0) dX12_isAhead_78 (by decide) ?_
        exact aw_ret (v := some (.int (0 : Int32))) rfl (Or.inr (Or.inl ⟨_, .boolean, rfl, rfl, by decide, dX12_isAhead_79⟩)) h
      · have h := h.2 hc
        refine aw_iconst (v := 1) dX12_isAhead_74 (by decide) ?_
        refine aw_goto (tgt := 79) dX12_isAhead_75 (by decide) ?_
        exact aw_ret (v := some (.int (1 : Int32))) rfl (Or.inr (Or.inl ⟨_, .boolean, rfl, rfl, by decide, dX12_isAhead_79⟩)) h
    · have h := h.2 hc
      refine aw_iload_n (j := 1) dX12_isAhead_55 rfl rfl ?_
      refine aw_iload (j := 0) dX12_isAhead_56 rfl ?_
      refine aw_icmp_le (tgt := 65) dX12_isAhead_58 (by decide) (fun hc => ?_) (fun hc => ?_)
      · have h := h.1 hc
        refine aw_iconst (v := 0) dX12_isAhead_65 (by decide) ?_
        refine aw_goto (tgt := 79) dX12_isAhead_66 (by decide) ?_
        exact aw_ret (v := some (.int (0 : Int32))) rfl (Or.inr (Or.inl ⟨_, .boolean, rfl, rfl, by decide, dX12_isAhead_79⟩)) h
      · have h := h.2 hc
        refine aw_iconst (v := 1) dX12_isAhead_61 (by decide) ?_
        refine aw_goto (tgt := 79) dX12_isAhead_62 (by decide) ?_
        exact aw_ret (v := some (.int (1 : Int32))) rfl (Or.inr (Or.inl ⟨_, .boolean, rfl, rfl, by decide, dX12_isAhead_79⟩)) h
  · have h := h.2 hc
    refine aw_aload_n (j := 0) dX12_isAhead_15 rfl rfl ?_
    refine aw_getfield (c := 193) (v := .ref (ad 190)) dX12_isAhead_16 f_X12_21 ly_187 rfl rfl ?_
    refine aw_iload_n (j := 1) dX12_isAhead_19 rfl rfl ?_
    obtain ⟨hi, h⟩ := h
    refine aw_iaload dX12_isAhead_20 ly_190 hi ?_
    refine aw_aload_n (j := 0) dX12_isAhead_21 rfl rfl ?_
    refine aw_getfield (c := 193) (v := .ref (ad 190)) dX12_isAhead_22 f_X12_21 ly_187 rfl rfl ?_
    refine aw_iload_n (j := 2) dX12_isAhead_25 rfl rfl ?_
    obtain ⟨hi, h⟩ := h
    refine aw_iaload dX12_isAhead_26 ly_190 hi ?_
    refine aw_icmp_le (tgt := 34) dX12_isAhead_27 (by decide) (fun hc => ?_) (fun hc => ?_)
    · have h := h.1 hc
      refine aw_iconst (v := 0) dX12_isAhead_34 (by decide) ?_
      exact aw_ret (v := some (.int (0 : Int32))) rfl (Or.inr (Or.inl ⟨_, .boolean, rfl, rfl, by decide, dX12_isAhead_35⟩)) h
    · have h := h.2 hc
      refine aw_iconst (v := 1) dX12_isAhead_30 (by decide) ?_
      refine aw_goto (tgt := 35) dX12_isAhead_31 (by decide) ?_
      exact aw_ret (v := some (.int (1 : Int32))) rfl (Or.inr (Or.inl ⟨_, .boolean, rfl, rfl, by decide, dX12_isAhead_35⟩)) h
set_option maxRecDepth 100000 in
set_option maxHeartbeats 4000000 in
theorem v_X12_table {ad : Nat → Nat} {d : Nat} {Q : Option Value → Wm → Prop} {m : Wm} (h : AW ad E0 μX12_table (d + 1) Q 12 [(0, .ref (ad 187)), (1, .int (0 : Int32))] [] (uI (uI m 187 17 (0 : Int32)) 187 16 (0 : Int32))) : Ct ad μX12_table (d + 1) [.ref (ad 187)] m Q := by
  refine Ct.of (by decide +kernel) rfl (Nat.le_of_ble_eq_true rfl) ?_
  refine aw_eq (L' := [(0, .ref (ad 187))]) ?_ rfl rfl rfl
  refine aw_aload_n (j := 0) dX12_table_0 rfl rfl ?_
  refine aw_iconst (v := 0) dX12_table_1 (by decide) ?_
  refine aw_putI dX12_table_2 f_X12_110 cl_X12 rfl ly_187 rfl rfl rfl ?_
  refine aw_aload_n (j := 0) dX12_table_5 rfl rfl ?_
  refine aw_iconst (v := 0) dX12_table_6 (by decide) ?_
  refine aw_putI dX12_table_7 f_X12_113 cl_X12 rfl ly_187 rfl rfl rfl ?_
  refine aw_iconst (v := 0) dX12_table_10 (by decide) ?_
  refine aw_istore_n (L' := [(1, .int (0 : Int32)), (0, .ref (ad 187))]) dX12_table_11 rfl (by decide) rfl ?_
  exact aw_sub [1, 0] rfl h
set_option maxRecDepth 100000 in
set_option maxHeartbeats 4000000 in
theorem g_X12_table_12 {ad : Nat → Nat} {d : Nat} {Q : Option Value → Wm → Prop} {m : Wm} {x1 : Int32} (h : (((m.1 187 1) ≤ x1 → Q (some (.int (m.1 187 1))) m) ∧ (¬ (m.1 187 1) ≤ x1 → AW ad E0 μX12_table (d + 1) Q 22 [(0, .ref (ad 187)), (1, .int x1), (2, .int (0 : Int32))] [] m))) : AW ad E0 μX12_table (d + 1) Q 12 [(0, .ref (ad 187)), (1, .int x1)] [] m := by
  refine aw_iload_n (j := 1) dX12_table_12 rfl rfl ?_
  refine aw_aload_n (j := 0) dX12_table_13 rfl rfl ?_
  refine aw_getfield (c := 0) (v := .int (m.1 187 1)) dX12_table_14 f_X12_116 ly_187 rfl rfl ?_
  refine aw_icmp_ge (tgt := 97) dX12_table_17 (by decide) (fun hc => ?_) (fun hc => ?_)
  · have h := h.1 hc
    refine aw_aload_n (j := 0) dX12_table_97 rfl rfl ?_
    refine aw_getfield (c := 0) (v := .int (m.1 187 1)) dX12_table_98 f_X12_116 ly_187 rfl rfl ?_
    exact aw_ret (v := some (.int (m.1 187 1))) rfl (Or.inr (Or.inl ⟨_, .int, rfl, rfl, rfl, dX12_table_101⟩)) h
  · have h := h.2 hc
    refine aw_iconst (v := 0) dX12_table_20 (by decide) ?_
    refine aw_istore_n (L' := [(2, .int (0 : Int32)), (0, .ref (ad 187)), (1, .int x1)]) dX12_table_21 rfl (by decide) rfl ?_
    exact aw_sub [1, 2, 0] rfl h
set_option maxRecDepth 100000 in
set_option maxHeartbeats 4000000 in
theorem g_X12_table_22 {ad : Nat → Nat} {d : Nat} {Q : Option Value → Wm → Prop} {m : Wm} {x1 x2 : Int32} (h : (((m.1 187 1) ≤ x2 → AW ad E0 μX12_table (d + 1) Q 12 [(0, .ref (ad 187)), (1, .int (x1 + (1 : Int32)))] [] m) ∧ (¬ (m.1 187 1) ≤ x2 → AW ad E0 μX12_table (d + 1) Q 35 [(0, .ref (ad 187)), (1, .int x1), (2, .int x2), (3, .int (0 : Int32)), (4, .int (0 : Int32))] [] m))) : AW ad E0 μX12_table (d + 1) Q 22 [(0, .ref (ad 187)), (1, .int x1), (2, .int x2)] [] m := by
  refine aw_iload_n (j := 2) dX12_table_22 rfl rfl ?_
  refine aw_aload_n (j := 0) dX12_table_23 rfl rfl ?_
  refine aw_getfield (c := 0) (v := .int (m.1 187 1)) dX12_table_24 f_X12_116 ly_187 rfl rfl ?_
  refine aw_icmp_ge (tgt := 91) dX12_table_27 (by decide) (fun hc => ?_) (fun hc => ?_)
  · have h := h.1 hc
    refine aw_iinc (j := 1) (v := x1 + (1 : Int32)) (L' := [(1, .int (x1 + (1 : Int32))), (0, .ref (ad 187)), (2, .int x2)]) dX12_table_91 rfl rfl (by decide) rfl ?_
    refine aw_goto (tgt := 12) dX12_table_94 (by decide) ?_
    exact aw_sub [1, 0] rfl h
  · have h := h.2 hc
    refine aw_iconst (v := 0) dX12_table_30 (by decide) ?_
    refine aw_istore_n (L' := [(3, .int (0 : Int32)), (0, .ref (ad 187)), (1, .int x1), (2, .int x2)]) dX12_table_31 rfl (by decide) rfl ?_
    refine aw_iconst (v := 0) dX12_table_32 (by decide) ?_
    refine aw_istore (L' := [(4, .int (0 : Int32)), (3, .int (0 : Int32)), (0, .ref (ad 187)), (1, .int x1), (2, .int x2)]) dX12_table_33 (by decide) rfl ?_
    exact aw_sub [2, 3, 4, 1, 0] rfl h
set_option maxRecDepth 100000 in
set_option maxHeartbeats 4000000 in
theorem g_X12_table_35 {ad : Nat → Nat} {d : Nat} {Q : Option Value → Wm → Prop} {m : Wm} {x1 x2 x3 x4 : Int32} (h : (((m.1 187 1) ≤ x4 → ((¬ x3 = x1 → AW ad E0 μX12_table (d + 1) Q 22 [(0, .ref (ad 187)), (1, .int x1), (2, .int (x2 + (1 : Int32)))] [] m) ∧ (x3 = x1 → (Ct ad μX12_tell d [.ref (ad 187), .long x2.toInt64] m (fun r m1 => r = none ∧ AW ad E0 μX12_table (d + 1) Q 22 [(0, .ref (ad 187)), (1, .int x1), (2, .int (x2 + (1 : Int32)))] [] m1))))) ∧ (¬ (m.1 187 1) ≤ x4 → ((x4 = x2 → AW ad E0 μX12_table (d + 1) Q 35 [(0, .ref (ad 187)), (1, .int x1), (2, .int x2), (3, .int (x3 + (0 : Int32))), (4, .int (x4 + (1 : Int32)))] [] m) ∧ (¬ x4 = x2 → (Ct ad μX12_isAhead d [.ref (ad 187), .int x4, .int x2] m (fun r m2 => ∃ v3 : Int32, r = some (.int v3) ∧ ((v3 = 0 → AW ad E0 μX12_table (d + 1) Q 35 [(0, .ref (ad 187)), (1, .int x1), (2, .int x2), (3, .int (x3 + (0 : Int32))), (4, .int (x4 + (1 : Int32)))] [] m2) ∧ (¬ v3 = 0 → AW ad E0 μX12_table (d + 1) Q 35 [(0, .ref (ad 187)), (1, .int x1), (2, .int x2), (3, .int (x3 + (1 : Int32))), (4, .int (x4 + (1 : Int32)))] [] m2))))))))) : AW ad E0 μX12_table (d + 1) Q 35 [(0, .ref (ad 187)), (1, .int x1), (2, .int x2), (3, .int x3), (4, .int x4)] [] m := by
  refine aw_iload (j := 4) dX12_table_35 rfl ?_
  refine aw_aload_n (j := 0) dX12_table_37 rfl rfl ?_
  refine aw_getfield (c := 0) (v := .int (m.1 187 1)) dX12_table_38 f_X12_116 ly_187 rfl rfl ?_
  refine aw_icmp_ge (tgt := 74) dX12_table_41 (by decide) (fun hc => ?_) (fun hc => ?_)
  · have h := h.1 hc
    refine aw_iload_n (j := 3) dX12_table_74 rfl rfl ?_
    refine aw_iload_n (j := 1) dX12_table_75 rfl rfl ?_
    refine aw_icmp_ne (tgt := 85) dX12_table_76 (by decide) (fun hc => ?_) (fun hc => ?_)
    · have h := h.1 hc
      refine aw_iinc (j := 2) (v := x2 + (1 : Int32)) (L' := [(2, .int (x2 + (1 : Int32))), (0, .ref (ad 187)), (1, .int x1), (3, .int x3), (4, .int x4)]) dX12_table_85 rfl rfl (by decide) rfl ?_
      refine aw_goto (tgt := 22) dX12_table_88 (by decide) ?_
      exact aw_sub [1, 2, 0] rfl h
    · have h := h.2 hc
      refine aw_aload_n (j := 0) dX12_table_79 rfl rfl ?_
      refine aw_iload_n (j := 2) dX12_table_80 rfl rfl ?_
      refine aw_i2l dX12_table_81 ?_
      refine aw_callV (rest := []) [.long x2.toInt64] dX12_table_82 ly_187 rfl k_X12_131 rfl h (Nat.le_of_ble_eq_true rfl) (fun v m1 h => ?_)
      obtain ⟨rfl, h⟩ := h
      refine aw_eq (L' := [(0, .ref (ad 187)), (1, .int x1), (2, .int x2), (3, .int x3), (4, .int x4)]) (st' := []) (m' := m1) ?_ rfl rfl rfl
      refine aw_iinc (j := 2) (v := x2 + (1 : Int32)) (L' := [(2, .int (x2 + (1 : Int32))), (0, .ref (ad 187)), (1, .int x1), (3, .int x3), (4, .int x4)]) dX12_table_85 rfl rfl (by decide) rfl ?_
      refine aw_goto (tgt := 22) dX12_table_88 (by decide) ?_
      exact aw_sub [1, 2, 0] rfl h
  · have h := h.2 hc
    refine aw_iload_n (j := 3) dX12_table_44 rfl rfl ?_
    refine aw_iload (j := 4) dX12_table_45 rfl ?_
    refine aw_iload_n (j := 2) dX12_table_47 rfl rfl ?_
    refine aw_icmp_eq (tgt := 65) dX12_table_48 (by decide) (fun hc => ?_) (fun hc => ?_)
    · have h := h.1 hc
      refine aw_iconst (v := 0) dX12_table_65 (by decide) ?_
      refine aw_iadd dX12_table_66 ?_
      refine aw_istore_n (L' := [(3, .int (x3 + (0 : Int32))), (0, .ref (ad 187)), (1, .int x1), (2, .int x2), (4, .int x4)]) dX12_table_67 rfl (by decide) rfl ?_
      refine aw_iinc (j := 4) (v := x4 + (1 : Int32)) (L' := [(4, .int (x4 + (1 : Int32))), (3, .int (x3 + (0 : Int32))), (0, .ref (ad 187)), (1, .int x1), (2, .int x2)]) dX12_table_68 rfl rfl (by decide) rfl ?_
      refine aw_goto (tgt := 35) dX12_table_71 (by decide) ?_
      exact aw_sub [2, 3, 4, 1, 0] rfl h
    · have h := h.2 hc
      refine aw_aload_n (j := 0) dX12_table_51 rfl rfl ?_
      refine aw_iload (j := 4) dX12_table_52 rfl ?_
      refine aw_iload_n (j := 2) dX12_table_54 rfl rfl ?_
      refine aw_callV (rest := [.int x3]) [.int x4, .int x2] dX12_table_55 ly_187 rfl k_X12_320 rfl h (Nat.le_of_ble_eq_true rfl) (fun v m2 h => ?_)
      obtain ⟨v3, rfl, h⟩ := h
      refine aw_eq (L' := [(0, .ref (ad 187)), (1, .int x1), (2, .int x2), (3, .int x3), (4, .int x4)]) (st' := [.int v3, .int x3]) (m' := m2) ?_ rfl rfl rfl
      refine aw_if_eq (tgt := 65) dX12_table_58 (by decide) (fun hc => ?_) (fun hc => ?_)
      · have h := h.1 hc
        refine aw_iconst (v := 0) dX12_table_65 (by decide) ?_
        refine aw_iadd dX12_table_66 ?_
        refine aw_istore_n (L' := [(3, .int (x3 + (0 : Int32))), (0, .ref (ad 187)), (1, .int x1), (2, .int x2), (4, .int x4)]) dX12_table_67 rfl (by decide) rfl ?_
        refine aw_iinc (j := 4) (v := x4 + (1 : Int32)) (L' := [(4, .int (x4 + (1 : Int32))), (3, .int (x3 + (0 : Int32))), (0, .ref (ad 187)), (1, .int x1), (2, .int x2)]) dX12_table_68 rfl rfl (by decide) rfl ?_
        refine aw_goto (tgt := 35) dX12_table_71 (by decide) ?_
        exact aw_sub [2, 3, 4, 1, 0] rfl h
      · have h := h.2 hc
        refine aw_iconst (v := 1) dX12_table_61 (by decide) ?_
        refine aw_goto (tgt := 66) dX12_table_62 (by decide) ?_
        refine aw_iadd dX12_table_66 ?_
        refine aw_istore_n (L' := [(3, .int (x3 + (1 : Int32))), (0, .ref (ad 187)), (1, .int x1), (2, .int x2), (4, .int x4)]) dX12_table_67 rfl (by decide) rfl ?_
        refine aw_iinc (j := 4) (v := x4 + (1 : Int32)) (L' := [(4, .int (x4 + (1 : Int32))), (3, .int (x3 + (1 : Int32))), (0, .ref (ad 187)), (1, .int x1), (2, .int x2)]) dX12_table_68 rfl rfl (by decide) rfl ?_
        refine aw_goto (tgt := 35) dX12_table_71 (by decide) ?_
        exact aw_sub [2, 3, 4, 1, 0] rfl h
set_option maxRecDepth 100000 in
set_option maxHeartbeats 4000000 in
theorem v_X12_spreadNow {ad : Nat → Nat} {d : Nat} {Q : Option Value → Wm → Prop} {m : Wm} (h : ((¬ ((uI (uI m 187 34 (0 : Int32)) 187 35 (0 : Int32)).1 187 1) = 0 → (Ct ad μX12_power d [.ref (ad 187), .int (0 : Int32)] (uI (uI m 187 34 (0 : Int32)) 187 35 (0 : Int32)) (fun r m1 => ∃ v2 : Int32, r = some (.int v2) ∧ AW ad E0 μX12_spreadNow (d + 1) Q 29 [(0, .ref (ad 187)), (1, .int v2), (2, .int v2), (3, .int (1 : Int32))] [] m1))) ∧ (((uI (uI m 187 34 (0 : Int32)) 187 35 (0 : Int32)).1 187 1) = 0 → Q (some (.int (0 : Int32))) (uI (uI m 187 34 (0 : Int32)) 187 35 (0 : Int32))))) : Ct ad μX12_spreadNow (d + 1) [.ref (ad 187)] m Q := by
  refine Ct.of (by decide +kernel) rfl (Nat.le_of_ble_eq_true rfl) ?_
  refine aw_eq (L' := [(0, .ref (ad 187))]) ?_ rfl rfl rfl
  refine aw_aload_n (j := 0) dX12_spreadNow_0 rfl rfl ?_
  refine aw_iconst (v := 0) dX12_spreadNow_1 (by decide) ?_
  refine aw_putI dX12_spreadNow_2 f_X12_323 cl_X12 rfl ly_187 rfl rfl rfl ?_
  refine aw_aload_n (j := 0) dX12_spreadNow_5 rfl rfl ?_
  refine aw_iconst (v := 0) dX12_spreadNow_6 (by decide) ?_
  refine aw_putI dX12_spreadNow_7 f_X12_326 cl_X12 rfl ly_187 rfl rfl rfl ?_
  refine aw_aload_n (j := 0) dX12_spreadNow_10 rfl rfl ?_
  refine aw_getfield (c := 0) (v := .int ((uI (uI m 187 34 (0 : Int32)) 187 35 (0 : Int32)).1 187 1)) dX12_spreadNow_11 f_X12_116 ly_187 rfl rfl ?_
  refine aw_if_ne (tgt := 19) dX12_spreadNow_14 (by decide) (fun hc => ?_) (fun hc => ?_)
  · have h := h.1 hc
    refine aw_aload_n (j := 0) dX12_spreadNow_19 rfl rfl ?_
    refine aw_iconst (v := 0) dX12_spreadNow_20 (by decide) ?_
    refine aw_callV (rest := []) [.int (0 : Int32)] dX12_spreadNow_21 ly_187 rfl k_X12_255 rfl h (Nat.le_of_ble_eq_true rfl) (fun v m1 h => ?_)
    obtain ⟨v2, rfl, h⟩ := h
    refine aw_eq (L' := [(0, .ref (ad 187))]) (st' := [.int v2]) (m' := m1) ?_ rfl rfl rfl
    refine aw_istore_n (L' := [(1, .int v2), (0, .ref (ad 187))]) dX12_spreadNow_24 rfl (by decide) rfl ?_
    refine aw_iload_n (j := 0) dX12_spreadNow_25 rfl rfl ?_
    refine aw_istore_n (L' := [(2, .int v2), (1, .int v2), (0, .ref (ad 187))]) dX12_spreadNow_26 rfl (by decide) rfl ?_
    refine aw_iconst (v := 1) dX12_spreadNow_27 (by decide) ?_
    refine aw_istore_n (L' := [(3, .int (1 : Int32)), (2, .int v2), (1, .int v2), (0, .ref (ad 187))]) dX12_spreadNow_28 rfl (by decide) rfl ?_
    exact aw_sub [3, 2, 1, 0] rfl h
  · have h := h.2 hc
    refine aw_iconst (v := 0) dX12_spreadNow_17 (by decide) ?_
    exact aw_ret (v := some (.int (0 : Int32))) rfl (Or.inr (Or.inl ⟨_, .int, rfl, rfl, rfl, dX12_spreadNow_18⟩)) h
set_option maxRecDepth 100000 in
set_option maxHeartbeats 4000000 in
theorem g_X12_spreadNow_29 {ad : Nat → Nat} {d : Nat} {Q : Option Value → Wm → Prop} {m : Wm} {x1 x2 x3 : Int32} (h : (((m.1 187 1) ≤ x3 → Q (some (.int (x1 - x2))) m) ∧ (¬ (m.1 187 1) ≤ x3 → (Ct ad μX12_power d [.ref (ad 187), .int x3] m (fun r m1 => ∃ v2 : Int32, r = some (.int v2) ∧ ((v2 ≤ x1 → AW ad E0 μX12_spreadNow (d + 1) Q 58 [(0, .ref (ad 187)), (1, .int x1), (2, .int x2), (3, .int x3), (4, .int v2)] [] m1) ∧ (¬ v2 ≤ x1 → AW ad E0 μX12_spreadNow (d + 1) Q 58 [(0, .ref (ad 187)), (1, .int v2), (2, .int x2), (3, .int x3), (4, .int v2)] [] (uI m1 187 34 x3)))))))) : AW ad E0 μX12_spreadNow (d + 1) Q 29 [(0, .ref (ad 187)), (1, .int x1), (2, .int x2), (3, .int x3)] [] m := by
  refine aw_iload_n (j := 3) dX12_spreadNow_29 rfl rfl ?_
  refine aw_aload_n (j := 0) dX12_spreadNow_30 rfl rfl ?_
  refine aw_getfield (c := 0) (v := .int (m.1 187 1)) dX12_spreadNow_31 f_X12_116 ly_187 rfl rfl ?_
  refine aw_icmp_ge (tgt := 78) dX12_spreadNow_34 (by decide) (fun hc => ?_) (fun hc => ?_)
  · have h := h.1 hc
    refine aw_iload_n (j := 1) dX12_spreadNow_78 rfl rfl ?_
    refine aw_iload_n (j := 2) dX12_spreadNow_79 rfl rfl ?_
    refine aw_isub dX12_spreadNow_80 ?_
    exact aw_ret (v := some (.int (x1 - x2))) rfl (Or.inr (Or.inl ⟨_, .int, rfl, rfl, rfl, dX12_spreadNow_81⟩)) h
  · have h := h.2 hc
    refine aw_aload_n (j := 0) dX12_spreadNow_37 rfl rfl ?_
    refine aw_iload_n (j := 3) dX12_spreadNow_38 rfl rfl ?_
    refine aw_callV (rest := []) [.int x3] dX12_spreadNow_39 ly_187 rfl k_X12_255 rfl h (Nat.le_of_ble_eq_true rfl) (fun v m1 h => ?_)
    obtain ⟨v2, rfl, h⟩ := h
    refine aw_eq (L' := [(0, .ref (ad 187)), (1, .int x1), (2, .int x2), (3, .int x3)]) (st' := [.int v2]) (m' := m1) ?_ rfl rfl rfl
    refine aw_istore (L' := [(4, .int v2), (0, .ref (ad 187)), (1, .int x1), (2, .int x2), (3, .int x3)]) dX12_spreadNow_42 (by decide) rfl ?_
    refine aw_iload (j := 0) dX12_spreadNow_44 rfl ?_
    refine aw_iload_n (j := 2) dX12_spreadNow_46 rfl rfl ?_
    refine aw_icmp_le (tgt := 58) dX12_spreadNow_47 (by decide) (fun hc => ?_) (fun hc => ?_)
    · have h := h.1 hc
      exact aw_sub [1, 2, 3, 4, 0] rfl h
    · have h := h.2 hc
      refine aw_iload (j := 0) dX12_spreadNow_50 rfl ?_
      refine aw_istore_n (L' := [(1, .int v2), (4, .int v2), (0, .ref (ad 187)), (2, .int x2), (3, .int x3)]) dX12_spreadNow_52 rfl (by decide) rfl ?_
      refine aw_aload_n (j := 2) dX12_spreadNow_53 rfl rfl ?_
      refine aw_iload_n (j := 4) dX12_spreadNow_54 rfl rfl ?_
      refine aw_putI dX12_spreadNow_55 f_X12_323 cl_X12 rfl ly_187 rfl rfl rfl ?_
      exact aw_sub [2, 0, 3, 4, 1] rfl h
set_option maxRecDepth 100000 in
set_option maxHeartbeats 4000000 in
theorem g_X12_spreadNow_58 {ad : Nat → Nat} {d : Nat} {Q : Option Value → Wm → Prop} {m : Wm} {x1 x2 x3 x4 : Int32} (h : ((x2 ≤ x4 → AW ad E0 μX12_spreadNow (d + 1) Q 29 [(0, .ref (ad 187)), (1, .int x1), (2, .int x2), (3, .int (x3 + (1 : Int32)))] [] m) ∧ (¬ x2 ≤ x4 → AW ad E0 μX12_spreadNow (d + 1) Q 29 [(0, .ref (ad 187)), (1, .int x1), (2, .int x4), (3, .int (x3 + (1 : Int32)))] [] (uI m 187 35 x3)))) : AW ad E0 μX12_spreadNow (d + 1) Q 58 [(0, .ref (ad 187)), (1, .int x1), (2, .int x2), (3, .int x3), (4, .int x4)] [] m := by
  refine aw_iload (j := 4) dX12_spreadNow_58 rfl ?_
  refine aw_iload_n (j := 2) dX12_spreadNow_60 rfl rfl ?_
  refine aw_icmp_ge (tgt := 72) dX12_spreadNow_61 (by decide) (fun hc => ?_) (fun hc => ?_)
  · have h := h.1 hc
    refine aw_iinc (j := 3) (v := x3 + (1 : Int32)) (L' := [(3, .int (x3 + (1 : Int32))), (0, .ref (ad 187)), (1, .int x1), (2, .int x2), (4, .int x4)]) dX12_spreadNow_72 rfl rfl (by decide) rfl ?_
    refine aw_goto (tgt := 29) dX12_spreadNow_75 (by decide) ?_
    exact aw_sub [1, 2, 3, 0] rfl h
  · have h := h.2 hc
    refine aw_iload (j := 4) dX12_spreadNow_64 rfl ?_
    refine aw_istore_n (L' := [(2, .int x4), (0, .ref (ad 187)), (1, .int x1), (3, .int x3), (4, .int x4)]) dX12_spreadNow_66 rfl (by decide) rfl ?_
    refine aw_aload_n (j := 1) dX12_spreadNow_67 rfl rfl ?_
    refine aw_iload_n (j := 3) dX12_spreadNow_68 rfl rfl ?_
    refine aw_putI dX12_spreadNow_69 f_X12_326 cl_X12 rfl ly_187 rfl rfl rfl ?_
    refine aw_iinc (j := 3) (v := x3 + (1 : Int32)) (L' := [(3, .int (x3 + (1 : Int32))), (2, .int x4), (0, .ref (ad 187)), (1, .int x1), (4, .int x4)]) dX12_spreadNow_72 rfl rfl (by decide) rfl ?_
    refine aw_goto (tgt := 29) dX12_spreadNow_75 (by decide) ?_
    exact aw_sub [2, 3, 1, 0] rfl h
set_option maxRecDepth 100000 in
set_option maxHeartbeats 4000000 in
theorem v_X12_spread {ad : Nat → Nat} {d : Nat} {Q : Option Value → Wm → Prop} {m : Wm} (h : (Ct ad μX12_spreadNow d [.ref (ad 187)] (uI m 187 17 (0 : Int32)) (fun r m1 => ∃ v2 : Int32, r = some (.int v2) ∧ ((((uI m1 187 16 (0 : Int32)).1 187 1) ≤ 0 → Q (some (.int v2)) (uI m1 187 16 (0 : Int32))) ∧ (¬ ((uI m1 187 16 (0 : Int32)).1 187 1) ≤ 0 → (Ct ad μX12_tell d [.ref (ad 187), .long (((uI m1 187 16 (0 : Int32)).1 187 34).toInt64)] (uI m1 187 16 (0 : Int32)) (fun r m3 => r = none ∧ (Ct ad μX12_tell d [.ref (ad 187), .long ((m3.1 187 35).toInt64)] m3 (fun r m4 => r = none ∧ Q (some (.int v2)) m4))))))))) : Ct ad μX12_spread (d + 1) [.ref (ad 187)] m Q := by
  refine Ct.of (by decide +kernel) rfl (Nat.le_of_ble_eq_true rfl) ?_
  refine aw_eq (L' := [(0, .ref (ad 187))]) ?_ rfl rfl rfl
  refine aw_aload_n (j := 0) dX12_spread_0 rfl rfl ?_
  refine aw_iconst (v := 0) dX12_spread_1 (by decide) ?_
  refine aw_putI dX12_spread_2 f_X12_110 cl_X12 rfl ly_187 rfl rfl rfl ?_
  refine aw_aload_n (j := 0) dX12_spread_5 rfl rfl ?_
  refine aw_callV (rest := []) [] dX12_spread_6 ly_187 rfl k_X12_329 rfl h (Nat.le_of_ble_eq_true rfl) (fun v m1 h => ?_)
  obtain ⟨v2, rfl, h⟩ := h
  refine aw_eq (L' := [(0, .ref (ad 187))]) (st' := [.int v2]) (m' := m1) ?_ rfl rfl rfl
  refine aw_istore_n (L' := [(1, .int v2), (0, .ref (ad 187))]) dX12_spread_9 rfl (by decide) rfl ?_
  refine aw_aload_n (j := 1) dX12_spread_10 rfl rfl ?_
  refine aw_iconst (v := 0) dX12_spread_11 (by decide) ?_
  refine aw_putI dX12_spread_12 f_X12_113 cl_X12 rfl ly_187 rfl rfl rfl ?_
  refine aw_aload_n (j := 1) dX12_spread_15 rfl rfl ?_
  refine aw_getfield (c := 0) (v := .int ((uI m1 187 16 (0 : Int32)).1 187 1)) dX12_spread_16 f_X12_116 ly_187 rfl rfl ?_
  refine aw_if_le (tgt := 40) dX12_spread_19 (by decide) (fun hc => ?_) (fun hc => ?_)
  · have h := h.1 hc
    refine aw_iload_n (j := 0) dX12_spread_40 rfl rfl ?_
    exact aw_ret (v := some (.int v2)) rfl (Or.inr (Or.inl ⟨_, .int, rfl, rfl, rfl, dX12_spread_41⟩)) h
  · have h := h.2 hc
    refine aw_aload_n (j := 1) dX12_spread_22 rfl rfl ?_
    refine aw_aload_n (j := 1) dX12_spread_23 rfl rfl ?_
    refine aw_getfield (c := 0) (v := .int ((uI m1 187 16 (0 : Int32)).1 187 34)) dX12_spread_24 f_X12_323 ly_187 rfl rfl ?_
    refine aw_i2l dX12_spread_27 ?_
    refine aw_callV (rest := []) [.long (((uI m1 187 16 (0 : Int32)).1 187 34).toInt64)] dX12_spread_28 ly_187 rfl k_X12_131 rfl h (Nat.le_of_ble_eq_true rfl) (fun v m3 h => ?_)
    obtain ⟨rfl, h⟩ := h
    refine aw_eq (L' := [(1, .int v2), (0, .ref (ad 187))]) (st' := []) (m' := m3) ?_ rfl rfl rfl
    refine aw_aload_n (j := 1) dX12_spread_31 rfl rfl ?_
    refine aw_aload_n (j := 1) dX12_spread_32 rfl rfl ?_
    refine aw_getfield (c := 0) (v := .int (m3.1 187 35)) dX12_spread_33 f_X12_326 ly_187 rfl rfl ?_
    refine aw_i2l dX12_spread_36 ?_
    refine aw_callV (rest := []) [.long ((m3.1 187 35).toInt64)] dX12_spread_37 ly_187 rfl k_X12_131 rfl h (Nat.le_of_ble_eq_true rfl) (fun v m4 h => ?_)
    obtain ⟨rfl, h⟩ := h
    refine aw_eq (L' := [(1, .int v2), (0, .ref (ad 187))]) (st' := []) (m' := m4) ?_ rfl rfl rfl
    refine aw_iload_n (j := 0) dX12_spread_40 rfl rfl ?_
    exact aw_ret (v := some (.int v2)) rfl (Or.inr (Or.inl ⟨_, .int, rfl, rfl, rfl, dX12_spread_41⟩)) h
set_option maxRecDepth 100000 in
set_option maxHeartbeats 4000000 in
theorem v_X12_swap {ad : Nat → Nat} {d : Nat} {Q : Option Value → Wm → Prop} {m : Wm} {x1 x2 : Int32} (h : (Ct ad μX12_areTwo d [.ref (ad 187), .int x1, .int x2] (uI m 187 17 (0 : Int32)) (fun r m1 => ∃ v2 : Int32, r = some (.int v2) ∧ ((¬ v2 = 0 → AW ad E0 μX12_swap (d + 1) Q 18 [(0, .ref (ad 187)), (1, .int x1), (2, .int x2), (3, .int (0 : Int32))] [] m1) ∧ (v2 = 0 → Q (some (.int (0 : Int32))) m1))))) : Ct ad μX12_swap (d + 1) [.ref (ad 187), .int x1, .int x2] m Q := by
  refine Ct.of (by decide +kernel) rfl (Nat.le_of_ble_eq_true rfl) ?_
  refine aw_eq (L' := [(0, .ref (ad 187)), (1, .int x1), (2, .int x2)]) ?_ rfl rfl rfl
  refine aw_aload_n (j := 0) dX12_swap_0 rfl rfl ?_
  refine aw_iconst (v := 0) dX12_swap_1 (by decide) ?_
  refine aw_putI dX12_swap_2 f_X12_110 cl_X12 rfl ly_187 rfl rfl rfl ?_
  refine aw_aload_n (j := 0) dX12_swap_5 rfl rfl ?_
  refine aw_iload_n (j := 1) dX12_swap_6 rfl rfl ?_
  refine aw_iload_n (j := 2) dX12_swap_7 rfl rfl ?_
  refine aw_callV (rest := []) [.int x1, .int x2] dX12_swap_8 ly_187 rfl k_X12_267 rfl h (Nat.le_of_ble_eq_true rfl) (fun v m1 h => ?_)
  obtain ⟨v2, rfl, h⟩ := h
  refine aw_eq (L' := [(0, .ref (ad 187)), (1, .int x1), (2, .int x2)]) (st' := [.int v2]) (m' := m1) ?_ rfl rfl rfl
  refine aw_if_ne (tgt := 16) dX12_swap_11 (by decide) (fun hc => ?_) (fun hc => ?_)
  · have h := h.1 hc
    refine aw_iconst (v := 0) dX12_swap_16 (by decide) ?_
    refine aw_istore_n (L' := [(3, .int (0 : Int32)), (0, .ref (ad 187)), (1, .int x1), (2, .int x2)]) dX12_swap_17 rfl (by decide) rfl ?_
    exact aw_sub [1, 2, 3, 0] rfl h
  · have h := h.2 hc
    refine aw_iconst (v := 0) dX12_swap_14 (by decide) ?_
    exact aw_ret (v := some (.int (0 : Int32))) rfl (Or.inr (Or.inl ⟨_, .boolean, rfl, rfl, by decide, dX12_swap_15⟩)) h
set_option maxRecDepth 100000 in
set_option maxHeartbeats 4000000 in
theorem g_X12_swap_18 {ad : Nat → Nat} {d : Nat} {Q : Option Value → Wm → Prop} {m : Wm} {x1 x2 x3 : Int32} (h : (((4 : Int32) ≤ x3 → Q (some (.int (1 : Int32))) (uI m 187 30 (0 : Int32))) ∧ (¬ (4 : Int32) ≤ x3 → (vp_in (((4 : Int32) * x1) + x3) 32 ∧ (vp_in (((4 : Int32) * x2) + x3) 32 ∧ (vp_in (((4 : Int32) * x1) + x3) 32 ∧ (vp_in (((4 : Int32) * x2) + x3) 32 ∧ AW ad E0 μX12_swap (d + 1) Q 18 [(0, .ref (ad 187)), (1, .int x1), (2, .int x2), (3, .int (x3 + (1 : Int32)))] [] (uI (uI m 188 (((4 : Int32) * x1) + x3).toNatClampNeg (m.1 188 (((4 : Int32) * x2) + x3).toNatClampNeg)) 188 (((4 : Int32) * x2) + x3).toNatClampNeg (m.1 188 (((4 : Int32) * x1) + x3).toNatClampNeg))))))))) : AW ad E0 μX12_swap (d + 1) Q 18 [(0, .ref (ad 187)), (1, .int x1), (2, .int x2), (3, .int x3)] [] m := by
  refine aw_iload_n (j := 3) dX12_swap_18 rfl rfl ?_
  refine aw_iconst (v := 4) dX12_swap_19 (by decide) ?_
  refine aw_icmp_ge (tgt := 73) dX12_swap_20 (by decide) (fun hc => ?_) (fun hc => ?_)
  · have h := h.1 hc
    refine aw_aload_n (j := 0) dX12_swap_73 rfl rfl ?_
    refine aw_iconst (v := 0) dX12_swap_74 (by decide) ?_
    refine aw_putI dX12_swap_75 f_X12_196 cl_X12 rfl ly_187 rfl rfl rfl ?_
    refine aw_iconst (v := 1) dX12_swap_78 (by decide) ?_
    exact aw_ret (v := some (.int (1 : Int32))) rfl (Or.inr (Or.inl ⟨_, .boolean, rfl, rfl, by decide, dX12_swap_79⟩)) h
  · have h := h.2 hc
    refine aw_aload_n (j := 0) dX12_swap_23 rfl rfl ?_
    refine aw_getfield (c := 191) (v := .ref (ad 188)) dX12_swap_24 f_X12_13 ly_187 rfl rfl ?_
    refine aw_iconst (v := 4) dX12_swap_27 (by decide) ?_
    refine aw_iload_n (j := 1) dX12_swap_28 rfl rfl ?_
    refine aw_imul dX12_swap_29 ?_
    refine aw_iload_n (j := 3) dX12_swap_30 rfl rfl ?_
    refine aw_iadd dX12_swap_31 ?_
    obtain ⟨hi, h⟩ := h
    refine aw_iaload dX12_swap_32 ly_188 hi ?_
    refine aw_istore (L' := [(4, .int (m.1 188 (((4 : Int32) * x1) + x3).toNatClampNeg)), (0, .ref (ad 187)), (1, .int x1), (2, .int x2), (3, .int x3)]) dX12_swap_33 (by decide) rfl ?_
    refine aw_aload_n (j := 1) dX12_swap_35 rfl rfl ?_
    refine aw_getfield (c := 191) (v := .ref (ad 188)) dX12_swap_36 f_X12_13 ly_187 rfl rfl ?_
    refine aw_iconst (v := 4) dX12_swap_39 (by decide) ?_
    refine aw_iload_n (j := 2) dX12_swap_40 rfl rfl ?_
    refine aw_imul dX12_swap_41 ?_
    refine aw_iload_n (j := 4) dX12_swap_42 rfl rfl ?_
    refine aw_iadd dX12_swap_43 ?_
    refine aw_aload_n (j := 1) dX12_swap_44 rfl rfl ?_
    refine aw_getfield (c := 191) (v := .ref (ad 188)) dX12_swap_45 f_X12_13 ly_187 rfl rfl ?_
    refine aw_iconst (v := 4) dX12_swap_48 (by decide) ?_
    refine aw_iload_n (j := 3) dX12_swap_49 rfl rfl ?_
    refine aw_imul dX12_swap_50 ?_
    refine aw_iload_n (j := 4) dX12_swap_51 rfl rfl ?_
    refine aw_iadd dX12_swap_52 ?_
    obtain ⟨hi, h⟩ := h
    refine aw_iaload dX12_swap_53 ly_188 hi ?_
    obtain ⟨hi, h⟩ := h
    refine aw_iastore dX12_swap_54 ly_188 hi ?_
    refine aw_aload_n (j := 1) dX12_swap_55 rfl rfl ?_
    refine aw_getfield (c := 191) (v := .ref (ad 188)) dX12_swap_56 f_X12_13 ly_187 rfl rfl ?_
    refine aw_iconst (v := 4) dX12_swap_59 (by decide) ?_
    refine aw_iload_n (j := 3) dX12_swap_60 rfl rfl ?_
    refine aw_imul dX12_swap_61 ?_
    refine aw_iload_n (j := 4) dX12_swap_62 rfl rfl ?_
    refine aw_iadd dX12_swap_63 ?_
    refine aw_iload (j := 0) dX12_swap_64 rfl ?_
    obtain ⟨hi, h⟩ := h
    refine aw_iastore dX12_swap_66 ly_188 hi ?_
    refine aw_iinc (j := 4) (v := x3 + (1 : Int32)) (L' := [(3, .int (x3 + (1 : Int32))), (4, .int (m.1 188 (((4 : Int32) * x1) + x3).toNatClampNeg)), (0, .ref (ad 187)), (1, .int x1), (2, .int x2)]) dX12_swap_67 rfl rfl (by decide) rfl ?_
    refine aw_goto (tgt := 18) dX12_swap_70 (by decide) ?_
    exact aw_sub [2, 3, 4, 0] rfl h
set_option maxRecDepth 100000 in
set_option maxHeartbeats 4000000 in
theorem v_X12_circle {ad : Nat → Nat} {d : Nat} {Q : Option Value → Wm → Prop} {m : Wm} (h : (((2 : Int32) ≤ ((uI m 187 17 (0 : Int32)).1 187 1) → AW ad E0 μX12_circle (d + 1) Q 29 [(0, .ref (ad 187)), (1, .int (((uI m 187 17 (0 : Int32)).1 187 1) + (((uI m 187 17 (0 : Int32)).1 187 1) - ((uI m 187 17 (0 : Int32)).1 187 1) / (2 : Int32) * (2 : Int32)))), (2, .int (0 : Int32))] [] (uI m 187 17 (0 : Int32))) ∧ (¬ (2 : Int32) ≤ ((uI m 187 17 (0 : Int32)).1 187 1) → Q (some (.int (-1 : Int32))) (uI m 187 17 (0 : Int32))))) : Ct ad μX12_circle (d + 1) [.ref (ad 187)] m Q := by
  refine Ct.of (by decide +kernel) rfl (Nat.le_of_ble_eq_true rfl) ?_
  refine aw_eq (L' := [(0, .ref (ad 187))]) ?_ rfl rfl rfl
  refine aw_aload_n (j := 0) dX12_circle_0 rfl rfl ?_
  refine aw_iconst (v := 0) dX12_circle_1 (by decide) ?_
  refine aw_putI dX12_circle_2 f_X12_110 cl_X12 rfl ly_187 rfl rfl rfl ?_
  refine aw_aload_n (j := 0) dX12_circle_5 rfl rfl ?_
  refine aw_getfield (c := 0) (v := .int ((uI m 187 17 (0 : Int32)).1 187 1)) dX12_circle_6 f_X12_116 ly_187 rfl rfl ?_
  refine aw_iconst (v := 2) dX12_circle_9 (by decide) ?_
  refine aw_icmp_ge (tgt := 15) dX12_circle_10 (by decide) (fun hc => ?_) (fun hc => ?_)
  · have h := h.1 hc
    refine aw_aload_n (j := 0) dX12_circle_15 rfl rfl ?_
    refine aw_getfield (c := 0) (v := .int ((uI m 187 17 (0 : Int32)).1 187 1)) dX12_circle_16 f_X12_116 ly_187 rfl rfl ?_
    refine aw_aload_n (j := 0) dX12_circle_19 rfl rfl ?_
    refine aw_getfield (c := 0) (v := .int ((uI m 187 17 (0 : Int32)).1 187 1)) dX12_circle_20 f_X12_116 ly_187 rfl rfl ?_
    refine aw_iconst (v := 2) dX12_circle_23 (by decide) ?_
    refine aw_irem dX12_circle_24 (by decide) ?_
    refine aw_iadd dX12_circle_25 ?_
    refine aw_istore_n (L' := [(1, .int (((uI m 187 17 (0 : Int32)).1 187 1) + (((uI m 187 17 (0 : Int32)).1 187 1) - ((uI m 187 17 (0 : Int32)).1 187 1) / (2 : Int32) * (2 : Int32)))), (0, .ref (ad 187))]) dX12_circle_26 rfl (by decide) rfl ?_
    refine aw_iconst (v := 0) dX12_circle_27 (by decide) ?_
    refine aw_istore_n (L' := [(2, .int (0 : Int32)), (1, .int (((uI m 187 17 (0 : Int32)).1 187 1) + (((uI m 187 17 (0 : Int32)).1 187 1) - ((uI m 187 17 (0 : Int32)).1 187 1) / (2 : Int32) * (2 : Int32)))), (0, .ref (ad 187))]) dX12_circle_28 rfl (by decide) rfl ?_
    exact aw_sub [2, 1, 0] rfl h
  · have h := h.2 hc
    refine aw_iconst (v := -1) dX12_circle_13 (by decide) ?_
    exact aw_ret (v := some (.int (-1 : Int32))) rfl (Or.inr (Or.inl ⟨_, .int, rfl, rfl, rfl, dX12_circle_14⟩)) h
set_option maxRecDepth 100000 in
set_option maxHeartbeats 4000000 in
theorem g_X12_circle_29 {ad : Nat → Nat} {d : Nat} {Q : Option Value → Wm → Prop} {m : Wm} {x1 x2 : Int32} (h : ((x1 ≤ x2 → AW ad E0 μX12_circle (d + 1) Q 54 [(0, .ref (ad 187)), (1, .int x1), (2, .int (0 : Int32))] [] (uI m 187 10 (0 : Int32))) ∧ (¬ x1 ≤ x2 → (vp_in x2 9 ∧ AW ad E0 μX12_circle (d + 1) Q 29 [(0, .ref (ad 187)), (1, .int x1), (2, .int (x2 + (1 : Int32)))] [] (uI m 203 x2.toNatClampNeg x2))))) : AW ad E0 μX12_circle (d + 1) Q 29 [(0, .ref (ad 187)), (1, .int x1), (2, .int x2)] [] m := by
  refine aw_iload_n (j := 2) dX12_circle_29 rfl rfl ?_
  refine aw_iload_n (j := 1) dX12_circle_30 rfl rfl ?_
  refine aw_icmp_ge (tgt := 47) dX12_circle_31 (by decide) (fun hc => ?_) (fun hc => ?_)
  · have h := h.1 hc
    refine aw_aload_n (j := 0) dX12_circle_47 rfl rfl ?_
    refine aw_iconst (v := 0) dX12_circle_48 (by decide) ?_
    refine aw_putI dX12_circle_49 f_X12_181 cl_X12 rfl ly_187 rfl rfl rfl ?_
    refine aw_iconst (v := 0) dX12_circle_52 (by decide) ?_
    refine aw_istore_n (L' := [(2, .int (0 : Int32)), (0, .ref (ad 187)), (1, .int x1)]) dX12_circle_53 rfl (by decide) rfl ?_
    exact aw_sub [1, 2, 0] rfl h
  · have h := h.2 hc
    refine aw_aload_n (j := 0) dX12_circle_34 rfl rfl ?_
    refine aw_getfield (c := 206) (v := .ref (ad 203)) dX12_circle_35 f_X12_68 ly_187 rfl rfl ?_
    refine aw_iload_n (j := 2) dX12_circle_38 rfl rfl ?_
    refine aw_iload_n (j := 2) dX12_circle_39 rfl rfl ?_
    obtain ⟨hi, h⟩ := h
    refine aw_iastore dX12_circle_40 ly_203 hi ?_
    refine aw_iinc (j := 2) (v := x2 + (1 : Int32)) (L' := [(2, .int (x2 + (1 : Int32))), (0, .ref (ad 187)), (1, .int x1)]) dX12_circle_41 rfl rfl (by decide) rfl ?_
    refine aw_goto (tgt := 29) dX12_circle_44 (by decide) ?_
    exact aw_sub [1, 2, 0] rfl h
set_option maxRecDepth 100000 in
set_option maxHeartbeats 4000000 in
theorem g_X12_circle_54 {ad : Nat → Nat} {d : Nat} {Q : Option Value → Wm → Prop} {m : Wm} {x1 x2 : Int32} (h : (((x1 - (1 : Int32)) ≤ x2 → Q (some (.int ((uI (uI m 187 11 (x1 - (1 : Int32))) 187 12 (0 : Int32)).1 187 11))) (uI (uI m 187 11 (x1 - (1 : Int32))) 187 12 (0 : Int32))) ∧ (¬ (x1 - (1 : Int32)) ≤ x2 → AW ad E0 μX12_circle (d + 1) Q 63 [(0, .ref (ad 187)), (1, .int x1), (2, .int x2), (3, .int (0 : Int32))] [] m))) : AW ad E0 μX12_circle (d + 1) Q 54 [(0, .ref (ad 187)), (1, .int x1), (2, .int x2)] [] m := by
  refine aw_iload_n (j := 2) dX12_circle_54 rfl rfl ?_
  refine aw_iload_n (j := 1) dX12_circle_55 rfl rfl ?_
  refine aw_iconst (v := 1) dX12_circle_56 (by decide) ?_
  refine aw_isub dX12_circle_57 ?_
  refine aw_icmp_ge (tgt := 238) dX12_circle_58 (by decide) (fun hc => ?_) (fun hc => ?_)
  · have h := h.1 hc
    refine aw_aload_n (j := 0) dX12_circle_238 rfl rfl ?_
    refine aw_iload_n (j := 1) dX12_circle_239 rfl rfl ?_
    refine aw_iconst (v := 1) dX12_circle_240 (by decide) ?_
    refine aw_isub dX12_circle_241 ?_
    refine aw_putI dX12_circle_242 f_X12_184 cl_X12 rfl ly_187 rfl rfl rfl ?_
    refine aw_aload_n (j := 0) dX12_circle_245 rfl rfl ?_
    refine aw_iconst (v := 0) dX12_circle_246 (by decide) ?_
    refine aw_putI dX12_circle_247 f_X12_187 cl_X12 rfl ly_187 rfl rfl rfl ?_
    refine aw_aload_n (j := 0) dX12_circle_250 rfl rfl ?_
    refine aw_getfield (c := 0) (v := .int ((uI (uI m 187 11 (x1 - (1 : Int32))) 187 12 (0 : Int32)).1 187 11)) dX12_circle_251 f_X12_184 ly_187 rfl rfl ?_
    exact aw_ret (v := some (.int ((uI (uI m 187 11 (x1 - (1 : Int32))) 187 12 (0 : Int32)).1 187 11))) rfl (Or.inr (Or.inl ⟨_, .int, rfl, rfl, rfl, dX12_circle_254⟩)) h
  · have h := h.2 hc
    refine aw_iconst (v := 0) dX12_circle_61 (by decide) ?_
    refine aw_istore_n (L' := [(3, .int (0 : Int32)), (0, .ref (ad 187)), (1, .int x1), (2, .int x2)]) dX12_circle_62 rfl (by decide) rfl ?_
    exact aw_sub [1, 2, 3, 0] rfl h
set_option maxRecDepth 100000 in
set_option maxHeartbeats 4000000 in
theorem g_X12_circle_63 {ad : Nat → Nat} {d : Nat} {Q : Option Value → Wm → Prop} {m : Wm} {x1 x2 x3 : Int32} (h : (((x1 / (2 : Int32)) ≤ x3 → (vp_in (x1 - (1 : Int32)) 9 ∧ AW ad E0 μX12_circle (d + 1) Q 197 [(0, .ref (ad 187)), (1, .int x1), (2, .int x2), (3, .int (m.1 203 (x1 - (1 : Int32)).toNatClampNeg)), (4, .int (x1 - (1 : Int32)))] [] m)) ∧ (¬ (x1 / (2 : Int32)) ≤ x3 → (vp_in x3 9 ∧ (vp_in ((x1 - (1 : Int32)) - x3) 9 ∧ (Ct ad μX12_isSide d [.ref (ad 187), .int (m.1 203 x3.toNatClampNeg)] m (fun r m1 => ∃ v2 : Int32, r = some (.int v2) ∧ ((v2 = 0 → AW ad E0 μX12_circle (d + 1) Q 63 [(0, .ref (ad 187)), (1, .int x1), (2, .int x2), (3, .int (x3 + (1 : Int32)))] [] m1) ∧ (¬ v2 = 0 → (Ct ad μX12_isSide d [.ref (ad 187), .int (m.1 203 ((x1 - (1 : Int32)) - x3).toNatClampNeg)] m1 (fun r m3 => ∃ v4 : Int32, r = some (.int v4) ∧ ((¬ v4 = 0 → (vp_in ((4 : Int32) * (m3.1 187 10)) 160 ∧ (vp_in (((4 : Int32) * ((uI m3 194 ((4 : Int32) * (m3.1 187 10)).toNatClampNeg (m.1 203 x3.toNatClampNeg)).1 187 10)) + (1 : Int32)) 160 ∧ (vp_in (((4 : Int32) * ((uI (uI m3 194 ((4 : Int32) * (m3.1 187 10)).toNatClampNeg (m.1 203 x3.toNatClampNeg)) 194 (((4 : Int32) * ((uI m3 194 ((4 : Int32) * (m3.1 187 10)).toNatClampNeg (m.1 203 x3.toNatClampNeg)).1 187 10)) + (1 : Int32)).toNatClampNeg (m.1 203 ((x1 - (1 : Int32)) - x3).toNatClampNeg)).1 187 10)) + (2 : Int32)) 160 ∧ (vp_in (((4 : Int32) * ((uI (uI (uI m3 194 ((4 : Int32) * (m3.1 187 10)).toNatClampNeg (m.1 203 x3.toNatClampNeg)) 194 (((4 : Int32) * ((uI m3 194 ((4 : Int32) * (m3.1 187 10)).toNatClampNeg (m.1 203 x3.toNatClampNeg)).1 187 10)) + (1 : Int32)).toNatClampNeg (m.1 203 ((x1 - (1 : Int32)) - x3).toNatClampNeg)) 194 (((4 : Int32) * ((uI (uI m3 194 ((4 : Int32) * (m3.1 187 10)).toNatClampNeg (m.1 203 x3.toNatClampNeg)) 194 (((4 : Int32) * ((uI m3 194 ((4 : Int32) * (m3.1 187 10)).toNatClampNeg (m.1 203 x3.toNatClampNeg)).1 187 10)) + (1 : Int32)).toNatClampNeg (m.1 203 ((x1 - (1 : Int32)) - x3).toNatClampNeg)).1 187 10)) + (2 : Int32)).toNatClampNeg (0 : Int32)).1 187 10)) + (3 : Int32)) 160 ∧ AW ad E0 μX12_circle (d + 1) Q 63 [(0, .ref (ad 187)), (1, .int x1), (2, .int x2), (3, .int (x3 + (1 : Int32)))] [] (uI (uI (uI (uI (uI m3 194 ((4 : Int32) * (m3.1 187 10)).toNatClampNeg (m.1 203 x3.toNatClampNeg)) 194 (((4 : Int32) * ((uI m3 194 ((4 : Int32) * (m3.1 187 10)).toNatClampNeg (m.1 203 x3.toNatClampNeg)).1 187 10)) + (1 : Int32)).toNatClampNeg (m.1 203 ((x1 - (1 : Int32)) - x3).toNatClampNeg)) 194 (((4 : Int32) * ((uI (uI m3 194 ((4 : Int32) * (m3.1 187 10)).toNatClampNeg (m.1 203 x3.toNatClampNeg)) 194 (((4 : Int32) * ((uI m3 194 ((4 : Int32) * (m3.1 187 10)).toNatClampNeg (m.1 203 x3.toNatClampNeg)).1 187 10)) + (1 : Int32)).toNatClampNeg (m.1 203 ((x1 - (1 : Int32)) - x3).toNatClampNeg)).1 187 10)) + (2 : Int32)).toNatClampNeg (0 : Int32)) 194 (((4 : Int32) * ((uI (uI (uI m3 194 ((4 : Int32) * (m3.1 187 10)).toNatClampNeg (m.1 203 x3.toNatClampNeg)) 194 (((4 : Int32) * ((uI m3 194 ((4 : Int32) * (m3.1 187 10)).toNatClampNeg (m.1 203 x3.toNatClampNeg)).1 187 10)) + (1 : Int32)).toNatClampNeg (m.1 203 ((x1 - (1 : Int32)) - x3).toNatClampNeg)) 194 (((4 : Int32) * ((uI (uI m3 194 ((4 : Int32) * (m3.1 187 10)).toNatClampNeg (m.1 203 x3.toNatClampNeg)) 194 (((4 : Int32) * ((uI m3 194 ((4 : Int32) * (m3.1 187 10)).toNatClampNeg (m.1 203 x3.toNatClampNeg)).1 187 10)) + (1 : Int32)).toNatClampNeg (m.1 203 ((x1 - (1 : Int32)) - x3).toNatClampNeg)).1 187 10)) + (2 : Int32)).toNatClampNeg (0 : Int32)).1 187 10)) + (3 : Int32)).toNatClampNeg x2) 187 10 (((uI (uI (uI (uI m3 194 ((4 : Int32) * (m3.1 187 10)).toNatClampNeg (m.1 203 x3.toNatClampNeg)) 194 (((4 : Int32) * ((uI m3 194 ((4 : Int32) * (m3.1 187 10)).toNatClampNeg (m.1 203 x3.toNatClampNeg)).1 187 10)) + (1 : Int32)).toNatClampNeg (m.1 203 ((x1 - (1 : Int32)) - x3).toNatClampNeg)) 194 (((4 : Int32) * ((uI (uI m3 194 ((4 : Int32) * (m3.1 187 10)).toNatClampNeg (m.1 203 x3.toNatClampNeg)) 194 (((4 : Int32) * ((uI m3 194 ((4 : Int32) * (m3.1 187 10)).toNatClampNeg (m.1 203 x3.toNatClampNeg)).1 187 10)) + (1 : Int32)).toNatClampNeg (m.1 203 ((x1 - (1 : Int32)) - x3).toNatClampNeg)).1 187 10)) + (2 : Int32)).toNatClampNeg (0 : Int32)) 194 (((4 : Int32) * ((uI (uI (uI m3 194 ((4 : Int32) * (m3.1 187 10)).toNatClampNeg (m.1 203 x3.toNatClampNeg)) 194 (((4 : Int32) * ((uI m3 194 ((4 : Int32) * (m3.1 187 10)).toNatClampNeg (m.1 203 x3.toNatClampNeg)).1 187 10)) + (1 : Int32)).toNatClampNeg (m.1 203 ((x1 - (1 : Int32)) - x3).toNatClampNeg)) 194 (((4 : Int32) * ((uI (uI m3 194 ((4 : Int32) * (m3.1 187 10)).toNatClampNeg (m.1 203 x3.toNatClampNeg)) 194 (((4 : Int32) * ((uI m3 194 ((4 : Int32) * (m3.1 187 10)).toNatClampNeg (m.1 203 x3.toNatClampNeg)).1 187 10)) + (1 : Int32)).toNatClampNeg (m.1 203 ((x1 - (1 : Int32)) - x3).toNatClampNeg)).1 187 10)) + (2 : Int32)).toNatClampNeg (0 : Int32)).1 187 10)) + (3 : Int32)).toNatClampNeg x2).1 187 10) + (1 : Int32)))))))) ∧ (v4 = 0 → AW ad E0 μX12_circle (d + 1) Q 63 [(0, .ref (ad 187)), (1, .int x1), (2, .int x2), (3, .int (x3 + (1 : Int32)))] [] m3))))))))))))) : AW ad E0 μX12_circle (d + 1) Q 63 [(0, .ref (ad 187)), (1, .int x1), (2, .int x2), (3, .int x3)] [] m := by
  refine aw_iload_n (j := 3) dX12_circle_63 rfl rfl ?_
  refine aw_iload_n (j := 1) dX12_circle_64 rfl rfl ?_
  refine aw_iconst (v := 2) dX12_circle_65 (by decide) ?_
  refine aw_idiv dX12_circle_66 (by decide) ?_
  refine aw_icmp_ge (tgt := 183) dX12_circle_67 (by decide) (fun hc => ?_) (fun hc => ?_)
  · have h := h.1 hc
    refine aw_aload_n (j := 0) dX12_circle_183 rfl rfl ?_
    refine aw_getfield (c := 206) (v := .ref (ad 203)) dX12_circle_184 f_X12_68 ly_187 rfl rfl ?_
    refine aw_iload_n (j := 1) dX12_circle_187 rfl rfl ?_
    refine aw_iconst (v := 1) dX12_circle_188 (by decide) ?_
    refine aw_isub dX12_circle_189 ?_
    obtain ⟨hi, h⟩ := h
    refine aw_iaload dX12_circle_190 ly_203 hi ?_
    refine aw_istore_n (L' := [(3, .int (m.1 203 (x1 - (1 : Int32)).toNatClampNeg)), (0, .ref (ad 187)), (1, .int x1), (2, .int x2)]) dX12_circle_191 rfl (by decide) rfl ?_
    refine aw_iload_n (j := 2) dX12_circle_192 rfl rfl ?_
    refine aw_iconst (v := 1) dX12_circle_193 (by decide) ?_
    refine aw_isub dX12_circle_194 ?_
    refine aw_istore (L' := [(4, .int (x1 - (1 : Int32))), (3, .int (m.1 203 (x1 - (1 : Int32)).toNatClampNeg)), (0, .ref (ad 187)), (1, .int x1), (2, .int x2)]) dX12_circle_195 (by decide) rfl ?_
    exact aw_sub [2, 3, 4, 1, 0] rfl h
  · have h := h.2 hc
    refine aw_aload_n (j := 0) dX12_circle_70 rfl rfl ?_
    refine aw_getfield (c := 206) (v := .ref (ad 203)) dX12_circle_71 f_X12_68 ly_187 rfl rfl ?_
    refine aw_iload_n (j := 3) dX12_circle_74 rfl rfl ?_
    obtain ⟨hi, h⟩ := h
    refine aw_iaload dX12_circle_75 ly_203 hi ?_
    refine aw_istore (L' := [(4, .int (m.1 203 x3.toNatClampNeg)), (0, .ref (ad 187)), (1, .int x1), (2, .int x2), (3, .int x3)]) dX12_circle_76 (by decide) rfl ?_
    refine aw_aload_n (j := 1) dX12_circle_78 rfl rfl ?_
    refine aw_getfield (c := 206) (v := .ref (ad 203)) dX12_circle_79 f_X12_68 ly_187 rfl rfl ?_
    refine aw_iload_n (j := 2) dX12_circle_82 rfl rfl ?_
    refine aw_iconst (v := 1) dX12_circle_83 (by decide) ?_
    refine aw_isub dX12_circle_84 ?_
    refine aw_iload_n (j := 4) dX12_circle_85 rfl rfl ?_
    refine aw_isub dX12_circle_86 ?_
    obtain ⟨hi, h⟩ := h
    refine aw_iaload dX12_circle_87 ly_203 hi ?_
    refine aw_istore (L' := [(5, .int (m.1 203 ((x1 - (1 : Int32)) - x3).toNatClampNeg)), (4, .int (m.1 203 x3.toNatClampNeg)), (0, .ref (ad 187)), (1, .int x1), (2, .int x2), (3, .int x3)]) dX12_circle_88 (by decide) rfl ?_
    refine aw_aload_n (j := 2) dX12_circle_90 rfl rfl ?_
    refine aw_iload (j := 1) dX12_circle_91 rfl ?_
    refine aw_callV (rest := []) [.int (m.1 203 x3.toNatClampNeg)] dX12_circle_93 ly_187 rfl k_X12_123 rfl h (Nat.le_of_ble_eq_true rfl) (fun v m1 h => ?_)
    obtain ⟨v2, rfl, h⟩ := h
    refine aw_eq (L' := [(5, .int (m.1 203 ((x1 - (1 : Int32)) - x3).toNatClampNeg)), (4, .int (m.1 203 x3.toNatClampNeg)), (0, .ref (ad 187)), (1, .int x1), (2, .int x2), (3, .int x3)]) (st' := [.int v2]) (m' := m1) ?_ rfl rfl rfl
    refine aw_if_eq (tgt := 177) dX12_circle_96 (by decide) (fun hc => ?_) (fun hc => ?_)
    · have h := h.1 hc
      refine aw_iinc (j := 5) (v := x3 + (1 : Int32)) (L' := [(3, .int (x3 + (1 : Int32))), (5, .int (m.1 203 ((x1 - (1 : Int32)) - x3).toNatClampNeg)), (4, .int (m.1 203 x3.toNatClampNeg)), (0, .ref (ad 187)), (1, .int x1), (2, .int x2)]) dX12_circle_177 rfl rfl (by decide) rfl ?_
      refine aw_goto (tgt := 63) dX12_circle_180 (by decide) ?_
      exact aw_sub [3, 4, 5, 0] rfl h
    · have h := h.2 hc
      refine aw_aload_n (j := 2) dX12_circle_99 rfl rfl ?_
      refine aw_iload (j := 0) dX12_circle_100 rfl ?_
      refine aw_callV (rest := []) [.int (m.1 203 ((x1 - (1 : Int32)) - x3).toNatClampNeg)] dX12_circle_102 ly_187 rfl k_X12_123 rfl h (Nat.le_of_ble_eq_true rfl) (fun v m3 h => ?_)
      obtain ⟨v4, rfl, h⟩ := h
      refine aw_eq (L' := [(5, .int (m.1 203 ((x1 - (1 : Int32)) - x3).toNatClampNeg)), (4, .int (m.1 203 x3.toNatClampNeg)), (0, .ref (ad 187)), (1, .int x1), (2, .int x2), (3, .int x3)]) (st' := [.int v4]) (m' := m3) ?_ rfl rfl rfl
      refine aw_if_ne (tgt := 111) dX12_circle_105 (by decide) (fun hc => ?_) (fun hc => ?_)
      · have h := h.1 hc
        refine aw_aload_n (j := 2) dX12_circle_111 rfl rfl ?_
        refine aw_getfield (c := 197) (v := .ref (ad 194)) dX12_circle_112 f_X12_36 ly_187 rfl rfl ?_
        refine aw_iconst (v := 4) dX12_circle_115 (by decide) ?_
        refine aw_aload_n (j := 2) dX12_circle_116 rfl rfl ?_
        refine aw_getfield (c := 0) (v := .int (m3.1 187 10)) dX12_circle_117 f_X12_181 ly_187 rfl rfl ?_
        refine aw_imul dX12_circle_120 ?_
        refine aw_iload (j := 1) dX12_circle_121 rfl ?_
        obtain ⟨hi, h⟩ := h
        refine aw_iastore dX12_circle_123 ly_194 hi ?_
        refine aw_aload_n (j := 2) dX12_circle_124 rfl rfl ?_
        refine aw_getfield (c := 197) (v := .ref (ad 194)) dX12_circle_125 f_X12_36 ly_187 rfl rfl ?_
        refine aw_iconst (v := 4) dX12_circle_128 (by decide) ?_
        refine aw_aload_n (j := 2) dX12_circle_129 rfl rfl ?_
        refine aw_getfield (c := 0) (v := .int ((uI m3 194 ((4 : Int32) * (m3.1 187 10)).toNatClampNeg (m.1 203 x3.toNatClampNeg)).1 187 10)) dX12_circle_130 f_X12_181 ly_187 rfl rfl ?_
        refine aw_imul dX12_circle_133 ?_
        refine aw_iconst (v := 1) dX12_circle_134 (by decide) ?_
        refine aw_iadd dX12_circle_135 ?_
        refine aw_iload (j := 0) dX12_circle_136 rfl ?_
        obtain ⟨hi, h⟩ := h
        refine aw_iastore dX12_circle_138 ly_194 hi ?_
        refine aw_aload_n (j := 2) dX12_circle_139 rfl rfl ?_
        refine aw_getfield (c := 197) (v := .ref (ad 194)) dX12_circle_140 f_X12_36 ly_187 rfl rfl ?_
        refine aw_iconst (v := 4) dX12_circle_143 (by decide) ?_
        refine aw_aload_n (j := 2) dX12_circle_144 rfl rfl ?_
        refine aw_getfield (c := 0) (v := .int ((uI (uI m3 194 ((4 : Int32) * (m3.1 187 10)).toNatClampNeg (m.1 203 x3.toNatClampNeg)) 194 (((4 : Int32) * ((uI m3 194 ((4 : Int32) * (m3.1 187 10)).toNatClampNeg (m.1 203 x3.toNatClampNeg)).1 187 10)) + (1 : Int32)).toNatClampNeg (m.1 203 ((x1 - (1 : Int32)) - x3).toNatClampNeg)).1 187 10)) dX12_circle_145 f_X12_181 ly_187 rfl rfl ?_
        refine aw_imul dX12_circle_148 ?_
        refine aw_iconst (v := 2) dX12_circle_149 (by decide) ?_
        refine aw_iadd dX12_circle_150 ?_
        refine aw_iconst (v := 0) dX12_circle_151 (by decide) ?_
        obtain ⟨hi, h⟩ := h
        refine aw_iastore dX12_circle_152 ly_194 hi ?_
        refine aw_aload_n (j := 2) dX12_circle_153 rfl rfl ?_
        refine aw_getfield (c := 197) (v := .ref (ad 194)) dX12_circle_154 f_X12_36 ly_187 rfl rfl ?_
        refine aw_iconst (v := 4) dX12_circle_157 (by decide) ?_
        refine aw_aload_n (j := 2) dX12_circle_158 rfl rfl ?_
        refine aw_getfield (c := 0) (v := .int ((uI (uI (uI m3 194 ((4 : Int32) * (m3.1 187 10)).toNatClampNeg (m.1 203 x3.toNatClampNeg)) 194 (((4 : Int32) * ((uI m3 194 ((4 : Int32) * (m3.1 187 10)).toNatClampNeg (m.1 203 x3.toNatClampNeg)).1 187 10)) + (1 : Int32)).toNatClampNeg (m.1 203 ((x1 - (1 : Int32)) - x3).toNatClampNeg)) 194 (((4 : Int32) * ((uI (uI m3 194 ((4 : Int32) * (m3.1 187 10)).toNatClampNeg (m.1 203 x3.toNatClampNeg)) 194 (((4 : Int32) * ((uI m3 194 ((4 : Int32) * (m3.1 187 10)).toNatClampNeg (m.1 203 x3.toNatClampNeg)).1 187 10)) + (1 : Int32)).toNatClampNeg (m.1 203 ((x1 - (1 : Int32)) - x3).toNatClampNeg)).1 187 10)) + (2 : Int32)).toNatClampNeg (0 : Int32)).1 187 10)) dX12_circle_159 f_X12_181 ly_187 rfl rfl ?_
        refine aw_imul dX12_circle_162 ?_
        refine aw_iconst (v := 3) dX12_circle_163 (by decide) ?_
        refine aw_iadd dX12_circle_164 ?_
        refine aw_iload_n (j := 4) dX12_circle_165 rfl rfl ?_
        obtain ⟨hi, h⟩ := h
        refine aw_iastore dX12_circle_166 ly_194 hi ?_
        refine aw_aload_n (j := 2) dX12_circle_167 rfl rfl ?_
        refine aw_dup dX12_circle_168 rfl ?_
        refine aw_getfield (c := 0) (v := .int ((uI (uI (uI (uI m3 194 ((4 : Int32) * (m3.1 187 10)).toNatClampNeg (m.1 203 x3.toNatClampNeg)) 194 (((4 : Int32) * ((uI m3 194 ((4 : Int32) * (m3.1 187 10)).toNatClampNeg (m.1 203 x3.toNatClampNeg)).1 187 10)) + (1 : Int32)).toNatClampNeg (m.1 203 ((x1 - (1 : Int32)) - x3).toNatClampNeg)) 194 (((4 : Int32) * ((uI (uI m3 194 ((4 : Int32) * (m3.1 187 10)).toNatClampNeg (m.1 203 x3.toNatClampNeg)) 194 (((4 : Int32) * ((uI m3 194 ((4 : Int32) * (m3.1 187 10)).toNatClampNeg (m.1 203 x3.toNatClampNeg)).1 187 10)) + (1 : Int32)).toNatClampNeg (m.1 203 ((x1 - (1 : Int32)) - x3).toNatClampNeg)).1 187 10)) + (2 : Int32)).toNatClampNeg (0 : Int32)) 194 (((4 : Int32) * ((uI (uI (uI m3 194 ((4 : Int32) * (m3.1 187 10)).toNatClampNeg (m.1 203 x3.toNatClampNeg)) 194 (((4 : Int32) * ((uI m3 194 ((4 : Int32) * (m3.1 187 10)).toNatClampNeg (m.1 203 x3.toNatClampNeg)).1 187 10)) + (1 : Int32)).toNatClampNeg (m.1 203 ((x1 - (1 : Int32)) - x3).toNatClampNeg)) 194 (((4 : Int32) * ((uI (uI m3 194 ((4 : Int32) * (m3.1 187 10)).toNatClampNeg (m.1 203 x3.toNatClampNeg)) 194 (((4 : Int32) * ((uI m3 194 ((4 : Int32) * (m3.1 187 10)).toNatClampNeg (m.1 203 x3.toNatClampNeg)).1 187 10)) + (1 : Int32)).toNatClampNeg (m.1 203 ((x1 - (1 : Int32)) - x3).toNatClampNeg)).1 187 10)) + (2 : Int32)).toNatClampNeg (0 : Int32)).1 187 10)) + (3 : Int32)).toNatClampNeg x2).1 187 10)) dX12_circle_169 f_X12_181 ly_187 rfl rfl ?_
        refine aw_iconst (v := 1) dX12_circle_172 (by decide) ?_
        refine aw_iadd dX12_circle_173 ?_
        refine aw_putI dX12_circle_174 f_X12_181 cl_X12 rfl ly_187 rfl rfl rfl ?_
        refine aw_iinc (j := 5) (v := x3 + (1 : Int32)) (L' := [(3, .int (x3 + (1 : Int32))), (5, .int (m.1 203 ((x1 - (1 : Int32)) - x3).toNatClampNeg)), (4, .int (m.1 203 x3.toNatClampNeg)), (0, .ref (ad 187)), (1, .int x1), (2, .int x2)]) dX12_circle_177 rfl rfl (by decide) rfl ?_
        refine aw_goto (tgt := 63) dX12_circle_180 (by decide) ?_
        exact aw_sub [3, 4, 5, 0] rfl h
      · have h := h.2 hc
        refine aw_goto (tgt := 177) dX12_circle_108 (by decide) ?_
        refine aw_iinc (j := 5) (v := x3 + (1 : Int32)) (L' := [(3, .int (x3 + (1 : Int32))), (5, .int (m.1 203 ((x1 - (1 : Int32)) - x3).toNatClampNeg)), (4, .int (m.1 203 x3.toNatClampNeg)), (0, .ref (ad 187)), (1, .int x1), (2, .int x2)]) dX12_circle_177 rfl rfl (by decide) rfl ?_
        refine aw_goto (tgt := 63) dX12_circle_180 (by decide) ?_
        exact aw_sub [3, 4, 5, 0] rfl h
set_option maxRecDepth 100000 in
set_option maxHeartbeats 4000000 in
theorem g_X12_circle_197 {ad : Nat → Nat} {d : Nat} {Q : Option Value → Wm → Prop} {m : Wm} {x1 x2 x3 x4 : Int32} (h : ((x4 ≤ (1 : Int32) → AW ad E0 μX12_circle (d + 1) Q 54 [(0, .ref (ad 187)), (1, .int x1), (2, .int (x2 + (1 : Int32)))] [] (uI m 203 (1 : Int32).toNatClampNeg x3)) ∧ (¬ x4 ≤ (1 : Int32) → (vp_in (x4 - (1 : Int32)) 9 ∧ (vp_in x4 9 ∧ AW ad E0 μX12_circle (d + 1) Q 197 [(0, .ref (ad 187)), (1, .int x1), (2, .int x2), (3, .int x3), (4, .int (x4 + (-1 : Int32)))] [] (uI m 203 x4.toNatClampNeg (m.1 203 (x4 - (1 : Int32)).toNatClampNeg))))))) : AW ad E0 μX12_circle (d + 1) Q 197 [(0, .ref (ad 187)), (1, .int x1), (2, .int x2), (3, .int x3), (4, .int x4)] [] m := by
  refine aw_iload (j := 4) dX12_circle_197 rfl ?_
  refine aw_iconst (v := 1) dX12_circle_199 (by decide) ?_
  refine aw_icmp_le (tgt := 225) dX12_circle_200 (by decide) (fun hc => ?_) (fun hc => ?_)
  · have h := h.1 hc
    refine aw_aload_n (j := 0) dX12_circle_225 rfl rfl ?_
    refine aw_getfield (c := 206) (v := .ref (ad 203)) dX12_circle_226 f_X12_68 ly_187 rfl rfl ?_
    refine aw_iconst (v := 1) dX12_circle_229 (by decide) ?_
    refine aw_iload_n (j := 3) dX12_circle_230 rfl rfl ?_
    refine aw_iastore dX12_circle_231 ly_203 (by unfold vp_in; decide) ?_
    refine aw_iinc (j := 2) (v := x2 + (1 : Int32)) (L' := [(2, .int (x2 + (1 : Int32))), (0, .ref (ad 187)), (1, .int x1), (3, .int x3), (4, .int x4)]) dX12_circle_232 rfl rfl (by decide) rfl ?_
    refine aw_goto (tgt := 54) dX12_circle_235 (by decide) ?_
    exact aw_sub [1, 2, 0] rfl h
  · have h := h.2 hc
    refine aw_aload_n (j := 0) dX12_circle_203 rfl rfl ?_
    refine aw_getfield (c := 206) (v := .ref (ad 203)) dX12_circle_204 f_X12_68 ly_187 rfl rfl ?_
    refine aw_iload (j := 4) dX12_circle_207 rfl ?_
    refine aw_aload_n (j := 0) dX12_circle_209 rfl rfl ?_
    refine aw_getfield (c := 206) (v := .ref (ad 203)) dX12_circle_210 f_X12_68 ly_187 rfl rfl ?_
    refine aw_iload (j := 4) dX12_circle_213 rfl ?_
    refine aw_iconst (v := 1) dX12_circle_215 (by decide) ?_
    refine aw_isub dX12_circle_216 ?_
    obtain ⟨hi, h⟩ := h
    refine aw_iaload dX12_circle_217 ly_203 hi ?_
    obtain ⟨hi, h⟩ := h
    refine aw_iastore dX12_circle_218 ly_203 hi ?_
    refine aw_iinc (j := 4) (v := x4 + (-1 : Int32)) (L' := [(4, .int (x4 + (-1 : Int32))), (0, .ref (ad 187)), (1, .int x1), (2, .int x2), (3, .int x3)]) dX12_circle_219 rfl rfl (by decide) rfl ?_
    refine aw_goto (tgt := 197) dX12_circle_222 (by decide) ?_
    exact aw_sub [1, 2, 3, 4, 0] rfl h
set_option maxRecDepth 100000 in
set_option maxHeartbeats 4000000 in
theorem v_X12_beatenBy {ad : Nat → Nat} {d : Nat} {Q : Option Value → Wm → Prop} {m : Wm} {x1 : Int32} (h : AW ad E0 μX12_beatenBy (d + 1) Q 4 [(0, .ref (ad 187)), (1, .int x1), (2, .int (0 : Int32)), (3, .int (0 : Int32))] [] m) : Ct ad μX12_beatenBy (d + 1) [.ref (ad 187), .int x1] m Q := by
  refine Ct.of (by decide +kernel) rfl (Nat.le_of_ble_eq_true rfl) ?_
  refine aw_eq (L' := [(0, .ref (ad 187)), (1, .int x1)]) ?_ rfl rfl rfl
  refine aw_iconst (v := 0) dX12_beatenBy_0 (by decide) ?_
  refine aw_istore_n (L' := [(2, .int (0 : Int32)), (0, .ref (ad 187)), (1, .int x1)]) dX12_beatenBy_1 rfl (by decide) rfl ?_
  refine aw_iconst (v := 0) dX12_beatenBy_2 (by decide) ?_
  refine aw_istore_n (L' := [(3, .int (0 : Int32)), (2, .int (0 : Int32)), (0, .ref (ad 187)), (1, .int x1)]) dX12_beatenBy_3 rfl (by decide) rfl ?_
  exact aw_sub [2, 3, 1, 0] rfl h
set_option maxRecDepth 100000 in
set_option maxHeartbeats 4000000 in
theorem g_X12_beatenBy_4 {ad : Nat → Nat} {d : Nat} {Q : Option Value → Wm → Prop} {m : Wm} {x1 x2 x3 : Int32} (h : (((m.1 187 1) ≤ x3 → Q (some (.int x2)) m) ∧ (¬ (m.1 187 1) ≤ x3 → ((x3 = x1 → AW ad E0 μX12_beatenBy (d + 1) Q 4 [(0, .ref (ad 187)), (1, .int x1), (2, .int (x2 ||| (0 : Int32))), (3, .int (x3 + (1 : Int32)))] [] m) ∧ (¬ x3 = x1 → (Ct ad μX12_winner d [.ref (ad 187), .int x1, .int x3, .int (0 : Int32)] m (fun r m1 => ∃ v2 : Int32, r = some (.int v2) ∧ ((¬ v2 = 0 → AW ad E0 μX12_beatenBy (d + 1) Q 4 [(0, .ref (ad 187)), (1, .int x1), (2, .int (x2 ||| (0 : Int32))), (3, .int (x3 + (1 : Int32)))] [] m1) ∧ (v2 = 0 → AW ad E0 μX12_beatenBy (d + 1) Q 4 [(0, .ref (ad 187)), (1, .int x1), (2, .int (x2 ||| ((1 : Int32) <<< (x3 &&& 31)))), (3, .int (x3 + (1 : Int32)))] [] m1))))))))) : AW ad E0 μX12_beatenBy (d + 1) Q 4 [(0, .ref (ad 187)), (1, .int x1), (2, .int x2), (3, .int x3)] [] m := by
  refine aw_iload_n (j := 3) dX12_beatenBy_4 rfl rfl ?_
  refine aw_aload_n (j := 0) dX12_beatenBy_5 rfl rfl ?_
  refine aw_getfield (c := 0) (v := .int (m.1 187 1)) dX12_beatenBy_6 f_X12_116 ly_187 rfl rfl ?_
  refine aw_icmp_ge (tgt := 43) dX12_beatenBy_9 (by decide) (fun hc => ?_) (fun hc => ?_)
  · have h := h.1 hc
    refine aw_iload_n (j := 2) dX12_beatenBy_43 rfl rfl ?_
    exact aw_ret (v := some (.int x2)) rfl (Or.inr (Or.inl ⟨_, .int, rfl, rfl, rfl, dX12_beatenBy_44⟩)) h
  · have h := h.2 hc
    refine aw_iload_n (j := 2) dX12_beatenBy_12 rfl rfl ?_
    refine aw_iload_n (j := 3) dX12_beatenBy_13 rfl rfl ?_
    refine aw_iload_n (j := 1) dX12_beatenBy_14 rfl rfl ?_
    refine aw_icmp_eq (tgt := 34) dX12_beatenBy_15 (by decide) (fun hc => ?_) (fun hc => ?_)
    · have h := h.1 hc
      refine aw_iconst (v := 0) dX12_beatenBy_34 (by decide) ?_
      refine aw_ior dX12_beatenBy_35 ?_
      refine aw_istore_n (L' := [(2, .int (x2 ||| (0 : Int32))), (0, .ref (ad 187)), (1, .int x1), (3, .int x3)]) dX12_beatenBy_36 rfl (by decide) rfl ?_
      refine aw_iinc (j := 3) (v := x3 + (1 : Int32)) (L' := [(3, .int (x3 + (1 : Int32))), (2, .int (x2 ||| (0 : Int32))), (0, .ref (ad 187)), (1, .int x1)]) dX12_beatenBy_37 rfl rfl (by decide) rfl ?_
      refine aw_goto (tgt := 4) dX12_beatenBy_40 (by decide) ?_
      exact aw_sub [2, 3, 1, 0] rfl h
    · have h := h.2 hc
      refine aw_aload_n (j := 0) dX12_beatenBy_18 rfl rfl ?_
      refine aw_iload_n (j := 1) dX12_beatenBy_19 rfl rfl ?_
      refine aw_iload_n (j := 3) dX12_beatenBy_20 rfl rfl ?_
      refine aw_iconst (v := 0) dX12_beatenBy_21 (by decide) ?_
      refine aw_callV (rest := [.int x2]) [.int x1, .int x3, .int (0 : Int32)] dX12_beatenBy_22 ly_187 rfl k_X12_273 rfl h (Nat.le_of_ble_eq_true rfl) (fun v m1 h => ?_)
      obtain ⟨v2, rfl, h⟩ := h
      refine aw_eq (L' := [(0, .ref (ad 187)), (1, .int x1), (2, .int x2), (3, .int x3)]) (st' := [.int v2, .int x2]) (m' := m1) ?_ rfl rfl rfl
      refine aw_if_ne (tgt := 34) dX12_beatenBy_25 (by decide) (fun hc => ?_) (fun hc => ?_)
      · have h := h.1 hc
        refine aw_iconst (v := 0) dX12_beatenBy_34 (by decide) ?_
        refine aw_ior dX12_beatenBy_35 ?_
        refine aw_istore_n (L' := [(2, .int (x2 ||| (0 : Int32))), (0, .ref (ad 187)), (1, .int x1), (3, .int x3)]) dX12_beatenBy_36 rfl (by decide) rfl ?_
        refine aw_iinc (j := 3) (v := x3 + (1 : Int32)) (L' := [(3, .int (x3 + (1 : Int32))), (2, .int (x2 ||| (0 : Int32))), (0, .ref (ad 187)), (1, .int x1)]) dX12_beatenBy_37 rfl rfl (by decide) rfl ?_
        refine aw_goto (tgt := 4) dX12_beatenBy_40 (by decide) ?_
        exact aw_sub [2, 3, 1, 0] rfl h
      · have h := h.2 hc
        refine aw_iconst (v := 1) dX12_beatenBy_28 (by decide) ?_
        refine aw_iload_n (j := 3) dX12_beatenBy_29 rfl rfl ?_
        refine aw_ishl dX12_beatenBy_30 ?_
        refine aw_goto (tgt := 35) dX12_beatenBy_31 (by decide) ?_
        refine aw_ior dX12_beatenBy_35 ?_
        refine aw_istore_n (L' := [(2, .int (x2 ||| ((1 : Int32) <<< (x3 &&& 31)))), (0, .ref (ad 187)), (1, .int x1), (3, .int x3)]) dX12_beatenBy_36 rfl (by decide) rfl ?_
        refine aw_iinc (j := 3) (v := x3 + (1 : Int32)) (L' := [(3, .int (x3 + (1 : Int32))), (2, .int (x2 ||| ((1 : Int32) <<< (x3 &&& 31)))), (0, .ref (ad 187)), (1, .int x1)]) dX12_beatenBy_37 rfl rfl (by decide) rfl ?_
        refine aw_goto (tgt := 4) dX12_beatenBy_40 (by decide) ?_
        exact aw_sub [2, 3, 1, 0] rfl h
set_option maxRecDepth 100000 in
set_option maxHeartbeats 4000000 in
theorem v_X12_beats {ad : Nat → Nat} {d : Nat} {Q : Option Value → Wm → Prop} {m : Wm} {x1 : Int32} (h : (Ct ad μX12_isSide d [.ref (ad 187), .int x1] (uI m 187 17 (0 : Int32)) (fun r m1 => ∃ v2 : Int32, r = some (.int v2) ∧ ((¬ v2 = 0 → AW ad E0 μX12_beats (d + 1) Q 19 [(0, .ref (ad 187)), (1, .int x1), (2, .int (0 : Int32)), (3, .int (0 : Int32))] [] m1) ∧ (v2 = 0 → Q (some (.int (-1 : Int32))) m1))))) : Ct ad μX12_beats (d + 1) [.ref (ad 187), .int x1] m Q := by
  refine Ct.of (by decide +kernel) rfl (Nat.le_of_ble_eq_true rfl) ?_
  refine aw_eq (L' := [(0, .ref (ad 187)), (1, .int x1)]) ?_ rfl rfl rfl
  refine aw_aload_n (j := 0) dX12_beats_0 rfl rfl ?_
  refine aw_iconst (v := 0) dX12_beats_1 (by decide) ?_
  refine aw_putI dX12_beats_2 f_X12_110 cl_X12 rfl ly_187 rfl rfl rfl ?_
  refine aw_aload_n (j := 0) dX12_beats_5 rfl rfl ?_
  refine aw_iload_n (j := 1) dX12_beats_6 rfl rfl ?_
  refine aw_callV (rest := []) [.int x1] dX12_beats_7 ly_187 rfl k_X12_123 rfl h (Nat.le_of_ble_eq_true rfl) (fun v m1 h => ?_)
  obtain ⟨v2, rfl, h⟩ := h
  refine aw_eq (L' := [(0, .ref (ad 187)), (1, .int x1)]) (st' := [.int v2]) (m' := m1) ?_ rfl rfl rfl
  refine aw_if_ne (tgt := 15) dX12_beats_10 (by decide) (fun hc => ?_) (fun hc => ?_)
  · have h := h.1 hc
    refine aw_iconst (v := 0) dX12_beats_15 (by decide) ?_
    refine aw_istore_n (L' := [(2, .int (0 : Int32)), (0, .ref (ad 187)), (1, .int x1)]) dX12_beats_16 rfl (by decide) rfl ?_
    refine aw_iconst (v := 0) dX12_beats_17 (by decide) ?_
    refine aw_istore_n (L' := [(3, .int (0 : Int32)), (2, .int (0 : Int32)), (0, .ref (ad 187)), (1, .int x1)]) dX12_beats_18 rfl (by decide) rfl ?_
    exact aw_sub [2, 3, 1, 0] rfl h
  · have h := h.2 hc
    refine aw_iconst (v := -1) dX12_beats_13 (by decide) ?_
    exact aw_ret (v := some (.int (-1 : Int32))) rfl (Or.inr (Or.inl ⟨_, .int, rfl, rfl, rfl, dX12_beats_14⟩)) h
set_option maxRecDepth 100000 in
set_option maxHeartbeats 4000000 in
theorem g_X12_beats_19 {ad : Nat → Nat} {d : Nat} {Q : Option Value → Wm → Prop} {m : Wm} {x1 x2 x3 : Int32} (h : (((m.1 187 1) ≤ x3 → (Ct ad μX12_tell d [.ref (ad 187), .long x2.toInt64] (uI m 187 16 (0 : Int32)) (fun r m1 => r = none ∧ (Ct ad μX12_beatenBy d [.ref (ad 187), .int x1] m1 (fun r m2 => ∃ v3 : Int32, r = some (.int v3) ∧ Q (some (.int v3)) m2))))) ∧ (¬ (m.1 187 1) ≤ x3 → ((x3 = x1 → AW ad E0 μX12_beats (d + 1) Q 19 [(0, .ref (ad 187)), (1, .int x1), (2, .int (x2 ||| (0 : Int32))), (3, .int (x3 + (1 : Int32)))] [] m) ∧ (¬ x3 = x1 → (Ct ad μX12_winner d [.ref (ad 187), .int x1, .int x3, .int (0 : Int32)] m (fun r m4 => ∃ v5 : Int32, r = some (.int v5) ∧ ((¬ v5 = (2 : Int32) → AW ad E0 μX12_beats (d + 1) Q 19 [(0, .ref (ad 187)), (1, .int x1), (2, .int (x2 ||| (0 : Int32))), (3, .int (x3 + (1 : Int32)))] [] m4) ∧ (v5 = (2 : Int32) → AW ad E0 μX12_beats (d + 1) Q 19 [(0, .ref (ad 187)), (1, .int x1), (2, .int (x2 ||| ((1 : Int32) <<< (x3 &&& 31)))), (3, .int (x3 + (1 : Int32)))] [] m4))))))))) : AW ad E0 μX12_beats (d + 1) Q 19 [(0, .ref (ad 187)), (1, .int x1), (2, .int x2), (3, .int x3)] [] m := by
  refine aw_iload_n (j := 3) dX12_beats_19 rfl rfl ?_
  refine aw_aload_n (j := 0) dX12_beats_20 rfl rfl ?_
  refine aw_getfield (c := 0) (v := .int (m.1 187 1)) dX12_beats_21 f_X12_116 ly_187 rfl rfl ?_
  refine aw_icmp_ge (tgt := 59) dX12_beats_24 (by decide) (fun hc => ?_) (fun hc => ?_)
  · have h := h.1 hc
    refine aw_aload_n (j := 0) dX12_beats_59 rfl rfl ?_
    refine aw_iconst (v := 0) dX12_beats_60 (by decide) ?_
    refine aw_putI dX12_beats_61 f_X12_113 cl_X12 rfl ly_187 rfl rfl rfl ?_
    refine aw_aload_n (j := 0) dX12_beats_64 rfl rfl ?_
    refine aw_iload_n (j := 2) dX12_beats_65 rfl rfl ?_
    refine aw_i2l dX12_beats_66 ?_
    refine aw_callV (rest := []) [.long x2.toInt64] dX12_beats_67 ly_187 rfl k_X12_131 rfl h (Nat.le_of_ble_eq_true rfl) (fun v m1 h => ?_)
    obtain ⟨rfl, h⟩ := h
    refine aw_eq (L' := [(0, .ref (ad 187)), (1, .int x1), (2, .int x2), (3, .int x3)]) (st' := []) (m' := m1) ?_ rfl rfl rfl
    refine aw_aload_n (j := 0) dX12_beats_70 rfl rfl ?_
    refine aw_iload_n (j := 1) dX12_beats_71 rfl rfl ?_
    refine aw_callV (rest := []) [.int x1] dX12_beats_72 ly_187 rfl k_X12_332 rfl h (Nat.le_of_ble_eq_true rfl) (fun v m2 h => ?_)
    obtain ⟨v3, rfl, h⟩ := h
    refine aw_eq (L' := [(0, .ref (ad 187)), (1, .int x1), (2, .int x2), (3, .int x3)]) (st' := [.int v3]) (m' := m2) ?_ rfl rfl rfl
    exact aw_ret (v := some (.int v3)) rfl (Or.inr (Or.inl ⟨_, .int, rfl, rfl, rfl, dX12_beats_75⟩)) h
  · have h := h.2 hc
    refine aw_iload_n (j := 2) dX12_beats_27 rfl rfl ?_
    refine aw_iload_n (j := 3) dX12_beats_28 rfl rfl ?_
    refine aw_iload_n (j := 1) dX12_beats_29 rfl rfl ?_
    refine aw_icmp_eq (tgt := 50) dX12_beats_30 (by decide) (fun hc => ?_) (fun hc => ?_)
    · have h := h.1 hc
      refine aw_iconst (v := 0) dX12_beats_50 (by decide) ?_
      refine aw_ior dX12_beats_51 ?_
      refine aw_istore_n (L' := [(2, .int (x2 ||| (0 : Int32))), (0, .ref (ad 187)), (1, .int x1), (3, .int x3)]) dX12_beats_52 rfl (by decide) rfl ?_
      refine aw_iinc (j := 3) (v := x3 + (1 : Int32)) (L' := [(3, .int (x3 + (1 : Int32))), (2, .int (x2 ||| (0 : Int32))), (0, .ref (ad 187)), (1, .int x1)]) dX12_beats_53 rfl rfl (by decide) rfl ?_
      refine aw_goto (tgt := 19) dX12_beats_56 (by decide) ?_
      exact aw_sub [2, 3, 1, 0] rfl h
    · have h := h.2 hc
      refine aw_aload_n (j := 0) dX12_beats_33 rfl rfl ?_
      refine aw_iload_n (j := 1) dX12_beats_34 rfl rfl ?_
      refine aw_iload_n (j := 3) dX12_beats_35 rfl rfl ?_
      refine aw_iconst (v := 0) dX12_beats_36 (by decide) ?_
      refine aw_callV (rest := [.int x2]) [.int x1, .int x3, .int (0 : Int32)] dX12_beats_37 ly_187 rfl k_X12_273 rfl h (Nat.le_of_ble_eq_true rfl) (fun v m4 h => ?_)
      obtain ⟨v5, rfl, h⟩ := h
      refine aw_eq (L' := [(0, .ref (ad 187)), (1, .int x1), (2, .int x2), (3, .int x3)]) (st' := [.int v5, .int x2]) (m' := m4) ?_ rfl rfl rfl
      refine aw_iconst (v := 2) dX12_beats_40 (by decide) ?_
      refine aw_icmp_ne (tgt := 50) dX12_beats_41 (by decide) (fun hc => ?_) (fun hc => ?_)
      · have h := h.1 hc
        refine aw_iconst (v := 0) dX12_beats_50 (by decide) ?_
        refine aw_ior dX12_beats_51 ?_
        refine aw_istore_n (L' := [(2, .int (x2 ||| (0 : Int32))), (0, .ref (ad 187)), (1, .int x1), (3, .int x3)]) dX12_beats_52 rfl (by decide) rfl ?_
        refine aw_iinc (j := 3) (v := x3 + (1 : Int32)) (L' := [(3, .int (x3 + (1 : Int32))), (2, .int (x2 ||| (0 : Int32))), (0, .ref (ad 187)), (1, .int x1)]) dX12_beats_53 rfl rfl (by decide) rfl ?_
        refine aw_goto (tgt := 19) dX12_beats_56 (by decide) ?_
        exact aw_sub [2, 3, 1, 0] rfl h
      · have h := h.2 hc
        refine aw_iconst (v := 1) dX12_beats_44 (by decide) ?_
        refine aw_iload_n (j := 3) dX12_beats_45 rfl rfl ?_
        refine aw_ishl dX12_beats_46 ?_
        refine aw_goto (tgt := 51) dX12_beats_47 (by decide) ?_
        refine aw_ior dX12_beats_51 ?_
        refine aw_istore_n (L' := [(2, .int (x2 ||| ((1 : Int32) <<< (x3 &&& 31)))), (0, .ref (ad 187)), (1, .int x1), (3, .int x3)]) dX12_beats_52 rfl (by decide) rfl ?_
        refine aw_iinc (j := 3) (v := x3 + (1 : Int32)) (L' := [(3, .int (x3 + (1 : Int32))), (2, .int (x2 ||| ((1 : Int32) <<< (x3 &&& 31)))), (0, .ref (ad 187)), (1, .int x1)]) dX12_beats_53 rfl rfl (by decide) rfl ?_
        refine aw_goto (tgt := 19) dX12_beats_56 (by decide) ?_
        exact aw_sub [2, 3, 1, 0] rfl h
set_option maxRecDepth 100000 in
set_option maxHeartbeats 4000000 in
theorem v_X12_kings {ad : Nat → Nat} {d : Nat} {Q : Option Value → Wm → Prop} {m : Wm} (h : AW ad E0 μX12_kings (d + 1) Q 11 [(0, .ref (ad 187)), (1, .int (0 : Int32)), (2, .int (0 : Int32)), (3, .int (0 : Int32))] [] (uI m 187 17 (0 : Int32))) : Ct ad μX12_kings (d + 1) [.ref (ad 187)] m Q := by
  refine Ct.of (by decide +kernel) rfl (Nat.le_of_ble_eq_true rfl) ?_
  refine aw_eq (L' := [(0, .ref (ad 187))]) ?_ rfl rfl rfl
  refine aw_aload_n (j := 0) dX12_kings_0 rfl rfl ?_
  refine aw_iconst (v := 0) dX12_kings_1 (by decide) ?_
  refine aw_putI dX12_kings_2 f_X12_110 cl_X12 rfl ly_187 rfl rfl rfl ?_
  refine aw_iconst (v := 0) dX12_kings_5 (by decide) ?_
  refine aw_istore_n (L' := [(1, .int (0 : Int32)), (0, .ref (ad 187))]) dX12_kings_6 rfl (by decide) rfl ?_
  refine aw_iconst (v := 0) dX12_kings_7 (by decide) ?_
  refine aw_istore_n (L' := [(2, .int (0 : Int32)), (1, .int (0 : Int32)), (0, .ref (ad 187))]) dX12_kings_8 rfl (by decide) rfl ?_
  refine aw_iconst (v := 0) dX12_kings_9 (by decide) ?_
  refine aw_istore_n (L' := [(3, .int (0 : Int32)), (2, .int (0 : Int32)), (1, .int (0 : Int32)), (0, .ref (ad 187))]) dX12_kings_10 rfl (by decide) rfl ?_
  exact aw_sub [3, 2, 1, 0] rfl h
set_option maxRecDepth 100000 in
set_option maxHeartbeats 4000000 in
theorem g_X12_kings_11 {ad : Nat → Nat} {d : Nat} {Q : Option Value → Wm → Prop} {m : Wm} {x1 x2 x3 : Int32} (h : (((m.1 187 1) ≤ x3 → (Ct ad μX12_tell d [.ref (ad 187), .long x2.toInt64] (uI m 187 16 (0 : Int32)) (fun r m1 => r = none ∧ Q (some (.int x1)) m1))) ∧ (¬ (m.1 187 1) ≤ x3 → (Ct ad μX12_beatenBy d [.ref (ad 187), .int x3] m (fun r m2 => ∃ v3 : Int32, r = some (.int v3) ∧ AW ad E0 μX12_kings (d + 1) Q 37 [(0, .ref (ad 187)), (1, .int x1), (2, .int x2), (3, .int x3), (4, .int v3), (5, .int (v3 ||| ((1 : Int32) <<< (x3 &&& 31)))), (6, .int (0 : Int32))] [] m2))))) : AW ad E0 μX12_kings (d + 1) Q 11 [(0, .ref (ad 187)), (1, .int x1), (2, .int x2), (3, .int x3)] [] m := by
  refine aw_iload_n (j := 3) dX12_kings_11 rfl rfl ?_
  refine aw_aload_n (j := 0) dX12_kings_12 rfl rfl ?_
  refine aw_getfield (c := 0) (v := .int (m.1 187 1)) dX12_kings_13 f_X12_116 ly_187 rfl rfl ?_
  refine aw_icmp_ge (tgt := 121) dX12_kings_16 (by decide) (fun hc => ?_) (fun hc => ?_)
  · have h := h.1 hc
    refine aw_aload_n (j := 0) dX12_kings_121 rfl rfl ?_
    refine aw_iconst (v := 0) dX12_kings_122 (by decide) ?_
    refine aw_putI dX12_kings_123 f_X12_113 cl_X12 rfl ly_187 rfl rfl rfl ?_
    refine aw_aload_n (j := 0) dX12_kings_126 rfl rfl ?_
    refine aw_iload_n (j := 2) dX12_kings_127 rfl rfl ?_
    refine aw_i2l dX12_kings_128 ?_
    refine aw_callV (rest := []) [.long x2.toInt64] dX12_kings_129 ly_187 rfl k_X12_131 rfl h (Nat.le_of_ble_eq_true rfl) (fun v m1 h => ?_)
    obtain ⟨rfl, h⟩ := h
    refine aw_eq (L' := [(0, .ref (ad 187)), (1, .int x1), (2, .int x2), (3, .int x3)]) (st' := []) (m' := m1) ?_ rfl rfl rfl
    refine aw_iload_n (j := 1) dX12_kings_132 rfl rfl ?_
    exact aw_ret (v := some (.int x1)) rfl (Or.inr (Or.inl ⟨_, .int, rfl, rfl, rfl, dX12_kings_133⟩)) h
  · have h := h.2 hc
    refine aw_aload_n (j := 0) dX12_kings_19 rfl rfl ?_
    refine aw_iload_n (j := 3) dX12_kings_20 rfl rfl ?_
    refine aw_callV (rest := []) [.int x3] dX12_kings_21 ly_187 rfl k_X12_332 rfl h (Nat.le_of_ble_eq_true rfl) (fun v m2 h => ?_)
    obtain ⟨v3, rfl, h⟩ := h
    refine aw_eq (L' := [(0, .ref (ad 187)), (1, .int x1), (2, .int x2), (3, .int x3)]) (st' := [.int v3]) (m' := m2) ?_ rfl rfl rfl
    refine aw_istore (L' := [(4, .int v3), (0, .ref (ad 187)), (1, .int x1), (2, .int x2), (3, .int x3)]) dX12_kings_24 (by decide) rfl ?_
    refine aw_iload (j := 0) dX12_kings_26 rfl ?_
    refine aw_iconst (v := 1) dX12_kings_28 (by decide) ?_
    refine aw_iload_n (j := 4) dX12_kings_29 rfl rfl ?_
    refine aw_ishl dX12_kings_30 ?_
    refine aw_ior dX12_kings_31 ?_
    refine aw_istore (L' := [(5, .int (v3 ||| ((1 : Int32) <<< (x3 &&& 31)))), (4, .int v3), (0, .ref (ad 187)), (1, .int x1), (2, .int x2), (3, .int x3)]) dX12_kings_32 (by decide) rfl ?_
    refine aw_iconst (v := 0) dX12_kings_34 (by decide) ?_
    refine aw_istore (L' := [(6, .int (0 : Int32)), (5, .int (v3 ||| ((1 : Int32) <<< (x3 &&& 31)))), (4, .int v3), (0, .ref (ad 187)), (1, .int x1), (2, .int x2), (3, .int x3)]) dX12_kings_35 (by decide) rfl ?_
    exact aw_sub [3, 4, 5, 6, 2, 1, 0] rfl h
set_option maxRecDepth 100000 in
set_option maxHeartbeats 4000000 in
theorem g_X12_kings_37 {ad : Nat → Nat} {d : Nat} {Q : Option Value → Wm → Prop} {m : Wm} {x1 x2 x3 x4 x5 x6 : Int32} (h : (((m.1 187 1) ≤ x6 → ((¬ x5 = (((1 : Int32) <<< ((m.1 187 1) &&& 31)) - (1 : Int32)) → AW ad E0 μX12_kings (d + 1) Q 98 [(0, .ref (ad 187)), (2, .int x2), (3, .int x3), (4, .int x4)] [.int (0 : Int32), .int x1] m) ∧ (x5 = (((1 : Int32) <<< ((m.1 187 1) &&& 31)) - (1 : Int32)) → AW ad E0 μX12_kings (d + 1) Q 98 [(0, .ref (ad 187)), (2, .int x2), (3, .int x3), (4, .int x4)] [.int ((1 : Int32) <<< (x3 &&& 31)), .int x1] m))) ∧ (¬ (m.1 187 1) ≤ x6 → (Ct ad μX12_has d [.int x4, .int x6] m (fun r m1 => ∃ v2 : Int32, r = some (.int v2) ∧ ((v2 = 0 → AW ad E0 μX12_kings (d + 1) Q 37 [(0, .ref (ad 187)), (1, .int x1), (2, .int x2), (3, .int x3), (4, .int x4), (5, .int (x5 ||| (0 : Int32))), (6, .int (x6 + (1 : Int32)))] [] m1) ∧ (¬ v2 = 0 → (Ct ad μX12_beatenBy d [.ref (ad 187), .int x6] m1 (fun r m3 => ∃ v4 : Int32, r = some (.int v4) ∧ AW ad E0 μX12_kings (d + 1) Q 37 [(0, .ref (ad 187)), (1, .int x1), (2, .int x2), (3, .int x3), (4, .int x4), (5, .int (x5 ||| v4)), (6, .int (x6 + (1 : Int32)))] [] m3))))))))) : AW ad E0 μX12_kings (d + 1) Q 37 [(0, .ref (ad 187)), (1, .int x1), (2, .int x2), (3, .int x3), (4, .int x4), (5, .int x5), (6, .int x6)] [] m := by
  refine aw_iload (j := 6) dX12_kings_37 rfl ?_
  refine aw_aload_n (j := 0) dX12_kings_39 rfl rfl ?_
  refine aw_getfield (c := 0) (v := .int (m.1 187 1)) dX12_kings_40 f_X12_116 ly_187 rfl rfl ?_
  refine aw_icmp_ge (tgt := 77) dX12_kings_43 (by decide) (fun hc => ?_) (fun hc => ?_)
  · have h := h.1 hc
    refine aw_iload_n (j := 1) dX12_kings_77 rfl rfl ?_
    refine aw_iload (j := 5) dX12_kings_78 rfl ?_
    refine aw_iconst (v := 1) dX12_kings_80 (by decide) ?_
    refine aw_aload_n (j := 0) dX12_kings_81 rfl rfl ?_
    refine aw_getfield (c := 0) (v := .int (m.1 187 1)) dX12_kings_82 f_X12_116 ly_187 rfl rfl ?_
    refine aw_ishl dX12_kings_85 ?_
    refine aw_iconst (v := 1) dX12_kings_86 (by decide) ?_
    refine aw_isub dX12_kings_87 ?_
    refine aw_icmp_ne (tgt := 97) dX12_kings_88 (by decide) (fun hc => ?_) (fun hc => ?_)
    · have h := h.1 hc
      refine aw_iconst (v := 0) dX12_kings_97 (by decide) ?_
      exact aw_sub [0, 2, 3, 4] rfl h
    · have h := h.2 hc
      refine aw_iconst (v := 1) dX12_kings_91 (by decide) ?_
      refine aw_iload_n (j := 3) dX12_kings_92 rfl rfl ?_
      refine aw_ishl dX12_kings_93 ?_
      refine aw_goto (tgt := 98) dX12_kings_94 (by decide) ?_
      exact aw_sub [0, 2, 3, 4] rfl h
  · have h := h.2 hc
    refine aw_iload (j := 5) dX12_kings_46 rfl ?_
    refine aw_iload (j := 4) dX12_kings_48 rfl ?_
    refine aw_iload (j := 6) dX12_kings_50 rfl ?_
    refine aw_callS (rest := [.int x5]) [.int x4, .int x6] dX12_kings_52 k_X12_207 rfl h (Nat.le_of_ble_eq_true rfl) (fun v m1 h => ?_)
    obtain ⟨v2, rfl, h⟩ := h
    refine aw_eq (L' := [(0, .ref (ad 187)), (1, .int x1), (2, .int x2), (3, .int x3), (4, .int x4), (5, .int x5), (6, .int x6)]) (st' := [.int v2, .int x5]) (m' := m1) ?_ rfl rfl rfl
    refine aw_if_eq (tgt := 67) dX12_kings_55 (by decide) (fun hc => ?_) (fun hc => ?_)
    · have h := h.1 hc
      refine aw_iconst (v := 0) dX12_kings_67 (by decide) ?_
      refine aw_ior dX12_kings_68 ?_
      refine aw_istore (L' := [(5, .int (x5 ||| (0 : Int32))), (0, .ref (ad 187)), (1, .int x1), (2, .int x2), (3, .int x3), (4, .int x4), (6, .int x6)]) dX12_kings_69 (by decide) rfl ?_
      refine aw_iinc (j := 6) (v := x6 + (1 : Int32)) (L' := [(6, .int (x6 + (1 : Int32))), (5, .int (x5 ||| (0 : Int32))), (0, .ref (ad 187)), (1, .int x1), (2, .int x2), (3, .int x3), (4, .int x4)]) dX12_kings_71 rfl rfl (by decide) rfl ?_
      refine aw_goto (tgt := 37) dX12_kings_74 (by decide) ?_
      exact aw_sub [2, 3, 4, 5, 6, 1, 0] rfl h
    · have h := h.2 hc
      refine aw_aload_n (j := 0) dX12_kings_58 rfl rfl ?_
      refine aw_iload (j := 6) dX12_kings_59 rfl ?_
      refine aw_callV (rest := [.int x5]) [.int x6] dX12_kings_61 ly_187 rfl k_X12_332 rfl h (Nat.le_of_ble_eq_true rfl) (fun v m3 h => ?_)
      obtain ⟨v4, rfl, h⟩ := h
      refine aw_eq (L' := [(0, .ref (ad 187)), (1, .int x1), (2, .int x2), (3, .int x3), (4, .int x4), (5, .int x5), (6, .int x6)]) (st' := [.int v4, .int x5]) (m' := m3) ?_ rfl rfl rfl
      refine aw_goto (tgt := 68) dX12_kings_64 (by decide) ?_
      refine aw_ior dX12_kings_68 ?_
      refine aw_istore (L' := [(5, .int (x5 ||| v4)), (0, .ref (ad 187)), (1, .int x1), (2, .int x2), (3, .int x3), (4, .int x4), (6, .int x6)]) dX12_kings_69 (by decide) rfl ?_
      refine aw_iinc (j := 6) (v := x6 + (1 : Int32)) (L' := [(6, .int (x6 + (1 : Int32))), (5, .int (x5 ||| v4)), (0, .ref (ad 187)), (1, .int x1), (2, .int x2), (3, .int x3), (4, .int x4)]) dX12_kings_71 rfl rfl (by decide) rfl ?_
      refine aw_goto (tgt := 37) dX12_kings_74 (by decide) ?_
      exact aw_sub [2, 3, 4, 5, 6, 1, 0] rfl h
set_option maxRecDepth 100000 in
set_option maxHeartbeats 4000000 in
theorem g_X12_kings_98 {ad : Nat → Nat} {d : Nat} {Q : Option Value → Wm → Prop} {m : Wm} {x2 x3 x4 s0 s1 : Int32} (h : ((¬ x4 = 0 → AW ad E0 μX12_kings (d + 1) Q 11 [(0, .ref (ad 187)), (1, .int (s1 ||| s0)), (2, .int (x2 ||| (0 : Int32))), (3, .int (x3 + (1 : Int32)))] [] m) ∧ (x4 = 0 → AW ad E0 μX12_kings (d + 1) Q 11 [(0, .ref (ad 187)), (1, .int (s1 ||| s0)), (2, .int (x2 ||| ((1 : Int32) <<< (x3 &&& 31)))), (3, .int (x3 + (1 : Int32)))] [] m))) : AW ad E0 μX12_kings (d + 1) Q 98 [(0, .ref (ad 187)), (2, .int x2), (3, .int x3), (4, .int x4)] [.int s0, .int s1] m := by
  refine aw_ior dX12_kings_98 ?_
  refine aw_istore_n (L' := [(1, .int (s1 ||| s0)), (0, .ref (ad 187)), (2, .int x2), (3, .int x3), (4, .int x4)]) dX12_kings_99 rfl (by decide) rfl ?_
  refine aw_iload_n (j := 2) dX12_kings_100 rfl rfl ?_
  refine aw_iload (j := 4) dX12_kings_101 rfl ?_
  refine aw_if_ne (tgt := 112) dX12_kings_103 (by decide) (fun hc => ?_) (fun hc => ?_)
  · have h := h.1 hc
    refine aw_iconst (v := 0) dX12_kings_112 (by decide) ?_
    refine aw_ior dX12_kings_113 ?_
    refine aw_istore_n (L' := [(2, .int (x2 ||| (0 : Int32))), (1, .int (s1 ||| s0)), (0, .ref (ad 187)), (3, .int x3), (4, .int x4)]) dX12_kings_114 rfl (by decide) rfl ?_
    refine aw_iinc (j := 3) (v := x3 + (1 : Int32)) (L' := [(3, .int (x3 + (1 : Int32))), (2, .int (x2 ||| (0 : Int32))), (1, .int (s1 ||| s0)), (0, .ref (ad 187)), (4, .int x4)]) dX12_kings_115 rfl rfl (by decide) rfl ?_
    refine aw_goto (tgt := 11) dX12_kings_118 (by decide) ?_
    exact aw_sub [3, 2, 1, 0] rfl h
  · have h := h.2 hc
    refine aw_iconst (v := 1) dX12_kings_106 (by decide) ?_
    refine aw_iload_n (j := 3) dX12_kings_107 rfl rfl ?_
    refine aw_ishl dX12_kings_108 ?_
    refine aw_goto (tgt := 113) dX12_kings_109 (by decide) ?_
    refine aw_ior dX12_kings_113 ?_
    refine aw_istore_n (L' := [(2, .int (x2 ||| ((1 : Int32) <<< (x3 &&& 31)))), (1, .int (s1 ||| s0)), (0, .ref (ad 187)), (3, .int x3), (4, .int x4)]) dX12_kings_114 rfl (by decide) rfl ?_
    refine aw_iinc (j := 3) (v := x3 + (1 : Int32)) (L' := [(3, .int (x3 + (1 : Int32))), (2, .int (x2 ||| ((1 : Int32) <<< (x3 &&& 31)))), (1, .int (s1 ||| s0)), (0, .ref (ad 187)), (4, .int x4)]) dX12_kings_115 rfl rfl (by decide) rfl ?_
    refine aw_goto (tgt := 11) dX12_kings_118 (by decide) ?_
    exact aw_sub [3, 2, 1, 0] rfl h
set_option maxRecDepth 100000 in
set_option maxHeartbeats 4000000 in
theorem v_X12_master {ad : Nat → Nat} {d : Nat} {Q : Option Value → Wm → Prop} {m : Wm} {x1 : Int32} (h : (Ct ad μX12_isArt d [.ref (ad 187), .int x1] (uI m 187 17 (0 : Int32)) (fun r m1 => ∃ v2 : Int32, r = some (.int v2) ∧ ((¬ v2 = 0 → ((¬ (m1.1 187 1) = 0 → AW ad E0 μX12_master (d + 1) Q 33 [(0, .ref (ad 187)), (1, .int x1), (2, .int (0 : Int32)), (3, .int (7 : Int32)), (4, .int (0 : Int32))] [] m1) ∧ ((m1.1 187 1) = 0 → Q (some (.int (-2 : Int32))) m1))) ∧ (v2 = 0 → Q (some (.int (-1 : Int32))) m1))))) : Ct ad μX12_master (d + 1) [.ref (ad 187), .int x1] m Q := by
  refine Ct.of (by decide +kernel) rfl (Nat.le_of_ble_eq_true rfl) ?_
  refine aw_eq (L' := [(0, .ref (ad 187)), (1, .int x1)]) ?_ rfl rfl rfl
  refine aw_aload_n (j := 0) dX12_master_0 rfl rfl ?_
  refine aw_iconst (v := 0) dX12_master_1 (by decide) ?_
  refine aw_putI dX12_master_2 f_X12_110 cl_X12 rfl ly_187 rfl rfl rfl ?_
  refine aw_aload_n (j := 0) dX12_master_5 rfl rfl ?_
  refine aw_iload_n (j := 1) dX12_master_6 rfl rfl ?_
  refine aw_callV (rest := []) [.int x1] dX12_master_7 ly_187 rfl k_X12_244 rfl h (Nat.le_of_ble_eq_true rfl) (fun v m1 h => ?_)
  obtain ⟨v2, rfl, h⟩ := h
  refine aw_eq (L' := [(0, .ref (ad 187)), (1, .int x1)]) (st' := [.int v2]) (m' := m1) ?_ rfl rfl rfl
  refine aw_if_ne (tgt := 15) dX12_master_10 (by decide) (fun hc => ?_) (fun hc => ?_)
  · have h := h.1 hc
    refine aw_aload_n (j := 0) dX12_master_15 rfl rfl ?_
    refine aw_getfield (c := 0) (v := .int (m1.1 187 1)) dX12_master_16 f_X12_116 ly_187 rfl rfl ?_
    refine aw_if_ne (tgt := 25) dX12_master_19 (by decide) (fun hc => ?_) (fun hc => ?_)
    · have h := h.1 hc
      refine aw_iconst (v := 0) dX12_master_25 (by decide) ?_
      refine aw_istore_n (L' := [(2, .int (0 : Int32)), (0, .ref (ad 187)), (1, .int x1)]) dX12_master_26 rfl (by decide) rfl ?_
      refine aw_bipush (v := 7) dX12_master_27 (by decide) ?_
      refine aw_istore_n (L' := [(3, .int (7 : Int32)), (2, .int (0 : Int32)), (0, .ref (ad 187)), (1, .int x1)]) dX12_master_29 rfl (by decide) rfl ?_
      refine aw_iconst (v := 0) dX12_master_30 (by decide) ?_
      refine aw_istore (L' := [(4, .int (0 : Int32)), (3, .int (7 : Int32)), (2, .int (0 : Int32)), (0, .ref (ad 187)), (1, .int x1)]) dX12_master_31 (by decide) rfl ?_
      exact aw_sub [3, 4, 2, 1, 0] rfl h
    · have h := h.2 hc
      refine aw_bipush (v := -2) dX12_master_22 (by decide) ?_
      exact aw_ret (v := some (.int (-2 : Int32))) rfl (Or.inr (Or.inl ⟨_, .int, rfl, rfl, rfl, dX12_master_24⟩)) h
  · have h := h.2 hc
    refine aw_iconst (v := -1) dX12_master_13 (by decide) ?_
    exact aw_ret (v := some (.int (-1 : Int32))) rfl (Or.inr (Or.inl ⟨_, .int, rfl, rfl, rfl, dX12_master_14⟩)) h
set_option maxRecDepth 100000 in
set_option maxHeartbeats 4000000 in
theorem g_X12_master_33 {ad : Nat → Nat} {d : Nat} {Q : Option Value → Wm → Prop} {m : Wm} {x1 x2 x3 x4 : Int32} (h : (((m.1 187 1) ≤ x4 → AW ad E0 μX12_master (d + 1) Q 97 [(0, .ref (ad 187)), (1, .int x1), (2, .int x2), (3, .int x3), (4, .int (0 : Int32)), (5, .int (0 : Int32))] [] m) ∧ (¬ (m.1 187 1) ≤ x4 → (vp_in (((4 : Int32) * x4) + x1) 32 ∧ (vp_in (((4 : Int32) * x2) + x1) 32 ∧ (((m.1 188 (((4 : Int32) * x4) + x1).toNatClampNeg) ≤ (m.1 188 (((4 : Int32) * x2) + x1).toNatClampNeg) → AW ad E0 μX12_master (d + 1) Q 69 [(0, .ref (ad 187)), (1, .int x1), (2, .int x2), (3, .int x3), (4, .int x4)] [] m) ∧ (¬ (m.1 188 (((4 : Int32) * x4) + x1).toNatClampNeg) ≤ (m.1 188 (((4 : Int32) * x2) + x1).toNatClampNeg) → AW ad E0 μX12_master (d + 1) Q 69 [(0, .ref (ad 187)), (1, .int x1), (2, .int x4), (3, .int x3), (4, .int x4)] [] m))))))) : AW ad E0 μX12_master (d + 1) Q 33 [(0, .ref (ad 187)), (1, .int x1), (2, .int x2), (3, .int x3), (4, .int x4)] [] m := by
  refine aw_iload (j := 4) dX12_master_33 rfl ?_
  refine aw_aload_n (j := 0) dX12_master_35 rfl rfl ?_
  refine aw_getfield (c := 0) (v := .int (m.1 187 1)) dX12_master_36 f_X12_116 ly_187 rfl rfl ?_
  refine aw_icmp_ge (tgt := 91) dX12_master_39 (by decide) (fun hc => ?_) (fun hc => ?_)
  · have h := h.1 hc
    refine aw_iconst (v := 0) dX12_master_91 (by decide) ?_
    refine aw_istore (L' := [(4, .int (0 : Int32)), (0, .ref (ad 187)), (1, .int x1), (2, .int x2), (3, .int x3)]) dX12_master_92 (by decide) rfl ?_
    refine aw_iconst (v := 0) dX12_master_94 (by decide) ?_
    refine aw_istore (L' := [(5, .int (0 : Int32)), (4, .int (0 : Int32)), (0, .ref (ad 187)), (1, .int x1), (2, .int x2), (3, .int x3)]) dX12_master_95 (by decide) rfl ?_
    exact aw_sub [2, 3, 4, 5, 1, 0] rfl h
  · have h := h.2 hc
    refine aw_aload_n (j := 0) dX12_master_42 rfl rfl ?_
    refine aw_getfield (c := 191) (v := .ref (ad 188)) dX12_master_43 f_X12_13 ly_187 rfl rfl ?_
    refine aw_iconst (v := 4) dX12_master_46 (by decide) ?_
    refine aw_iload (j := 4) dX12_master_47 rfl ?_
    refine aw_imul dX12_master_49 ?_
    refine aw_iload_n (j := 1) dX12_master_50 rfl rfl ?_
    refine aw_iadd dX12_master_51 ?_
    obtain ⟨hi, h⟩ := h
    refine aw_iaload dX12_master_52 ly_188 hi ?_
    refine aw_aload_n (j := 0) dX12_master_53 rfl rfl ?_
    refine aw_getfield (c := 191) (v := .ref (ad 188)) dX12_master_54 f_X12_13 ly_187 rfl rfl ?_
    refine aw_iconst (v := 4) dX12_master_57 (by decide) ?_
    refine aw_iload_n (j := 2) dX12_master_58 rfl rfl ?_
    refine aw_imul dX12_master_59 ?_
    refine aw_iload_n (j := 1) dX12_master_60 rfl rfl ?_
    refine aw_iadd dX12_master_61 ?_
    obtain ⟨hi, h⟩ := h
    refine aw_iaload dX12_master_62 ly_188 hi ?_
    refine aw_icmp_le (tgt := 69) dX12_master_63 (by decide) (fun hc => ?_) (fun hc => ?_)
    · have h := h.1 hc
      exact aw_sub [0, 1, 2, 3, 4] rfl h
    · have h := h.2 hc
      refine aw_iload (j := 4) dX12_master_66 rfl ?_
      refine aw_istore_n (L' := [(2, .int x4), (0, .ref (ad 187)), (1, .int x1), (3, .int x3), (4, .int x4)]) dX12_master_68 rfl (by decide) rfl ?_
      exact aw_sub [1, 2, 0, 3, 4] rfl h
set_option maxRecDepth 100000 in
set_option maxHeartbeats 4000000 in
theorem g_X12_master_69 {ad : Nat → Nat} {d : Nat} {Q : Option Value → Wm → Prop} {m : Wm} {x1 x2 x3 x4 : Int32} (h : (vp_in (((4 : Int32) * x4) + x1) 32 ∧ AW ad E0 μX12_master (d + 1) Q 33 [(0, .ref (ad 187)), (1, .int x1), (2, .int x2), (3, .int (if (m.1 188 (((4 : Int32) * x4) + x1).toNatClampNeg) < x3 then (m.1 188 (((4 : Int32) * x4) + x1).toNatClampNeg) else x3)), (4, .int (x4 + (1 : Int32)))] [] m)) : AW ad E0 μX12_master (d + 1) Q 69 [(0, .ref (ad 187)), (1, .int x1), (2, .int x2), (3, .int x3), (4, .int x4)] [] m := by
  refine aw_iload_n (j := 3) dX12_master_69 rfl rfl ?_
  refine aw_aload_n (j := 0) dX12_master_70 rfl rfl ?_
  refine aw_getfield (c := 191) (v := .ref (ad 188)) dX12_master_71 f_X12_13 ly_187 rfl rfl ?_
  refine aw_iconst (v := 4) dX12_master_74 (by decide) ?_
  refine aw_iload (j := 4) dX12_master_75 rfl ?_
  refine aw_imul dX12_master_77 ?_
  refine aw_iload_n (j := 1) dX12_master_78 rfl rfl ?_
  refine aw_iadd dX12_master_79 ?_
  obtain ⟨hi, h⟩ := h
  refine aw_iaload dX12_master_80 ly_188 hi ?_
  refine aw_min dX12_master_81 k_X12_238 (Nat.le_of_ble_eq_true rfl) ?_
  refine aw_istore_n (L' := [(3, .int (if (m.1 188 (((4 : Int32) * x4) + x1).toNatClampNeg) < x3 then (m.1 188 (((4 : Int32) * x4) + x1).toNatClampNeg) else x3)), (0, .ref (ad 187)), (1, .int x1), (2, .int x2), (4, .int x4)]) dX12_master_84 rfl (by decide) rfl ?_
  refine aw_iinc (j := 4) (v := x4 + (1 : Int32)) (L' := [(4, .int (x4 + (1 : Int32))), (3, .int (if (m.1 188 (((4 : Int32) * x4) + x1).toNatClampNeg) < x3 then (m.1 188 (((4 : Int32) * x4) + x1).toNatClampNeg) else x3)), (0, .ref (ad 187)), (1, .int x1), (2, .int x2)]) dX12_master_85 rfl rfl (by decide) rfl ?_
  refine aw_goto (tgt := 33) dX12_master_88 (by decide) ?_
  exact aw_sub [2, 3, 4, 1, 0] rfl h
set_option maxRecDepth 100000 in
set_option maxHeartbeats 4000000 in
theorem g_X12_master_97 {ad : Nat → Nat} {d : Nat} {Q : Option Value → Wm → Prop} {m : Wm} {x1 x2 x3 x4 x5 : Int32} (h : (((m.1 187 1) ≤ x5 → (vp_in (((4 : Int32) * x2) + x1) 32 ∧ (Ct ad μX12_tell d [.ref (ad 187), .long (((uI m 187 16 (0 : Int32)).1 188 (((4 : Int32) * x2) + x1).toNatClampNeg).toInt64)] (uI m 187 16 (0 : Int32)) (fun r m1 => r = none ∧ (Ct ad μX12_tell d [.ref (ad 187), .long x4.toInt64] m1 (fun r m2 => r = none ∧ (Ct ad μX12_tell d [.ref (ad 187), .long x3.toInt64] m2 (fun r m3 => r = none ∧ Q (some (.int x2)) m3)))))))) ∧ (¬ (m.1 187 1) ≤ x5 → (vp_in (((4 : Int32) * x5) + x1) 32 ∧ (vp_in (((4 : Int32) * x2) + x1) 32 ∧ ((¬ (m.1 188 (((4 : Int32) * x5) + x1).toNatClampNeg) = (m.1 188 (((4 : Int32) * x2) + x1).toNatClampNeg) → AW ad E0 μX12_master (d + 1) Q 97 [(0, .ref (ad 187)), (1, .int x1), (2, .int x2), (3, .int x3), (4, .int (x4 ||| (0 : Int32))), (5, .int (x5 + (1 : Int32)))] [] m) ∧ ((m.1 188 (((4 : Int32) * x5) + x1).toNatClampNeg) = (m.1 188 (((4 : Int32) * x2) + x1).toNatClampNeg) → AW ad E0 μX12_master (d + 1) Q 97 [(0, .ref (ad 187)), (1, .int x1), (2, .int x2), (3, .int x3), (4, .int (x4 ||| ((1 : Int32) <<< (x5 &&& 31)))), (5, .int (x5 + (1 : Int32)))] [] m))))))) : AW ad E0 μX12_master (d + 1) Q 97 [(0, .ref (ad 187)), (1, .int x1), (2, .int x2), (3, .int x3), (4, .int x4), (5, .int x5)] [] m := by
  refine aw_iload (j := 5) dX12_master_97 rfl ?_
  refine aw_aload_n (j := 0) dX12_master_99 rfl rfl ?_
  refine aw_getfield (c := 0) (v := .int (m.1 187 1)) dX12_master_100 f_X12_116 ly_187 rfl rfl ?_
  refine aw_icmp_ge (tgt := 149) dX12_master_103 (by decide) (fun hc => ?_) (fun hc => ?_)
  · have h := h.1 hc
    refine aw_aload_n (j := 0) dX12_master_149 rfl rfl ?_
    refine aw_iconst (v := 0) dX12_master_150 (by decide) ?_
    refine aw_putI dX12_master_151 f_X12_113 cl_X12 rfl ly_187 rfl rfl rfl ?_
    refine aw_aload_n (j := 0) dX12_master_154 rfl rfl ?_
    refine aw_aload_n (j := 0) dX12_master_155 rfl rfl ?_
    refine aw_getfield (c := 191) (v := .ref (ad 188)) dX12_master_156 f_X12_13 ly_187 rfl rfl ?_
    refine aw_iconst (v := 4) dX12_master_159 (by decide) ?_
    refine aw_iload_n (j := 2) dX12_master_160 rfl rfl ?_
    refine aw_imul dX12_master_161 ?_
    refine aw_iload_n (j := 1) dX12_master_162 rfl rfl ?_
    refine aw_iadd dX12_master_163 ?_
    obtain ⟨hi, h⟩ := h
    refine aw_iaload dX12_master_164 ly_188 hi ?_
    refine aw_i2l dX12_master_165 ?_
    refine aw_callV (rest := []) [.long (((uI m 187 16 (0 : Int32)).1 188 (((4 : Int32) * x2) + x1).toNatClampNeg).toInt64)] dX12_master_166 ly_187 rfl k_X12_131 rfl h (Nat.le_of_ble_eq_true rfl) (fun v m1 h => ?_)
    obtain ⟨rfl, h⟩ := h
    refine aw_eq (L' := [(0, .ref (ad 187)), (1, .int x1), (2, .int x2), (3, .int x3), (4, .int x4), (5, .int x5)]) (st' := []) (m' := m1) ?_ rfl rfl rfl
    refine aw_aload_n (j := 0) dX12_master_169 rfl rfl ?_
    refine aw_iload (j := 4) dX12_master_170 rfl ?_
    refine aw_i2l dX12_master_172 ?_
    refine aw_callV (rest := []) [.long x4.toInt64] dX12_master_173 ly_187 rfl k_X12_131 rfl h (Nat.le_of_ble_eq_true rfl) (fun v m2 h => ?_)
    obtain ⟨rfl, h⟩ := h
    refine aw_eq (L' := [(0, .ref (ad 187)), (1, .int x1), (2, .int x2), (3, .int x3), (4, .int x4), (5, .int x5)]) (st' := []) (m' := m2) ?_ rfl rfl rfl
    refine aw_aload_n (j := 0) dX12_master_176 rfl rfl ?_
    refine aw_iload_n (j := 3) dX12_master_177 rfl rfl ?_
    refine aw_i2l dX12_master_178 ?_
    refine aw_callV (rest := []) [.long x3.toInt64] dX12_master_179 ly_187 rfl k_X12_131 rfl h (Nat.le_of_ble_eq_true rfl) (fun v m3 h => ?_)
    obtain ⟨rfl, h⟩ := h
    refine aw_eq (L' := [(0, .ref (ad 187)), (1, .int x1), (2, .int x2), (3, .int x3), (4, .int x4), (5, .int x5)]) (st' := []) (m' := m3) ?_ rfl rfl rfl
    refine aw_iload_n (j := 2) dX12_master_182 rfl rfl ?_
    exact aw_ret (v := some (.int x2)) rfl (Or.inr (Or.inl ⟨_, .int, rfl, rfl, rfl, dX12_master_183⟩)) h
  · have h := h.2 hc
    refine aw_iload (j := 4) dX12_master_106 rfl ?_
    refine aw_aload_n (j := 0) dX12_master_108 rfl rfl ?_
    refine aw_getfield (c := 191) (v := .ref (ad 188)) dX12_master_109 f_X12_13 ly_187 rfl rfl ?_
    refine aw_iconst (v := 4) dX12_master_112 (by decide) ?_
    refine aw_iload (j := 5) dX12_master_113 rfl ?_
    refine aw_imul dX12_master_115 ?_
    refine aw_iload_n (j := 1) dX12_master_116 rfl rfl ?_
    refine aw_iadd dX12_master_117 ?_
    obtain ⟨hi, h⟩ := h
    refine aw_iaload dX12_master_118 ly_188 hi ?_
    refine aw_aload_n (j := 0) dX12_master_119 rfl rfl ?_
    refine aw_getfield (c := 191) (v := .ref (ad 188)) dX12_master_120 f_X12_13 ly_187 rfl rfl ?_
    refine aw_iconst (v := 4) dX12_master_123 (by decide) ?_
    refine aw_iload_n (j := 2) dX12_master_124 rfl rfl ?_
    refine aw_imul dX12_master_125 ?_
    refine aw_iload_n (j := 1) dX12_master_126 rfl rfl ?_
    refine aw_iadd dX12_master_127 ?_
    obtain ⟨hi, h⟩ := h
    refine aw_iaload dX12_master_128 ly_188 hi ?_
    refine aw_icmp_ne (tgt := 139) dX12_master_129 (by decide) (fun hc => ?_) (fun hc => ?_)
    · have h := h.1 hc
      refine aw_iconst (v := 0) dX12_master_139 (by decide) ?_
      refine aw_ior dX12_master_140 ?_
      refine aw_istore (L' := [(4, .int (x4 ||| (0 : Int32))), (0, .ref (ad 187)), (1, .int x1), (2, .int x2), (3, .int x3), (5, .int x5)]) dX12_master_141 (by decide) rfl ?_
      refine aw_iinc (j := 5) (v := x5 + (1 : Int32)) (L' := [(5, .int (x5 + (1 : Int32))), (4, .int (x4 ||| (0 : Int32))), (0, .ref (ad 187)), (1, .int x1), (2, .int x2), (3, .int x3)]) dX12_master_143 rfl rfl (by decide) rfl ?_
      refine aw_goto (tgt := 97) dX12_master_146 (by decide) ?_
      exact aw_sub [2, 3, 4, 5, 1, 0] rfl h
    · have h := h.2 hc
      refine aw_iconst (v := 1) dX12_master_132 (by decide) ?_
      refine aw_iload (j := 5) dX12_master_133 rfl ?_
      refine aw_ishl dX12_master_135 ?_
      refine aw_goto (tgt := 140) dX12_master_136 (by decide) ?_
      refine aw_ior dX12_master_140 ?_
      refine aw_istore (L' := [(4, .int (x4 ||| ((1 : Int32) <<< (x5 &&& 31)))), (0, .ref (ad 187)), (1, .int x1), (2, .int x2), (3, .int x3), (5, .int x5)]) dX12_master_141 (by decide) rfl ?_
      refine aw_iinc (j := 5) (v := x5 + (1 : Int32)) (L' := [(5, .int (x5 + (1 : Int32))), (4, .int (x4 ||| ((1 : Int32) <<< (x5 &&& 31)))), (0, .ref (ad 187)), (1, .int x1), (2, .int x2), (3, .int x3)]) dX12_master_143 rfl rfl (by decide) rfl ?_
      refine aw_goto (tgt := 97) dX12_master_146 (by decide) ?_
      exact aw_sub [2, 3, 4, 5, 1, 0] rfl h
set_option maxRecDepth 100000 in
set_option maxHeartbeats 4000000 in
theorem v_X12_goQuiet {ad : Nat → Nat} {d : Nat} {Q : Option Value → Wm → Prop} {m : Wm} {x1 x2 x3 : Int32} (h : (Ct ad μX12_winner d [.ref (ad 187), .int x1, .int x2, .int x3] m (fun r m1 => ∃ v2 : Int32, r = some (.int v2) ∧ (Ct ad μX12_settle d [.ref (ad 187), .int x1, .int x2, .int x3, .int v2] m1 (fun r m3 => r = none ∧ AW ad E0 μX12_goQuiet (d + 1) Q 17 [(0, .ref (ad 187)), (4, .int (0 : Int32))] [] m3))))) : Ct ad μX12_goQuiet (d + 1) [.ref (ad 187), .int x1, .int x2, .int x3] m Q := by
  refine Ct.of (by decide +kernel) rfl (Nat.le_of_ble_eq_true rfl) ?_
  refine aw_eq (L' := [(0, .ref (ad 187)), (1, .int x1), (2, .int x2), (3, .int x3)]) ?_ rfl rfl rfl
  refine aw_aload_n (j := 0) dX12_goQuiet_0 rfl rfl ?_
  refine aw_iload_n (j := 1) dX12_goQuiet_1 rfl rfl ?_
  refine aw_iload_n (j := 2) dX12_goQuiet_2 rfl rfl ?_
  refine aw_iload_n (j := 3) dX12_goQuiet_3 rfl rfl ?_
  refine aw_aload_n (j := 0) dX12_goQuiet_4 rfl rfl ?_
  refine aw_iload_n (j := 1) dX12_goQuiet_5 rfl rfl ?_
  refine aw_iload_n (j := 2) dX12_goQuiet_6 rfl rfl ?_
  refine aw_iload_n (j := 3) dX12_goQuiet_7 rfl rfl ?_
  refine aw_callV (rest := [.int x3, .int x2, .int x1, .ref (ad 187)]) [.int x1, .int x2, .int x3] dX12_goQuiet_8 ly_187 rfl k_X12_273 rfl h (Nat.le_of_ble_eq_true rfl) (fun v m1 h => ?_)
  obtain ⟨v2, rfl, h⟩ := h
  refine aw_eq (L' := [(0, .ref (ad 187)), (1, .int x1), (2, .int x2), (3, .int x3)]) (st' := [.int v2, .int x3, .int x2, .int x1, .ref (ad 187)]) (m' := m1) ?_ rfl rfl rfl
  refine aw_callV (rest := []) [.int x1, .int x2, .int x3, .int v2] dX12_goQuiet_11 ly_187 rfl k_X12_287 rfl h (Nat.le_of_ble_eq_true rfl) (fun v m3 h => ?_)
  obtain ⟨rfl, h⟩ := h
  refine aw_eq (L' := [(0, .ref (ad 187)), (1, .int x1), (2, .int x2), (3, .int x3)]) (st' := []) (m' := m3) ?_ rfl rfl rfl
  refine aw_iconst (v := 0) dX12_goQuiet_14 (by decide) ?_
  refine aw_istore (L' := [(4, .int (0 : Int32)), (0, .ref (ad 187)), (1, .int x1), (2, .int x2), (3, .int x3)]) dX12_goQuiet_15 (by decide) rfl ?_
  exact aw_sub [1, 0] rfl h
set_option maxRecDepth 100000 in
set_option maxHeartbeats 4000000 in
theorem g_X12_goQuiet_17 {ad : Nat → Nat} {d : Nat} {Q : Option Value → Wm → Prop} {m : Wm} {x4 : Int32} (h : (((8 : Int32) ≤ x4 → Q none m) ∧ (¬ (8 : Int32) ≤ x4 → (vp_in ((32 : Int32) + ((3 : Int32) * x4)) 57 ∧ (vp_in x4 8 ∧ (vp_in (((32 : Int32) + ((3 : Int32) * x4)) + (1 : Int32)) 57 ∧ (vp_in x4 8 ∧ (vp_in (((32 : Int32) + ((3 : Int32) * x4)) + (2 : Int32)) 57 ∧ (vp_in x4 8 ∧ AW ad E0 μX12_goQuiet (d + 1) Q 17 [(0, .ref (ad 187)), (4, .int (x4 + (1 : Int32)))] [] (uI (uI (uI m 190 x4.toNatClampNeg (m.1 204 ((32 : Int32) + ((3 : Int32) * x4)).toNatClampNeg)) 191 x4.toNatClampNeg ((uI m 190 x4.toNatClampNeg (m.1 204 ((32 : Int32) + ((3 : Int32) * x4)).toNatClampNeg)).1 204 (((32 : Int32) + ((3 : Int32) * x4)) + (1 : Int32)).toNatClampNeg)) 192 x4.toNatClampNeg ((uI (uI m 190 x4.toNatClampNeg (m.1 204 ((32 : Int32) + ((3 : Int32) * x4)).toNatClampNeg)) 191 x4.toNatClampNeg ((uI m 190 x4.toNatClampNeg (m.1 204 ((32 : Int32) + ((3 : Int32) * x4)).toNatClampNeg)).1 204 (((32 : Int32) + ((3 : Int32) * x4)) + (1 : Int32)).toNatClampNeg)).1 204 (((32 : Int32) + ((3 : Int32) * x4)) + (2 : Int32)).toNatClampNeg))))))))))) : AW ad E0 μX12_goQuiet (d + 1) Q 17 [(0, .ref (ad 187)), (4, .int x4)] [] m := by
  refine aw_iload (j := 1) dX12_goQuiet_17 rfl ?_
  refine aw_bipush (v := 8) dX12_goQuiet_19 (by decide) ?_
  refine aw_icmp_ge (tgt := 91) dX12_goQuiet_21 (by decide) (fun hc => ?_) (fun hc => ?_)
  · have h := h.1 hc
    exact aw_ret (v := none) rfl (Or.inl ⟨rfl, rfl, dX12_goQuiet_91⟩) h
  · have h := h.2 hc
    refine aw_aload_n (j := 0) dX12_goQuiet_24 rfl rfl ?_
    refine aw_getfield (c := 193) (v := .ref (ad 190)) dX12_goQuiet_25 f_X12_21 ly_187 rfl rfl ?_
    refine aw_iload (j := 1) dX12_goQuiet_28 rfl ?_
    refine aw_aload_n (j := 0) dX12_goQuiet_30 rfl rfl ?_
    refine aw_getfield (c := 207) (v := .ref (ad 204)) dX12_goQuiet_31 f_X12_71 ly_187 rfl rfl ?_
    refine aw_bipush (v := 32) dX12_goQuiet_34 (by decide) ?_
    refine aw_iconst (v := 3) dX12_goQuiet_36 (by decide) ?_
    refine aw_iload (j := 1) dX12_goQuiet_37 rfl ?_
    refine aw_imul dX12_goQuiet_39 ?_
    refine aw_iadd dX12_goQuiet_40 ?_
    obtain ⟨hi, h⟩ := h
    refine aw_iaload dX12_goQuiet_41 ly_204 hi ?_
    obtain ⟨hi, h⟩ := h
    refine aw_iastore dX12_goQuiet_42 ly_190 hi ?_
    refine aw_aload_n (j := 0) dX12_goQuiet_43 rfl rfl ?_
    refine aw_getfield (c := 194) (v := .ref (ad 191)) dX12_goQuiet_44 f_X12_24 ly_187 rfl rfl ?_
    refine aw_iload (j := 1) dX12_goQuiet_47 rfl ?_
    refine aw_aload_n (j := 0) dX12_goQuiet_49 rfl rfl ?_
    refine aw_getfield (c := 207) (v := .ref (ad 204)) dX12_goQuiet_50 f_X12_71 ly_187 rfl rfl ?_
    refine aw_bipush (v := 32) dX12_goQuiet_53 (by decide) ?_
    refine aw_iconst (v := 3) dX12_goQuiet_55 (by decide) ?_
    refine aw_iload (j := 1) dX12_goQuiet_56 rfl ?_
    refine aw_imul dX12_goQuiet_58 ?_
    refine aw_iadd dX12_goQuiet_59 ?_
    refine aw_iconst (v := 1) dX12_goQuiet_60 (by decide) ?_
    refine aw_iadd dX12_goQuiet_61 ?_
    obtain ⟨hi, h⟩ := h
    refine aw_iaload dX12_goQuiet_62 ly_204 hi ?_
    obtain ⟨hi, h⟩ := h
    refine aw_iastore dX12_goQuiet_63 ly_191 hi ?_
    refine aw_aload_n (j := 0) dX12_goQuiet_64 rfl rfl ?_
    refine aw_getfield (c := 195) (v := .ref (ad 192)) dX12_goQuiet_65 f_X12_27 ly_187 rfl rfl ?_
    refine aw_iload (j := 1) dX12_goQuiet_68 rfl ?_
    refine aw_aload_n (j := 0) dX12_goQuiet_70 rfl rfl ?_
    refine aw_getfield (c := 207) (v := .ref (ad 204)) dX12_goQuiet_71 f_X12_71 ly_187 rfl rfl ?_
    refine aw_bipush (v := 32) dX12_goQuiet_74 (by decide) ?_
    refine aw_iconst (v := 3) dX12_goQuiet_76 (by decide) ?_
    refine aw_iload (j := 1) dX12_goQuiet_77 rfl ?_
    refine aw_imul dX12_goQuiet_79 ?_
    refine aw_iadd dX12_goQuiet_80 ?_
    refine aw_iconst (v := 2) dX12_goQuiet_81 (by decide) ?_
    refine aw_iadd dX12_goQuiet_82 ?_
    obtain ⟨hi, h⟩ := h
    refine aw_iaload dX12_goQuiet_83 ly_204 hi ?_
    obtain ⟨hi, h⟩ := h
    refine aw_iastore dX12_goQuiet_84 ly_192 hi ?_
    refine aw_iinc (j := 1) (v := x4 + (1 : Int32)) (L' := [(4, .int (x4 + (1 : Int32))), (0, .ref (ad 187))]) dX12_goQuiet_85 rfl rfl (by decide) rfl ?_
    refine aw_goto (tgt := 17) dX12_goQuiet_88 (by decide) ?_
    exact aw_sub [1, 0] rfl h
set_option maxRecDepth 100000 in
set_option maxHeartbeats 4000000 in
theorem v_X12_half {ad : Nat → Nat} {d : Nat} {Q : Option Value → Wm → Prop} {m : Wm} {x1 : Int32} (h : AW ad E0 μX12_half d Q 5 [(0, .ref (ad 187)), (1, .int x1), (2, .long (0 : Int64)), (4, .int (0 : Int32))] [] m) : Ct ad μX12_half d [.ref (ad 187), .int x1] m Q := by
  refine Ct.of (by decide +kernel) rfl (Nat.le_of_ble_eq_true rfl) ?_
  refine aw_eq (L' := [(0, .ref (ad 187)), (1, .int x1)]) ?_ rfl rfl rfl
  refine aw_lconst (v := 0) dX12_half_0 (by decide) ?_
  refine aw_lstore_n (L' := [(2, .long (0 : Int64)), (0, .ref (ad 187)), (1, .int x1)]) dX12_half_1 rfl (by decide) rfl ?_
  refine aw_iconst (v := 0) dX12_half_2 (by decide) ?_
  refine aw_istore (L' := [(4, .int (0 : Int32)), (2, .long (0 : Int64)), (0, .ref (ad 187)), (1, .int x1)]) dX12_half_3 (by decide) rfl ?_
  exact aw_sub [2, 3, 1, 0] rfl h
set_option maxRecDepth 100000 in
set_option maxHeartbeats 4000000 in
theorem g_X12_half_5 {ad : Nat → Nat} {d : Nat} {Q : Option Value → Wm → Prop} {m : Wm} {x1 x4 : Int32} {y2 : Int64} (h : (((16 : Int32) ≤ x4 → Q (some (.long y2)) m) ∧ (¬ (16 : Int32) ≤ x4 → (vp_in (x1 + x4) 32 ∧ AW ad E0 μX12_half d Q 5 [(0, .ref (ad 187)), (1, .int x1), (2, .long ((y2 <<< ((3 : Int32).toInt64 &&& 63)) ||| ((m.1 188 (x1 + x4).toNatClampNeg).toInt64))), (4, .int (x4 + (1 : Int32)))] [] m)))) : AW ad E0 μX12_half d Q 5 [(0, .ref (ad 187)), (1, .int x1), (2, .long y2), (4, .int x4)] [] m := by
  refine aw_iload (j := 3) dX12_half_5 rfl ?_
  refine aw_bipush (v := 16) dX12_half_7 (by decide) ?_
  refine aw_icmp_ge (tgt := 33) dX12_half_9 (by decide) (fun hc => ?_) (fun hc => ?_)
  · have h := h.1 hc
    refine aw_lload_n (j := 2) dX12_half_33 rfl rfl ?_
    exact aw_ret (v := some (.long y2)) rfl (Or.inr (Or.inr ⟨_, rfl, rfl, dX12_half_34⟩)) h
  · have h := h.2 hc
    refine aw_lload_n (j := 2) dX12_half_12 rfl rfl ?_
    refine aw_iconst (v := 3) dX12_half_13 (by decide) ?_
    refine aw_lshl dX12_half_14 ?_
    refine aw_aload_n (j := 0) dX12_half_15 rfl rfl ?_
    refine aw_getfield (c := 191) (v := .ref (ad 188)) dX12_half_16 f_X12_13 ly_187 rfl rfl ?_
    refine aw_iload_n (j := 1) dX12_half_19 rfl rfl ?_
    refine aw_iload (j := 3) dX12_half_20 rfl ?_
    refine aw_iadd dX12_half_22 ?_
    obtain ⟨hi, h⟩ := h
    refine aw_iaload dX12_half_23 ly_188 hi ?_
    refine aw_i2l dX12_half_24 ?_
    refine aw_lor dX12_half_25 ?_
    refine aw_lstore_n (L' := [(2, .long ((y2 <<< ((3 : Int32).toInt64 &&& 63)) ||| ((m.1 188 (x1 + x4).toNatClampNeg).toInt64))), (0, .ref (ad 187)), (1, .int x1), (4, .int x4)]) dX12_half_26 rfl (by decide) rfl ?_
    refine aw_iinc (j := 3) (v := x4 + (1 : Int32)) (L' := [(4, .int (x4 + (1 : Int32))), (2, .long ((y2 <<< ((3 : Int32).toInt64 &&& 63)) ||| ((m.1 188 (x1 + x4).toNatClampNeg).toInt64))), (0, .ref (ad 187)), (1, .int x1)]) dX12_half_27 rfl rfl (by decide) rfl ?_
    refine aw_goto (tgt := 5) dX12_half_30 (by decide) ?_
    exact aw_sub [2, 3, 1, 0] rfl h
set_option maxRecDepth 100000 in
set_option maxHeartbeats 4000000 in
theorem v_X12_load {ad : Nat → Nat} {d : Nat} {Q : Option Value → Wm → Prop} {m : Wm} {x1 : Int32} (h : (vp_in x1 3000 ∧ (vp_in x1 3000 ∧ AW ad E0 μX12_load d Q 19 [(0, .ref (ad 187)), (2, .long (m.2.1 205 x1.toNatClampNeg)), (4, .long (m.2.1 206 x1.toNatClampNeg)), (6, .int (15 : Int32))] [] m))) : Ct ad μX12_load d [.ref (ad 187), .int x1] m Q := by
  refine Ct.of (by decide +kernel) rfl (Nat.le_of_ble_eq_true rfl) ?_
  refine aw_eq (L' := [(0, .ref (ad 187)), (1, .int x1)]) ?_ rfl rfl rfl
  refine aw_aload_n (j := 0) dX12_load_0 rfl rfl ?_
  refine aw_getfield (c := 208) (v := .ref (ad 205)) dX12_load_1 f_X12_74 ly_187 rfl rfl ?_
  refine aw_iload_n (j := 1) dX12_load_4 rfl rfl ?_
  obtain ⟨hi, h⟩ := h
  refine aw_laload dX12_load_5 ly_205 hi ?_
  refine aw_lstore_n (L' := [(2, .long (m.2.1 205 x1.toNatClampNeg)), (0, .ref (ad 187)), (1, .int x1)]) dX12_load_6 rfl (by decide) rfl ?_
  refine aw_aload_n (j := 1) dX12_load_7 rfl rfl ?_
  refine aw_getfield (c := 209) (v := .ref (ad 206)) dX12_load_8 f_X12_77 ly_187 rfl rfl ?_
  refine aw_iload_n (j := 2) dX12_load_11 rfl rfl ?_
  obtain ⟨hi, h⟩ := h
  refine aw_laload dX12_load_12 ly_206 hi ?_
  refine aw_lstore (L' := [(4, .long (m.2.1 206 x1.toNatClampNeg)), (2, .long (m.2.1 205 x1.toNatClampNeg)), (0, .ref (ad 187)), (1, .int x1)]) dX12_load_13 (by decide) rfl ?_
  refine aw_bipush (v := 15) dX12_load_15 (by decide) ?_
  refine aw_istore (L' := [(6, .int (15 : Int32)), (4, .long (m.2.1 206 x1.toNatClampNeg)), (2, .long (m.2.1 205 x1.toNatClampNeg)), (0, .ref (ad 187)), (1, .int x1)]) dX12_load_17 (by decide) rfl ?_
  exact aw_sub [3, 2, 1, 0] rfl h
set_option maxRecDepth 100000 in
set_option maxHeartbeats 4000000 in
theorem g_X12_load_19 {ad : Nat → Nat} {d : Nat} {Q : Option Value → Wm → Prop} {m : Wm} {x6 : Int32} {y2 y4 : Int64} (h : ((x6 < 0 → Q none m) ∧ (¬ x6 < 0 → (vp_in x6 32 ∧ (vp_in ((16 : Int32) + x6) 32 ∧ AW ad E0 μX12_load d Q 19 [(0, .ref (ad 187)), (2, .long (y2 >>> ((3 : Int32).toInt64 &&& 63))), (4, .long (y4 >>> ((3 : Int32).toInt64 &&& 63))), (6, .int (x6 + (-1 : Int32)))] [] (uI (uI m 188 x6.toNatClampNeg ((y2 &&& (7 : Int64)).toInt32)) 188 ((16 : Int32) + x6).toNatClampNeg ((y4 &&& (7 : Int64)).toInt32))))))) : AW ad E0 μX12_load d Q 19 [(0, .ref (ad 187)), (2, .long y2), (4, .long y4), (6, .int x6)] [] m := by
  refine aw_iload (j := 3) dX12_load_19 rfl ?_
  refine aw_if_lt (tgt := 70) dX12_load_21 (by decide) (fun hc => ?_) (fun hc => ?_)
  · have h := h.1 hc
    exact aw_ret (v := none) rfl (Or.inl ⟨rfl, rfl, dX12_load_70⟩) h
  · have h := h.2 hc
    refine aw_aload_n (j := 0) dX12_load_24 rfl rfl ?_
    refine aw_getfield (c := 191) (v := .ref (ad 188)) dX12_load_25 f_X12_13 ly_187 rfl rfl ?_
    refine aw_iload (j := 3) dX12_load_28 rfl ?_
    refine aw_lload_n (j := 1) dX12_load_30 rfl rfl ?_
    refine aw_ldc2 dX12_load_31 c_X12_335 ?_
    refine aw_land dX12_load_34 ?_
    refine aw_l2i dX12_load_35 ?_
    obtain ⟨hi, h⟩ := h
    refine aw_iastore dX12_load_36 ly_188 hi ?_
    refine aw_aload_n (j := 0) dX12_load_37 rfl rfl ?_
    refine aw_getfield (c := 191) (v := .ref (ad 188)) dX12_load_38 f_X12_13 ly_187 rfl rfl ?_
    refine aw_bipush (v := 16) dX12_load_41 (by decide) ?_
    refine aw_iload (j := 3) dX12_load_43 rfl ?_
    refine aw_iadd dX12_load_45 ?_
    refine aw_lload (j := 2) dX12_load_46 rfl ?_
    refine aw_ldc2 dX12_load_48 c_X12_335 ?_
    refine aw_land dX12_load_51 ?_
    refine aw_l2i dX12_load_52 ?_
    obtain ⟨hi, h⟩ := h
    refine aw_iastore dX12_load_53 ly_188 hi ?_
    refine aw_lload_n (j := 1) dX12_load_54 rfl rfl ?_
    refine aw_iconst (v := 3) dX12_load_55 (by decide) ?_
    refine aw_lshr dX12_load_56 ?_
    refine aw_lstore_n (L' := [(2, .long (y2 >>> ((3 : Int32).toInt64 &&& 63))), (0, .ref (ad 187)), (4, .long y4), (6, .int x6)]) dX12_load_57 rfl (by decide) rfl ?_
    refine aw_lload (j := 2) dX12_load_58 rfl ?_
    refine aw_iconst (v := 3) dX12_load_60 (by decide) ?_
    refine aw_lshr dX12_load_61 ?_
    refine aw_lstore (L' := [(4, .long (y4 >>> ((3 : Int32).toInt64 &&& 63))), (2, .long (y2 >>> ((3 : Int32).toInt64 &&& 63))), (0, .ref (ad 187)), (6, .int x6)]) dX12_load_62 (by decide) rfl ?_
    refine aw_iinc (j := 3) (v := x6 + (-1 : Int32)) (L' := [(6, .int (x6 + (-1 : Int32))), (4, .long (y4 >>> ((3 : Int32).toInt64 &&& 63))), (2, .long (y2 >>> ((3 : Int32).toInt64 &&& 63))), (0, .ref (ad 187))]) dX12_load_64 rfl rfl (by decide) rfl ?_
    refine aw_goto (tgt := 19) dX12_load_67 (by decide) ?_
    exact aw_sub [3, 2, 1, 0] rfl h
set_option maxRecDepth 100000 in
set_option maxHeartbeats 4000000 in
theorem v_X12_slot {ad : Nat → Nat} {d : Nat} {Q : Option Value → Wm → Prop} {m : Wm} {y1 y3 : Int64} (h : AW ad E0 μX12_slot d Q 21 [(0, .ref (ad 187)), (1, .long y1), (3, .long y3), (7, .int (((((y1 * (-7046029254386353131 : Int64)) ^^^ (y3 * (-4417276706812531889 : Int64))).toUInt64 >>> ((51 : Int32).toInt64.toUInt64 &&& Int64.toUInt64 63)).toInt64).toInt32))] [] m) : Ct ad μX12_slot d [.ref (ad 187), .long y1, .long y3] m Q := by
  refine Ct.of (by decide +kernel) rfl (Nat.le_of_ble_eq_true rfl) ?_
  refine aw_eq (L' := [(0, .ref (ad 187)), (1, .long y1), (3, .long y3)]) ?_ rfl rfl rfl
  refine aw_lload_n (j := 1) dX12_slot_0 rfl rfl ?_
  refine aw_ldc2 dX12_slot_1 c_X12_337 ?_
  refine aw_lmul dX12_slot_4 ?_
  refine aw_lload_n (j := 2) dX12_slot_5 rfl rfl ?_
  refine aw_ldc2 dX12_slot_6 c_X12_339 ?_
  refine aw_lmul dX12_slot_9 ?_
  refine aw_lxor dX12_slot_10 ?_
  refine aw_lstore (L' := [(5, .long ((y1 * (-7046029254386353131 : Int64)) ^^^ (y3 * (-4417276706812531889 : Int64)))), (0, .ref (ad 187)), (1, .long y1), (3, .long y3)]) dX12_slot_11 (by decide) rfl ?_
  refine aw_lload (j := 0) dX12_slot_13 rfl ?_
  refine aw_bipush (v := 51) dX12_slot_15 (by decide) ?_
  refine aw_lushr dX12_slot_17 ?_
  refine aw_l2i dX12_slot_18 ?_
  refine aw_istore (L' := [(7, .int (((((y1 * (-7046029254386353131 : Int64)) ^^^ (y3 * (-4417276706812531889 : Int64))).toUInt64 >>> ((51 : Int32).toInt64.toUInt64 &&& Int64.toUInt64 63)).toInt64).toInt32)), (5, .long ((y1 * (-7046029254386353131 : Int64)) ^^^ (y3 * (-4417276706812531889 : Int64)))), (0, .ref (ad 187)), (1, .long y1), (3, .long y3)]) dX12_slot_19 (by decide) rfl ?_
  exact aw_sub [2, 3, 4, 0] rfl h
set_option maxRecDepth 100000 in
set_option maxHeartbeats 4000000 in
theorem g_X12_slot_21 {ad : Nat → Nat} {d : Nat} {Q : Option Value → Wm → Prop} {m : Wm} {x7 : Int32} {y1 y3 : Int64} (h : (vp_in x7 8192 ∧ (((m.1 210 x7.toNatClampNeg) = 0 → Q (some (.int x7)) m) ∧ (¬ (m.1 210 x7.toNatClampNeg) = 0 → (vp_in x7 8192 ∧ (vp_in ((m.1 210 x7.toNatClampNeg) - (1 : Int32)) 3000 ∧ ((¬ (lg_cmp (m.2.1 205 ((m.1 210 x7.toNatClampNeg) - (1 : Int32)).toNatClampNeg) y1) = 0 → AW ad E0 μX12_slot d Q 69 [(0, .ref (ad 187)), (1, .long y1), (3, .long y3), (7, .int x7)] [] m) ∧ ((lg_cmp (m.2.1 205 ((m.1 210 x7.toNatClampNeg) - (1 : Int32)).toNatClampNeg) y1) = 0 → (vp_in x7 8192 ∧ (vp_in ((m.1 210 x7.toNatClampNeg) - (1 : Int32)) 3000 ∧ (((lg_cmp (m.2.1 206 ((m.1 210 x7.toNatClampNeg) - (1 : Int32)).toNatClampNeg) y3) = 0 → Q (some (.int x7)) m) ∧ (¬ (lg_cmp (m.2.1 206 ((m.1 210 x7.toNatClampNeg) - (1 : Int32)).toNatClampNeg) y3) = 0 → AW ad E0 μX12_slot d Q 69 [(0, .ref (ad 187)), (1, .long y1), (3, .long y3), (7, .int x7)] [] m)))))))))))) : AW ad E0 μX12_slot d Q 21 [(0, .ref (ad 187)), (1, .long y1), (3, .long y3), (7, .int x7)] [] m := by
  refine aw_aload_n (j := 0) dX12_slot_21 rfl rfl ?_
  refine aw_getfield (c := 213) (v := .ref (ad 210)) dX12_slot_22 f_X12_89 ly_187 rfl rfl ?_
  refine aw_iload (j := 3) dX12_slot_25 rfl ?_
  obtain ⟨hi, h⟩ := h
  refine aw_iaload dX12_slot_27 ly_210 hi ?_
  refine aw_if_eq (tgt := 82) dX12_slot_28 (by decide) (fun hc => ?_) (fun hc => ?_)
  · have h := h.1 hc
    refine aw_iload (j := 3) dX12_slot_82 rfl ?_
    exact aw_ret (v := some (.int x7)) rfl (Or.inr (Or.inl ⟨_, .int, rfl, rfl, rfl, dX12_slot_84⟩)) h
  · have h := h.2 hc
    refine aw_aload_n (j := 0) dX12_slot_31 rfl rfl ?_
    refine aw_getfield (c := 208) (v := .ref (ad 205)) dX12_slot_32 f_X12_74 ly_187 rfl rfl ?_
    refine aw_aload_n (j := 0) dX12_slot_35 rfl rfl ?_
    refine aw_getfield (c := 213) (v := .ref (ad 210)) dX12_slot_36 f_X12_89 ly_187 rfl rfl ?_
    refine aw_iload (j := 3) dX12_slot_39 rfl ?_
    obtain ⟨hi, h⟩ := h
    refine aw_iaload dX12_slot_41 ly_210 hi ?_
    refine aw_iconst (v := 1) dX12_slot_42 (by decide) ?_
    refine aw_isub dX12_slot_43 ?_
    obtain ⟨hi, h⟩ := h
    refine aw_laload dX12_slot_44 ly_205 hi ?_
    refine aw_lload_n (j := 1) dX12_slot_45 rfl rfl ?_
    refine aw_lcmp dX12_slot_46 ?_
    refine aw_if_ne (tgt := 69) dX12_slot_47 (by decide) (fun hc => ?_) (fun hc => ?_)
    · have h := h.1 hc
      exact aw_sub [0, 1, 2, 3] rfl h
    · have h := h.2 hc
      refine aw_aload_n (j := 0) dX12_slot_50 rfl rfl ?_
      refine aw_getfield (c := 209) (v := .ref (ad 206)) dX12_slot_51 f_X12_77 ly_187 rfl rfl ?_
      refine aw_aload_n (j := 0) dX12_slot_54 rfl rfl ?_
      refine aw_getfield (c := 213) (v := .ref (ad 210)) dX12_slot_55 f_X12_89 ly_187 rfl rfl ?_
      refine aw_iload (j := 3) dX12_slot_58 rfl ?_
      obtain ⟨hi, h⟩ := h
      refine aw_iaload dX12_slot_60 ly_210 hi ?_
      refine aw_iconst (v := 1) dX12_slot_61 (by decide) ?_
      refine aw_isub dX12_slot_62 ?_
      obtain ⟨hi, h⟩ := h
      refine aw_laload dX12_slot_63 ly_206 hi ?_
      refine aw_lload_n (j := 2) dX12_slot_64 rfl rfl ?_
      refine aw_lcmp dX12_slot_65 ?_
      refine aw_if_eq (tgt := 82) dX12_slot_66 (by decide) (fun hc => ?_) (fun hc => ?_)
      · have h := h.1 hc
        refine aw_iload (j := 3) dX12_slot_82 rfl ?_
        exact aw_ret (v := some (.int x7)) rfl (Or.inr (Or.inl ⟨_, .int, rfl, rfl, rfl, dX12_slot_84⟩)) h
      · have h := h.2 hc
        exact aw_sub [0, 1, 2, 3] rfl h
set_option maxRecDepth 100000 in
set_option maxHeartbeats 4000000 in
theorem g_X12_slot_69 {ad : Nat → Nat} {d : Nat} {Q : Option Value → Wm → Prop} {m : Wm} {x7 : Int32} {y1 y3 : Int64} (h : AW ad E0 μX12_slot d Q 21 [(0, .ref (ad 187)), (1, .long y1), (3, .long y3), (7, .int ((x7 + (1 : Int32)) &&& (8191 : Int32)))] [] m) : AW ad E0 μX12_slot d Q 69 [(0, .ref (ad 187)), (1, .long y1), (3, .long y3), (7, .int x7)] [] m := by
  refine aw_iload (j := 3) dX12_slot_69 rfl ?_
  refine aw_iconst (v := 1) dX12_slot_71 (by decide) ?_
  refine aw_iadd dX12_slot_72 ?_
  refine aw_sipush (v := 8191) dX12_slot_73 (by decide) ?_
  refine aw_iand dX12_slot_76 ?_
  refine aw_istore (L' := [(7, .int ((x7 + (1 : Int32)) &&& (8191 : Int32))), (0, .ref (ad 187)), (1, .long y1), (3, .long y3)]) dX12_slot_77 (by decide) rfl ?_
  refine aw_goto (tgt := 21) dX12_slot_79 (by decide) ?_
  exact aw_sub [1, 2, 3, 0] rfl h
set_option maxRecDepth 100000 in
set_option maxHeartbeats 4000000 in
theorem v_X12_clearStates {ad : Nat → Nat} {d : Nat} {Q : Option Value → Wm → Prop} {m : Wm} (h : AW ad E0 μX12_clearStates (d + 1) Q 2 [(0, .ref (ad 187)), (1, .int (0 : Int32))] [] m) : Ct ad μX12_clearStates (d + 1) [.ref (ad 187)] m Q := by
  refine Ct.of (by decide +kernel) rfl (Nat.le_of_ble_eq_true rfl) ?_
  refine aw_eq (L' := [(0, .ref (ad 187))]) ?_ rfl rfl rfl
  refine aw_iconst (v := 0) dX12_clearStates_0 (by decide) ?_
  refine aw_istore_n (L' := [(1, .int (0 : Int32)), (0, .ref (ad 187))]) dX12_clearStates_1 rfl (by decide) rfl ?_
  exact aw_sub [1, 0] rfl h
set_option maxRecDepth 100000 in
set_option maxHeartbeats 4000000 in
theorem g_X12_clearStates_2 {ad : Nat → Nat} {d : Nat} {Q : Option Value → Wm → Prop} {m : Wm} {x1 : Int32} (h : (((8192 : Int32) ≤ x1 → AW ad E0 μX12_clearStates (d + 1) Q 34 [(0, .ref (ad 187)), (1, .int ((4 : Int32) * ((uI m 187 43 (0 : Int32)).1 187 1)))] [] (uI m 187 43 (0 : Int32))) ∧ (¬ (8192 : Int32) ≤ x1 → (vp_in x1 8192 ∧ AW ad E0 μX12_clearStates (d + 1) Q 2 [(0, .ref (ad 187)), (1, .int (x1 + (1 : Int32)))] [] (uI m 210 x1.toNatClampNeg (0 : Int32)))))) : AW ad E0 μX12_clearStates (d + 1) Q 2 [(0, .ref (ad 187)), (1, .int x1)] [] m := by
  refine aw_iload_n (j := 1) dX12_clearStates_2 rfl rfl ?_
  refine aw_sipush (v := 8192) dX12_clearStates_3 (by decide) ?_
  refine aw_icmp_ge (tgt := 22) dX12_clearStates_6 (by decide) (fun hc => ?_) (fun hc => ?_)
  · have h := h.1 hc
    refine aw_aload_n (j := 0) dX12_clearStates_22 rfl rfl ?_
    refine aw_iconst (v := 0) dX12_clearStates_23 (by decide) ?_
    refine aw_putI dX12_clearStates_24 f_X12_341 cl_X12 rfl ly_187 rfl rfl rfl ?_
    refine aw_iconst (v := 4) dX12_clearStates_27 (by decide) ?_
    refine aw_aload_n (j := 0) dX12_clearStates_28 rfl rfl ?_
    refine aw_getfield (c := 0) (v := .int ((uI m 187 43 (0 : Int32)).1 187 1)) dX12_clearStates_29 f_X12_116 ly_187 rfl rfl ?_
    refine aw_imul dX12_clearStates_32 ?_
    refine aw_istore_n (L' := [(1, .int ((4 : Int32) * ((uI m 187 43 (0 : Int32)).1 187 1))), (0, .ref (ad 187))]) dX12_clearStates_33 rfl (by decide) rfl ?_
    exact aw_sub [1, 0] rfl h
  · have h := h.2 hc
    refine aw_aload_n (j := 0) dX12_clearStates_9 rfl rfl ?_
    refine aw_getfield (c := 213) (v := .ref (ad 210)) dX12_clearStates_10 f_X12_89 ly_187 rfl rfl ?_
    refine aw_iload_n (j := 1) dX12_clearStates_13 rfl rfl ?_
    refine aw_iconst (v := 0) dX12_clearStates_14 (by decide) ?_
    obtain ⟨hi, h⟩ := h
    refine aw_iastore dX12_clearStates_15 ly_210 hi ?_
    refine aw_iinc (j := 1) (v := x1 + (1 : Int32)) (L' := [(1, .int (x1 + (1 : Int32))), (0, .ref (ad 187))]) dX12_clearStates_16 rfl rfl (by decide) rfl ?_
    refine aw_goto (tgt := 2) dX12_clearStates_19 (by decide) ?_
    exact aw_sub [1, 0] rfl h
set_option maxRecDepth 100000 in
set_option maxHeartbeats 4000000 in
theorem g_X12_clearStates_34 {ad : Nat → Nat} {d : Nat} {Q : Option Value → Wm → Prop} {m : Wm} {x1 : Int32} (h : (((32 : Int32) ≤ x1 → (Ct ad μX12_lay d [.ref (ad 187), .ref (ad 204), .int (0 : Int32)] m (fun r m1 => r = none ∧ Q none m1))) ∧ (¬ (32 : Int32) ≤ x1 → (vp_in x1 32 ∧ AW ad E0 μX12_clearStates (d + 1) Q 34 [(0, .ref (ad 187)), (1, .int (x1 + (1 : Int32)))] [] (uI m 188 x1.toNatClampNeg (0 : Int32)))))) : AW ad E0 μX12_clearStates (d + 1) Q 34 [(0, .ref (ad 187)), (1, .int x1)] [] m := by
  refine aw_iload_n (j := 1) dX12_clearStates_34 rfl rfl ?_
  refine aw_bipush (v := 32) dX12_clearStates_35 (by decide) ?_
  refine aw_icmp_ge (tgt := 53) dX12_clearStates_37 (by decide) (fun hc => ?_) (fun hc => ?_)
  · have h := h.1 hc
    refine aw_aload_n (j := 0) dX12_clearStates_53 rfl rfl ?_
    refine aw_aload_n (j := 0) dX12_clearStates_54 rfl rfl ?_
    refine aw_getfield (c := 207) (v := .ref (ad 204)) dX12_clearStates_55 f_X12_71 ly_187 rfl rfl ?_
    refine aw_iconst (v := 0) dX12_clearStates_58 (by decide) ?_
    refine aw_callV (rest := []) [.ref (ad 204), .int (0 : Int32)] dX12_clearStates_59 ly_187 rfl k_X12_291 rfl h (Nat.le_of_ble_eq_true rfl) (fun v m1 h => ?_)
    obtain ⟨rfl, h⟩ := h
    refine aw_eq (L' := [(0, .ref (ad 187)), (1, .int x1)]) (st' := []) (m' := m1) ?_ rfl rfl rfl
    exact aw_ret (v := none) rfl (Or.inl ⟨rfl, rfl, dX12_clearStates_62⟩) h
  · have h := h.2 hc
    refine aw_aload_n (j := 0) dX12_clearStates_40 rfl rfl ?_
    refine aw_getfield (c := 191) (v := .ref (ad 188)) dX12_clearStates_41 f_X12_13 ly_187 rfl rfl ?_
    refine aw_iload_n (j := 1) dX12_clearStates_44 rfl rfl ?_
    refine aw_iconst (v := 0) dX12_clearStates_45 (by decide) ?_
    obtain ⟨hi, h⟩ := h
    refine aw_iastore dX12_clearStates_46 ly_188 hi ?_
    refine aw_iinc (j := 1) (v := x1 + (1 : Int32)) (L' := [(1, .int (x1 + (1 : Int32))), (0, .ref (ad 187))]) dX12_clearStates_47 rfl rfl (by decide) rfl ?_
    refine aw_goto (tgt := 34) dX12_clearStates_50 (by decide) ?_
    exact aw_sub [1, 0] rfl h
set_option maxRecDepth 100000 in
set_option maxHeartbeats 4000000 in
theorem v_X12_stateNow {ad : Nat → Nat} {d : Nat} {Q : Option Value → Wm → Prop} {m : Wm} {x1 x2 x3 : Int32} (h : (Ct ad μX12_half d [.ref (ad 187), .int (0 : Int32)] m (fun r m1 => ∃ w2 : Int64, r = some (.long w2) ∧ (Ct ad μX12_half d [.ref (ad 187), .int (16 : Int32)] m1 (fun r m3 => ∃ w4 : Int64, r = some (.long w4) ∧ (Ct ad μX12_slot d [.ref (ad 187), .long w2, .long w4] m3 (fun r m5 => ∃ v6 : Int32, r = some (.int v6) ∧ (vp_in v6 8192 ∧ (((m5.1 210 v6.toNatClampNeg) = 0 → ((¬ (m5.1 187 43) = x3 → (vp_in (m5.1 187 43) 3000 ∧ (vp_in ((uL m5 205 (m5.1 187 43).toNatClampNeg w2).1 187 43) 3000 ∧ (vp_in ((uL (uL m5 205 (m5.1 187 43).toNatClampNeg w2) 206 ((uL m5 205 (m5.1 187 43).toNatClampNeg w2).1 187 43).toNatClampNeg w4).1 187 43) 3000 ∧ (vp_in ((uI (uL (uL m5 205 (m5.1 187 43).toNatClampNeg w2) 206 ((uL m5 205 (m5.1 187 43).toNatClampNeg w2).1 187 43).toNatClampNeg w4) 208 ((uL (uL m5 205 (m5.1 187 43).toNatClampNeg w2) 206 ((uL m5 205 (m5.1 187 43).toNatClampNeg w2).1 187 43).toNatClampNeg w4).1 187 43).toNatClampNeg x1).1 187 43) 3000 ∧ ((¬ x1 = (-1 : Int32) → (vp_in x1 3000 ∧ AW ad E0 μX12_stateNow (d + 1) Q 122 [(0, .ref (ad 187)), (8, .int v6)] [.int (((uI (uI (uL (uL m5 205 (m5.1 187 43).toNatClampNeg w2) 206 ((uL m5 205 (m5.1 187 43).toNatClampNeg w2).1 187 43).toNatClampNeg w4) 208 ((uL (uL m5 205 (m5.1 187 43).toNatClampNeg w2) 206 ((uL m5 205 (m5.1 187 43).toNatClampNeg w2).1 187 43).toNatClampNeg w4).1 187 43).toNatClampNeg x1) 209 ((uI (uL (uL m5 205 (m5.1 187 43).toNatClampNeg w2) 206 ((uL m5 205 (m5.1 187 43).toNatClampNeg w2).1 187 43).toNatClampNeg w4) 208 ((uL (uL m5 205 (m5.1 187 43).toNatClampNeg w2) 206 ((uL m5 205 (m5.1 187 43).toNatClampNeg w2).1 187 43).toNatClampNeg w4).1 187 43).toNatClampNeg x1).1 187 43).toNatClampNeg x2).1 207 x1.toNatClampNeg) + (1 : Int32)), .int ((uI (uI (uL (uL m5 205 (m5.1 187 43).toNatClampNeg w2) 206 ((uL m5 205 (m5.1 187 43).toNatClampNeg w2).1 187 43).toNatClampNeg w4) 208 ((uL (uL m5 205 (m5.1 187 43).toNatClampNeg w2) 206 ((uL m5 205 (m5.1 187 43).toNatClampNeg w2).1 187 43).toNatClampNeg w4).1 187 43).toNatClampNeg x1) 209 ((uI (uL (uL m5 205 (m5.1 187 43).toNatClampNeg w2) 206 ((uL m5 205 (m5.1 187 43).toNatClampNeg w2).1 187 43).toNatClampNeg w4) 208 ((uL (uL m5 205 (m5.1 187 43).toNatClampNeg w2) 206 ((uL m5 205 (m5.1 187 43).toNatClampNeg w2).1 187 43).toNatClampNeg w4).1 187 43).toNatClampNeg x1).1 187 43).toNatClampNeg x2).1 187 43), .ref (ad 207)] (uI (uI (uL (uL m5 205 (m5.1 187 43).toNatClampNeg w2) 206 ((uL m5 205 (m5.1 187 43).toNatClampNeg w2).1 187 43).toNatClampNeg w4) 208 ((uL (uL m5 205 (m5.1 187 43).toNatClampNeg w2) 206 ((uL m5 205 (m5.1 187 43).toNatClampNeg w2).1 187 43).toNatClampNeg w4).1 187 43).toNatClampNeg x1) 209 ((uI (uL (uL m5 205 (m5.1 187 43).toNatClampNeg w2) 206 ((uL m5 205 (m5.1 187 43).toNatClampNeg w2).1 187 43).toNatClampNeg w4) 208 ((uL (uL m5 205 (m5.1 187 43).toNatClampNeg w2) 206 ((uL m5 205 (m5.1 187 43).toNatClampNeg w2).1 187 43).toNatClampNeg w4).1 187 43).toNatClampNeg x1).1 187 43).toNatClampNeg x2))) ∧ (x1 = (-1 : Int32) → AW ad E0 μX12_stateNow (d + 1) Q 122 [(0, .ref (ad 187)), (8, .int v6)] [.int (0 : Int32), .int ((uI (uI (uL (uL m5 205 (m5.1 187 43).toNatClampNeg w2) 206 ((uL m5 205 (m5.1 187 43).toNatClampNeg w2).1 187 43).toNatClampNeg w4) 208 ((uL (uL m5 205 (m5.1 187 43).toNatClampNeg w2) 206 ((uL m5 205 (m5.1 187 43).toNatClampNeg w2).1 187 43).toNatClampNeg w4).1 187 43).toNatClampNeg x1) 209 ((uI (uL (uL m5 205 (m5.1 187 43).toNatClampNeg w2) 206 ((uL m5 205 (m5.1 187 43).toNatClampNeg w2).1 187 43).toNatClampNeg w4) 208 ((uL (uL m5 205 (m5.1 187 43).toNatClampNeg w2) 206 ((uL m5 205 (m5.1 187 43).toNatClampNeg w2).1 187 43).toNatClampNeg w4).1 187 43).toNatClampNeg x1).1 187 43).toNatClampNeg x2).1 187 43), .ref (ad 207)] (uI (uI (uL (uL m5 205 (m5.1 187 43).toNatClampNeg w2) 206 ((uL m5 205 (m5.1 187 43).toNatClampNeg w2).1 187 43).toNatClampNeg w4) 208 ((uL (uL m5 205 (m5.1 187 43).toNatClampNeg w2) 206 ((uL m5 205 (m5.1 187 43).toNatClampNeg w2).1 187 43).toNatClampNeg w4).1 187 43).toNatClampNeg x1) 209 ((uI (uL (uL m5 205 (m5.1 187 43).toNatClampNeg w2) 206 ((uL m5 205 (m5.1 187 43).toNatClampNeg w2).1 187 43).toNatClampNeg w4) 208 ((uL (uL m5 205 (m5.1 187 43).toNatClampNeg w2) 206 ((uL m5 205 (m5.1 187 43).toNatClampNeg w2).1 187 43).toNatClampNeg w4).1 187 43).toNatClampNeg x1).1 187 43).toNatClampNeg x2)))))))) ∧ ((m5.1 187 43) = x3 → Q (some (.int (-1 : Int32))) m5))) ∧ (¬ (m5.1 210 v6.toNatClampNeg) = 0 → (vp_in v6 8192 ∧ Q (some (.int ((m5.1 210 v6.toNatClampNeg) - (1 : Int32)))) m5))))))))))) : Ct ad μX12_stateNow (d + 1) [.ref (ad 187), .int x1, .int x2, .int x3] m Q := by
  refine Ct.of (by decide +kernel) rfl (Nat.le_of_ble_eq_true rfl) ?_
  refine aw_eq (L' := [(0, .ref (ad 187)), (1, .int x1), (2, .int x2), (3, .int x3)]) ?_ rfl rfl rfl
  refine aw_aload_n (j := 0) dX12_stateNow_0 rfl rfl ?_
  refine aw_iconst (v := 0) dX12_stateNow_1 (by decide) ?_
  refine aw_callV (rest := []) [.int (0 : Int32)] dX12_stateNow_2 ly_187 rfl k_X12_344 rfl h (Nat.le_of_ble_eq_true rfl) (fun v m1 h => ?_)
  obtain ⟨w2, rfl, h⟩ := h
  refine aw_eq (L' := [(0, .ref (ad 187)), (1, .int x1), (2, .int x2), (3, .int x3)]) (st' := [.long w2]) (m' := m1) ?_ rfl rfl rfl
  refine aw_lstore (L' := [(4, .long w2), (0, .ref (ad 187)), (1, .int x1), (2, .int x2), (3, .int x3)]) dX12_stateNow_5 (by decide) rfl ?_
  refine aw_aload_n (j := 1) dX12_stateNow_7 rfl rfl ?_
  refine aw_bipush (v := 16) dX12_stateNow_8 (by decide) ?_
  refine aw_callV (rest := []) [.int (16 : Int32)] dX12_stateNow_10 ly_187 rfl k_X12_344 rfl h (Nat.le_of_ble_eq_true rfl) (fun v m3 h => ?_)
  obtain ⟨w4, rfl, h⟩ := h
  refine aw_eq (L' := [(4, .long w2), (0, .ref (ad 187)), (1, .int x1), (2, .int x2), (3, .int x3)]) (st' := [.long w4]) (m' := m3) ?_ rfl rfl rfl
  refine aw_lstore (L' := [(6, .long w4), (4, .long w2), (0, .ref (ad 187)), (1, .int x1), (2, .int x2), (3, .int x3)]) dX12_stateNow_13 (by decide) rfl ?_
  refine aw_aload_n (j := 2) dX12_stateNow_15 rfl rfl ?_
  refine aw_lload (j := 1) dX12_stateNow_16 rfl ?_
  refine aw_lload (j := 0) dX12_stateNow_18 rfl ?_
  refine aw_callV (rest := []) [.long w2, .long w4] dX12_stateNow_20 ly_187 rfl k_X12_348 rfl h (Nat.le_of_ble_eq_true rfl) (fun v m5 h => ?_)
  obtain ⟨v6, rfl, h⟩ := h
  refine aw_eq (L' := [(6, .long w4), (4, .long w2), (0, .ref (ad 187)), (1, .int x1), (2, .int x2), (3, .int x3)]) (st' := [.int v6]) (m' := m5) ?_ rfl rfl rfl
  refine aw_istore (L' := [(8, .int v6), (6, .long w4), (4, .long w2), (0, .ref (ad 187)), (1, .int x1), (2, .int x2), (3, .int x3)]) dX12_stateNow_23 (by decide) rfl ?_
  refine aw_aload_n (j := 3) dX12_stateNow_25 rfl rfl ?_
  refine aw_getfield (c := 213) (v := .ref (ad 210)) dX12_stateNow_26 f_X12_89 ly_187 rfl rfl ?_
  refine aw_iload (j := 0) dX12_stateNow_29 rfl ?_
  obtain ⟨hi, h⟩ := h
  refine aw_iaload dX12_stateNow_31 ly_210 hi ?_
  refine aw_if_eq (tgt := 45) dX12_stateNow_32 (by decide) (fun hc => ?_) (fun hc => ?_)
  · have h := h.1 hc
    refine aw_aload_n (j := 3) dX12_stateNow_45 rfl rfl ?_
    refine aw_getfield (c := 0) (v := .int (m5.1 187 43)) dX12_stateNow_46 f_X12_341 ly_187 rfl rfl ?_
    refine aw_iload_n (j := 6) dX12_stateNow_49 rfl rfl ?_
    refine aw_icmp_ne (tgt := 55) dX12_stateNow_50 (by decide) (fun hc => ?_) (fun hc => ?_)
    · have h := h.1 hc
      refine aw_aload_n (j := 3) dX12_stateNow_55 rfl rfl ?_
      refine aw_getfield (c := 208) (v := .ref (ad 205)) dX12_stateNow_56 f_X12_74 ly_187 rfl rfl ?_
      refine aw_aload_n (j := 3) dX12_stateNow_59 rfl rfl ?_
      refine aw_getfield (c := 0) (v := .int (m5.1 187 43)) dX12_stateNow_60 f_X12_341 ly_187 rfl rfl ?_
      refine aw_lload (j := 2) dX12_stateNow_63 rfl ?_
      obtain ⟨hi, h⟩ := h
      refine aw_lastore dX12_stateNow_65 ly_205 hi ?_
      refine aw_aload_n (j := 3) dX12_stateNow_66 rfl rfl ?_
      refine aw_getfield (c := 209) (v := .ref (ad 206)) dX12_stateNow_67 f_X12_77 ly_187 rfl rfl ?_
      refine aw_aload_n (j := 3) dX12_stateNow_70 rfl rfl ?_
      refine aw_getfield (c := 0) (v := .int ((uL m5 205 (m5.1 187 43).toNatClampNeg w2).1 187 43)) dX12_stateNow_71 f_X12_341 ly_187 rfl rfl ?_
      refine aw_lload (j := 1) dX12_stateNow_74 rfl ?_
      obtain ⟨hi, h⟩ := h
      refine aw_lastore dX12_stateNow_76 ly_206 hi ?_
      refine aw_aload_n (j := 3) dX12_stateNow_77 rfl rfl ?_
      refine aw_getfield (c := 211) (v := .ref (ad 208)) dX12_stateNow_78 f_X12_83 ly_187 rfl rfl ?_
      refine aw_aload_n (j := 3) dX12_stateNow_81 rfl rfl ?_
      refine aw_getfield (c := 0) (v := .int ((uL (uL m5 205 (m5.1 187 43).toNatClampNeg w2) 206 ((uL m5 205 (m5.1 187 43).toNatClampNeg w2).1 187 43).toNatClampNeg w4).1 187 43)) dX12_stateNow_82 f_X12_341 ly_187 rfl rfl ?_
      refine aw_iload_n (j := 4) dX12_stateNow_85 rfl rfl ?_
      obtain ⟨hi, h⟩ := h
      refine aw_iastore dX12_stateNow_86 ly_208 hi ?_
      refine aw_aload_n (j := 3) dX12_stateNow_87 rfl rfl ?_
      refine aw_getfield (c := 212) (v := .ref (ad 209)) dX12_stateNow_88 f_X12_86 ly_187 rfl rfl ?_
      refine aw_aload_n (j := 3) dX12_stateNow_91 rfl rfl ?_
      refine aw_getfield (c := 0) (v := .int ((uI (uL (uL m5 205 (m5.1 187 43).toNatClampNeg w2) 206 ((uL m5 205 (m5.1 187 43).toNatClampNeg w2).1 187 43).toNatClampNeg w4) 208 ((uL (uL m5 205 (m5.1 187 43).toNatClampNeg w2) 206 ((uL m5 205 (m5.1 187 43).toNatClampNeg w2).1 187 43).toNatClampNeg w4).1 187 43).toNatClampNeg x1).1 187 43)) dX12_stateNow_92 f_X12_341 ly_187 rfl rfl ?_
      refine aw_iload_n (j := 5) dX12_stateNow_95 rfl rfl ?_
      obtain ⟨hi, h⟩ := h
      refine aw_iastore dX12_stateNow_96 ly_209 hi ?_
      refine aw_aload_n (j := 3) dX12_stateNow_97 rfl rfl ?_
      refine aw_getfield (c := 210) (v := .ref (ad 207)) dX12_stateNow_98 f_X12_80 ly_187 rfl rfl ?_
      refine aw_aload_n (j := 3) dX12_stateNow_101 rfl rfl ?_
      refine aw_getfield (c := 0) (v := .int ((uI (uI (uL (uL m5 205 (m5.1 187 43).toNatClampNeg w2) 206 ((uL m5 205 (m5.1 187 43).toNatClampNeg w2).1 187 43).toNatClampNeg w4) 208 ((uL (uL m5 205 (m5.1 187 43).toNatClampNeg w2) 206 ((uL m5 205 (m5.1 187 43).toNatClampNeg w2).1 187 43).toNatClampNeg w4).1 187 43).toNatClampNeg x1) 209 ((uI (uL (uL m5 205 (m5.1 187 43).toNatClampNeg w2) 206 ((uL m5 205 (m5.1 187 43).toNatClampNeg w2).1 187 43).toNatClampNeg w4) 208 ((uL (uL m5 205 (m5.1 187 43).toNatClampNeg w2) 206 ((uL m5 205 (m5.1 187 43).toNatClampNeg w2).1 187 43).toNatClampNeg w4).1 187 43).toNatClampNeg x1).1 187 43).toNatClampNeg x2).1 187 43)) dX12_stateNow_102 f_X12_341 ly_187 rfl rfl ?_
      refine aw_iload_n (j := 4) dX12_stateNow_105 rfl rfl ?_
      refine aw_iconst (v := -1) dX12_stateNow_106 (by decide) ?_
      refine aw_icmp_ne (tgt := 114) dX12_stateNow_107 (by decide) (fun hc => ?_) (fun hc => ?_)
      · have h := h.1 hc
        refine aw_aload_n (j := 3) dX12_stateNow_114 rfl rfl ?_
        refine aw_getfield (c := 210) (v := .ref (ad 207)) dX12_stateNow_115 f_X12_80 ly_187 rfl rfl ?_
        refine aw_iload_n (j := 4) dX12_stateNow_118 rfl rfl ?_
        obtain ⟨hi, h⟩ := h
        refine aw_iaload dX12_stateNow_119 ly_207 hi ?_
        refine aw_iconst (v := 1) dX12_stateNow_120 (by decide) ?_
        refine aw_iadd dX12_stateNow_121 ?_
        exact aw_sub [3, 0] rfl h
      · have h := h.2 hc
        refine aw_iconst (v := 0) dX12_stateNow_110 (by decide) ?_
        refine aw_goto (tgt := 122) dX12_stateNow_111 (by decide) ?_
        exact aw_sub [3, 0] rfl h
    · have h := h.2 hc
      refine aw_iconst (v := -1) dX12_stateNow_53 (by decide) ?_
      exact aw_ret (v := some (.int (-1 : Int32))) rfl (Or.inr (Or.inl ⟨_, .int, rfl, rfl, rfl, dX12_stateNow_54⟩)) h
  · have h := h.2 hc
    refine aw_aload_n (j := 3) dX12_stateNow_35 rfl rfl ?_
    refine aw_getfield (c := 213) (v := .ref (ad 210)) dX12_stateNow_36 f_X12_89 ly_187 rfl rfl ?_
    refine aw_iload (j := 0) dX12_stateNow_39 rfl ?_
    obtain ⟨hi, h⟩ := h
    refine aw_iaload dX12_stateNow_41 ly_210 hi ?_
    refine aw_iconst (v := 1) dX12_stateNow_42 (by decide) ?_
    refine aw_isub dX12_stateNow_43 ?_
    exact aw_ret (v := some (.int ((m5.1 210 v6.toNatClampNeg) - (1 : Int32)))) rfl (Or.inr (Or.inl ⟨_, .int, rfl, rfl, rfl, dX12_stateNow_44⟩)) h
set_option maxRecDepth 100000 in
set_option maxHeartbeats 4000000 in
theorem g_X12_stateNow_122 {ad : Nat → Nat} {d : Nat} {Q : Option Value → Wm → Prop} {m : Wm} {e2 ne2 : Nat} {x8 s0 s1 : Int32} (he2 : LAY[e2]? = some (.inr (0, ne2))) (h : (vp_in s1 ne2 ∧ (vp_in x8 8192 ∧ Q (some (.int (((uI (uI (uI m e2 s1.toNatClampNeg s0) 187 43 (((uI m e2 s1.toNatClampNeg s0).1 187 43) + (1 : Int32))) 210 x8.toNatClampNeg ((uI (uI m e2 s1.toNatClampNeg s0) 187 43 (((uI m e2 s1.toNatClampNeg s0).1 187 43) + (1 : Int32))).1 187 43)).1 187 43) - (1 : Int32)))) (uI (uI (uI m e2 s1.toNatClampNeg s0) 187 43 (((uI m e2 s1.toNatClampNeg s0).1 187 43) + (1 : Int32))) 210 x8.toNatClampNeg ((uI (uI m e2 s1.toNatClampNeg s0) 187 43 (((uI m e2 s1.toNatClampNeg s0).1 187 43) + (1 : Int32))).1 187 43))))) : AW ad E0 μX12_stateNow (d + 1) Q 122 [(0, .ref (ad 187)), (8, .int x8)] [.int s0, .int s1, .ref (ad e2)] m := by
  obtain ⟨hi, h⟩ := h
  refine aw_iastore dX12_stateNow_122 he2 hi ?_
  refine aw_aload_n (j := 0) dX12_stateNow_123 rfl rfl ?_
  refine aw_dup dX12_stateNow_124 rfl ?_
  refine aw_getfield (c := 0) (v := .int ((uI m e2 s1.toNatClampNeg s0).1 187 43)) dX12_stateNow_125 f_X12_341 ly_187 rfl rfl ?_
  refine aw_iconst (v := 1) dX12_stateNow_128 (by decide) ?_
  refine aw_iadd dX12_stateNow_129 ?_
  refine aw_putI dX12_stateNow_130 f_X12_341 cl_X12 rfl ly_187 rfl rfl rfl ?_
  refine aw_aload_n (j := 0) dX12_stateNow_133 rfl rfl ?_
  refine aw_getfield (c := 213) (v := .ref (ad 210)) dX12_stateNow_134 f_X12_89 ly_187 rfl rfl ?_
  refine aw_iload (j := 1) dX12_stateNow_137 rfl ?_
  refine aw_aload_n (j := 0) dX12_stateNow_139 rfl rfl ?_
  refine aw_getfield (c := 0) (v := .int ((uI (uI m e2 s1.toNatClampNeg s0) 187 43 (((uI m e2 s1.toNatClampNeg s0).1 187 43) + (1 : Int32))).1 187 43)) dX12_stateNow_140 f_X12_341 ly_187 rfl rfl ?_
  obtain ⟨hi, h⟩ := h
  refine aw_iastore dX12_stateNow_143 ly_210 hi ?_
  refine aw_aload_n (j := 0) dX12_stateNow_144 rfl rfl ?_
  refine aw_getfield (c := 0) (v := .int ((uI (uI (uI m e2 s1.toNatClampNeg s0) 187 43 (((uI m e2 s1.toNatClampNeg s0).1 187 43) + (1 : Int32))) 210 x8.toNatClampNeg ((uI (uI m e2 s1.toNatClampNeg s0) 187 43 (((uI m e2 s1.toNatClampNeg s0).1 187 43) + (1 : Int32))).1 187 43)).1 187 43)) dX12_stateNow_145 f_X12_341 ly_187 rfl rfl ?_
  refine aw_iconst (v := 1) dX12_stateNow_148 (by decide) ?_
  refine aw_isub dX12_stateNow_149 ?_
  exact aw_ret (v := some (.int (((uI (uI (uI m e2 s1.toNatClampNeg s0) 187 43 (((uI m e2 s1.toNatClampNeg s0).1 187 43) + (1 : Int32))) 210 x8.toNatClampNeg ((uI (uI m e2 s1.toNatClampNeg s0) 187 43 (((uI m e2 s1.toNatClampNeg s0).1 187 43) + (1 : Int32))).1 187 43)).1 187 43) - (1 : Int32)))) rfl (Or.inr (Or.inl ⟨_, .int, rfl, rfl, rfl, dX12_stateNow_150⟩)) h
set_option maxRecDepth 100000 in
set_option maxHeartbeats 4000000 in
theorem v_X12_goTurn {ad : Nat → Nat} {d : Nat} {Q : Option Value → Wm → Prop} {m : Wm} (h : AW ad E0 μX12_goTurn (d + 1) Q 2 [(0, .ref (ad 187)), (1, .int (0 : Int32))] [] m) : Ct ad μX12_goTurn (d + 1) [.ref (ad 187)] m Q := by
  refine Ct.of (by decide +kernel) rfl (Nat.le_of_ble_eq_true rfl) ?_
  refine aw_eq (L' := [(0, .ref (ad 187))]) ?_ rfl rfl rfl
  refine aw_iconst (v := 0) dX12_goTurn_0 (by decide) ?_
  refine aw_istore_n (L' := [(1, .int (0 : Int32)), (0, .ref (ad 187))]) dX12_goTurn_1 rfl (by decide) rfl ?_
  exact aw_sub [1, 0] rfl h
set_option maxRecDepth 100000 in
set_option maxHeartbeats 4000000 in
theorem g_X12_goTurn_2 {ad : Nat → Nat} {d : Nat} {Q : Option Value → Wm → Prop} {m : Wm} {x1 : Int32} (h : (((m.1 187 10) ≤ x1 → Q none m) ∧ (¬ (m.1 187 10) ≤ x1 → (vp_in ((4 : Int32) * x1) 160 ∧ (vp_in (((4 : Int32) * x1) + (1 : Int32)) 160 ∧ (vp_in (((4 : Int32) * x1) + (2 : Int32)) 160 ∧ (Ct ad μX12_goQuiet d [.ref (ad 187), .int (m.1 194 ((4 : Int32) * x1).toNatClampNeg), .int (m.1 194 (((4 : Int32) * x1) + (1 : Int32)).toNatClampNeg), .int (m.1 194 (((4 : Int32) * x1) + (2 : Int32)).toNatClampNeg)] m (fun r m1 => r = none ∧ AW ad E0 μX12_goTurn (d + 1) Q 2 [(0, .ref (ad 187)), (1, .int (x1 + (1 : Int32)))] [] m1)))))))) : AW ad E0 μX12_goTurn (d + 1) Q 2 [(0, .ref (ad 187)), (1, .int x1)] [] m := by
  refine aw_iload_n (j := 1) dX12_goTurn_2 rfl rfl ?_
  refine aw_aload_n (j := 0) dX12_goTurn_3 rfl rfl ?_
  refine aw_getfield (c := 0) (v := .int (m.1 187 10)) dX12_goTurn_4 f_X12_181 ly_187 rfl rfl ?_
  refine aw_icmp_ge (tgt := 48) dX12_goTurn_7 (by decide) (fun hc => ?_) (fun hc => ?_)
  · have h := h.1 hc
    exact aw_ret (v := none) rfl (Or.inl ⟨rfl, rfl, dX12_goTurn_48⟩) h
  · have h := h.2 hc
    refine aw_aload_n (j := 0) dX12_goTurn_10 rfl rfl ?_
    refine aw_aload_n (j := 0) dX12_goTurn_11 rfl rfl ?_
    refine aw_getfield (c := 197) (v := .ref (ad 194)) dX12_goTurn_12 f_X12_36 ly_187 rfl rfl ?_
    refine aw_iconst (v := 4) dX12_goTurn_15 (by decide) ?_
    refine aw_iload_n (j := 1) dX12_goTurn_16 rfl rfl ?_
    refine aw_imul dX12_goTurn_17 ?_
    obtain ⟨hi, h⟩ := h
    refine aw_iaload dX12_goTurn_18 ly_194 hi ?_
    refine aw_aload_n (j := 0) dX12_goTurn_19 rfl rfl ?_
    refine aw_getfield (c := 197) (v := .ref (ad 194)) dX12_goTurn_20 f_X12_36 ly_187 rfl rfl ?_
    refine aw_iconst (v := 4) dX12_goTurn_23 (by decide) ?_
    refine aw_iload_n (j := 1) dX12_goTurn_24 rfl rfl ?_
    refine aw_imul dX12_goTurn_25 ?_
    refine aw_iconst (v := 1) dX12_goTurn_26 (by decide) ?_
    refine aw_iadd dX12_goTurn_27 ?_
    obtain ⟨hi, h⟩ := h
    refine aw_iaload dX12_goTurn_28 ly_194 hi ?_
    refine aw_aload_n (j := 0) dX12_goTurn_29 rfl rfl ?_
    refine aw_getfield (c := 197) (v := .ref (ad 194)) dX12_goTurn_30 f_X12_36 ly_187 rfl rfl ?_
    refine aw_iconst (v := 4) dX12_goTurn_33 (by decide) ?_
    refine aw_iload_n (j := 1) dX12_goTurn_34 rfl rfl ?_
    refine aw_imul dX12_goTurn_35 ?_
    refine aw_iconst (v := 2) dX12_goTurn_36 (by decide) ?_
    refine aw_iadd dX12_goTurn_37 ?_
    obtain ⟨hi, h⟩ := h
    refine aw_iaload dX12_goTurn_38 ly_194 hi ?_
    refine aw_callV (rest := []) [.int (m.1 194 ((4 : Int32) * x1).toNatClampNeg), .int (m.1 194 (((4 : Int32) * x1) + (1 : Int32)).toNatClampNeg), .int (m.1 194 (((4 : Int32) * x1) + (2 : Int32)).toNatClampNeg)] dX12_goTurn_39 ly_187 rfl k_X12_352 rfl h (Nat.le_of_ble_eq_true rfl) (fun v m1 h => ?_)
    obtain ⟨rfl, h⟩ := h
    refine aw_eq (L' := [(0, .ref (ad 187)), (1, .int x1)]) (st' := []) (m' := m1) ?_ rfl rfl rfl
    refine aw_iinc (j := 1) (v := x1 + (1 : Int32)) (L' := [(1, .int (x1 + (1 : Int32))), (0, .ref (ad 187))]) dX12_goTurn_42 rfl rfl (by decide) rfl ?_
    refine aw_goto (tgt := 2) dX12_goTurn_45 (by decide) ?_
    exact aw_sub [1, 0] rfl h
set_option maxRecDepth 100000 in
set_option maxHeartbeats 4000000 in
theorem v_X12_findRest {ad : Nat → Nat} {d : Nat} {Q : Option Value → Wm → Prop} {m : Wm} (h : (Ct ad μX12_clearStates d [.ref (ad 187)] m (fun r m1 => r = none ∧ (Ct ad μX12_stateNow d [.ref (ad 187), .int (-1 : Int32), .int (0 : Int32), .int (3000 : Int32)] m1 (fun r m2 => ∃ v3 : Int32, r = some (.int v3) ∧ AW ad E0 μX12_findRest (d + 1) Q 18 [(0, .ref (ad 187)), (1, .int (0 : Int32)), (2, .int (1 : Int32))] [] m2))))) : Ct ad μX12_findRest (d + 1) [.ref (ad 187)] m Q := by
  refine Ct.of (by decide +kernel) rfl (Nat.le_of_ble_eq_true rfl) ?_
  refine aw_eq (L' := [(0, .ref (ad 187))]) ?_ rfl rfl rfl
  refine aw_aload_n (j := 0) dX12_findRest_0 rfl rfl ?_
  refine aw_callV (rest := []) [] dX12_findRest_1 ly_187 rfl k_X12_356 rfl h (Nat.le_of_ble_eq_true rfl) (fun v m1 h => ?_)
  obtain ⟨rfl, h⟩ := h
  refine aw_eq (L' := [(0, .ref (ad 187))]) (st' := []) (m' := m1) ?_ rfl rfl rfl
  refine aw_iconst (v := 0) dX12_findRest_4 (by decide) ?_
  refine aw_istore_n (L' := [(1, .int (0 : Int32)), (0, .ref (ad 187))]) dX12_findRest_5 rfl (by decide) rfl ?_
  refine aw_aload_n (j := 1) dX12_findRest_6 rfl rfl ?_
  refine aw_iconst (v := -1) dX12_findRest_7 (by decide) ?_
  refine aw_iconst (v := 0) dX12_findRest_8 (by decide) ?_
  refine aw_sipush (v := 3000) dX12_findRest_9 (by decide) ?_
  refine aw_callV (rest := []) [.int (-1 : Int32), .int (0 : Int32), .int (3000 : Int32)] dX12_findRest_12 ly_187 rfl k_X12_359 rfl h (Nat.le_of_ble_eq_true rfl) (fun v m2 h => ?_)
  obtain ⟨v3, rfl, h⟩ := h
  refine aw_eq (L' := [(1, .int (0 : Int32)), (0, .ref (ad 187))]) (st' := [.int v3]) (m' := m2) ?_ rfl rfl rfl
  refine aw_pop dX12_findRest_15 rfl ?_
  refine aw_iconst (v := 1) dX12_findRest_16 (by decide) ?_
  refine aw_istore_n (L' := [(2, .int (1 : Int32)), (1, .int (0 : Int32)), (0, .ref (ad 187))]) dX12_findRest_17 rfl (by decide) rfl ?_
  exact aw_sub [2, 1, 0] rfl h
set_option maxRecDepth 100000 in
set_option maxHeartbeats 4000000 in
theorem g_X12_findRest_18 {ad : Nat → Nat} {d : Nat} {Q : Option Value → Wm → Prop} {m : Wm} {x1 x2 : Int32} (h : (((2000 : Int32) < x2 → AW ad E0 μX12_findRest (d + 1) Q 90 [(0, .ref (ad 187)), (1, .int x1)] [] m) ∧ (¬ (2000 : Int32) < x2 → ((¬ x1 = 0 → AW ad E0 μX12_findRest (d + 1) Q 90 [(0, .ref (ad 187)), (1, .int x1)] [] m) ∧ (x1 = 0 → (Ct ad μX12_goTurn d [.ref (ad 187)] m (fun r m1 => r = none ∧ (Ct ad μX12_stateNow d [.ref (ad 187), .int (-1 : Int32), .int (0 : Int32), .int (3000 : Int32)] m1 (fun r m2 => ∃ v3 : Int32, r = some (.int v3) ∧ ((¬ (m2.1 187 43) = (m1.1 187 43) → AW ad E0 μX12_findRest (d + 1) Q 62 [(0, .ref (ad 187)), (2, .int x2), (4, .int v3)] [.int (0 : Int32)] m2) ∧ ((m2.1 187 43) = (m1.1 187 43) → AW ad E0 μX12_findRest (d + 1) Q 62 [(0, .ref (ad 187)), (2, .int x2), (4, .int v3)] [.int (1 : Int32)] m2))))))))))) : AW ad E0 μX12_findRest (d + 1) Q 18 [(0, .ref (ad 187)), (1, .int x1), (2, .int x2)] [] m := by
  refine aw_iload_n (j := 2) dX12_findRest_18 rfl rfl ?_
  refine aw_sipush (v := 2000) dX12_findRest_19 (by decide) ?_
  refine aw_icmp_gt (tgt := 90) dX12_findRest_22 (by decide) (fun hc => ?_) (fun hc => ?_)
  · have h := h.1 hc
    exact aw_sub [0, 1] rfl h
  · have h := h.2 hc
    refine aw_iload_n (j := 1) dX12_findRest_25 rfl rfl ?_
    refine aw_if_ne (tgt := 90) dX12_findRest_26 (by decide) (fun hc => ?_) (fun hc => ?_)
    · have h := h.1 hc
      exact aw_sub [0, 1] rfl h
    · have h := h.2 hc
      refine aw_aload_n (j := 0) dX12_findRest_29 rfl rfl ?_
      refine aw_callV (rest := []) [] dX12_findRest_30 ly_187 rfl k_X12_362 rfl h (Nat.le_of_ble_eq_true rfl) (fun v m1 h => ?_)
      obtain ⟨rfl, h⟩ := h
      refine aw_eq (L' := [(0, .ref (ad 187)), (1, .int x1), (2, .int x2)]) (st' := []) (m' := m1) ?_ rfl rfl rfl
      refine aw_aload_n (j := 0) dX12_findRest_33 rfl rfl ?_
      refine aw_getfield (c := 0) (v := .int (m1.1 187 43)) dX12_findRest_34 f_X12_341 ly_187 rfl rfl ?_
      refine aw_istore_n (L' := [(3, .int (m1.1 187 43)), (0, .ref (ad 187)), (1, .int x1), (2, .int x2)]) dX12_findRest_37 rfl (by decide) rfl ?_
      refine aw_aload_n (j := 1) dX12_findRest_38 rfl rfl ?_
      refine aw_iconst (v := -1) dX12_findRest_39 (by decide) ?_
      refine aw_iconst (v := 0) dX12_findRest_40 (by decide) ?_
      refine aw_sipush (v := 3000) dX12_findRest_41 (by decide) ?_
      refine aw_callV (rest := []) [.int (-1 : Int32), .int (0 : Int32), .int (3000 : Int32)] dX12_findRest_44 ly_187 rfl k_X12_359 rfl h (Nat.le_of_ble_eq_true rfl) (fun v m2 h => ?_)
      obtain ⟨v3, rfl, h⟩ := h
      refine aw_eq (L' := [(3, .int (m1.1 187 43)), (0, .ref (ad 187)), (1, .int x1), (2, .int x2)]) (st' := [.int v3]) (m' := m2) ?_ rfl rfl rfl
      refine aw_istore (L' := [(4, .int v3), (3, .int (m1.1 187 43)), (0, .ref (ad 187)), (1, .int x1), (2, .int x2)]) dX12_findRest_47 (by decide) rfl ?_
      refine aw_aload_n (j := 2) dX12_findRest_49 rfl rfl ?_
      refine aw_getfield (c := 0) (v := .int (m2.1 187 43)) dX12_findRest_50 f_X12_341 ly_187 rfl rfl ?_
      refine aw_iload_n (j := 1) dX12_findRest_53 rfl rfl ?_
      refine aw_icmp_ne (tgt := 61) dX12_findRest_54 (by decide) (fun hc => ?_) (fun hc => ?_)
      · have h := h.1 hc
        refine aw_iconst (v := 0) dX12_findRest_61 (by decide) ?_
        exact aw_sub [2, 4, 0] rfl h
      · have h := h.2 hc
        refine aw_iconst (v := 1) dX12_findRest_57 (by decide) ?_
        refine aw_goto (tgt := 62) dX12_findRest_58 (by decide) ?_
        exact aw_sub [2, 4, 0] rfl h
set_option maxRecDepth 100000 in
set_option maxHeartbeats 4000000 in
theorem g_X12_findRest_62 {ad : Nat → Nat} {d : Nat} {Q : Option Value → Wm → Prop} {m : Wm} {x2 x4 s0 : Int32} (h : ((¬ s0 = 0 → AW ad E0 μX12_findRest (d + 1) Q 18 [(0, .ref (ad 187)), (1, .int s0), (2, .int (x2 + (1 : Int32)))] [] (uI (uI m 187 45 x4) 187 46 (x2 - x4))) ∧ (s0 = 0 → AW ad E0 μX12_findRest (d + 1) Q 18 [(0, .ref (ad 187)), (1, .int s0), (2, .int (x2 + (1 : Int32)))] [] m))) : AW ad E0 μX12_findRest (d + 1) Q 62 [(0, .ref (ad 187)), (2, .int x2), (4, .int x4)] [.int s0] m := by
  refine aw_istore_n (L' := [(1, .int s0), (0, .ref (ad 187)), (2, .int x2), (4, .int x4)]) dX12_findRest_62 rfl (by decide) rfl ?_
  refine aw_iload_n (j := 0) dX12_findRest_63 rfl rfl ?_
  refine aw_if_ne (tgt := 70) dX12_findRest_64 (by decide) (fun hc => ?_) (fun hc => ?_)
  · have h := h.1 hc
    refine aw_aload_n (j := 1) dX12_findRest_70 rfl rfl ?_
    refine aw_iload (j := 3) dX12_findRest_71 rfl ?_
    refine aw_putI dX12_findRest_73 f_X12_365 cl_X12 rfl ly_187 rfl rfl rfl ?_
    refine aw_aload_n (j := 1) dX12_findRest_76 rfl rfl ?_
    refine aw_iload_n (j := 2) dX12_findRest_77 rfl rfl ?_
    refine aw_iload (j := 3) dX12_findRest_78 rfl ?_
    refine aw_isub dX12_findRest_80 ?_
    refine aw_putI dX12_findRest_81 f_X12_368 cl_X12 rfl ly_187 rfl rfl rfl ?_
    refine aw_iinc (j := 2) (v := x2 + (1 : Int32)) (L' := [(2, .int (x2 + (1 : Int32))), (1, .int s0), (0, .ref (ad 187)), (4, .int x4)]) dX12_findRest_84 rfl rfl (by decide) rfl ?_
    refine aw_goto (tgt := 18) dX12_findRest_87 (by decide) ?_
    exact aw_sub [2, 1, 0] rfl h
  · have h := h.2 hc
    refine aw_goto (tgt := 84) dX12_findRest_67 (by decide) ?_
    refine aw_iinc (j := 2) (v := x2 + (1 : Int32)) (L' := [(2, .int (x2 + (1 : Int32))), (1, .int s0), (0, .ref (ad 187)), (4, .int x4)]) dX12_findRest_84 rfl rfl (by decide) rfl ?_
    refine aw_goto (tgt := 18) dX12_findRest_87 (by decide) ?_
    exact aw_sub [2, 1, 0] rfl h
set_option maxRecDepth 100000 in
set_option maxHeartbeats 4000000 in
theorem g_X12_findRest_90 {ad : Nat → Nat} {d : Nat} {Q : Option Value → Wm → Prop} {m : Wm} {x1 : Int32} (h : (Ct ad μX12_bring d [.ref (ad 187), .ref (ad 204), .int (0 : Int32)] m (fun r m1 => r = none ∧ (bz x1 ∧ Q (some (.int x1)) m1)))) : AW ad E0 μX12_findRest (d + 1) Q 90 [(0, .ref (ad 187)), (1, .int x1)] [] m := by
  refine aw_aload_n (j := 0) dX12_findRest_90 rfl rfl ?_
  refine aw_aload_n (j := 0) dX12_findRest_91 rfl rfl ?_
  refine aw_getfield (c := 207) (v := .ref (ad 204)) dX12_findRest_92 f_X12_71 ly_187 rfl rfl ?_
  refine aw_iconst (v := 0) dX12_findRest_95 (by decide) ?_
  refine aw_callV (rest := []) [.ref (ad 204), .int (0 : Int32)] dX12_findRest_96 ly_187 rfl k_X12_302 rfl h (Nat.le_of_ble_eq_true rfl) (fun v m1 h => ?_)
  obtain ⟨rfl, h⟩ := h
  refine aw_eq (L' := [(0, .ref (ad 187)), (1, .int x1)]) (st' := []) (m' := m1) ?_ rfl rfl rfl
  refine aw_iload_n (j := 1) dX12_findRest_99 rfl rfl ?_
  exact aw_ret (v := some (.int x1)) rfl (Or.inr (Or.inl ⟨_, .boolean, rfl, rfl, h.1.n, dX12_findRest_100⟩)) h.2
set_option maxRecDepth 100000 in
set_option maxHeartbeats 4000000 in
theorem v_X12_rest {ad : Nat → Nat} {d : Nat} {Q : Option Value → Wm → Prop} {m : Wm} (h : ((¬ ((uI m 187 17 (0 : Int32)).1 187 11) = 0 → (Ct ad μX12_findRest d [.ref (ad 187)] (uI m 187 17 (0 : Int32)) (fun r m1 => ∃ v2 : Int32, r = some (.int v2) ∧ ((¬ v2 = 0 → (Ct ad μX12_load d [.ref (ad 187), .int (m1.1 187 45)] m1 (fun r m3 => r = none ∧ (Ct ad μX12_sumOfAll d [.ref (ad 187)] m3 (fun r m4 => ∃ v5 : Int32, r = some (.int v5) ∧ (Ct ad μX12_bring d [.ref (ad 187), .ref (ad 204), .int (0 : Int32)] m4 (fun r m6 => r = none ∧ (Ct ad μX12_tell d [.ref (ad 187), .long (((uI m6 187 16 (0 : Int32)).1 187 46).toInt64)] (uI m6 187 16 (0 : Int32)) (fun r m7 => r = none ∧ (Ct ad μX12_tell d [.ref (ad 187), .long v5.toInt64] m7 (fun r m8 => r = none ∧ Q (some (.int (m8.1 187 45))) m8))))))))))) ∧ (v2 = 0 → Q (some (.int (-3 : Int32))) m1))))) ∧ (((uI m 187 17 (0 : Int32)).1 187 11) = 0 → Q (some (.int (-1 : Int32))) (uI m 187 17 (0 : Int32))))) : Ct ad μX12_rest (d + 1) [.ref (ad 187)] m Q := by
  refine Ct.of (by decide +kernel) rfl (Nat.le_of_ble_eq_true rfl) ?_
  refine aw_eq (L' := [(0, .ref (ad 187))]) ?_ rfl rfl rfl
  refine aw_aload_n (j := 0) dX12_rest_0 rfl rfl ?_
  refine aw_iconst (v := 0) dX12_rest_1 (by decide) ?_
  refine aw_putI dX12_rest_2 f_X12_110 cl_X12 rfl ly_187 rfl rfl rfl ?_
  refine aw_aload_n (j := 0) dX12_rest_5 rfl rfl ?_
  refine aw_getfield (c := 0) (v := .int ((uI m 187 17 (0 : Int32)).1 187 11)) dX12_rest_6 f_X12_184 ly_187 rfl rfl ?_
  refine aw_if_ne (tgt := 14) dX12_rest_9 (by decide) (fun hc => ?_) (fun hc => ?_)
  · have h := h.1 hc
    refine aw_aload_n (j := 0) dX12_rest_14 rfl rfl ?_
    refine aw_callV (rest := []) [] dX12_rest_15 ly_187 rfl k_X12_371 rfl h (Nat.le_of_ble_eq_true rfl) (fun v m1 h => ?_)
    obtain ⟨v2, rfl, h⟩ := h
    refine aw_eq (L' := [(0, .ref (ad 187))]) (st' := [.int v2]) (m' := m1) ?_ rfl rfl rfl
    refine aw_if_ne (tgt := 24) dX12_rest_18 (by decide) (fun hc => ?_) (fun hc => ?_)
    · have h := h.1 hc
      refine aw_aload_n (j := 0) dX12_rest_24 rfl rfl ?_
      refine aw_aload_n (j := 0) dX12_rest_25 rfl rfl ?_
      refine aw_getfield (c := 0) (v := .int (m1.1 187 45)) dX12_rest_26 f_X12_365 ly_187 rfl rfl ?_
      refine aw_callV (rest := []) [.int (m1.1 187 45)] dX12_rest_29 ly_187 rfl k_X12_374 rfl h (Nat.le_of_ble_eq_true rfl) (fun v m3 h => ?_)
      obtain ⟨rfl, h⟩ := h
      refine aw_eq (L' := [(0, .ref (ad 187))]) (st' := []) (m' := m3) ?_ rfl rfl rfl
      refine aw_aload_n (j := 0) dX12_rest_32 rfl rfl ?_
      refine aw_callV (rest := []) [] dX12_rest_33 ly_187 rfl k_X12_305 rfl h (Nat.le_of_ble_eq_true rfl) (fun v m4 h => ?_)
      obtain ⟨v5, rfl, h⟩ := h
      refine aw_eq (L' := [(0, .ref (ad 187))]) (st' := [.int v5]) (m' := m4) ?_ rfl rfl rfl
      refine aw_istore_n (L' := [(1, .int v5), (0, .ref (ad 187))]) dX12_rest_36 rfl (by decide) rfl ?_
      refine aw_aload_n (j := 1) dX12_rest_37 rfl rfl ?_
      refine aw_aload_n (j := 1) dX12_rest_38 rfl rfl ?_
      refine aw_getfield (c := 207) (v := .ref (ad 204)) dX12_rest_39 f_X12_71 ly_187 rfl rfl ?_
      refine aw_iconst (v := 0) dX12_rest_42 (by decide) ?_
      refine aw_callV (rest := []) [.ref (ad 204), .int (0 : Int32)] dX12_rest_43 ly_187 rfl k_X12_302 rfl h (Nat.le_of_ble_eq_true rfl) (fun v m6 h => ?_)
      obtain ⟨rfl, h⟩ := h
      refine aw_eq (L' := [(1, .int v5), (0, .ref (ad 187))]) (st' := []) (m' := m6) ?_ rfl rfl rfl
      refine aw_aload_n (j := 1) dX12_rest_46 rfl rfl ?_
      refine aw_iconst (v := 0) dX12_rest_47 (by decide) ?_
      refine aw_putI dX12_rest_48 f_X12_113 cl_X12 rfl ly_187 rfl rfl rfl ?_
      refine aw_aload_n (j := 1) dX12_rest_51 rfl rfl ?_
      refine aw_aload_n (j := 1) dX12_rest_52 rfl rfl ?_
      refine aw_getfield (c := 0) (v := .int ((uI m6 187 16 (0 : Int32)).1 187 46)) dX12_rest_53 f_X12_368 ly_187 rfl rfl ?_
      refine aw_i2l dX12_rest_56 ?_
      refine aw_callV (rest := []) [.long (((uI m6 187 16 (0 : Int32)).1 187 46).toInt64)] dX12_rest_57 ly_187 rfl k_X12_131 rfl h (Nat.le_of_ble_eq_true rfl) (fun v m7 h => ?_)
      obtain ⟨rfl, h⟩ := h
      refine aw_eq (L' := [(1, .int v5), (0, .ref (ad 187))]) (st' := []) (m' := m7) ?_ rfl rfl rfl
      refine aw_aload_n (j := 1) dX12_rest_60 rfl rfl ?_
      refine aw_iload_n (j := 0) dX12_rest_61 rfl rfl ?_
      refine aw_i2l dX12_rest_62 ?_
      refine aw_callV (rest := []) [.long v5.toInt64] dX12_rest_63 ly_187 rfl k_X12_131 rfl h (Nat.le_of_ble_eq_true rfl) (fun v m8 h => ?_)
      obtain ⟨rfl, h⟩ := h
      refine aw_eq (L' := [(1, .int v5), (0, .ref (ad 187))]) (st' := []) (m' := m8) ?_ rfl rfl rfl
      refine aw_aload_n (j := 1) dX12_rest_66 rfl rfl ?_
      refine aw_getfield (c := 0) (v := .int (m8.1 187 45)) dX12_rest_67 f_X12_365 ly_187 rfl rfl ?_
      exact aw_ret (v := some (.int (m8.1 187 45))) rfl (Or.inr (Or.inl ⟨_, .int, rfl, rfl, rfl, dX12_rest_70⟩)) h
    · have h := h.2 hc
      refine aw_bipush (v := -3) dX12_rest_21 (by decide) ?_
      exact aw_ret (v := some (.int (-3 : Int32))) rfl (Or.inr (Or.inl ⟨_, .int, rfl, rfl, rfl, dX12_rest_23⟩)) h
  · have h := h.2 hc
    refine aw_iconst (v := -1) dX12_rest_12 (by decide) ?_
    exact aw_ret (v := some (.int (-1 : Int32))) rfl (Or.inr (Or.inl ⟨_, .int, rfl, rfl, rfl, dX12_rest_13⟩)) h
set_option maxRecDepth 100000 in
set_option maxHeartbeats 4000000 in
theorem v_X12_skillIn {ad : Nat → Nat} {d : Nat} {Q : Option Value → Wm → Prop} {m : Wm} {x1 x2 x3 : Int32} (h : (((16 : Int32) ≤ (((4 : Int32) * x2) + x3) → (vp_in x1 3000 ∧ AW ad E0 μX12_skillIn d Q 29 [(4, .int (((4 : Int32) * x2) + x3))] [.long (m.2.1 206 x1.toNatClampNeg)] m)) ∧ (¬ (16 : Int32) ≤ (((4 : Int32) * x2) + x3) → (vp_in x1 3000 ∧ AW ad E0 μX12_skillIn d Q 29 [(4, .int (((4 : Int32) * x2) + x3))] [.long (m.2.1 205 x1.toNatClampNeg)] m)))) : Ct ad μX12_skillIn d [.ref (ad 187), .int x1, .int x2, .int x3] m Q := by
  refine Ct.of (by decide +kernel) rfl (Nat.le_of_ble_eq_true rfl) ?_
  refine aw_eq (L' := [(0, .ref (ad 187)), (1, .int x1), (2, .int x2), (3, .int x3)]) ?_ rfl rfl rfl
  refine aw_iconst (v := 4) dX12_skillIn_0 (by decide) ?_
  refine aw_iload_n (j := 2) dX12_skillIn_1 rfl rfl ?_
  refine aw_imul dX12_skillIn_2 ?_
  refine aw_iload_n (j := 3) dX12_skillIn_3 rfl rfl ?_
  refine aw_iadd dX12_skillIn_4 ?_
  refine aw_istore (L' := [(4, .int (((4 : Int32) * x2) + x3)), (0, .ref (ad 187)), (1, .int x1), (2, .int x2), (3, .int x3)]) dX12_skillIn_5 (by decide) rfl ?_
  refine aw_iload (j := 0) dX12_skillIn_7 rfl ?_
  refine aw_bipush (v := 16) dX12_skillIn_9 (by decide) ?_
  refine aw_icmp_ge (tgt := 23) dX12_skillIn_11 (by decide) (fun hc => ?_) (fun hc => ?_)
  · have h := h.1 hc
    refine aw_aload_n (j := 1) dX12_skillIn_23 rfl rfl ?_
    refine aw_getfield (c := 209) (v := .ref (ad 206)) dX12_skillIn_24 f_X12_77 ly_187 rfl rfl ?_
    refine aw_iload_n (j := 2) dX12_skillIn_27 rfl rfl ?_
    obtain ⟨hi, h⟩ := h
    refine aw_laload dX12_skillIn_28 ly_206 hi ?_
    exact aw_sub [0] rfl h
  · have h := h.2 hc
    refine aw_aload_n (j := 1) dX12_skillIn_14 rfl rfl ?_
    refine aw_getfield (c := 208) (v := .ref (ad 205)) dX12_skillIn_15 f_X12_74 ly_187 rfl rfl ?_
    refine aw_iload_n (j := 2) dX12_skillIn_18 rfl rfl ?_
    obtain ⟨hi, h⟩ := h
    refine aw_laload dX12_skillIn_19 ly_205 hi ?_
    refine aw_goto (tgt := 29) dX12_skillIn_20 (by decide) ?_
    exact aw_sub [0] rfl h
set_option maxRecDepth 100000 in
set_option maxHeartbeats 4000000 in
theorem g_X12_skillIn_29 {ad : Nat → Nat} {d : Nat} {Q : Option Value → Wm → Prop} {m : Wm} {x4 : Int32} {z0 : Int64} (h : Q (some (.int (((z0 >>> (((3 : Int32) * ((15 : Int32) - (x4 - x4 / (16 : Int32) * (16 : Int32)))).toInt64 &&& 63)) &&& (7 : Int64)).toInt32))) m) : AW ad E0 μX12_skillIn d Q 29 [(4, .int x4)] [.long z0] m := by
  refine aw_lstore (L' := [(5, .long z0), (4, .int x4)]) dX12_skillIn_29 (by decide) rfl ?_
  refine aw_lload (j := 0) dX12_skillIn_31 rfl ?_
  refine aw_iconst (v := 3) dX12_skillIn_33 (by decide) ?_
  refine aw_bipush (v := 15) dX12_skillIn_34 (by decide) ?_
  refine aw_iload (j := 1) dX12_skillIn_36 rfl ?_
  refine aw_bipush (v := 16) dX12_skillIn_38 (by decide) ?_
  refine aw_irem dX12_skillIn_40 (by decide) ?_
  refine aw_isub dX12_skillIn_41 ?_
  refine aw_imul dX12_skillIn_42 ?_
  refine aw_lshr dX12_skillIn_43 ?_
  refine aw_ldc2 dX12_skillIn_44 c_X12_335 ?_
  refine aw_land dX12_skillIn_47 ?_
  refine aw_l2i dX12_skillIn_48 ?_
  exact aw_ret (v := some (.int (((z0 >>> (((3 : Int32) * ((15 : Int32) - (x4 - x4 / (16 : Int32) * (16 : Int32)))).toInt64 &&& 63)) &&& (7 : Int64)).toInt32))) rfl (Or.inr (Or.inl ⟨_, .int, rfl, rfl, rfl, dX12_skillIn_49⟩)) h
set_option maxRecDepth 100000 in
set_option maxHeartbeats 4000000 in
theorem v_X12_mean {ad : Nat → Nat} {d : Nat} {Q : Option Value → Wm → Prop} {m : Wm} {x1 x2 : Int32} (h : (Ct ad μX12_isSide d [.ref (ad 187), .int x1] (uI m 187 17 (0 : Int32)) (fun r m1 => ∃ v2 : Int32, r = some (.int v2) ∧ ((v2 = 0 → Q (some (.int (-1 : Int32))) m1) ∧ (¬ v2 = 0 → (Ct ad μX12_isArt d [.ref (ad 187), .int x2] m1 (fun r m3 => ∃ v4 : Int32, r = some (.int v4) ∧ ((v4 = 0 → Q (some (.int (-1 : Int32))) m3) ∧ (¬ v4 = 0 → ((¬ (m3.1 187 11) = 0 → (Ct ad μX12_findRest d [.ref (ad 187)] m3 (fun r m5 => ∃ v6 : Int32, r = some (.int v6) ∧ ((¬ v6 = 0 → AW ad E0 μX12_mean (d + 1) Q 48 [(0, .ref (ad 187)), (1, .int x1), (2, .int x2), (3, .long (0 : Int64)), (5, .int (m5.1 187 45))] [] m5) ∧ (v6 = 0 → Q (some (.int (-3 : Int32))) m5))))) ∧ ((m3.1 187 11) = 0 → Q (some (.int (-1 : Int32))) m3))))))))))) : Ct ad μX12_mean (d + 1) [.ref (ad 187), .int x1, .int x2] m Q := by
  refine Ct.of (by decide +kernel) rfl (Nat.le_of_ble_eq_true rfl) ?_
  refine aw_eq (L' := [(0, .ref (ad 187)), (1, .int x1), (2, .int x2)]) ?_ rfl rfl rfl
  refine aw_aload_n (j := 0) dX12_mean_0 rfl rfl ?_
  refine aw_iconst (v := 0) dX12_mean_1 (by decide) ?_
  refine aw_putI dX12_mean_2 f_X12_110 cl_X12 rfl ly_187 rfl rfl rfl ?_
  refine aw_aload_n (j := 0) dX12_mean_5 rfl rfl ?_
  refine aw_iload_n (j := 1) dX12_mean_6 rfl rfl ?_
  refine aw_callV (rest := []) [.int x1] dX12_mean_7 ly_187 rfl k_X12_123 rfl h (Nat.le_of_ble_eq_true rfl) (fun v m1 h => ?_)
  obtain ⟨v2, rfl, h⟩ := h
  refine aw_eq (L' := [(0, .ref (ad 187)), (1, .int x1), (2, .int x2)]) (st' := [.int v2]) (m' := m1) ?_ rfl rfl rfl
  refine aw_if_eq (tgt := 28) dX12_mean_10 (by decide) (fun hc => ?_) (fun hc => ?_)
  · have h := h.1 hc
    refine aw_iconst (v := -1) dX12_mean_28 (by decide) ?_
    exact aw_ret (v := some (.int (-1 : Int32))) rfl (Or.inr (Or.inl ⟨_, .int, rfl, rfl, rfl, dX12_mean_29⟩)) h
  · have h := h.2 hc
    refine aw_aload_n (j := 0) dX12_mean_13 rfl rfl ?_
    refine aw_iload_n (j := 2) dX12_mean_14 rfl rfl ?_
    refine aw_callV (rest := []) [.int x2] dX12_mean_15 ly_187 rfl k_X12_244 rfl h (Nat.le_of_ble_eq_true rfl) (fun v m3 h => ?_)
    obtain ⟨v4, rfl, h⟩ := h
    refine aw_eq (L' := [(0, .ref (ad 187)), (1, .int x1), (2, .int x2)]) (st' := [.int v4]) (m' := m3) ?_ rfl rfl rfl
    refine aw_if_eq (tgt := 28) dX12_mean_18 (by decide) (fun hc => ?_) (fun hc => ?_)
    · have h := h.1 hc
      refine aw_iconst (v := -1) dX12_mean_28 (by decide) ?_
      exact aw_ret (v := some (.int (-1 : Int32))) rfl (Or.inr (Or.inl ⟨_, .int, rfl, rfl, rfl, dX12_mean_29⟩)) h
    · have h := h.2 hc
      refine aw_aload_n (j := 0) dX12_mean_21 rfl rfl ?_
      refine aw_getfield (c := 0) (v := .int (m3.1 187 11)) dX12_mean_22 f_X12_184 ly_187 rfl rfl ?_
      refine aw_if_ne (tgt := 30) dX12_mean_25 (by decide) (fun hc => ?_) (fun hc => ?_)
      · have h := h.1 hc
        refine aw_aload_n (j := 0) dX12_mean_30 rfl rfl ?_
        refine aw_callV (rest := []) [] dX12_mean_31 ly_187 rfl k_X12_371 rfl h (Nat.le_of_ble_eq_true rfl) (fun v m5 h => ?_)
        obtain ⟨v6, rfl, h⟩ := h
        refine aw_eq (L' := [(0, .ref (ad 187)), (1, .int x1), (2, .int x2)]) (st' := [.int v6]) (m' := m5) ?_ rfl rfl rfl
        refine aw_if_ne (tgt := 40) dX12_mean_34 (by decide) (fun hc => ?_) (fun hc => ?_)
        · have h := h.1 hc
          refine aw_lconst (v := 0) dX12_mean_40 (by decide) ?_
          refine aw_lstore_n (L' := [(3, .long (0 : Int64)), (0, .ref (ad 187)), (1, .int x1), (2, .int x2)]) dX12_mean_41 rfl (by decide) rfl ?_
          refine aw_aload_n (j := 1) dX12_mean_42 rfl rfl ?_
          refine aw_getfield (c := 0) (v := .int (m5.1 187 45)) dX12_mean_43 f_X12_365 ly_187 rfl rfl ?_
          refine aw_istore (L' := [(5, .int (m5.1 187 45)), (3, .long (0 : Int64)), (0, .ref (ad 187)), (1, .int x1), (2, .int x2)]) dX12_mean_46 (by decide) rfl ?_
          exact aw_sub [2, 3, 4, 1, 0] rfl h
        · have h := h.2 hc
          refine aw_bipush (v := -3) dX12_mean_37 (by decide) ?_
          exact aw_ret (v := some (.int (-3 : Int32))) rfl (Or.inr (Or.inl ⟨_, .int, rfl, rfl, rfl, dX12_mean_39⟩)) h
      · have h := h.2 hc
        refine aw_iconst (v := -1) dX12_mean_28 (by decide) ?_
        exact aw_ret (v := some (.int (-1 : Int32))) rfl (Or.inr (Or.inl ⟨_, .int, rfl, rfl, rfl, dX12_mean_29⟩)) h
set_option maxRecDepth 100000 in
set_option maxHeartbeats 4000000 in
theorem g_X12_mean_48 {ad : Nat → Nat} {d : Nat} {Q : Option Value → Wm → Prop} {m : Wm} {x1 x2 x5 : Int32} {y3 : Int64} (h : ((((m.1 187 45) + (m.1 187 46)) ≤ x5 → (Ct ad μX12_tellPart d [.ref (ad 187), .long y3, .long (((uI m 187 16 (0 : Int32)).1 187 46).toInt64)] (uI m 187 16 (0 : Int32)) (fun r m1 => r = none ∧ Q (some (.int (0 : Int32))) m1))) ∧ (¬ ((m.1 187 45) + (m.1 187 46)) ≤ x5 → (Ct ad μX12_skillIn d [.ref (ad 187), .int x5, .int x1, .int x2] m (fun r m2 => ∃ v3 : Int32, r = some (.int v3) ∧ AW ad E0 μX12_mean (d + 1) Q 48 [(0, .ref (ad 187)), (1, .int x1), (2, .int x2), (3, .long (y3 + v3.toInt64)), (5, .int (x5 + (1 : Int32)))] [] m2))))) : AW ad E0 μX12_mean (d + 1) Q 48 [(0, .ref (ad 187)), (1, .int x1), (2, .int x2), (3, .long y3), (5, .int x5)] [] m := by
  refine aw_iload (j := 4) dX12_mean_48 rfl ?_
  refine aw_aload_n (j := 0) dX12_mean_50 rfl rfl ?_
  refine aw_getfield (c := 0) (v := .int (m.1 187 45)) dX12_mean_51 f_X12_365 ly_187 rfl rfl ?_
  refine aw_aload_n (j := 0) dX12_mean_54 rfl rfl ?_
  refine aw_getfield (c := 0) (v := .int (m.1 187 46)) dX12_mean_55 f_X12_368 ly_187 rfl rfl ?_
  refine aw_iadd dX12_mean_58 ?_
  refine aw_icmp_ge (tgt := 80) dX12_mean_59 (by decide) (fun hc => ?_) (fun hc => ?_)
  · have h := h.1 hc
    refine aw_aload_n (j := 0) dX12_mean_80 rfl rfl ?_
    refine aw_iconst (v := 0) dX12_mean_81 (by decide) ?_
    refine aw_putI dX12_mean_82 f_X12_113 cl_X12 rfl ly_187 rfl rfl rfl ?_
    refine aw_aload_n (j := 0) dX12_mean_85 rfl rfl ?_
    refine aw_lload_n (j := 3) dX12_mean_86 rfl rfl ?_
    refine aw_aload_n (j := 0) dX12_mean_87 rfl rfl ?_
    refine aw_getfield (c := 0) (v := .int ((uI m 187 16 (0 : Int32)).1 187 46)) dX12_mean_88 f_X12_368 ly_187 rfl rfl ?_
    refine aw_i2l dX12_mean_91 ?_
    refine aw_callV (rest := []) [.long y3, .long (((uI m 187 16 (0 : Int32)).1 187 46).toInt64)] dX12_mean_92 ly_187 rfl k_X12_380 rfl h (Nat.le_of_ble_eq_true rfl) (fun v m1 h => ?_)
    obtain ⟨rfl, h⟩ := h
    refine aw_eq (L' := [(0, .ref (ad 187)), (1, .int x1), (2, .int x2), (3, .long y3), (5, .int x5)]) (st' := []) (m' := m1) ?_ rfl rfl rfl
    refine aw_iconst (v := 0) dX12_mean_95 (by decide) ?_
    exact aw_ret (v := some (.int (0 : Int32))) rfl (Or.inr (Or.inl ⟨_, .int, rfl, rfl, rfl, dX12_mean_96⟩)) h
  · have h := h.2 hc
    refine aw_lload_n (j := 3) dX12_mean_62 rfl rfl ?_
    refine aw_aload_n (j := 0) dX12_mean_63 rfl rfl ?_
    refine aw_iload (j := 4) dX12_mean_64 rfl ?_
    refine aw_iload_n (j := 1) dX12_mean_66 rfl rfl ?_
    refine aw_iload_n (j := 2) dX12_mean_67 rfl rfl ?_
    refine aw_callV (rest := [.long y3]) [.int x5, .int x1, .int x2] dX12_mean_68 ly_187 rfl k_X12_377 rfl h (Nat.le_of_ble_eq_true rfl) (fun v m2 h => ?_)
    obtain ⟨v3, rfl, h⟩ := h
    refine aw_eq (L' := [(0, .ref (ad 187)), (1, .int x1), (2, .int x2), (3, .long y3), (5, .int x5)]) (st' := [.int v3, .long y3]) (m' := m2) ?_ rfl rfl rfl
    refine aw_i2l dX12_mean_71 ?_
    refine aw_ladd dX12_mean_72 ?_
    refine aw_lstore_n (L' := [(3, .long (y3 + v3.toInt64)), (0, .ref (ad 187)), (1, .int x1), (2, .int x2), (5, .int x5)]) dX12_mean_73 rfl (by decide) rfl ?_
    refine aw_iinc (j := 4) (v := x5 + (1 : Int32)) (L' := [(5, .int (x5 + (1 : Int32))), (3, .long (y3 + v3.toInt64)), (0, .ref (ad 187)), (1, .int x1), (2, .int x2)]) dX12_mean_74 rfl rfl (by decide) rfl ?_
    refine aw_goto (tgt := 48) dX12_mean_77 (by decide) ?_
    exact aw_sub [2, 3, 4, 1, 0] rfl h
set_option maxRecDepth 100000 in
set_option maxHeartbeats 4000000 in
theorem v_X12_soon {ad : Nat → Nat} {d : Nat} {Q : Option Value → Wm → Prop} {m : Wm} {x1 x2 x3 : Int32} (h : (Ct ad μX12_isSide d [.ref (ad 187), .int x1] (uI m 187 17 (0 : Int32)) (fun r m1 => ∃ v2 : Int32, r = some (.int v2) ∧ ((v2 = 0 → Q (some (.int (-1 : Int32))) m1) ∧ (¬ v2 = 0 → (Ct ad μX12_isArt d [.ref (ad 187), .int x2] m1 (fun r m3 => ∃ v4 : Int32, r = some (.int v4) ∧ ((v4 = 0 → Q (some (.int (-1 : Int32))) m3) ∧ (¬ v4 = 0 → (Ct ad μX12_in d [.long x3.toInt64, .long (0 : Int64), .long (7 : Int64)] m3 (fun r m5 => ∃ v6 : Int32, r = some (.int v6) ∧ ((v6 = 0 → Q (some (.int (-1 : Int32))) m5) ∧ (¬ v6 = 0 → ((¬ (m5.1 187 11) = 0 → (Ct ad μX12_findRest d [.ref (ad 187)] m5 (fun r m7 => ∃ v8 : Int32, r = some (.int v8) ∧ AW ad E0 μX12_soon (d + 1) Q 51 [(0, .ref (ad 187)), (1, .int x1), (2, .int x2), (3, .int x3), (4, .int v8), (5, .int (0 : Int32))] [] m7))) ∧ ((m5.1 187 11) = 0 → Q (some (.int (-1 : Int32))) m5))))))))))))))) : Ct ad μX12_soon (d + 1) [.ref (ad 187), .int x1, .int x2, .int x3] m Q := by
  refine Ct.of (by decide +kernel) rfl (Nat.le_of_ble_eq_true rfl) ?_
  refine aw_eq (L' := [(0, .ref (ad 187)), (1, .int x1), (2, .int x2), (3, .int x3)]) ?_ rfl rfl rfl
  refine aw_aload_n (j := 0) dX12_soon_0 rfl rfl ?_
  refine aw_iconst (v := 0) dX12_soon_1 (by decide) ?_
  refine aw_putI dX12_soon_2 f_X12_110 cl_X12 rfl ly_187 rfl rfl rfl ?_
  refine aw_aload_n (j := 0) dX12_soon_5 rfl rfl ?_
  refine aw_iload_n (j := 1) dX12_soon_6 rfl rfl ?_
  refine aw_callV (rest := []) [.int x1] dX12_soon_7 ly_187 rfl k_X12_123 rfl h (Nat.le_of_ble_eq_true rfl) (fun v m1 h => ?_)
  obtain ⟨v2, rfl, h⟩ := h
  refine aw_eq (L' := [(0, .ref (ad 187)), (1, .int x1), (2, .int x2), (3, .int x3)]) (st' := [.int v2]) (m' := m1) ?_ rfl rfl rfl
  refine aw_if_eq (tgt := 40) dX12_soon_10 (by decide) (fun hc => ?_) (fun hc => ?_)
  · have h := h.1 hc
    refine aw_iconst (v := -1) dX12_soon_40 (by decide) ?_
    exact aw_ret (v := some (.int (-1 : Int32))) rfl (Or.inr (Or.inl ⟨_, .int, rfl, rfl, rfl, dX12_soon_41⟩)) h
  · have h := h.2 hc
    refine aw_aload_n (j := 0) dX12_soon_13 rfl rfl ?_
    refine aw_iload_n (j := 2) dX12_soon_14 rfl rfl ?_
    refine aw_callV (rest := []) [.int x2] dX12_soon_15 ly_187 rfl k_X12_244 rfl h (Nat.le_of_ble_eq_true rfl) (fun v m3 h => ?_)
    obtain ⟨v4, rfl, h⟩ := h
    refine aw_eq (L' := [(0, .ref (ad 187)), (1, .int x1), (2, .int x2), (3, .int x3)]) (st' := [.int v4]) (m' := m3) ?_ rfl rfl rfl
    refine aw_if_eq (tgt := 40) dX12_soon_18 (by decide) (fun hc => ?_) (fun hc => ?_)
    · have h := h.1 hc
      refine aw_iconst (v := -1) dX12_soon_40 (by decide) ?_
      exact aw_ret (v := some (.int (-1 : Int32))) rfl (Or.inr (Or.inl ⟨_, .int, rfl, rfl, rfl, dX12_soon_41⟩)) h
    · have h := h.2 hc
      refine aw_iload_n (j := 3) dX12_soon_21 rfl rfl ?_
      refine aw_i2l dX12_soon_22 ?_
      refine aw_lconst (v := 0) dX12_soon_23 (by decide) ?_
      refine aw_ldc2 dX12_soon_24 c_X12_335 ?_
      refine aw_callS (rest := []) [.long x3.toInt64, .long (0 : Int64), .long (7 : Int64)] dX12_soon_27 k_X12_119 rfl h (Nat.le_of_ble_eq_true rfl) (fun v m5 h => ?_)
      obtain ⟨v6, rfl, h⟩ := h
      refine aw_eq (L' := [(0, .ref (ad 187)), (1, .int x1), (2, .int x2), (3, .int x3)]) (st' := [.int v6]) (m' := m5) ?_ rfl rfl rfl
      refine aw_if_eq (tgt := 40) dX12_soon_30 (by decide) (fun hc => ?_) (fun hc => ?_)
      · have h := h.1 hc
        refine aw_iconst (v := -1) dX12_soon_40 (by decide) ?_
        exact aw_ret (v := some (.int (-1 : Int32))) rfl (Or.inr (Or.inl ⟨_, .int, rfl, rfl, rfl, dX12_soon_41⟩)) h
      · have h := h.2 hc
        refine aw_aload_n (j := 0) dX12_soon_33 rfl rfl ?_
        refine aw_getfield (c := 0) (v := .int (m5.1 187 11)) dX12_soon_34 f_X12_184 ly_187 rfl rfl ?_
        refine aw_if_ne (tgt := 42) dX12_soon_37 (by decide) (fun hc => ?_) (fun hc => ?_)
        · have h := h.1 hc
          refine aw_aload_n (j := 0) dX12_soon_42 rfl rfl ?_
          refine aw_callV (rest := []) [] dX12_soon_43 ly_187 rfl k_X12_371 rfl h (Nat.le_of_ble_eq_true rfl) (fun v m7 h => ?_)
          obtain ⟨v8, rfl, h⟩ := h
          refine aw_eq (L' := [(0, .ref (ad 187)), (1, .int x1), (2, .int x2), (3, .int x3)]) (st' := [.int v8]) (m' := m7) ?_ rfl rfl rfl
          refine aw_istore (L' := [(4, .int v8), (0, .ref (ad 187)), (1, .int x1), (2, .int x2), (3, .int x3)]) dX12_soon_46 (by decide) rfl ?_
          refine aw_iconst (v := 0) dX12_soon_48 (by decide) ?_
          refine aw_istore (L' := [(5, .int (0 : Int32)), (4, .int v8), (0, .ref (ad 187)), (1, .int x1), (2, .int x2), (3, .int x3)]) dX12_soon_49 (by decide) rfl ?_
          exact aw_sub [2, 3, 4, 5, 1, 0] rfl h
        · have h := h.2 hc
          refine aw_iconst (v := -1) dX12_soon_40 (by decide) ?_
          exact aw_ret (v := some (.int (-1 : Int32))) rfl (Or.inr (Or.inl ⟨_, .int, rfl, rfl, rfl, dX12_soon_41⟩)) h
set_option maxRecDepth 100000 in
set_option maxHeartbeats 4000000 in
theorem g_X12_soon_51 {ad : Nat → Nat} {d : Nat} {Q : Option Value → Wm → Prop} {m : Wm} {x1 x2 x3 x4 x5 : Int32} (h : (((m.1 187 43) ≤ x5 → ((x4 = 0 → Q (some (.int (-3 : Int32))) m) ∧ (¬ x4 = 0 → Q (some (.int (-2 : Int32))) m))) ∧ (¬ (m.1 187 43) ≤ x5 → (Ct ad μX12_skillIn d [.ref (ad 187), .int x5, .int x1, .int x2] m (fun r m1 => ∃ v2 : Int32, r = some (.int v2) ∧ ((v2 < x3 → AW ad E0 μX12_soon (d + 1) Q 51 [(0, .ref (ad 187)), (1, .int x1), (2, .int x2), (3, .int x3), (4, .int x4), (5, .int (x5 + (1 : Int32)))] [] m1) ∧ (¬ v2 < x3 → Q (some (.int x5)) m1))))))) : AW ad E0 μX12_soon (d + 1) Q 51 [(0, .ref (ad 187)), (1, .int x1), (2, .int x2), (3, .int x3), (4, .int x4), (5, .int x5)] [] m := by
  refine aw_iload (j := 5) dX12_soon_51 rfl ?_
  refine aw_aload_n (j := 0) dX12_soon_53 rfl rfl ?_
  refine aw_getfield (c := 0) (v := .int (m.1 187 43)) dX12_soon_54 f_X12_341 ly_187 rfl rfl ?_
  refine aw_icmp_ge (tgt := 81) dX12_soon_57 (by decide) (fun hc => ?_) (fun hc => ?_)
  · have h := h.1 hc
    refine aw_iload (j := 4) dX12_soon_81 rfl ?_
    refine aw_if_eq (tgt := 91) dX12_soon_83 (by decide) (fun hc => ?_) (fun hc => ?_)
    · have h := h.1 hc
      refine aw_bipush (v := -3) dX12_soon_91 (by decide) ?_
      exact aw_ret (v := some (.int (-3 : Int32))) rfl (Or.inr (Or.inl ⟨_, .int, rfl, rfl, rfl, dX12_soon_93⟩)) h
    · have h := h.2 hc
      refine aw_bipush (v := -2) dX12_soon_86 (by decide) ?_
      refine aw_goto (tgt := 93) dX12_soon_88 (by decide) ?_
      exact aw_ret (v := some (.int (-2 : Int32))) rfl (Or.inr (Or.inl ⟨_, .int, rfl, rfl, rfl, dX12_soon_93⟩)) h
  · have h := h.2 hc
    refine aw_aload_n (j := 0) dX12_soon_60 rfl rfl ?_
    refine aw_iload (j := 5) dX12_soon_61 rfl ?_
    refine aw_iload_n (j := 1) dX12_soon_63 rfl rfl ?_
    refine aw_iload_n (j := 2) dX12_soon_64 rfl rfl ?_
    refine aw_callV (rest := []) [.int x5, .int x1, .int x2] dX12_soon_65 ly_187 rfl k_X12_377 rfl h (Nat.le_of_ble_eq_true rfl) (fun v m1 h => ?_)
    obtain ⟨v2, rfl, h⟩ := h
    refine aw_eq (L' := [(0, .ref (ad 187)), (1, .int x1), (2, .int x2), (3, .int x3), (4, .int x4), (5, .int x5)]) (st' := [.int v2]) (m' := m1) ?_ rfl rfl rfl
    refine aw_iload_n (j := 3) dX12_soon_68 rfl rfl ?_
    refine aw_icmp_lt (tgt := 75) dX12_soon_69 (by decide) (fun hc => ?_) (fun hc => ?_)
    · have h := h.1 hc
      refine aw_iinc (j := 5) (v := x5 + (1 : Int32)) (L' := [(5, .int (x5 + (1 : Int32))), (0, .ref (ad 187)), (1, .int x1), (2, .int x2), (3, .int x3), (4, .int x4)]) dX12_soon_75 rfl rfl (by decide) rfl ?_
      refine aw_goto (tgt := 51) dX12_soon_78 (by decide) ?_
      exact aw_sub [1, 2, 3, 4, 5, 0] rfl h
    · have h := h.2 hc
      refine aw_iload (j := 5) dX12_soon_72 rfl ?_
      exact aw_ret (v := some (.int x5)) rfl (Or.inr (Or.inl ⟨_, .int, rfl, rfl, rfl, dX12_soon_74⟩)) h
set_option maxRecDepth 100000 in
set_option maxHeartbeats 4000000 in
theorem v_X12_power100 {ad : Nat → Nat} {d : Nat} {Q : Option Value → Wm → Prop} {m : Wm} {x0 : Int32} (h : AW ad E0 μX12_power100 d Q 4 [(0, .int x0), (1, .long (1 : Int64)), (3, .int (0 : Int32))] [] m) : Ct ad μX12_power100 d [.int x0] m Q := by
  refine Ct.of (by decide +kernel) rfl (Nat.le_of_ble_eq_true rfl) ?_
  refine aw_eq (L' := [(0, .int x0)]) ?_ rfl rfl rfl
  refine aw_lconst (v := 1) dX12_power100_0 (by decide) ?_
  refine aw_lstore_n (L' := [(1, .long (1 : Int64)), (0, .int x0)]) dX12_power100_1 rfl (by decide) rfl ?_
  refine aw_iconst (v := 0) dX12_power100_2 (by decide) ?_
  refine aw_istore_n (L' := [(3, .int (0 : Int32)), (1, .long (1 : Int64)), (0, .int x0)]) dX12_power100_3 rfl (by decide) rfl ?_
  exact aw_sub [2, 1, 0] rfl h
set_option maxRecDepth 100000 in
set_option maxHeartbeats 4000000 in
theorem g_X12_power100_4 {ad : Nat → Nat} {d : Nat} {Q : Option Value → Wm → Prop} {m : Wm} {x0 x3 : Int32} {y1 : Int64} (h : ((x0 ≤ x3 → Q (some (.long y1)) m) ∧ (¬ x0 ≤ x3 → AW ad E0 μX12_power100 d Q 4 [(0, .int x0), (1, .long (y1 * (100 : Int64))), (3, .int (x3 + (1 : Int32)))] [] m))) : AW ad E0 μX12_power100 d Q 4 [(0, .int x0), (1, .long y1), (3, .int x3)] [] m := by
  refine aw_iload_n (j := 2) dX12_power100_4 rfl rfl ?_
  refine aw_iload_n (j := 0) dX12_power100_5 rfl rfl ?_
  refine aw_icmp_ge (tgt := 21) dX12_power100_6 (by decide) (fun hc => ?_) (fun hc => ?_)
  · have h := h.1 hc
    refine aw_lload_n (j := 1) dX12_power100_21 rfl rfl ?_
    exact aw_ret (v := some (.long y1)) rfl (Or.inr (Or.inr ⟨_, rfl, rfl, dX12_power100_22⟩)) h
  · have h := h.2 hc
    refine aw_lload_n (j := 1) dX12_power100_9 rfl rfl ?_
    refine aw_ldc2 dX12_power100_10 c_X12_228 ?_
    refine aw_lmul dX12_power100_13 ?_
    refine aw_lstore_n (L' := [(1, .long (y1 * (100 : Int64))), (0, .int x0), (3, .int x3)]) dX12_power100_14 rfl (by decide) rfl ?_
    refine aw_iinc (j := 2) (v := x3 + (1 : Int32)) (L' := [(3, .int (x3 + (1 : Int32))), (1, .long (y1 * (100 : Int64))), (0, .int x0)]) dX12_power100_15 rfl rfl (by decide) rfl ?_
    refine aw_goto (tgt := 4) dX12_power100_18 (by decide) ?_
    exact aw_sub [2, 1, 0] rfl h
set_option maxRecDepth 100000 in
set_option maxHeartbeats 4000000 in
theorem v_X12_chanceOfWins {ad : Nat → Nat} {d : Nat} {Q : Option Value → Wm → Prop} {m : Wm} {x1 x2 x3 x4 : Int32} (h : ((x4 < 0 → Q (some (.long (0 : Int64))) m) ∧ (¬ x4 < 0 → ((x4 ≤ (x3 - x2) → ((¬ x2 = x3 → (¬ m.1 187 10 = 0 ∧ (vp_in ((4 : Int32) * (x2 - x2 / (m.1 187 10) * (m.1 187 10))) 160 ∧ (vp_in (((4 : Int32) * (x2 - x2 / (m.1 187 10) * (m.1 187 10))) + (1 : Int32)) 160 ∧ (vp_in (((4 : Int32) * (x2 - x2 / (m.1 187 10) * (m.1 187 10))) + (2 : Int32)) 160 ∧ (((m.1 194 (((4 : Int32) * (x2 - x2 / (m.1 187 10) * (m.1 187 10))) + (2 : Int32)).toNatClampNeg) = 0 → (Ct ad μX12_chanceOf d [.ref (ad 187), .int (m.1 194 ((4 : Int32) * (x2 - x2 / (m.1 187 10) * (m.1 187 10))).toNatClampNeg), .int (m.1 194 (((4 : Int32) * (x2 - x2 / (m.1 187 10) * (m.1 187 10))) + (1 : Int32)).toNatClampNeg)] m (fun r m1 => ∃ v2 : Int32, r = some (.int v2) ∧ (((lg_cmp v2.toInt64 (0 : Int64)) ≤ 0 → AW ad E0 μX12_chanceOfWins (d + 1) Q 131 [(0, .ref (ad 187)), (1, .int x1), (2, .int x2), (3, .int x3), (4, .int x4), (9, .long v2.toInt64)] [.long (0 : Int64)] m1) ∧ (¬ (lg_cmp v2.toInt64 (0 : Int64)) ≤ 0 → (Ct ad μX12_chanceBehind d [.ref (ad 187), .int x1, .int x2, .int x3, .int x4, .int (0 : Int32)] m1 (fun r m3 => ∃ w4 : Int64, r = some (.long w4) ∧ AW ad E0 μX12_chanceOfWins (d + 1) Q 131 [(0, .ref (ad 187)), (1, .int x1), (2, .int x2), (3, .int x3), (4, .int x4), (9, .long v2.toInt64)] [.long (v2.toInt64 * w4)] m3))))))) ∧ (¬ (m.1 194 (((4 : Int32) * (x2 - x2 / (m.1 187 10) * (m.1 187 10))) + (2 : Int32)).toNatClampNeg) = 0 → (Ct ad μX12_winner d [.ref (ad 187), .int (m.1 194 ((4 : Int32) * (x2 - x2 / (m.1 187 10) * (m.1 187 10))).toNatClampNeg), .int (m.1 194 (((4 : Int32) * (x2 - x2 / (m.1 187 10) * (m.1 187 10))) + (1 : Int32)).toNatClampNeg), .int (m.1 194 (((4 : Int32) * (x2 - x2 / (m.1 187 10) * (m.1 187 10))) + (2 : Int32)).toNatClampNeg)] m (fun r m5 => ∃ v6 : Int32, r = some (.int v6) ∧ (Ct ad μX12_chanceBehind d [.ref (ad 187), .int x1, .int x2, .int x3, .int x4, .int v6] m5 (fun r m7 => ∃ w8 : Int64, r = some (.long w8) ∧ Q (some (.long ((100 : Int64) * w8))) m7))))))))))) ∧ (x2 = x3 → Q (some (.long (1 : Int64))) m))) ∧ (¬ x4 ≤ (x3 - x2) → Q (some (.long (0 : Int64))) m))))) : Ct ad μX12_chanceOfWins (d + 1) [.ref (ad 187), .int x1, .int x2, .int x3, .int x4] m Q := by
  refine Ct.of (by decide +kernel) rfl (Nat.le_of_ble_eq_true rfl) ?_
  refine aw_eq (L' := [(0, .ref (ad 187)), (1, .int x1), (2, .int x2), (3, .int x3), (4, .int x4)]) ?_ rfl rfl rfl
  refine aw_iload (j := 4) dX12_chanceOfWins_0 rfl ?_
  refine aw_if_lt (tgt := 13) dX12_chanceOfWins_2 (by decide) (fun hc => ?_) (fun hc => ?_)
  · have h := h.1 hc
    refine aw_lconst (v := 0) dX12_chanceOfWins_13 (by decide) ?_
    exact aw_ret (v := some (.long (0 : Int64))) rfl (Or.inr (Or.inr ⟨_, rfl, rfl, dX12_chanceOfWins_14⟩)) h
  · have h := h.2 hc
    refine aw_iload (j := 4) dX12_chanceOfWins_5 rfl ?_
    refine aw_iload_n (j := 3) dX12_chanceOfWins_7 rfl rfl ?_
    refine aw_iload_n (j := 2) dX12_chanceOfWins_8 rfl rfl ?_
    refine aw_isub dX12_chanceOfWins_9 ?_
    refine aw_icmp_le (tgt := 15) dX12_chanceOfWins_10 (by decide) (fun hc => ?_) (fun hc => ?_)
    · have h := h.1 hc
      refine aw_iload_n (j := 2) dX12_chanceOfWins_15 rfl rfl ?_
      refine aw_iload_n (j := 3) dX12_chanceOfWins_16 rfl rfl ?_
      refine aw_icmp_ne (tgt := 22) dX12_chanceOfWins_17 (by decide) (fun hc => ?_) (fun hc => ?_)
      · have h := h.1 hc
        refine aw_iconst (v := 4) dX12_chanceOfWins_22 (by decide) ?_
        refine aw_iload_n (j := 2) dX12_chanceOfWins_23 rfl rfl ?_
        refine aw_aload_n (j := 0) dX12_chanceOfWins_24 rfl rfl ?_
        refine aw_getfield (c := 0) (v := .int (m.1 187 10)) dX12_chanceOfWins_25 f_X12_181 ly_187 rfl rfl ?_
        obtain ⟨hz, h⟩ := h
        refine aw_irem dX12_chanceOfWins_28 hz ?_
        refine aw_imul dX12_chanceOfWins_29 ?_
        refine aw_istore (L' := [(5, .int ((4 : Int32) * (x2 - x2 / (m.1 187 10) * (m.1 187 10)))), (0, .ref (ad 187)), (1, .int x1), (2, .int x2), (3, .int x3), (4, .int x4)]) dX12_chanceOfWins_30 (by decide) rfl ?_
        refine aw_aload_n (j := 1) dX12_chanceOfWins_32 rfl rfl ?_
        refine aw_getfield (c := 197) (v := .ref (ad 194)) dX12_chanceOfWins_33 f_X12_36 ly_187 rfl rfl ?_
        refine aw_iload (j := 0) dX12_chanceOfWins_36 rfl ?_
        obtain ⟨hi, h⟩ := h
        refine aw_iaload dX12_chanceOfWins_38 ly_194 hi ?_
        refine aw_istore (L' := [(6, .int (m.1 194 ((4 : Int32) * (x2 - x2 / (m.1 187 10) * (m.1 187 10))).toNatClampNeg)), (5, .int ((4 : Int32) * (x2 - x2 / (m.1 187 10) * (m.1 187 10)))), (0, .ref (ad 187)), (1, .int x1), (2, .int x2), (3, .int x3), (4, .int x4)]) dX12_chanceOfWins_39 (by decide) rfl ?_
        refine aw_aload_n (j := 2) dX12_chanceOfWins_41 rfl rfl ?_
        refine aw_getfield (c := 197) (v := .ref (ad 194)) dX12_chanceOfWins_42 f_X12_36 ly_187 rfl rfl ?_
        refine aw_iload (j := 1) dX12_chanceOfWins_45 rfl ?_
        refine aw_iconst (v := 1) dX12_chanceOfWins_47 (by decide) ?_
        refine aw_iadd dX12_chanceOfWins_48 ?_
        obtain ⟨hi, h⟩ := h
        refine aw_iaload dX12_chanceOfWins_49 ly_194 hi ?_
        refine aw_istore (L' := [(7, .int (m.1 194 (((4 : Int32) * (x2 - x2 / (m.1 187 10) * (m.1 187 10))) + (1 : Int32)).toNatClampNeg)), (6, .int (m.1 194 ((4 : Int32) * (x2 - x2 / (m.1 187 10) * (m.1 187 10))).toNatClampNeg)), (5, .int ((4 : Int32) * (x2 - x2 / (m.1 187 10) * (m.1 187 10)))), (0, .ref (ad 187)), (1, .int x1), (2, .int x2), (3, .int x3), (4, .int x4)]) dX12_chanceOfWins_50 (by decide) rfl ?_
        refine aw_aload_n (j := 3) dX12_chanceOfWins_52 rfl rfl ?_
        refine aw_getfield (c := 197) (v := .ref (ad 194)) dX12_chanceOfWins_53 f_X12_36 ly_187 rfl rfl ?_
        refine aw_iload (j := 2) dX12_chanceOfWins_56 rfl ?_
        refine aw_iconst (v := 2) dX12_chanceOfWins_58 (by decide) ?_
        refine aw_iadd dX12_chanceOfWins_59 ?_
        obtain ⟨hi, h⟩ := h
        refine aw_iaload dX12_chanceOfWins_60 ly_194 hi ?_
        refine aw_istore (L' := [(8, .int (m.1 194 (((4 : Int32) * (x2 - x2 / (m.1 187 10) * (m.1 187 10))) + (2 : Int32)).toNatClampNeg)), (7, .int (m.1 194 (((4 : Int32) * (x2 - x2 / (m.1 187 10) * (m.1 187 10))) + (1 : Int32)).toNatClampNeg)), (6, .int (m.1 194 ((4 : Int32) * (x2 - x2 / (m.1 187 10) * (m.1 187 10))).toNatClampNeg)), (5, .int ((4 : Int32) * (x2 - x2 / (m.1 187 10) * (m.1 187 10)))), (0, .ref (ad 187)), (1, .int x1), (2, .int x2), (3, .int x3), (4, .int x4)]) dX12_chanceOfWins_61 (by decide) rfl ?_
        refine aw_iload (j := 0) dX12_chanceOfWins_63 rfl ?_
        refine aw_if_eq (tgt := 96) dX12_chanceOfWins_65 (by decide) (fun hc => ?_) (fun hc => ?_)
        · have h := h.1 hc
          refine aw_aload_n (j := 4) dX12_chanceOfWins_96 rfl rfl ?_
          refine aw_iload (j := 2) dX12_chanceOfWins_97 rfl ?_
          refine aw_iload (j := 1) dX12_chanceOfWins_99 rfl ?_
          refine aw_callV (rest := []) [.int (m.1 194 ((4 : Int32) * (x2 - x2 / (m.1 187 10) * (m.1 187 10))).toNatClampNeg), .int (m.1 194 (((4 : Int32) * (x2 - x2 / (m.1 187 10) * (m.1 187 10))) + (1 : Int32)).toNatClampNeg)] dX12_chanceOfWins_101 ly_187 rfl k_X12_276 rfl h (Nat.le_of_ble_eq_true rfl) (fun v m1 h => ?_)
          obtain ⟨v2, rfl, h⟩ := h
          refine aw_eq (L' := [(8, .int (m.1 194 (((4 : Int32) * (x2 - x2 / (m.1 187 10) * (m.1 187 10))) + (2 : Int32)).toNatClampNeg)), (7, .int (m.1 194 (((4 : Int32) * (x2 - x2 / (m.1 187 10) * (m.1 187 10))) + (1 : Int32)).toNatClampNeg)), (6, .int (m.1 194 ((4 : Int32) * (x2 - x2 / (m.1 187 10) * (m.1 187 10))).toNatClampNeg)), (5, .int ((4 : Int32) * (x2 - x2 / (m.1 187 10) * (m.1 187 10)))), (0, .ref (ad 187)), (1, .int x1), (2, .int x2), (3, .int x3), (4, .int x4)]) (st' := [.int v2]) (m' := m1) ?_ rfl rfl rfl
          refine aw_i2l dX12_chanceOfWins_104 ?_
          refine aw_lstore (L' := [(9, .long v2.toInt64), (8, .int (m.1 194 (((4 : Int32) * (x2 - x2 / (m.1 187 10) * (m.1 187 10))) + (2 : Int32)).toNatClampNeg)), (7, .int (m.1 194 (((4 : Int32) * (x2 - x2 / (m.1 187 10) * (m.1 187 10))) + (1 : Int32)).toNatClampNeg)), (6, .int (m.1 194 ((4 : Int32) * (x2 - x2 / (m.1 187 10) * (m.1 187 10))).toNatClampNeg)), (5, .int ((4 : Int32) * (x2 - x2 / (m.1 187 10) * (m.1 187 10)))), (0, .ref (ad 187)), (1, .int x1), (2, .int x2), (3, .int x3), (4, .int x4)]) dX12_chanceOfWins_105 (by decide) rfl ?_
          refine aw_lload (j := 0) dX12_chanceOfWins_107 rfl ?_
          refine aw_lconst (v := 0) dX12_chanceOfWins_109 (by decide) ?_
          refine aw_lcmp dX12_chanceOfWins_110 ?_
          refine aw_if_le (tgt := 130) dX12_chanceOfWins_111 (by decide) (fun hc => ?_) (fun hc => ?_)
          · have h := h.1 hc
            refine aw_lconst (v := 0) dX12_chanceOfWins_130 (by decide) ?_
            exact aw_sub [5, 6, 7, 8, 9, 0] rfl h
          · have h := h.2 hc
            refine aw_lload (j := 0) dX12_chanceOfWins_114 rfl ?_
            refine aw_aload_n (j := 5) dX12_chanceOfWins_116 rfl rfl ?_
            refine aw_iload_n (j := 6) dX12_chanceOfWins_117 rfl rfl ?_
            refine aw_iload_n (j := 7) dX12_chanceOfWins_118 rfl rfl ?_
            refine aw_iload_n (j := 8) dX12_chanceOfWins_119 rfl rfl ?_
            refine aw_iload (j := 9) dX12_chanceOfWins_120 rfl ?_
            refine aw_iconst (v := 0) dX12_chanceOfWins_122 (by decide) ?_
            refine aw_callV (rest := [.long v2.toInt64]) [.int x1, .int x2, .int x3, .int x4, .int (0 : Int32)] dX12_chanceOfWins_123 ly_187 rfl k_X12_384 rfl h (Nat.le_of_ble_eq_true rfl) (fun v m3 h => ?_)
            obtain ⟨w4, rfl, h⟩ := h
            refine aw_eq (L' := [(9, .long v2.toInt64), (8, .int (m.1 194 (((4 : Int32) * (x2 - x2 / (m.1 187 10) * (m.1 187 10))) + (2 : Int32)).toNatClampNeg)), (7, .int (m.1 194 (((4 : Int32) * (x2 - x2 / (m.1 187 10) * (m.1 187 10))) + (1 : Int32)).toNatClampNeg)), (6, .int (m.1 194 ((4 : Int32) * (x2 - x2 / (m.1 187 10) * (m.1 187 10))).toNatClampNeg)), (5, .int ((4 : Int32) * (x2 - x2 / (m.1 187 10) * (m.1 187 10)))), (0, .ref (ad 187)), (1, .int x1), (2, .int x2), (3, .int x3), (4, .int x4)]) (st' := [.long w4, .long v2.toInt64]) (m' := m3) ?_ rfl rfl rfl
            refine aw_lmul dX12_chanceOfWins_126 ?_
            refine aw_goto (tgt := 131) dX12_chanceOfWins_127 (by decide) ?_
            exact aw_sub [5, 6, 7, 8, 9, 0] rfl h
        · have h := h.2 hc
          refine aw_aload_n (j := 4) dX12_chanceOfWins_68 rfl rfl ?_
          refine aw_iload (j := 2) dX12_chanceOfWins_69 rfl ?_
          refine aw_iload (j := 1) dX12_chanceOfWins_71 rfl ?_
          refine aw_iload (j := 0) dX12_chanceOfWins_73 rfl ?_
          refine aw_callV (rest := []) [.int (m.1 194 ((4 : Int32) * (x2 - x2 / (m.1 187 10) * (m.1 187 10))).toNatClampNeg), .int (m.1 194 (((4 : Int32) * (x2 - x2 / (m.1 187 10) * (m.1 187 10))) + (1 : Int32)).toNatClampNeg), .int (m.1 194 (((4 : Int32) * (x2 - x2 / (m.1 187 10) * (m.1 187 10))) + (2 : Int32)).toNatClampNeg)] dX12_chanceOfWins_75 ly_187 rfl k_X12_273 rfl h (Nat.le_of_ble_eq_true rfl) (fun v m5 h => ?_)
          obtain ⟨v6, rfl, h⟩ := h
          refine aw_eq (L' := [(8, .int (m.1 194 (((4 : Int32) * (x2 - x2 / (m.1 187 10) * (m.1 187 10))) + (2 : Int32)).toNatClampNeg)), (7, .int (m.1 194 (((4 : Int32) * (x2 - x2 / (m.1 187 10) * (m.1 187 10))) + (1 : Int32)).toNatClampNeg)), (6, .int (m.1 194 ((4 : Int32) * (x2 - x2 / (m.1 187 10) * (m.1 187 10))).toNatClampNeg)), (5, .int ((4 : Int32) * (x2 - x2 / (m.1 187 10) * (m.1 187 10)))), (0, .ref (ad 187)), (1, .int x1), (2, .int x2), (3, .int x3), (4, .int x4)]) (st' := [.int v6]) (m' := m5) ?_ rfl rfl rfl
          refine aw_istore (L' := [(9, .int v6), (8, .int (m.1 194 (((4 : Int32) * (x2 - x2 / (m.1 187 10) * (m.1 187 10))) + (2 : Int32)).toNatClampNeg)), (7, .int (m.1 194 (((4 : Int32) * (x2 - x2 / (m.1 187 10) * (m.1 187 10))) + (1 : Int32)).toNatClampNeg)), (6, .int (m.1 194 ((4 : Int32) * (x2 - x2 / (m.1 187 10) * (m.1 187 10))).toNatClampNeg)), (5, .int ((4 : Int32) * (x2 - x2 / (m.1 187 10) * (m.1 187 10)))), (0, .ref (ad 187)), (1, .int x1), (2, .int x2), (3, .int x3), (4, .int x4)]) dX12_chanceOfWins_78 (by decide) rfl ?_
          refine aw_ldc2 dX12_chanceOfWins_80 c_X12_228 ?_
          refine aw_aload_n (j := 5) dX12_chanceOfWins_83 rfl rfl ?_
          refine aw_iload_n (j := 6) dX12_chanceOfWins_84 rfl rfl ?_
          refine aw_iload_n (j := 7) dX12_chanceOfWins_85 rfl rfl ?_
          refine aw_iload_n (j := 8) dX12_chanceOfWins_86 rfl rfl ?_
          refine aw_iload (j := 9) dX12_chanceOfWins_87 rfl ?_
          refine aw_iload (j := 0) dX12_chanceOfWins_89 rfl ?_
          refine aw_callV (rest := [.long (100 : Int64)]) [.int x1, .int x2, .int x3, .int x4, .int v6] dX12_chanceOfWins_91 ly_187 rfl k_X12_384 rfl h (Nat.le_of_ble_eq_true rfl) (fun v m7 h => ?_)
          obtain ⟨w8, rfl, h⟩ := h
          refine aw_eq (L' := [(9, .int v6), (8, .int (m.1 194 (((4 : Int32) * (x2 - x2 / (m.1 187 10) * (m.1 187 10))) + (2 : Int32)).toNatClampNeg)), (7, .int (m.1 194 (((4 : Int32) * (x2 - x2 / (m.1 187 10) * (m.1 187 10))) + (1 : Int32)).toNatClampNeg)), (6, .int (m.1 194 ((4 : Int32) * (x2 - x2 / (m.1 187 10) * (m.1 187 10))).toNatClampNeg)), (5, .int ((4 : Int32) * (x2 - x2 / (m.1 187 10) * (m.1 187 10)))), (0, .ref (ad 187)), (1, .int x1), (2, .int x2), (3, .int x3), (4, .int x4)]) (st' := [.long w8, .long (100 : Int64)]) (m' := m7) ?_ rfl rfl rfl
          refine aw_lmul dX12_chanceOfWins_94 ?_
          exact aw_ret (v := some (.long ((100 : Int64) * w8))) rfl (Or.inr (Or.inr ⟨_, rfl, rfl, dX12_chanceOfWins_95⟩)) h
      · have h := h.2 hc
        refine aw_lconst (v := 1) dX12_chanceOfWins_20 (by decide) ?_
        exact aw_ret (v := some (.long (1 : Int64))) rfl (Or.inr (Or.inr ⟨_, rfl, rfl, dX12_chanceOfWins_21⟩)) h
    · have h := h.2 hc
      refine aw_lconst (v := 0) dX12_chanceOfWins_13 (by decide) ?_
      exact aw_ret (v := some (.long (0 : Int64))) rfl (Or.inr (Or.inr ⟨_, rfl, rfl, dX12_chanceOfWins_14⟩)) h
set_option maxRecDepth 100000 in
set_option maxHeartbeats 4000000 in
theorem g_X12_chanceOfWins_131 {ad : Nat → Nat} {d : Nat} {Q : Option Value → Wm → Prop} {m : Wm} {x1 x2 x3 x4 : Int32} {y9 z0 : Int64} (h : ((0 ≤ (lg_cmp y9 (100 : Int64)) → Q (some (.long (z0 + (0 : Int64)))) m) ∧ (¬ 0 ≤ (lg_cmp y9 (100 : Int64)) → (Ct ad μX12_chanceBehind d [.ref (ad 187), .int x1, .int x2, .int x3, .int x4, .int (1 : Int32)] m (fun r m1 => ∃ w2 : Int64, r = some (.long w2) ∧ Q (some (.long (z0 + (((100 : Int64) - y9) * w2)))) m1))))) : AW ad E0 μX12_chanceOfWins (d + 1) Q 131 [(0, .ref (ad 187)), (1, .int x1), (2, .int x2), (3, .int x3), (4, .int x4), (9, .long y9)] [.long z0] m := by
  refine aw_lstore (L' := [(11, .long z0), (0, .ref (ad 187)), (1, .int x1), (2, .int x2), (3, .int x3), (4, .int x4), (9, .long y9)]) dX12_chanceOfWins_131 (by decide) rfl ?_
  refine aw_lload (j := 0) dX12_chanceOfWins_133 rfl ?_
  refine aw_lload (j := 6) dX12_chanceOfWins_135 rfl ?_
  refine aw_ldc2 dX12_chanceOfWins_137 c_X12_228 ?_
  refine aw_lcmp dX12_chanceOfWins_140 ?_
  refine aw_if_ge (tgt := 164) dX12_chanceOfWins_141 (by decide) (fun hc => ?_) (fun hc => ?_)
  · have h := h.1 hc
    refine aw_lconst (v := 0) dX12_chanceOfWins_164 (by decide) ?_
    refine aw_ladd dX12_chanceOfWins_165 ?_
    exact aw_ret (v := some (.long (z0 + (0 : Int64)))) rfl (Or.inr (Or.inr ⟨_, rfl, rfl, dX12_chanceOfWins_166⟩)) h
  · have h := h.2 hc
    refine aw_ldc2 dX12_chanceOfWins_144 c_X12_228 ?_
    refine aw_lload (j := 6) dX12_chanceOfWins_147 rfl ?_
    refine aw_lsub dX12_chanceOfWins_149 ?_
    refine aw_aload_n (j := 1) dX12_chanceOfWins_150 rfl rfl ?_
    refine aw_iload_n (j := 2) dX12_chanceOfWins_151 rfl rfl ?_
    refine aw_iload_n (j := 3) dX12_chanceOfWins_152 rfl rfl ?_
    refine aw_iload_n (j := 4) dX12_chanceOfWins_153 rfl rfl ?_
    refine aw_iload (j := 5) dX12_chanceOfWins_154 rfl ?_
    refine aw_iconst (v := 1) dX12_chanceOfWins_156 (by decide) ?_
    refine aw_callV (rest := [.long ((100 : Int64) - y9), .long z0]) [.int x1, .int x2, .int x3, .int x4, .int (1 : Int32)] dX12_chanceOfWins_157 ly_187 rfl k_X12_384 rfl h (Nat.le_of_ble_eq_true rfl) (fun v m1 h => ?_)
    obtain ⟨w2, rfl, h⟩ := h
    refine aw_eq (L' := [(11, .long z0), (0, .ref (ad 187)), (1, .int x1), (2, .int x2), (3, .int x3), (4, .int x4), (9, .long y9)]) (st' := [.long w2, .long ((100 : Int64) - y9), .long z0]) (m' := m1) ?_ rfl rfl rfl
    refine aw_lmul dX12_chanceOfWins_160 ?_
    refine aw_goto (tgt := 165) dX12_chanceOfWins_161 (by decide) ?_
    refine aw_ladd dX12_chanceOfWins_165 ?_
    exact aw_ret (v := some (.long (z0 + (((100 : Int64) - y9) * w2)))) rfl (Or.inr (Or.inr ⟨_, rfl, rfl, dX12_chanceOfWins_166⟩)) h
set_option maxRecDepth 100000 in
set_option maxHeartbeats 4000000 in
theorem v_X12_chanceBehind {ad : Nat → Nat} {d : Nat} {Q : Option Value → Wm → Prop} {m : Wm} {x1 x2 x3 x4 x5 : Int32} (h : (¬ m.1 187 10 = 0 ∧ (vp_in ((4 : Int32) * (x2 - x2 / (m.1 187 10) * (m.1 187 10))) 160 ∧ (vp_in (((4 : Int32) * (x2 - x2 / (m.1 187 10) * (m.1 187 10))) + (1 : Int32)) 160 ∧ (Ct ad μX12_lay d [.ref (ad 187), .ref (ad 211), .int ((57 : Int32) * x2)] m (fun r m1 => r = none ∧ (vp_in (((4 : Int32) * (x2 - x2 / (m.1 187 10) * (m.1 187 10))) + (2 : Int32)) 160 ∧ (Ct ad μX12_settle d [.ref (ad 187), .int (m.1 194 ((4 : Int32) * (x2 - x2 / (m.1 187 10) * (m.1 187 10))).toNatClampNeg), .int (m.1 194 (((4 : Int32) * (x2 - x2 / (m.1 187 10) * (m.1 187 10))) + (1 : Int32)).toNatClampNeg), .int (m1.1 194 (((4 : Int32) * (x2 - x2 / (m.1 187 10) * (m.1 187 10))) + (2 : Int32)).toNatClampNeg), .int x5] m1 (fun r m2 => r = none ∧ ((¬ x5 = 0 → AW ad E0 μX12_chanceBehind (d + 1) Q 72 [(0, .ref (ad 187)), (1, .int x1), (2, .int x2), (3, .int x3), (4, .int x4), (5, .int x5), (8, .int (m.1 194 (((4 : Int32) * (x2 - x2 / (m.1 187 10) * (m.1 187 10))) + (1 : Int32)).toNatClampNeg))] [] m2) ∧ (x5 = 0 → (((m.1 194 ((4 : Int32) * (x2 - x2 / (m.1 187 10) * (m.1 187 10))).toNatClampNeg) = x1 → AW ad E0 μX12_chanceBehind (d + 1) Q 89 [(0, .ref (ad 187)), (1, .int x1), (2, .int x2), (3, .int x3), (4, .int x4)] [.int (1 : Int32)] m2) ∧ (¬ (m.1 194 ((4 : Int32) * (x2 - x2 / (m.1 187 10) * (m.1 187 10))).toNatClampNeg) = x1 → AW ad E0 μX12_chanceBehind (d + 1) Q 72 [(0, .ref (ad 187)), (1, .int x1), (2, .int x2), (3, .int x3), (4, .int x4), (5, .int x5), (8, .int (m.1 194 (((4 : Int32) * (x2 - x2 / (m.1 187 10) * (m.1 187 10))) + (1 : Int32)).toNatClampNeg))] [] m2))))))))))))) : Ct ad μX12_chanceBehind (d + 1) [.ref (ad 187), .int x1, .int x2, .int x3, .int x4, .int x5] m Q := by
  refine Ct.of (by decide +kernel) rfl (Nat.le_of_ble_eq_true rfl) ?_
  refine aw_eq (L' := [(0, .ref (ad 187)), (1, .int x1), (2, .int x2), (3, .int x3), (4, .int x4), (5, .int x5)]) ?_ rfl rfl rfl
  refine aw_iconst (v := 4) dX12_chanceBehind_0 (by decide) ?_
  refine aw_iload_n (j := 2) dX12_chanceBehind_1 rfl rfl ?_
  refine aw_aload_n (j := 0) dX12_chanceBehind_2 rfl rfl ?_
  refine aw_getfield (c := 0) (v := .int (m.1 187 10)) dX12_chanceBehind_3 f_X12_181 ly_187 rfl rfl ?_
  obtain ⟨hz, h⟩ := h
  refine aw_irem dX12_chanceBehind_6 hz ?_
  refine aw_imul dX12_chanceBehind_7 ?_
  refine aw_istore (L' := [(6, .int ((4 : Int32) * (x2 - x2 / (m.1 187 10) * (m.1 187 10)))), (0, .ref (ad 187)), (1, .int x1), (2, .int x2), (3, .int x3), (4, .int x4), (5, .int x5)]) dX12_chanceBehind_8 (by decide) rfl ?_
  refine aw_aload_n (j := 1) dX12_chanceBehind_10 rfl rfl ?_
  refine aw_getfield (c := 197) (v := .ref (ad 194)) dX12_chanceBehind_11 f_X12_36 ly_187 rfl rfl ?_
  refine aw_iload (j := 0) dX12_chanceBehind_14 rfl ?_
  obtain ⟨hi, h⟩ := h
  refine aw_iaload dX12_chanceBehind_16 ly_194 hi ?_
  refine aw_istore (L' := [(7, .int (m.1 194 ((4 : Int32) * (x2 - x2 / (m.1 187 10) * (m.1 187 10))).toNatClampNeg)), (6, .int ((4 : Int32) * (x2 - x2 / (m.1 187 10) * (m.1 187 10)))), (0, .ref (ad 187)), (1, .int x1), (2, .int x2), (3, .int x3), (4, .int x4), (5, .int x5)]) dX12_chanceBehind_17 (by decide) rfl ?_
  refine aw_aload_n (j := 2) dX12_chanceBehind_19 rfl rfl ?_
  refine aw_getfield (c := 197) (v := .ref (ad 194)) dX12_chanceBehind_20 f_X12_36 ly_187 rfl rfl ?_
  refine aw_iload (j := 1) dX12_chanceBehind_23 rfl ?_
  refine aw_iconst (v := 1) dX12_chanceBehind_25 (by decide) ?_
  refine aw_iadd dX12_chanceBehind_26 ?_
  obtain ⟨hi, h⟩ := h
  refine aw_iaload dX12_chanceBehind_27 ly_194 hi ?_
  refine aw_istore (L' := [(8, .int (m.1 194 (((4 : Int32) * (x2 - x2 / (m.1 187 10) * (m.1 187 10))) + (1 : Int32)).toNatClampNeg)), (7, .int (m.1 194 ((4 : Int32) * (x2 - x2 / (m.1 187 10) * (m.1 187 10))).toNatClampNeg)), (6, .int ((4 : Int32) * (x2 - x2 / (m.1 187 10) * (m.1 187 10)))), (0, .ref (ad 187)), (1, .int x1), (2, .int x2), (3, .int x3), (4, .int x4), (5, .int x5)]) dX12_chanceBehind_28 (by decide) rfl ?_
  refine aw_aload_n (j := 3) dX12_chanceBehind_30 rfl rfl ?_
  refine aw_aload_n (j := 3) dX12_chanceBehind_31 rfl rfl ?_
  refine aw_getfield (c := 214) (v := .ref (ad 211)) dX12_chanceBehind_32 f_X12_92 ly_187 rfl rfl ?_
  refine aw_bipush (v := 57) dX12_chanceBehind_35 (by decide) ?_
  refine aw_iload_n (j := 5) dX12_chanceBehind_37 rfl rfl ?_
  refine aw_imul dX12_chanceBehind_38 ?_
  refine aw_callV (rest := []) [.ref (ad 211), .int ((57 : Int32) * x2)] dX12_chanceBehind_39 ly_187 rfl k_X12_291 rfl h (Nat.le_of_ble_eq_true rfl) (fun v m1 h => ?_)
  obtain ⟨rfl, h⟩ := h
  refine aw_eq (L' := [(8, .int (m.1 194 (((4 : Int32) * (x2 - x2 / (m.1 187 10) * (m.1 187 10))) + (1 : Int32)).toNatClampNeg)), (7, .int (m.1 194 ((4 : Int32) * (x2 - x2 / (m.1 187 10) * (m.1 187 10))).toNatClampNeg)), (6, .int ((4 : Int32) * (x2 - x2 / (m.1 187 10) * (m.1 187 10)))), (0, .ref (ad 187)), (1, .int x1), (2, .int x2), (3, .int x3), (4, .int x4), (5, .int x5)]) (st' := []) (m' := m1) ?_ rfl rfl rfl
  refine aw_aload_n (j := 3) dX12_chanceBehind_42 rfl rfl ?_
  refine aw_iload (j := 1) dX12_chanceBehind_43 rfl ?_
  refine aw_iload (j := 0) dX12_chanceBehind_45 rfl ?_
  refine aw_aload_n (j := 3) dX12_chanceBehind_47 rfl rfl ?_
  refine aw_getfield (c := 197) (v := .ref (ad 194)) dX12_chanceBehind_48 f_X12_36 ly_187 rfl rfl ?_
  refine aw_iload (j := 2) dX12_chanceBehind_51 rfl ?_
  refine aw_iconst (v := 2) dX12_chanceBehind_53 (by decide) ?_
  refine aw_iadd dX12_chanceBehind_54 ?_
  obtain ⟨hi, h⟩ := h
  refine aw_iaload dX12_chanceBehind_55 ly_194 hi ?_
  refine aw_iload (j := 8) dX12_chanceBehind_56 rfl ?_
  refine aw_callV (rest := []) [.int (m.1 194 ((4 : Int32) * (x2 - x2 / (m.1 187 10) * (m.1 187 10))).toNatClampNeg), .int (m.1 194 (((4 : Int32) * (x2 - x2 / (m.1 187 10) * (m.1 187 10))) + (1 : Int32)).toNatClampNeg), .int (m1.1 194 (((4 : Int32) * (x2 - x2 / (m.1 187 10) * (m.1 187 10))) + (2 : Int32)).toNatClampNeg), .int x5] dX12_chanceBehind_58 ly_187 rfl k_X12_287 rfl h (Nat.le_of_ble_eq_true rfl) (fun v m2 h => ?_)
  obtain ⟨rfl, h⟩ := h
  refine aw_eq (L' := [(8, .int (m.1 194 (((4 : Int32) * (x2 - x2 / (m.1 187 10) * (m.1 187 10))) + (1 : Int32)).toNatClampNeg)), (7, .int (m.1 194 ((4 : Int32) * (x2 - x2 / (m.1 187 10) * (m.1 187 10))).toNatClampNeg)), (6, .int ((4 : Int32) * (x2 - x2 / (m.1 187 10) * (m.1 187 10)))), (0, .ref (ad 187)), (1, .int x1), (2, .int x2), (3, .int x3), (4, .int x4), (5, .int x5)]) (st' := []) (m' := m2) ?_ rfl rfl rfl
  refine aw_iload (j := 8) dX12_chanceBehind_61 rfl ?_
  refine aw_if_ne (tgt := 72) dX12_chanceBehind_63 (by decide) (fun hc => ?_) (fun hc => ?_)
  · have h := h.1 hc
    exact aw_sub [3, 4, 5, 6, 7, 8, 0] rfl h
  · have h := h.2 hc
    refine aw_iload (j := 1) dX12_chanceBehind_66 rfl ?_
    refine aw_iload_n (j := 4) dX12_chanceBehind_68 rfl rfl ?_
    refine aw_icmp_eq (tgt := 84) dX12_chanceBehind_69 (by decide) (fun hc => ?_) (fun hc => ?_)
    · have h := h.1 hc
      refine aw_iconst (v := 1) dX12_chanceBehind_84 (by decide) ?_
      refine aw_goto (tgt := 89) dX12_chanceBehind_85 (by decide) ?_
      exact aw_sub [3, 4, 5, 6, 7] rfl h
    · have h := h.2 hc
      exact aw_sub [3, 4, 5, 6, 7, 8, 0] rfl h
set_option maxRecDepth 100000 in
set_option maxHeartbeats 4000000 in
theorem g_X12_chanceBehind_72 {ad : Nat → Nat} {d : Nat} {Q : Option Value → Wm → Prop} {m : Wm} {x1 x2 x3 x4 x5 x8 : Int32} (h : ((¬ x5 = (1 : Int32) → AW ad E0 μX12_chanceBehind (d + 1) Q 89 [(0, .ref (ad 187)), (1, .int x1), (2, .int x2), (3, .int x3), (4, .int x4)] [.int (0 : Int32)] m) ∧ (x5 = (1 : Int32) → ((¬ x8 = x1 → AW ad E0 μX12_chanceBehind (d + 1) Q 89 [(0, .ref (ad 187)), (1, .int x1), (2, .int x2), (3, .int x3), (4, .int x4)] [.int (0 : Int32)] m) ∧ (x8 = x1 → AW ad E0 μX12_chanceBehind (d + 1) Q 89 [(0, .ref (ad 187)), (1, .int x1), (2, .int x2), (3, .int x3), (4, .int x4)] [.int (1 : Int32)] m))))) : AW ad E0 μX12_chanceBehind (d + 1) Q 72 [(0, .ref (ad 187)), (1, .int x1), (2, .int x2), (3, .int x3), (4, .int x4), (5, .int x5), (8, .int x8)] [] m := by
  refine aw_iload (j := 5) dX12_chanceBehind_72 rfl ?_
  refine aw_iconst (v := 1) dX12_chanceBehind_74 (by decide) ?_
  refine aw_icmp_ne (tgt := 88) dX12_chanceBehind_75 (by decide) (fun hc => ?_) (fun hc => ?_)
  · have h := h.1 hc
    refine aw_iconst (v := 0) dX12_chanceBehind_88 (by decide) ?_
    exact aw_sub [0, 1, 2, 3, 4] rfl h
  · have h := h.2 hc
    refine aw_iload (j := 6) dX12_chanceBehind_78 rfl ?_
    refine aw_iload_n (j := 1) dX12_chanceBehind_80 rfl rfl ?_
    refine aw_icmp_ne (tgt := 88) dX12_chanceBehind_81 (by decide) (fun hc => ?_) (fun hc => ?_)
    · have h := h.1 hc
      refine aw_iconst (v := 0) dX12_chanceBehind_88 (by decide) ?_
      exact aw_sub [0, 1, 2, 3, 4] rfl h
    · have h := h.2 hc
      refine aw_iconst (v := 1) dX12_chanceBehind_84 (by decide) ?_
      refine aw_goto (tgt := 89) dX12_chanceBehind_85 (by decide) ?_
      exact aw_sub [0, 1, 2, 3, 4] rfl h
set_option maxRecDepth 100000 in
set_option maxHeartbeats 4000000 in
theorem g_X12_chanceBehind_89 {ad : Nat → Nat} {d : Nat} {Q : Option Value → Wm → Prop} {m : Wm} {x1 x2 x3 x4 s0 : Int32} (h : ((s0 = 0 → AW ad E0 μX12_chanceBehind (d + 1) Q 109 [(0, .ref (ad 187)), (2, .int x2)] [.int (0 : Int32), .int x4, .int x3, .int (x2 + (1 : Int32)), .int x1, .ref (ad 187)] m) ∧ (¬ s0 = 0 → AW ad E0 μX12_chanceBehind (d + 1) Q 109 [(0, .ref (ad 187)), (2, .int x2)] [.int (1 : Int32), .int x4, .int x3, .int (x2 + (1 : Int32)), .int x1, .ref (ad 187)] m))) : AW ad E0 μX12_chanceBehind (d + 1) Q 89 [(0, .ref (ad 187)), (1, .int x1), (2, .int x2), (3, .int x3), (4, .int x4)] [.int s0] m := by
  refine aw_istore (L' := [(9, .int s0), (0, .ref (ad 187)), (1, .int x1), (2, .int x2), (3, .int x3), (4, .int x4)]) dX12_chanceBehind_89 (by decide) rfl ?_
  refine aw_aload_n (j := 1) dX12_chanceBehind_91 rfl rfl ?_
  refine aw_iload_n (j := 2) dX12_chanceBehind_92 rfl rfl ?_
  refine aw_iload_n (j := 3) dX12_chanceBehind_93 rfl rfl ?_
  refine aw_iconst (v := 1) dX12_chanceBehind_94 (by decide) ?_
  refine aw_iadd dX12_chanceBehind_95 ?_
  refine aw_iload_n (j := 4) dX12_chanceBehind_96 rfl rfl ?_
  refine aw_iload (j := 5) dX12_chanceBehind_97 rfl ?_
  refine aw_iload (j := 0) dX12_chanceBehind_99 rfl ?_
  refine aw_if_eq (tgt := 108) dX12_chanceBehind_101 (by decide) (fun hc => ?_) (fun hc => ?_)
  · have h := h.1 hc
    refine aw_iconst (v := 0) dX12_chanceBehind_108 (by decide) ?_
    exact aw_sub [1, 3] rfl h
  · have h := h.2 hc
    refine aw_iconst (v := 1) dX12_chanceBehind_104 (by decide) ?_
    refine aw_goto (tgt := 109) dX12_chanceBehind_105 (by decide) ?_
    exact aw_sub [1, 3] rfl h
set_option maxRecDepth 100000 in
set_option maxHeartbeats 4000000 in
theorem g_X12_chanceBehind_109 {ad : Nat → Nat} {d : Nat} {Q : Option Value → Wm → Prop} {m : Wm} {x2 s0 s1 s2 s3 s4 : Int32} (h : (Ct ad μX12_chanceOfWins d [.ref (ad 187), .int s4, .int s3, .int s2, .int (s1 - s0)] m (fun r m1 => ∃ w2 : Int64, r = some (.long w2) ∧ (Ct ad μX12_bring d [.ref (ad 187), .ref (ad 211), .int ((57 : Int32) * x2)] m1 (fun r m3 => r = none ∧ Q (some (.long w2)) m3))))) : AW ad E0 μX12_chanceBehind (d + 1) Q 109 [(0, .ref (ad 187)), (2, .int x2)] [.int s0, .int s1, .int s2, .int s3, .int s4, .ref (ad 187)] m := by
  refine aw_isub dX12_chanceBehind_109 ?_
  refine aw_callV (rest := []) [.int s4, .int s3, .int s2, .int (s1 - s0)] dX12_chanceBehind_110 ly_187 rfl k_X12_388 rfl h (Nat.le_of_ble_eq_true rfl) (fun v m1 h => ?_)
  obtain ⟨w2, rfl, h⟩ := h
  refine aw_eq (L' := [(0, .ref (ad 187)), (2, .int x2)]) (st' := [.long w2]) (m' := m1) ?_ rfl rfl rfl
  refine aw_lstore (L' := [(10, .long w2), (0, .ref (ad 187)), (2, .int x2)]) dX12_chanceBehind_113 (by decide) rfl ?_
  refine aw_aload_n (j := 1) dX12_chanceBehind_115 rfl rfl ?_
  refine aw_aload_n (j := 1) dX12_chanceBehind_116 rfl rfl ?_
  refine aw_getfield (c := 214) (v := .ref (ad 211)) dX12_chanceBehind_117 f_X12_92 ly_187 rfl rfl ?_
  refine aw_bipush (v := 57) dX12_chanceBehind_120 (by decide) ?_
  refine aw_iload_n (j := 2) dX12_chanceBehind_122 rfl rfl ?_
  refine aw_imul dX12_chanceBehind_123 ?_
  refine aw_callV (rest := []) [.ref (ad 211), .int ((57 : Int32) * x2)] dX12_chanceBehind_124 ly_187 rfl k_X12_302 rfl h (Nat.le_of_ble_eq_true rfl) (fun v m3 h => ?_)
  obtain ⟨rfl, h⟩ := h
  refine aw_eq (L' := [(10, .long w2), (0, .ref (ad 187)), (2, .int x2)]) (st' := []) (m' := m3) ?_ rfl rfl rfl
  refine aw_lload (j := 0) dX12_chanceBehind_127 rfl ?_
  exact aw_ret (v := some (.long w2)) rfl (Or.inr (Or.inr ⟨_, rfl, rfl, dX12_chanceBehind_129⟩)) h
set_option maxRecDepth 100000 in
set_option maxHeartbeats 4000000 in
theorem v_X12_wins {ad : Nat → Nat} {d : Nat} {Q : Option Value → Wm → Prop} {m : Wm} {x1 x2 x3 : Int32} (h : (Ct ad μX12_isSide d [.ref (ad 187), .int x1] (uI m 187 17 (0 : Int32)) (fun r m1 => ∃ v2 : Int32, r = some (.int v2) ∧ ((v2 = 0 → Q (some (.int (-1 : Int32))) m1) ∧ (¬ v2 = 0 → (Ct ad μX12_in d [.long x2.toInt64, .long (1 : Int64), .long (6 : Int64)] m1 (fun r m3 => ∃ v4 : Int32, r = some (.int v4) ∧ ((v4 = 0 → Q (some (.int (-1 : Int32))) m3) ∧ (¬ v4 = 0 → (Ct ad μX12_in d [.long x3.toInt64, .long (0 : Int64), .long x2.toInt64] m3 (fun r m5 => ∃ v6 : Int32, r = some (.int v6) ∧ ((v6 = 0 → Q (some (.int (-1 : Int32))) m5) ∧ (¬ v6 = 0 → ((¬ (m5.1 187 11) = 0 → (Ct ad μX12_chanceOfWins d [.ref (ad 187), .int x1, .int (0 : Int32), .int x2, .int x3] m5 (fun r m7 => ∃ w8 : Int64, r = some (.long w8) ∧ (Ct ad μX12_power100 d [.int x2] (uI m7 187 16 (0 : Int32)) (fun r m9 => ∃ w10 : Int64, r = some (.long w10) ∧ (Ct ad μX12_tellPart d [.ref (ad 187), .long w8, .long w10] m9 (fun r m11 => r = none ∧ Q (some (.int (0 : Int32))) m11))))))) ∧ ((m5.1 187 11) = 0 → Q (some (.int (-1 : Int32))) m5))))))))))))))) : Ct ad μX12_wins (d + 1) [.ref (ad 187), .int x1, .int x2, .int x3] m Q := by
  refine Ct.of (by decide +kernel) rfl (Nat.le_of_ble_eq_true rfl) ?_
  refine aw_eq (L' := [(0, .ref (ad 187)), (1, .int x1), (2, .int x2), (3, .int x3)]) ?_ rfl rfl rfl
  refine aw_aload_n (j := 0) dX12_wins_0 rfl rfl ?_
  refine aw_iconst (v := 0) dX12_wins_1 (by decide) ?_
  refine aw_putI dX12_wins_2 f_X12_110 cl_X12 rfl ly_187 rfl rfl rfl ?_
  refine aw_aload_n (j := 0) dX12_wins_5 rfl rfl ?_
  refine aw_iload_n (j := 1) dX12_wins_6 rfl rfl ?_
  refine aw_callV (rest := []) [.int x1] dX12_wins_7 ly_187 rfl k_X12_123 rfl h (Nat.le_of_ble_eq_true rfl) (fun v m1 h => ?_)
  obtain ⟨v2, rfl, h⟩ := h
  refine aw_eq (L' := [(0, .ref (ad 187)), (1, .int x1), (2, .int x2), (3, .int x3)]) (st' := [.int v2]) (m' := m1) ?_ rfl rfl rfl
  refine aw_if_eq (tgt := 43) dX12_wins_10 (by decide) (fun hc => ?_) (fun hc => ?_)
  · have h := h.1 hc
    refine aw_iconst (v := -1) dX12_wins_43 (by decide) ?_
    exact aw_ret (v := some (.int (-1 : Int32))) rfl (Or.inr (Or.inl ⟨_, .int, rfl, rfl, rfl, dX12_wins_44⟩)) h
  · have h := h.2 hc
    refine aw_iload_n (j := 2) dX12_wins_13 rfl rfl ?_
    refine aw_i2l dX12_wins_14 ?_
    refine aw_lconst (v := 1) dX12_wins_15 (by decide) ?_
    refine aw_ldc2 dX12_wins_16 c_X12_392 ?_
    refine aw_callS (rest := []) [.long x2.toInt64, .long (1 : Int64), .long (6 : Int64)] dX12_wins_19 k_X12_119 rfl h (Nat.le_of_ble_eq_true rfl) (fun v m3 h => ?_)
    obtain ⟨v4, rfl, h⟩ := h
    refine aw_eq (L' := [(0, .ref (ad 187)), (1, .int x1), (2, .int x2), (3, .int x3)]) (st' := [.int v4]) (m' := m3) ?_ rfl rfl rfl
    refine aw_if_eq (tgt := 43) dX12_wins_22 (by decide) (fun hc => ?_) (fun hc => ?_)
    · have h := h.1 hc
      refine aw_iconst (v := -1) dX12_wins_43 (by decide) ?_
      exact aw_ret (v := some (.int (-1 : Int32))) rfl (Or.inr (Or.inl ⟨_, .int, rfl, rfl, rfl, dX12_wins_44⟩)) h
    · have h := h.2 hc
      refine aw_iload_n (j := 3) dX12_wins_25 rfl rfl ?_
      refine aw_i2l dX12_wins_26 ?_
      refine aw_lconst (v := 0) dX12_wins_27 (by decide) ?_
      refine aw_iload_n (j := 2) dX12_wins_28 rfl rfl ?_
      refine aw_i2l dX12_wins_29 ?_
      refine aw_callS (rest := []) [.long x3.toInt64, .long (0 : Int64), .long x2.toInt64] dX12_wins_30 k_X12_119 rfl h (Nat.le_of_ble_eq_true rfl) (fun v m5 h => ?_)
      obtain ⟨v6, rfl, h⟩ := h
      refine aw_eq (L' := [(0, .ref (ad 187)), (1, .int x1), (2, .int x2), (3, .int x3)]) (st' := [.int v6]) (m' := m5) ?_ rfl rfl rfl
      refine aw_if_eq (tgt := 43) dX12_wins_33 (by decide) (fun hc => ?_) (fun hc => ?_)
      · have h := h.1 hc
        refine aw_iconst (v := -1) dX12_wins_43 (by decide) ?_
        exact aw_ret (v := some (.int (-1 : Int32))) rfl (Or.inr (Or.inl ⟨_, .int, rfl, rfl, rfl, dX12_wins_44⟩)) h
      · have h := h.2 hc
        refine aw_aload_n (j := 0) dX12_wins_36 rfl rfl ?_
        refine aw_getfield (c := 0) (v := .int (m5.1 187 11)) dX12_wins_37 f_X12_184 ly_187 rfl rfl ?_
        refine aw_if_ne (tgt := 45) dX12_wins_40 (by decide) (fun hc => ?_) (fun hc => ?_)
        · have h := h.1 hc
          refine aw_aload_n (j := 0) dX12_wins_45 rfl rfl ?_
          refine aw_iload_n (j := 1) dX12_wins_46 rfl rfl ?_
          refine aw_iconst (v := 0) dX12_wins_47 (by decide) ?_
          refine aw_iload_n (j := 2) dX12_wins_48 rfl rfl ?_
          refine aw_iload_n (j := 3) dX12_wins_49 rfl rfl ?_
          refine aw_callV (rest := []) [.int x1, .int (0 : Int32), .int x2, .int x3] dX12_wins_50 ly_187 rfl k_X12_388 rfl h (Nat.le_of_ble_eq_true rfl) (fun v m7 h => ?_)
          obtain ⟨w8, rfl, h⟩ := h
          refine aw_eq (L' := [(0, .ref (ad 187)), (1, .int x1), (2, .int x2), (3, .int x3)]) (st' := [.long w8]) (m' := m7) ?_ rfl rfl rfl
          refine aw_lstore (L' := [(4, .long w8), (0, .ref (ad 187)), (1, .int x1), (2, .int x2), (3, .int x3)]) dX12_wins_53 (by decide) rfl ?_
          refine aw_aload_n (j := 1) dX12_wins_55 rfl rfl ?_
          refine aw_iconst (v := 0) dX12_wins_56 (by decide) ?_
          refine aw_putI dX12_wins_57 f_X12_113 cl_X12 rfl ly_187 rfl rfl rfl ?_
          refine aw_aload_n (j := 1) dX12_wins_60 rfl rfl ?_
          refine aw_lload (j := 0) dX12_wins_61 rfl ?_
          refine aw_iload_n (j := 3) dX12_wins_63 rfl rfl ?_
          refine aw_callS (rest := [.long w8, .ref (ad 187)]) [.int x2] dX12_wins_64 k_X12_394 rfl h (Nat.le_of_ble_eq_true rfl) (fun v m9 h => ?_)
          obtain ⟨w10, rfl, h⟩ := h
          refine aw_eq (L' := [(4, .long w8), (0, .ref (ad 187)), (1, .int x1), (2, .int x2), (3, .int x3)]) (st' := [.long w10, .long w8, .ref (ad 187)]) (m' := m9) ?_ rfl rfl rfl
          refine aw_callV (rest := []) [.long w8, .long w10] dX12_wins_67 ly_187 rfl k_X12_380 rfl h (Nat.le_of_ble_eq_true rfl) (fun v m11 h => ?_)
          obtain ⟨rfl, h⟩ := h
          refine aw_eq (L' := [(4, .long w8), (0, .ref (ad 187)), (1, .int x1), (2, .int x2), (3, .int x3)]) (st' := []) (m' := m11) ?_ rfl rfl rfl
          refine aw_iconst (v := 0) dX12_wins_70 (by decide) ?_
          exact aw_ret (v := some (.int (0 : Int32))) rfl (Or.inr (Or.inl ⟨_, .int, rfl, rfl, rfl, dX12_wins_71⟩)) h
        · have h := h.2 hc
          refine aw_iconst (v := -1) dX12_wins_43 (by decide) ?_
          exact aw_ret (v := some (.int (-1 : Int32))) rfl (Or.inr (Or.inl ⟨_, .int, rfl, rfl, rfl, dX12_wins_44⟩)) h
set_option maxRecDepth 100000 in
set_option maxHeartbeats 4000000 in
theorem v_X12_hopeOf {ad : Nat → Nat} {d : Nat} {Q : Option Value → Wm → Prop} {m : Wm} {x1 x2 : Int32} (h : ((¬ x1 = x2 → (¬ m.1 187 10 = 0 ∧ (vp_in (((4 : Int32) * (x1 - x1 / (m.1 187 10) * (m.1 187 10))) + (2 : Int32)) 160 ∧ (((m.1 194 (((4 : Int32) * (x1 - x1 / (m.1 187 10) * (m.1 187 10))) + (2 : Int32)).toNatClampNeg) = 0 → (vp_in ((4 : Int32) * (x1 - x1 / (m.1 187 10) * (m.1 187 10))) 160 ∧ (vp_in (((4 : Int32) * (x1 - x1 / (m.1 187 10) * (m.1 187 10))) + (1 : Int32)) 160 ∧ (Ct ad μX12_chanceOf d [.ref (ad 187), .int (m.1 194 ((4 : Int32) * (x1 - x1 / (m.1 187 10) * (m.1 187 10))).toNatClampNeg), .int (m.1 194 (((4 : Int32) * (x1 - x1 / (m.1 187 10) * (m.1 187 10))) + (1 : Int32)).toNatClampNeg)] m (fun r m1 => ∃ v2 : Int32, r = some (.int v2) ∧ (((lg_cmp v2.toInt64 (0 : Int64)) ≤ 0 → AW ad E0 μX12_hopeOf (d + 1) Q 134 [(0, .ref (ad 187)), (1, .int x1), (2, .int x2), (5, .long v2.toInt64)] [.long (0 : Int64)] m1) ∧ (¬ (lg_cmp v2.toInt64 (0 : Int64)) ≤ 0 → (Ct ad μX12_hopeBehind d [.ref (ad 187), .int x1, .int x2, .int (0 : Int32)] m1 (fun r m3 => ∃ w4 : Int64, r = some (.long w4) ∧ AW ad E0 μX12_hopeOf (d + 1) Q 134 [(0, .ref (ad 187)), (1, .int x1), (2, .int x2), (5, .long v2.toInt64)] [.long (v2.toInt64 * w4)] m3))))))))) ∧ (¬ (m.1 194 (((4 : Int32) * (x1 - x1 / (m.1 187 10) * (m.1 187 10))) + (2 : Int32)).toNatClampNeg) = 0 → (vp_in ((4 : Int32) * (x1 - x1 / (m.1 187 10) * (m.1 187 10))) 160 ∧ (vp_in (((4 : Int32) * (x1 - x1 / (m.1 187 10) * (m.1 187 10))) + (1 : Int32)) 160 ∧ (Ct ad μX12_winner d [.ref (ad 187), .int (m.1 194 ((4 : Int32) * (x1 - x1 / (m.1 187 10) * (m.1 187 10))).toNatClampNeg), .int (m.1 194 (((4 : Int32) * (x1 - x1 / (m.1 187 10) * (m.1 187 10))) + (1 : Int32)).toNatClampNeg), .int (m.1 194 (((4 : Int32) * (x1 - x1 / (m.1 187 10) * (m.1 187 10))) + (2 : Int32)).toNatClampNeg)] m (fun r m5 => ∃ v6 : Int32, r = some (.int v6) ∧ (Ct ad μX12_hopeBehind d [.ref (ad 187), .int x1, .int x2, .int v6] m5 (fun r m7 => ∃ w8 : Int64, r = some (.long w8) ∧ Q (some (.long ((100 : Int64) * w8))) m7))))))))))) ∧ (x1 = x2 → (Ct ad μX12_sumOfAll d [.ref (ad 187)] m (fun r m9 => ∃ v10 : Int32, r = some (.int v10) ∧ Q (some (.long v10.toInt64)) (uI (uI m9 187 48 (if v10 < (m9.1 187 48) then v10 else (m9.1 187 48))) 187 49 (if ((uI m9 187 48 (if v10 < (m9.1 187 48) then v10 else (m9.1 187 48))).1 187 49) < v10 then v10 else ((uI m9 187 48 (if v10 < (m9.1 187 48) then v10 else (m9.1 187 48))).1 187 49)))))))) : Ct ad μX12_hopeOf (d + 1) [.ref (ad 187), .int x1, .int x2] m Q := by
  refine Ct.of (by decide +kernel) rfl (Nat.le_of_ble_eq_true rfl) ?_
  refine aw_eq (L' := [(0, .ref (ad 187)), (1, .int x1), (2, .int x2)]) ?_ rfl rfl rfl
  refine aw_iload_n (j := 1) dX12_hopeOf_0 rfl rfl ?_
  refine aw_iload_n (j := 2) dX12_hopeOf_1 rfl rfl ?_
  refine aw_icmp_ne (tgt := 37) dX12_hopeOf_2 (by decide) (fun hc => ?_) (fun hc => ?_)
  · have h := h.1 hc
    refine aw_iconst (v := 4) dX12_hopeOf_37 (by decide) ?_
    refine aw_iload_n (j := 1) dX12_hopeOf_38 rfl rfl ?_
    refine aw_aload_n (j := 0) dX12_hopeOf_39 rfl rfl ?_
    refine aw_getfield (c := 0) (v := .int (m.1 187 10)) dX12_hopeOf_40 f_X12_181 ly_187 rfl rfl ?_
    obtain ⟨hz, h⟩ := h
    refine aw_irem dX12_hopeOf_43 hz ?_
    refine aw_imul dX12_hopeOf_44 ?_
    refine aw_istore_n (L' := [(3, .int ((4 : Int32) * (x1 - x1 / (m.1 187 10) * (m.1 187 10)))), (0, .ref (ad 187)), (1, .int x1), (2, .int x2)]) dX12_hopeOf_45 rfl (by decide) rfl ?_
    refine aw_aload_n (j := 1) dX12_hopeOf_46 rfl rfl ?_
    refine aw_getfield (c := 197) (v := .ref (ad 194)) dX12_hopeOf_47 f_X12_36 ly_187 rfl rfl ?_
    refine aw_iload_n (j := 0) dX12_hopeOf_50 rfl rfl ?_
    refine aw_iconst (v := 2) dX12_hopeOf_51 (by decide) ?_
    refine aw_iadd dX12_hopeOf_52 ?_
    obtain ⟨hi, h⟩ := h
    refine aw_iaload dX12_hopeOf_53 ly_194 hi ?_
    refine aw_istore (L' := [(4, .int (m.1 194 (((4 : Int32) * (x1 - x1 / (m.1 187 10) * (m.1 187 10))) + (2 : Int32)).toNatClampNeg)), (3, .int ((4 : Int32) * (x1 - x1 / (m.1 187 10) * (m.1 187 10)))), (0, .ref (ad 187)), (1, .int x1), (2, .int x2)]) dX12_hopeOf_54 (by decide) rfl ?_
    refine aw_iload (j := 0) dX12_hopeOf_56 rfl ?_
    refine aw_if_eq (tgt := 92) dX12_hopeOf_58 (by decide) (fun hc => ?_) (fun hc => ?_)
    · have h := h.1 hc
      refine aw_aload_n (j := 2) dX12_hopeOf_92 rfl rfl ?_
      refine aw_aload_n (j := 2) dX12_hopeOf_93 rfl rfl ?_
      refine aw_getfield (c := 197) (v := .ref (ad 194)) dX12_hopeOf_94 f_X12_36 ly_187 rfl rfl ?_
      refine aw_iload_n (j := 1) dX12_hopeOf_97 rfl rfl ?_
      obtain ⟨hi, h⟩ := h
      refine aw_iaload dX12_hopeOf_98 ly_194 hi ?_
      refine aw_aload_n (j := 2) dX12_hopeOf_99 rfl rfl ?_
      refine aw_getfield (c := 197) (v := .ref (ad 194)) dX12_hopeOf_100 f_X12_36 ly_187 rfl rfl ?_
      refine aw_iload_n (j := 1) dX12_hopeOf_103 rfl rfl ?_
      refine aw_iconst (v := 1) dX12_hopeOf_104 (by decide) ?_
      refine aw_iadd dX12_hopeOf_105 ?_
      obtain ⟨hi, h⟩ := h
      refine aw_iaload dX12_hopeOf_106 ly_194 hi ?_
      refine aw_callV (rest := []) [.int (m.1 194 ((4 : Int32) * (x1 - x1 / (m.1 187 10) * (m.1 187 10))).toNatClampNeg), .int (m.1 194 (((4 : Int32) * (x1 - x1 / (m.1 187 10) * (m.1 187 10))) + (1 : Int32)).toNatClampNeg)] dX12_hopeOf_107 ly_187 rfl k_X12_276 rfl h (Nat.le_of_ble_eq_true rfl) (fun v m1 h => ?_)
      obtain ⟨v2, rfl, h⟩ := h
      refine aw_eq (L' := [(4, .int (m.1 194 (((4 : Int32) * (x1 - x1 / (m.1 187 10) * (m.1 187 10))) + (2 : Int32)).toNatClampNeg)), (3, .int ((4 : Int32) * (x1 - x1 / (m.1 187 10) * (m.1 187 10)))), (0, .ref (ad 187)), (1, .int x1), (2, .int x2)]) (st' := [.int v2]) (m' := m1) ?_ rfl rfl rfl
      refine aw_i2l dX12_hopeOf_110 ?_
      refine aw_lstore (L' := [(5, .long v2.toInt64), (4, .int (m.1 194 (((4 : Int32) * (x1 - x1 / (m.1 187 10) * (m.1 187 10))) + (2 : Int32)).toNatClampNeg)), (3, .int ((4 : Int32) * (x1 - x1 / (m.1 187 10) * (m.1 187 10)))), (0, .ref (ad 187)), (1, .int x1), (2, .int x2)]) dX12_hopeOf_111 (by decide) rfl ?_
      refine aw_lload (j := 0) dX12_hopeOf_113 rfl ?_
      refine aw_lconst (v := 0) dX12_hopeOf_115 (by decide) ?_
      refine aw_lcmp dX12_hopeOf_116 ?_
      refine aw_if_le (tgt := 133) dX12_hopeOf_117 (by decide) (fun hc => ?_) (fun hc => ?_)
      · have h := h.1 hc
        refine aw_lconst (v := 0) dX12_hopeOf_133 (by decide) ?_
        exact aw_sub [3, 4, 5, 0] rfl h
      · have h := h.2 hc
        refine aw_lload (j := 0) dX12_hopeOf_120 rfl ?_
        refine aw_aload_n (j := 3) dX12_hopeOf_122 rfl rfl ?_
        refine aw_iload_n (j := 4) dX12_hopeOf_123 rfl rfl ?_
        refine aw_iload_n (j := 5) dX12_hopeOf_124 rfl rfl ?_
        refine aw_iconst (v := 0) dX12_hopeOf_125 (by decide) ?_
        refine aw_callV (rest := [.long v2.toInt64]) [.int x1, .int x2, .int (0 : Int32)] dX12_hopeOf_126 ly_187 rfl k_X12_403 rfl h (Nat.le_of_ble_eq_true rfl) (fun v m3 h => ?_)
        obtain ⟨w4, rfl, h⟩ := h
        refine aw_eq (L' := [(5, .long v2.toInt64), (4, .int (m.1 194 (((4 : Int32) * (x1 - x1 / (m.1 187 10) * (m.1 187 10))) + (2 : Int32)).toNatClampNeg)), (3, .int ((4 : Int32) * (x1 - x1 / (m.1 187 10) * (m.1 187 10)))), (0, .ref (ad 187)), (1, .int x1), (2, .int x2)]) (st' := [.long w4, .long v2.toInt64]) (m' := m3) ?_ rfl rfl rfl
        refine aw_lmul dX12_hopeOf_129 ?_
        refine aw_goto (tgt := 134) dX12_hopeOf_130 (by decide) ?_
        exact aw_sub [3, 4, 5, 0] rfl h
    · have h := h.2 hc
      refine aw_ldc2 dX12_hopeOf_61 c_X12_228 ?_
      refine aw_aload_n (j := 2) dX12_hopeOf_64 rfl rfl ?_
      refine aw_iload_n (j := 3) dX12_hopeOf_65 rfl rfl ?_
      refine aw_iload_n (j := 4) dX12_hopeOf_66 rfl rfl ?_
      refine aw_aload_n (j := 2) dX12_hopeOf_67 rfl rfl ?_
      refine aw_aload_n (j := 2) dX12_hopeOf_68 rfl rfl ?_
      refine aw_getfield (c := 197) (v := .ref (ad 194)) dX12_hopeOf_69 f_X12_36 ly_187 rfl rfl ?_
      refine aw_iload_n (j := 1) dX12_hopeOf_72 rfl rfl ?_
      obtain ⟨hi, h⟩ := h
      refine aw_iaload dX12_hopeOf_73 ly_194 hi ?_
      refine aw_aload_n (j := 2) dX12_hopeOf_74 rfl rfl ?_
      refine aw_getfield (c := 197) (v := .ref (ad 194)) dX12_hopeOf_75 f_X12_36 ly_187 rfl rfl ?_
      refine aw_iload_n (j := 1) dX12_hopeOf_78 rfl rfl ?_
      refine aw_iconst (v := 1) dX12_hopeOf_79 (by decide) ?_
      refine aw_iadd dX12_hopeOf_80 ?_
      obtain ⟨hi, h⟩ := h
      refine aw_iaload dX12_hopeOf_81 ly_194 hi ?_
      refine aw_iload (j := 0) dX12_hopeOf_82 rfl ?_
      refine aw_callV (rest := [.int x2, .int x1, .ref (ad 187), .long (100 : Int64)]) [.int (m.1 194 ((4 : Int32) * (x1 - x1 / (m.1 187 10) * (m.1 187 10))).toNatClampNeg), .int (m.1 194 (((4 : Int32) * (x1 - x1 / (m.1 187 10) * (m.1 187 10))) + (1 : Int32)).toNatClampNeg), .int (m.1 194 (((4 : Int32) * (x1 - x1 / (m.1 187 10) * (m.1 187 10))) + (2 : Int32)).toNatClampNeg)] dX12_hopeOf_84 ly_187 rfl k_X12_273 rfl h (Nat.le_of_ble_eq_true rfl) (fun v m5 h => ?_)
      obtain ⟨v6, rfl, h⟩ := h
      refine aw_eq (L' := [(4, .int (m.1 194 (((4 : Int32) * (x1 - x1 / (m.1 187 10) * (m.1 187 10))) + (2 : Int32)).toNatClampNeg)), (3, .int ((4 : Int32) * (x1 - x1 / (m.1 187 10) * (m.1 187 10)))), (0, .ref (ad 187)), (1, .int x1), (2, .int x2)]) (st' := [.int v6, .int x2, .int x1, .ref (ad 187), .long (100 : Int64)]) (m' := m5) ?_ rfl rfl rfl
      refine aw_callV (rest := [.long (100 : Int64)]) [.int x1, .int x2, .int v6] dX12_hopeOf_87 ly_187 rfl k_X12_403 rfl h (Nat.le_of_ble_eq_true rfl) (fun v m7 h => ?_)
      obtain ⟨w8, rfl, h⟩ := h
      refine aw_eq (L' := [(4, .int (m.1 194 (((4 : Int32) * (x1 - x1 / (m.1 187 10) * (m.1 187 10))) + (2 : Int32)).toNatClampNeg)), (3, .int ((4 : Int32) * (x1 - x1 / (m.1 187 10) * (m.1 187 10)))), (0, .ref (ad 187)), (1, .int x1), (2, .int x2)]) (st' := [.long w8, .long (100 : Int64)]) (m' := m7) ?_ rfl rfl rfl
      refine aw_lmul dX12_hopeOf_90 ?_
      exact aw_ret (v := some (.long ((100 : Int64) * w8))) rfl (Or.inr (Or.inr ⟨_, rfl, rfl, dX12_hopeOf_91⟩)) h
  · have h := h.2 hc
    refine aw_aload_n (j := 0) dX12_hopeOf_5 rfl rfl ?_
    refine aw_callV (rest := []) [] dX12_hopeOf_6 ly_187 rfl k_X12_305 rfl h (Nat.le_of_ble_eq_true rfl) (fun v m9 h => ?_)
    obtain ⟨v10, rfl, h⟩ := h
    refine aw_eq (L' := [(0, .ref (ad 187)), (1, .int x1), (2, .int x2)]) (st' := [.int v10]) (m' := m9) ?_ rfl rfl rfl
    refine aw_istore_n (L' := [(3, .int v10), (0, .ref (ad 187)), (1, .int x1), (2, .int x2)]) dX12_hopeOf_9 rfl (by decide) rfl ?_
    refine aw_aload_n (j := 1) dX12_hopeOf_10 rfl rfl ?_
    refine aw_aload_n (j := 1) dX12_hopeOf_11 rfl rfl ?_
    refine aw_getfield (c := 0) (v := .int (m9.1 187 48)) dX12_hopeOf_12 f_X12_397 ly_187 rfl rfl ?_
    refine aw_iload_n (j := 0) dX12_hopeOf_15 rfl rfl ?_
    refine aw_min dX12_hopeOf_16 k_X12_238 (Nat.le_of_ble_eq_true rfl) ?_
    refine aw_putI dX12_hopeOf_19 f_X12_397 cl_X12 rfl ly_187 rfl rfl rfl ?_
    refine aw_aload_n (j := 1) dX12_hopeOf_22 rfl rfl ?_
    refine aw_aload_n (j := 1) dX12_hopeOf_23 rfl rfl ?_
    refine aw_getfield (c := 0) (v := .int ((uI m9 187 48 (if v10 < (m9.1 187 48) then v10 else (m9.1 187 48))).1 187 49)) dX12_hopeOf_24 f_X12_400 ly_187 rfl rfl ?_
    refine aw_iload_n (j := 0) dX12_hopeOf_27 rfl rfl ?_
    refine aw_max dX12_hopeOf_28 k_X12_233 (Nat.le_of_ble_eq_true rfl) ?_
    refine aw_putI dX12_hopeOf_31 f_X12_400 cl_X12 rfl ly_187 rfl rfl rfl ?_
    refine aw_iload_n (j := 0) dX12_hopeOf_34 rfl rfl ?_
    refine aw_i2l dX12_hopeOf_35 ?_
    exact aw_ret (v := some (.long v10.toInt64)) rfl (Or.inr (Or.inr ⟨_, rfl, rfl, dX12_hopeOf_36⟩)) h
set_option maxRecDepth 100000 in
set_option maxHeartbeats 4000000 in
theorem g_X12_hopeOf_134 {ad : Nat → Nat} {d : Nat} {Q : Option Value → Wm → Prop} {m : Wm} {x1 x2 : Int32} {y5 z0 : Int64} (h : ((0 ≤ (lg_cmp y5 (100 : Int64)) → Q (some (.long (z0 + (0 : Int64)))) m) ∧ (¬ 0 ≤ (lg_cmp y5 (100 : Int64)) → (Ct ad μX12_hopeBehind d [.ref (ad 187), .int x1, .int x2, .int (1 : Int32)] m (fun r m1 => ∃ w2 : Int64, r = some (.long w2) ∧ Q (some (.long (z0 + (((100 : Int64) - y5) * w2)))) m1))))) : AW ad E0 μX12_hopeOf (d + 1) Q 134 [(0, .ref (ad 187)), (1, .int x1), (2, .int x2), (5, .long y5)] [.long z0] m := by
  refine aw_lstore (L' := [(7, .long z0), (0, .ref (ad 187)), (1, .int x1), (2, .int x2), (5, .long y5)]) dX12_hopeOf_134 (by decide) rfl ?_
  refine aw_lload (j := 0) dX12_hopeOf_136 rfl ?_
  refine aw_lload (j := 4) dX12_hopeOf_138 rfl ?_
  refine aw_ldc2 dX12_hopeOf_140 c_X12_228 ?_
  refine aw_lcmp dX12_hopeOf_143 ?_
  refine aw_if_ge (tgt := 164) dX12_hopeOf_144 (by decide) (fun hc => ?_) (fun hc => ?_)
  · have h := h.1 hc
    refine aw_lconst (v := 0) dX12_hopeOf_164 (by decide) ?_
    refine aw_ladd dX12_hopeOf_165 ?_
    exact aw_ret (v := some (.long (z0 + (0 : Int64)))) rfl (Or.inr (Or.inr ⟨_, rfl, rfl, dX12_hopeOf_166⟩)) h
  · have h := h.2 hc
    refine aw_ldc2 dX12_hopeOf_147 c_X12_228 ?_
    refine aw_lload (j := 4) dX12_hopeOf_150 rfl ?_
    refine aw_lsub dX12_hopeOf_152 ?_
    refine aw_aload_n (j := 1) dX12_hopeOf_153 rfl rfl ?_
    refine aw_iload_n (j := 2) dX12_hopeOf_154 rfl rfl ?_
    refine aw_iload_n (j := 3) dX12_hopeOf_155 rfl rfl ?_
    refine aw_iconst (v := 1) dX12_hopeOf_156 (by decide) ?_
    refine aw_callV (rest := [.long ((100 : Int64) - y5), .long z0]) [.int x1, .int x2, .int (1 : Int32)] dX12_hopeOf_157 ly_187 rfl k_X12_403 rfl h (Nat.le_of_ble_eq_true rfl) (fun v m1 h => ?_)
    obtain ⟨w2, rfl, h⟩ := h
    refine aw_eq (L' := [(7, .long z0), (0, .ref (ad 187)), (1, .int x1), (2, .int x2), (5, .long y5)]) (st' := [.long w2, .long ((100 : Int64) - y5), .long z0]) (m' := m1) ?_ rfl rfl rfl
    refine aw_lmul dX12_hopeOf_160 ?_
    refine aw_goto (tgt := 165) dX12_hopeOf_161 (by decide) ?_
    refine aw_ladd dX12_hopeOf_165 ?_
    exact aw_ret (v := some (.long (z0 + (((100 : Int64) - y5) * w2)))) rfl (Or.inr (Or.inr ⟨_, rfl, rfl, dX12_hopeOf_166⟩)) h
set_option maxRecDepth 100000 in
set_option maxHeartbeats 4000000 in
theorem v_X12_hopeBehind {ad : Nat → Nat} {d : Nat} {Q : Option Value → Wm → Prop} {m : Wm} {x1 x2 x3 : Int32} (h : (¬ m.1 187 10 = 0 ∧ (Ct ad μX12_lay d [.ref (ad 187), .ref (ad 211), .int ((57 : Int32) * x1)] m (fun r m1 => r = none ∧ (vp_in ((4 : Int32) * (x1 - x1 / (m.1 187 10) * (m.1 187 10))) 160 ∧ (vp_in (((4 : Int32) * (x1 - x1 / (m.1 187 10) * (m.1 187 10))) + (1 : Int32)) 160 ∧ (vp_in (((4 : Int32) * (x1 - x1 / (m.1 187 10) * (m.1 187 10))) + (2 : Int32)) 160 ∧ (Ct ad μX12_settle d [.ref (ad 187), .int (m1.1 194 ((4 : Int32) * (x1 - x1 / (m.1 187 10) * (m.1 187 10))).toNatClampNeg), .int (m1.1 194 (((4 : Int32) * (x1 - x1 / (m.1 187 10) * (m.1 187 10))) + (1 : Int32)).toNatClampNeg), .int (m1.1 194 (((4 : Int32) * (x1 - x1 / (m.1 187 10) * (m.1 187 10))) + (2 : Int32)).toNatClampNeg), .int x3] m1 (fun r m2 => r = none ∧ (Ct ad μX12_hopeOf d [.ref (ad 187), .int (x1 + (1 : Int32)), .int x2] m2 (fun r m3 => ∃ w4 : Int64, r = some (.long w4) ∧ (Ct ad μX12_bring d [.ref (ad 187), .ref (ad 211), .int ((57 : Int32) * x1)] m3 (fun r m5 => r = none ∧ Q (some (.long w4)) m5))))))))))))) : Ct ad μX12_hopeBehind (d + 1) [.ref (ad 187), .int x1, .int x2, .int x3] m Q := by
  refine Ct.of (by decide +kernel) rfl (Nat.le_of_ble_eq_true rfl) ?_
  refine aw_eq (L' := [(0, .ref (ad 187)), (1, .int x1), (2, .int x2), (3, .int x3)]) ?_ rfl rfl rfl
  refine aw_iconst (v := 4) dX12_hopeBehind_0 (by decide) ?_
  refine aw_iload_n (j := 1) dX12_hopeBehind_1 rfl rfl ?_
  refine aw_aload_n (j := 0) dX12_hopeBehind_2 rfl rfl ?_
  refine aw_getfield (c := 0) (v := .int (m.1 187 10)) dX12_hopeBehind_3 f_X12_181 ly_187 rfl rfl ?_
  obtain ⟨hz, h⟩ := h
  refine aw_irem dX12_hopeBehind_6 hz ?_
  refine aw_imul dX12_hopeBehind_7 ?_
  refine aw_istore (L' := [(4, .int ((4 : Int32) * (x1 - x1 / (m.1 187 10) * (m.1 187 10)))), (0, .ref (ad 187)), (1, .int x1), (2, .int x2), (3, .int x3)]) dX12_hopeBehind_8 (by decide) rfl ?_
  refine aw_aload_n (j := 1) dX12_hopeBehind_10 rfl rfl ?_
  refine aw_aload_n (j := 1) dX12_hopeBehind_11 rfl rfl ?_
  refine aw_getfield (c := 214) (v := .ref (ad 211)) dX12_hopeBehind_12 f_X12_92 ly_187 rfl rfl ?_
  refine aw_bipush (v := 57) dX12_hopeBehind_15 (by decide) ?_
  refine aw_iload_n (j := 2) dX12_hopeBehind_17 rfl rfl ?_
  refine aw_imul dX12_hopeBehind_18 ?_
  refine aw_callV (rest := []) [.ref (ad 211), .int ((57 : Int32) * x1)] dX12_hopeBehind_19 ly_187 rfl k_X12_291 rfl h (Nat.le_of_ble_eq_true rfl) (fun v m1 h => ?_)
  obtain ⟨rfl, h⟩ := h
  refine aw_eq (L' := [(4, .int ((4 : Int32) * (x1 - x1 / (m.1 187 10) * (m.1 187 10)))), (0, .ref (ad 187)), (1, .int x1), (2, .int x2), (3, .int x3)]) (st' := []) (m' := m1) ?_ rfl rfl rfl
  refine aw_aload_n (j := 1) dX12_hopeBehind_22 rfl rfl ?_
  refine aw_aload_n (j := 1) dX12_hopeBehind_23 rfl rfl ?_
  refine aw_getfield (c := 197) (v := .ref (ad 194)) dX12_hopeBehind_24 f_X12_36 ly_187 rfl rfl ?_
  refine aw_iload (j := 0) dX12_hopeBehind_27 rfl ?_
  obtain ⟨hi, h⟩ := h
  refine aw_iaload dX12_hopeBehind_29 ly_194 hi ?_
  refine aw_aload_n (j := 1) dX12_hopeBehind_30 rfl rfl ?_
  refine aw_getfield (c := 197) (v := .ref (ad 194)) dX12_hopeBehind_31 f_X12_36 ly_187 rfl rfl ?_
  refine aw_iload (j := 0) dX12_hopeBehind_34 rfl ?_
  refine aw_iconst (v := 1) dX12_hopeBehind_36 (by decide) ?_
  refine aw_iadd dX12_hopeBehind_37 ?_
  obtain ⟨hi, h⟩ := h
  refine aw_iaload dX12_hopeBehind_38 ly_194 hi ?_
  refine aw_aload_n (j := 1) dX12_hopeBehind_39 rfl rfl ?_
  refine aw_getfield (c := 197) (v := .ref (ad 194)) dX12_hopeBehind_40 f_X12_36 ly_187 rfl rfl ?_
  refine aw_iload (j := 0) dX12_hopeBehind_43 rfl ?_
  refine aw_iconst (v := 2) dX12_hopeBehind_45 (by decide) ?_
  refine aw_iadd dX12_hopeBehind_46 ?_
  obtain ⟨hi, h⟩ := h
  refine aw_iaload dX12_hopeBehind_47 ly_194 hi ?_
  refine aw_iload_n (j := 4) dX12_hopeBehind_48 rfl rfl ?_
  refine aw_callV (rest := []) [.int (m1.1 194 ((4 : Int32) * (x1 - x1 / (m.1 187 10) * (m.1 187 10))).toNatClampNeg), .int (m1.1 194 (((4 : Int32) * (x1 - x1 / (m.1 187 10) * (m.1 187 10))) + (1 : Int32)).toNatClampNeg), .int (m1.1 194 (((4 : Int32) * (x1 - x1 / (m.1 187 10) * (m.1 187 10))) + (2 : Int32)).toNatClampNeg), .int x3] dX12_hopeBehind_49 ly_187 rfl k_X12_287 rfl h (Nat.le_of_ble_eq_true rfl) (fun v m2 h => ?_)
  obtain ⟨rfl, h⟩ := h
  refine aw_eq (L' := [(4, .int ((4 : Int32) * (x1 - x1 / (m.1 187 10) * (m.1 187 10)))), (0, .ref (ad 187)), (1, .int x1), (2, .int x2), (3, .int x3)]) (st' := []) (m' := m2) ?_ rfl rfl rfl
  refine aw_aload_n (j := 1) dX12_hopeBehind_52 rfl rfl ?_
  refine aw_iload_n (j := 2) dX12_hopeBehind_53 rfl rfl ?_
  refine aw_iconst (v := 1) dX12_hopeBehind_54 (by decide) ?_
  refine aw_iadd dX12_hopeBehind_55 ?_
  refine aw_iload_n (j := 3) dX12_hopeBehind_56 rfl rfl ?_
  refine aw_callV (rest := []) [.int (x1 + (1 : Int32)), .int x2] dX12_hopeBehind_57 ly_187 rfl k_X12_407 rfl h (Nat.le_of_ble_eq_true rfl) (fun v m3 h => ?_)
  obtain ⟨w4, rfl, h⟩ := h
  refine aw_eq (L' := [(4, .int ((4 : Int32) * (x1 - x1 / (m.1 187 10) * (m.1 187 10)))), (0, .ref (ad 187)), (1, .int x1), (2, .int x2), (3, .int x3)]) (st' := [.long w4]) (m' := m3) ?_ rfl rfl rfl
  refine aw_lstore (L' := [(5, .long w4), (4, .int ((4 : Int32) * (x1 - x1 / (m.1 187 10) * (m.1 187 10)))), (0, .ref (ad 187)), (1, .int x1), (2, .int x2), (3, .int x3)]) dX12_hopeBehind_60 (by decide) rfl ?_
  refine aw_aload_n (j := 2) dX12_hopeBehind_62 rfl rfl ?_
  refine aw_aload_n (j := 2) dX12_hopeBehind_63 rfl rfl ?_
  refine aw_getfield (c := 214) (v := .ref (ad 211)) dX12_hopeBehind_64 f_X12_92 ly_187 rfl rfl ?_
  refine aw_bipush (v := 57) dX12_hopeBehind_67 (by decide) ?_
  refine aw_iload_n (j := 3) dX12_hopeBehind_69 rfl rfl ?_
  refine aw_imul dX12_hopeBehind_70 ?_
  refine aw_callV (rest := []) [.ref (ad 211), .int ((57 : Int32) * x1)] dX12_hopeBehind_71 ly_187 rfl k_X12_302 rfl h (Nat.le_of_ble_eq_true rfl) (fun v m5 h => ?_)
  obtain ⟨rfl, h⟩ := h
  refine aw_eq (L' := [(5, .long w4), (4, .int ((4 : Int32) * (x1 - x1 / (m.1 187 10) * (m.1 187 10)))), (0, .ref (ad 187)), (1, .int x1), (2, .int x2), (3, .int x3)]) (st' := []) (m' := m5) ?_ rfl rfl rfl
  refine aw_lload (j := 0) dX12_hopeBehind_74 rfl ?_
  exact aw_ret (v := some (.long w4)) rfl (Or.inr (Or.inr ⟨_, rfl, rfl, dX12_hopeBehind_76⟩)) h
set_option maxRecDepth 100000 in
set_option maxHeartbeats 4000000 in
theorem v_X12_hopes {ad : Nat → Nat} {d : Nat} {Q : Option Value → Wm → Prop} {m : Wm} {x1 : Int32} (h : (Ct ad μX12_in d [.long x1.toInt64, .long (1 : Int64), .long (6 : Int64)] (uI m 187 17 (0 : Int32)) (fun r m1 => ∃ v2 : Int32, r = some (.int v2) ∧ ((v2 = 0 → Q (some (.int (-1 : Int32))) m1) ∧ (¬ v2 = 0 → ((¬ (m1.1 187 11) = 0 → (Ct ad μX12_hopeOf d [.ref (ad 187), .int (0 : Int32), .int x1] (uI (uI m1 187 48 (256 : Int32)) 187 49 (0 : Int32)) (fun r m3 => ∃ w4 : Int64, r = some (.long w4) ∧ (Ct ad μX12_power100 d [.int x1] (uI m3 187 16 (0 : Int32)) (fun r m5 => ∃ w6 : Int64, r = some (.long w6) ∧ (Ct ad μX12_tellPart d [.ref (ad 187), .long w4, .long w6] m5 (fun r m7 => r = none ∧ (Ct ad μX12_tell d [.ref (ad 187), .long ((m7.1 187 48).toInt64)] m7 (fun r m8 => r = none ∧ (Ct ad μX12_tell d [.ref (ad 187), .long ((m8.1 187 49).toInt64)] m8 (fun r m9 => r = none ∧ Q (some (.int (0 : Int32))) m9))))))))))) ∧ ((m1.1 187 11) = 0 → Q (some (.int (-1 : Int32))) m1))))))) : Ct ad μX12_hopes (d + 1) [.ref (ad 187), .int x1] m Q := by
  refine Ct.of (by decide +kernel) rfl (Nat.le_of_ble_eq_true rfl) ?_
  refine aw_eq (L' := [(0, .ref (ad 187)), (1, .int x1)]) ?_ rfl rfl rfl
  refine aw_aload_n (j := 0) dX12_hopes_0 rfl rfl ?_
  refine aw_iconst (v := 0) dX12_hopes_1 (by decide) ?_
  refine aw_putI dX12_hopes_2 f_X12_110 cl_X12 rfl ly_187 rfl rfl rfl ?_
  refine aw_iload_n (j := 1) dX12_hopes_5 rfl rfl ?_
  refine aw_i2l dX12_hopes_6 ?_
  refine aw_lconst (v := 1) dX12_hopes_7 (by decide) ?_
  refine aw_ldc2 dX12_hopes_8 c_X12_392 ?_
  refine aw_callS (rest := []) [.long x1.toInt64, .long (1 : Int64), .long (6 : Int64)] dX12_hopes_11 k_X12_119 rfl h (Nat.le_of_ble_eq_true rfl) (fun v m1 h => ?_)
  obtain ⟨v2, rfl, h⟩ := h
  refine aw_eq (L' := [(0, .ref (ad 187)), (1, .int x1)]) (st' := [.int v2]) (m' := m1) ?_ rfl rfl rfl
  refine aw_if_eq (tgt := 24) dX12_hopes_14 (by decide) (fun hc => ?_) (fun hc => ?_)
  · have h := h.1 hc
    refine aw_iconst (v := -1) dX12_hopes_24 (by decide) ?_
    exact aw_ret (v := some (.int (-1 : Int32))) rfl (Or.inr (Or.inl ⟨_, .int, rfl, rfl, rfl, dX12_hopes_25⟩)) h
  · have h := h.2 hc
    refine aw_aload_n (j := 0) dX12_hopes_17 rfl rfl ?_
    refine aw_getfield (c := 0) (v := .int (m1.1 187 11)) dX12_hopes_18 f_X12_184 ly_187 rfl rfl ?_
    refine aw_if_ne (tgt := 26) dX12_hopes_21 (by decide) (fun hc => ?_) (fun hc => ?_)
    · have h := h.1 hc
      refine aw_aload_n (j := 0) dX12_hopes_26 rfl rfl ?_
      refine aw_sipush (v := 256) dX12_hopes_27 (by decide) ?_
      refine aw_putI dX12_hopes_30 f_X12_397 cl_X12 rfl ly_187 rfl rfl rfl ?_
      refine aw_aload_n (j := 0) dX12_hopes_33 rfl rfl ?_
      refine aw_iconst (v := 0) dX12_hopes_34 (by decide) ?_
      refine aw_putI dX12_hopes_35 f_X12_400 cl_X12 rfl ly_187 rfl rfl rfl ?_
      refine aw_aload_n (j := 0) dX12_hopes_38 rfl rfl ?_
      refine aw_iconst (v := 0) dX12_hopes_39 (by decide) ?_
      refine aw_iload_n (j := 1) dX12_hopes_40 rfl rfl ?_
      refine aw_callV (rest := []) [.int (0 : Int32), .int x1] dX12_hopes_41 ly_187 rfl k_X12_407 rfl h (Nat.le_of_ble_eq_true rfl) (fun v m3 h => ?_)
      obtain ⟨w4, rfl, h⟩ := h
      refine aw_eq (L' := [(0, .ref (ad 187)), (1, .int x1)]) (st' := [.long w4]) (m' := m3) ?_ rfl rfl rfl
      refine aw_lstore_n (L' := [(2, .long w4), (0, .ref (ad 187)), (1, .int x1)]) dX12_hopes_44 rfl (by decide) rfl ?_
      refine aw_aload_n (j := 1) dX12_hopes_45 rfl rfl ?_
      refine aw_iconst (v := 0) dX12_hopes_46 (by decide) ?_
      refine aw_putI dX12_hopes_47 f_X12_113 cl_X12 rfl ly_187 rfl rfl rfl ?_
      refine aw_aload_n (j := 1) dX12_hopes_50 rfl rfl ?_
      refine aw_lload_n (j := 0) dX12_hopes_51 rfl rfl ?_
      refine aw_iload_n (j := 2) dX12_hopes_52 rfl rfl ?_
      refine aw_callS (rest := [.long w4, .ref (ad 187)]) [.int x1] dX12_hopes_53 k_X12_394 rfl h (Nat.le_of_ble_eq_true rfl) (fun v m5 h => ?_)
      obtain ⟨w6, rfl, h⟩ := h
      refine aw_eq (L' := [(2, .long w4), (0, .ref (ad 187)), (1, .int x1)]) (st' := [.long w6, .long w4, .ref (ad 187)]) (m' := m5) ?_ rfl rfl rfl
      refine aw_callV (rest := []) [.long w4, .long w6] dX12_hopes_56 ly_187 rfl k_X12_380 rfl h (Nat.le_of_ble_eq_true rfl) (fun v m7 h => ?_)
      obtain ⟨rfl, h⟩ := h
      refine aw_eq (L' := [(2, .long w4), (0, .ref (ad 187)), (1, .int x1)]) (st' := []) (m' := m7) ?_ rfl rfl rfl
      refine aw_aload_n (j := 1) dX12_hopes_59 rfl rfl ?_
      refine aw_aload_n (j := 1) dX12_hopes_60 rfl rfl ?_
      refine aw_getfield (c := 0) (v := .int (m7.1 187 48)) dX12_hopes_61 f_X12_397 ly_187 rfl rfl ?_
      refine aw_i2l dX12_hopes_64 ?_
      refine aw_callV (rest := []) [.long ((m7.1 187 48).toInt64)] dX12_hopes_65 ly_187 rfl k_X12_131 rfl h (Nat.le_of_ble_eq_true rfl) (fun v m8 h => ?_)
      obtain ⟨rfl, h⟩ := h
      refine aw_eq (L' := [(2, .long w4), (0, .ref (ad 187)), (1, .int x1)]) (st' := []) (m' := m8) ?_ rfl rfl rfl
      refine aw_aload_n (j := 1) dX12_hopes_68 rfl rfl ?_
      refine aw_aload_n (j := 1) dX12_hopes_69 rfl rfl ?_
      refine aw_getfield (c := 0) (v := .int (m8.1 187 49)) dX12_hopes_70 f_X12_400 ly_187 rfl rfl ?_
      refine aw_i2l dX12_hopes_73 ?_
      refine aw_callV (rest := []) [.long ((m8.1 187 49).toInt64)] dX12_hopes_74 ly_187 rfl k_X12_131 rfl h (Nat.le_of_ble_eq_true rfl) (fun v m9 h => ?_)
      obtain ⟨rfl, h⟩ := h
      refine aw_eq (L' := [(2, .long w4), (0, .ref (ad 187)), (1, .int x1)]) (st' := []) (m' := m9) ?_ rfl rfl rfl
      refine aw_iconst (v := 0) dX12_hopes_77 (by decide) ?_
      exact aw_ret (v := some (.int (0 : Int32))) rfl (Or.inr (Or.inl ⟨_, .int, rfl, rfl, rfl, dX12_hopes_78⟩)) h
    · have h := h.2 hc
      refine aw_iconst (v := -1) dX12_hopes_24 (by decide) ?_
      exact aw_ret (v := some (.int (-1 : Int32))) rfl (Or.inr (Or.inl ⟨_, .int, rfl, rfl, rfl, dX12_hopes_25⟩)) h
set_option maxRecDepth 100000 in
set_option maxHeartbeats 4000000 in
theorem v_X12_findStates {ad : Nat → Nat} {d : Nat} {Q : Option Value → Wm → Prop} {m : Wm} {x1 : Int32} (h : (Ct ad μX12_clearStates d [.ref (ad 187)] m (fun r m1 => r = none ∧ (Ct ad μX12_stateNow d [.ref (ad 187), .int (-1 : Int32), .int (0 : Int32), .int (3000 : Int32)] m1 (fun r m2 => ∃ v3 : Int32, r = some (.int v3) ∧ AW ad E0 μX12_findStates (d + 1) Q 18 [(0, .ref (ad 187)), (1, .int x1), (2, .int (1 : Int32)), (3, .int (0 : Int32))] [] m2))))) : Ct ad μX12_findStates (d + 1) [.ref (ad 187), .int x1] m Q := by
  refine Ct.of (by decide +kernel) rfl (Nat.le_of_ble_eq_true rfl) ?_
  refine aw_eq (L' := [(0, .ref (ad 187)), (1, .int x1)]) ?_ rfl rfl rfl
  refine aw_aload_n (j := 0) dX12_findStates_0 rfl rfl ?_
  refine aw_callV (rest := []) [] dX12_findStates_1 ly_187 rfl k_X12_356 rfl h (Nat.le_of_ble_eq_true rfl) (fun v m1 h => ?_)
  obtain ⟨rfl, h⟩ := h
  refine aw_eq (L' := [(0, .ref (ad 187)), (1, .int x1)]) (st' := []) (m' := m1) ?_ rfl rfl rfl
  refine aw_aload_n (j := 0) dX12_findStates_4 rfl rfl ?_
  refine aw_iconst (v := -1) dX12_findStates_5 (by decide) ?_
  refine aw_iconst (v := 0) dX12_findStates_6 (by decide) ?_
  refine aw_sipush (v := 3000) dX12_findStates_7 (by decide) ?_
  refine aw_callV (rest := []) [.int (-1 : Int32), .int (0 : Int32), .int (3000 : Int32)] dX12_findStates_10 ly_187 rfl k_X12_359 rfl h (Nat.le_of_ble_eq_true rfl) (fun v m2 h => ?_)
  obtain ⟨v3, rfl, h⟩ := h
  refine aw_eq (L' := [(0, .ref (ad 187)), (1, .int x1)]) (st' := [.int v3]) (m' := m2) ?_ rfl rfl rfl
  refine aw_pop dX12_findStates_13 rfl ?_
  refine aw_iconst (v := 1) dX12_findStates_14 (by decide) ?_
  refine aw_istore_n (L' := [(2, .int (1 : Int32)), (0, .ref (ad 187)), (1, .int x1)]) dX12_findStates_15 rfl (by decide) rfl ?_
  refine aw_iconst (v := 0) dX12_findStates_16 (by decide) ?_
  refine aw_istore_n (L' := [(3, .int (0 : Int32)), (2, .int (1 : Int32)), (0, .ref (ad 187)), (1, .int x1)]) dX12_findStates_17 rfl (by decide) rfl ?_
  exact aw_sub [2, 3, 1, 0] rfl h
set_option maxRecDepth 100000 in
set_option maxHeartbeats 4000000 in
theorem g_X12_findStates_18 {ad : Nat → Nat} {d : Nat} {Q : Option Value → Wm → Prop} {m : Wm} {x1 x2 x3 : Int32} (h : (((m.1 187 43) ≤ x3 → AW ad E0 μX12_findStates (d + 1) Q 154 [(0, .ref (ad 187)), (2, .int x2)] [] m) ∧ (¬ (m.1 187 43) ≤ x3 → ((x2 = 0 → AW ad E0 μX12_findStates (d + 1) Q 154 [(0, .ref (ad 187)), (2, .int x2)] [] m) ∧ (¬ x2 = 0 → (vp_in x3 3000 ∧ ((¬ (m.1 207 x3.toNatClampNeg) = x1 → AW ad E0 μX12_findStates (d + 1) Q 46 [(0, .ref (ad 187)), (1, .int x1), (2, .int x2), (3, .int x3), (4, .int (0 : Int32))] [] m) ∧ ((m.1 207 x3.toNatClampNeg) = x1 → AW ad E0 μX12_findStates (d + 1) Q 18 [(0, .ref (ad 187)), (1, .int x1), (2, .int x2), (3, .int (x3 + (1 : Int32)))] [] m)))))))) : AW ad E0 μX12_findStates (d + 1) Q 18 [(0, .ref (ad 187)), (1, .int x1), (2, .int x2), (3, .int x3)] [] m := by
  refine aw_iload_n (j := 3) dX12_findStates_18 rfl rfl ?_
  refine aw_aload_n (j := 0) dX12_findStates_19 rfl rfl ?_
  refine aw_getfield (c := 0) (v := .int (m.1 187 43)) dX12_findStates_20 f_X12_341 ly_187 rfl rfl ?_
  refine aw_icmp_ge (tgt := 154) dX12_findStates_23 (by decide) (fun hc => ?_) (fun hc => ?_)
  · have h := h.1 hc
    exact aw_sub [0, 2] rfl h
  · have h := h.2 hc
    refine aw_iload_n (j := 2) dX12_findStates_26 rfl rfl ?_
    refine aw_if_eq (tgt := 154) dX12_findStates_27 (by decide) (fun hc => ?_) (fun hc => ?_)
    · have h := h.1 hc
      exact aw_sub [0, 2] rfl h
    · have h := h.2 hc
      refine aw_aload_n (j := 0) dX12_findStates_30 rfl rfl ?_
      refine aw_getfield (c := 210) (v := .ref (ad 207)) dX12_findStates_31 f_X12_80 ly_187 rfl rfl ?_
      refine aw_iload_n (j := 3) dX12_findStates_34 rfl rfl ?_
      obtain ⟨hi, h⟩ := h
      refine aw_iaload dX12_findStates_35 ly_207 hi ?_
      refine aw_iload_n (j := 1) dX12_findStates_36 rfl rfl ?_
      refine aw_icmp_ne (tgt := 43) dX12_findStates_37 (by decide) (fun hc => ?_) (fun hc => ?_)
      · have h := h.1 hc
        refine aw_iconst (v := 0) dX12_findStates_43 (by decide) ?_
        refine aw_istore (L' := [(4, .int (0 : Int32)), (0, .ref (ad 187)), (1, .int x1), (2, .int x2), (3, .int x3)]) dX12_findStates_44 (by decide) rfl ?_
        exact aw_sub [1, 2, 3, 4, 0] rfl h
      · have h := h.2 hc
        refine aw_goto (tgt := 148) dX12_findStates_40 (by decide) ?_
        refine aw_iinc (j := 3) (v := x3 + (1 : Int32)) (L' := [(3, .int (x3 + (1 : Int32))), (0, .ref (ad 187)), (1, .int x1), (2, .int x2)]) dX12_findStates_148 rfl rfl (by decide) rfl ?_
        refine aw_goto (tgt := 18) dX12_findStates_151 (by decide) ?_
        exact aw_sub [1, 2, 3, 0] rfl h
set_option maxRecDepth 100000 in
set_option maxHeartbeats 4000000 in
theorem g_X12_findStates_46 {ad : Nat → Nat} {d : Nat} {Q : Option Value → Wm → Prop} {m : Wm} {x1 x2 x3 x4 : Int32} (h : (((3 : Int32) ≤ x4 → AW ad E0 μX12_findStates (d + 1) Q 18 [(0, .ref (ad 187)), (1, .int x1), (2, .int x2), (3, .int (x3 + (1 : Int32)))] [] m) ∧ (¬ (3 : Int32) ≤ x4 → AW ad E0 μX12_findStates (d + 1) Q 55 [(0, .ref (ad 187)), (1, .int x1), (2, .int x2), (3, .int x3), (4, .int x4), (5, .int (0 : Int32))] [] m))) : AW ad E0 μX12_findStates (d + 1) Q 46 [(0, .ref (ad 187)), (1, .int x1), (2, .int x2), (3, .int x3), (4, .int x4)] [] m := by
  refine aw_iload (j := 4) dX12_findStates_46 rfl ?_
  refine aw_iconst (v := 3) dX12_findStates_48 (by decide) ?_
  refine aw_icmp_ge (tgt := 148) dX12_findStates_49 (by decide) (fun hc => ?_) (fun hc => ?_)
  · have h := h.1 hc
    refine aw_iinc (j := 3) (v := x3 + (1 : Int32)) (L' := [(3, .int (x3 + (1 : Int32))), (0, .ref (ad 187)), (1, .int x1), (2, .int x2), (4, .int x4)]) dX12_findStates_148 rfl rfl (by decide) rfl ?_
    refine aw_goto (tgt := 18) dX12_findStates_151 (by decide) ?_
    exact aw_sub [1, 2, 3, 0] rfl h
  · have h := h.2 hc
    refine aw_iconst (v := 0) dX12_findStates_52 (by decide) ?_
    refine aw_istore (L' := [(5, .int (0 : Int32)), (0, .ref (ad 187)), (1, .int x1), (2, .int x2), (3, .int x3), (4, .int x4)]) dX12_findStates_53 (by decide) rfl ?_
    exact aw_sub [1, 2, 3, 4, 5, 0] rfl h
set_option maxRecDepth 100000 in
set_option maxHeartbeats 4000000 in
theorem g_X12_findStates_55 {ad : Nat → Nat} {d : Nat} {Q : Option Value → Wm → Prop} {m : Wm} {x1 x2 x3 x4 x5 : Int32} (h : (((m.1 187 1) ≤ x5 → AW ad E0 μX12_findStates (d + 1) Q 46 [(0, .ref (ad 187)), (1, .int x1), (2, .int x2), (3, .int x3), (4, .int (x4 + (1 : Int32)))] [] m) ∧ (¬ (m.1 187 1) ≤ x5 → AW ad E0 μX12_findStates (d + 1) Q 70 [(0, .ref (ad 187)), (1, .int x1), (2, .int x2), (3, .int x3), (4, .int x4), (5, .int x5), (6, .int (x5 + (1 : Int32)))] [] m))) : AW ad E0 μX12_findStates (d + 1) Q 55 [(0, .ref (ad 187)), (1, .int x1), (2, .int x2), (3, .int x3), (4, .int x4), (5, .int x5)] [] m := by
  refine aw_iload (j := 5) dX12_findStates_55 rfl ?_
  refine aw_aload_n (j := 0) dX12_findStates_57 rfl rfl ?_
  refine aw_getfield (c := 0) (v := .int (m.1 187 1)) dX12_findStates_58 f_X12_116 ly_187 rfl rfl ?_
  refine aw_icmp_ge (tgt := 142) dX12_findStates_61 (by decide) (fun hc => ?_) (fun hc => ?_)
  · have h := h.1 hc
    refine aw_iinc (j := 4) (v := x4 + (1 : Int32)) (L' := [(4, .int (x4 + (1 : Int32))), (0, .ref (ad 187)), (1, .int x1), (2, .int x2), (3, .int x3), (5, .int x5)]) dX12_findStates_142 rfl rfl (by decide) rfl ?_
    refine aw_goto (tgt := 46) dX12_findStates_145 (by decide) ?_
    exact aw_sub [1, 2, 3, 4, 0] rfl h
  · have h := h.2 hc
    refine aw_iload (j := 5) dX12_findStates_64 rfl ?_
    refine aw_iconst (v := 1) dX12_findStates_66 (by decide) ?_
    refine aw_iadd dX12_findStates_67 ?_
    refine aw_istore (L' := [(6, .int (x5 + (1 : Int32))), (0, .ref (ad 187)), (1, .int x1), (2, .int x2), (3, .int x3), (4, .int x4), (5, .int x5)]) dX12_findStates_68 (by decide) rfl ?_
    exact aw_sub [1, 2, 3, 4, 5, 6, 0] rfl h
set_option maxRecDepth 100000 in
set_option maxHeartbeats 4000000 in
theorem g_X12_findStates_70 {ad : Nat → Nat} {d : Nat} {Q : Option Value → Wm → Prop} {m : Wm} {x1 x2 x3 x4 x5 x6 : Int32} (h : (((m.1 187 1) ≤ x6 → AW ad E0 μX12_findStates (d + 1) Q 55 [(0, .ref (ad 187)), (1, .int x1), (2, .int x2), (3, .int x3), (4, .int x4), (5, .int (x5 + (1 : Int32)))] [] m) ∧ (¬ (m.1 187 1) ≤ x6 → ((x2 = 0 → AW ad E0 μX12_findStates (d + 1) Q 55 [(0, .ref (ad 187)), (1, .int x1), (2, .int x2), (3, .int x3), (4, .int x4), (5, .int (x5 + (1 : Int32)))] [] m) ∧ (¬ x2 = 0 → (Ct ad μX12_load d [.ref (ad 187), .int x3] m (fun r m1 => r = none ∧ (Ct ad μX12_goQuiet d [.ref (ad 187), .int x5, .int x6, .int x4] m1 (fun r m2 => r = none ∧ (Ct ad μX12_stateNow d [.ref (ad 187), .int x3, .int ((((100 : Int32) * x4) + ((10 : Int32) * x5)) + x6), .int (3000 : Int32)] m2 (fun r m3 => ∃ v4 : Int32, r = some (.int v4) ∧ ((v4 = (-1 : Int32) → AW ad E0 μX12_findStates (d + 1) Q 70 [(0, .ref (ad 187)), (1, .int x1), (2, .int (0 : Int32)), (3, .int x3), (4, .int x4), (5, .int x5), (6, .int (x6 + (1 : Int32)))] [] m3) ∧ (¬ v4 = (-1 : Int32) → AW ad E0 μX12_findStates (d + 1) Q 70 [(0, .ref (ad 187)), (1, .int x1), (2, .int (1 : Int32)), (3, .int x3), (4, .int x4), (5, .int x5), (6, .int (x6 + (1 : Int32)))] [] m3))))))))))))) : AW ad E0 μX12_findStates (d + 1) Q 70 [(0, .ref (ad 187)), (1, .int x1), (2, .int x2), (3, .int x3), (4, .int x4), (5, .int x5), (6, .int x6)] [] m := by
  refine aw_iload (j := 6) dX12_findStates_70 rfl ?_
  refine aw_aload_n (j := 0) dX12_findStates_72 rfl rfl ?_
  refine aw_getfield (c := 0) (v := .int (m.1 187 1)) dX12_findStates_73 f_X12_116 ly_187 rfl rfl ?_
  refine aw_icmp_ge (tgt := 136) dX12_findStates_76 (by decide) (fun hc => ?_) (fun hc => ?_)
  · have h := h.1 hc
    refine aw_iinc (j := 5) (v := x5 + (1 : Int32)) (L' := [(5, .int (x5 + (1 : Int32))), (0, .ref (ad 187)), (1, .int x1), (2, .int x2), (3, .int x3), (4, .int x4), (6, .int x6)]) dX12_findStates_136 rfl rfl (by decide) rfl ?_
    refine aw_goto (tgt := 55) dX12_findStates_139 (by decide) ?_
    exact aw_sub [1, 2, 3, 4, 5, 0] rfl h
  · have h := h.2 hc
    refine aw_iload_n (j := 2) dX12_findStates_79 rfl rfl ?_
    refine aw_if_eq (tgt := 136) dX12_findStates_80 (by decide) (fun hc => ?_) (fun hc => ?_)
    · have h := h.1 hc
      refine aw_iinc (j := 5) (v := x5 + (1 : Int32)) (L' := [(5, .int (x5 + (1 : Int32))), (0, .ref (ad 187)), (1, .int x1), (2, .int x2), (3, .int x3), (4, .int x4), (6, .int x6)]) dX12_findStates_136 rfl rfl (by decide) rfl ?_
      refine aw_goto (tgt := 55) dX12_findStates_139 (by decide) ?_
      exact aw_sub [1, 2, 3, 4, 5, 0] rfl h
    · have h := h.2 hc
      refine aw_aload_n (j := 0) dX12_findStates_83 rfl rfl ?_
      refine aw_iload_n (j := 3) dX12_findStates_84 rfl rfl ?_
      refine aw_callV (rest := []) [.int x3] dX12_findStates_85 ly_187 rfl k_X12_374 rfl h (Nat.le_of_ble_eq_true rfl) (fun v m1 h => ?_)
      obtain ⟨rfl, h⟩ := h
      refine aw_eq (L' := [(0, .ref (ad 187)), (1, .int x1), (2, .int x2), (3, .int x3), (4, .int x4), (5, .int x5), (6, .int x6)]) (st' := []) (m' := m1) ?_ rfl rfl rfl
      refine aw_aload_n (j := 0) dX12_findStates_88 rfl rfl ?_
      refine aw_iload (j := 5) dX12_findStates_89 rfl ?_
      refine aw_iload (j := 6) dX12_findStates_91 rfl ?_
      refine aw_iload (j := 4) dX12_findStates_93 rfl ?_
      refine aw_callV (rest := []) [.int x5, .int x6, .int x4] dX12_findStates_95 ly_187 rfl k_X12_352 rfl h (Nat.le_of_ble_eq_true rfl) (fun v m2 h => ?_)
      obtain ⟨rfl, h⟩ := h
      refine aw_eq (L' := [(0, .ref (ad 187)), (1, .int x1), (2, .int x2), (3, .int x3), (4, .int x4), (5, .int x5), (6, .int x6)]) (st' := []) (m' := m2) ?_ rfl rfl rfl
      refine aw_aload_n (j := 0) dX12_findStates_98 rfl rfl ?_
      refine aw_iload_n (j := 3) dX12_findStates_99 rfl rfl ?_
      refine aw_bipush (v := 100) dX12_findStates_100 (by decide) ?_
      refine aw_iload (j := 4) dX12_findStates_102 rfl ?_
      refine aw_imul dX12_findStates_104 ?_
      refine aw_bipush (v := 10) dX12_findStates_105 (by decide) ?_
      refine aw_iload (j := 5) dX12_findStates_107 rfl ?_
      refine aw_imul dX12_findStates_109 ?_
      refine aw_iadd dX12_findStates_110 ?_
      refine aw_iload (j := 6) dX12_findStates_111 rfl ?_
      refine aw_iadd dX12_findStates_113 ?_
      refine aw_sipush (v := 3000) dX12_findStates_114 (by decide) ?_
      refine aw_callV (rest := []) [.int x3, .int ((((100 : Int32) * x4) + ((10 : Int32) * x5)) + x6), .int (3000 : Int32)] dX12_findStates_117 ly_187 rfl k_X12_359 rfl h (Nat.le_of_ble_eq_true rfl) (fun v m3 h => ?_)
      obtain ⟨v4, rfl, h⟩ := h
      refine aw_eq (L' := [(0, .ref (ad 187)), (1, .int x1), (2, .int x2), (3, .int x3), (4, .int x4), (5, .int x5), (6, .int x6)]) (st' := [.int v4]) (m' := m3) ?_ rfl rfl rfl
      refine aw_iconst (v := -1) dX12_findStates_120 (by decide) ?_
      refine aw_icmp_eq (tgt := 128) dX12_findStates_121 (by decide) (fun hc => ?_) (fun hc => ?_)
      · have h := h.1 hc
        refine aw_iconst (v := 0) dX12_findStates_128 (by decide) ?_
        refine aw_istore_n (L' := [(2, .int (0 : Int32)), (0, .ref (ad 187)), (1, .int x1), (3, .int x3), (4, .int x4), (5, .int x5), (6, .int x6)]) dX12_findStates_129 rfl (by decide) rfl ?_
        refine aw_iinc (j := 6) (v := x6 + (1 : Int32)) (L' := [(6, .int (x6 + (1 : Int32))), (2, .int (0 : Int32)), (0, .ref (ad 187)), (1, .int x1), (3, .int x3), (4, .int x4), (5, .int x5)]) dX12_findStates_130 rfl rfl (by decide) rfl ?_
        refine aw_goto (tgt := 70) dX12_findStates_133 (by decide) ?_
        exact aw_sub [2, 3, 1, 4, 5, 6, 0] rfl h
      · have h := h.2 hc
        refine aw_iconst (v := 1) dX12_findStates_124 (by decide) ?_
        refine aw_goto (tgt := 129) dX12_findStates_125 (by decide) ?_
        refine aw_istore_n (L' := [(2, .int (1 : Int32)), (0, .ref (ad 187)), (1, .int x1), (3, .int x3), (4, .int x4), (5, .int x5), (6, .int x6)]) dX12_findStates_129 rfl (by decide) rfl ?_
        refine aw_iinc (j := 6) (v := x6 + (1 : Int32)) (L' := [(6, .int (x6 + (1 : Int32))), (2, .int (1 : Int32)), (0, .ref (ad 187)), (1, .int x1), (3, .int x3), (4, .int x4), (5, .int x5)]) dX12_findStates_130 rfl rfl (by decide) rfl ?_
        refine aw_goto (tgt := 70) dX12_findStates_133 (by decide) ?_
        exact aw_sub [2, 3, 1, 4, 5, 6, 0] rfl h
set_option maxRecDepth 100000 in
set_option maxHeartbeats 4000000 in
theorem g_X12_findStates_154 {ad : Nat → Nat} {d : Nat} {Q : Option Value → Wm → Prop} {m : Wm} {x2 : Int32} (h : (Ct ad μX12_bring d [.ref (ad 187), .ref (ad 204), .int (0 : Int32)] m (fun r m1 => r = none ∧ (bz x2 ∧ Q (some (.int x2)) m1)))) : AW ad E0 μX12_findStates (d + 1) Q 154 [(0, .ref (ad 187)), (2, .int x2)] [] m := by
  refine aw_aload_n (j := 0) dX12_findStates_154 rfl rfl ?_
  refine aw_aload_n (j := 0) dX12_findStates_155 rfl rfl ?_
  refine aw_getfield (c := 207) (v := .ref (ad 204)) dX12_findStates_156 f_X12_71 ly_187 rfl rfl ?_
  refine aw_iconst (v := 0) dX12_findStates_159 (by decide) ?_
  refine aw_callV (rest := []) [.ref (ad 204), .int (0 : Int32)] dX12_findStates_160 ly_187 rfl k_X12_302 rfl h (Nat.le_of_ble_eq_true rfl) (fun v m1 h => ?_)
  obtain ⟨rfl, h⟩ := h
  refine aw_eq (L' := [(0, .ref (ad 187)), (2, .int x2)]) (st' := []) (m' := m1) ?_ rfl rfl rfl
  refine aw_iload_n (j := 1) dX12_findStates_163 rfl rfl ?_
  exact aw_ret (v := some (.int x2)) rfl (Or.inr (Or.inl ⟨_, .boolean, rfl, rfl, h.1.n, dX12_findStates_164⟩)) h.2
set_option maxRecDepth 100000 in
set_option maxHeartbeats 4000000 in
theorem v_X12_tellWay {ad : Nat → Nat} {d : Nat} {Q : Option Value → Wm → Prop} {m : Wm} {x1 : Int32} (h : (vp_in x1 3000 ∧ AW ad E0 μX12_tellWay (d + 1) Q 14 [(0, .ref (ad 187)), (2, .int (m.1 207 x1.toNatClampNeg)), (3, .int x1), (4, .int ((m.1 207 x1.toNatClampNeg) - (1 : Int32)))] [] m)) : Ct ad μX12_tellWay (d + 1) [.ref (ad 187), .int x1] m Q := by
  refine Ct.of (by decide +kernel) rfl (Nat.le_of_ble_eq_true rfl) ?_
  refine aw_eq (L' := [(0, .ref (ad 187)), (1, .int x1)]) ?_ rfl rfl rfl
  refine aw_aload_n (j := 0) dX12_tellWay_0 rfl rfl ?_
  refine aw_getfield (c := 210) (v := .ref (ad 207)) dX12_tellWay_1 f_X12_80 ly_187 rfl rfl ?_
  refine aw_iload_n (j := 1) dX12_tellWay_4 rfl rfl ?_
  obtain ⟨hi, h⟩ := h
  refine aw_iaload dX12_tellWay_5 ly_207 hi ?_
  refine aw_istore_n (L' := [(2, .int (m.1 207 x1.toNatClampNeg)), (0, .ref (ad 187)), (1, .int x1)]) dX12_tellWay_6 rfl (by decide) rfl ?_
  refine aw_iload_n (j := 2) dX12_tellWay_7 rfl rfl ?_
  refine aw_istore_n (L' := [(3, .int x1), (2, .int (m.1 207 x1.toNatClampNeg)), (0, .ref (ad 187)), (1, .int x1)]) dX12_tellWay_8 rfl (by decide) rfl ?_
  refine aw_iload_n (j := 1) dX12_tellWay_9 rfl rfl ?_
  refine aw_iconst (v := 1) dX12_tellWay_10 (by decide) ?_
  refine aw_isub dX12_tellWay_11 ?_
  refine aw_istore (L' := [(4, .int ((m.1 207 x1.toNatClampNeg) - (1 : Int32))), (3, .int x1), (2, .int (m.1 207 x1.toNatClampNeg)), (0, .ref (ad 187)), (1, .int x1)]) dX12_tellWay_12 (by decide) rfl ?_
  exact aw_sub [3, 2, 1, 0] rfl h
set_option maxRecDepth 100000 in
set_option maxHeartbeats 4000000 in
theorem g_X12_tellWay_14 {ad : Nat → Nat} {d : Nat} {Q : Option Value → Wm → Prop} {m : Wm} {x2 x3 x4 : Int32} (h : ((x4 < 0 → AW ad E0 μX12_tellWay (d + 1) Q 53 [(0, .ref (ad 187)), (2, .int x2), (4, .int (0 : Int32))] [] (uI m 187 16 (0 : Int32))) ∧ (¬ x4 < 0 → (vp_in x3 3000 ∧ (vp_in x4 3000 ∧ (vp_in x3 3000 ∧ AW ad E0 μX12_tellWay (d + 1) Q 14 [(0, .ref (ad 187)), (2, .int x2), (3, .int ((uI m 212 x4.toNatClampNeg (m.1 209 x3.toNatClampNeg)).1 208 x3.toNatClampNeg)), (4, .int (x4 + (-1 : Int32)))] [] (uI m 212 x4.toNatClampNeg (m.1 209 x3.toNatClampNeg)))))))) : AW ad E0 μX12_tellWay (d + 1) Q 14 [(0, .ref (ad 187)), (2, .int x2), (3, .int x3), (4, .int x4)] [] m := by
  refine aw_iload (j := 3) dX12_tellWay_14 rfl ?_
  refine aw_if_lt (tgt := 45) dX12_tellWay_16 (by decide) (fun hc => ?_) (fun hc => ?_)
  · have h := h.1 hc
    refine aw_aload_n (j := 0) dX12_tellWay_45 rfl rfl ?_
    refine aw_iconst (v := 0) dX12_tellWay_46 (by decide) ?_
    refine aw_putI dX12_tellWay_47 f_X12_113 cl_X12 rfl ly_187 rfl rfl rfl ?_
    refine aw_iconst (v := 0) dX12_tellWay_50 (by decide) ?_
    refine aw_istore (L' := [(4, .int (0 : Int32)), (0, .ref (ad 187)), (2, .int x2), (3, .int x3)]) dX12_tellWay_51 (by decide) rfl ?_
    exact aw_sub [1, 2, 0] rfl h
  · have h := h.2 hc
    refine aw_aload_n (j := 0) dX12_tellWay_19 rfl rfl ?_
    refine aw_getfield (c := 215) (v := .ref (ad 212)) dX12_tellWay_20 f_X12_95 ly_187 rfl rfl ?_
    refine aw_iload (j := 3) dX12_tellWay_23 rfl ?_
    refine aw_aload_n (j := 0) dX12_tellWay_25 rfl rfl ?_
    refine aw_getfield (c := 212) (v := .ref (ad 209)) dX12_tellWay_26 f_X12_86 ly_187 rfl rfl ?_
    refine aw_iload_n (j := 2) dX12_tellWay_29 rfl rfl ?_
    obtain ⟨hi, h⟩ := h
    refine aw_iaload dX12_tellWay_30 ly_209 hi ?_
    obtain ⟨hi, h⟩ := h
    refine aw_iastore dX12_tellWay_31 ly_212 hi ?_
    refine aw_aload_n (j := 0) dX12_tellWay_32 rfl rfl ?_
    refine aw_getfield (c := 211) (v := .ref (ad 208)) dX12_tellWay_33 f_X12_83 ly_187 rfl rfl ?_
    refine aw_iload_n (j := 2) dX12_tellWay_36 rfl rfl ?_
    obtain ⟨hi, h⟩ := h
    refine aw_iaload dX12_tellWay_37 ly_208 hi ?_
    refine aw_istore_n (L' := [(3, .int ((uI m 212 x4.toNatClampNeg (m.1 209 x3.toNatClampNeg)).1 208 x3.toNatClampNeg)), (0, .ref (ad 187)), (2, .int x2), (4, .int x4)]) dX12_tellWay_38 rfl (by decide) rfl ?_
    refine aw_iinc (j := 3) (v := x4 + (-1 : Int32)) (L' := [(4, .int (x4 + (-1 : Int32))), (3, .int ((uI m 212 x4.toNatClampNeg (m.1 209 x3.toNatClampNeg)).1 208 x3.toNatClampNeg)), (0, .ref (ad 187)), (2, .int x2)]) dX12_tellWay_39 rfl rfl (by decide) rfl ?_
    refine aw_goto (tgt := 14) dX12_tellWay_42 (by decide) ?_
    exact aw_sub [2, 3, 1, 0] rfl h
set_option maxRecDepth 100000 in
set_option maxHeartbeats 4000000 in
theorem g_X12_tellWay_53 {ad : Nat → Nat} {d : Nat} {Q : Option Value → Wm → Prop} {m : Wm} {x2 x4 : Int32} (h : ((x2 ≤ x4 → Q (some (.int x2)) m) ∧ (¬ x2 ≤ x4 → (((10 : Int32) ≤ x4 → Q (some (.int x2)) m) ∧ (¬ (10 : Int32) ≤ x4 → (vp_in x4 3000 ∧ (Ct ad μX12_tell d [.ref (ad 187), .long ((m.1 212 x4.toNatClampNeg).toInt64)] m (fun r m1 => r = none ∧ AW ad E0 μX12_tellWay (d + 1) Q 53 [(0, .ref (ad 187)), (2, .int x2), (4, .int (x4 + (1 : Int32)))] [] m1)))))))) : AW ad E0 μX12_tellWay (d + 1) Q 53 [(0, .ref (ad 187)), (2, .int x2), (4, .int x4)] [] m := by
  refine aw_iload (j := 2) dX12_tellWay_53 rfl ?_
  refine aw_iload_n (j := 1) dX12_tellWay_55 rfl rfl ?_
  refine aw_icmp_ge (tgt := 84) dX12_tellWay_56 (by decide) (fun hc => ?_) (fun hc => ?_)
  · have h := h.1 hc
    refine aw_iload_n (j := 1) dX12_tellWay_84 rfl rfl ?_
    exact aw_ret (v := some (.int x2)) rfl (Or.inr (Or.inl ⟨_, .int, rfl, rfl, rfl, dX12_tellWay_85⟩)) h
  · have h := h.2 hc
    refine aw_iload (j := 2) dX12_tellWay_59 rfl ?_
    refine aw_bipush (v := 10) dX12_tellWay_61 (by decide) ?_
    refine aw_icmp_ge (tgt := 84) dX12_tellWay_63 (by decide) (fun hc => ?_) (fun hc => ?_)
    · have h := h.1 hc
      refine aw_iload_n (j := 1) dX12_tellWay_84 rfl rfl ?_
      exact aw_ret (v := some (.int x2)) rfl (Or.inr (Or.inl ⟨_, .int, rfl, rfl, rfl, dX12_tellWay_85⟩)) h
    · have h := h.2 hc
      refine aw_aload_n (j := 0) dX12_tellWay_66 rfl rfl ?_
      refine aw_aload_n (j := 0) dX12_tellWay_67 rfl rfl ?_
      refine aw_getfield (c := 215) (v := .ref (ad 212)) dX12_tellWay_68 f_X12_95 ly_187 rfl rfl ?_
      refine aw_iload (j := 2) dX12_tellWay_71 rfl ?_
      obtain ⟨hi, h⟩ := h
      refine aw_iaload dX12_tellWay_73 ly_212 hi ?_
      refine aw_i2l dX12_tellWay_74 ?_
      refine aw_callV (rest := []) [.long ((m.1 212 x4.toNatClampNeg).toInt64)] dX12_tellWay_75 ly_187 rfl k_X12_131 rfl h (Nat.le_of_ble_eq_true rfl) (fun v m1 h => ?_)
      obtain ⟨rfl, h⟩ := h
      refine aw_eq (L' := [(0, .ref (ad 187)), (2, .int x2), (4, .int x4)]) (st' := []) (m' := m1) ?_ rfl rfl rfl
      refine aw_iinc (j := 2) (v := x4 + (1 : Int32)) (L' := [(4, .int (x4 + (1 : Int32))), (0, .ref (ad 187)), (2, .int x2)]) dX12_tellWay_78 rfl rfl (by decide) rfl ?_
      refine aw_goto (tgt := 53) dX12_tellWay_81 (by decide) ?_
      exact aw_sub [1, 2, 0] rfl h
set_option maxRecDepth 100000 in
set_option maxHeartbeats 4000000 in
theorem v_X12_top {ad : Nat → Nat} {d : Nat} {Q : Option Value → Wm → Prop} {m : Wm} {x1 x2 x3 : Int32} (h : (Ct ad μX12_isSide d [.ref (ad 187), .int x1] (uI m 187 17 (0 : Int32)) (fun r m1 => ∃ v2 : Int32, r = some (.int v2) ∧ ((v2 = 0 → Q (some (.int (-1 : Int32))) m1) ∧ (¬ v2 = 0 → (Ct ad μX12_isArt d [.ref (ad 187), .int x2] m1 (fun r m3 => ∃ v4 : Int32, r = some (.int v4) ∧ ((v4 = 0 → Q (some (.int (-1 : Int32))) m3) ∧ (¬ v4 = 0 → (Ct ad μX12_in d [.long x3.toInt64, .long (0 : Int64), .long (7 : Int64)] m3 (fun r m5 => ∃ v6 : Int32, r = some (.int v6) ∧ ((¬ v6 = 0 → (Ct ad μX12_findStates d [.ref (ad 187), .int (3000 : Int32)] m5 (fun r m7 => ∃ v8 : Int32, r = some (.int v8) ∧ ((¬ v8 = 0 → AW ad E0 μX12_top (d + 1) Q 51 [(0, .ref (ad 187)), (1, .int x1), (2, .int x2), (3, .int x3), (4, .int (0 : Int32))] [] m7) ∧ (v8 = 0 → Q (some (.int (-3 : Int32))) m7))))) ∧ (v6 = 0 → Q (some (.int (-1 : Int32))) m5))))))))))))) : Ct ad μX12_top (d + 1) [.ref (ad 187), .int x1, .int x2, .int x3] m Q := by
  refine Ct.of (by decide +kernel) rfl (Nat.le_of_ble_eq_true rfl) ?_
  refine aw_eq (L' := [(0, .ref (ad 187)), (1, .int x1), (2, .int x2), (3, .int x3)]) ?_ rfl rfl rfl
  refine aw_aload_n (j := 0) dX12_top_0 rfl rfl ?_
  refine aw_iconst (v := 0) dX12_top_1 (by decide) ?_
  refine aw_putI dX12_top_2 f_X12_110 cl_X12 rfl ly_187 rfl rfl rfl ?_
  refine aw_aload_n (j := 0) dX12_top_5 rfl rfl ?_
  refine aw_iload_n (j := 1) dX12_top_6 rfl rfl ?_
  refine aw_callV (rest := []) [.int x1] dX12_top_7 ly_187 rfl k_X12_123 rfl h (Nat.le_of_ble_eq_true rfl) (fun v m1 h => ?_)
  obtain ⟨v2, rfl, h⟩ := h
  refine aw_eq (L' := [(0, .ref (ad 187)), (1, .int x1), (2, .int x2), (3, .int x3)]) (st' := [.int v2]) (m' := m1) ?_ rfl rfl rfl
  refine aw_if_eq (tgt := 33) dX12_top_10 (by decide) (fun hc => ?_) (fun hc => ?_)
  · have h := h.1 hc
    refine aw_iconst (v := -1) dX12_top_33 (by decide) ?_
    exact aw_ret (v := some (.int (-1 : Int32))) rfl (Or.inr (Or.inl ⟨_, .int, rfl, rfl, rfl, dX12_top_34⟩)) h
  · have h := h.2 hc
    refine aw_aload_n (j := 0) dX12_top_13 rfl rfl ?_
    refine aw_iload_n (j := 2) dX12_top_14 rfl rfl ?_
    refine aw_callV (rest := []) [.int x2] dX12_top_15 ly_187 rfl k_X12_244 rfl h (Nat.le_of_ble_eq_true rfl) (fun v m3 h => ?_)
    obtain ⟨v4, rfl, h⟩ := h
    refine aw_eq (L' := [(0, .ref (ad 187)), (1, .int x1), (2, .int x2), (3, .int x3)]) (st' := [.int v4]) (m' := m3) ?_ rfl rfl rfl
    refine aw_if_eq (tgt := 33) dX12_top_18 (by decide) (fun hc => ?_) (fun hc => ?_)
    · have h := h.1 hc
      refine aw_iconst (v := -1) dX12_top_33 (by decide) ?_
      exact aw_ret (v := some (.int (-1 : Int32))) rfl (Or.inr (Or.inl ⟨_, .int, rfl, rfl, rfl, dX12_top_34⟩)) h
    · have h := h.2 hc
      refine aw_iload_n (j := 3) dX12_top_21 rfl rfl ?_
      refine aw_i2l dX12_top_22 ?_
      refine aw_lconst (v := 0) dX12_top_23 (by decide) ?_
      refine aw_ldc2 dX12_top_24 c_X12_335 ?_
      refine aw_callS (rest := []) [.long x3.toInt64, .long (0 : Int64), .long (7 : Int64)] dX12_top_27 k_X12_119 rfl h (Nat.le_of_ble_eq_true rfl) (fun v m5 h => ?_)
      obtain ⟨v6, rfl, h⟩ := h
      refine aw_eq (L' := [(0, .ref (ad 187)), (1, .int x1), (2, .int x2), (3, .int x3)]) (st' := [.int v6]) (m' := m5) ?_ rfl rfl rfl
      refine aw_if_ne (tgt := 35) dX12_top_30 (by decide) (fun hc => ?_) (fun hc => ?_)
      · have h := h.1 hc
        refine aw_aload_n (j := 0) dX12_top_35 rfl rfl ?_
        refine aw_sipush (v := 3000) dX12_top_36 (by decide) ?_
        refine aw_callV (rest := []) [.int (3000 : Int32)] dX12_top_39 ly_187 rfl k_X12_411 rfl h (Nat.le_of_ble_eq_true rfl) (fun v m7 h => ?_)
        obtain ⟨v8, rfl, h⟩ := h
        refine aw_eq (L' := [(0, .ref (ad 187)), (1, .int x1), (2, .int x2), (3, .int x3)]) (st' := [.int v8]) (m' := m7) ?_ rfl rfl rfl
        refine aw_if_ne (tgt := 48) dX12_top_42 (by decide) (fun hc => ?_) (fun hc => ?_)
        · have h := h.1 hc
          refine aw_iconst (v := 0) dX12_top_48 (by decide) ?_
          refine aw_istore (L' := [(4, .int (0 : Int32)), (0, .ref (ad 187)), (1, .int x1), (2, .int x2), (3, .int x3)]) dX12_top_49 (by decide) rfl ?_
          exact aw_sub [1, 2, 3, 4, 0] rfl h
        · have h := h.2 hc
          refine aw_bipush (v := -3) dX12_top_45 (by decide) ?_
          exact aw_ret (v := some (.int (-3 : Int32))) rfl (Or.inr (Or.inl ⟨_, .int, rfl, rfl, rfl, dX12_top_47⟩)) h
      · have h := h.2 hc
        refine aw_iconst (v := -1) dX12_top_33 (by decide) ?_
        exact aw_ret (v := some (.int (-1 : Int32))) rfl (Or.inr (Or.inl ⟨_, .int, rfl, rfl, rfl, dX12_top_34⟩)) h
set_option maxRecDepth 100000 in
set_option maxHeartbeats 4000000 in
theorem g_X12_top_51 {ad : Nat → Nat} {d : Nat} {Q : Option Value → Wm → Prop} {m : Wm} {x1 x2 x3 x4 : Int32} (h : (((m.1 187 43) ≤ x4 → Q (some (.int (-2 : Int32))) m) ∧ (¬ (m.1 187 43) ≤ x4 → (Ct ad μX12_skillIn d [.ref (ad 187), .int x4, .int x1, .int x2] m (fun r m1 => ∃ v2 : Int32, r = some (.int v2) ∧ ((v2 < x3 → AW ad E0 μX12_top (d + 1) Q 51 [(0, .ref (ad 187)), (1, .int x1), (2, .int x2), (3, .int x3), (4, .int (x4 + (1 : Int32)))] [] m1) ∧ (¬ v2 < x3 → (Ct ad μX12_tellWay d [.ref (ad 187), .int x4] m1 (fun r m3 => ∃ v4 : Int32, r = some (.int v4) ∧ Q (some (.int v4)) m3))))))))) : AW ad E0 μX12_top (d + 1) Q 51 [(0, .ref (ad 187)), (1, .int x1), (2, .int x2), (3, .int x3), (4, .int x4)] [] m := by
  refine aw_iload (j := 4) dX12_top_51 rfl ?_
  refine aw_aload_n (j := 0) dX12_top_53 rfl rfl ?_
  refine aw_getfield (c := 0) (v := .int (m.1 187 43)) dX12_top_54 f_X12_341 ly_187 rfl rfl ?_
  refine aw_icmp_ge (tgt := 85) dX12_top_57 (by decide) (fun hc => ?_) (fun hc => ?_)
  · have h := h.1 hc
    refine aw_bipush (v := -2) dX12_top_85 (by decide) ?_
    exact aw_ret (v := some (.int (-2 : Int32))) rfl (Or.inr (Or.inl ⟨_, .int, rfl, rfl, rfl, dX12_top_87⟩)) h
  · have h := h.2 hc
    refine aw_aload_n (j := 0) dX12_top_60 rfl rfl ?_
    refine aw_iload (j := 4) dX12_top_61 rfl ?_
    refine aw_iload_n (j := 1) dX12_top_63 rfl rfl ?_
    refine aw_iload_n (j := 2) dX12_top_64 rfl rfl ?_
    refine aw_callV (rest := []) [.int x4, .int x1, .int x2] dX12_top_65 ly_187 rfl k_X12_377 rfl h (Nat.le_of_ble_eq_true rfl) (fun v m1 h => ?_)
    obtain ⟨v2, rfl, h⟩ := h
    refine aw_eq (L' := [(0, .ref (ad 187)), (1, .int x1), (2, .int x2), (3, .int x3), (4, .int x4)]) (st' := [.int v2]) (m' := m1) ?_ rfl rfl rfl
    refine aw_iload_n (j := 3) dX12_top_68 rfl rfl ?_
    refine aw_icmp_lt (tgt := 79) dX12_top_69 (by decide) (fun hc => ?_) (fun hc => ?_)
    · have h := h.1 hc
      refine aw_iinc (j := 4) (v := x4 + (1 : Int32)) (L' := [(4, .int (x4 + (1 : Int32))), (0, .ref (ad 187)), (1, .int x1), (2, .int x2), (3, .int x3)]) dX12_top_79 rfl rfl (by decide) rfl ?_
      refine aw_goto (tgt := 51) dX12_top_82 (by decide) ?_
      exact aw_sub [1, 2, 3, 4, 0] rfl h
    · have h := h.2 hc
      refine aw_aload_n (j := 0) dX12_top_72 rfl rfl ?_
      refine aw_iload (j := 4) dX12_top_73 rfl ?_
      refine aw_callV (rest := []) [.int x4] dX12_top_75 ly_187 rfl k_X12_414 rfl h (Nat.le_of_ble_eq_true rfl) (fun v m3 h => ?_)
      obtain ⟨v4, rfl, h⟩ := h
      refine aw_eq (L' := [(0, .ref (ad 187)), (1, .int x1), (2, .int x2), (3, .int x3), (4, .int x4)]) (st' := [.int v4]) (m' := m3) ?_ rfl rfl rfl
      exact aw_ret (v := some (.int v4)) rfl (Or.inr (Or.inl ⟨_, .int, rfl, rfl, rfl, dX12_top_78⟩)) h
set_option maxRecDepth 100000 in
set_option maxHeartbeats 4000000 in
theorem v_X12_quick {ad : Nat → Nat} {d : Nat} {Q : Option Value → Wm → Prop} {m : Wm} {x1 : Int32} (h : (Ct ad μX12_findStates d [.ref (ad 187), .int (3000 : Int32)] (uI m 187 17 (0 : Int32)) (fun r m1 => ∃ v2 : Int32, r = some (.int v2) ∧ ((¬ v2 = 0 → AW ad E0 μX12_quick (d + 1) Q 22 [(0, .ref (ad 187)), (1, .int x1), (2, .int (-1 : Int32)), (3, .int (0 : Int32))] [] m1) ∧ (v2 = 0 → Q (some (.int (-3 : Int32))) m1))))) : Ct ad μX12_quick (d + 1) [.ref (ad 187), .int x1] m Q := by
  refine Ct.of (by decide +kernel) rfl (Nat.le_of_ble_eq_true rfl) ?_
  refine aw_eq (L' := [(0, .ref (ad 187)), (1, .int x1)]) ?_ rfl rfl rfl
  refine aw_aload_n (j := 0) dX12_quick_0 rfl rfl ?_
  refine aw_iconst (v := 0) dX12_quick_1 (by decide) ?_
  refine aw_putI dX12_quick_2 f_X12_110 cl_X12 rfl ly_187 rfl rfl rfl ?_
  refine aw_aload_n (j := 0) dX12_quick_5 rfl rfl ?_
  refine aw_sipush (v := 3000) dX12_quick_6 (by decide) ?_
  refine aw_callV (rest := []) [.int (3000 : Int32)] dX12_quick_9 ly_187 rfl k_X12_411 rfl h (Nat.le_of_ble_eq_true rfl) (fun v m1 h => ?_)
  obtain ⟨v2, rfl, h⟩ := h
  refine aw_eq (L' := [(0, .ref (ad 187)), (1, .int x1)]) (st' := [.int v2]) (m' := m1) ?_ rfl rfl rfl
  refine aw_if_ne (tgt := 18) dX12_quick_12 (by decide) (fun hc => ?_) (fun hc => ?_)
  · have h := h.1 hc
    refine aw_iconst (v := -1) dX12_quick_18 (by decide) ?_
    refine aw_istore_n (L' := [(2, .int (-1 : Int32)), (0, .ref (ad 187)), (1, .int x1)]) dX12_quick_19 rfl (by decide) rfl ?_
    refine aw_iconst (v := 0) dX12_quick_20 (by decide) ?_
    refine aw_istore_n (L' := [(3, .int (0 : Int32)), (2, .int (-1 : Int32)), (0, .ref (ad 187)), (1, .int x1)]) dX12_quick_21 rfl (by decide) rfl ?_
    exact aw_sub [2, 3, 1, 0] rfl h
  · have h := h.2 hc
    refine aw_bipush (v := -3) dX12_quick_15 (by decide) ?_
    exact aw_ret (v := some (.int (-3 : Int32))) rfl (Or.inr (Or.inl ⟨_, .int, rfl, rfl, rfl, dX12_quick_17⟩)) h
set_option maxRecDepth 100000 in
set_option maxHeartbeats 4000000 in
theorem g_X12_quick_22 {ad : Nat → Nat} {d : Nat} {Q : Option Value → Wm → Prop} {m : Wm} {x1 x2 x3 : Int32} (h : (((m.1 187 43) ≤ x3 → AW ad E0 μX12_quick (d + 1) Q 100 [(0, .ref (ad 187)), (2, .int x2)] [] m) ∧ (¬ (m.1 187 43) ≤ x3 → ((¬ x2 = (-1 : Int32) → AW ad E0 μX12_quick (d + 1) Q 100 [(0, .ref (ad 187)), (2, .int x2)] [] m) ∧ (x2 = (-1 : Int32) → (Ct ad μX12_load d [.ref (ad 187), .int x3] m (fun r m1 => r = none ∧ AW ad E0 μX12_quick (d + 1) Q 46 [(0, .ref (ad 187)), (1, .int x1), (3, .int x3), (4, .int (1 : Int32)), (5, .int (0 : Int32))] [] m1))))))) : AW ad E0 μX12_quick (d + 1) Q 22 [(0, .ref (ad 187)), (1, .int x1), (2, .int x2), (3, .int x3)] [] m := by
  refine aw_iload_n (j := 3) dX12_quick_22 rfl rfl ?_
  refine aw_aload_n (j := 0) dX12_quick_23 rfl rfl ?_
  refine aw_getfield (c := 0) (v := .int (m.1 187 43)) dX12_quick_24 f_X12_341 ly_187 rfl rfl ?_
  refine aw_icmp_ge (tgt := 100) dX12_quick_27 (by decide) (fun hc => ?_) (fun hc => ?_)
  · have h := h.1 hc
    exact aw_sub [0, 2] rfl h
  · have h := h.2 hc
    refine aw_iload_n (j := 2) dX12_quick_30 rfl rfl ?_
    refine aw_iconst (v := -1) dX12_quick_31 (by decide) ?_
    refine aw_icmp_ne (tgt := 100) dX12_quick_32 (by decide) (fun hc => ?_) (fun hc => ?_)
    · have h := h.1 hc
      exact aw_sub [0, 2] rfl h
    · have h := h.2 hc
      refine aw_aload_n (j := 0) dX12_quick_35 rfl rfl ?_
      refine aw_iload_n (j := 3) dX12_quick_36 rfl rfl ?_
      refine aw_callV (rest := []) [.int x3] dX12_quick_37 ly_187 rfl k_X12_374 rfl h (Nat.le_of_ble_eq_true rfl) (fun v m1 h => ?_)
      obtain ⟨rfl, h⟩ := h
      refine aw_eq (L' := [(0, .ref (ad 187)), (1, .int x1), (2, .int x2), (3, .int x3)]) (st' := []) (m' := m1) ?_ rfl rfl rfl
      refine aw_iconst (v := 1) dX12_quick_40 (by decide) ?_
      refine aw_istore (L' := [(4, .int (1 : Int32)), (0, .ref (ad 187)), (1, .int x1), (2, .int x2), (3, .int x3)]) dX12_quick_41 (by decide) rfl ?_
      refine aw_iconst (v := 0) dX12_quick_43 (by decide) ?_
      refine aw_istore (L' := [(5, .int (0 : Int32)), (4, .int (1 : Int32)), (0, .ref (ad 187)), (1, .int x1), (2, .int x2), (3, .int x3)]) dX12_quick_44 (by decide) rfl ?_
      exact aw_sub [2, 3, 5, 1, 0] rfl h
set_option maxRecDepth 100000 in
set_option maxHeartbeats 4000000 in
theorem g_X12_quick_46 {ad : Nat → Nat} {d : Nat} {Q : Option Value → Wm → Prop} {m : Wm} {x1 x3 x4 x5 : Int32} (h : (((m.1 187 1) ≤ x5 → AW ad E0 μX12_quick (d + 1) Q 83 [(0, .ref (ad 187)), (1, .int x1), (3, .int x3), (4, .int x4)] [] m) ∧ (¬ (m.1 187 1) ≤ x5 → ((x4 = 0 → AW ad E0 μX12_quick (d + 1) Q 83 [(0, .ref (ad 187)), (1, .int x1), (3, .int x3), (4, .int x4)] [] m) ∧ (¬ x4 = 0 → (Ct ad μX12_power d [.ref (ad 187), .int x5] m (fun r m1 => ∃ v2 : Int32, r = some (.int v2) ∧ ((v2 < x1 → AW ad E0 μX12_quick (d + 1) Q 46 [(0, .ref (ad 187)), (1, .int x1), (3, .int x3), (4, .int (0 : Int32)), (5, .int (x5 + (1 : Int32)))] [] m1) ∧ (¬ v2 < x1 → AW ad E0 μX12_quick (d + 1) Q 46 [(0, .ref (ad 187)), (1, .int x1), (3, .int x3), (4, .int (1 : Int32)), (5, .int (x5 + (1 : Int32)))] [] m1))))))))) : AW ad E0 μX12_quick (d + 1) Q 46 [(0, .ref (ad 187)), (1, .int x1), (3, .int x3), (4, .int x4), (5, .int x5)] [] m := by
  refine aw_iload (j := 4) dX12_quick_46 rfl ?_
  refine aw_aload_n (j := 0) dX12_quick_48 rfl rfl ?_
  refine aw_getfield (c := 0) (v := .int (m.1 187 1)) dX12_quick_49 f_X12_116 ly_187 rfl rfl ?_
  refine aw_icmp_ge (tgt := 83) dX12_quick_52 (by decide) (fun hc => ?_) (fun hc => ?_)
  · have h := h.1 hc
    exact aw_sub [0, 1, 2, 3] rfl h
  · have h := h.2 hc
    refine aw_iload (j := 3) dX12_quick_55 rfl ?_
    refine aw_if_eq (tgt := 83) dX12_quick_57 (by decide) (fun hc => ?_) (fun hc => ?_)
    · have h := h.1 hc
      exact aw_sub [0, 1, 2, 3] rfl h
    · have h := h.2 hc
      refine aw_aload_n (j := 0) dX12_quick_60 rfl rfl ?_
      refine aw_iload (j := 4) dX12_quick_61 rfl ?_
      refine aw_callV (rest := []) [.int x5] dX12_quick_63 ly_187 rfl k_X12_255 rfl h (Nat.le_of_ble_eq_true rfl) (fun v m1 h => ?_)
      obtain ⟨v2, rfl, h⟩ := h
      refine aw_eq (L' := [(0, .ref (ad 187)), (1, .int x1), (3, .int x3), (4, .int x4), (5, .int x5)]) (st' := [.int v2]) (m' := m1) ?_ rfl rfl rfl
      refine aw_iload_n (j := 1) dX12_quick_66 rfl rfl ?_
      refine aw_icmp_lt (tgt := 74) dX12_quick_67 (by decide) (fun hc => ?_) (fun hc => ?_)
      · have h := h.1 hc
        refine aw_iconst (v := 0) dX12_quick_74 (by decide) ?_
        refine aw_istore (L' := [(4, .int (0 : Int32)), (0, .ref (ad 187)), (1, .int x1), (3, .int x3), (5, .int x5)]) dX12_quick_75 (by decide) rfl ?_
        refine aw_iinc (j := 4) (v := x5 + (1 : Int32)) (L' := [(5, .int (x5 + (1 : Int32))), (4, .int (0 : Int32)), (0, .ref (ad 187)), (1, .int x1), (3, .int x3)]) dX12_quick_77 rfl rfl (by decide) rfl ?_
        refine aw_goto (tgt := 46) dX12_quick_80 (by decide) ?_
        exact aw_sub [2, 3, 4, 1, 0] rfl h
      · have h := h.2 hc
        refine aw_iconst (v := 1) dX12_quick_70 (by decide) ?_
        refine aw_goto (tgt := 75) dX12_quick_71 (by decide) ?_
        refine aw_istore (L' := [(4, .int (1 : Int32)), (0, .ref (ad 187)), (1, .int x1), (3, .int x3), (5, .int x5)]) dX12_quick_75 (by decide) rfl ?_
        refine aw_iinc (j := 4) (v := x5 + (1 : Int32)) (L' := [(5, .int (x5 + (1 : Int32))), (4, .int (1 : Int32)), (0, .ref (ad 187)), (1, .int x1), (3, .int x3)]) dX12_quick_77 rfl rfl (by decide) rfl ?_
        refine aw_goto (tgt := 46) dX12_quick_80 (by decide) ?_
        exact aw_sub [2, 3, 4, 1, 0] rfl h
set_option maxRecDepth 100000 in
set_option maxHeartbeats 4000000 in
theorem g_X12_quick_83 {ad : Nat → Nat} {d : Nat} {Q : Option Value → Wm → Prop} {m : Wm} {x1 x3 x4 : Int32} (h : ((x4 = 0 → AW ad E0 μX12_quick (d + 1) Q 22 [(0, .ref (ad 187)), (1, .int x1), (2, .int (-1 : Int32)), (3, .int (x3 + (1 : Int32)))] [] m) ∧ (¬ x4 = 0 → AW ad E0 μX12_quick (d + 1) Q 22 [(0, .ref (ad 187)), (1, .int x1), (2, .int x3), (3, .int (x3 + (1 : Int32)))] [] m))) : AW ad E0 μX12_quick (d + 1) Q 83 [(0, .ref (ad 187)), (1, .int x1), (3, .int x3), (4, .int x4)] [] m := by
  refine aw_iload (j := 3) dX12_quick_83 rfl ?_
  refine aw_if_eq (tgt := 92) dX12_quick_85 (by decide) (fun hc => ?_) (fun hc => ?_)
  · have h := h.1 hc
    refine aw_iconst (v := -1) dX12_quick_92 (by decide) ?_
    refine aw_istore_n (L' := [(2, .int (-1 : Int32)), (0, .ref (ad 187)), (1, .int x1), (3, .int x3), (4, .int x4)]) dX12_quick_93 rfl (by decide) rfl ?_
    refine aw_iinc (j := 3) (v := x3 + (1 : Int32)) (L' := [(3, .int (x3 + (1 : Int32))), (2, .int (-1 : Int32)), (0, .ref (ad 187)), (1, .int x1), (4, .int x4)]) dX12_quick_94 rfl rfl (by decide) rfl ?_
    refine aw_goto (tgt := 22) dX12_quick_97 (by decide) ?_
    exact aw_sub [2, 3, 1, 0] rfl h
  · have h := h.2 hc
    refine aw_iload_n (j := 2) dX12_quick_88 rfl rfl ?_
    refine aw_goto (tgt := 93) dX12_quick_89 (by decide) ?_
    refine aw_istore_n (L' := [(2, .int x3), (0, .ref (ad 187)), (1, .int x1), (3, .int x3), (4, .int x4)]) dX12_quick_93 rfl (by decide) rfl ?_
    refine aw_iinc (j := 3) (v := x3 + (1 : Int32)) (L' := [(3, .int (x3 + (1 : Int32))), (2, .int x3), (0, .ref (ad 187)), (1, .int x1), (4, .int x4)]) dX12_quick_94 rfl rfl (by decide) rfl ?_
    refine aw_goto (tgt := 22) dX12_quick_97 (by decide) ?_
    exact aw_sub [2, 3, 1, 0] rfl h
set_option maxRecDepth 100000 in
set_option maxHeartbeats 4000000 in
theorem g_X12_quick_100 {ad : Nat → Nat} {d : Nat} {Q : Option Value → Wm → Prop} {m : Wm} {x2 : Int32} (h : (Ct ad μX12_bring d [.ref (ad 187), .ref (ad 204), .int (0 : Int32)] m (fun r m1 => r = none ∧ ((¬ x2 = (-1 : Int32) → (Ct ad μX12_tellWay d [.ref (ad 187), .int x2] m1 (fun r m2 => ∃ v3 : Int32, r = some (.int v3) ∧ Q (some (.int v3)) m2))) ∧ (x2 = (-1 : Int32) → Q (some (.int (-2 : Int32))) m1))))) : AW ad E0 μX12_quick (d + 1) Q 100 [(0, .ref (ad 187)), (2, .int x2)] [] m := by
  refine aw_aload_n (j := 0) dX12_quick_100 rfl rfl ?_
  refine aw_aload_n (j := 0) dX12_quick_101 rfl rfl ?_
  refine aw_getfield (c := 207) (v := .ref (ad 204)) dX12_quick_102 f_X12_71 ly_187 rfl rfl ?_
  refine aw_iconst (v := 0) dX12_quick_105 (by decide) ?_
  refine aw_callV (rest := []) [.ref (ad 204), .int (0 : Int32)] dX12_quick_106 ly_187 rfl k_X12_302 rfl h (Nat.le_of_ble_eq_true rfl) (fun v m1 h => ?_)
  obtain ⟨rfl, h⟩ := h
  refine aw_eq (L' := [(0, .ref (ad 187)), (2, .int x2)]) (st' := []) (m' := m1) ?_ rfl rfl rfl
  refine aw_iload_n (j := 1) dX12_quick_109 rfl rfl ?_
  refine aw_iconst (v := -1) dX12_quick_110 (by decide) ?_
  refine aw_icmp_ne (tgt := 119) dX12_quick_111 (by decide) (fun hc => ?_) (fun hc => ?_)
  · have h := h.1 hc
    refine aw_aload_n (j := 0) dX12_quick_119 rfl rfl ?_
    refine aw_iload_n (j := 1) dX12_quick_120 rfl rfl ?_
    refine aw_callV (rest := []) [.int x2] dX12_quick_121 ly_187 rfl k_X12_414 rfl h (Nat.le_of_ble_eq_true rfl) (fun v m2 h => ?_)
    obtain ⟨v3, rfl, h⟩ := h
    refine aw_eq (L' := [(0, .ref (ad 187)), (2, .int x2)]) (st' := [.int v3]) (m' := m2) ?_ rfl rfl rfl
    exact aw_ret (v := some (.int v3)) rfl (Or.inr (Or.inl ⟨_, .int, rfl, rfl, rfl, dX12_quick_124⟩)) h
  · have h := h.2 hc
    refine aw_bipush (v := -2) dX12_quick_114 (by decide) ?_
    refine aw_goto (tgt := 124) dX12_quick_116 (by decide) ?_
    exact aw_ret (v := some (.int (-2 : Int32))) rfl (Or.inr (Or.inl ⟨_, .int, rfl, rfl, rfl, dX12_quick_124⟩)) h
set_option maxRecDepth 100000 in
set_option maxHeartbeats 4000000 in
theorem v_X12_best {ad : Nat → Nat} {d : Nat} {Q : Option Value → Wm → Prop} {m : Wm} {x1 x2 : Int32} (h : (Ct ad μX12_isSide d [.ref (ad 187), .int x1] (uI m 187 17 (0 : Int32)) (fun r m1 => ∃ v2 : Int32, r = some (.int v2) ∧ ((v2 = 0 → Q (some (.int (-1 : Int32))) m1) ∧ (¬ v2 = 0 → (Ct ad μX12_in d [.long x2.toInt64, .long (0 : Int64), .long (9 : Int64)] m1 (fun r m3 => ∃ v4 : Int32, r = some (.int v4) ∧ ((¬ v4 = 0 → (Ct ad μX12_findStates d [.ref (ad 187), .int x2] m3 (fun r m5 => ∃ v6 : Int32, r = some (.int v6) ∧ ((¬ v6 = 0 → AW ad E0 μX12_best (d + 1) Q 46 [(0, .ref (ad 187)), (1, .int x1), (3, .int (0 : Int32)), (4, .int (0 : Int32)), (5, .int (0 : Int32))] [] m5) ∧ (v6 = 0 → Q (some (.int (-3 : Int32))) m5))))) ∧ (v4 = 0 → Q (some (.int (-1 : Int32))) m3))))))))) : Ct ad μX12_best (d + 1) [.ref (ad 187), .int x1, .int x2] m Q := by
  refine Ct.of (by decide +kernel) rfl (Nat.le_of_ble_eq_true rfl) ?_
  refine aw_eq (L' := [(0, .ref (ad 187)), (1, .int x1), (2, .int x2)]) ?_ rfl rfl rfl
  refine aw_aload_n (j := 0) dX12_best_0 rfl rfl ?_
  refine aw_iconst (v := 0) dX12_best_1 (by decide) ?_
  refine aw_putI dX12_best_2 f_X12_110 cl_X12 rfl ly_187 rfl rfl rfl ?_
  refine aw_aload_n (j := 0) dX12_best_5 rfl rfl ?_
  refine aw_iload_n (j := 1) dX12_best_6 rfl rfl ?_
  refine aw_callV (rest := []) [.int x1] dX12_best_7 ly_187 rfl k_X12_123 rfl h (Nat.le_of_ble_eq_true rfl) (fun v m1 h => ?_)
  obtain ⟨v2, rfl, h⟩ := h
  refine aw_eq (L' := [(0, .ref (ad 187)), (1, .int x1), (2, .int x2)]) (st' := [.int v2]) (m' := m1) ?_ rfl rfl rfl
  refine aw_if_eq (tgt := 25) dX12_best_10 (by decide) (fun hc => ?_) (fun hc => ?_)
  · have h := h.1 hc
    refine aw_iconst (v := -1) dX12_best_25 (by decide) ?_
    exact aw_ret (v := some (.int (-1 : Int32))) rfl (Or.inr (Or.inl ⟨_, .int, rfl, rfl, rfl, dX12_best_26⟩)) h
  · have h := h.2 hc
    refine aw_iload_n (j := 2) dX12_best_13 rfl rfl ?_
    refine aw_i2l dX12_best_14 ?_
    refine aw_lconst (v := 0) dX12_best_15 (by decide) ?_
    refine aw_ldc2 dX12_best_16 c_X12_417 ?_
    refine aw_callS (rest := []) [.long x2.toInt64, .long (0 : Int64), .long (9 : Int64)] dX12_best_19 k_X12_119 rfl h (Nat.le_of_ble_eq_true rfl) (fun v m3 h => ?_)
    obtain ⟨v4, rfl, h⟩ := h
    refine aw_eq (L' := [(0, .ref (ad 187)), (1, .int x1), (2, .int x2)]) (st' := [.int v4]) (m' := m3) ?_ rfl rfl rfl
    refine aw_if_ne (tgt := 27) dX12_best_22 (by decide) (fun hc => ?_) (fun hc => ?_)
    · have h := h.1 hc
      refine aw_aload_n (j := 0) dX12_best_27 rfl rfl ?_
      refine aw_iload_n (j := 2) dX12_best_28 rfl rfl ?_
      refine aw_callV (rest := []) [.int x2] dX12_best_29 ly_187 rfl k_X12_411 rfl h (Nat.le_of_ble_eq_true rfl) (fun v m5 h => ?_)
      obtain ⟨v6, rfl, h⟩ := h
      refine aw_eq (L' := [(0, .ref (ad 187)), (1, .int x1), (2, .int x2)]) (st' := [.int v6]) (m' := m5) ?_ rfl rfl rfl
      refine aw_if_ne (tgt := 38) dX12_best_32 (by decide) (fun hc => ?_) (fun hc => ?_)
      · have h := h.1 hc
        refine aw_iconst (v := 0) dX12_best_38 (by decide) ?_
        refine aw_istore_n (L' := [(3, .int (0 : Int32)), (0, .ref (ad 187)), (1, .int x1), (2, .int x2)]) dX12_best_39 rfl (by decide) rfl ?_
        refine aw_iconst (v := 0) dX12_best_40 (by decide) ?_
        refine aw_istore (L' := [(4, .int (0 : Int32)), (3, .int (0 : Int32)), (0, .ref (ad 187)), (1, .int x1), (2, .int x2)]) dX12_best_41 (by decide) rfl ?_
        refine aw_iconst (v := 0) dX12_best_43 (by decide) ?_
        refine aw_istore (L' := [(5, .int (0 : Int32)), (4, .int (0 : Int32)), (3, .int (0 : Int32)), (0, .ref (ad 187)), (1, .int x1), (2, .int x2)]) dX12_best_44 (by decide) rfl ?_
        exact aw_sub [3, 4, 2, 1, 0] rfl h
      · have h := h.2 hc
        refine aw_bipush (v := -3) dX12_best_35 (by decide) ?_
        exact aw_ret (v := some (.int (-3 : Int32))) rfl (Or.inr (Or.inl ⟨_, .int, rfl, rfl, rfl, dX12_best_37⟩)) h
    · have h := h.2 hc
      refine aw_iconst (v := -1) dX12_best_25 (by decide) ?_
      exact aw_ret (v := some (.int (-1 : Int32))) rfl (Or.inr (Or.inl ⟨_, .int, rfl, rfl, rfl, dX12_best_26⟩)) h
set_option maxRecDepth 100000 in
set_option maxHeartbeats 4000000 in
theorem g_X12_best_46 {ad : Nat → Nat} {d : Nat} {Q : Option Value → Wm → Prop} {m : Wm} {x1 x3 x4 x5 : Int32} (h : (((m.1 187 43) ≤ x5 → (Ct ad μX12_bring d [.ref (ad 187), .ref (ad 204), .int (0 : Int32)] m (fun r m1 => r = none ∧ (vp_in x3 3000 ∧ (Ct ad μX12_tell d [.ref (ad 187), .long (((uI m1 187 16 (0 : Int32)).1 207 x3.toNatClampNeg).toInt64)] (uI m1 187 16 (0 : Int32)) (fun r m2 => r = none ∧ Q (some (.int x4)) m2)))))) ∧ (¬ (m.1 187 43) ≤ x5 → (Ct ad μX12_load d [.ref (ad 187), .int x5] m (fun r m3 => r = none ∧ (Ct ad μX12_power d [.ref (ad 187), .int x1] m3 (fun r m4 => ∃ v5 : Int32, r = some (.int v5) ∧ ((x5 ≤ 0 → AW ad E0 μX12_best (d + 1) Q 46 [(0, .ref (ad 187)), (1, .int x1), (3, .int x5), (4, .int v5), (5, .int (x5 + (1 : Int32)))] [] m4) ∧ (¬ x5 ≤ 0 → ((x4 < v5 → AW ad E0 μX12_best (d + 1) Q 46 [(0, .ref (ad 187)), (1, .int x1), (3, .int x5), (4, .int v5), (5, .int (x5 + (1 : Int32)))] [] m4) ∧ (¬ x4 < v5 → AW ad E0 μX12_best (d + 1) Q 46 [(0, .ref (ad 187)), (1, .int x1), (3, .int x3), (4, .int x4), (5, .int (x5 + (1 : Int32)))] [] m4))))))))))) : AW ad E0 μX12_best (d + 1) Q 46 [(0, .ref (ad 187)), (1, .int x1), (3, .int x3), (4, .int x4), (5, .int x5)] [] m := by
  refine aw_iload (j := 4) dX12_best_46 rfl ?_
  refine aw_aload_n (j := 0) dX12_best_48 rfl rfl ?_
  refine aw_getfield (c := 0) (v := .int (m.1 187 43)) dX12_best_49 f_X12_341 ly_187 rfl rfl ?_
  refine aw_icmp_ge (tgt := 96) dX12_best_52 (by decide) (fun hc => ?_) (fun hc => ?_)
  · have h := h.1 hc
    refine aw_aload_n (j := 0) dX12_best_96 rfl rfl ?_
    refine aw_aload_n (j := 0) dX12_best_97 rfl rfl ?_
    refine aw_getfield (c := 207) (v := .ref (ad 204)) dX12_best_98 f_X12_71 ly_187 rfl rfl ?_
    refine aw_iconst (v := 0) dX12_best_101 (by decide) ?_
    refine aw_callV (rest := []) [.ref (ad 204), .int (0 : Int32)] dX12_best_102 ly_187 rfl k_X12_302 rfl h (Nat.le_of_ble_eq_true rfl) (fun v m1 h => ?_)
    obtain ⟨rfl, h⟩ := h
    refine aw_eq (L' := [(0, .ref (ad 187)), (1, .int x1), (3, .int x3), (4, .int x4), (5, .int x5)]) (st' := []) (m' := m1) ?_ rfl rfl rfl
    refine aw_aload_n (j := 0) dX12_best_105 rfl rfl ?_
    refine aw_iconst (v := 0) dX12_best_106 (by decide) ?_
    refine aw_putI dX12_best_107 f_X12_113 cl_X12 rfl ly_187 rfl rfl rfl ?_
    refine aw_aload_n (j := 0) dX12_best_110 rfl rfl ?_
    refine aw_aload_n (j := 0) dX12_best_111 rfl rfl ?_
    refine aw_getfield (c := 210) (v := .ref (ad 207)) dX12_best_112 f_X12_80 ly_187 rfl rfl ?_
    refine aw_iload_n (j := 2) dX12_best_115 rfl rfl ?_
    obtain ⟨hi, h⟩ := h
    refine aw_iaload dX12_best_116 ly_207 hi ?_
    refine aw_i2l dX12_best_117 ?_
    refine aw_callV (rest := []) [.long (((uI m1 187 16 (0 : Int32)).1 207 x3.toNatClampNeg).toInt64)] dX12_best_118 ly_187 rfl k_X12_131 rfl h (Nat.le_of_ble_eq_true rfl) (fun v m2 h => ?_)
    obtain ⟨rfl, h⟩ := h
    refine aw_eq (L' := [(0, .ref (ad 187)), (1, .int x1), (3, .int x3), (4, .int x4), (5, .int x5)]) (st' := []) (m' := m2) ?_ rfl rfl rfl
    refine aw_iload (j := 3) dX12_best_121 rfl ?_
    exact aw_ret (v := some (.int x4)) rfl (Or.inr (Or.inl ⟨_, .int, rfl, rfl, rfl, dX12_best_123⟩)) h
  · have h := h.2 hc
    refine aw_aload_n (j := 0) dX12_best_55 rfl rfl ?_
    refine aw_iload (j := 4) dX12_best_56 rfl ?_
    refine aw_callV (rest := []) [.int x5] dX12_best_58 ly_187 rfl k_X12_374 rfl h (Nat.le_of_ble_eq_true rfl) (fun v m3 h => ?_)
    obtain ⟨rfl, h⟩ := h
    refine aw_eq (L' := [(0, .ref (ad 187)), (1, .int x1), (3, .int x3), (4, .int x4), (5, .int x5)]) (st' := []) (m' := m3) ?_ rfl rfl rfl
    refine aw_aload_n (j := 0) dX12_best_61 rfl rfl ?_
    refine aw_iload_n (j := 1) dX12_best_62 rfl rfl ?_
    refine aw_callV (rest := []) [.int x1] dX12_best_63 ly_187 rfl k_X12_255 rfl h (Nat.le_of_ble_eq_true rfl) (fun v m4 h => ?_)
    obtain ⟨v5, rfl, h⟩ := h
    refine aw_eq (L' := [(0, .ref (ad 187)), (1, .int x1), (3, .int x3), (4, .int x4), (5, .int x5)]) (st' := [.int v5]) (m' := m4) ?_ rfl rfl rfl
    refine aw_istore (L' := [(6, .int v5), (0, .ref (ad 187)), (1, .int x1), (3, .int x3), (4, .int x4), (5, .int x5)]) dX12_best_66 (by decide) rfl ?_
    refine aw_iload (j := 5) dX12_best_68 rfl ?_
    refine aw_if_le (tgt := 83) dX12_best_70 (by decide) (fun hc => ?_) (fun hc => ?_)
    · have h := h.1 hc
      refine aw_iload (j := 5) dX12_best_83 rfl ?_
      refine aw_istore_n (L' := [(3, .int x5), (6, .int v5), (0, .ref (ad 187)), (1, .int x1), (4, .int x4), (5, .int x5)]) dX12_best_85 rfl (by decide) rfl ?_
      refine aw_iload (j := 1) dX12_best_86 rfl ?_
      refine aw_istore (L' := [(4, .int v5), (3, .int x5), (6, .int v5), (0, .ref (ad 187)), (1, .int x1), (5, .int x5)]) dX12_best_88 (by decide) rfl ?_
      refine aw_iinc (j := 5) (v := x5 + (1 : Int32)) (L' := [(5, .int (x5 + (1 : Int32))), (4, .int v5), (3, .int x5), (6, .int v5), (0, .ref (ad 187)), (1, .int x1)]) dX12_best_90 rfl rfl (by decide) rfl ?_
      refine aw_goto (tgt := 46) dX12_best_93 (by decide) ?_
      exact aw_sub [4, 5, 2, 1, 0] rfl h
    · have h := h.2 hc
      refine aw_iload (j := 0) dX12_best_73 rfl ?_
      refine aw_iload (j := 4) dX12_best_75 rfl ?_
      refine aw_icmp_gt (tgt := 83) dX12_best_77 (by decide) (fun hc => ?_) (fun hc => ?_)
      · have h := h.1 hc
        refine aw_iload (j := 5) dX12_best_83 rfl ?_
        refine aw_istore_n (L' := [(3, .int x5), (6, .int v5), (0, .ref (ad 187)), (1, .int x1), (4, .int x4), (5, .int x5)]) dX12_best_85 rfl (by decide) rfl ?_
        refine aw_iload (j := 1) dX12_best_86 rfl ?_
        refine aw_istore (L' := [(4, .int v5), (3, .int x5), (6, .int v5), (0, .ref (ad 187)), (1, .int x1), (5, .int x5)]) dX12_best_88 (by decide) rfl ?_
        refine aw_iinc (j := 5) (v := x5 + (1 : Int32)) (L' := [(5, .int (x5 + (1 : Int32))), (4, .int v5), (3, .int x5), (6, .int v5), (0, .ref (ad 187)), (1, .int x1)]) dX12_best_90 rfl rfl (by decide) rfl ?_
        refine aw_goto (tgt := 46) dX12_best_93 (by decide) ?_
        exact aw_sub [4, 5, 2, 1, 0] rfl h
      · have h := h.2 hc
        refine aw_goto (tgt := 90) dX12_best_80 (by decide) ?_
        refine aw_iinc (j := 5) (v := x5 + (1 : Int32)) (L' := [(5, .int (x5 + (1 : Int32))), (6, .int v5), (0, .ref (ad 187)), (1, .int x1), (3, .int x3), (4, .int x4)]) dX12_best_90 rfl rfl (by decide) rfl ?_
        refine aw_goto (tgt := 46) dX12_best_93 (by decide) ?_
        exact aw_sub [2, 3, 4, 5, 0] rfl h
set_option maxRecDepth 100000 in
set_option maxHeartbeats 4000000 in
theorem v_X12_even {ad : Nat → Nat} {d : Nat} {Q : Option Value → Wm → Prop} {m : Wm} {x1 : Int32} (h : (Ct ad μX12_in d [.long x1.toInt64, .long (0 : Int64), .long (9 : Int64)] (uI m 187 17 (0 : Int32)) (fun r m1 => ∃ v2 : Int32, r = some (.int v2) ∧ ((v2 = 0 → Q (some (.int (-1 : Int32))) m1) ∧ (¬ v2 = 0 → ((¬ (m1.1 187 1) = 0 → (Ct ad μX12_findStates d [.ref (ad 187), .int x1] m1 (fun r m3 => ∃ v4 : Int32, r = some (.int v4) ∧ ((¬ v4 = 0 → AW ad E0 μX12_even (d + 1) Q 44 [(0, .ref (ad 187)), (2, .int (0 : Int32)), (3, .int (0 : Int32)), (4, .int (0 : Int32))] [] m3) ∧ (v4 = 0 → Q (some (.int (-3 : Int32))) m3))))) ∧ ((m1.1 187 1) = 0 → Q (some (.int (-1 : Int32))) m1))))))) : Ct ad μX12_even (d + 1) [.ref (ad 187), .int x1] m Q := by
  refine Ct.of (by decide +kernel) rfl (Nat.le_of_ble_eq_true rfl) ?_
  refine aw_eq (L' := [(0, .ref (ad 187)), (1, .int x1)]) ?_ rfl rfl rfl
  refine aw_aload_n (j := 0) dX12_even_0 rfl rfl ?_
  refine aw_iconst (v := 0) dX12_even_1 (by decide) ?_
  refine aw_putI dX12_even_2 f_X12_110 cl_X12 rfl ly_187 rfl rfl rfl ?_
  refine aw_iload_n (j := 1) dX12_even_5 rfl rfl ?_
  refine aw_i2l dX12_even_6 ?_
  refine aw_lconst (v := 0) dX12_even_7 (by decide) ?_
  refine aw_ldc2 dX12_even_8 c_X12_417 ?_
  refine aw_callS (rest := []) [.long x1.toInt64, .long (0 : Int64), .long (9 : Int64)] dX12_even_11 k_X12_119 rfl h (Nat.le_of_ble_eq_true rfl) (fun v m1 h => ?_)
  obtain ⟨v2, rfl, h⟩ := h
  refine aw_eq (L' := [(0, .ref (ad 187)), (1, .int x1)]) (st' := [.int v2]) (m' := m1) ?_ rfl rfl rfl
  refine aw_if_eq (tgt := 24) dX12_even_14 (by decide) (fun hc => ?_) (fun hc => ?_)
  · have h := h.1 hc
    refine aw_iconst (v := -1) dX12_even_24 (by decide) ?_
    exact aw_ret (v := some (.int (-1 : Int32))) rfl (Or.inr (Or.inl ⟨_, .int, rfl, rfl, rfl, dX12_even_25⟩)) h
  · have h := h.2 hc
    refine aw_aload_n (j := 0) dX12_even_17 rfl rfl ?_
    refine aw_getfield (c := 0) (v := .int (m1.1 187 1)) dX12_even_18 f_X12_116 ly_187 rfl rfl ?_
    refine aw_if_ne (tgt := 26) dX12_even_21 (by decide) (fun hc => ?_) (fun hc => ?_)
    · have h := h.1 hc
      refine aw_aload_n (j := 0) dX12_even_26 rfl rfl ?_
      refine aw_iload_n (j := 1) dX12_even_27 rfl rfl ?_
      refine aw_callV (rest := []) [.int x1] dX12_even_28 ly_187 rfl k_X12_411 rfl h (Nat.le_of_ble_eq_true rfl) (fun v m3 h => ?_)
      obtain ⟨v4, rfl, h⟩ := h
      refine aw_eq (L' := [(0, .ref (ad 187)), (1, .int x1)]) (st' := [.int v4]) (m' := m3) ?_ rfl rfl rfl
      refine aw_if_ne (tgt := 37) dX12_even_31 (by decide) (fun hc => ?_) (fun hc => ?_)
      · have h := h.1 hc
        refine aw_iconst (v := 0) dX12_even_37 (by decide) ?_
        refine aw_istore_n (L' := [(2, .int (0 : Int32)), (0, .ref (ad 187)), (1, .int x1)]) dX12_even_38 rfl (by decide) rfl ?_
        refine aw_iconst (v := 0) dX12_even_39 (by decide) ?_
        refine aw_istore_n (L' := [(3, .int (0 : Int32)), (2, .int (0 : Int32)), (0, .ref (ad 187)), (1, .int x1)]) dX12_even_40 rfl (by decide) rfl ?_
        refine aw_iconst (v := 0) dX12_even_41 (by decide) ?_
        refine aw_istore (L' := [(4, .int (0 : Int32)), (3, .int (0 : Int32)), (2, .int (0 : Int32)), (0, .ref (ad 187)), (1, .int x1)]) dX12_even_42 (by decide) rfl ?_
        exact aw_sub [3, 2, 1, 0] rfl h
      · have h := h.2 hc
        refine aw_bipush (v := -3) dX12_even_34 (by decide) ?_
        exact aw_ret (v := some (.int (-3 : Int32))) rfl (Or.inr (Or.inl ⟨_, .int, rfl, rfl, rfl, dX12_even_36⟩)) h
    · have h := h.2 hc
      refine aw_iconst (v := -1) dX12_even_24 (by decide) ?_
      exact aw_ret (v := some (.int (-1 : Int32))) rfl (Or.inr (Or.inl ⟨_, .int, rfl, rfl, rfl, dX12_even_25⟩)) h
set_option maxRecDepth 100000 in
set_option maxHeartbeats 4000000 in
theorem g_X12_even_44 {ad : Nat → Nat} {d : Nat} {Q : Option Value → Wm → Prop} {m : Wm} {x2 x3 x4 : Int32} (h : (((m.1 187 43) ≤ x4 → (Ct ad μX12_bring d [.ref (ad 187), .ref (ad 204), .int (0 : Int32)] m (fun r m1 => r = none ∧ (vp_in x2 3000 ∧ (Ct ad μX12_tell d [.ref (ad 187), .long (((uI m1 187 16 (0 : Int32)).1 207 x2.toNatClampNeg).toInt64)] (uI m1 187 16 (0 : Int32)) (fun r m2 => r = none ∧ Q (some (.int x3)) m2)))))) ∧ (¬ (m.1 187 43) ≤ x4 → (Ct ad μX12_load d [.ref (ad 187), .int x4] m (fun r m3 => r = none ∧ (Ct ad μX12_spreadNow d [.ref (ad 187)] m3 (fun r m4 => ∃ v5 : Int32, r = some (.int v5) ∧ ((x4 ≤ 0 → AW ad E0 μX12_even (d + 1) Q 44 [(0, .ref (ad 187)), (2, .int x4), (3, .int v5), (4, .int (x4 + (1 : Int32)))] [] m4) ∧ (¬ x4 ≤ 0 → ((v5 < x3 → AW ad E0 μX12_even (d + 1) Q 44 [(0, .ref (ad 187)), (2, .int x4), (3, .int v5), (4, .int (x4 + (1 : Int32)))] [] m4) ∧ (¬ v5 < x3 → AW ad E0 μX12_even (d + 1) Q 44 [(0, .ref (ad 187)), (2, .int x2), (3, .int x3), (4, .int (x4 + (1 : Int32)))] [] m4))))))))))) : AW ad E0 μX12_even (d + 1) Q 44 [(0, .ref (ad 187)), (2, .int x2), (3, .int x3), (4, .int x4)] [] m := by
  refine aw_iload (j := 3) dX12_even_44 rfl ?_
  refine aw_aload_n (j := 0) dX12_even_46 rfl rfl ?_
  refine aw_getfield (c := 0) (v := .int (m.1 187 43)) dX12_even_47 f_X12_341 ly_187 rfl rfl ?_
  refine aw_icmp_ge (tgt := 91) dX12_even_50 (by decide) (fun hc => ?_) (fun hc => ?_)
  · have h := h.1 hc
    refine aw_aload_n (j := 0) dX12_even_91 rfl rfl ?_
    refine aw_aload_n (j := 0) dX12_even_92 rfl rfl ?_
    refine aw_getfield (c := 207) (v := .ref (ad 204)) dX12_even_93 f_X12_71 ly_187 rfl rfl ?_
    refine aw_iconst (v := 0) dX12_even_96 (by decide) ?_
    refine aw_callV (rest := []) [.ref (ad 204), .int (0 : Int32)] dX12_even_97 ly_187 rfl k_X12_302 rfl h (Nat.le_of_ble_eq_true rfl) (fun v m1 h => ?_)
    obtain ⟨rfl, h⟩ := h
    refine aw_eq (L' := [(0, .ref (ad 187)), (2, .int x2), (3, .int x3), (4, .int x4)]) (st' := []) (m' := m1) ?_ rfl rfl rfl
    refine aw_aload_n (j := 0) dX12_even_100 rfl rfl ?_
    refine aw_iconst (v := 0) dX12_even_101 (by decide) ?_
    refine aw_putI dX12_even_102 f_X12_113 cl_X12 rfl ly_187 rfl rfl rfl ?_
    refine aw_aload_n (j := 0) dX12_even_105 rfl rfl ?_
    refine aw_aload_n (j := 0) dX12_even_106 rfl rfl ?_
    refine aw_getfield (c := 210) (v := .ref (ad 207)) dX12_even_107 f_X12_80 ly_187 rfl rfl ?_
    refine aw_iload_n (j := 1) dX12_even_110 rfl rfl ?_
    obtain ⟨hi, h⟩ := h
    refine aw_iaload dX12_even_111 ly_207 hi ?_
    refine aw_i2l dX12_even_112 ?_
    refine aw_callV (rest := []) [.long (((uI m1 187 16 (0 : Int32)).1 207 x2.toNatClampNeg).toInt64)] dX12_even_113 ly_187 rfl k_X12_131 rfl h (Nat.le_of_ble_eq_true rfl) (fun v m2 h => ?_)
    obtain ⟨rfl, h⟩ := h
    refine aw_eq (L' := [(0, .ref (ad 187)), (2, .int x2), (3, .int x3), (4, .int x4)]) (st' := []) (m' := m2) ?_ rfl rfl rfl
    refine aw_iload_n (j := 2) dX12_even_116 rfl rfl ?_
    exact aw_ret (v := some (.int x3)) rfl (Or.inr (Or.inl ⟨_, .int, rfl, rfl, rfl, dX12_even_117⟩)) h
  · have h := h.2 hc
    refine aw_aload_n (j := 0) dX12_even_53 rfl rfl ?_
    refine aw_iload (j := 3) dX12_even_54 rfl ?_
    refine aw_callV (rest := []) [.int x4] dX12_even_56 ly_187 rfl k_X12_374 rfl h (Nat.le_of_ble_eq_true rfl) (fun v m3 h => ?_)
    obtain ⟨rfl, h⟩ := h
    refine aw_eq (L' := [(0, .ref (ad 187)), (2, .int x2), (3, .int x3), (4, .int x4)]) (st' := []) (m' := m3) ?_ rfl rfl rfl
    refine aw_aload_n (j := 0) dX12_even_59 rfl rfl ?_
    refine aw_callV (rest := []) [] dX12_even_60 ly_187 rfl k_X12_329 rfl h (Nat.le_of_ble_eq_true rfl) (fun v m4 h => ?_)
    obtain ⟨v5, rfl, h⟩ := h
    refine aw_eq (L' := [(0, .ref (ad 187)), (2, .int x2), (3, .int x3), (4, .int x4)]) (st' := [.int v5]) (m' := m4) ?_ rfl rfl rfl
    refine aw_istore (L' := [(5, .int v5), (0, .ref (ad 187)), (2, .int x2), (3, .int x3), (4, .int x4)]) dX12_even_63 (by decide) rfl ?_
    refine aw_iload (j := 4) dX12_even_65 rfl ?_
    refine aw_if_le (tgt := 79) dX12_even_67 (by decide) (fun hc => ?_) (fun hc => ?_)
    · have h := h.1 hc
      refine aw_iload (j := 4) dX12_even_79 rfl ?_
      refine aw_istore_n (L' := [(2, .int x4), (5, .int v5), (0, .ref (ad 187)), (3, .int x3), (4, .int x4)]) dX12_even_81 rfl (by decide) rfl ?_
      refine aw_iload (j := 1) dX12_even_82 rfl ?_
      refine aw_istore_n (L' := [(3, .int v5), (2, .int x4), (5, .int v5), (0, .ref (ad 187)), (4, .int x4)]) dX12_even_84 rfl (by decide) rfl ?_
      refine aw_iinc (j := 4) (v := x4 + (1 : Int32)) (L' := [(4, .int (x4 + (1 : Int32))), (3, .int v5), (2, .int x4), (5, .int v5), (0, .ref (ad 187))]) dX12_even_85 rfl rfl (by decide) rfl ?_
      refine aw_goto (tgt := 44) dX12_even_88 (by decide) ?_
      exact aw_sub [4, 2, 1, 0] rfl h
    · have h := h.2 hc
      refine aw_iload (j := 0) dX12_even_70 rfl ?_
      refine aw_iload_n (j := 3) dX12_even_72 rfl rfl ?_
      refine aw_icmp_lt (tgt := 79) dX12_even_73 (by decide) (fun hc => ?_) (fun hc => ?_)
      · have h := h.1 hc
        refine aw_iload (j := 4) dX12_even_79 rfl ?_
        refine aw_istore_n (L' := [(2, .int x4), (5, .int v5), (0, .ref (ad 187)), (3, .int x3), (4, .int x4)]) dX12_even_81 rfl (by decide) rfl ?_
        refine aw_iload (j := 1) dX12_even_82 rfl ?_
        refine aw_istore_n (L' := [(3, .int v5), (2, .int x4), (5, .int v5), (0, .ref (ad 187)), (4, .int x4)]) dX12_even_84 rfl (by decide) rfl ?_
        refine aw_iinc (j := 4) (v := x4 + (1 : Int32)) (L' := [(4, .int (x4 + (1 : Int32))), (3, .int v5), (2, .int x4), (5, .int v5), (0, .ref (ad 187))]) dX12_even_85 rfl rfl (by decide) rfl ?_
        refine aw_goto (tgt := 44) dX12_even_88 (by decide) ?_
        exact aw_sub [4, 2, 1, 0] rfl h
      · have h := h.2 hc
        refine aw_goto (tgt := 85) dX12_even_76 (by decide) ?_
        refine aw_iinc (j := 4) (v := x4 + (1 : Int32)) (L' := [(4, .int (x4 + (1 : Int32))), (5, .int v5), (0, .ref (ad 187)), (2, .int x2), (3, .int x3)]) dX12_even_85 rfl rfl (by decide) rfl ?_
        refine aw_goto (tgt := 44) dX12_even_88 (by decide) ?_
        exact aw_sub [2, 3, 4, 0] rfl h
set_option maxRecDepth 100000 in
set_option maxHeartbeats 4000000 in
theorem v_X12_all {ad : Nat → Nat} {d : Nat} {Q : Option Value → Wm → Prop} {m : Wm} (h : (Ct ad μX12_findStates d [.ref (ad 187), .int (3000 : Int32)] (uI m 187 17 (0 : Int32)) (fun r m1 => ∃ v2 : Int32, r = some (.int v2) ∧ ((¬ v2 = 0 → AW ad E0 μX12_all (d + 1) Q 26 [(0, .ref (ad 187)), (1, .int (0 : Int32)), (2, .int (256 : Int32)), (3, .int (0 : Int32))] [] m1) ∧ (v2 = 0 → Q (some (.int (-3 : Int32))) m1))))) : Ct ad μX12_all (d + 1) [.ref (ad 187)] m Q := by
  refine Ct.of (by decide +kernel) rfl (Nat.le_of_ble_eq_true rfl) ?_
  refine aw_eq (L' := [(0, .ref (ad 187))]) ?_ rfl rfl rfl
  refine aw_aload_n (j := 0) dX12_all_0 rfl rfl ?_
  refine aw_iconst (v := 0) dX12_all_1 (by decide) ?_
  refine aw_putI dX12_all_2 f_X12_110 cl_X12 rfl ly_187 rfl rfl rfl ?_
  refine aw_aload_n (j := 0) dX12_all_5 rfl rfl ?_
  refine aw_sipush (v := 3000) dX12_all_6 (by decide) ?_
  refine aw_callV (rest := []) [.int (3000 : Int32)] dX12_all_9 ly_187 rfl k_X12_411 rfl h (Nat.le_of_ble_eq_true rfl) (fun v m1 h => ?_)
  obtain ⟨v2, rfl, h⟩ := h
  refine aw_eq (L' := [(0, .ref (ad 187))]) (st' := [.int v2]) (m' := m1) ?_ rfl rfl rfl
  refine aw_if_ne (tgt := 18) dX12_all_12 (by decide) (fun hc => ?_) (fun hc => ?_)
  · have h := h.1 hc
    refine aw_iconst (v := 0) dX12_all_18 (by decide) ?_
    refine aw_istore_n (L' := [(1, .int (0 : Int32)), (0, .ref (ad 187))]) dX12_all_19 rfl (by decide) rfl ?_
    refine aw_sipush (v := 256) dX12_all_20 (by decide) ?_
    refine aw_istore_n (L' := [(2, .int (256 : Int32)), (1, .int (0 : Int32)), (0, .ref (ad 187))]) dX12_all_23 rfl (by decide) rfl ?_
    refine aw_iconst (v := 0) dX12_all_24 (by decide) ?_
    refine aw_istore_n (L' := [(3, .int (0 : Int32)), (2, .int (256 : Int32)), (1, .int (0 : Int32)), (0, .ref (ad 187))]) dX12_all_25 rfl (by decide) rfl ?_
    exact aw_sub [3, 2, 1, 0] rfl h
  · have h := h.2 hc
    refine aw_bipush (v := -3) dX12_all_15 (by decide) ?_
    exact aw_ret (v := some (.int (-3 : Int32))) rfl (Or.inr (Or.inl ⟨_, .int, rfl, rfl, rfl, dX12_all_17⟩)) h
set_option maxRecDepth 100000 in
set_option maxHeartbeats 4000000 in
theorem g_X12_all_26 {ad : Nat → Nat} {d : Nat} {Q : Option Value → Wm → Prop} {m : Wm} {x1 x2 x3 : Int32} (h : (((m.1 187 43) ≤ x3 → (Ct ad μX12_bring d [.ref (ad 187), .ref (ad 204), .int (0 : Int32)] m (fun r m1 => r = none ∧ (Ct ad μX12_tell d [.ref (ad 187), .long x1.toInt64] (uI m1 187 16 (0 : Int32)) (fun r m2 => r = none ∧ (Ct ad μX12_tell d [.ref (ad 187), .long x2.toInt64] m2 (fun r m3 => r = none ∧ (vp_in ((m3.1 187 43) - (1 : Int32)) 3000 ∧ (Ct ad μX12_tell d [.ref (ad 187), .long ((m3.1 207 ((m3.1 187 43) - (1 : Int32)).toNatClampNeg).toInt64)] m3 (fun r m4 => r = none ∧ Q (some (.int (m4.1 187 43))) m4)))))))))) ∧ (¬ (m.1 187 43) ≤ x3 → (Ct ad μX12_load d [.ref (ad 187), .int x3] m (fun r m5 => r = none ∧ (Ct ad μX12_sumOfAll d [.ref (ad 187)] m5 (fun r m6 => ∃ v7 : Int32, r = some (.int v7) ∧ AW ad E0 μX12_all (d + 1) Q 26 [(0, .ref (ad 187)), (1, .int (if x1 < v7 then v7 else x1)), (2, .int (if v7 < x2 then v7 else x2)), (3, .int (x3 + (1 : Int32)))] [] m6))))))) : AW ad E0 μX12_all (d + 1) Q 26 [(0, .ref (ad 187)), (1, .int x1), (2, .int x2), (3, .int x3)] [] m := by
  refine aw_iload_n (j := 3) dX12_all_26 rfl rfl ?_
  refine aw_aload_n (j := 0) dX12_all_27 rfl rfl ?_
  refine aw_getfield (c := 0) (v := .int (m.1 187 43)) dX12_all_28 f_X12_341 ly_187 rfl rfl ?_
  refine aw_icmp_ge (tgt := 65) dX12_all_31 (by decide) (fun hc => ?_) (fun hc => ?_)
  · have h := h.1 hc
    refine aw_aload_n (j := 0) dX12_all_65 rfl rfl ?_
    refine aw_aload_n (j := 0) dX12_all_66 rfl rfl ?_
    refine aw_getfield (c := 207) (v := .ref (ad 204)) dX12_all_67 f_X12_71 ly_187 rfl rfl ?_
    refine aw_iconst (v := 0) dX12_all_70 (by decide) ?_
    refine aw_callV (rest := []) [.ref (ad 204), .int (0 : Int32)] dX12_all_71 ly_187 rfl k_X12_302 rfl h (Nat.le_of_ble_eq_true rfl) (fun v m1 h => ?_)
    obtain ⟨rfl, h⟩ := h
    refine aw_eq (L' := [(0, .ref (ad 187)), (1, .int x1), (2, .int x2), (3, .int x3)]) (st' := []) (m' := m1) ?_ rfl rfl rfl
    refine aw_aload_n (j := 0) dX12_all_74 rfl rfl ?_
    refine aw_iconst (v := 0) dX12_all_75 (by decide) ?_
    refine aw_putI dX12_all_76 f_X12_113 cl_X12 rfl ly_187 rfl rfl rfl ?_
    refine aw_aload_n (j := 0) dX12_all_79 rfl rfl ?_
    refine aw_iload_n (j := 1) dX12_all_80 rfl rfl ?_
    refine aw_i2l dX12_all_81 ?_
    refine aw_callV (rest := []) [.long x1.toInt64] dX12_all_82 ly_187 rfl k_X12_131 rfl h (Nat.le_of_ble_eq_true rfl) (fun v m2 h => ?_)
    obtain ⟨rfl, h⟩ := h
    refine aw_eq (L' := [(0, .ref (ad 187)), (1, .int x1), (2, .int x2), (3, .int x3)]) (st' := []) (m' := m2) ?_ rfl rfl rfl
    refine aw_aload_n (j := 0) dX12_all_85 rfl rfl ?_
    refine aw_iload_n (j := 2) dX12_all_86 rfl rfl ?_
    refine aw_i2l dX12_all_87 ?_
    refine aw_callV (rest := []) [.long x2.toInt64] dX12_all_88 ly_187 rfl k_X12_131 rfl h (Nat.le_of_ble_eq_true rfl) (fun v m3 h => ?_)
    obtain ⟨rfl, h⟩ := h
    refine aw_eq (L' := [(0, .ref (ad 187)), (1, .int x1), (2, .int x2), (3, .int x3)]) (st' := []) (m' := m3) ?_ rfl rfl rfl
    refine aw_aload_n (j := 0) dX12_all_91 rfl rfl ?_
    refine aw_aload_n (j := 0) dX12_all_92 rfl rfl ?_
    refine aw_getfield (c := 210) (v := .ref (ad 207)) dX12_all_93 f_X12_80 ly_187 rfl rfl ?_
    refine aw_aload_n (j := 0) dX12_all_96 rfl rfl ?_
    refine aw_getfield (c := 0) (v := .int (m3.1 187 43)) dX12_all_97 f_X12_341 ly_187 rfl rfl ?_
    refine aw_iconst (v := 1) dX12_all_100 (by decide) ?_
    refine aw_isub dX12_all_101 ?_
    obtain ⟨hi, h⟩ := h
    refine aw_iaload dX12_all_102 ly_207 hi ?_
    refine aw_i2l dX12_all_103 ?_
    refine aw_callV (rest := []) [.long ((m3.1 207 ((m3.1 187 43) - (1 : Int32)).toNatClampNeg).toInt64)] dX12_all_104 ly_187 rfl k_X12_131 rfl h (Nat.le_of_ble_eq_true rfl) (fun v m4 h => ?_)
    obtain ⟨rfl, h⟩ := h
    refine aw_eq (L' := [(0, .ref (ad 187)), (1, .int x1), (2, .int x2), (3, .int x3)]) (st' := []) (m' := m4) ?_ rfl rfl rfl
    refine aw_aload_n (j := 0) dX12_all_107 rfl rfl ?_
    refine aw_getfield (c := 0) (v := .int (m4.1 187 43)) dX12_all_108 f_X12_341 ly_187 rfl rfl ?_
    exact aw_ret (v := some (.int (m4.1 187 43))) rfl (Or.inr (Or.inl ⟨_, .int, rfl, rfl, rfl, dX12_all_111⟩)) h
  · have h := h.2 hc
    refine aw_aload_n (j := 0) dX12_all_34 rfl rfl ?_
    refine aw_iload_n (j := 3) dX12_all_35 rfl rfl ?_
    refine aw_callV (rest := []) [.int x3] dX12_all_36 ly_187 rfl k_X12_374 rfl h (Nat.le_of_ble_eq_true rfl) (fun v m5 h => ?_)
    obtain ⟨rfl, h⟩ := h
    refine aw_eq (L' := [(0, .ref (ad 187)), (1, .int x1), (2, .int x2), (3, .int x3)]) (st' := []) (m' := m5) ?_ rfl rfl rfl
    refine aw_aload_n (j := 0) dX12_all_39 rfl rfl ?_
    refine aw_callV (rest := []) [] dX12_all_40 ly_187 rfl k_X12_305 rfl h (Nat.le_of_ble_eq_true rfl) (fun v m6 h => ?_)
    obtain ⟨v7, rfl, h⟩ := h
    refine aw_eq (L' := [(0, .ref (ad 187)), (1, .int x1), (2, .int x2), (3, .int x3)]) (st' := [.int v7]) (m' := m6) ?_ rfl rfl rfl
    refine aw_istore (L' := [(4, .int v7), (0, .ref (ad 187)), (1, .int x1), (2, .int x2), (3, .int x3)]) dX12_all_43 (by decide) rfl ?_
    refine aw_iload_n (j := 2) dX12_all_45 rfl rfl ?_
    refine aw_iload (j := 0) dX12_all_46 rfl ?_
    refine aw_max dX12_all_48 k_X12_233 (Nat.le_of_ble_eq_true rfl) ?_
    refine aw_istore_n (L' := [(1, .int (if x1 < v7 then v7 else x1)), (4, .int v7), (0, .ref (ad 187)), (2, .int x2), (3, .int x3)]) dX12_all_51 rfl (by decide) rfl ?_
    refine aw_iload_n (j := 3) dX12_all_52 rfl rfl ?_
    refine aw_iload (j := 1) dX12_all_53 rfl ?_
    refine aw_min dX12_all_55 k_X12_238 (Nat.le_of_ble_eq_true rfl) ?_
    refine aw_istore_n (L' := [(2, .int (if v7 < x2 then v7 else x2)), (1, .int (if x1 < v7 then v7 else x1)), (4, .int v7), (0, .ref (ad 187)), (3, .int x3)]) dX12_all_58 rfl (by decide) rfl ?_
    refine aw_iinc (j := 4) (v := x3 + (1 : Int32)) (L' := [(3, .int (x3 + (1 : Int32))), (2, .int (if v7 < x2 then v7 else x2)), (1, .int (if x1 < v7 then v7 else x1)), (4, .int v7), (0, .ref (ad 187))]) dX12_all_59 rfl rfl (by decide) rfl ?_
    refine aw_goto (tgt := 26) dX12_all_62 (by decide) ?_
    exact aw_sub [4, 2, 1, 0] rfl h
set_option maxRecDepth 100000 in
set_option maxHeartbeats 4000000 in
theorem v_X12_next {ad : Nat → Nat} {d : Nat} {Q : Option Value → Wm → Prop} {m : Wm} {x1 : Int32} (h : (Ct ad μX12_isSide d [.ref (ad 187), .int x1] (uI m 187 17 (0 : Int32)) (fun r m1 => ∃ v2 : Int32, r = some (.int v2) ∧ ((¬ v2 = 0 → (((2 : Int32) ≤ (m1.1 187 1) → (Ct ad μX12_lay d [.ref (ad 187), .ref (ad 204), .int (0 : Int32)] m1 (fun r m3 => r = none ∧ AW ad E0 μX12_next (d + 1) Q 42 [(0, .ref (ad 187)), (1, .int x1), (2, .int (-1 : Int32)), (3, .int (0 : Int32)), (4, .int (0 : Int32))] [] m3))) ∧ (¬ (2 : Int32) ≤ (m1.1 187 1) → Q (some (.int (-2 : Int32))) m1))) ∧ (v2 = 0 → Q (some (.int (-1 : Int32))) m1))))) : Ct ad μX12_next (d + 1) [.ref (ad 187), .int x1] m Q := by
  refine Ct.of (by decide +kernel) rfl (Nat.le_of_ble_eq_true rfl) ?_
  refine aw_eq (L' := [(0, .ref (ad 187)), (1, .int x1)]) ?_ rfl rfl rfl
  refine aw_aload_n (j := 0) dX12_next_0 rfl rfl ?_
  refine aw_iconst (v := 0) dX12_next_1 (by decide) ?_
  refine aw_putI dX12_next_2 f_X12_110 cl_X12 rfl ly_187 rfl rfl rfl ?_
  refine aw_aload_n (j := 0) dX12_next_5 rfl rfl ?_
  refine aw_iload_n (j := 1) dX12_next_6 rfl rfl ?_
  refine aw_callV (rest := []) [.int x1] dX12_next_7 ly_187 rfl k_X12_123 rfl h (Nat.le_of_ble_eq_true rfl) (fun v m1 h => ?_)
  obtain ⟨v2, rfl, h⟩ := h
  refine aw_eq (L' := [(0, .ref (ad 187)), (1, .int x1)]) (st' := [.int v2]) (m' := m1) ?_ rfl rfl rfl
  refine aw_if_ne (tgt := 15) dX12_next_10 (by decide) (fun hc => ?_) (fun hc => ?_)
  · have h := h.1 hc
    refine aw_aload_n (j := 0) dX12_next_15 rfl rfl ?_
    refine aw_getfield (c := 0) (v := .int (m1.1 187 1)) dX12_next_16 f_X12_116 ly_187 rfl rfl ?_
    refine aw_iconst (v := 2) dX12_next_19 (by decide) ?_
    refine aw_icmp_ge (tgt := 26) dX12_next_20 (by decide) (fun hc => ?_) (fun hc => ?_)
    · have h := h.1 hc
      refine aw_aload_n (j := 0) dX12_next_26 rfl rfl ?_
      refine aw_aload_n (j := 0) dX12_next_27 rfl rfl ?_
      refine aw_getfield (c := 207) (v := .ref (ad 204)) dX12_next_28 f_X12_71 ly_187 rfl rfl ?_
      refine aw_iconst (v := 0) dX12_next_31 (by decide) ?_
      refine aw_callV (rest := []) [.ref (ad 204), .int (0 : Int32)] dX12_next_32 ly_187 rfl k_X12_291 rfl h (Nat.le_of_ble_eq_true rfl) (fun v m3 h => ?_)
      obtain ⟨rfl, h⟩ := h
      refine aw_eq (L' := [(0, .ref (ad 187)), (1, .int x1)]) (st' := []) (m' := m3) ?_ rfl rfl rfl
      refine aw_iconst (v := -1) dX12_next_35 (by decide) ?_
      refine aw_istore_n (L' := [(2, .int (-1 : Int32)), (0, .ref (ad 187)), (1, .int x1)]) dX12_next_36 rfl (by decide) rfl ?_
      refine aw_iconst (v := 0) dX12_next_37 (by decide) ?_
      refine aw_istore_n (L' := [(3, .int (0 : Int32)), (2, .int (-1 : Int32)), (0, .ref (ad 187)), (1, .int x1)]) dX12_next_38 rfl (by decide) rfl ?_
      refine aw_iconst (v := 0) dX12_next_39 (by decide) ?_
      refine aw_istore (L' := [(4, .int (0 : Int32)), (3, .int (0 : Int32)), (2, .int (-1 : Int32)), (0, .ref (ad 187)), (1, .int x1)]) dX12_next_40 (by decide) rfl ?_
      exact aw_sub [3, 4, 2, 1, 0] rfl h
    · have h := h.2 hc
      refine aw_bipush (v := -2) dX12_next_23 (by decide) ?_
      exact aw_ret (v := some (.int (-2 : Int32))) rfl (Or.inr (Or.inl ⟨_, .int, rfl, rfl, rfl, dX12_next_25⟩)) h
  · have h := h.2 hc
    refine aw_iconst (v := -1) dX12_next_13 (by decide) ?_
    exact aw_ret (v := some (.int (-1 : Int32))) rfl (Or.inr (Or.inl ⟨_, .int, rfl, rfl, rfl, dX12_next_14⟩)) h
set_option maxRecDepth 100000 in
set_option maxHeartbeats 4000000 in
theorem g_X12_next_42 {ad : Nat → Nat} {d : Nat} {Q : Option Value → Wm → Prop} {m : Wm} {x1 x2 x3 x4 : Int32} (h : (((3 : Int32) ≤ x4 → (Ct ad μX12_tell d [.ref (ad 187), .long x3.toInt64] (uI m 187 16 (0 : Int32)) (fun r m1 => r = none ∧ Q (some (.int x2)) m1))) ∧ (¬ (3 : Int32) ≤ x4 → AW ad E0 μX12_next (d + 1) Q 51 [(0, .ref (ad 187)), (1, .int x1), (2, .int x2), (3, .int x3), (4, .int x4), (5, .int (0 : Int32))] [] m))) : AW ad E0 μX12_next (d + 1) Q 42 [(0, .ref (ad 187)), (1, .int x1), (2, .int x2), (3, .int x3), (4, .int x4)] [] m := by
  refine aw_iload (j := 4) dX12_next_42 rfl ?_
  refine aw_iconst (v := 3) dX12_next_44 (by decide) ?_
  refine aw_icmp_ge (tgt := 151) dX12_next_45 (by decide) (fun hc => ?_) (fun hc => ?_)
  · have h := h.1 hc
    refine aw_aload_n (j := 0) dX12_next_151 rfl rfl ?_
    refine aw_iconst (v := 0) dX12_next_152 (by decide) ?_
    refine aw_putI dX12_next_153 f_X12_113 cl_X12 rfl ly_187 rfl rfl rfl ?_
    refine aw_aload_n (j := 0) dX12_next_156 rfl rfl ?_
    refine aw_iload_n (j := 3) dX12_next_157 rfl rfl ?_
    refine aw_i2l dX12_next_158 ?_
    refine aw_callV (rest := []) [.long x3.toInt64] dX12_next_159 ly_187 rfl k_X12_131 rfl h (Nat.le_of_ble_eq_true rfl) (fun v m1 h => ?_)
    obtain ⟨rfl, h⟩ := h
    refine aw_eq (L' := [(0, .ref (ad 187)), (1, .int x1), (2, .int x2), (3, .int x3), (4, .int x4)]) (st' := []) (m' := m1) ?_ rfl rfl rfl
    refine aw_iload_n (j := 2) dX12_next_162 rfl rfl ?_
    exact aw_ret (v := some (.int x2)) rfl (Or.inr (Or.inl ⟨_, .int, rfl, rfl, rfl, dX12_next_163⟩)) h
  · have h := h.2 hc
    refine aw_iconst (v := 0) dX12_next_48 (by decide) ?_
    refine aw_istore (L' := [(5, .int (0 : Int32)), (0, .ref (ad 187)), (1, .int x1), (2, .int x2), (3, .int x3), (4, .int x4)]) dX12_next_49 (by decide) rfl ?_
    exact aw_sub [1, 2, 3, 4, 5, 0] rfl h
set_option maxRecDepth 100000 in
set_option maxHeartbeats 4000000 in
theorem g_X12_next_51 {ad : Nat → Nat} {d : Nat} {Q : Option Value → Wm → Prop} {m : Wm} {x1 x2 x3 x4 x5 : Int32} (h : (((m.1 187 1) ≤ x5 → AW ad E0 μX12_next (d + 1) Q 42 [(0, .ref (ad 187)), (1, .int x1), (2, .int x2), (3, .int x3), (4, .int (x4 + (1 : Int32)))] [] m) ∧ (¬ (m.1 187 1) ≤ x5 → AW ad E0 μX12_next (d + 1) Q 66 [(0, .ref (ad 187)), (1, .int x1), (2, .int x2), (3, .int x3), (4, .int x4), (5, .int x5), (6, .int (x5 + (1 : Int32)))] [] m))) : AW ad E0 μX12_next (d + 1) Q 51 [(0, .ref (ad 187)), (1, .int x1), (2, .int x2), (3, .int x3), (4, .int x4), (5, .int x5)] [] m := by
  refine aw_iload (j := 5) dX12_next_51 rfl ?_
  refine aw_aload_n (j := 0) dX12_next_53 rfl rfl ?_
  refine aw_getfield (c := 0) (v := .int (m.1 187 1)) dX12_next_54 f_X12_116 ly_187 rfl rfl ?_
  refine aw_icmp_ge (tgt := 145) dX12_next_57 (by decide) (fun hc => ?_) (fun hc => ?_)
  · have h := h.1 hc
    refine aw_iinc (j := 4) (v := x4 + (1 : Int32)) (L' := [(4, .int (x4 + (1 : Int32))), (0, .ref (ad 187)), (1, .int x1), (2, .int x2), (3, .int x3), (5, .int x5)]) dX12_next_145 rfl rfl (by decide) rfl ?_
    refine aw_goto (tgt := 42) dX12_next_148 (by decide) ?_
    exact aw_sub [1, 2, 3, 4, 0] rfl h
  · have h := h.2 hc
    refine aw_iload (j := 5) dX12_next_60 rfl ?_
    refine aw_iconst (v := 1) dX12_next_62 (by decide) ?_
    refine aw_iadd dX12_next_63 ?_
    refine aw_istore (L' := [(6, .int (x5 + (1 : Int32))), (0, .ref (ad 187)), (1, .int x1), (2, .int x2), (3, .int x3), (4, .int x4), (5, .int x5)]) dX12_next_64 (by decide) rfl ?_
    exact aw_sub [1, 2, 3, 4, 5, 6, 0] rfl h
set_option maxRecDepth 100000 in
set_option maxHeartbeats 4000000 in
theorem g_X12_next_66 {ad : Nat → Nat} {d : Nat} {Q : Option Value → Wm → Prop} {m : Wm} {x1 x2 x3 x4 x5 x6 : Int32} (h : (((m.1 187 1) ≤ x6 → AW ad E0 μX12_next (d + 1) Q 51 [(0, .ref (ad 187)), (1, .int x1), (2, .int x2), (3, .int x3), (4, .int x4), (5, .int (x5 + (1 : Int32)))] [] m) ∧ (¬ (m.1 187 1) ≤ x6 → (Ct ad μX12_goQuiet d [.ref (ad 187), .int x5, .int x6, .int x4] m (fun r m1 => r = none ∧ (Ct ad μX12_power d [.ref (ad 187), .int x1] m1 (fun r m2 => ∃ v3 : Int32, r = some (.int v3) ∧ (Ct ad μX12_bring d [.ref (ad 187), .ref (ad 204), .int (0 : Int32)] m2 (fun r m4 => r = none ∧ ((x2 = (-1 : Int32) → AW ad E0 μX12_next (d + 1) Q 115 [(0, .ref (ad 187)), (1, .int x1), (4, .int x4), (5, .int x5), (6, .int x6), (7, .int v3)] [] m4) ∧ (¬ x2 = (-1 : Int32) → ((x3 < v3 → AW ad E0 μX12_next (d + 1) Q 115 [(0, .ref (ad 187)), (1, .int x1), (4, .int x4), (5, .int x5), (6, .int x6), (7, .int v3)] [] m4) ∧ (¬ x3 < v3 → AW ad E0 μX12_next (d + 1) Q 66 [(0, .ref (ad 187)), (1, .int x1), (2, .int x2), (3, .int x3), (4, .int x4), (5, .int x5), (6, .int (x6 + (1 : Int32)))] [] m4))))))))))))) : AW ad E0 μX12_next (d + 1) Q 66 [(0, .ref (ad 187)), (1, .int x1), (2, .int x2), (3, .int x3), (4, .int x4), (5, .int x5), (6, .int x6)] [] m := by
  refine aw_iload (j := 6) dX12_next_66 rfl ?_
  refine aw_aload_n (j := 0) dX12_next_68 rfl rfl ?_
  refine aw_getfield (c := 0) (v := .int (m.1 187 1)) dX12_next_69 f_X12_116 ly_187 rfl rfl ?_
  refine aw_icmp_ge (tgt := 139) dX12_next_72 (by decide) (fun hc => ?_) (fun hc => ?_)
  · have h := h.1 hc
    refine aw_iinc (j := 5) (v := x5 + (1 : Int32)) (L' := [(5, .int (x5 + (1 : Int32))), (0, .ref (ad 187)), (1, .int x1), (2, .int x2), (3, .int x3), (4, .int x4), (6, .int x6)]) dX12_next_139 rfl rfl (by decide) rfl ?_
    refine aw_goto (tgt := 51) dX12_next_142 (by decide) ?_
    exact aw_sub [1, 2, 3, 4, 5, 0] rfl h
  · have h := h.2 hc
    refine aw_aload_n (j := 0) dX12_next_75 rfl rfl ?_
    refine aw_iload (j := 5) dX12_next_76 rfl ?_
    refine aw_iload (j := 6) dX12_next_78 rfl ?_
    refine aw_iload (j := 4) dX12_next_80 rfl ?_
    refine aw_callV (rest := []) [.int x5, .int x6, .int x4] dX12_next_82 ly_187 rfl k_X12_352 rfl h (Nat.le_of_ble_eq_true rfl) (fun v m1 h => ?_)
    obtain ⟨rfl, h⟩ := h
    refine aw_eq (L' := [(0, .ref (ad 187)), (1, .int x1), (2, .int x2), (3, .int x3), (4, .int x4), (5, .int x5), (6, .int x6)]) (st' := []) (m' := m1) ?_ rfl rfl rfl
    refine aw_aload_n (j := 0) dX12_next_85 rfl rfl ?_
    refine aw_iload_n (j := 1) dX12_next_86 rfl rfl ?_
    refine aw_callV (rest := []) [.int x1] dX12_next_87 ly_187 rfl k_X12_255 rfl h (Nat.le_of_ble_eq_true rfl) (fun v m2 h => ?_)
    obtain ⟨v3, rfl, h⟩ := h
    refine aw_eq (L' := [(0, .ref (ad 187)), (1, .int x1), (2, .int x2), (3, .int x3), (4, .int x4), (5, .int x5), (6, .int x6)]) (st' := [.int v3]) (m' := m2) ?_ rfl rfl rfl
    refine aw_istore (L' := [(7, .int v3), (0, .ref (ad 187)), (1, .int x1), (2, .int x2), (3, .int x3), (4, .int x4), (5, .int x5), (6, .int x6)]) dX12_next_90 (by decide) rfl ?_
    refine aw_aload_n (j := 1) dX12_next_92 rfl rfl ?_
    refine aw_aload_n (j := 1) dX12_next_93 rfl rfl ?_
    refine aw_getfield (c := 207) (v := .ref (ad 204)) dX12_next_94 f_X12_71 ly_187 rfl rfl ?_
    refine aw_iconst (v := 0) dX12_next_97 (by decide) ?_
    refine aw_callV (rest := []) [.ref (ad 204), .int (0 : Int32)] dX12_next_98 ly_187 rfl k_X12_302 rfl h (Nat.le_of_ble_eq_true rfl) (fun v m4 h => ?_)
    obtain ⟨rfl, h⟩ := h
    refine aw_eq (L' := [(7, .int v3), (0, .ref (ad 187)), (1, .int x1), (2, .int x2), (3, .int x3), (4, .int x4), (5, .int x5), (6, .int x6)]) (st' := []) (m' := m4) ?_ rfl rfl rfl
    refine aw_iload_n (j := 3) dX12_next_101 rfl rfl ?_
    refine aw_iconst (v := -1) dX12_next_102 (by decide) ?_
    refine aw_icmp_eq (tgt := 115) dX12_next_103 (by decide) (fun hc => ?_) (fun hc => ?_)
    · have h := h.1 hc
      exact aw_sub [1, 2, 5, 6, 7, 0] rfl h
    · have h := h.2 hc
      refine aw_iload (j := 0) dX12_next_106 rfl ?_
      refine aw_iload_n (j := 4) dX12_next_108 rfl rfl ?_
      refine aw_icmp_gt (tgt := 115) dX12_next_109 (by decide) (fun hc => ?_) (fun hc => ?_)
      · have h := h.1 hc
        exact aw_sub [1, 2, 5, 6, 7, 0] rfl h
      · have h := h.2 hc
        refine aw_goto (tgt := 133) dX12_next_112 (by decide) ?_
        refine aw_iinc (j := 7) (v := x6 + (1 : Int32)) (L' := [(6, .int (x6 + (1 : Int32))), (7, .int v3), (0, .ref (ad 187)), (1, .int x1), (2, .int x2), (3, .int x3), (4, .int x4), (5, .int x5)]) dX12_next_133 rfl rfl (by decide) rfl ?_
        refine aw_goto (tgt := 66) dX12_next_136 (by decide) ?_
        exact aw_sub [2, 3, 4, 5, 6, 7, 0] rfl h
set_option maxRecDepth 100000 in
set_option maxHeartbeats 4000000 in
theorem g_X12_next_115 {ad : Nat → Nat} {d : Nat} {Q : Option Value → Wm → Prop} {m : Wm} {x1 x4 x5 x6 x7 : Int32} (h : AW ad E0 μX12_next (d + 1) Q 66 [(0, .ref (ad 187)), (1, .int x1), (2, .int ((((100 : Int32) * x4) + ((10 : Int32) * x5)) + x6)), (3, .int x7), (4, .int x4), (5, .int x5), (6, .int (x6 + (1 : Int32)))] [] m) : AW ad E0 μX12_next (d + 1) Q 115 [(0, .ref (ad 187)), (1, .int x1), (4, .int x4), (5, .int x5), (6, .int x6), (7, .int x7)] [] m := by
  refine aw_bipush (v := 100) dX12_next_115 (by decide) ?_
  refine aw_iload (j := 2) dX12_next_117 rfl ?_
  refine aw_imul dX12_next_119 ?_
  refine aw_bipush (v := 10) dX12_next_120 (by decide) ?_
  refine aw_iload (j := 3) dX12_next_122 rfl ?_
  refine aw_imul dX12_next_124 ?_
  refine aw_iadd dX12_next_125 ?_
  refine aw_iload (j := 4) dX12_next_126 rfl ?_
  refine aw_iadd dX12_next_128 ?_
  refine aw_istore_n (L' := [(2, .int ((((100 : Int32) * x4) + ((10 : Int32) * x5)) + x6)), (0, .ref (ad 187)), (1, .int x1), (4, .int x4), (5, .int x5), (6, .int x6), (7, .int x7)]) dX12_next_129 rfl (by decide) rfl ?_
  refine aw_iload (j := 6) dX12_next_130 rfl ?_
  refine aw_istore_n (L' := [(3, .int x7), (2, .int ((((100 : Int32) * x4) + ((10 : Int32) * x5)) + x6)), (0, .ref (ad 187)), (1, .int x1), (4, .int x4), (5, .int x5), (6, .int x6), (7, .int x7)]) dX12_next_132 rfl (by decide) rfl ?_
  refine aw_iinc (j := 6) (v := x6 + (1 : Int32)) (L' := [(6, .int (x6 + (1 : Int32))), (3, .int x7), (2, .int ((((100 : Int32) * x4) + ((10 : Int32) * x5)) + x6)), (0, .ref (ad 187)), (1, .int x1), (4, .int x4), (5, .int x5), (7, .int x7)]) dX12_next_133 rfl rfl (by decide) rfl ?_
  refine aw_goto (tgt := 66) dX12_next_136 (by decide) ?_
  exact aw_sub [3, 4, 2, 1, 5, 6, 0] rfl h
set_option maxRecDepth 100000 in
set_option maxHeartbeats 4000000 in
theorem v_X12_seen {ad : Nat → Nat} {d : Nat} {Q : Option Value → Wm → Prop} {m : Wm} {x1 x2 x3 : Int32} (h : (Ct ad μX12_areTwo d [.ref (ad 187), .int x1, .int x2] (uI m 187 17 (0 : Int32)) (fun r m1 => ∃ v2 : Int32, r = some (.int v2) ∧ ((v2 = 0 → Q (some (.int (-1 : Int32))) m1) ∧ (¬ v2 = 0 → (Ct ad μX12_in d [.long x3.toInt64, .long (0 : Int64), .long (2 : Int64)] m1 (fun r m3 => ∃ v4 : Int32, r = some (.int v4) ∧ ((v4 = 0 → Q (some (.int (-1 : Int32))) m3) ∧ (¬ v4 = 0 → ((¬ (m3.1 187 52) = (12 : Int32) → (vp_in ((3 : Int32) * (m3.1 187 52)) 36 ∧ (vp_in (((3 : Int32) * ((uI m3 213 ((3 : Int32) * (m3.1 187 52)).toNatClampNeg x1).1 187 52)) + (1 : Int32)) 36 ∧ (vp_in (((3 : Int32) * ((uI (uI m3 213 ((3 : Int32) * (m3.1 187 52)).toNatClampNeg x1) 213 (((3 : Int32) * ((uI m3 213 ((3 : Int32) * (m3.1 187 52)).toNatClampNeg x1).1 187 52)) + (1 : Int32)).toNatClampNeg x2).1 187 52)) + (2 : Int32)) 36 ∧ Q (some (.int ((uI (uI (uI (uI m3 213 ((3 : Int32) * (m3.1 187 52)).toNatClampNeg x1) 213 (((3 : Int32) * ((uI m3 213 ((3 : Int32) * (m3.1 187 52)).toNatClampNeg x1).1 187 52)) + (1 : Int32)).toNatClampNeg x2) 213 (((3 : Int32) * ((uI (uI m3 213 ((3 : Int32) * (m3.1 187 52)).toNatClampNeg x1) 213 (((3 : Int32) * ((uI m3 213 ((3 : Int32) * (m3.1 187 52)).toNatClampNeg x1).1 187 52)) + (1 : Int32)).toNatClampNeg x2).1 187 52)) + (2 : Int32)).toNatClampNeg x3) 187 52 (((uI (uI (uI m3 213 ((3 : Int32) * (m3.1 187 52)).toNatClampNeg x1) 213 (((3 : Int32) * ((uI m3 213 ((3 : Int32) * (m3.1 187 52)).toNatClampNeg x1).1 187 52)) + (1 : Int32)).toNatClampNeg x2) 213 (((3 : Int32) * ((uI (uI m3 213 ((3 : Int32) * (m3.1 187 52)).toNatClampNeg x1) 213 (((3 : Int32) * ((uI m3 213 ((3 : Int32) * (m3.1 187 52)).toNatClampNeg x1).1 187 52)) + (1 : Int32)).toNatClampNeg x2).1 187 52)) + (2 : Int32)).toNatClampNeg x3).1 187 52) + (1 : Int32))).1 187 52))) (uI (uI (uI (uI m3 213 ((3 : Int32) * (m3.1 187 52)).toNatClampNeg x1) 213 (((3 : Int32) * ((uI m3 213 ((3 : Int32) * (m3.1 187 52)).toNatClampNeg x1).1 187 52)) + (1 : Int32)).toNatClampNeg x2) 213 (((3 : Int32) * ((uI (uI m3 213 ((3 : Int32) * (m3.1 187 52)).toNatClampNeg x1) 213 (((3 : Int32) * ((uI m3 213 ((3 : Int32) * (m3.1 187 52)).toNatClampNeg x1).1 187 52)) + (1 : Int32)).toNatClampNeg x2).1 187 52)) + (2 : Int32)).toNatClampNeg x3) 187 52 (((uI (uI (uI m3 213 ((3 : Int32) * (m3.1 187 52)).toNatClampNeg x1) 213 (((3 : Int32) * ((uI m3 213 ((3 : Int32) * (m3.1 187 52)).toNatClampNeg x1).1 187 52)) + (1 : Int32)).toNatClampNeg x2) 213 (((3 : Int32) * ((uI (uI m3 213 ((3 : Int32) * (m3.1 187 52)).toNatClampNeg x1) 213 (((3 : Int32) * ((uI m3 213 ((3 : Int32) * (m3.1 187 52)).toNatClampNeg x1).1 187 52)) + (1 : Int32)).toNatClampNeg x2).1 187 52)) + (2 : Int32)).toNatClampNeg x3).1 187 52) + (1 : Int32))))))) ∧ ((m3.1 187 52) = (12 : Int32) → Q (some (.int (-1 : Int32))) m3))))))))))) : Ct ad μX12_seen (d + 1) [.ref (ad 187), .int x1, .int x2, .int x3] m Q := by
  refine Ct.of (by decide +kernel) rfl (Nat.le_of_ble_eq_true rfl) ?_
  refine aw_eq (L' := [(0, .ref (ad 187)), (1, .int x1), (2, .int x2), (3, .int x3)]) ?_ rfl rfl rfl
  refine aw_aload_n (j := 0) dX12_seen_0 rfl rfl ?_
  refine aw_iconst (v := 0) dX12_seen_1 (by decide) ?_
  refine aw_putI dX12_seen_2 f_X12_110 cl_X12 rfl ly_187 rfl rfl rfl ?_
  refine aw_aload_n (j := 0) dX12_seen_5 rfl rfl ?_
  refine aw_iload_n (j := 1) dX12_seen_6 rfl rfl ?_
  refine aw_iload_n (j := 2) dX12_seen_7 rfl rfl ?_
  refine aw_callV (rest := []) [.int x1, .int x2] dX12_seen_8 ly_187 rfl k_X12_267 rfl h (Nat.le_of_ble_eq_true rfl) (fun v m1 h => ?_)
  obtain ⟨v2, rfl, h⟩ := h
  refine aw_eq (L' := [(0, .ref (ad 187)), (1, .int x1), (2, .int x2), (3, .int x3)]) (st' := [.int v2]) (m' := m1) ?_ rfl rfl rfl
  refine aw_if_eq (tgt := 35) dX12_seen_11 (by decide) (fun hc => ?_) (fun hc => ?_)
  · have h := h.1 hc
    refine aw_iconst (v := -1) dX12_seen_35 (by decide) ?_
    exact aw_ret (v := some (.int (-1 : Int32))) rfl (Or.inr (Or.inl ⟨_, .int, rfl, rfl, rfl, dX12_seen_36⟩)) h
  · have h := h.2 hc
    refine aw_iload_n (j := 3) dX12_seen_14 rfl rfl ?_
    refine aw_i2l dX12_seen_15 ?_
    refine aw_lconst (v := 0) dX12_seen_16 (by decide) ?_
    refine aw_ldc2 dX12_seen_17 c_X12_419 ?_
    refine aw_callS (rest := []) [.long x3.toInt64, .long (0 : Int64), .long (2 : Int64)] dX12_seen_20 k_X12_119 rfl h (Nat.le_of_ble_eq_true rfl) (fun v m3 h => ?_)
    obtain ⟨v4, rfl, h⟩ := h
    refine aw_eq (L' := [(0, .ref (ad 187)), (1, .int x1), (2, .int x2), (3, .int x3)]) (st' := [.int v4]) (m' := m3) ?_ rfl rfl rfl
    refine aw_if_eq (tgt := 35) dX12_seen_23 (by decide) (fun hc => ?_) (fun hc => ?_)
    · have h := h.1 hc
      refine aw_iconst (v := -1) dX12_seen_35 (by decide) ?_
      exact aw_ret (v := some (.int (-1 : Int32))) rfl (Or.inr (Or.inl ⟨_, .int, rfl, rfl, rfl, dX12_seen_36⟩)) h
    · have h := h.2 hc
      refine aw_aload_n (j := 0) dX12_seen_26 rfl rfl ?_
      refine aw_getfield (c := 0) (v := .int (m3.1 187 52)) dX12_seen_27 f_X12_190 ly_187 rfl rfl ?_
      refine aw_bipush (v := 12) dX12_seen_30 (by decide) ?_
      refine aw_icmp_ne (tgt := 37) dX12_seen_32 (by decide) (fun hc => ?_) (fun hc => ?_)
      · have h := h.1 hc
        refine aw_aload_n (j := 0) dX12_seen_37 rfl rfl ?_
        refine aw_getfield (c := 216) (v := .ref (ad 213)) dX12_seen_38 f_X12_98 ly_187 rfl rfl ?_
        refine aw_iconst (v := 3) dX12_seen_41 (by decide) ?_
        refine aw_aload_n (j := 0) dX12_seen_42 rfl rfl ?_
        refine aw_getfield (c := 0) (v := .int (m3.1 187 52)) dX12_seen_43 f_X12_190 ly_187 rfl rfl ?_
        refine aw_imul dX12_seen_46 ?_
        refine aw_iload_n (j := 1) dX12_seen_47 rfl rfl ?_
        obtain ⟨hi, h⟩ := h
        refine aw_iastore dX12_seen_48 ly_213 hi ?_
        refine aw_aload_n (j := 0) dX12_seen_49 rfl rfl ?_
        refine aw_getfield (c := 216) (v := .ref (ad 213)) dX12_seen_50 f_X12_98 ly_187 rfl rfl ?_
        refine aw_iconst (v := 3) dX12_seen_53 (by decide) ?_
        refine aw_aload_n (j := 0) dX12_seen_54 rfl rfl ?_
        refine aw_getfield (c := 0) (v := .int ((uI m3 213 ((3 : Int32) * (m3.1 187 52)).toNatClampNeg x1).1 187 52)) dX12_seen_55 f_X12_190 ly_187 rfl rfl ?_
        refine aw_imul dX12_seen_58 ?_
        refine aw_iconst (v := 1) dX12_seen_59 (by decide) ?_
        refine aw_iadd dX12_seen_60 ?_
        refine aw_iload_n (j := 2) dX12_seen_61 rfl rfl ?_
        obtain ⟨hi, h⟩ := h
        refine aw_iastore dX12_seen_62 ly_213 hi ?_
        refine aw_aload_n (j := 0) dX12_seen_63 rfl rfl ?_
        refine aw_getfield (c := 216) (v := .ref (ad 213)) dX12_seen_64 f_X12_98 ly_187 rfl rfl ?_
        refine aw_iconst (v := 3) dX12_seen_67 (by decide) ?_
        refine aw_aload_n (j := 0) dX12_seen_68 rfl rfl ?_
        refine aw_getfield (c := 0) (v := .int ((uI (uI m3 213 ((3 : Int32) * (m3.1 187 52)).toNatClampNeg x1) 213 (((3 : Int32) * ((uI m3 213 ((3 : Int32) * (m3.1 187 52)).toNatClampNeg x1).1 187 52)) + (1 : Int32)).toNatClampNeg x2).1 187 52)) dX12_seen_69 f_X12_190 ly_187 rfl rfl ?_
        refine aw_imul dX12_seen_72 ?_
        refine aw_iconst (v := 2) dX12_seen_73 (by decide) ?_
        refine aw_iadd dX12_seen_74 ?_
        refine aw_iload_n (j := 3) dX12_seen_75 rfl rfl ?_
        obtain ⟨hi, h⟩ := h
        refine aw_iastore dX12_seen_76 ly_213 hi ?_
        refine aw_aload_n (j := 0) dX12_seen_77 rfl rfl ?_
        refine aw_dup dX12_seen_78 rfl ?_
        refine aw_getfield (c := 0) (v := .int ((uI (uI (uI m3 213 ((3 : Int32) * (m3.1 187 52)).toNatClampNeg x1) 213 (((3 : Int32) * ((uI m3 213 ((3 : Int32) * (m3.1 187 52)).toNatClampNeg x1).1 187 52)) + (1 : Int32)).toNatClampNeg x2) 213 (((3 : Int32) * ((uI (uI m3 213 ((3 : Int32) * (m3.1 187 52)).toNatClampNeg x1) 213 (((3 : Int32) * ((uI m3 213 ((3 : Int32) * (m3.1 187 52)).toNatClampNeg x1).1 187 52)) + (1 : Int32)).toNatClampNeg x2).1 187 52)) + (2 : Int32)).toNatClampNeg x3).1 187 52)) dX12_seen_79 f_X12_190 ly_187 rfl rfl ?_
        refine aw_iconst (v := 1) dX12_seen_82 (by decide) ?_
        refine aw_iadd dX12_seen_83 ?_
        refine aw_putI dX12_seen_84 f_X12_190 cl_X12 rfl ly_187 rfl rfl rfl ?_
        refine aw_aload_n (j := 0) dX12_seen_87 rfl rfl ?_
        refine aw_getfield (c := 0) (v := .int ((uI (uI (uI (uI m3 213 ((3 : Int32) * (m3.1 187 52)).toNatClampNeg x1) 213 (((3 : Int32) * ((uI m3 213 ((3 : Int32) * (m3.1 187 52)).toNatClampNeg x1).1 187 52)) + (1 : Int32)).toNatClampNeg x2) 213 (((3 : Int32) * ((uI (uI m3 213 ((3 : Int32) * (m3.1 187 52)).toNatClampNeg x1) 213 (((3 : Int32) * ((uI m3 213 ((3 : Int32) * (m3.1 187 52)).toNatClampNeg x1).1 187 52)) + (1 : Int32)).toNatClampNeg x2).1 187 52)) + (2 : Int32)).toNatClampNeg x3) 187 52 (((uI (uI (uI m3 213 ((3 : Int32) * (m3.1 187 52)).toNatClampNeg x1) 213 (((3 : Int32) * ((uI m3 213 ((3 : Int32) * (m3.1 187 52)).toNatClampNeg x1).1 187 52)) + (1 : Int32)).toNatClampNeg x2) 213 (((3 : Int32) * ((uI (uI m3 213 ((3 : Int32) * (m3.1 187 52)).toNatClampNeg x1) 213 (((3 : Int32) * ((uI m3 213 ((3 : Int32) * (m3.1 187 52)).toNatClampNeg x1).1 187 52)) + (1 : Int32)).toNatClampNeg x2).1 187 52)) + (2 : Int32)).toNatClampNeg x3).1 187 52) + (1 : Int32))).1 187 52)) dX12_seen_88 f_X12_190 ly_187 rfl rfl ?_
        exact aw_ret (v := some (.int ((uI (uI (uI (uI m3 213 ((3 : Int32) * (m3.1 187 52)).toNatClampNeg x1) 213 (((3 : Int32) * ((uI m3 213 ((3 : Int32) * (m3.1 187 52)).toNatClampNeg x1).1 187 52)) + (1 : Int32)).toNatClampNeg x2) 213 (((3 : Int32) * ((uI (uI m3 213 ((3 : Int32) * (m3.1 187 52)).toNatClampNeg x1) 213 (((3 : Int32) * ((uI m3 213 ((3 : Int32) * (m3.1 187 52)).toNatClampNeg x1).1 187 52)) + (1 : Int32)).toNatClampNeg x2).1 187 52)) + (2 : Int32)).toNatClampNeg x3) 187 52 (((uI (uI (uI m3 213 ((3 : Int32) * (m3.1 187 52)).toNatClampNeg x1) 213 (((3 : Int32) * ((uI m3 213 ((3 : Int32) * (m3.1 187 52)).toNatClampNeg x1).1 187 52)) + (1 : Int32)).toNatClampNeg x2) 213 (((3 : Int32) * ((uI (uI m3 213 ((3 : Int32) * (m3.1 187 52)).toNatClampNeg x1) 213 (((3 : Int32) * ((uI m3 213 ((3 : Int32) * (m3.1 187 52)).toNatClampNeg x1).1 187 52)) + (1 : Int32)).toNatClampNeg x2).1 187 52)) + (2 : Int32)).toNatClampNeg x3).1 187 52) + (1 : Int32))).1 187 52))) rfl (Or.inr (Or.inl ⟨_, .int, rfl, rfl, rfl, dX12_seen_91⟩)) h
      · have h := h.2 hc
        refine aw_iconst (v := -1) dX12_seen_35 (by decide) ?_
        exact aw_ret (v := some (.int (-1 : Int32))) rfl (Or.inr (Or.inl ⟨_, .int, rfl, rfl, rfl, dX12_seen_36⟩)) h
set_option maxRecDepth 100000 in
set_option maxHeartbeats 4000000 in
theorem v_X12_found {ad : Nat → Nat} {d : Nat} {Q : Option Value → Wm → Prop} {m : Wm} (h : AW ad E0 μX12_found (d + 1) Q 14 [(0, .ref (ad 187)), (1, .int (0 : Int32)), (2, .int (-1 : Int32)), (3, .int (0 : Int32)), (4, .int (0 : Int32))] [] (uI m 187 17 (0 : Int32))) : Ct ad μX12_found (d + 1) [.ref (ad 187)] m Q := by
  refine Ct.of (by decide +kernel) rfl (Nat.le_of_ble_eq_true rfl) ?_
  refine aw_eq (L' := [(0, .ref (ad 187))]) ?_ rfl rfl rfl
  refine aw_aload_n (j := 0) dX12_found_0 rfl rfl ?_
  refine aw_iconst (v := 0) dX12_found_1 (by decide) ?_
  refine aw_putI dX12_found_2 f_X12_110 cl_X12 rfl ly_187 rfl rfl rfl ?_
  refine aw_iconst (v := 0) dX12_found_5 (by decide) ?_
  refine aw_istore_n (L' := [(1, .int (0 : Int32)), (0, .ref (ad 187))]) dX12_found_6 rfl (by decide) rfl ?_
  refine aw_iconst (v := -1) dX12_found_7 (by decide) ?_
  refine aw_istore_n (L' := [(2, .int (-1 : Int32)), (1, .int (0 : Int32)), (0, .ref (ad 187))]) dX12_found_8 rfl (by decide) rfl ?_
  refine aw_iconst (v := 0) dX12_found_9 (by decide) ?_
  refine aw_istore_n (L' := [(3, .int (0 : Int32)), (2, .int (-1 : Int32)), (1, .int (0 : Int32)), (0, .ref (ad 187))]) dX12_found_10 rfl (by decide) rfl ?_
  refine aw_iconst (v := 0) dX12_found_11 (by decide) ?_
  refine aw_istore (L' := [(4, .int (0 : Int32)), (3, .int (0 : Int32)), (2, .int (-1 : Int32)), (1, .int (0 : Int32)), (0, .ref (ad 187))]) dX12_found_12 (by decide) rfl ?_
  exact aw_sub [4, 3, 2, 1, 0] rfl h
set_option maxRecDepth 100000 in
set_option maxHeartbeats 4000000 in
theorem g_X12_found_14 {ad : Nat → Nat} {d : Nat} {Q : Option Value → Wm → Prop} {m : Wm} {x1 x2 x3 x4 : Int32} (h : (((m.1 187 1) ≤ x4 → (Ct ad μJ6_bitCount d [.int x1] (uI m 187 16 (0 : Int32)) (fun r m1 => ∃ v2 : Int32, r = some (.int v2) ∧ (Ct ad μX12_tell d [.ref (ad 187), .long v2.toInt64] m1 (fun r m3 => r = none ∧ (Ct ad μX12_tell d [.ref (ad 187), .long x2.toInt64] m3 (fun r m4 => r = none ∧ (Ct ad μX12_tell d [.ref (ad 187), .long x3.toInt64] m4 (fun r m5 => r = none ∧ Q (some (.int x1)) m5))))))))) ∧ (¬ (m.1 187 1) ≤ x4 → AW ad E0 μX12_found (d + 1) Q 29 [(0, .ref (ad 187)), (1, .int x1), (2, .int x2), (3, .int x3), (4, .int x4), (5, .int (0 : Int32)), (6, .int (0 : Int32))] [] m))) : AW ad E0 μX12_found (d + 1) Q 14 [(0, .ref (ad 187)), (1, .int x1), (2, .int x2), (3, .int x3), (4, .int x4)] [] m := by
  refine aw_iload (j := 4) dX12_found_14 rfl ?_
  refine aw_aload_n (j := 0) dX12_found_16 rfl rfl ?_
  refine aw_getfield (c := 0) (v := .int (m.1 187 1)) dX12_found_17 f_X12_116 ly_187 rfl rfl ?_
  refine aw_icmp_ge (tgt := 161) dX12_found_20 (by decide) (fun hc => ?_) (fun hc => ?_)
  · have h := h.1 hc
    refine aw_aload_n (j := 0) dX12_found_161 rfl rfl ?_
    refine aw_iconst (v := 0) dX12_found_162 (by decide) ?_
    refine aw_putI dX12_found_163 f_X12_113 cl_X12 rfl ly_187 rfl rfl rfl ?_
    refine aw_aload_n (j := 0) dX12_found_166 rfl rfl ?_
    refine aw_iload_n (j := 1) dX12_found_167 rfl rfl ?_
    refine aw_callS (rest := [.ref (ad 187)]) [.int x1] dX12_found_168 k_X12_421 rfl h (Nat.le_of_ble_eq_true rfl) (fun v m1 h => ?_)
    obtain ⟨v2, rfl, h⟩ := h
    refine aw_eq (L' := [(0, .ref (ad 187)), (1, .int x1), (2, .int x2), (3, .int x3), (4, .int x4)]) (st' := [.int v2, .ref (ad 187)]) (m' := m1) ?_ rfl rfl rfl
    refine aw_i2l dX12_found_171 ?_
    refine aw_callV (rest := []) [.long v2.toInt64] dX12_found_172 ly_187 rfl k_X12_131 rfl h (Nat.le_of_ble_eq_true rfl) (fun v m3 h => ?_)
    obtain ⟨rfl, h⟩ := h
    refine aw_eq (L' := [(0, .ref (ad 187)), (1, .int x1), (2, .int x2), (3, .int x3), (4, .int x4)]) (st' := []) (m' := m3) ?_ rfl rfl rfl
    refine aw_aload_n (j := 0) dX12_found_175 rfl rfl ?_
    refine aw_iload_n (j := 2) dX12_found_176 rfl rfl ?_
    refine aw_i2l dX12_found_177 ?_
    refine aw_callV (rest := []) [.long x2.toInt64] dX12_found_178 ly_187 rfl k_X12_131 rfl h (Nat.le_of_ble_eq_true rfl) (fun v m4 h => ?_)
    obtain ⟨rfl, h⟩ := h
    refine aw_eq (L' := [(0, .ref (ad 187)), (1, .int x1), (2, .int x2), (3, .int x3), (4, .int x4)]) (st' := []) (m' := m4) ?_ rfl rfl rfl
    refine aw_aload_n (j := 0) dX12_found_181 rfl rfl ?_
    refine aw_iload_n (j := 3) dX12_found_182 rfl rfl ?_
    refine aw_i2l dX12_found_183 ?_
    refine aw_callV (rest := []) [.long x3.toInt64] dX12_found_184 ly_187 rfl k_X12_131 rfl h (Nat.le_of_ble_eq_true rfl) (fun v m5 h => ?_)
    obtain ⟨rfl, h⟩ := h
    refine aw_eq (L' := [(0, .ref (ad 187)), (1, .int x1), (2, .int x2), (3, .int x3), (4, .int x4)]) (st' := []) (m' := m5) ?_ rfl rfl rfl
    refine aw_iload_n (j := 1) dX12_found_187 rfl rfl ?_
    exact aw_ret (v := some (.int x1)) rfl (Or.inr (Or.inl ⟨_, .int, rfl, rfl, rfl, dX12_found_188⟩)) h
  · have h := h.2 hc
    refine aw_iconst (v := 0) dX12_found_23 (by decide) ?_
    refine aw_istore (L' := [(5, .int (0 : Int32)), (0, .ref (ad 187)), (1, .int x1), (2, .int x2), (3, .int x3), (4, .int x4)]) dX12_found_24 (by decide) rfl ?_
    refine aw_iconst (v := 0) dX12_found_26 (by decide) ?_
    refine aw_istore (L' := [(6, .int (0 : Int32)), (5, .int (0 : Int32)), (0, .ref (ad 187)), (1, .int x1), (2, .int x2), (3, .int x3), (4, .int x4)]) dX12_found_27 (by decide) rfl ?_
    exact aw_sub [2, 3, 4, 5, 6, 1, 0] rfl h
set_option maxRecDepth 100000 in
set_option maxHeartbeats 4000000 in
theorem g_X12_found_29 {ad : Nat → Nat} {d : Nat} {Q : Option Value → Wm → Prop} {m : Wm} {x1 x2 x3 x4 x5 x6 : Int32} (h : (((m.1 187 52) ≤ x6 → ((x3 < x5 → AW ad E0 μX12_found (d + 1) Q 14 [(0, .ref (ad 187)), (1, .int x1), (2, .int x4), (3, .int x5), (4, .int (x4 + (1 : Int32)))] [] m) ∧ (¬ x3 < x5 → AW ad E0 μX12_found (d + 1) Q 14 [(0, .ref (ad 187)), (1, .int x1), (2, .int x2), (3, .int x3), (4, .int (x4 + (1 : Int32)))] [] m))) ∧ (¬ (m.1 187 52) ≤ x6 → (vp_in ((3 : Int32) * x6) 36 ∧ (vp_in (((3 : Int32) * x6) + (1 : Int32)) 36 ∧ (vp_in (((3 : Int32) * x6) + (2 : Int32)) 36 ∧ (Ct ad μX12_winner d [.ref (ad 187), .int (m.1 213 ((3 : Int32) * x6).toNatClampNeg), .int (m.1 213 (((3 : Int32) * x6) + (1 : Int32)).toNatClampNeg), .int (0 : Int32)] m (fun r m1 => ∃ v2 : Int32, r = some (.int v2) ∧ ((¬ v2 = (m.1 213 (((3 : Int32) * x6) + (2 : Int32)).toNatClampNeg) → (((m.1 213 (((3 : Int32) * x6) + (2 : Int32)).toNatClampNeg) = 0 → AW ad E0 μX12_found (d + 1) Q 113 [(0, .ref (ad 187)), (1, .int (x1 ||| ((1 : Int32) <<< (x6 &&& 31)))), (2, .int x2), (3, .int x3), (4, .int x4), (6, .int x6), (8, .int (m.1 213 (((3 : Int32) * x6) + (1 : Int32)).toNatClampNeg)), (9, .int (m.1 213 (((3 : Int32) * x6) + (2 : Int32)).toNatClampNeg))] [.int x5] m1) ∧ (¬ (m.1 213 (((3 : Int32) * x6) + (2 : Int32)).toNatClampNeg) = 0 → ((x4 = (m.1 213 ((3 : Int32) * x6).toNatClampNeg) → AW ad E0 μX12_found (d + 1) Q 29 [(0, .ref (ad 187)), (1, .int (x1 ||| ((1 : Int32) <<< (x6 &&& 31)))), (2, .int x2), (3, .int x3), (4, .int x4), (5, .int (x5 + (1 : Int32))), (6, .int (x6 + (1 : Int32)))] [] m1) ∧ (¬ x4 = (m.1 213 ((3 : Int32) * x6).toNatClampNeg) → AW ad E0 μX12_found (d + 1) Q 113 [(0, .ref (ad 187)), (1, .int (x1 ||| ((1 : Int32) <<< (x6 &&& 31)))), (2, .int x2), (3, .int x3), (4, .int x4), (6, .int x6), (8, .int (m.1 213 (((3 : Int32) * x6) + (1 : Int32)).toNatClampNeg)), (9, .int (m.1 213 (((3 : Int32) * x6) + (2 : Int32)).toNatClampNeg))] [.int x5] m1))))) ∧ (v2 = (m.1 213 (((3 : Int32) * x6) + (2 : Int32)).toNatClampNeg) → AW ad E0 μX12_found (d + 1) Q 29 [(0, .ref (ad 187)), (1, .int x1), (2, .int x2), (3, .int x3), (4, .int x4), (5, .int x5), (6, .int (x6 + (1 : Int32)))] [] m1)))))))))) : AW ad E0 μX12_found (d + 1) Q 29 [(0, .ref (ad 187)), (1, .int x1), (2, .int x2), (3, .int x3), (4, .int x4), (5, .int x5), (6, .int x6)] [] m := by
  refine aw_iload (j := 6) dX12_found_29 rfl ?_
  refine aw_aload_n (j := 0) dX12_found_31 rfl rfl ?_
  refine aw_getfield (c := 0) (v := .int (m.1 187 52)) dX12_found_32 f_X12_190 ly_187 rfl rfl ?_
  refine aw_icmp_ge (tgt := 140) dX12_found_35 (by decide) (fun hc => ?_) (fun hc => ?_)
  · have h := h.1 hc
    refine aw_iload (j := 5) dX12_found_140 rfl ?_
    refine aw_iload_n (j := 3) dX12_found_142 rfl rfl ?_
    refine aw_icmp_gt (tgt := 149) dX12_found_143 (by decide) (fun hc => ?_) (fun hc => ?_)
    · have h := h.1 hc
      refine aw_iload (j := 4) dX12_found_149 rfl ?_
      refine aw_istore_n (L' := [(2, .int x4), (0, .ref (ad 187)), (1, .int x1), (3, .int x3), (4, .int x4), (5, .int x5), (6, .int x6)]) dX12_found_151 rfl (by decide) rfl ?_
      refine aw_iload (j := 5) dX12_found_152 rfl ?_
      refine aw_istore_n (L' := [(3, .int x5), (2, .int x4), (0, .ref (ad 187)), (1, .int x1), (4, .int x4), (5, .int x5), (6, .int x6)]) dX12_found_154 rfl (by decide) rfl ?_
      refine aw_iinc (j := 4) (v := x4 + (1 : Int32)) (L' := [(4, .int (x4 + (1 : Int32))), (3, .int x5), (2, .int x4), (0, .ref (ad 187)), (1, .int x1), (5, .int x5), (6, .int x6)]) dX12_found_155 rfl rfl (by decide) rfl ?_
      refine aw_goto (tgt := 14) dX12_found_158 (by decide) ?_
      exact aw_sub [3, 4, 2, 1, 0] rfl h
    · have h := h.2 hc
      refine aw_goto (tgt := 155) dX12_found_146 (by decide) ?_
      refine aw_iinc (j := 4) (v := x4 + (1 : Int32)) (L' := [(4, .int (x4 + (1 : Int32))), (0, .ref (ad 187)), (1, .int x1), (2, .int x2), (3, .int x3), (5, .int x5), (6, .int x6)]) dX12_found_155 rfl rfl (by decide) rfl ?_
      refine aw_goto (tgt := 14) dX12_found_158 (by decide) ?_
      exact aw_sub [1, 2, 3, 4, 0] rfl h
  · have h := h.2 hc
    refine aw_aload_n (j := 0) dX12_found_38 rfl rfl ?_
    refine aw_getfield (c := 216) (v := .ref (ad 213)) dX12_found_39 f_X12_98 ly_187 rfl rfl ?_
    refine aw_iconst (v := 3) dX12_found_42 (by decide) ?_
    refine aw_iload (j := 6) dX12_found_43 rfl ?_
    refine aw_imul dX12_found_45 ?_
    obtain ⟨hi, h⟩ := h
    refine aw_iaload dX12_found_46 ly_213 hi ?_
    refine aw_istore (L' := [(7, .int (m.1 213 ((3 : Int32) * x6).toNatClampNeg)), (0, .ref (ad 187)), (1, .int x1), (2, .int x2), (3, .int x3), (4, .int x4), (5, .int x5), (6, .int x6)]) dX12_found_47 (by decide) rfl ?_
    refine aw_aload_n (j := 1) dX12_found_49 rfl rfl ?_
    refine aw_getfield (c := 216) (v := .ref (ad 213)) dX12_found_50 f_X12_98 ly_187 rfl rfl ?_
    refine aw_iconst (v := 3) dX12_found_53 (by decide) ?_
    refine aw_iload (j := 7) dX12_found_54 rfl ?_
    refine aw_imul dX12_found_56 ?_
    refine aw_iconst (v := 1) dX12_found_57 (by decide) ?_
    refine aw_iadd dX12_found_58 ?_
    obtain ⟨hi, h⟩ := h
    refine aw_iaload dX12_found_59 ly_213 hi ?_
    refine aw_istore (L' := [(8, .int (m.1 213 (((3 : Int32) * x6) + (1 : Int32)).toNatClampNeg)), (7, .int (m.1 213 ((3 : Int32) * x6).toNatClampNeg)), (0, .ref (ad 187)), (1, .int x1), (2, .int x2), (3, .int x3), (4, .int x4), (5, .int x5), (6, .int x6)]) dX12_found_60 (by decide) rfl ?_
    refine aw_aload_n (j := 2) dX12_found_62 rfl rfl ?_
    refine aw_getfield (c := 216) (v := .ref (ad 213)) dX12_found_63 f_X12_98 ly_187 rfl rfl ?_
    refine aw_iconst (v := 3) dX12_found_66 (by decide) ?_
    refine aw_iload (j := 8) dX12_found_67 rfl ?_
    refine aw_imul dX12_found_69 ?_
    refine aw_iconst (v := 2) dX12_found_70 (by decide) ?_
    refine aw_iadd dX12_found_71 ?_
    obtain ⟨hi, h⟩ := h
    refine aw_iaload dX12_found_72 ly_213 hi ?_
    refine aw_istore (L' := [(9, .int (m.1 213 (((3 : Int32) * x6) + (2 : Int32)).toNatClampNeg)), (8, .int (m.1 213 (((3 : Int32) * x6) + (1 : Int32)).toNatClampNeg)), (7, .int (m.1 213 ((3 : Int32) * x6).toNatClampNeg)), (0, .ref (ad 187)), (1, .int x1), (2, .int x2), (3, .int x3), (4, .int x4), (5, .int x5), (6, .int x6)]) dX12_found_73 (by decide) rfl ?_
    refine aw_aload_n (j := 3) dX12_found_75 rfl rfl ?_
    refine aw_iload (j := 2) dX12_found_76 rfl ?_
    refine aw_iload (j := 1) dX12_found_78 rfl ?_
    refine aw_iconst (v := 0) dX12_found_80 (by decide) ?_
    refine aw_callV (rest := []) [.int (m.1 213 ((3 : Int32) * x6).toNatClampNeg), .int (m.1 213 (((3 : Int32) * x6) + (1 : Int32)).toNatClampNeg), .int (0 : Int32)] dX12_found_81 ly_187 rfl k_X12_273 rfl h (Nat.le_of_ble_eq_true rfl) (fun v m1 h => ?_)
    obtain ⟨v2, rfl, h⟩ := h
    refine aw_eq (L' := [(9, .int (m.1 213 (((3 : Int32) * x6) + (2 : Int32)).toNatClampNeg)), (8, .int (m.1 213 (((3 : Int32) * x6) + (1 : Int32)).toNatClampNeg)), (7, .int (m.1 213 ((3 : Int32) * x6).toNatClampNeg)), (0, .ref (ad 187)), (1, .int x1), (2, .int x2), (3, .int x3), (4, .int x4), (5, .int x5), (6, .int x6)]) (st' := [.int v2]) (m' := m1) ?_ rfl rfl rfl
    refine aw_iload (j := 0) dX12_found_84 rfl ?_
    refine aw_icmp_ne (tgt := 92) dX12_found_86 (by decide) (fun hc => ?_) (fun hc => ?_)
    · have h := h.1 hc
      refine aw_iload_n (j := 4) dX12_found_92 rfl rfl ?_
      refine aw_iconst (v := 1) dX12_found_93 (by decide) ?_
      refine aw_iload (j := 9) dX12_found_94 rfl ?_
      refine aw_ishl dX12_found_96 ?_
      refine aw_ior dX12_found_97 ?_
      refine aw_istore_n (L' := [(1, .int (x1 ||| ((1 : Int32) <<< (x6 &&& 31)))), (9, .int (m.1 213 (((3 : Int32) * x6) + (2 : Int32)).toNatClampNeg)), (8, .int (m.1 213 (((3 : Int32) * x6) + (1 : Int32)).toNatClampNeg)), (7, .int (m.1 213 ((3 : Int32) * x6).toNatClampNeg)), (0, .ref (ad 187)), (2, .int x2), (3, .int x3), (4, .int x4), (5, .int x5), (6, .int x6)]) dX12_found_98 rfl (by decide) rfl ?_
      refine aw_iload (j := 8) dX12_found_99 rfl ?_
      refine aw_iload (j := 1) dX12_found_101 rfl ?_
      refine aw_if_eq (tgt := 113) dX12_found_103 (by decide) (fun hc => ?_) (fun hc => ?_)
      · have h := h.1 hc
        exact aw_sub [4, 0, 5, 6, 7, 9, 2, 1] rfl h
      · have h := h.2 hc
        refine aw_iload (j := 7) dX12_found_106 rfl ?_
        refine aw_iload (j := 3) dX12_found_108 rfl ?_
        refine aw_icmp_eq (tgt := 126) dX12_found_110 (by decide) (fun hc => ?_) (fun hc => ?_)
        · have h := h.1 hc
          refine aw_iconst (v := 1) dX12_found_126 (by decide) ?_
          refine aw_goto (tgt := 131) dX12_found_127 (by decide) ?_
          refine aw_iadd dX12_found_131 ?_
          refine aw_istore (L' := [(5, .int (x5 + (1 : Int32))), (1, .int (x1 ||| ((1 : Int32) <<< (x6 &&& 31)))), (9, .int (m.1 213 (((3 : Int32) * x6) + (2 : Int32)).toNatClampNeg)), (8, .int (m.1 213 (((3 : Int32) * x6) + (1 : Int32)).toNatClampNeg)), (7, .int (m.1 213 ((3 : Int32) * x6).toNatClampNeg)), (0, .ref (ad 187)), (2, .int x2), (3, .int x3), (4, .int x4), (6, .int x6)]) dX12_found_132 (by decide) rfl ?_
          refine aw_iinc (j := 9) (v := x6 + (1 : Int32)) (L' := [(6, .int (x6 + (1 : Int32))), (5, .int (x5 + (1 : Int32))), (1, .int (x1 ||| ((1 : Int32) <<< (x6 &&& 31)))), (9, .int (m.1 213 (((3 : Int32) * x6) + (2 : Int32)).toNatClampNeg)), (8, .int (m.1 213 (((3 : Int32) * x6) + (1 : Int32)).toNatClampNeg)), (7, .int (m.1 213 ((3 : Int32) * x6).toNatClampNeg)), (0, .ref (ad 187)), (2, .int x2), (3, .int x3), (4, .int x4)]) dX12_found_134 rfl rfl (by decide) rfl ?_
          refine aw_goto (tgt := 29) dX12_found_137 (by decide) ?_
          exact aw_sub [6, 2, 7, 8, 9, 1, 0] rfl h
        · have h := h.2 hc
          exact aw_sub [4, 0, 5, 6, 7, 9, 2, 1] rfl h
    · have h := h.2 hc
      refine aw_goto (tgt := 134) dX12_found_89 (by decide) ?_
      refine aw_iinc (j := 9) (v := x6 + (1 : Int32)) (L' := [(6, .int (x6 + (1 : Int32))), (9, .int (m.1 213 (((3 : Int32) * x6) + (2 : Int32)).toNatClampNeg)), (8, .int (m.1 213 (((3 : Int32) * x6) + (1 : Int32)).toNatClampNeg)), (7, .int (m.1 213 ((3 : Int32) * x6).toNatClampNeg)), (0, .ref (ad 187)), (1, .int x1), (2, .int x2), (3, .int x3), (4, .int x4), (5, .int x5)]) dX12_found_134 rfl rfl (by decide) rfl ?_
      refine aw_goto (tgt := 29) dX12_found_137 (by decide) ?_
      exact aw_sub [4, 5, 6, 7, 8, 9, 0] rfl h
set_option maxRecDepth 100000 in
set_option maxHeartbeats 4000000 in
theorem g_X12_found_113 {ad : Nat → Nat} {d : Nat} {Q : Option Value → Wm → Prop} {m : Wm} {x1 x2 x3 x4 x6 x8 x9 s0 : Int32} (h : ((x9 = (1 : Int32) → AW ad E0 μX12_found (d + 1) Q 29 [(0, .ref (ad 187)), (1, .int x1), (2, .int x2), (3, .int x3), (4, .int x4), (5, .int (s0 + (0 : Int32))), (6, .int (x6 + (1 : Int32)))] [] m) ∧ (¬ x9 = (1 : Int32) → ((¬ x4 = x8 → AW ad E0 μX12_found (d + 1) Q 29 [(0, .ref (ad 187)), (1, .int x1), (2, .int x2), (3, .int x3), (4, .int x4), (5, .int (s0 + (0 : Int32))), (6, .int (x6 + (1 : Int32)))] [] m) ∧ (x4 = x8 → AW ad E0 μX12_found (d + 1) Q 29 [(0, .ref (ad 187)), (1, .int x1), (2, .int x2), (3, .int x3), (4, .int x4), (5, .int (s0 + (1 : Int32))), (6, .int (x6 + (1 : Int32)))] [] m))))) : AW ad E0 μX12_found (d + 1) Q 113 [(0, .ref (ad 187)), (1, .int x1), (2, .int x2), (3, .int x3), (4, .int x4), (6, .int x6), (8, .int x8), (9, .int x9)] [.int s0] m := by
  refine aw_iload (j := 7) dX12_found_113 rfl ?_
  refine aw_iconst (v := 1) dX12_found_115 (by decide) ?_
  refine aw_icmp_eq (tgt := 130) dX12_found_116 (by decide) (fun hc => ?_) (fun hc => ?_)
  · have h := h.1 hc
    refine aw_iconst (v := 0) dX12_found_130 (by decide) ?_
    refine aw_iadd dX12_found_131 ?_
    refine aw_istore (L' := [(5, .int (s0 + (0 : Int32))), (0, .ref (ad 187)), (1, .int x1), (2, .int x2), (3, .int x3), (4, .int x4), (6, .int x6), (8, .int x8), (9, .int x9)]) dX12_found_132 (by decide) rfl ?_
    refine aw_iinc (j := 6) (v := x6 + (1 : Int32)) (L' := [(6, .int (x6 + (1 : Int32))), (5, .int (s0 + (0 : Int32))), (0, .ref (ad 187)), (1, .int x1), (2, .int x2), (3, .int x3), (4, .int x4), (8, .int x8), (9, .int x9)]) dX12_found_134 rfl rfl (by decide) rfl ?_
    refine aw_goto (tgt := 29) dX12_found_137 (by decide) ?_
    exact aw_sub [2, 3, 4, 5, 6, 1, 0] rfl h
  · have h := h.2 hc
    refine aw_iload (j := 4) dX12_found_119 rfl ?_
    refine aw_iload (j := 6) dX12_found_121 rfl ?_
    refine aw_icmp_ne (tgt := 130) dX12_found_123 (by decide) (fun hc => ?_) (fun hc => ?_)
    · have h := h.1 hc
      refine aw_iconst (v := 0) dX12_found_130 (by decide) ?_
      refine aw_iadd dX12_found_131 ?_
      refine aw_istore (L' := [(5, .int (s0 + (0 : Int32))), (0, .ref (ad 187)), (1, .int x1), (2, .int x2), (3, .int x3), (4, .int x4), (6, .int x6), (8, .int x8), (9, .int x9)]) dX12_found_132 (by decide) rfl ?_
      refine aw_iinc (j := 6) (v := x6 + (1 : Int32)) (L' := [(6, .int (x6 + (1 : Int32))), (5, .int (s0 + (0 : Int32))), (0, .ref (ad 187)), (1, .int x1), (2, .int x2), (3, .int x3), (4, .int x4), (8, .int x8), (9, .int x9)]) dX12_found_134 rfl rfl (by decide) rfl ?_
      refine aw_goto (tgt := 29) dX12_found_137 (by decide) ?_
      exact aw_sub [2, 3, 4, 5, 6, 1, 0] rfl h
    · have h := h.2 hc
      refine aw_iconst (v := 1) dX12_found_126 (by decide) ?_
      refine aw_goto (tgt := 131) dX12_found_127 (by decide) ?_
      refine aw_iadd dX12_found_131 ?_
      refine aw_istore (L' := [(5, .int (s0 + (1 : Int32))), (0, .ref (ad 187)), (1, .int x1), (2, .int x2), (3, .int x3), (4, .int x4), (6, .int x6), (8, .int x8), (9, .int x9)]) dX12_found_132 (by decide) rfl ?_
      refine aw_iinc (j := 6) (v := x6 + (1 : Int32)) (L' := [(6, .int (x6 + (1 : Int32))), (5, .int (s0 + (1 : Int32))), (0, .ref (ad 187)), (1, .int x1), (2, .int x2), (3, .int x3), (4, .int x4), (8, .int x8), (9, .int x9)]) dX12_found_134 rfl rfl (by decide) rfl ?_
      refine aw_goto (tgt := 29) dX12_found_137 (by decide) ?_
      exact aw_sub [2, 3, 4, 5, 6, 1, 0] rfl h
set_option maxRecDepth 100000 in
set_option maxHeartbeats 4000000 in
theorem v_X12_prize {ad : Nat → Nat} {d : Nat} {Q : Option Value → Wm → Prop} {m : Wm} (h : ((¬ ((uI m 187 17 (0 : Int32)).1 187 1) = 0 → AW ad E0 μX12_prize (d + 1) Q 21 [(0, .ref (ad 187)), (1, .int (0 : Int32)), (2, .int (0 : Int32)), (3, .int (0 : Int32))] [] (uI m 187 17 (0 : Int32))) ∧ (((uI m 187 17 (0 : Int32)).1 187 1) = 0 → Q (some (.int (-2 : Int32))) (uI m 187 17 (0 : Int32))))) : Ct ad μX12_prize (d + 1) [.ref (ad 187)] m Q := by
  refine Ct.of (by decide +kernel) rfl (Nat.le_of_ble_eq_true rfl) ?_
  refine aw_eq (L' := [(0, .ref (ad 187))]) ?_ rfl rfl rfl
  refine aw_aload_n (j := 0) dX12_prize_0 rfl rfl ?_
  refine aw_iconst (v := 0) dX12_prize_1 (by decide) ?_
  refine aw_putI dX12_prize_2 f_X12_110 cl_X12 rfl ly_187 rfl rfl rfl ?_
  refine aw_aload_n (j := 0) dX12_prize_5 rfl rfl ?_
  refine aw_getfield (c := 0) (v := .int ((uI m 187 17 (0 : Int32)).1 187 1)) dX12_prize_6 f_X12_116 ly_187 rfl rfl ?_
  refine aw_if_ne (tgt := 15) dX12_prize_9 (by decide) (fun hc => ?_) (fun hc => ?_)
  · have h := h.1 hc
    refine aw_iconst (v := 0) dX12_prize_15 (by decide) ?_
    refine aw_istore_n (L' := [(1, .int (0 : Int32)), (0, .ref (ad 187))]) dX12_prize_16 rfl (by decide) rfl ?_
    refine aw_iconst (v := 0) dX12_prize_17 (by decide) ?_
    refine aw_istore_n (L' := [(2, .int (0 : Int32)), (1, .int (0 : Int32)), (0, .ref (ad 187))]) dX12_prize_18 rfl (by decide) rfl ?_
    refine aw_iconst (v := 0) dX12_prize_19 (by decide) ?_
    refine aw_istore_n (L' := [(3, .int (0 : Int32)), (2, .int (0 : Int32)), (1, .int (0 : Int32)), (0, .ref (ad 187))]) dX12_prize_20 rfl (by decide) rfl ?_
    exact aw_sub [3, 2, 1, 0] rfl h
  · have h := h.2 hc
    refine aw_bipush (v := -2) dX12_prize_12 (by decide) ?_
    exact aw_ret (v := some (.int (-2 : Int32))) rfl (Or.inr (Or.inl ⟨_, .int, rfl, rfl, rfl, dX12_prize_14⟩)) h
set_option maxRecDepth 100000 in
set_option maxHeartbeats 4000000 in
theorem g_X12_prize_21 {ad : Nat → Nat} {d : Nat} {Q : Option Value → Wm → Prop} {m : Wm} {x1 x2 x3 : Int32} (h : (((m.1 187 1) ≤ x3 → (vp_in x1 8 ∧ (Ct ad μX12_tell d [.ref (ad 187), .long (((uI m 187 16 (0 : Int32)).1 191 x1.toNatClampNeg).toInt64)] (uI m 187 16 (0 : Int32)) (fun r m1 => r = none ∧ (Ct ad μX12_tell d [.ref (ad 187), .long x2.toInt64] m1 (fun r m2 => r = none ∧ Q (some (.int x1)) m2)))))) ∧ (¬ (m.1 187 1) ≤ x3 → (vp_in x3 8 ∧ (vp_in x3 8 ∧ (vp_in x1 8 ∧ (((m.1 191 x3.toNatClampNeg) ≤ (m.1 191 x1.toNatClampNeg) → AW ad E0 μX12_prize (d + 1) Q 21 [(0, .ref (ad 187)), (1, .int x1), (2, .int (x2 + (m.1 191 x3.toNatClampNeg))), (3, .int (x3 + (1 : Int32)))] [] m) ∧ (¬ (m.1 191 x3.toNatClampNeg) ≤ (m.1 191 x1.toNatClampNeg) → AW ad E0 μX12_prize (d + 1) Q 21 [(0, .ref (ad 187)), (1, .int x3), (2, .int (x2 + (m.1 191 x3.toNatClampNeg))), (3, .int (x3 + (1 : Int32)))] [] m)))))))) : AW ad E0 μX12_prize (d + 1) Q 21 [(0, .ref (ad 187)), (1, .int x1), (2, .int x2), (3, .int x3)] [] m := by
  refine aw_iload_n (j := 3) dX12_prize_21 rfl rfl ?_
  refine aw_aload_n (j := 0) dX12_prize_22 rfl rfl ?_
  refine aw_getfield (c := 0) (v := .int (m.1 187 1)) dX12_prize_23 f_X12_116 ly_187 rfl rfl ?_
  refine aw_icmp_ge (tgt := 61) dX12_prize_26 (by decide) (fun hc => ?_) (fun hc => ?_)
  · have h := h.1 hc
    refine aw_aload_n (j := 0) dX12_prize_61 rfl rfl ?_
    refine aw_iconst (v := 0) dX12_prize_62 (by decide) ?_
    refine aw_putI dX12_prize_63 f_X12_113 cl_X12 rfl ly_187 rfl rfl rfl ?_
    refine aw_aload_n (j := 0) dX12_prize_66 rfl rfl ?_
    refine aw_aload_n (j := 0) dX12_prize_67 rfl rfl ?_
    refine aw_getfield (c := 194) (v := .ref (ad 191)) dX12_prize_68 f_X12_24 ly_187 rfl rfl ?_
    refine aw_iload_n (j := 1) dX12_prize_71 rfl rfl ?_
    obtain ⟨hi, h⟩ := h
    refine aw_iaload dX12_prize_72 ly_191 hi ?_
    refine aw_i2l dX12_prize_73 ?_
    refine aw_callV (rest := []) [.long (((uI m 187 16 (0 : Int32)).1 191 x1.toNatClampNeg).toInt64)] dX12_prize_74 ly_187 rfl k_X12_131 rfl h (Nat.le_of_ble_eq_true rfl) (fun v m1 h => ?_)
    obtain ⟨rfl, h⟩ := h
    refine aw_eq (L' := [(0, .ref (ad 187)), (1, .int x1), (2, .int x2), (3, .int x3)]) (st' := []) (m' := m1) ?_ rfl rfl rfl
    refine aw_aload_n (j := 0) dX12_prize_77 rfl rfl ?_
    refine aw_iload_n (j := 2) dX12_prize_78 rfl rfl ?_
    refine aw_i2l dX12_prize_79 ?_
    refine aw_callV (rest := []) [.long x2.toInt64] dX12_prize_80 ly_187 rfl k_X12_131 rfl h (Nat.le_of_ble_eq_true rfl) (fun v m2 h => ?_)
    obtain ⟨rfl, h⟩ := h
    refine aw_eq (L' := [(0, .ref (ad 187)), (1, .int x1), (2, .int x2), (3, .int x3)]) (st' := []) (m' := m2) ?_ rfl rfl rfl
    refine aw_iload_n (j := 1) dX12_prize_83 rfl rfl ?_
    exact aw_ret (v := some (.int x1)) rfl (Or.inr (Or.inl ⟨_, .int, rfl, rfl, rfl, dX12_prize_84⟩)) h
  · have h := h.2 hc
    refine aw_iload_n (j := 2) dX12_prize_29 rfl rfl ?_
    refine aw_aload_n (j := 0) dX12_prize_30 rfl rfl ?_
    refine aw_getfield (c := 194) (v := .ref (ad 191)) dX12_prize_31 f_X12_24 ly_187 rfl rfl ?_
    refine aw_iload_n (j := 3) dX12_prize_34 rfl rfl ?_
    obtain ⟨hi, h⟩ := h
    refine aw_iaload dX12_prize_35 ly_191 hi ?_
    refine aw_iadd dX12_prize_36 ?_
    refine aw_istore_n (L' := [(2, .int (x2 + (m.1 191 x3.toNatClampNeg))), (0, .ref (ad 187)), (1, .int x1), (3, .int x3)]) dX12_prize_37 rfl (by decide) rfl ?_
    refine aw_aload_n (j := 1) dX12_prize_38 rfl rfl ?_
    refine aw_getfield (c := 194) (v := .ref (ad 191)) dX12_prize_39 f_X12_24 ly_187 rfl rfl ?_
    refine aw_iload_n (j := 3) dX12_prize_42 rfl rfl ?_
    obtain ⟨hi, h⟩ := h
    refine aw_iaload dX12_prize_43 ly_191 hi ?_
    refine aw_aload_n (j := 1) dX12_prize_44 rfl rfl ?_
    refine aw_getfield (c := 194) (v := .ref (ad 191)) dX12_prize_45 f_X12_24 ly_187 rfl rfl ?_
    refine aw_iload_n (j := 2) dX12_prize_48 rfl rfl ?_
    obtain ⟨hi, h⟩ := h
    refine aw_iaload dX12_prize_49 ly_191 hi ?_
    refine aw_icmp_le (tgt := 55) dX12_prize_50 (by decide) (fun hc => ?_) (fun hc => ?_)
    · have h := h.1 hc
      refine aw_iinc (j := 3) (v := x3 + (1 : Int32)) (L' := [(3, .int (x3 + (1 : Int32))), (2, .int (x2 + (m.1 191 x3.toNatClampNeg))), (0, .ref (ad 187)), (1, .int x1)]) dX12_prize_55 rfl rfl (by decide) rfl ?_
      refine aw_goto (tgt := 21) dX12_prize_58 (by decide) ?_
      exact aw_sub [2, 3, 1, 0] rfl h
    · have h := h.2 hc
      refine aw_iload_n (j := 3) dX12_prize_53 rfl rfl ?_
      refine aw_istore_n (L' := [(1, .int x3), (2, .int (x2 + (m.1 191 x3.toNatClampNeg))), (0, .ref (ad 187)), (3, .int x3)]) dX12_prize_54 rfl (by decide) rfl ?_
      refine aw_iinc (j := 3) (v := x3 + (1 : Int32)) (L' := [(3, .int (x3 + (1 : Int32))), (1, .int x3), (2, .int (x2 + (m.1 191 x3.toNatClampNeg))), (0, .ref (ad 187))]) dX12_prize_55 rfl rfl (by decide) rfl ?_
      refine aw_goto (tgt := 21) dX12_prize_58 (by decide) ?_
      exact aw_sub [3, 1, 2, 0] rfl h
set_option maxRecDepth 100000 in
set_option maxHeartbeats 4000000 in
theorem v_X12_pointsBehind {ad : Nat → Nat} {d : Nat} {Q : Option Value → Wm → Prop} {m : Wm} {x1 x2 : Int32} (h : (Ct ad μX12_goRounds d [.ref (ad 187), .int x2, .int (m.1 187 12), .int (0 : Int32), .int (0 : Int32)] m (fun r m1 => r = none ∧ (vp_in x1 8 ∧ (Ct ad μX12_bring d [.ref (ad 187), .ref (ad 202), .int (0 : Int32)] m1 (fun r m2 => r = none ∧ Q (some (.int (m1.1 190 x1.toNatClampNeg))) m2)))))) : Ct ad μX12_pointsBehind (d + 1) [.ref (ad 187), .int x1, .int x2] m Q := by
  refine Ct.of (by decide +kernel) rfl (Nat.le_of_ble_eq_true rfl) ?_
  refine aw_eq (L' := [(0, .ref (ad 187)), (1, .int x1), (2, .int x2)]) ?_ rfl rfl rfl
  refine aw_aload_n (j := 0) dX12_pointsBehind_0 rfl rfl ?_
  refine aw_iload_n (j := 2) dX12_pointsBehind_1 rfl rfl ?_
  refine aw_aload_n (j := 0) dX12_pointsBehind_2 rfl rfl ?_
  refine aw_getfield (c := 0) (v := .int (m.1 187 12)) dX12_pointsBehind_3 f_X12_187 ly_187 rfl rfl ?_
  refine aw_iconst (v := 0) dX12_pointsBehind_6 (by decide) ?_
  refine aw_iconst (v := 0) dX12_pointsBehind_7 (by decide) ?_
  refine aw_callV (rest := []) [.int x2, .int (m.1 187 12), .int (0 : Int32), .int (0 : Int32)] dX12_pointsBehind_8 ly_187 rfl k_X12_316 rfl h (Nat.le_of_ble_eq_true rfl) (fun v m1 h => ?_)
  obtain ⟨rfl, h⟩ := h
  refine aw_eq (L' := [(0, .ref (ad 187)), (1, .int x1), (2, .int x2)]) (st' := []) (m' := m1) ?_ rfl rfl rfl
  refine aw_aload_n (j := 0) dX12_pointsBehind_11 rfl rfl ?_
  refine aw_getfield (c := 193) (v := .ref (ad 190)) dX12_pointsBehind_12 f_X12_21 ly_187 rfl rfl ?_
  refine aw_iload_n (j := 1) dX12_pointsBehind_15 rfl rfl ?_
  obtain ⟨hi, h⟩ := h
  refine aw_iaload dX12_pointsBehind_16 ly_190 hi ?_
  refine aw_istore_n (L' := [(3, .int (m1.1 190 x1.toNatClampNeg)), (0, .ref (ad 187)), (1, .int x1), (2, .int x2)]) dX12_pointsBehind_17 rfl (by decide) rfl ?_
  refine aw_aload_n (j := 1) dX12_pointsBehind_18 rfl rfl ?_
  refine aw_aload_n (j := 1) dX12_pointsBehind_19 rfl rfl ?_
  refine aw_getfield (c := 205) (v := .ref (ad 202)) dX12_pointsBehind_20 f_X12_65 ly_187 rfl rfl ?_
  refine aw_iconst (v := 0) dX12_pointsBehind_23 (by decide) ?_
  refine aw_callV (rest := []) [.ref (ad 202), .int (0 : Int32)] dX12_pointsBehind_24 ly_187 rfl k_X12_302 rfl h (Nat.le_of_ble_eq_true rfl) (fun v m2 h => ?_)
  obtain ⟨rfl, h⟩ := h
  refine aw_eq (L' := [(3, .int (m1.1 190 x1.toNatClampNeg)), (0, .ref (ad 187)), (1, .int x1), (2, .int x2)]) (st' := []) (m' := m2) ?_ rfl rfl rfl
  refine aw_iload_n (j := 0) dX12_pointsBehind_27 rfl rfl ?_
  exact aw_ret (v := some (.int (m1.1 190 x1.toNatClampNeg))) rfl (Or.inr (Or.inl ⟨_, .int, rfl, rfl, rfl, dX12_pointsBehind_28⟩)) h
set_option maxRecDepth 100000 in
set_option maxHeartbeats 4000000 in
theorem v_X12_pays {ad : Nat → Nat} {d : Nat} {Q : Option Value → Wm → Prop} {m : Wm} {x1 x2 : Int32} (h : (Ct ad μX12_isSide d [.ref (ad 187), .int x1] (uI m 187 17 (0 : Int32)) (fun r m1 => ∃ v2 : Int32, r = some (.int v2) ∧ ((v2 = 0 → Q (some (.int (-1 : Int32))) m1) ∧ (¬ v2 = 0 → (Ct ad μX12_in d [.long x2.toInt64, .long (0 : Int64), .long (50 : Int64)] m1 (fun r m3 => ∃ v4 : Int32, r = some (.int v4) ∧ ((v4 = 0 → Q (some (.int (-1 : Int32))) m3) ∧ (¬ v4 = 0 → ((¬ (m3.1 187 11) = 0 → (Ct ad μX12_lay d [.ref (ad 187), .ref (ad 202), .int (0 : Int32)] m3 (fun r m5 => r = none ∧ (Ct ad μX12_pointsBehind d [.ref (ad 187), .int x1, .int x2] m5 (fun r m6 => ∃ v7 : Int32, r = some (.int v7) ∧ (vp_in x1 8 ∧ ((¬ (m6.1 189 x1.toNatClampNeg) = 0 → AW ad E0 μX12_pays (d + 1) Q 69 [(0, .ref (ad 187)), (1, .int x1), (2, .int x2), (3, .int v7)] [.int (0 : Int32), .int x1, .ref (ad 189)] m6) ∧ ((m6.1 189 x1.toNatClampNeg) = 0 → AW ad E0 μX12_pays (d + 1) Q 69 [(0, .ref (ad 187)), (1, .int x1), (2, .int x2), (3, .int v7)] [.int (1 : Int32), .int x1, .ref (ad 189)] m6)))))))) ∧ ((m3.1 187 11) = 0 → Q (some (.int (-1 : Int32))) m3))))))))))) : Ct ad μX12_pays (d + 1) [.ref (ad 187), .int x1, .int x2] m Q := by
  refine Ct.of (by decide +kernel) rfl (Nat.le_of_ble_eq_true rfl) ?_
  refine aw_eq (L' := [(0, .ref (ad 187)), (1, .int x1), (2, .int x2)]) ?_ rfl rfl rfl
  refine aw_aload_n (j := 0) dX12_pays_0 rfl rfl ?_
  refine aw_iconst (v := 0) dX12_pays_1 (by decide) ?_
  refine aw_putI dX12_pays_2 f_X12_110 cl_X12 rfl ly_187 rfl rfl rfl ?_
  refine aw_aload_n (j := 0) dX12_pays_5 rfl rfl ?_
  refine aw_iload_n (j := 1) dX12_pays_6 rfl rfl ?_
  refine aw_callV (rest := []) [.int x1] dX12_pays_7 ly_187 rfl k_X12_123 rfl h (Nat.le_of_ble_eq_true rfl) (fun v m1 h => ?_)
  obtain ⟨v2, rfl, h⟩ := h
  refine aw_eq (L' := [(0, .ref (ad 187)), (1, .int x1), (2, .int x2)]) (st' := [.int v2]) (m' := m1) ?_ rfl rfl rfl
  refine aw_if_eq (tgt := 32) dX12_pays_10 (by decide) (fun hc => ?_) (fun hc => ?_)
  · have h := h.1 hc
    refine aw_iconst (v := -1) dX12_pays_32 (by decide) ?_
    exact aw_ret (v := some (.int (-1 : Int32))) rfl (Or.inr (Or.inl ⟨_, .int, rfl, rfl, rfl, dX12_pays_33⟩)) h
  · have h := h.2 hc
    refine aw_iload_n (j := 2) dX12_pays_13 rfl rfl ?_
    refine aw_i2l dX12_pays_14 ?_
    refine aw_lconst (v := 0) dX12_pays_15 (by decide) ?_
    refine aw_ldc2 dX12_pays_16 c_X12_426 ?_
    refine aw_callS (rest := []) [.long x2.toInt64, .long (0 : Int64), .long (50 : Int64)] dX12_pays_19 k_X12_119 rfl h (Nat.le_of_ble_eq_true rfl) (fun v m3 h => ?_)
    obtain ⟨v4, rfl, h⟩ := h
    refine aw_eq (L' := [(0, .ref (ad 187)), (1, .int x1), (2, .int x2)]) (st' := [.int v4]) (m' := m3) ?_ rfl rfl rfl
    refine aw_if_eq (tgt := 32) dX12_pays_22 (by decide) (fun hc => ?_) (fun hc => ?_)
    · have h := h.1 hc
      refine aw_iconst (v := -1) dX12_pays_32 (by decide) ?_
      exact aw_ret (v := some (.int (-1 : Int32))) rfl (Or.inr (Or.inl ⟨_, .int, rfl, rfl, rfl, dX12_pays_33⟩)) h
    · have h := h.2 hc
      refine aw_aload_n (j := 0) dX12_pays_25 rfl rfl ?_
      refine aw_getfield (c := 0) (v := .int (m3.1 187 11)) dX12_pays_26 f_X12_184 ly_187 rfl rfl ?_
      refine aw_if_ne (tgt := 34) dX12_pays_29 (by decide) (fun hc => ?_) (fun hc => ?_)
      · have h := h.1 hc
        refine aw_aload_n (j := 0) dX12_pays_34 rfl rfl ?_
        refine aw_aload_n (j := 0) dX12_pays_35 rfl rfl ?_
        refine aw_getfield (c := 205) (v := .ref (ad 202)) dX12_pays_36 f_X12_65 ly_187 rfl rfl ?_
        refine aw_iconst (v := 0) dX12_pays_39 (by decide) ?_
        refine aw_callV (rest := []) [.ref (ad 202), .int (0 : Int32)] dX12_pays_40 ly_187 rfl k_X12_291 rfl h (Nat.le_of_ble_eq_true rfl) (fun v m5 h => ?_)
        obtain ⟨rfl, h⟩ := h
        refine aw_eq (L' := [(0, .ref (ad 187)), (1, .int x1), (2, .int x2)]) (st' := []) (m' := m5) ?_ rfl rfl rfl
        refine aw_aload_n (j := 0) dX12_pays_43 rfl rfl ?_
        refine aw_iload_n (j := 1) dX12_pays_44 rfl rfl ?_
        refine aw_iload_n (j := 2) dX12_pays_45 rfl rfl ?_
        refine aw_callV (rest := []) [.int x1, .int x2] dX12_pays_46 ly_187 rfl k_X12_428 rfl h (Nat.le_of_ble_eq_true rfl) (fun v m6 h => ?_)
        obtain ⟨v7, rfl, h⟩ := h
        refine aw_eq (L' := [(0, .ref (ad 187)), (1, .int x1), (2, .int x2)]) (st' := [.int v7]) (m' := m6) ?_ rfl rfl rfl
        refine aw_istore_n (L' := [(3, .int v7), (0, .ref (ad 187)), (1, .int x1), (2, .int x2)]) dX12_pays_49 rfl (by decide) rfl ?_
        refine aw_aload_n (j := 1) dX12_pays_50 rfl rfl ?_
        refine aw_getfield (c := 192) (v := .ref (ad 189)) dX12_pays_51 f_X12_17 ly_187 rfl rfl ?_
        refine aw_iload_n (j := 2) dX12_pays_54 rfl rfl ?_
        refine aw_aload_n (j := 1) dX12_pays_55 rfl rfl ?_
        refine aw_getfield (c := 192) (v := .ref (ad 189)) dX12_pays_56 f_X12_17 ly_187 rfl rfl ?_
        refine aw_iload_n (j := 2) dX12_pays_59 rfl rfl ?_
        obtain ⟨hi, h⟩ := h
        refine aw_zaload dX12_pays_60 ly_189 hi ?_
        refine aw_if_ne (tgt := 68) dX12_pays_61 (by decide) (fun hc => ?_) (fun hc => ?_)
        · have h := h.1 hc
          refine aw_iconst (v := 0) dX12_pays_68 (by decide) ?_
          exact aw_sub [1, 2, 3, 0] rfl h
        · have h := h.2 hc
          refine aw_iconst (v := 1) dX12_pays_64 (by decide) ?_
          refine aw_goto (tgt := 69) dX12_pays_65 (by decide) ?_
          exact aw_sub [1, 2, 3, 0] rfl h
      · have h := h.2 hc
        refine aw_iconst (v := -1) dX12_pays_32 (by decide) ?_
        exact aw_ret (v := some (.int (-1 : Int32))) rfl (Or.inr (Or.inl ⟨_, .int, rfl, rfl, rfl, dX12_pays_33⟩)) h
set_option maxRecDepth 100000 in
set_option maxHeartbeats 4000000 in
theorem g_X12_pays_69 {ad : Nat → Nat} {d : Nat} {Q : Option Value → Wm → Prop} {m : Wm} {e2 ne2 : Nat} {x1 x2 x3 s0 s1 : Int32} (he2 : LAY[e2]? = some (.inr (3, ne2))) (h : (vp_in s1 ne2 ∧ (Ct ad μX12_pointsBehind d [.ref (ad 187), .int x1, .int x2] (uI m e2 s1.toNatClampNeg (vp_nar .boolean s0)) (fun r m1 => ∃ v2 : Int32, r = some (.int v2) ∧ (vp_in x1 8 ∧ ((¬ (m1.1 189 x1.toNatClampNeg) = 0 → AW ad E0 μX12_pays (d + 1) Q 97 [(0, .ref (ad 187)), (3, .int x3), (4, .int v2)] [.int (0 : Int32), .int x1, .ref (ad 189)] m1) ∧ ((m1.1 189 x1.toNatClampNeg) = 0 → AW ad E0 μX12_pays (d + 1) Q 97 [(0, .ref (ad 187)), (3, .int x3), (4, .int v2)] [.int (1 : Int32), .int x1, .ref (ad 189)] m1))))))) : AW ad E0 μX12_pays (d + 1) Q 69 [(0, .ref (ad 187)), (1, .int x1), (2, .int x2), (3, .int x3)] [.int s0, .int s1, .ref (ad e2)] m := by
  obtain ⟨hi, h⟩ := h
  refine aw_zastore dX12_pays_69 he2 hi ?_
  refine aw_aload_n (j := 0) dX12_pays_70 rfl rfl ?_
  refine aw_iload_n (j := 1) dX12_pays_71 rfl rfl ?_
  refine aw_iload_n (j := 2) dX12_pays_72 rfl rfl ?_
  refine aw_callV (rest := []) [.int x1, .int x2] dX12_pays_73 ly_187 rfl k_X12_428 rfl h (Nat.le_of_ble_eq_true rfl) (fun v m1 h => ?_)
  obtain ⟨v2, rfl, h⟩ := h
  refine aw_eq (L' := [(0, .ref (ad 187)), (1, .int x1), (2, .int x2), (3, .int x3)]) (st' := [.int v2]) (m' := m1) ?_ rfl rfl rfl
  refine aw_istore (L' := [(4, .int v2), (0, .ref (ad 187)), (1, .int x1), (2, .int x2), (3, .int x3)]) dX12_pays_76 (by decide) rfl ?_
  refine aw_aload_n (j := 1) dX12_pays_78 rfl rfl ?_
  refine aw_getfield (c := 192) (v := .ref (ad 189)) dX12_pays_79 f_X12_17 ly_187 rfl rfl ?_
  refine aw_iload_n (j := 2) dX12_pays_82 rfl rfl ?_
  refine aw_aload_n (j := 1) dX12_pays_83 rfl rfl ?_
  refine aw_getfield (c := 192) (v := .ref (ad 189)) dX12_pays_84 f_X12_17 ly_187 rfl rfl ?_
  refine aw_iload_n (j := 2) dX12_pays_87 rfl rfl ?_
  obtain ⟨hi, h⟩ := h
  refine aw_zaload dX12_pays_88 ly_189 hi ?_
  refine aw_if_ne (tgt := 96) dX12_pays_89 (by decide) (fun hc => ?_) (fun hc => ?_)
  · have h := h.1 hc
    refine aw_iconst (v := 0) dX12_pays_96 (by decide) ?_
    exact aw_sub [1, 4, 0] rfl h
  · have h := h.2 hc
    refine aw_iconst (v := 1) dX12_pays_92 (by decide) ?_
    refine aw_goto (tgt := 97) dX12_pays_93 (by decide) ?_
    exact aw_sub [1, 4, 0] rfl h
set_option maxRecDepth 100000 in
set_option maxHeartbeats 4000000 in
theorem g_X12_pays_97 {ad : Nat → Nat} {d : Nat} {Q : Option Value → Wm → Prop} {m : Wm} {e2 ne2 : Nat} {x3 x4 s0 s1 : Int32} (he2 : LAY[e2]? = some (.inr (3, ne2))) (h : (vp_in s1 ne2 ∧ (Ct ad μX12_tell d [.ref (ad 187), .long x3.toInt64] (uI (uI m e2 s1.toNatClampNeg (vp_nar .boolean s0)) 187 16 (0 : Int32)) (fun r m1 => r = none ∧ (Ct ad μX12_tell d [.ref (ad 187), .long x4.toInt64] m1 (fun r m2 => r = none ∧ Q (some (.int (x3 - x4))) m2)))))) : AW ad E0 μX12_pays (d + 1) Q 97 [(0, .ref (ad 187)), (3, .int x3), (4, .int x4)] [.int s0, .int s1, .ref (ad e2)] m := by
  obtain ⟨hi, h⟩ := h
  refine aw_zastore dX12_pays_97 he2 hi ?_
  refine aw_aload_n (j := 0) dX12_pays_98 rfl rfl ?_
  refine aw_iconst (v := 0) dX12_pays_99 (by decide) ?_
  refine aw_putI dX12_pays_100 f_X12_113 cl_X12 rfl ly_187 rfl rfl rfl ?_
  refine aw_aload_n (j := 0) dX12_pays_103 rfl rfl ?_
  refine aw_iload_n (j := 1) dX12_pays_104 rfl rfl ?_
  refine aw_i2l dX12_pays_105 ?_
  refine aw_callV (rest := []) [.long x3.toInt64] dX12_pays_106 ly_187 rfl k_X12_131 rfl h (Nat.le_of_ble_eq_true rfl) (fun v m1 h => ?_)
  obtain ⟨rfl, h⟩ := h
  refine aw_eq (L' := [(0, .ref (ad 187)), (3, .int x3), (4, .int x4)]) (st' := []) (m' := m1) ?_ rfl rfl rfl
  refine aw_aload_n (j := 0) dX12_pays_109 rfl rfl ?_
  refine aw_iload (j := 2) dX12_pays_110 rfl ?_
  refine aw_i2l dX12_pays_112 ?_
  refine aw_callV (rest := []) [.long x4.toInt64] dX12_pays_113 ly_187 rfl k_X12_131 rfl h (Nat.le_of_ble_eq_true rfl) (fun v m2 h => ?_)
  obtain ⟨rfl, h⟩ := h
  refine aw_eq (L' := [(0, .ref (ad 187)), (3, .int x3), (4, .int x4)]) (st' := []) (m' := m2) ?_ rfl rfl rfl
  refine aw_iload_n (j := 1) dX12_pays_116 rfl rfl ?_
  refine aw_iload (j := 2) dX12_pays_117 rfl ?_
  refine aw_isub dX12_pays_119 ?_
  exact aw_ret (v := some (.int (x3 - x4))) rfl (Or.inr (Or.inl ⟨_, .int, rfl, rfl, rfl, dX12_pays_120⟩)) h
set_option maxRecDepth 100000 in
set_option maxHeartbeats 4000000 in
theorem v_X12_laws {ad : Nat → Nat} {d : Nat} {Q : Option Value → Wm → Prop} {m : Wm} {x1 : Int32} (h : (Ct ad μX12_in d [.long x1.toInt64, .long (0 : Int64), .long (50 : Int64)] (uI m 187 17 (0 : Int32)) (fun r m1 => ∃ v2 : Int32, r = some (.int v2) ∧ ((v2 = 0 → Q (some (.int (-1 : Int32))) m1) ∧ (¬ v2 = 0 → ((¬ (m1.1 187 11) = 0 → (Ct ad μX12_lay d [.ref (ad 187), .ref (ad 202), .int (0 : Int32)] m1 (fun r m3 => r = none ∧ AW ad E0 μX12_laws (d + 1) Q 55 [(0, .ref (ad 187)), (1, .int x1), (2, .int (m1.1 193 (0 : Int32).toNatClampNeg)), (3, .int (0 : Int32)), (4, .int (0 : Int32)), (5, .int (0 : Int32))] [] (uI m3 187 16 (0 : Int32))))) ∧ ((m1.1 187 11) = 0 → Q (some (.int (-1 : Int32))) m1))))))) : Ct ad μX12_laws (d + 1) [.ref (ad 187), .int x1] m Q := by
  refine Ct.of (by decide +kernel) rfl (Nat.le_of_ble_eq_true rfl) ?_
  refine aw_eq (L' := [(0, .ref (ad 187)), (1, .int x1)]) ?_ rfl rfl rfl
  refine aw_aload_n (j := 0) dX12_laws_0 rfl rfl ?_
  refine aw_iconst (v := 0) dX12_laws_1 (by decide) ?_
  refine aw_putI dX12_laws_2 f_X12_110 cl_X12 rfl ly_187 rfl rfl rfl ?_
  refine aw_iload_n (j := 1) dX12_laws_5 rfl rfl ?_
  refine aw_i2l dX12_laws_6 ?_
  refine aw_lconst (v := 0) dX12_laws_7 (by decide) ?_
  refine aw_ldc2 dX12_laws_8 c_X12_426 ?_
  refine aw_callS (rest := []) [.long x1.toInt64, .long (0 : Int64), .long (50 : Int64)] dX12_laws_11 k_X12_119 rfl h (Nat.le_of_ble_eq_true rfl) (fun v m1 h => ?_)
  obtain ⟨v2, rfl, h⟩ := h
  refine aw_eq (L' := [(0, .ref (ad 187)), (1, .int x1)]) (st' := [.int v2]) (m' := m1) ?_ rfl rfl rfl
  refine aw_if_eq (tgt := 24) dX12_laws_14 (by decide) (fun hc => ?_) (fun hc => ?_)
  · have h := h.1 hc
    refine aw_iconst (v := -1) dX12_laws_24 (by decide) ?_
    exact aw_ret (v := some (.int (-1 : Int32))) rfl (Or.inr (Or.inl ⟨_, .int, rfl, rfl, rfl, dX12_laws_25⟩)) h
  · have h := h.2 hc
    refine aw_aload_n (j := 0) dX12_laws_17 rfl rfl ?_
    refine aw_getfield (c := 0) (v := .int (m1.1 187 11)) dX12_laws_18 f_X12_184 ly_187 rfl rfl ?_
    refine aw_if_ne (tgt := 26) dX12_laws_21 (by decide) (fun hc => ?_) (fun hc => ?_)
    · have h := h.1 hc
      refine aw_aload_n (j := 0) dX12_laws_26 rfl rfl ?_
      refine aw_getfield (c := 196) (v := .ref (ad 193)) dX12_laws_27 f_X12_30 ly_187 rfl rfl ?_
      refine aw_iconst (v := 0) dX12_laws_30 (by decide) ?_
      refine aw_iaload dX12_laws_31 ly_193 (by unfold vp_in; decide) ?_
      refine aw_istore_n (L' := [(2, .int (m1.1 193 (0 : Int32).toNatClampNeg)), (0, .ref (ad 187)), (1, .int x1)]) dX12_laws_32 rfl (by decide) rfl ?_
      refine aw_aload_n (j := 1) dX12_laws_33 rfl rfl ?_
      refine aw_aload_n (j := 1) dX12_laws_34 rfl rfl ?_
      refine aw_getfield (c := 205) (v := .ref (ad 202)) dX12_laws_35 f_X12_65 ly_187 rfl rfl ?_
      refine aw_iconst (v := 0) dX12_laws_38 (by decide) ?_
      refine aw_callV (rest := []) [.ref (ad 202), .int (0 : Int32)] dX12_laws_39 ly_187 rfl k_X12_291 rfl h (Nat.le_of_ble_eq_true rfl) (fun v m3 h => ?_)
      obtain ⟨rfl, h⟩ := h
      refine aw_eq (L' := [(2, .int (m1.1 193 (0 : Int32).toNatClampNeg)), (0, .ref (ad 187)), (1, .int x1)]) (st' := []) (m' := m3) ?_ rfl rfl rfl
      refine aw_iconst (v := 0) dX12_laws_42 (by decide) ?_
      refine aw_istore_n (L' := [(3, .int (0 : Int32)), (2, .int (m1.1 193 (0 : Int32).toNatClampNeg)), (0, .ref (ad 187)), (1, .int x1)]) dX12_laws_43 rfl (by decide) rfl ?_
      refine aw_iconst (v := 0) dX12_laws_44 (by decide) ?_
      refine aw_istore (L' := [(4, .int (0 : Int32)), (3, .int (0 : Int32)), (2, .int (m1.1 193 (0 : Int32).toNatClampNeg)), (0, .ref (ad 187)), (1, .int x1)]) dX12_laws_45 (by decide) rfl ?_
      refine aw_aload_n (j := 3) dX12_laws_47 rfl rfl ?_
      refine aw_iconst (v := 0) dX12_laws_48 (by decide) ?_
      refine aw_putI dX12_laws_49 f_X12_113 cl_X12 rfl ly_187 rfl rfl rfl ?_
      refine aw_iconst (v := 0) dX12_laws_52 (by decide) ?_
      refine aw_istore (L' := [(5, .int (0 : Int32)), (4, .int (0 : Int32)), (3, .int (0 : Int32)), (2, .int (m1.1 193 (0 : Int32).toNatClampNeg)), (0, .ref (ad 187)), (1, .int x1)]) dX12_laws_53 (by decide) rfl ?_
      exact aw_sub [4, 5, 3, 2, 1, 0] rfl h
    · have h := h.2 hc
      refine aw_iconst (v := -1) dX12_laws_24 (by decide) ?_
      exact aw_ret (v := some (.int (-1 : Int32))) rfl (Or.inr (Or.inl ⟨_, .int, rfl, rfl, rfl, dX12_laws_25⟩)) h
set_option maxRecDepth 100000 in
set_option maxHeartbeats 4000000 in
theorem g_X12_laws_55 {ad : Nat → Nat} {d : Nat} {Q : Option Value → Wm → Prop} {m : Wm} {x1 x2 x3 x4 x5 : Int32} (h : (((4 : Int32) ≤ x5 → Q (some (.int x3)) (uI m 193 (0 : Int32).toNatClampNeg x2)) ∧ (¬ (4 : Int32) ≤ x5 → (Ct ad μX12_goRounds d [.ref (ad 187), .int x1, .int ((uI m 193 (0 : Int32).toNatClampNeg x5).1 187 12), .int (0 : Int32), .int (0 : Int32)] (uI m 193 (0 : Int32).toNatClampNeg x5) (fun r m1 => r = none ∧ (Ct ad μX12_sumOfAll d [.ref (ad 187)] m1 (fun r m2 => ∃ v3 : Int32, r = some (.int v3) ∧ (Ct ad μX12_bring d [.ref (ad 187), .ref (ad 202), .int (0 : Int32)] m2 (fun r m4 => r = none ∧ (Ct ad μX12_tell d [.ref (ad 187), .long v3.toInt64] m4 (fun r m5 => r = none ∧ ((x5 ≤ 0 → AW ad E0 μX12_laws (d + 1) Q 55 [(0, .ref (ad 187)), (1, .int x1), (2, .int x2), (3, .int x5), (4, .int v3), (5, .int (x5 + (1 : Int32)))] [] m5) ∧ (¬ x5 ≤ 0 → ((x4 < v3 → AW ad E0 μX12_laws (d + 1) Q 55 [(0, .ref (ad 187)), (1, .int x1), (2, .int x2), (3, .int x5), (4, .int v3), (5, .int (x5 + (1 : Int32)))] [] m5) ∧ (¬ x4 < v3 → AW ad E0 μX12_laws (d + 1) Q 55 [(0, .ref (ad 187)), (1, .int x1), (2, .int x2), (3, .int x3), (4, .int x4), (5, .int (x5 + (1 : Int32)))] [] m5))))))))))))))) : AW ad E0 μX12_laws (d + 1) Q 55 [(0, .ref (ad 187)), (1, .int x1), (2, .int x2), (3, .int x3), (4, .int x4), (5, .int x5)] [] m := by
  refine aw_iload (j := 5) dX12_laws_55 rfl ?_
  refine aw_iconst (v := 4) dX12_laws_57 (by decide) ?_
  refine aw_icmp_ge (tgt := 130) dX12_laws_58 (by decide) (fun hc => ?_) (fun hc => ?_)
  · have h := h.1 hc
    refine aw_aload_n (j := 0) dX12_laws_130 rfl rfl ?_
    refine aw_getfield (c := 196) (v := .ref (ad 193)) dX12_laws_131 f_X12_30 ly_187 rfl rfl ?_
    refine aw_iconst (v := 0) dX12_laws_134 (by decide) ?_
    refine aw_iload_n (j := 2) dX12_laws_135 rfl rfl ?_
    refine aw_iastore dX12_laws_136 ly_193 (by unfold vp_in; decide) ?_
    refine aw_iload_n (j := 3) dX12_laws_137 rfl rfl ?_
    exact aw_ret (v := some (.int x3)) rfl (Or.inr (Or.inl ⟨_, .int, rfl, rfl, rfl, dX12_laws_138⟩)) h
  · have h := h.2 hc
    refine aw_aload_n (j := 0) dX12_laws_61 rfl rfl ?_
    refine aw_getfield (c := 196) (v := .ref (ad 193)) dX12_laws_62 f_X12_30 ly_187 rfl rfl ?_
    refine aw_iconst (v := 0) dX12_laws_65 (by decide) ?_
    refine aw_iload (j := 5) dX12_laws_66 rfl ?_
    refine aw_iastore dX12_laws_68 ly_193 (by unfold vp_in; decide) ?_
    refine aw_aload_n (j := 0) dX12_laws_69 rfl rfl ?_
    refine aw_iload_n (j := 1) dX12_laws_70 rfl rfl ?_
    refine aw_aload_n (j := 0) dX12_laws_71 rfl rfl ?_
    refine aw_getfield (c := 0) (v := .int ((uI m 193 (0 : Int32).toNatClampNeg x5).1 187 12)) dX12_laws_72 f_X12_187 ly_187 rfl rfl ?_
    refine aw_iconst (v := 0) dX12_laws_75 (by decide) ?_
    refine aw_iconst (v := 0) dX12_laws_76 (by decide) ?_
    refine aw_callV (rest := []) [.int x1, .int ((uI m 193 (0 : Int32).toNatClampNeg x5).1 187 12), .int (0 : Int32), .int (0 : Int32)] dX12_laws_77 ly_187 rfl k_X12_316 rfl h (Nat.le_of_ble_eq_true rfl) (fun v m1 h => ?_)
    obtain ⟨rfl, h⟩ := h
    refine aw_eq (L' := [(0, .ref (ad 187)), (1, .int x1), (2, .int x2), (3, .int x3), (4, .int x4), (5, .int x5)]) (st' := []) (m' := m1) ?_ rfl rfl rfl
    refine aw_aload_n (j := 0) dX12_laws_80 rfl rfl ?_
    refine aw_callV (rest := []) [] dX12_laws_81 ly_187 rfl k_X12_305 rfl h (Nat.le_of_ble_eq_true rfl) (fun v m2 h => ?_)
    obtain ⟨v3, rfl, h⟩ := h
    refine aw_eq (L' := [(0, .ref (ad 187)), (1, .int x1), (2, .int x2), (3, .int x3), (4, .int x4), (5, .int x5)]) (st' := [.int v3]) (m' := m2) ?_ rfl rfl rfl
    refine aw_istore (L' := [(6, .int v3), (0, .ref (ad 187)), (1, .int x1), (2, .int x2), (3, .int x3), (4, .int x4), (5, .int x5)]) dX12_laws_84 (by decide) rfl ?_
    refine aw_aload_n (j := 1) dX12_laws_86 rfl rfl ?_
    refine aw_aload_n (j := 1) dX12_laws_87 rfl rfl ?_
    refine aw_getfield (c := 205) (v := .ref (ad 202)) dX12_laws_88 f_X12_65 ly_187 rfl rfl ?_
    refine aw_iconst (v := 0) dX12_laws_91 (by decide) ?_
    refine aw_callV (rest := []) [.ref (ad 202), .int (0 : Int32)] dX12_laws_92 ly_187 rfl k_X12_302 rfl h (Nat.le_of_ble_eq_true rfl) (fun v m4 h => ?_)
    obtain ⟨rfl, h⟩ := h
    refine aw_eq (L' := [(6, .int v3), (0, .ref (ad 187)), (1, .int x1), (2, .int x2), (3, .int x3), (4, .int x4), (5, .int x5)]) (st' := []) (m' := m4) ?_ rfl rfl rfl
    refine aw_aload_n (j := 1) dX12_laws_95 rfl rfl ?_
    refine aw_iload (j := 0) dX12_laws_96 rfl ?_
    refine aw_i2l dX12_laws_98 ?_
    refine aw_callV (rest := []) [.long v3.toInt64] dX12_laws_99 ly_187 rfl k_X12_131 rfl h (Nat.le_of_ble_eq_true rfl) (fun v m5 h => ?_)
    obtain ⟨rfl, h⟩ := h
    refine aw_eq (L' := [(6, .int v3), (0, .ref (ad 187)), (1, .int x1), (2, .int x2), (3, .int x3), (4, .int x4), (5, .int x5)]) (st' := []) (m' := m5) ?_ rfl rfl rfl
    refine aw_iload (j := 6) dX12_laws_102 rfl ?_
    refine aw_if_le (tgt := 117) dX12_laws_104 (by decide) (fun hc => ?_) (fun hc => ?_)
    · have h := h.1 hc
      refine aw_iload (j := 6) dX12_laws_117 rfl ?_
      refine aw_istore_n (L' := [(3, .int x5), (6, .int v3), (0, .ref (ad 187)), (1, .int x1), (2, .int x2), (4, .int x4), (5, .int x5)]) dX12_laws_119 rfl (by decide) rfl ?_
      refine aw_iload (j := 1) dX12_laws_120 rfl ?_
      refine aw_istore (L' := [(4, .int v3), (3, .int x5), (6, .int v3), (0, .ref (ad 187)), (1, .int x1), (2, .int x2), (5, .int x5)]) dX12_laws_122 (by decide) rfl ?_
      refine aw_iinc (j := 6) (v := x5 + (1 : Int32)) (L' := [(5, .int (x5 + (1 : Int32))), (4, .int v3), (3, .int x5), (6, .int v3), (0, .ref (ad 187)), (1, .int x1), (2, .int x2)]) dX12_laws_124 rfl rfl (by decide) rfl ?_
      refine aw_goto (tgt := 55) dX12_laws_127 (by decide) ?_
      exact aw_sub [4, 5, 6, 2, 1, 0] rfl h
    · have h := h.2 hc
      refine aw_iload (j := 0) dX12_laws_107 rfl ?_
      refine aw_iload (j := 5) dX12_laws_109 rfl ?_
      refine aw_icmp_gt (tgt := 117) dX12_laws_111 (by decide) (fun hc => ?_) (fun hc => ?_)
      · have h := h.1 hc
        refine aw_iload (j := 6) dX12_laws_117 rfl ?_
        refine aw_istore_n (L' := [(3, .int x5), (6, .int v3), (0, .ref (ad 187)), (1, .int x1), (2, .int x2), (4, .int x4), (5, .int x5)]) dX12_laws_119 rfl (by decide) rfl ?_
        refine aw_iload (j := 1) dX12_laws_120 rfl ?_
        refine aw_istore (L' := [(4, .int v3), (3, .int x5), (6, .int v3), (0, .ref (ad 187)), (1, .int x1), (2, .int x2), (5, .int x5)]) dX12_laws_122 (by decide) rfl ?_
        refine aw_iinc (j := 6) (v := x5 + (1 : Int32)) (L' := [(5, .int (x5 + (1 : Int32))), (4, .int v3), (3, .int x5), (6, .int v3), (0, .ref (ad 187)), (1, .int x1), (2, .int x2)]) dX12_laws_124 rfl rfl (by decide) rfl ?_
        refine aw_goto (tgt := 55) dX12_laws_127 (by decide) ?_
        exact aw_sub [4, 5, 6, 2, 1, 0] rfl h
      · have h := h.2 hc
        refine aw_goto (tgt := 124) dX12_laws_114 (by decide) ?_
        refine aw_iinc (j := 6) (v := x5 + (1 : Int32)) (L' := [(5, .int (x5 + (1 : Int32))), (6, .int v3), (0, .ref (ad 187)), (1, .int x1), (2, .int x2), (3, .int x3), (4, .int x4)]) dX12_laws_124 rfl rfl (by decide) rfl ?_
        refine aw_goto (tgt := 55) dX12_laws_127 (by decide) ?_
        exact aw_sub [2, 3, 4, 5, 6, 0] rfl h
set_option maxRecDepth 100000 in
set_option maxHeartbeats 4000000 in
theorem v_X12_seed {ad : Nat → Nat} {d : Nat} {Q : Option Value → Wm → Prop} {m : Wm} {x1 : Int32} (h : Q (some (.int ((uI m 187 17 (0 : Int32)).1 187 8))) (uI (uI m 187 17 (0 : Int32)) 187 8 x1)) : Ct ad μX12_seed d [.ref (ad 187), .int x1] m Q := by
  refine Ct.of (by decide +kernel) rfl (Nat.le_of_ble_eq_true rfl) ?_
  refine aw_eq (L' := [(0, .ref (ad 187)), (1, .int x1)]) ?_ rfl rfl rfl
  refine aw_aload_n (j := 0) dX12_seed_0 rfl rfl ?_
  refine aw_iconst (v := 0) dX12_seed_1 (by decide) ?_
  refine aw_putI dX12_seed_2 f_X12_110 cl_X12 rfl ly_187 rfl rfl rfl ?_
  refine aw_aload_n (j := 0) dX12_seed_5 rfl rfl ?_
  refine aw_getfield (c := 0) (v := .int ((uI m 187 17 (0 : Int32)).1 187 8)) dX12_seed_6 f_X12_33 ly_187 rfl rfl ?_
  refine aw_istore_n (L' := [(2, .int ((uI m 187 17 (0 : Int32)).1 187 8)), (0, .ref (ad 187)), (1, .int x1)]) dX12_seed_9 rfl (by decide) rfl ?_
  refine aw_aload_n (j := 1) dX12_seed_10 rfl rfl ?_
  refine aw_iload_n (j := 2) dX12_seed_11 rfl rfl ?_
  refine aw_putI dX12_seed_12 f_X12_33 cl_X12 rfl ly_187 rfl rfl rfl ?_
  refine aw_iload_n (j := 0) dX12_seed_15 rfl rfl ?_
  exact aw_ret (v := some (.int ((uI m 187 17 (0 : Int32)).1 187 8))) rfl (Or.inr (Or.inl ⟨_, .int, rfl, rfl, rfl, dX12_seed_16⟩)) h
set_option maxRecDepth 100000 in
set_option maxHeartbeats 4000000 in
theorem v_X12_keep {ad : Nat → Nat} {d : Nat} {Q : Option Value → Wm → Prop} {m : Wm} {x1 : Int32} (h : (Ct ad μX12_in d [.long x1.toInt64, .long (0 : Int64), .long (1 : Int64)] (uI m 187 17 (0 : Int32)) (fun r m1 => ∃ v2 : Int32, r = some (.int v2) ∧ ((¬ v2 = 0 → (vp_in x1 2 ∧ (vp_in x1 2 ∧ (Ct ad μX12_lay d [.ref (ad 187), .ref (ad 214), .int ((71 : Int32) * x1)] (uI (uI m1 215 x1.toNatClampNeg (vp_nar .boolean (1 : Int32))) 216 x1.toNatClampNeg ((uI m1 215 x1.toNatClampNeg (vp_nar .boolean (1 : Int32))).1 187 53)) (fun r m3 => r = none ∧ AW ad E0 μX12_keep (d + 1) Q 53 [(0, .ref (ad 187)), (2, .int (((71 : Int32) * x1) + (57 : Int32))), (3, .int (0 : Int32))] [] m3))))) ∧ (v2 = 0 → Q (some (.int (0 : Int32))) m1))))) : Ct ad μX12_keep (d + 1) [.ref (ad 187), .int x1] m Q := by
  refine Ct.of (by decide +kernel) rfl (Nat.le_of_ble_eq_true rfl) ?_
  refine aw_eq (L' := [(0, .ref (ad 187)), (1, .int x1)]) ?_ rfl rfl rfl
  refine aw_aload_n (j := 0) dX12_keep_0 rfl rfl ?_
  refine aw_iconst (v := 0) dX12_keep_1 (by decide) ?_
  refine aw_putI dX12_keep_2 f_X12_110 cl_X12 rfl ly_187 rfl rfl rfl ?_
  refine aw_iload_n (j := 1) dX12_keep_5 rfl rfl ?_
  refine aw_i2l dX12_keep_6 ?_
  refine aw_lconst (v := 0) dX12_keep_7 (by decide) ?_
  refine aw_lconst (v := 1) dX12_keep_8 (by decide) ?_
  refine aw_callS (rest := []) [.long x1.toInt64, .long (0 : Int64), .long (1 : Int64)] dX12_keep_9 k_X12_119 rfl h (Nat.le_of_ble_eq_true rfl) (fun v m1 h => ?_)
  obtain ⟨v2, rfl, h⟩ := h
  refine aw_eq (L' := [(0, .ref (ad 187)), (1, .int x1)]) (st' := [.int v2]) (m' := m1) ?_ rfl rfl rfl
  refine aw_if_ne (tgt := 17) dX12_keep_12 (by decide) (fun hc => ?_) (fun hc => ?_)
  · have h := h.1 hc
    refine aw_aload_n (j := 0) dX12_keep_17 rfl rfl ?_
    refine aw_getfield (c := 218) (v := .ref (ad 215)) dX12_keep_18 f_X12_104 ly_187 rfl rfl ?_
    refine aw_iload_n (j := 1) dX12_keep_21 rfl rfl ?_
    refine aw_iconst (v := 1) dX12_keep_22 (by decide) ?_
    obtain ⟨hi, h⟩ := h
    refine aw_zastore dX12_keep_23 ly_215 hi ?_
    refine aw_aload_n (j := 0) dX12_keep_24 rfl rfl ?_
    refine aw_getfield (c := 219) (v := .ref (ad 216)) dX12_keep_25 f_X12_107 ly_187 rfl rfl ?_
    refine aw_iload_n (j := 1) dX12_keep_28 rfl rfl ?_
    refine aw_aload_n (j := 0) dX12_keep_29 rfl rfl ?_
    refine aw_getfield (c := 0) (v := .int ((uI m1 215 x1.toNatClampNeg (vp_nar .boolean (1 : Int32))).1 187 53)) dX12_keep_30 f_X12_193 ly_187 rfl rfl ?_
    obtain ⟨hi, h⟩ := h
    refine aw_iastore dX12_keep_33 ly_216 hi ?_
    refine aw_bipush (v := 71) dX12_keep_34 (by decide) ?_
    refine aw_iload_n (j := 1) dX12_keep_36 rfl rfl ?_
    refine aw_imul dX12_keep_37 ?_
    refine aw_istore_n (L' := [(2, .int ((71 : Int32) * x1)), (0, .ref (ad 187)), (1, .int x1)]) dX12_keep_38 rfl (by decide) rfl ?_
    refine aw_aload_n (j := 1) dX12_keep_39 rfl rfl ?_
    refine aw_aload_n (j := 1) dX12_keep_40 rfl rfl ?_
    refine aw_getfield (c := 217) (v := .ref (ad 214)) dX12_keep_41 f_X12_101 ly_187 rfl rfl ?_
    refine aw_iload_n (j := 0) dX12_keep_44 rfl rfl ?_
    refine aw_callV (rest := []) [.ref (ad 214), .int ((71 : Int32) * x1)] dX12_keep_45 ly_187 rfl k_X12_291 rfl h (Nat.le_of_ble_eq_true rfl) (fun v m3 h => ?_)
    obtain ⟨rfl, h⟩ := h
    refine aw_eq (L' := [(2, .int ((71 : Int32) * x1)), (0, .ref (ad 187)), (1, .int x1)]) (st' := []) (m' := m3) ?_ rfl rfl rfl
    refine aw_iinc (j := 0) (v := ((71 : Int32) * x1) + (57 : Int32)) (L' := [(2, .int (((71 : Int32) * x1) + (57 : Int32))), (0, .ref (ad 187)), (1, .int x1)]) dX12_keep_48 rfl rfl (by decide) rfl ?_
    refine aw_iconst (v := 0) dX12_keep_51 (by decide) ?_
    refine aw_istore_n (L' := [(3, .int (0 : Int32)), (2, .int (((71 : Int32) * x1) + (57 : Int32))), (0, .ref (ad 187)), (1, .int x1)]) dX12_keep_52 rfl (by decide) rfl ?_
    exact aw_sub [2, 1, 0] rfl h
  · have h := h.2 hc
    refine aw_iconst (v := 0) dX12_keep_15 (by decide) ?_
    exact aw_ret (v := some (.int (0 : Int32))) rfl (Or.inr (Or.inl ⟨_, .boolean, rfl, rfl, by decide, dX12_keep_16⟩)) h
set_option maxRecDepth 100000 in
set_option maxHeartbeats 4000000 in
theorem g_X12_keep_53 {ad : Nat → Nat} {d : Nat} {Q : Option Value → Wm → Prop} {m : Wm} {x2 x3 : Int32} (h : (((8 : Int32) ≤ x3 → AW ad E0 μX12_keep (d + 1) Q 92 [(0, .ref (ad 187)), (2, .int (x2 + (8 : Int32))), (3, .int (0 : Int32))] [] m) ∧ (¬ (8 : Int32) ≤ x3 → (vp_in x3 8 ∧ (((m.1 189 x3.toNatClampNeg) = 0 → (vp_in (x2 + x3) 142 ∧ AW ad E0 μX12_keep (d + 1) Q 53 [(0, .ref (ad 187)), (2, .int x2), (3, .int (x3 + (1 : Int32)))] [] (uI m 214 (x2 + x3).toNatClampNeg (0 : Int32)))) ∧ (¬ (m.1 189 x3.toNatClampNeg) = 0 → (vp_in (x2 + x3) 142 ∧ AW ad E0 μX12_keep (d + 1) Q 53 [(0, .ref (ad 187)), (2, .int x2), (3, .int (x3 + (1 : Int32)))] [] (uI m 214 (x2 + x3).toNatClampNeg (1 : Int32))))))))) : AW ad E0 μX12_keep (d + 1) Q 53 [(0, .ref (ad 187)), (2, .int x2), (3, .int x3)] [] m := by
  refine aw_iload_n (j := 2) dX12_keep_53 rfl rfl ?_
  refine aw_bipush (v := 8) dX12_keep_54 (by decide) ?_
  refine aw_icmp_ge (tgt := 87) dX12_keep_56 (by decide) (fun hc => ?_) (fun hc => ?_)
  · have h := h.1 hc
    refine aw_iinc (j := 1) (v := x2 + (8 : Int32)) (L' := [(2, .int (x2 + (8 : Int32))), (0, .ref (ad 187)), (3, .int x3)]) dX12_keep_87 rfl rfl (by decide) rfl ?_
    refine aw_iconst (v := 0) dX12_keep_90 (by decide) ?_
    refine aw_istore_n (L' := [(3, .int (0 : Int32)), (2, .int (x2 + (8 : Int32))), (0, .ref (ad 187))]) dX12_keep_91 rfl (by decide) rfl ?_
    exact aw_sub [2, 1, 0] rfl h
  · have h := h.2 hc
    refine aw_aload_n (j := 0) dX12_keep_59 rfl rfl ?_
    refine aw_getfield (c := 217) (v := .ref (ad 214)) dX12_keep_60 f_X12_101 ly_187 rfl rfl ?_
    refine aw_iload_n (j := 1) dX12_keep_63 rfl rfl ?_
    refine aw_iload_n (j := 2) dX12_keep_64 rfl rfl ?_
    refine aw_iadd dX12_keep_65 ?_
    refine aw_aload_n (j := 0) dX12_keep_66 rfl rfl ?_
    refine aw_getfield (c := 192) (v := .ref (ad 189)) dX12_keep_67 f_X12_17 ly_187 rfl rfl ?_
    refine aw_iload_n (j := 2) dX12_keep_70 rfl rfl ?_
    obtain ⟨hi, h⟩ := h
    refine aw_zaload dX12_keep_71 ly_189 hi ?_
    refine aw_if_eq (tgt := 79) dX12_keep_72 (by decide) (fun hc => ?_) (fun hc => ?_)
    · have h := h.1 hc
      refine aw_iconst (v := 0) dX12_keep_79 (by decide) ?_
      obtain ⟨hi, h⟩ := h
      refine aw_iastore dX12_keep_80 ly_214 hi ?_
      refine aw_iinc (j := 2) (v := x3 + (1 : Int32)) (L' := [(3, .int (x3 + (1 : Int32))), (0, .ref (ad 187)), (2, .int x2)]) dX12_keep_81 rfl rfl (by decide) rfl ?_
      refine aw_goto (tgt := 53) dX12_keep_84 (by decide) ?_
      exact aw_sub [1, 2, 0] rfl h
    · have h := h.2 hc
      refine aw_iconst (v := 1) dX12_keep_75 (by decide) ?_
      refine aw_goto (tgt := 80) dX12_keep_76 (by decide) ?_
      obtain ⟨hi, h⟩ := h
      refine aw_iastore dX12_keep_80 ly_214 hi ?_
      refine aw_iinc (j := 2) (v := x3 + (1 : Int32)) (L' := [(3, .int (x3 + (1 : Int32))), (0, .ref (ad 187)), (2, .int x2)]) dX12_keep_81 rfl rfl (by decide) rfl ?_
      refine aw_goto (tgt := 53) dX12_keep_84 (by decide) ?_
      exact aw_sub [1, 2, 0] rfl h
set_option maxRecDepth 100000 in
set_option maxHeartbeats 4000000 in
theorem g_X12_keep_92 {ad : Nat → Nat} {d : Nat} {Q : Option Value → Wm → Prop} {m : Wm} {x2 x3 : Int32} (h : (((5 : Int32) ≤ x3 → (vp_in (x2 + (5 : Int32)) 142 ∧ Q (some (.int (1 : Int32))) (uI m 214 (x2 + (5 : Int32)).toNatClampNeg (m.1 187 12)))) ∧ (¬ (5 : Int32) ≤ x3 → (vp_in x3 5 ∧ (vp_in (x2 + x3) 142 ∧ AW ad E0 μX12_keep (d + 1) Q 92 [(0, .ref (ad 187)), (2, .int x2), (3, .int (x3 + (1 : Int32)))] [] (uI m 214 (x2 + x3).toNatClampNeg (m.1 193 x3.toNatClampNeg))))))) : AW ad E0 μX12_keep (d + 1) Q 92 [(0, .ref (ad 187)), (2, .int x2), (3, .int x3)] [] m := by
  refine aw_iload_n (j := 2) dX12_keep_92 rfl rfl ?_
  refine aw_iconst (v := 5) dX12_keep_93 (by decide) ?_
  refine aw_icmp_ge (tgt := 117) dX12_keep_94 (by decide) (fun hc => ?_) (fun hc => ?_)
  · have h := h.1 hc
    refine aw_aload_n (j := 0) dX12_keep_117 rfl rfl ?_
    refine aw_getfield (c := 217) (v := .ref (ad 214)) dX12_keep_118 f_X12_101 ly_187 rfl rfl ?_
    refine aw_iload_n (j := 1) dX12_keep_121 rfl rfl ?_
    refine aw_iconst (v := 5) dX12_keep_122 (by decide) ?_
    refine aw_iadd dX12_keep_123 ?_
    refine aw_aload_n (j := 0) dX12_keep_124 rfl rfl ?_
    refine aw_getfield (c := 0) (v := .int (m.1 187 12)) dX12_keep_125 f_X12_187 ly_187 rfl rfl ?_
    obtain ⟨hi, h⟩ := h
    refine aw_iastore dX12_keep_128 ly_214 hi ?_
    refine aw_iconst (v := 1) dX12_keep_129 (by decide) ?_
    exact aw_ret (v := some (.int (1 : Int32))) rfl (Or.inr (Or.inl ⟨_, .boolean, rfl, rfl, by decide, dX12_keep_130⟩)) h
  · have h := h.2 hc
    refine aw_aload_n (j := 0) dX12_keep_97 rfl rfl ?_
    refine aw_getfield (c := 217) (v := .ref (ad 214)) dX12_keep_98 f_X12_101 ly_187 rfl rfl ?_
    refine aw_iload_n (j := 1) dX12_keep_101 rfl rfl ?_
    refine aw_iload_n (j := 2) dX12_keep_102 rfl rfl ?_
    refine aw_iadd dX12_keep_103 ?_
    refine aw_aload_n (j := 0) dX12_keep_104 rfl rfl ?_
    refine aw_getfield (c := 196) (v := .ref (ad 193)) dX12_keep_105 f_X12_30 ly_187 rfl rfl ?_
    refine aw_iload_n (j := 2) dX12_keep_108 rfl rfl ?_
    obtain ⟨hi, h⟩ := h
    refine aw_iaload dX12_keep_109 ly_193 hi ?_
    obtain ⟨hi, h⟩ := h
    refine aw_iastore dX12_keep_110 ly_214 hi ?_
    refine aw_iinc (j := 2) (v := x3 + (1 : Int32)) (L' := [(3, .int (x3 + (1 : Int32))), (0, .ref (ad 187)), (2, .int x2)]) dX12_keep_111 rfl rfl (by decide) rfl ?_
    refine aw_goto (tgt := 92) dX12_keep_114 (by decide) ?_
    exact aw_sub [1, 2, 0] rfl h
set_option maxRecDepth 100000 in
set_option maxHeartbeats 4000000 in
theorem v_X12_again {ad : Nat → Nat} {d : Nat} {Q : Option Value → Wm → Prop} {m : Wm} {x1 : Int32} (h : (Ct ad μX12_in d [.long x1.toInt64, .long (0 : Int64), .long (1 : Int64)] (uI m 187 17 (0 : Int32)) (fun r m1 => ∃ v2 : Int32, r = some (.int v2) ∧ ((v2 = 0 → Q (some (.int (0 : Int32))) m1) ∧ (¬ v2 = 0 → (vp_in x1 2 ∧ (((m1.1 215 x1.toNatClampNeg) = 0 → Q (some (.int (0 : Int32))) m1) ∧ (¬ (m1.1 215 x1.toNatClampNeg) = 0 → (vp_in x1 2 ∧ (((m1.1 216 x1.toNatClampNeg) = (m1.1 187 53) → (Ct ad μX12_bring d [.ref (ad 187), .ref (ad 214), .int ((71 : Int32) * x1)] m1 (fun r m3 => r = none ∧ AW ad E0 μX12_again (d + 1) Q 58 [(0, .ref (ad 187)), (2, .int (((71 : Int32) * x1) + (57 : Int32))), (3, .int (0 : Int32))] [] m3))) ∧ (¬ (m1.1 216 x1.toNatClampNeg) = (m1.1 187 53) → Q (some (.int (0 : Int32))) m1))))))))))) : Ct ad μX12_again (d + 1) [.ref (ad 187), .int x1] m Q := by
  refine Ct.of (by decide +kernel) rfl (Nat.le_of_ble_eq_true rfl) ?_
  refine aw_eq (L' := [(0, .ref (ad 187)), (1, .int x1)]) ?_ rfl rfl rfl
  refine aw_aload_n (j := 0) dX12_again_0 rfl rfl ?_
  refine aw_iconst (v := 0) dX12_again_1 (by decide) ?_
  refine aw_putI dX12_again_2 f_X12_110 cl_X12 rfl ly_187 rfl rfl rfl ?_
  refine aw_iload_n (j := 1) dX12_again_5 rfl rfl ?_
  refine aw_i2l dX12_again_6 ?_
  refine aw_lconst (v := 0) dX12_again_7 (by decide) ?_
  refine aw_lconst (v := 1) dX12_again_8 (by decide) ?_
  refine aw_callS (rest := []) [.long x1.toInt64, .long (0 : Int64), .long (1 : Int64)] dX12_again_9 k_X12_119 rfl h (Nat.le_of_ble_eq_true rfl) (fun v m1 h => ?_)
  obtain ⟨v2, rfl, h⟩ := h
  refine aw_eq (L' := [(0, .ref (ad 187)), (1, .int x1)]) (st' := [.int v2]) (m' := m1) ?_ rfl rfl rfl
  refine aw_if_eq (tgt := 37) dX12_again_12 (by decide) (fun hc => ?_) (fun hc => ?_)
  · have h := h.1 hc
    refine aw_iconst (v := 0) dX12_again_37 (by decide) ?_
    exact aw_ret (v := some (.int (0 : Int32))) rfl (Or.inr (Or.inl ⟨_, .boolean, rfl, rfl, by decide, dX12_again_38⟩)) h
  · have h := h.2 hc
    refine aw_aload_n (j := 0) dX12_again_15 rfl rfl ?_
    refine aw_getfield (c := 218) (v := .ref (ad 215)) dX12_again_16 f_X12_104 ly_187 rfl rfl ?_
    refine aw_iload_n (j := 1) dX12_again_19 rfl rfl ?_
    obtain ⟨hi, h⟩ := h
    refine aw_zaload dX12_again_20 ly_215 hi ?_
    refine aw_if_eq (tgt := 37) dX12_again_21 (by decide) (fun hc => ?_) (fun hc => ?_)
    · have h := h.1 hc
      refine aw_iconst (v := 0) dX12_again_37 (by decide) ?_
      exact aw_ret (v := some (.int (0 : Int32))) rfl (Or.inr (Or.inl ⟨_, .boolean, rfl, rfl, by decide, dX12_again_38⟩)) h
    · have h := h.2 hc
      refine aw_aload_n (j := 0) dX12_again_24 rfl rfl ?_
      refine aw_getfield (c := 219) (v := .ref (ad 216)) dX12_again_25 f_X12_107 ly_187 rfl rfl ?_
      refine aw_iload_n (j := 1) dX12_again_28 rfl rfl ?_
      obtain ⟨hi, h⟩ := h
      refine aw_iaload dX12_again_29 ly_216 hi ?_
      refine aw_aload_n (j := 0) dX12_again_30 rfl rfl ?_
      refine aw_getfield (c := 0) (v := .int (m1.1 187 53)) dX12_again_31 f_X12_193 ly_187 rfl rfl ?_
      refine aw_icmp_eq (tgt := 39) dX12_again_34 (by decide) (fun hc => ?_) (fun hc => ?_)
      · have h := h.1 hc
        refine aw_bipush (v := 71) dX12_again_39 (by decide) ?_
        refine aw_iload_n (j := 1) dX12_again_41 rfl rfl ?_
        refine aw_imul dX12_again_42 ?_
        refine aw_istore_n (L' := [(2, .int ((71 : Int32) * x1)), (0, .ref (ad 187)), (1, .int x1)]) dX12_again_43 rfl (by decide) rfl ?_
        refine aw_aload_n (j := 1) dX12_again_44 rfl rfl ?_
        refine aw_aload_n (j := 1) dX12_again_45 rfl rfl ?_
        refine aw_getfield (c := 217) (v := .ref (ad 214)) dX12_again_46 f_X12_101 ly_187 rfl rfl ?_
        refine aw_iload_n (j := 0) dX12_again_49 rfl rfl ?_
        refine aw_callV (rest := []) [.ref (ad 214), .int ((71 : Int32) * x1)] dX12_again_50 ly_187 rfl k_X12_302 rfl h (Nat.le_of_ble_eq_true rfl) (fun v m3 h => ?_)
        obtain ⟨rfl, h⟩ := h
        refine aw_eq (L' := [(2, .int ((71 : Int32) * x1)), (0, .ref (ad 187)), (1, .int x1)]) (st' := []) (m' := m3) ?_ rfl rfl rfl
        refine aw_iinc (j := 0) (v := ((71 : Int32) * x1) + (57 : Int32)) (L' := [(2, .int (((71 : Int32) * x1) + (57 : Int32))), (0, .ref (ad 187)), (1, .int x1)]) dX12_again_53 rfl rfl (by decide) rfl ?_
        refine aw_iconst (v := 0) dX12_again_56 (by decide) ?_
        refine aw_istore_n (L' := [(3, .int (0 : Int32)), (2, .int (((71 : Int32) * x1) + (57 : Int32))), (0, .ref (ad 187)), (1, .int x1)]) dX12_again_57 rfl (by decide) rfl ?_
        exact aw_sub [2, 1, 0] rfl h
      · have h := h.2 hc
        refine aw_iconst (v := 0) dX12_again_37 (by decide) ?_
        exact aw_ret (v := some (.int (0 : Int32))) rfl (Or.inr (Or.inl ⟨_, .boolean, rfl, rfl, by decide, dX12_again_38⟩)) h
set_option maxRecDepth 100000 in
set_option maxHeartbeats 4000000 in
theorem g_X12_again_58 {ad : Nat → Nat} {d : Nat} {Q : Option Value → Wm → Prop} {m : Wm} {x2 x3 : Int32} (h : (((8 : Int32) ≤ x3 → AW ad E0 μX12_again (d + 1) Q 98 [(0, .ref (ad 187)), (2, .int (x2 + (8 : Int32))), (3, .int (0 : Int32))] [] m) ∧ (¬ (8 : Int32) ≤ x3 → (vp_in (x2 + x3) 142 ∧ ((¬ (m.1 214 (x2 + x3).toNatClampNeg) = (1 : Int32) → (vp_in x3 8 ∧ AW ad E0 μX12_again (d + 1) Q 58 [(0, .ref (ad 187)), (2, .int x2), (3, .int (x3 + (1 : Int32)))] [] (uI m 189 x3.toNatClampNeg (vp_nar .boolean (0 : Int32))))) ∧ ((m.1 214 (x2 + x3).toNatClampNeg) = (1 : Int32) → (vp_in x3 8 ∧ AW ad E0 μX12_again (d + 1) Q 58 [(0, .ref (ad 187)), (2, .int x2), (3, .int (x3 + (1 : Int32)))] [] (uI m 189 x3.toNatClampNeg (vp_nar .boolean (1 : Int32)))))))))) : AW ad E0 μX12_again (d + 1) Q 58 [(0, .ref (ad 187)), (2, .int x2), (3, .int x3)] [] m := by
  refine aw_iload_n (j := 2) dX12_again_58 rfl rfl ?_
  refine aw_bipush (v := 8) dX12_again_59 (by decide) ?_
  refine aw_icmp_ge (tgt := 93) dX12_again_61 (by decide) (fun hc => ?_) (fun hc => ?_)
  · have h := h.1 hc
    refine aw_iinc (j := 1) (v := x2 + (8 : Int32)) (L' := [(2, .int (x2 + (8 : Int32))), (0, .ref (ad 187)), (3, .int x3)]) dX12_again_93 rfl rfl (by decide) rfl ?_
    refine aw_iconst (v := 0) dX12_again_96 (by decide) ?_
    refine aw_istore_n (L' := [(3, .int (0 : Int32)), (2, .int (x2 + (8 : Int32))), (0, .ref (ad 187))]) dX12_again_97 rfl (by decide) rfl ?_
    exact aw_sub [2, 1, 0] rfl h
  · have h := h.2 hc
    refine aw_aload_n (j := 0) dX12_again_64 rfl rfl ?_
    refine aw_getfield (c := 192) (v := .ref (ad 189)) dX12_again_65 f_X12_17 ly_187 rfl rfl ?_
    refine aw_iload_n (j := 2) dX12_again_68 rfl rfl ?_
    refine aw_aload_n (j := 0) dX12_again_69 rfl rfl ?_
    refine aw_getfield (c := 217) (v := .ref (ad 214)) dX12_again_70 f_X12_101 ly_187 rfl rfl ?_
    refine aw_iload_n (j := 1) dX12_again_73 rfl rfl ?_
    refine aw_iload_n (j := 2) dX12_again_74 rfl rfl ?_
    refine aw_iadd dX12_again_75 ?_
    obtain ⟨hi, h⟩ := h
    refine aw_iaload dX12_again_76 ly_214 hi ?_
    refine aw_iconst (v := 1) dX12_again_77 (by decide) ?_
    refine aw_icmp_ne (tgt := 85) dX12_again_78 (by decide) (fun hc => ?_) (fun hc => ?_)
    · have h := h.1 hc
      refine aw_iconst (v := 0) dX12_again_85 (by decide) ?_
      obtain ⟨hi, h⟩ := h
      refine aw_zastore dX12_again_86 ly_189 hi ?_
      refine aw_iinc (j := 2) (v := x3 + (1 : Int32)) (L' := [(3, .int (x3 + (1 : Int32))), (0, .ref (ad 187)), (2, .int x2)]) dX12_again_87 rfl rfl (by decide) rfl ?_
      refine aw_goto (tgt := 58) dX12_again_90 (by decide) ?_
      exact aw_sub [1, 2, 0] rfl h
    · have h := h.2 hc
      refine aw_iconst (v := 1) dX12_again_81 (by decide) ?_
      refine aw_goto (tgt := 86) dX12_again_82 (by decide) ?_
      obtain ⟨hi, h⟩ := h
      refine aw_zastore dX12_again_86 ly_189 hi ?_
      refine aw_iinc (j := 2) (v := x3 + (1 : Int32)) (L' := [(3, .int (x3 + (1 : Int32))), (0, .ref (ad 187)), (2, .int x2)]) dX12_again_87 rfl rfl (by decide) rfl ?_
      refine aw_goto (tgt := 58) dX12_again_90 (by decide) ?_
      exact aw_sub [1, 2, 0] rfl h
set_option maxRecDepth 100000 in
set_option maxHeartbeats 4000000 in
theorem g_X12_again_98 {ad : Nat → Nat} {d : Nat} {Q : Option Value → Wm → Prop} {m : Wm} {x2 x3 : Int32} (h : (((5 : Int32) ≤ x3 → ((¬ (m.1 187 11) = 0 → (vp_in (x2 + (5 : Int32)) 142 ∧ (¬ m.1 187 11 = 0 ∧ Q (some (.int (1 : Int32))) (uI (uI m 187 12 ((m.1 214 (x2 + (5 : Int32)).toNatClampNeg) - (m.1 214 (x2 + (5 : Int32)).toNatClampNeg) / (m.1 187 11) * (m.1 187 11))) 187 30 (0 : Int32))))) ∧ ((m.1 187 11) = 0 → Q (some (.int (1 : Int32))) (uI (uI m 187 12 (0 : Int32)) 187 30 (0 : Int32))))) ∧ (¬ (5 : Int32) ≤ x3 → (vp_in (x2 + x3) 142 ∧ (vp_in x3 5 ∧ AW ad E0 μX12_again (d + 1) Q 98 [(0, .ref (ad 187)), (2, .int x2), (3, .int (x3 + (1 : Int32)))] [] (uI m 193 x3.toNatClampNeg (m.1 214 (x2 + x3).toNatClampNeg))))))) : AW ad E0 μX12_again (d + 1) Q 98 [(0, .ref (ad 187)), (2, .int x2), (3, .int x3)] [] m := by
  refine aw_iload_n (j := 2) dX12_again_98 rfl rfl ?_
  refine aw_iconst (v := 5) dX12_again_99 (by decide) ?_
  refine aw_icmp_ge (tgt := 123) dX12_again_100 (by decide) (fun hc => ?_) (fun hc => ?_)
  · have h := h.1 hc
    refine aw_aload_n (j := 0) dX12_again_123 rfl rfl ?_
    refine aw_aload_n (j := 0) dX12_again_124 rfl rfl ?_
    refine aw_getfield (c := 0) (v := .int (m.1 187 11)) dX12_again_125 f_X12_184 ly_187 rfl rfl ?_
    refine aw_if_ne (tgt := 135) dX12_again_128 (by decide) (fun hc => ?_) (fun hc => ?_)
    · have h := h.1 hc
      refine aw_aload_n (j := 0) dX12_again_135 rfl rfl ?_
      refine aw_getfield (c := 217) (v := .ref (ad 214)) dX12_again_136 f_X12_101 ly_187 rfl rfl ?_
      refine aw_iload_n (j := 1) dX12_again_139 rfl rfl ?_
      refine aw_iconst (v := 5) dX12_again_140 (by decide) ?_
      refine aw_iadd dX12_again_141 ?_
      obtain ⟨hi, h⟩ := h
      refine aw_iaload dX12_again_142 ly_214 hi ?_
      refine aw_aload_n (j := 0) dX12_again_143 rfl rfl ?_
      refine aw_getfield (c := 0) (v := .int (m.1 187 11)) dX12_again_144 f_X12_184 ly_187 rfl rfl ?_
      obtain ⟨hz, h⟩ := h
      refine aw_irem dX12_again_147 hz ?_
      refine aw_putI dX12_again_148 f_X12_187 cl_X12 rfl ly_187 rfl rfl rfl ?_
      refine aw_aload_n (j := 0) dX12_again_151 rfl rfl ?_
      refine aw_iconst (v := 0) dX12_again_152 (by decide) ?_
      refine aw_putI dX12_again_153 f_X12_196 cl_X12 rfl ly_187 rfl rfl rfl ?_
      refine aw_iconst (v := 1) dX12_again_156 (by decide) ?_
      exact aw_ret (v := some (.int (1 : Int32))) rfl (Or.inr (Or.inl ⟨_, .boolean, rfl, rfl, by decide, dX12_again_157⟩)) h
    · have h := h.2 hc
      refine aw_iconst (v := 0) dX12_again_131 (by decide) ?_
      refine aw_goto (tgt := 148) dX12_again_132 (by decide) ?_
      refine aw_putI dX12_again_148 f_X12_187 cl_X12 rfl ly_187 rfl rfl rfl ?_
      refine aw_aload_n (j := 0) dX12_again_151 rfl rfl ?_
      refine aw_iconst (v := 0) dX12_again_152 (by decide) ?_
      refine aw_putI dX12_again_153 f_X12_196 cl_X12 rfl ly_187 rfl rfl rfl ?_
      refine aw_iconst (v := 1) dX12_again_156 (by decide) ?_
      exact aw_ret (v := some (.int (1 : Int32))) rfl (Or.inr (Or.inl ⟨_, .boolean, rfl, rfl, by decide, dX12_again_157⟩)) h
  · have h := h.2 hc
    refine aw_aload_n (j := 0) dX12_again_103 rfl rfl ?_
    refine aw_getfield (c := 196) (v := .ref (ad 193)) dX12_again_104 f_X12_30 ly_187 rfl rfl ?_
    refine aw_iload_n (j := 2) dX12_again_107 rfl rfl ?_
    refine aw_aload_n (j := 0) dX12_again_108 rfl rfl ?_
    refine aw_getfield (c := 217) (v := .ref (ad 214)) dX12_again_109 f_X12_101 ly_187 rfl rfl ?_
    refine aw_iload_n (j := 1) dX12_again_112 rfl rfl ?_
    refine aw_iload_n (j := 2) dX12_again_113 rfl rfl ?_
    refine aw_iadd dX12_again_114 ?_
    obtain ⟨hi, h⟩ := h
    refine aw_iaload dX12_again_115 ly_214 hi ?_
    obtain ⟨hi, h⟩ := h
    refine aw_iastore dX12_again_116 ly_193 hi ?_
    refine aw_iinc (j := 2) (v := x3 + (1 : Int32)) (L' := [(3, .int (x3 + (1 : Int32))), (0, .ref (ad 187)), (2, .int x2)]) dX12_again_117 rfl rfl (by decide) rfl ?_
    refine aw_goto (tgt := 98) dX12_again_120 (by decide) ?_
    exact aw_sub [1, 2, 0] rfl h
set_option maxRecDepth 100000 in
set_option maxHeartbeats 4000000 in
theorem v_X12_count {ad : Nat → Nat} {d : Nat} {Q : Option Value → Wm → Prop} {m : Wm} {x1 : Int32} (h : ((x1 = 0 → Q (some (.int ((uI m 187 17 (0 : Int32)).1 187 1))) (uI m 187 17 (0 : Int32))) ∧ (x1 = 1 → Q (some (.int ((uI m 187 17 (0 : Int32)).1 187 0))) (uI m 187 17 (0 : Int32))) ∧ (x1 = 2 → Q (some (.int ((uI m 187 17 (0 : Int32)).1 187 11))) (uI m 187 17 (0 : Int32))) ∧ (x1 = 3 → Q (some (.int ((uI m 187 17 (0 : Int32)).1 187 12))) (uI m 187 17 (0 : Int32))) ∧ (x1 = 4 → Q (some (.int ((uI m 187 17 (0 : Int32)).1 187 30))) (uI m 187 17 (0 : Int32))) ∧ (x1 = 5 → Q (some (.int ((uI m 187 17 (0 : Int32)).1 187 52))) (uI m 187 17 (0 : Int32))) ∧ (x1 = 6 → Q (some (.int ((uI m 187 17 (0 : Int32)).1 187 16))) (uI m 187 17 (0 : Int32))) ∧ (x1 = 7 → Q (some (.int ((uI m 187 17 (0 : Int32)).1 187 14))) (uI m 187 17 (0 : Int32))) ∧ (x1 = 8 → Q (some (.int ((uI m 187 17 (0 : Int32)).1 187 10))) (uI m 187 17 (0 : Int32))) ∧ (¬ x1 = 0 → ¬ x1 = 1 → ¬ x1 = 2 → ¬ x1 = 3 → ¬ x1 = 4 → ¬ x1 = 5 → ¬ x1 = 6 → ¬ x1 = 7 → ¬ x1 = 8 → Q (some (.int (-1 : Int32))) (uI m 187 17 (0 : Int32))))) : Ct ad μX12_count d [.ref (ad 187), .int x1] m Q := by
  refine Ct.of (by decide +kernel) rfl (Nat.le_of_ble_eq_true rfl) ?_
  refine aw_eq (L' := [(0, .ref (ad 187)), (1, .int x1)]) ?_ rfl rfl rfl
  refine aw_aload_n (j := 0) dX12_count_0 rfl rfl ?_
  refine aw_iconst (v := 0) dX12_count_1 (by decide) ?_
  refine aw_putI dX12_count_2 f_X12_110 cl_X12 rfl ly_187 rfl rfl rfl ?_
  refine aw_iload_n (j := 1) dX12_count_5 rfl rfl ?_
  by_cases c0 : x1 = 0
  · have h := h.1 c0
    refine aw_tswIn (tgt := 56) dX12_count_6 c0 (by decide) (by decide) (by first | rfl | decide) (by decide) ?_
    refine aw_aload_n (j := 0) dX12_count_56 rfl rfl ?_
    refine aw_getfield (c := 0) (v := .int ((uI m 187 17 (0 : Int32)).1 187 1)) dX12_count_57 f_X12_116 ly_187 rfl rfl ?_
    exact aw_ret (v := some (.int ((uI m 187 17 (0 : Int32)).1 187 1))) rfl (Or.inr (Or.inl ⟨_, .int, rfl, rfl, rfl, dX12_count_60⟩)) h
  by_cases c1 : x1 = 1
  · have h := h.2.1 c1
    refine aw_tswIn (tgt := 61) dX12_count_6 c1 (by decide) (by decide) (by first | rfl | decide) (by decide) ?_
    refine aw_aload_n (j := 0) dX12_count_61 rfl rfl ?_
    refine aw_getfield (c := 0) (v := .int ((uI m 187 17 (0 : Int32)).1 187 0)) dX12_count_62 f_X12_9 ly_187 rfl rfl ?_
    exact aw_ret (v := some (.int ((uI m 187 17 (0 : Int32)).1 187 0))) rfl (Or.inr (Or.inl ⟨_, .int, rfl, rfl, rfl, dX12_count_65⟩)) h
  by_cases c2 : x1 = 2
  · have h := h.2.2.1 c2
    refine aw_tswIn (tgt := 66) dX12_count_6 c2 (by decide) (by decide) (by first | rfl | decide) (by decide) ?_
    refine aw_aload_n (j := 0) dX12_count_66 rfl rfl ?_
    refine aw_getfield (c := 0) (v := .int ((uI m 187 17 (0 : Int32)).1 187 11)) dX12_count_67 f_X12_184 ly_187 rfl rfl ?_
    exact aw_ret (v := some (.int ((uI m 187 17 (0 : Int32)).1 187 11))) rfl (Or.inr (Or.inl ⟨_, .int, rfl, rfl, rfl, dX12_count_70⟩)) h
  by_cases c3 : x1 = 3
  · have h := h.2.2.2.1 c3
    refine aw_tswIn (tgt := 71) dX12_count_6 c3 (by decide) (by decide) (by first | rfl | decide) (by decide) ?_
    refine aw_aload_n (j := 0) dX12_count_71 rfl rfl ?_
    refine aw_getfield (c := 0) (v := .int ((uI m 187 17 (0 : Int32)).1 187 12)) dX12_count_72 f_X12_187 ly_187 rfl rfl ?_
    exact aw_ret (v := some (.int ((uI m 187 17 (0 : Int32)).1 187 12))) rfl (Or.inr (Or.inl ⟨_, .int, rfl, rfl, rfl, dX12_count_75⟩)) h
  by_cases c4 : x1 = 4
  · have h := h.2.2.2.2.1 c4
    refine aw_tswIn (tgt := 76) dX12_count_6 c4 (by decide) (by decide) (by first | rfl | decide) (by decide) ?_
    refine aw_aload_n (j := 0) dX12_count_76 rfl rfl ?_
    refine aw_getfield (c := 0) (v := .int ((uI m 187 17 (0 : Int32)).1 187 30)) dX12_count_77 f_X12_196 ly_187 rfl rfl ?_
    exact aw_ret (v := some (.int ((uI m 187 17 (0 : Int32)).1 187 30))) rfl (Or.inr (Or.inl ⟨_, .int, rfl, rfl, rfl, dX12_count_80⟩)) h
  by_cases c5 : x1 = 5
  · have h := h.2.2.2.2.2.1 c5
    refine aw_tswIn (tgt := 81) dX12_count_6 c5 (by decide) (by decide) (by first | rfl | decide) (by decide) ?_
    refine aw_aload_n (j := 0) dX12_count_81 rfl rfl ?_
    refine aw_getfield (c := 0) (v := .int ((uI m 187 17 (0 : Int32)).1 187 52)) dX12_count_82 f_X12_190 ly_187 rfl rfl ?_
    exact aw_ret (v := some (.int ((uI m 187 17 (0 : Int32)).1 187 52))) rfl (Or.inr (Or.inl ⟨_, .int, rfl, rfl, rfl, dX12_count_85⟩)) h
  by_cases c6 : x1 = 6
  · have h := h.2.2.2.2.2.2.1 c6
    refine aw_tswIn (tgt := 86) dX12_count_6 c6 (by decide) (by decide) (by first | rfl | decide) (by decide) ?_
    refine aw_aload_n (j := 0) dX12_count_86 rfl rfl ?_
    refine aw_getfield (c := 0) (v := .int ((uI m 187 17 (0 : Int32)).1 187 16)) dX12_count_87 f_X12_113 ly_187 rfl rfl ?_
    exact aw_ret (v := some (.int ((uI m 187 17 (0 : Int32)).1 187 16))) rfl (Or.inr (Or.inl ⟨_, .int, rfl, rfl, rfl, dX12_count_90⟩)) h
  by_cases c7 : x1 = 7
  · have h := h.2.2.2.2.2.2.2.1 c7
    refine aw_tswIn (tgt := 91) dX12_count_6 c7 (by decide) (by decide) (by first | rfl | decide) (by decide) ?_
    refine aw_aload_n (j := 0) dX12_count_91 rfl rfl ?_
    refine aw_getfield (c := 0) (v := .int ((uI m 187 17 (0 : Int32)).1 187 14)) dX12_count_92 f_X12_135 ly_187 rfl rfl ?_
    exact aw_ret (v := some (.int ((uI m 187 17 (0 : Int32)).1 187 14))) rfl (Or.inr (Or.inl ⟨_, .int, rfl, rfl, rfl, dX12_count_95⟩)) h
  by_cases c8 : x1 = 8
  · have h := h.2.2.2.2.2.2.2.2.1 c8
    refine aw_tswIn (tgt := 96) dX12_count_6 c8 (by decide) (by decide) (by first | rfl | decide) (by decide) ?_
    refine aw_aload_n (j := 0) dX12_count_96 rfl rfl ?_
    refine aw_getfield (c := 0) (v := .int ((uI m 187 17 (0 : Int32)).1 187 10)) dX12_count_97 f_X12_181 ly_187 rfl rfl ?_
    exact aw_ret (v := some (.int ((uI m 187 17 (0 : Int32)).1 187 10))) rfl (Or.inr (Or.inl ⟨_, .int, rfl, rfl, rfl, dX12_count_100⟩)) h
  have h := h.2.2.2.2.2.2.2.2.2 c0 c1 c2 c3 c4 c5 c6 c7 c8
  refine aw_tswOut (tgt := 101) dX12_count_6 (by have e0 := i32_ne (n := 0) c0 (by decide); have e1 := i32_ne (n := 1) c1 (by decide); have e2 := i32_ne (n := 2) c2 (by decide); have e3 := i32_ne (n := 3) c3 (by decide); have e4 := i32_ne (n := 4) c4 (by decide); have e5 := i32_ne (n := 5) c5 (by decide); have e6 := i32_ne (n := 6) c6 (by decide); have e7 := i32_ne (n := 7) c7 (by decide); have e8 := i32_ne (n := 8) c8 (by decide); omega) (by decide) ?_
  refine aw_iconst (v := -1) dX12_count_101 (by decide) ?_
  exact aw_ret (v := some (.int (-1 : Int32))) rfl (Or.inr (Or.inl ⟨_, .int, rfl, rfl, rfl, dX12_count_102⟩)) h
set_option maxRecDepth 100000 in
set_option maxHeartbeats 4000000 in
theorem v_X12_row {ad : Nat → Nat} {d : Nat} {Q : Option Value → Wm → Prop} {m : Wm} {x1 : Int32} (h : (Ct ad μX12_in d [.long x1.toInt64, .long (0 : Int64), .long ((((uI m 187 17 (0 : Int32)).1 187 16) - (1 : Int32)).toInt64)] (uI m 187 17 (0 : Int32)) (fun r m1 => ∃ v2 : Int32, r = some (.int v2) ∧ ((v2 = 0 → (Ct ad μX12_lost d [.ref (ad 187)] m1 (fun r m3 => ∃ v4 : Int32, r = some (.int v4) ∧ Q (some (.long v4.toInt64)) m3))) ∧ (¬ v2 = 0 → (vp_in x1 16 ∧ Q (some (.long (m1.2.1 196 x1.toNatClampNeg))) m1)))))) : Ct ad μX12_row (d + 1) [.ref (ad 187), .int x1] m Q := by
  refine Ct.of (by decide +kernel) rfl (Nat.le_of_ble_eq_true rfl) ?_
  refine aw_eq (L' := [(0, .ref (ad 187)), (1, .int x1)]) ?_ rfl rfl rfl
  refine aw_aload_n (j := 0) dX12_row_0 rfl rfl ?_
  refine aw_iconst (v := 0) dX12_row_1 (by decide) ?_
  refine aw_putI dX12_row_2 f_X12_110 cl_X12 rfl ly_187 rfl rfl rfl ?_
  refine aw_iload_n (j := 1) dX12_row_5 rfl rfl ?_
  refine aw_i2l dX12_row_6 ?_
  refine aw_lconst (v := 0) dX12_row_7 (by decide) ?_
  refine aw_aload_n (j := 0) dX12_row_8 rfl rfl ?_
  refine aw_getfield (c := 0) (v := .int ((uI m 187 17 (0 : Int32)).1 187 16)) dX12_row_9 f_X12_113 ly_187 rfl rfl ?_
  refine aw_iconst (v := 1) dX12_row_12 (by decide) ?_
  refine aw_isub dX12_row_13 ?_
  refine aw_i2l dX12_row_14 ?_
  refine aw_callS (rest := []) [.long x1.toInt64, .long (0 : Int64), .long ((((uI m 187 17 (0 : Int32)).1 187 16) - (1 : Int32)).toInt64)] dX12_row_15 k_X12_119 rfl h (Nat.le_of_ble_eq_true rfl) (fun v m1 h => ?_)
  obtain ⟨v2, rfl, h⟩ := h
  refine aw_eq (L' := [(0, .ref (ad 187)), (1, .int x1)]) (st' := [.int v2]) (m' := m1) ?_ rfl rfl rfl
  refine aw_if_eq (tgt := 30) dX12_row_18 (by decide) (fun hc => ?_) (fun hc => ?_)
  · have h := h.1 hc
    refine aw_aload_n (j := 0) dX12_row_30 rfl rfl ?_
    refine aw_callV (rest := []) [] dX12_row_31 ly_187 rfl k_X12_252 rfl h (Nat.le_of_ble_eq_true rfl) (fun v m3 h => ?_)
    obtain ⟨v4, rfl, h⟩ := h
    refine aw_eq (L' := [(0, .ref (ad 187)), (1, .int x1)]) (st' := [.int v4]) (m' := m3) ?_ rfl rfl rfl
    refine aw_i2l dX12_row_34 ?_
    exact aw_ret (v := some (.long v4.toInt64)) rfl (Or.inr (Or.inr ⟨_, rfl, rfl, dX12_row_35⟩)) h
  · have h := h.2 hc
    refine aw_aload_n (j := 0) dX12_row_21 rfl rfl ?_
    refine aw_getfield (c := 199) (v := .ref (ad 196)) dX12_row_22 f_X12_43 ly_187 rfl rfl ?_
    refine aw_iload_n (j := 1) dX12_row_25 rfl rfl ?_
    obtain ⟨hi, h⟩ := h
    refine aw_laload dX12_row_26 ly_196 hi ?_
    refine aw_goto (tgt := 35) dX12_row_27 (by decide) ?_
    exact aw_ret (v := some (.long (m1.2.1 196 x1.toNatClampNeg))) rfl (Or.inr (Or.inr ⟨_, rfl, rfl, dX12_row_35⟩)) h
