set_option maxRecDepth 100000 in
set_option maxHeartbeats 4000000 in
theorem v_X0_store {ad : Nat → Nat} {d : Nat} {Q : Option Value → Wm → Prop} {m : Wm} {b0 b2 : Nat} {x3 : Int32} (hb0 : Ke b0) (hb2 : St b2) (h : (Ct ad μX8_copy d [.ref (ad (b0 + 1)), .ref (ad b2)] m (fun r m1 => r = none ∧ (¬ (0 : Int32) < 0 ∧ ¬ (0 : Int32) < 0 ∧ ¬ (5 : Int32) < 0 ∧ (0 : Int32).toNatClampNeg + (5 : Int32).toNatClampNeg ≤ 5 ∧ (0 : Int32).toNatClampNeg + (5 : Int32).toNatClampNeg ≤ 5 ∧ Q none (uI (uI (uC (uI m1 b0 2 (m1.1 3 5)) 4 (b0 + 6) (0 : Int32).toNatClampNeg (0 : Int32).toNatClampNeg (5 : Int32).toNatClampNeg) b0 3 x3) b0 4 (1 : Int32)))))) : Ct ad μX0_store (d + 1) [.ref (ad b0), .ref (ad 3), .ref (ad b2), .int x3] m Q := by
  refine Ct.of (by decide +kernel) rfl (Nat.le_of_ble_eq_true rfl) ?_
  refine aw_eq (L' := [(0, .ref (ad b0)), (1, .ref (ad 3)), (2, .ref (ad b2)), (3, .int x3)]) ?_ rfl rfl rfl
  refine aw_aload_n (j := 0) dX0_store_0 rfl rfl ?_
  refine aw_getfield (c := b0 + 1 + 3) (v := .ref (ad (b0 + 1))) dX0_store_1 f_X0_12 hb0.1 rfl rfl ?_
  refine aw_aload_n (j := 2) dX0_store_4 rfl rfl ?_
  refine aw_callV (rest := []) [.ref (ad b2)] dX0_store_5 hb0.2.1.1 rfl k_X0_33 rfl h (Nat.le_of_ble_eq_true rfl) (fun v m1 h => ?_)
  obtain ⟨rfl, h⟩ := h
  refine aw_eq (L' := [(0, .ref (ad b0)), (1, .ref (ad 3)), (2, .ref (ad b2)), (3, .int x3)]) (st' := []) (m' := m1) ?_ rfl rfl rfl
  refine aw_aload_n (j := 0) dX0_store_8 rfl rfl ?_
  refine aw_aload_n (j := 1) dX0_store_9 rfl rfl ?_
  refine aw_getfield (c := 0) (v := .int (m1.1 3 5)) dX0_store_10 f_X0_37 ly_3 rfl rfl ?_
  refine aw_putI dX0_store_13 f_X0_22 cl_X0 rfl hb0.1 rfl rfl rfl ?_
  refine aw_aload_n (j := 1) dX0_store_16 rfl rfl ?_
  refine aw_getfield (c := 7) (v := .ref (ad 4)) dX0_store_17 f_X0_40 ly_3 rfl rfl ?_
  refine aw_iconst (v := 0) dX0_store_20 (by decide) ?_
  refine aw_aload_n (j := 0) dX0_store_21 rfl rfl ?_
  refine aw_getfield (c := b0 + 6 + 3) (v := .ref (ad (b0 + 6))) dX0_store_22 f_X0_18 hb0.1 rfl rfl ?_
  refine aw_iconst (v := 0) dX0_store_25 (by decide) ?_
  refine aw_aload_n (j := 0) dX0_store_26 rfl rfl ?_
  refine aw_getfield (c := b0 + 6 + 3) (v := .ref (ad (b0 + 6))) dX0_store_27 f_X0_18 hb0.1 rfl rfl ?_
  refine aw_alen0 (v := (5 : Int32)) dX0_store_30 hb0.2.2 (by decide) ?_
  obtain ⟨q1, q2, q3, q4, q5, h⟩ := h
  refine aw_copy dX0_store_31 k_X0_41 ly_4 hb0.2.2 q1 q2 q3 q4 q5 (Nat.le_of_ble_eq_true rfl) ?_
  refine aw_aload_n (j := 0) dX0_store_34 rfl rfl ?_
  refine aw_iload_n (j := 3) dX0_store_35 rfl rfl ?_
  refine aw_putI dX0_store_36 f_X0_26 cl_X0 rfl hb0.1 rfl rfl rfl ?_
  refine aw_aload_n (j := 0) dX0_store_39 rfl rfl ?_
  refine aw_iconst (v := 1) dX0_store_40 (by decide) ?_
  refine aw_putI dX0_store_41 f_X0_29 cl_X0 rfl hb0.1 rfl (by decide) (by decide) ?_
  exact aw_ret (v := none) rfl (Or.inl ⟨rfl, rfl, dX0_store_44⟩) h
set_option maxRecDepth 100000 in
set_option maxHeartbeats 4000000 in
theorem v_X0_restore {ad : Nat → Nat} {d : Nat} {Q : Option Value → Wm → Prop} {m : Wm} {b0 b2 : Nat} (hb0 : Ke b0) (hb2 : St b2) (h : (Ct ad μX8_copy d [.ref (ad b2), .ref (ad (b0 + 1))] m (fun r m1 => r = none ∧ (¬ (0 : Int32) < 0 ∧ ¬ (0 : Int32) < 0 ∧ ¬ (5 : Int32) < 0 ∧ (0 : Int32).toNatClampNeg + (5 : Int32).toNatClampNeg ≤ 5 ∧ (0 : Int32).toNatClampNeg + (5 : Int32).toNatClampNeg ≤ 5 ∧ Q none (uC (uI m1 3 5 (m1.1 b0 2)) (b0 + 6) 4 (0 : Int32).toNatClampNeg (0 : Int32).toNatClampNeg (5 : Int32).toNatClampNeg))))) : Ct ad μX0_restore (d + 1) [.ref (ad b0), .ref (ad 3), .ref (ad b2)] m Q := by
  refine Ct.of (by decide +kernel) rfl (Nat.le_of_ble_eq_true rfl) ?_
  refine aw_eq (L' := [(0, .ref (ad b0)), (1, .ref (ad 3)), (2, .ref (ad b2))]) ?_ rfl rfl rfl
  refine aw_aload_n (j := 2) dX0_restore_0 rfl rfl ?_
  refine aw_aload_n (j := 0) dX0_restore_1 rfl rfl ?_
  refine aw_getfield (c := b0 + 1 + 3) (v := .ref (ad (b0 + 1))) dX0_restore_2 f_X0_12 hb0.1 rfl rfl ?_
  refine aw_callV (rest := []) [.ref (ad (b0 + 1))] dX0_restore_5 hb2.1 rfl k_X0_33 rfl h (Nat.le_of_ble_eq_true rfl) (fun v m1 h => ?_)
  obtain ⟨rfl, h⟩ := h
  refine aw_eq (L' := [(0, .ref (ad b0)), (1, .ref (ad 3)), (2, .ref (ad b2))]) (st' := []) (m' := m1) ?_ rfl rfl rfl
  refine aw_aload_n (j := 1) dX0_restore_8 rfl rfl ?_
  refine aw_aload_n (j := 0) dX0_restore_9 rfl rfl ?_
  refine aw_getfield (c := 0) (v := .int (m1.1 b0 2)) dX0_restore_10 f_X0_22 hb0.1 rfl rfl ?_
  refine aw_putI dX0_restore_13 f_X0_37 cl_X1 rfl ly_3 rfl rfl rfl ?_
  refine aw_aload_n (j := 0) dX0_restore_16 rfl rfl ?_
  refine aw_getfield (c := b0 + 6 + 3) (v := .ref (ad (b0 + 6))) dX0_restore_17 f_X0_18 hb0.1 rfl rfl ?_
  refine aw_iconst (v := 0) dX0_restore_20 (by decide) ?_
  refine aw_aload_n (j := 1) dX0_restore_21 rfl rfl ?_
  refine aw_getfield (c := 7) (v := .ref (ad 4)) dX0_restore_22 f_X0_40 ly_3 rfl rfl ?_
  refine aw_iconst (v := 0) dX0_restore_25 (by decide) ?_
  refine aw_aload_n (j := 0) dX0_restore_26 rfl rfl ?_
  refine aw_getfield (c := b0 + 6 + 3) (v := .ref (ad (b0 + 6))) dX0_restore_27 f_X0_18 hb0.1 rfl rfl ?_
  refine aw_alen0 (v := (5 : Int32)) dX0_restore_30 hb0.2.2 (by decide) ?_
  obtain ⟨q1, q2, q3, q4, q5, h⟩ := h
  refine aw_copy dX0_restore_31 k_X0_41 hb0.2.2 ly_4 q1 q2 q3 q4 q5 (Nat.le_of_ble_eq_true rfl) ?_
  exact aw_ret (v := none) rfl (Or.inl ⟨rfl, rfl, dX0_restore_34⟩) h
set_option maxRecDepth 100000 in
set_option maxHeartbeats 4000000 in
theorem v_X1_allows {ad : Nat → Nat} {d : Nat} {Q : Option Value → Wm → Prop} {m : Wm} {x0 x1 : Int32} (h : ((x0 = 0 → ((x1 < 0 → Q (some (.int (0 : Int32))) m) ∧ (¬ x1 < 0 → (((3 : Int32) < x1 → Q (some (.int (0 : Int32))) m) ∧ (¬ (3 : Int32) < x1 → Q (some (.int (1 : Int32))) m))))) ∧ (x0 = 1 → ((x1 < (1 : Int32) → Q (some (.int (0 : Int32))) m) ∧ (¬ x1 < (1 : Int32) → (((3 : Int32) < x1 → Q (some (.int (0 : Int32))) m) ∧ (¬ (3 : Int32) < x1 → Q (some (.int (1 : Int32))) m))))) ∧ (x0 = 2 → ((x1 < 0 → Q (some (.int (0 : Int32))) m) ∧ (¬ x1 < 0 → (((2 : Int32) < x1 → Q (some (.int (0 : Int32))) m) ∧ (¬ (2 : Int32) < x1 → Q (some (.int (1 : Int32))) m))))) ∧ (x0 = 3 → ((x1 < 0 → Q (some (.int (0 : Int32))) m) ∧ (¬ x1 < 0 → (((99 : Int32) < x1 → Q (some (.int (0 : Int32))) m) ∧ (¬ (99 : Int32) < x1 → Q (some (.int (1 : Int32))) m))))) ∧ (x0 = 4 → ((x1 < 0 → Q (some (.int (0 : Int32))) m) ∧ (¬ x1 < 0 → (((50 : Int32) < x1 → Q (some (.int (0 : Int32))) m) ∧ (¬ (50 : Int32) < x1 → Q (some (.int (1 : Int32))) m))))) ∧ (¬ x0 = 0 → ¬ x0 = 1 → ¬ x0 = 2 → ¬ x0 = 3 → ¬ x0 = 4 → Q (some (.int (0 : Int32))) m))) : Ct ad μX1_allows d [.int x0, .int x1] m Q := by
  refine Ct.of (by decide +kernel) rfl (Nat.le_of_ble_eq_true rfl) ?_
  refine aw_eq (L' := [(0, .int x0), (1, .int x1)]) ?_ rfl rfl rfl
  refine aw_iload_n (j := 0) dX1_allows_0 rfl rfl ?_
  by_cases c0 : x0 = 0
  · have h := h.1 c0
    refine aw_tswIn (tgt := 36) dX1_allows_1 c0 (by decide) (by decide) (by first | rfl | decide) (by decide) ?_
    refine aw_iload_n (j := 1) dX1_allows_36 rfl rfl ?_
    refine aw_if_lt (tgt := 49) dX1_allows_37 (by decide) (fun hc => ?_) (fun hc => ?_)
    · have h := h.1 hc
      refine aw_iconst (v := 0) dX1_allows_49 (by decide) ?_
      exact aw_ret (v := some (.int (0 : Int32))) rfl (Or.inr (Or.inl ⟨_, .boolean, rfl, rfl, by decide, dX1_allows_50⟩)) h
    · have h := h.2 hc
      refine aw_iload_n (j := 1) dX1_allows_40 rfl rfl ?_
      refine aw_iconst (v := 3) dX1_allows_41 (by decide) ?_
      refine aw_icmp_gt (tgt := 49) dX1_allows_42 (by decide) (fun hc => ?_) (fun hc => ?_)
      · have h := h.1 hc
        refine aw_iconst (v := 0) dX1_allows_49 (by decide) ?_
        exact aw_ret (v := some (.int (0 : Int32))) rfl (Or.inr (Or.inl ⟨_, .boolean, rfl, rfl, by decide, dX1_allows_50⟩)) h
      · have h := h.2 hc
        refine aw_iconst (v := 1) dX1_allows_45 (by decide) ?_
        refine aw_goto (tgt := 50) dX1_allows_46 (by decide) ?_
        exact aw_ret (v := some (.int (1 : Int32))) rfl (Or.inr (Or.inl ⟨_, .boolean, rfl, rfl, by decide, dX1_allows_50⟩)) h
  by_cases c1 : x0 = 1
  · have h := h.2.1 c1
    refine aw_tswIn (tgt := 51) dX1_allows_1 c1 (by decide) (by decide) (by first | rfl | decide) (by decide) ?_
    refine aw_iload_n (j := 1) dX1_allows_51 rfl rfl ?_
    refine aw_iconst (v := 1) dX1_allows_52 (by decide) ?_
    refine aw_icmp_lt (tgt := 65) dX1_allows_53 (by decide) (fun hc => ?_) (fun hc => ?_)
    · have h := h.1 hc
      refine aw_iconst (v := 0) dX1_allows_65 (by decide) ?_
      exact aw_ret (v := some (.int (0 : Int32))) rfl (Or.inr (Or.inl ⟨_, .boolean, rfl, rfl, by decide, dX1_allows_66⟩)) h
    · have h := h.2 hc
      refine aw_iload_n (j := 1) dX1_allows_56 rfl rfl ?_
      refine aw_iconst (v := 3) dX1_allows_57 (by decide) ?_
      refine aw_icmp_gt (tgt := 65) dX1_allows_58 (by decide) (fun hc => ?_) (fun hc => ?_)
      · have h := h.1 hc
        refine aw_iconst (v := 0) dX1_allows_65 (by decide) ?_
        exact aw_ret (v := some (.int (0 : Int32))) rfl (Or.inr (Or.inl ⟨_, .boolean, rfl, rfl, by decide, dX1_allows_66⟩)) h
      · have h := h.2 hc
        refine aw_iconst (v := 1) dX1_allows_61 (by decide) ?_
        refine aw_goto (tgt := 66) dX1_allows_62 (by decide) ?_
        exact aw_ret (v := some (.int (1 : Int32))) rfl (Or.inr (Or.inl ⟨_, .boolean, rfl, rfl, by decide, dX1_allows_66⟩)) h
  by_cases c2 : x0 = 2
  · have h := h.2.2.1 c2
    refine aw_tswIn (tgt := 67) dX1_allows_1 c2 (by decide) (by decide) (by first | rfl | decide) (by decide) ?_
    refine aw_iload_n (j := 1) dX1_allows_67 rfl rfl ?_
    refine aw_if_lt (tgt := 80) dX1_allows_68 (by decide) (fun hc => ?_) (fun hc => ?_)
    · have h := h.1 hc
      refine aw_iconst (v := 0) dX1_allows_80 (by decide) ?_
      exact aw_ret (v := some (.int (0 : Int32))) rfl (Or.inr (Or.inl ⟨_, .boolean, rfl, rfl, by decide, dX1_allows_81⟩)) h
    · have h := h.2 hc
      refine aw_iload_n (j := 1) dX1_allows_71 rfl rfl ?_
      refine aw_iconst (v := 2) dX1_allows_72 (by decide) ?_
      refine aw_icmp_gt (tgt := 80) dX1_allows_73 (by decide) (fun hc => ?_) (fun hc => ?_)
      · have h := h.1 hc
        refine aw_iconst (v := 0) dX1_allows_80 (by decide) ?_
        exact aw_ret (v := some (.int (0 : Int32))) rfl (Or.inr (Or.inl ⟨_, .boolean, rfl, rfl, by decide, dX1_allows_81⟩)) h
      · have h := h.2 hc
        refine aw_iconst (v := 1) dX1_allows_76 (by decide) ?_
        refine aw_goto (tgt := 81) dX1_allows_77 (by decide) ?_
        exact aw_ret (v := some (.int (1 : Int32))) rfl (Or.inr (Or.inl ⟨_, .boolean, rfl, rfl, by decide, dX1_allows_81⟩)) h
  by_cases c3 : x0 = 3
  · have h := h.2.2.2.1 c3
    refine aw_tswIn (tgt := 82) dX1_allows_1 c3 (by decide) (by decide) (by first | rfl | decide) (by decide) ?_
    refine aw_iload_n (j := 1) dX1_allows_82 rfl rfl ?_
    refine aw_if_lt (tgt := 96) dX1_allows_83 (by decide) (fun hc => ?_) (fun hc => ?_)
    · have h := h.1 hc
      refine aw_iconst (v := 0) dX1_allows_96 (by decide) ?_
      exact aw_ret (v := some (.int (0 : Int32))) rfl (Or.inr (Or.inl ⟨_, .boolean, rfl, rfl, by decide, dX1_allows_97⟩)) h
    · have h := h.2 hc
      refine aw_iload_n (j := 1) dX1_allows_86 rfl rfl ?_
      refine aw_bipush (v := 99) dX1_allows_87 (by decide) ?_
      refine aw_icmp_gt (tgt := 96) dX1_allows_89 (by decide) (fun hc => ?_) (fun hc => ?_)
      · have h := h.1 hc
        refine aw_iconst (v := 0) dX1_allows_96 (by decide) ?_
        exact aw_ret (v := some (.int (0 : Int32))) rfl (Or.inr (Or.inl ⟨_, .boolean, rfl, rfl, by decide, dX1_allows_97⟩)) h
      · have h := h.2 hc
        refine aw_iconst (v := 1) dX1_allows_92 (by decide) ?_
        refine aw_goto (tgt := 97) dX1_allows_93 (by decide) ?_
        exact aw_ret (v := some (.int (1 : Int32))) rfl (Or.inr (Or.inl ⟨_, .boolean, rfl, rfl, by decide, dX1_allows_97⟩)) h
  by_cases c4 : x0 = 4
  · have h := h.2.2.2.2.1 c4
    refine aw_tswIn (tgt := 98) dX1_allows_1 c4 (by decide) (by decide) (by first | rfl | decide) (by decide) ?_
    refine aw_iload_n (j := 1) dX1_allows_98 rfl rfl ?_
    refine aw_if_lt (tgt := 112) dX1_allows_99 (by decide) (fun hc => ?_) (fun hc => ?_)
    · have h := h.1 hc
      refine aw_iconst (v := 0) dX1_allows_112 (by decide) ?_
      exact aw_ret (v := some (.int (0 : Int32))) rfl (Or.inr (Or.inl ⟨_, .boolean, rfl, rfl, by decide, dX1_allows_113⟩)) h
    · have h := h.2 hc
      refine aw_iload_n (j := 1) dX1_allows_102 rfl rfl ?_
      refine aw_bipush (v := 50) dX1_allows_103 (by decide) ?_
      refine aw_icmp_gt (tgt := 112) dX1_allows_105 (by decide) (fun hc => ?_) (fun hc => ?_)
      · have h := h.1 hc
        refine aw_iconst (v := 0) dX1_allows_112 (by decide) ?_
        exact aw_ret (v := some (.int (0 : Int32))) rfl (Or.inr (Or.inl ⟨_, .boolean, rfl, rfl, by decide, dX1_allows_113⟩)) h
      · have h := h.2 hc
        refine aw_iconst (v := 1) dX1_allows_108 (by decide) ?_
        refine aw_goto (tgt := 113) dX1_allows_109 (by decide) ?_
        exact aw_ret (v := some (.int (1 : Int32))) rfl (Or.inr (Or.inl ⟨_, .boolean, rfl, rfl, by decide, dX1_allows_113⟩)) h
  have h := h.2.2.2.2.2 c0 c1 c2 c3 c4
  refine aw_tswOut (tgt := 114) dX1_allows_1 (by have e0 := i32_ne (n := 0) c0 (by decide); have e1 := i32_ne (n := 1) c1 (by decide); have e2 := i32_ne (n := 2) c2 (by decide); have e3 := i32_ne (n := 3) c3 (by decide); have e4 := i32_ne (n := 4) c4 (by decide); omega) (by decide) ?_
  refine aw_iconst (v := 0) dX1_allows_114 (by decide) ?_
  exact aw_ret (v := some (.int (0 : Int32))) rfl (Or.inr (Or.inl ⟨_, .boolean, rfl, rfl, by decide, dX1_allows_115⟩)) h
set_option maxRecDepth 100000 in
set_option maxHeartbeats 4000000 in
theorem v_X1_has {ad : Nat → Nat} {d : Nat} {Q : Option Value → Wm → Prop} {m : Wm} {x1 : Int32} (h : ((x1 < 0 → Q (some (.int (0 : Int32))) m) ∧ (¬ x1 < 0 → (((m.1 3 3) ≤ x1 → Q (some (.int (0 : Int32))) m) ∧ (¬ (m.1 3 3) ≤ x1 → Q (some (.int (1 : Int32))) m))))) : Ct ad μX1_has d [.ref (ad 3), .int x1] m Q := by
  refine Ct.of (by decide +kernel) rfl (Nat.le_of_ble_eq_true rfl) ?_
  refine aw_eq (L' := [(0, .ref (ad 3)), (1, .int x1)]) ?_ rfl rfl rfl
  refine aw_iload_n (j := 1) dX1_has_0 rfl rfl ?_
  refine aw_if_lt (tgt := 16) dX1_has_1 (by decide) (fun hc => ?_) (fun hc => ?_)
  · have h := h.1 hc
    refine aw_iconst (v := 0) dX1_has_16 (by decide) ?_
    exact aw_ret (v := some (.int (0 : Int32))) rfl (Or.inr (Or.inl ⟨_, .boolean, rfl, rfl, by decide, dX1_has_17⟩)) h
  · have h := h.2 hc
    refine aw_iload_n (j := 1) dX1_has_4 rfl rfl ?_
    refine aw_aload_n (j := 0) dX1_has_5 rfl rfl ?_
    refine aw_getfield (c := 0) (v := .int (m.1 3 3)) dX1_has_6 f_X1_25 ly_3 rfl rfl ?_
    refine aw_icmp_ge (tgt := 16) dX1_has_9 (by decide) (fun hc => ?_) (fun hc => ?_)
    · have h := h.1 hc
      refine aw_iconst (v := 0) dX1_has_16 (by decide) ?_
      exact aw_ret (v := some (.int (0 : Int32))) rfl (Or.inr (Or.inl ⟨_, .boolean, rfl, rfl, by decide, dX1_has_17⟩)) h
    · have h := h.2 hc
      refine aw_iconst (v := 1) dX1_has_12 (by decide) ?_
      refine aw_goto (tgt := 17) dX1_has_13 (by decide) ?_
      exact aw_ret (v := some (.int (1 : Int32))) rfl (Or.inr (Or.inl ⟨_, .boolean, rfl, rfl, by decide, dX1_has_17⟩)) h
set_option maxRecDepth 100000 in
set_option maxHeartbeats 4000000 in
theorem v_X1_knows {ad : Nat → Nat} {d : Nat} {Q : Option Value → Wm → Prop} {m : Wm} {x1 : Int32} (h : ((x1 < 0 → Q (some (.int (0 : Int32))) m) ∧ (¬ x1 < 0 → (((m.1 3 4) ≤ x1 → Q (some (.int (0 : Int32))) m) ∧ (¬ (m.1 3 4) ≤ x1 → Q (some (.int (1 : Int32))) m))))) : Ct ad μX1_knows d [.ref (ad 3), .int x1] m Q := by
  refine Ct.of (by decide +kernel) rfl (Nat.le_of_ble_eq_true rfl) ?_
  refine aw_eq (L' := [(0, .ref (ad 3)), (1, .int x1)]) ?_ rfl rfl rfl
  refine aw_iload_n (j := 1) dX1_knows_0 rfl rfl ?_
  refine aw_if_lt (tgt := 16) dX1_knows_1 (by decide) (fun hc => ?_) (fun hc => ?_)
  · have h := h.1 hc
    refine aw_iconst (v := 0) dX1_knows_16 (by decide) ?_
    exact aw_ret (v := some (.int (0 : Int32))) rfl (Or.inr (Or.inl ⟨_, .boolean, rfl, rfl, by decide, dX1_knows_17⟩)) h
  · have h := h.2 hc
    refine aw_iload_n (j := 1) dX1_knows_4 rfl rfl ?_
    refine aw_aload_n (j := 0) dX1_knows_5 rfl rfl ?_
    refine aw_getfield (c := 0) (v := .int (m.1 3 4)) dX1_knows_6 f_X1_29 ly_3 rfl rfl ?_
    refine aw_icmp_ge (tgt := 16) dX1_knows_9 (by decide) (fun hc => ?_) (fun hc => ?_)
    · have h := h.1 hc
      refine aw_iconst (v := 0) dX1_knows_16 (by decide) ?_
      exact aw_ret (v := some (.int (0 : Int32))) rfl (Or.inr (Or.inl ⟨_, .boolean, rfl, rfl, by decide, dX1_knows_17⟩)) h
    · have h := h.2 hc
      refine aw_iconst (v := 1) dX1_knows_12 (by decide) ?_
      refine aw_goto (tgt := 17) dX1_knows_13 (by decide) ?_
      exact aw_ret (v := some (.int (1 : Int32))) rfl (Or.inr (Or.inl ⟨_, .boolean, rfl, rfl, by decide, dX1_knows_17⟩)) h
set_option maxRecDepth 100000 in
set_option maxHeartbeats 4000000 in
theorem v_X1_isIll {ad : Nat → Nat} {d : Nat} {Q : Option Value → Wm → Prop} {m : Wm} {x1 : Int32} (h : (((((m.1 3 5) >>> (x1 &&& 31)) &&& (1 : Int32)) = 0 → Q (some (.int (0 : Int32))) m) ∧ (¬ (((m.1 3 5) >>> (x1 &&& 31)) &&& (1 : Int32)) = 0 → Q (some (.int (1 : Int32))) m))) : Ct ad μX1_isIll d [.ref (ad 3), .int x1] m Q := by
  refine Ct.of (by decide +kernel) rfl (Nat.le_of_ble_eq_true rfl) ?_
  refine aw_eq (L' := [(0, .ref (ad 3)), (1, .int x1)]) ?_ rfl rfl rfl
  refine aw_aload_n (j := 0) dX1_isIll_0 rfl rfl ?_
  refine aw_getfield (c := 0) (v := .int (m.1 3 5)) dX1_isIll_1 f_X1_32 ly_3 rfl rfl ?_
  refine aw_iload_n (j := 1) dX1_isIll_4 rfl rfl ?_
  refine aw_ishr dX1_isIll_5 ?_
  refine aw_iconst (v := 1) dX1_isIll_6 (by decide) ?_
  refine aw_iand dX1_isIll_7 ?_
  refine aw_if_eq (tgt := 15) dX1_isIll_8 (by decide) (fun hc => ?_) (fun hc => ?_)
  · have h := h.1 hc
    refine aw_iconst (v := 0) dX1_isIll_15 (by decide) ?_
    exact aw_ret (v := some (.int (0 : Int32))) rfl (Or.inr (Or.inl ⟨_, .boolean, rfl, rfl, by decide, dX1_isIll_16⟩)) h
  · have h := h.2 hc
    refine aw_iconst (v := 1) dX1_isIll_11 (by decide) ?_
    refine aw_goto (tgt := 16) dX1_isIll_12 (by decide) ?_
    exact aw_ret (v := some (.int (1 : Int32))) rfl (Or.inr (Or.inl ⟨_, .boolean, rfl, rfl, by decide, dX1_isIll_16⟩)) h
set_option maxRecDepth 100000 in
set_option maxHeartbeats 4000000 in
theorem v_X1_canMeet {ad : Nat → Nat} {d : Nat} {Q : Option Value → Wm → Prop} {m : Wm} {x1 x2 : Int32} (h : (Ct ad μX1_has d [.ref (ad 3), .int x1] m (fun r m1 => ∃ v2 : Int32, r = some (.int v2) ∧ ((v2 = 0 → Q (some (.int (0 : Int32))) m1) ∧ (¬ v2 = 0 → (Ct ad μX1_has d [.ref (ad 3), .int x2] m1 (fun r m3 => ∃ v4 : Int32, r = some (.int v4) ∧ ((v4 = 0 → Q (some (.int (0 : Int32))) m3) ∧ (¬ v4 = 0 → ((x1 = x2 → Q (some (.int (0 : Int32))) m3) ∧ (¬ x1 = x2 → Q (some (.int (1 : Int32))) m3))))))))))) : Ct ad μX1_canMeet (d + 1) [.ref (ad 3), .int x1, .int x2] m Q := by
  refine Ct.of (by decide +kernel) rfl (Nat.le_of_ble_eq_true rfl) ?_
  refine aw_eq (L' := [(0, .ref (ad 3)), (1, .int x1), (2, .int x2)]) ?_ rfl rfl rfl
  refine aw_aload_n (j := 0) dX1_canMeet_0 rfl rfl ?_
  refine aw_iload_n (j := 1) dX1_canMeet_1 rfl rfl ?_
  refine aw_callV (rest := []) [.int x1] dX1_canMeet_2 ly_3 rfl k_X1_41 rfl h (Nat.le_of_ble_eq_true rfl) (fun v m1 h => ?_)
  obtain ⟨v2, rfl, h⟩ := h
  refine aw_eq (L' := [(0, .ref (ad 3)), (1, .int x1), (2, .int x2)]) (st' := [.int v2]) (m' := m1) ?_ rfl rfl rfl
  refine aw_if_eq (tgt := 25) dX1_canMeet_5 (by decide) (fun hc => ?_) (fun hc => ?_)
  · have h := h.1 hc
    refine aw_iconst (v := 0) dX1_canMeet_25 (by decide) ?_
    exact aw_ret (v := some (.int (0 : Int32))) rfl (Or.inr (Or.inl ⟨_, .boolean, rfl, rfl, by decide, dX1_canMeet_26⟩)) h
  · have h := h.2 hc
    refine aw_aload_n (j := 0) dX1_canMeet_8 rfl rfl ?_
    refine aw_iload_n (j := 2) dX1_canMeet_9 rfl rfl ?_
    refine aw_callV (rest := []) [.int x2] dX1_canMeet_10 ly_3 rfl k_X1_41 rfl h (Nat.le_of_ble_eq_true rfl) (fun v m3 h => ?_)
    obtain ⟨v4, rfl, h⟩ := h
    refine aw_eq (L' := [(0, .ref (ad 3)), (1, .int x1), (2, .int x2)]) (st' := [.int v4]) (m' := m3) ?_ rfl rfl rfl
    refine aw_if_eq (tgt := 25) dX1_canMeet_13 (by decide) (fun hc => ?_) (fun hc => ?_)
    · have h := h.1 hc
      refine aw_iconst (v := 0) dX1_canMeet_25 (by decide) ?_
      exact aw_ret (v := some (.int (0 : Int32))) rfl (Or.inr (Or.inl ⟨_, .boolean, rfl, rfl, by decide, dX1_canMeet_26⟩)) h
    · have h := h.2 hc
      refine aw_iload_n (j := 1) dX1_canMeet_16 rfl rfl ?_
      refine aw_iload_n (j := 2) dX1_canMeet_17 rfl rfl ?_
      refine aw_icmp_eq (tgt := 25) dX1_canMeet_18 (by decide) (fun hc => ?_) (fun hc => ?_)
      · have h := h.1 hc
        refine aw_iconst (v := 0) dX1_canMeet_25 (by decide) ?_
        exact aw_ret (v := some (.int (0 : Int32))) rfl (Or.inr (Or.inl ⟨_, .boolean, rfl, rfl, by decide, dX1_canMeet_26⟩)) h
      · have h := h.2 hc
        refine aw_iconst (v := 1) dX1_canMeet_21 (by decide) ?_
        refine aw_goto (tgt := 26) dX1_canMeet_22 (by decide) ?_
        exact aw_ret (v := some (.int (1 : Int32))) rfl (Or.inr (Or.inl ⟨_, .boolean, rfl, rfl, by decide, dX1_canMeet_26⟩)) h
set_option maxRecDepth 100000 in
set_option maxHeartbeats 4000000 in
theorem v_X1_power {ad : Nat → Nat} {d : Nat} {Q : Option Value → Wm → Prop} {m : Wm} {b1 : Nat} {x2 : Int32} (hb1 : St b1) (h : (∃ r1, m.2.2 3 1 = some r1 ∧ Ru r1 ∧ (Ct ad μX5_value d [.ref (ad r1), .ref (ad b1), .int x2, .int (m.1 3 4)] m (fun r m2 => ∃ v3 : Int32, r = some (.int v3) ∧ Q (some (.int v3)) m2)))) : Ct ad μX1_power (d + 1) [.ref (ad 3), .ref (ad b1), .int x2] m Q := by
  refine Ct.of (by decide +kernel) rfl (Nat.le_of_ble_eq_true rfl) ?_
  refine aw_eq (L' := [(0, .ref (ad 3)), (1, .ref (ad b1)), (2, .int x2)]) ?_ rfl rfl rfl
  refine aw_aload_n (j := 0) dX1_power_0 rfl rfl ?_
  obtain ⟨r1, hrr1, hr1, h⟩ := h
  refine aw_getfield (c := 2) (v := .ref (ad r1)) dX1_power_1 f_X1_18 ly_3 rfl (by show va_rf (Option.map ad (m.2.2 3 1)) = _; rw [hrr1]; rfl) ?_
  refine aw_aload_n (j := 1) dX1_power_4 rfl rfl ?_
  refine aw_iload_n (j := 2) dX1_power_5 rfl rfl ?_
  refine aw_aload_n (j := 0) dX1_power_6 rfl rfl ?_
  refine aw_getfield (c := 0) (v := .int (m.1 3 4)) dX1_power_7 f_X1_29 ly_3 rfl rfl ?_
  refine aw_callV (rest := []) [.ref (ad b1), .int x2, .int (m.1 3 4)] dX1_power_10 hr1.1 rfl k_X1_45 rfl h (Nat.le_of_ble_eq_true rfl) (fun v m2 h => ?_)
  obtain ⟨v3, rfl, h⟩ := h
  refine aw_eq (L' := [(0, .ref (ad 3)), (1, .ref (ad b1)), (2, .int x2)]) (st' := [.int v3]) (m' := m2) ?_ rfl rfl rfl
  exact aw_ret (v := some (.int v3)) rfl (Or.inr (Or.inl ⟨_, .int, rfl, rfl, rfl, dX1_power_13⟩)) h
set_option maxRecDepth 100000 in
set_option maxHeartbeats 4000000 in
theorem v_X1_strongest {ad : Nat → Nat} {d : Nat} {Q : Option Value → Wm → Prop} {m : Wm} {b1 : Nat} (hb1 : St b1) (h : AW ad E0 μX1_strongest (d + 1) Q 7 [(0, .ref (ad 3)), (1, .ref (ad b1)), (2, .int (0 : Int32)), (3, .int (0 : Int32)), (4, .int (0 : Int32))] [] m) : Ct ad μX1_strongest (d + 1) [.ref (ad 3), .ref (ad b1)] m Q := by
  refine Ct.of (by decide +kernel) rfl (Nat.le_of_ble_eq_true rfl) ?_
  refine aw_eq (L' := [(0, .ref (ad 3)), (1, .ref (ad b1))]) ?_ rfl rfl rfl
  refine aw_iconst (v := 0) dX1_strongest_0 (by decide) ?_
  refine aw_istore_n (L' := [(2, .int (0 : Int32)), (0, .ref (ad 3)), (1, .ref (ad b1))]) dX1_strongest_1 rfl (by decide) rfl ?_
  refine aw_iconst (v := 0) dX1_strongest_2 (by decide) ?_
  refine aw_istore_n (L' := [(3, .int (0 : Int32)), (2, .int (0 : Int32)), (0, .ref (ad 3)), (1, .ref (ad b1))]) dX1_strongest_3 rfl (by decide) rfl ?_
  refine aw_iconst (v := 0) dX1_strongest_4 (by decide) ?_
  refine aw_istore (L' := [(4, .int (0 : Int32)), (3, .int (0 : Int32)), (2, .int (0 : Int32)), (0, .ref (ad 3)), (1, .ref (ad b1))]) dX1_strongest_5 (by decide) rfl ?_
  exact aw_sub [3, 4, 2, 1, 0] rfl h
set_option maxRecDepth 100000 in
set_option maxHeartbeats 4000000 in
theorem g_X1_strongest_7 {ad : Nat → Nat} {d : Nat} {Q : Option Value → Wm → Prop} {m : Wm} {b1 : Nat} {x2 x3 x4 : Int32} (hb1 : St b1) (h : (((m.1 3 3) ≤ x4 → Q (some (.int x2)) m) ∧ (¬ (m.1 3 3) ≤ x4 → (Ct ad μX1_power d [.ref (ad 3), .ref (ad b1), .int x4] m (fun r m1 => ∃ v2 : Int32, r = some (.int v2) ∧ ((x4 = 0 → AW ad E0 μX1_strongest (d + 1) Q 7 [(0, .ref (ad 3)), (1, .ref (ad b1)), (2, .int x4), (3, .int v2), (4, .int (x4 + (1 : Int32)))] [] m1) ∧ (¬ x4 = 0 → ((v2 ≤ x3 → AW ad E0 μX1_strongest (d + 1) Q 7 [(0, .ref (ad 3)), (1, .ref (ad b1)), (2, .int x2), (3, .int x3), (4, .int (x4 + (1 : Int32)))] [] m1) ∧ (¬ v2 ≤ x3 → AW ad E0 μX1_strongest (d + 1) Q 7 [(0, .ref (ad 3)), (1, .ref (ad b1)), (2, .int x4), (3, .int v2), (4, .int (x4 + (1 : Int32)))] [] m1))))))))) : AW ad E0 μX1_strongest (d + 1) Q 7 [(0, .ref (ad 3)), (1, .ref (ad b1)), (2, .int x2), (3, .int x3), (4, .int x4)] [] m := by
  refine aw_iload (j := 4) dX1_strongest_7 rfl ?_
  refine aw_aload_n (j := 0) dX1_strongest_9 rfl rfl ?_
  refine aw_getfield (c := 0) (v := .int (m.1 3 3)) dX1_strongest_10 f_X1_25 ly_3 rfl rfl ?_
  refine aw_icmp_ge (tgt := 48) dX1_strongest_13 (by decide) (fun hc => ?_) (fun hc => ?_)
  · have h := h.1 hc
    refine aw_iload_n (j := 2) dX1_strongest_48 rfl rfl ?_
    exact aw_ret (v := some (.int x2)) rfl (Or.inr (Or.inl ⟨_, .int, rfl, rfl, rfl, dX1_strongest_49⟩)) h
  · have h := h.2 hc
    refine aw_aload_n (j := 0) dX1_strongest_16 rfl rfl ?_
    refine aw_aload_n (j := 1) dX1_strongest_17 rfl rfl ?_
    refine aw_iload (j := 4) dX1_strongest_18 rfl ?_
    refine aw_callV (rest := []) [.ref (ad b1), .int x4] dX1_strongest_20 ly_3 rfl k_X1_49 rfl h (Nat.le_of_ble_eq_true rfl) (fun v m1 h => ?_)
    obtain ⟨v2, rfl, h⟩ := h
    refine aw_eq (L' := [(0, .ref (ad 3)), (1, .ref (ad b1)), (2, .int x2), (3, .int x3), (4, .int x4)]) (st' := [.int v2]) (m' := m1) ?_ rfl rfl rfl
    refine aw_istore (L' := [(5, .int v2), (0, .ref (ad 3)), (1, .ref (ad b1)), (2, .int x2), (3, .int x3), (4, .int x4)]) dX1_strongest_23 (by decide) rfl ?_
    refine aw_iload (j := 5) dX1_strongest_25 rfl ?_
    refine aw_if_eq (tgt := 36) dX1_strongest_27 (by decide) (fun hc => ?_) (fun hc => ?_)
    · have h := h.1 hc
      refine aw_iload (j := 5) dX1_strongest_36 rfl ?_
      refine aw_istore_n (L' := [(2, .int x4), (5, .int v2), (0, .ref (ad 3)), (1, .ref (ad b1)), (3, .int x3), (4, .int x4)]) dX1_strongest_38 rfl (by decide) rfl ?_
      refine aw_iload (j := 1) dX1_strongest_39 rfl ?_
      refine aw_istore_n (L' := [(3, .int v2), (2, .int x4), (5, .int v2), (0, .ref (ad 3)), (1, .ref (ad b1)), (4, .int x4)]) dX1_strongest_41 rfl (by decide) rfl ?_
      refine aw_iinc (j := 5) (v := x4 + (1 : Int32)) (L' := [(4, .int (x4 + (1 : Int32))), (3, .int v2), (2, .int x4), (5, .int v2), (0, .ref (ad 3)), (1, .ref (ad b1))]) dX1_strongest_42 rfl rfl (by decide) rfl ?_
      refine aw_goto (tgt := 7) dX1_strongest_45 (by decide) ?_
      exact aw_sub [4, 5, 2, 1, 0] rfl h
    · have h := h.2 hc
      refine aw_iload (j := 0) dX1_strongest_30 rfl ?_
      refine aw_iload_n (j := 4) dX1_strongest_32 rfl rfl ?_
      refine aw_icmp_le (tgt := 42) dX1_strongest_33 (by decide) (fun hc => ?_) (fun hc => ?_)
      · have h := h.1 hc
        refine aw_iinc (j := 5) (v := x4 + (1 : Int32)) (L' := [(4, .int (x4 + (1 : Int32))), (5, .int v2), (0, .ref (ad 3)), (1, .ref (ad b1)), (2, .int x2), (3, .int x3)]) dX1_strongest_42 rfl rfl (by decide) rfl ?_
        refine aw_goto (tgt := 7) dX1_strongest_45 (by decide) ?_
        exact aw_sub [2, 3, 4, 5, 0] rfl h
      · have h := h.2 hc
        refine aw_iload (j := 5) dX1_strongest_36 rfl ?_
        refine aw_istore_n (L' := [(2, .int x4), (5, .int v2), (0, .ref (ad 3)), (1, .ref (ad b1)), (3, .int x3), (4, .int x4)]) dX1_strongest_38 rfl (by decide) rfl ?_
        refine aw_iload (j := 1) dX1_strongest_39 rfl ?_
        refine aw_istore_n (L' := [(3, .int v2), (2, .int x4), (5, .int v2), (0, .ref (ad 3)), (1, .ref (ad b1)), (4, .int x4)]) dX1_strongest_41 rfl (by decide) rfl ?_
        refine aw_iinc (j := 5) (v := x4 + (1 : Int32)) (L' := [(4, .int (x4 + (1 : Int32))), (3, .int v2), (2, .int x4), (5, .int v2), (0, .ref (ad 3)), (1, .ref (ad b1))]) dX1_strongest_42 rfl rfl (by decide) rfl ?_
        refine aw_goto (tgt := 7) dX1_strongest_45 (by decide) ?_
        exact aw_sub [4, 5, 2, 1, 0] rfl h
set_option maxRecDepth 100000 in
set_option maxHeartbeats 4000000 in
theorem v_X1_weakest {ad : Nat → Nat} {d : Nat} {Q : Option Value → Wm → Prop} {m : Wm} {b1 : Nat} (hb1 : St b1) (h : AW ad E0 μX1_weakest (d + 1) Q 7 [(0, .ref (ad 3)), (1, .ref (ad b1)), (2, .int (0 : Int32)), (3, .int (0 : Int32)), (4, .int (0 : Int32))] [] m) : Ct ad μX1_weakest (d + 1) [.ref (ad 3), .ref (ad b1)] m Q := by
  refine Ct.of (by decide +kernel) rfl (Nat.le_of_ble_eq_true rfl) ?_
  refine aw_eq (L' := [(0, .ref (ad 3)), (1, .ref (ad b1))]) ?_ rfl rfl rfl
  refine aw_iconst (v := 0) dX1_weakest_0 (by decide) ?_
  refine aw_istore_n (L' := [(2, .int (0 : Int32)), (0, .ref (ad 3)), (1, .ref (ad b1))]) dX1_weakest_1 rfl (by decide) rfl ?_
  refine aw_iconst (v := 0) dX1_weakest_2 (by decide) ?_
  refine aw_istore_n (L' := [(3, .int (0 : Int32)), (2, .int (0 : Int32)), (0, .ref (ad 3)), (1, .ref (ad b1))]) dX1_weakest_3 rfl (by decide) rfl ?_
  refine aw_iconst (v := 0) dX1_weakest_4 (by decide) ?_
  refine aw_istore (L' := [(4, .int (0 : Int32)), (3, .int (0 : Int32)), (2, .int (0 : Int32)), (0, .ref (ad 3)), (1, .ref (ad b1))]) dX1_weakest_5 (by decide) rfl ?_
  exact aw_sub [3, 4, 2, 1, 0] rfl h
set_option maxRecDepth 100000 in
set_option maxHeartbeats 4000000 in
theorem g_X1_weakest_7 {ad : Nat → Nat} {d : Nat} {Q : Option Value → Wm → Prop} {m : Wm} {b1 : Nat} {x2 x3 x4 : Int32} (hb1 : St b1) (h : (((m.1 3 3) ≤ x4 → Q (some (.int x2)) m) ∧ (¬ (m.1 3 3) ≤ x4 → (Ct ad μX1_power d [.ref (ad 3), .ref (ad b1), .int x4] m (fun r m1 => ∃ v2 : Int32, r = some (.int v2) ∧ ((x4 = 0 → AW ad E0 μX1_weakest (d + 1) Q 7 [(0, .ref (ad 3)), (1, .ref (ad b1)), (2, .int x4), (3, .int v2), (4, .int (x4 + (1 : Int32)))] [] m1) ∧ (¬ x4 = 0 → ((x3 ≤ v2 → AW ad E0 μX1_weakest (d + 1) Q 7 [(0, .ref (ad 3)), (1, .ref (ad b1)), (2, .int x2), (3, .int x3), (4, .int (x4 + (1 : Int32)))] [] m1) ∧ (¬ x3 ≤ v2 → AW ad E0 μX1_weakest (d + 1) Q 7 [(0, .ref (ad 3)), (1, .ref (ad b1)), (2, .int x4), (3, .int v2), (4, .int (x4 + (1 : Int32)))] [] m1))))))))) : AW ad E0 μX1_weakest (d + 1) Q 7 [(0, .ref (ad 3)), (1, .ref (ad b1)), (2, .int x2), (3, .int x3), (4, .int x4)] [] m := by
  refine aw_iload (j := 4) dX1_weakest_7 rfl ?_
  refine aw_aload_n (j := 0) dX1_weakest_9 rfl rfl ?_
  refine aw_getfield (c := 0) (v := .int (m.1 3 3)) dX1_weakest_10 f_X1_25 ly_3 rfl rfl ?_
  refine aw_icmp_ge (tgt := 48) dX1_weakest_13 (by decide) (fun hc => ?_) (fun hc => ?_)
  · have h := h.1 hc
    refine aw_iload_n (j := 2) dX1_weakest_48 rfl rfl ?_
    exact aw_ret (v := some (.int x2)) rfl (Or.inr (Or.inl ⟨_, .int, rfl, rfl, rfl, dX1_weakest_49⟩)) h
  · have h := h.2 hc
    refine aw_aload_n (j := 0) dX1_weakest_16 rfl rfl ?_
    refine aw_aload_n (j := 1) dX1_weakest_17 rfl rfl ?_
    refine aw_iload (j := 4) dX1_weakest_18 rfl ?_
    refine aw_callV (rest := []) [.ref (ad b1), .int x4] dX1_weakest_20 ly_3 rfl k_X1_49 rfl h (Nat.le_of_ble_eq_true rfl) (fun v m1 h => ?_)
    obtain ⟨v2, rfl, h⟩ := h
    refine aw_eq (L' := [(0, .ref (ad 3)), (1, .ref (ad b1)), (2, .int x2), (3, .int x3), (4, .int x4)]) (st' := [.int v2]) (m' := m1) ?_ rfl rfl rfl
    refine aw_istore (L' := [(5, .int v2), (0, .ref (ad 3)), (1, .ref (ad b1)), (2, .int x2), (3, .int x3), (4, .int x4)]) dX1_weakest_23 (by decide) rfl ?_
    refine aw_iload (j := 5) dX1_weakest_25 rfl ?_
    refine aw_if_eq (tgt := 36) dX1_weakest_27 (by decide) (fun hc => ?_) (fun hc => ?_)
    · have h := h.1 hc
      refine aw_iload (j := 5) dX1_weakest_36 rfl ?_
      refine aw_istore_n (L' := [(2, .int x4), (5, .int v2), (0, .ref (ad 3)), (1, .ref (ad b1)), (3, .int x3), (4, .int x4)]) dX1_weakest_38 rfl (by decide) rfl ?_
      refine aw_iload (j := 1) dX1_weakest_39 rfl ?_
      refine aw_istore_n (L' := [(3, .int v2), (2, .int x4), (5, .int v2), (0, .ref (ad 3)), (1, .ref (ad b1)), (4, .int x4)]) dX1_weakest_41 rfl (by decide) rfl ?_
      refine aw_iinc (j := 5) (v := x4 + (1 : Int32)) (L' := [(4, .int (x4 + (1 : Int32))), (3, .int v2), (2, .int x4), (5, .int v2), (0, .ref (ad 3)), (1, .ref (ad b1))]) dX1_weakest_42 rfl rfl (by decide) rfl ?_
      refine aw_goto (tgt := 7) dX1_weakest_45 (by decide) ?_
      exact aw_sub [4, 5, 2, 1, 0] rfl h
    · have h := h.2 hc
      refine aw_iload (j := 0) dX1_weakest_30 rfl ?_
      refine aw_iload_n (j := 4) dX1_weakest_32 rfl rfl ?_
      refine aw_icmp_ge (tgt := 42) dX1_weakest_33 (by decide) (fun hc => ?_) (fun hc => ?_)
      · have h := h.1 hc
        refine aw_iinc (j := 5) (v := x4 + (1 : Int32)) (L' := [(4, .int (x4 + (1 : Int32))), (5, .int v2), (0, .ref (ad 3)), (1, .ref (ad b1)), (2, .int x2), (3, .int x3)]) dX1_weakest_42 rfl rfl (by decide) rfl ?_
        refine aw_goto (tgt := 7) dX1_weakest_45 (by decide) ?_
        exact aw_sub [2, 3, 4, 5, 0] rfl h
      · have h := h.2 hc
        refine aw_iload (j := 5) dX1_weakest_36 rfl ?_
        refine aw_istore_n (L' := [(2, .int x4), (5, .int v2), (0, .ref (ad 3)), (1, .ref (ad b1)), (3, .int x3), (4, .int x4)]) dX1_weakest_38 rfl (by decide) rfl ?_
        refine aw_iload (j := 1) dX1_weakest_39 rfl ?_
        refine aw_istore_n (L' := [(3, .int v2), (2, .int x4), (5, .int v2), (0, .ref (ad 3)), (1, .ref (ad b1)), (4, .int x4)]) dX1_weakest_41 rfl (by decide) rfl ?_
        refine aw_iinc (j := 5) (v := x4 + (1 : Int32)) (L' := [(4, .int (x4 + (1 : Int32))), (3, .int v2), (2, .int x4), (5, .int v2), (0, .ref (ad 3)), (1, .ref (ad b1))]) dX1_weakest_42 rfl rfl (by decide) rfl ?_
        refine aw_goto (tgt := 7) dX1_weakest_45 (by decide) ?_
        exact aw_sub [4, 5, 2, 1, 0] rfl h
set_option maxRecDepth 100000 in
set_option maxHeartbeats 4000000 in
theorem v_X1_total {ad : Nat → Nat} {d : Nat} {Q : Option Value → Wm → Prop} {m : Wm} {b1 : Nat} (hb1 : St b1) (h : AW ad E0 μX1_total (d + 1) Q 4 [(0, .ref (ad 3)), (1, .ref (ad b1)), (2, .int (0 : Int32)), (3, .int (0 : Int32))] [] m) : Ct ad μX1_total (d + 1) [.ref (ad 3), .ref (ad b1)] m Q := by
  refine Ct.of (by decide +kernel) rfl (Nat.le_of_ble_eq_true rfl) ?_
  refine aw_eq (L' := [(0, .ref (ad 3)), (1, .ref (ad b1))]) ?_ rfl rfl rfl
  refine aw_iconst (v := 0) dX1_total_0 (by decide) ?_
  refine aw_istore_n (L' := [(2, .int (0 : Int32)), (0, .ref (ad 3)), (1, .ref (ad b1))]) dX1_total_1 rfl (by decide) rfl ?_
  refine aw_iconst (v := 0) dX1_total_2 (by decide) ?_
  refine aw_istore_n (L' := [(3, .int (0 : Int32)), (2, .int (0 : Int32)), (0, .ref (ad 3)), (1, .ref (ad b1))]) dX1_total_3 rfl (by decide) rfl ?_
  exact aw_sub [2, 3, 1, 0] rfl h
set_option maxRecDepth 100000 in
set_option maxHeartbeats 4000000 in
theorem g_X1_total_4 {ad : Nat → Nat} {d : Nat} {Q : Option Value → Wm → Prop} {m : Wm} {b1 : Nat} {x2 x3 : Int32} (hb1 : St b1) (h : (((m.1 3 3) ≤ x3 → Q (some (.int x2)) m) ∧ (¬ (m.1 3 3) ≤ x3 → (Ct ad μX8_sum d [.ref (ad b1), .int x3, .int (m.1 3 4)] m (fun r m1 => ∃ v2 : Int32, r = some (.int v2) ∧ AW ad E0 μX1_total (d + 1) Q 4 [(0, .ref (ad 3)), (1, .ref (ad b1)), (2, .int (x2 + v2)), (3, .int (x3 + (1 : Int32)))] [] m1))))) : AW ad E0 μX1_total (d + 1) Q 4 [(0, .ref (ad 3)), (1, .ref (ad b1)), (2, .int x2), (3, .int x3)] [] m := by
  refine aw_iload_n (j := 3) dX1_total_4 rfl rfl ?_
  refine aw_aload_n (j := 0) dX1_total_5 rfl rfl ?_
  refine aw_getfield (c := 0) (v := .int (m.1 3 3)) dX1_total_6 f_X1_25 ly_3 rfl rfl ?_
  refine aw_icmp_ge (tgt := 30) dX1_total_9 (by decide) (fun hc => ?_) (fun hc => ?_)
  · have h := h.1 hc
    refine aw_iload_n (j := 2) dX1_total_30 rfl rfl ?_
    exact aw_ret (v := some (.int x2)) rfl (Or.inr (Or.inl ⟨_, .int, rfl, rfl, rfl, dX1_total_31⟩)) h
  · have h := h.2 hc
    refine aw_iload_n (j := 2) dX1_total_12 rfl rfl ?_
    refine aw_aload_n (j := 1) dX1_total_13 rfl rfl ?_
    refine aw_iload_n (j := 3) dX1_total_14 rfl rfl ?_
    refine aw_aload_n (j := 0) dX1_total_15 rfl rfl ?_
    refine aw_getfield (c := 0) (v := .int (m.1 3 4)) dX1_total_16 f_X1_29 ly_3 rfl rfl ?_
    refine aw_callV (rest := [.int x2]) [.int x3, .int (m.1 3 4)] dX1_total_19 hb1.1 rfl k_X1_53 rfl h (Nat.le_of_ble_eq_true rfl) (fun v m1 h => ?_)
    obtain ⟨v2, rfl, h⟩ := h
    refine aw_eq (L' := [(0, .ref (ad 3)), (1, .ref (ad b1)), (2, .int x2), (3, .int x3)]) (st' := [.int v2, .int x2]) (m' := m1) ?_ rfl rfl rfl
    refine aw_iadd dX1_total_22 ?_
    refine aw_istore_n (L' := [(2, .int (x2 + v2)), (0, .ref (ad 3)), (1, .ref (ad b1)), (3, .int x3)]) dX1_total_23 rfl (by decide) rfl ?_
    refine aw_iinc (j := 3) (v := x3 + (1 : Int32)) (L' := [(3, .int (x3 + (1 : Int32))), (2, .int (x2 + v2)), (0, .ref (ad 3)), (1, .ref (ad b1))]) dX1_total_24 rfl rfl (by decide) rfl ?_
    refine aw_goto (tgt := 4) dX1_total_27 (by decide) ?_
    exact aw_sub [2, 3, 1, 0] rfl h
set_option maxRecDepth 100000 in
set_option maxHeartbeats 4000000 in
theorem v_X1_result {ad : Nat → Nat} {d : Nat} {Q : Option Value → Wm → Prop} {m : Wm} {b1 : Nat} {x2 x3 x4 : Int32} (hb1 : St b1) (h : ((¬ x4 = (3 : Int32) → ((x4 = 0 → (∃ r1, m.2.2 3 1 = some r1 ∧ Ru r1 ∧ (Ct ad μX5_value d [.ref (ad r1), .ref (ad b1), .int x2, .int (m.1 3 4)] m (fun r m2 => ∃ v3 : Int32, r = some (.int v3) ∧ (∃ r4, m2.2.2 3 1 = some r4 ∧ Ru r4 ∧ (Ct ad μX5_value d [.ref (ad r4), .ref (ad b1), .int x3, .int (m2.1 3 4)] m2 (fun r m5 => ∃ v6 : Int32, r = some (.int v6) ∧ (Ct ad μX1_resultOf d [.ref (ad 3), .int (v3 - v6)] m5 (fun r m7 => ∃ v8 : Int32, r = some (.int v8) ∧ Q (some (.int v8)) m7))))))))) ∧ (¬ x4 = 0 → ((¬ x4 = (1 : Int32) → Q (some (.int (0 : Int32))) m) ∧ (x4 = (1 : Int32) → Q (some (.int (1 : Int32))) m))))) ∧ (x4 = (3 : Int32) → Q (some (.int (2 : Int32))) m))) : Ct ad μX1_result (d + 1) [.ref (ad 3), .ref (ad b1), .int x2, .int x3, .int x4] m Q := by
  refine Ct.of (by decide +kernel) rfl (Nat.le_of_ble_eq_true rfl) ?_
  refine aw_eq (L' := [(0, .ref (ad 3)), (1, .ref (ad b1)), (2, .int x2), (3, .int x3), (4, .int x4)]) ?_ rfl rfl rfl
  refine aw_iload (j := 4) dX1_result_0 rfl ?_
  refine aw_iconst (v := 3) dX1_result_2 (by decide) ?_
  refine aw_icmp_ne (tgt := 8) dX1_result_3 (by decide) (fun hc => ?_) (fun hc => ?_)
  · have h := h.1 hc
    refine aw_iload (j := 4) dX1_result_8 rfl ?_
    refine aw_if_eq (tgt := 25) dX1_result_10 (by decide) (fun hc => ?_) (fun hc => ?_)
    · have h := h.1 hc
      refine aw_aload_n (j := 0) dX1_result_25 rfl rfl ?_
      refine aw_aload_n (j := 0) dX1_result_26 rfl rfl ?_
      obtain ⟨r1, hrr1, hr1, h⟩ := h
      refine aw_getfield (c := 2) (v := .ref (ad r1)) dX1_result_27 f_X1_18 ly_3 rfl (by show va_rf (Option.map ad (m.2.2 3 1)) = _; rw [hrr1]; rfl) ?_
      refine aw_aload_n (j := 1) dX1_result_30 rfl rfl ?_
      refine aw_iload_n (j := 2) dX1_result_31 rfl rfl ?_
      refine aw_aload_n (j := 0) dX1_result_32 rfl rfl ?_
      refine aw_getfield (c := 0) (v := .int (m.1 3 4)) dX1_result_33 f_X1_29 ly_3 rfl rfl ?_
      refine aw_callV (rest := [.ref (ad 3)]) [.ref (ad b1), .int x2, .int (m.1 3 4)] dX1_result_36 hr1.1 rfl k_X1_45 rfl h (Nat.le_of_ble_eq_true rfl) (fun v m2 h => ?_)
      obtain ⟨v3, rfl, h⟩ := h
      refine aw_eq (L' := [(0, .ref (ad 3)), (1, .ref (ad b1)), (2, .int x2), (3, .int x3), (4, .int x4)]) (st' := [.int v3, .ref (ad 3)]) (m' := m2) ?_ rfl rfl rfl
      refine aw_aload_n (j := 0) dX1_result_39 rfl rfl ?_
      obtain ⟨r4, hrr4, hr4, h⟩ := h
      refine aw_getfield (c := 2) (v := .ref (ad r4)) dX1_result_40 f_X1_18 ly_3 rfl (by show va_rf (Option.map ad (m2.2.2 3 1)) = _; rw [hrr4]; rfl) ?_
      refine aw_aload_n (j := 1) dX1_result_43 rfl rfl ?_
      refine aw_iload_n (j := 3) dX1_result_44 rfl rfl ?_
      refine aw_aload_n (j := 0) dX1_result_45 rfl rfl ?_
      refine aw_getfield (c := 0) (v := .int (m2.1 3 4)) dX1_result_46 f_X1_29 ly_3 rfl rfl ?_
      refine aw_callV (rest := [.int v3, .ref (ad 3)]) [.ref (ad b1), .int x3, .int (m2.1 3 4)] dX1_result_49 hr4.1 rfl k_X1_45 rfl h (Nat.le_of_ble_eq_true rfl) (fun v m5 h => ?_)
      obtain ⟨v6, rfl, h⟩ := h
      refine aw_eq (L' := [(0, .ref (ad 3)), (1, .ref (ad b1)), (2, .int x2), (3, .int x3), (4, .int x4)]) (st' := [.int v6, .int v3, .ref (ad 3)]) (m' := m5) ?_ rfl rfl rfl
      refine aw_isub dX1_result_52 ?_
      refine aw_callV (rest := []) [.int (v3 - v6)] dX1_result_53 ly_3 rfl k_X1_59 rfl h (Nat.le_of_ble_eq_true rfl) (fun v m7 h => ?_)
      obtain ⟨v8, rfl, h⟩ := h
      refine aw_eq (L' := [(0, .ref (ad 3)), (1, .ref (ad b1)), (2, .int x2), (3, .int x3), (4, .int x4)]) (st' := [.int v8]) (m' := m7) ?_ rfl rfl rfl
      exact aw_ret (v := some (.int v8)) rfl (Or.inr (Or.inl ⟨_, .int, rfl, rfl, rfl, dX1_result_56⟩)) h
    · have h := h.2 hc
      refine aw_iload (j := 4) dX1_result_13 rfl ?_
      refine aw_iconst (v := 1) dX1_result_15 (by decide) ?_
      refine aw_icmp_ne (tgt := 23) dX1_result_16 (by decide) (fun hc => ?_) (fun hc => ?_)
      · have h := h.1 hc
        refine aw_iconst (v := 0) dX1_result_23 (by decide) ?_
        exact aw_ret (v := some (.int (0 : Int32))) rfl (Or.inr (Or.inl ⟨_, .int, rfl, rfl, rfl, dX1_result_24⟩)) h
      · have h := h.2 hc
        refine aw_iconst (v := 1) dX1_result_19 (by decide) ?_
        refine aw_goto (tgt := 24) dX1_result_20 (by decide) ?_
        exact aw_ret (v := some (.int (1 : Int32))) rfl (Or.inr (Or.inl ⟨_, .int, rfl, rfl, rfl, dX1_result_24⟩)) h
  · have h := h.2 hc
    refine aw_iconst (v := 2) dX1_result_6 (by decide) ?_
    exact aw_ret (v := some (.int (2 : Int32))) rfl (Or.inr (Or.inl ⟨_, .int, rfl, rfl, rfl, dX1_result_7⟩)) h
set_option maxRecDepth 100000 in
set_option maxHeartbeats 4000000 in
theorem v_X1_resultOf {ad : Nat → Nat} {d : Nat} {Q : Option Value → Wm → Prop} {m : Wm} {x1 : Int32} (h : ((x1 ≤ (m.1 4 (3 : Int32).toNatClampNeg) → (((-x1) ≤ (m.1 4 (3 : Int32).toNatClampNeg) → Q (some (.int (2 : Int32))) m) ∧ (¬ (-x1) ≤ (m.1 4 (3 : Int32).toNatClampNeg) → Q (some (.int (1 : Int32))) m))) ∧ (¬ x1 ≤ (m.1 4 (3 : Int32).toNatClampNeg) → Q (some (.int (0 : Int32))) m))) : Ct ad μX1_resultOf d [.ref (ad 3), .int x1] m Q := by
  refine Ct.of (by decide +kernel) rfl (Nat.le_of_ble_eq_true rfl) ?_
  refine aw_eq (L' := [(0, .ref (ad 3)), (1, .int x1)]) ?_ rfl rfl rfl
  refine aw_iload_n (j := 1) dX1_resultOf_0 rfl rfl ?_
  refine aw_aload_n (j := 0) dX1_resultOf_1 rfl rfl ?_
  refine aw_getfield (c := 7) (v := .ref (ad 4)) dX1_resultOf_2 f_X1_9 ly_3 rfl rfl ?_
  refine aw_iconst (v := 3) dX1_resultOf_5 (by decide) ?_
  refine aw_iaload dX1_resultOf_6 ly_4 (by unfold vp_in; decide) ?_
  refine aw_icmp_le (tgt := 14) dX1_resultOf_7 (by decide) (fun hc => ?_) (fun hc => ?_)
  · have h := h.1 hc
    refine aw_iload_n (j := 1) dX1_resultOf_14 rfl rfl ?_
    refine aw_ineg dX1_resultOf_15 ?_
    refine aw_aload_n (j := 0) dX1_resultOf_16 rfl rfl ?_
    refine aw_getfield (c := 7) (v := .ref (ad 4)) dX1_resultOf_17 f_X1_9 ly_3 rfl rfl ?_
    refine aw_iconst (v := 3) dX1_resultOf_20 (by decide) ?_
    refine aw_iaload dX1_resultOf_21 ly_4 (by unfold vp_in; decide) ?_
    refine aw_icmp_le (tgt := 29) dX1_resultOf_22 (by decide) (fun hc => ?_) (fun hc => ?_)
    · have h := h.1 hc
      refine aw_iconst (v := 2) dX1_resultOf_29 (by decide) ?_
      exact aw_ret (v := some (.int (2 : Int32))) rfl (Or.inr (Or.inl ⟨_, .int, rfl, rfl, rfl, dX1_resultOf_30⟩)) h
    · have h := h.2 hc
      refine aw_iconst (v := 1) dX1_resultOf_25 (by decide) ?_
      refine aw_goto (tgt := 30) dX1_resultOf_26 (by decide) ?_
      exact aw_ret (v := some (.int (1 : Int32))) rfl (Or.inr (Or.inl ⟨_, .int, rfl, rfl, rfl, dX1_resultOf_30⟩)) h
  · have h := h.2 hc
    refine aw_iconst (v := 0) dX1_resultOf_10 (by decide) ?_
    refine aw_goto (tgt := 30) dX1_resultOf_11 (by decide) ?_
    exact aw_ret (v := some (.int (0 : Int32))) rfl (Or.inr (Or.inl ⟨_, .int, rfl, rfl, rfl, dX1_resultOf_30⟩)) h
set_option maxRecDepth 100000 in
set_option maxHeartbeats 4000000 in
theorem v_X1_chance {ad : Nat → Nat} {d : Nat} {Q : Option Value → Wm → Prop} {m : Wm} {b1 : Nat} {x2 x3 : Int32} (hb1 : St b1) (h : (∃ r1, m.2.2 3 1 = some r1 ∧ Ru r1 ∧ (Ct ad μX5_value d [.ref (ad r1), .ref (ad b1), .int x2, .int (m.1 3 4)] m (fun r m2 => ∃ v3 : Int32, r = some (.int v3) ∧ (∃ r4, m2.2.2 3 1 = some r4 ∧ Ru r4 ∧ (Ct ad μX5_value d [.ref (ad r4), .ref (ad b1), .int x3, .int (m2.1 3 4)] m2 (fun r m5 => ∃ v6 : Int32, r = some (.int v6) ∧ (Ct ad μX11_clamp d [.int ((50 : Int32) + ((m.1 4 (4 : Int32).toNatClampNeg) * (v3 - v6))), .int (0 : Int32), .int (100 : Int32)] m5 (fun r m7 => ∃ v8 : Int32, r = some (.int v8) ∧ Q (some (.int v8)) m7))))))))) : Ct ad μX1_chance (d + 1) [.ref (ad 3), .ref (ad b1), .int x2, .int x3] m Q := by
  refine Ct.of (by decide +kernel) rfl (Nat.le_of_ble_eq_true rfl) ?_
  refine aw_eq (L' := [(0, .ref (ad 3)), (1, .ref (ad b1)), (2, .int x2), (3, .int x3)]) ?_ rfl rfl rfl
  refine aw_bipush (v := 50) dX1_chance_0 (by decide) ?_
  refine aw_aload_n (j := 0) dX1_chance_2 rfl rfl ?_
  refine aw_getfield (c := 7) (v := .ref (ad 4)) dX1_chance_3 f_X1_9 ly_3 rfl rfl ?_
  refine aw_iconst (v := 4) dX1_chance_6 (by decide) ?_
  refine aw_iaload dX1_chance_7 ly_4 (by unfold vp_in; decide) ?_
  refine aw_aload_n (j := 0) dX1_chance_8 rfl rfl ?_
  obtain ⟨r1, hrr1, hr1, h⟩ := h
  refine aw_getfield (c := 2) (v := .ref (ad r1)) dX1_chance_9 f_X1_18 ly_3 rfl (by show va_rf (Option.map ad (m.2.2 3 1)) = _; rw [hrr1]; rfl) ?_
  refine aw_aload_n (j := 1) dX1_chance_12 rfl rfl ?_
  refine aw_iload_n (j := 2) dX1_chance_13 rfl rfl ?_
  refine aw_aload_n (j := 0) dX1_chance_14 rfl rfl ?_
  refine aw_getfield (c := 0) (v := .int (m.1 3 4)) dX1_chance_15 f_X1_29 ly_3 rfl rfl ?_
  refine aw_callV (rest := [.int (m.1 4 (4 : Int32).toNatClampNeg), .int (50 : Int32)]) [.ref (ad b1), .int x2, .int (m.1 3 4)] dX1_chance_18 hr1.1 rfl k_X1_45 rfl h (Nat.le_of_ble_eq_true rfl) (fun v m2 h => ?_)
  obtain ⟨v3, rfl, h⟩ := h
  refine aw_eq (L' := [(0, .ref (ad 3)), (1, .ref (ad b1)), (2, .int x2), (3, .int x3)]) (st' := [.int v3, .int (m.1 4 (4 : Int32).toNatClampNeg), .int (50 : Int32)]) (m' := m2) ?_ rfl rfl rfl
  refine aw_aload_n (j := 0) dX1_chance_21 rfl rfl ?_
  obtain ⟨r4, hrr4, hr4, h⟩ := h
  refine aw_getfield (c := 2) (v := .ref (ad r4)) dX1_chance_22 f_X1_18 ly_3 rfl (by show va_rf (Option.map ad (m2.2.2 3 1)) = _; rw [hrr4]; rfl) ?_
  refine aw_aload_n (j := 1) dX1_chance_25 rfl rfl ?_
  refine aw_iload_n (j := 3) dX1_chance_26 rfl rfl ?_
  refine aw_aload_n (j := 0) dX1_chance_27 rfl rfl ?_
  refine aw_getfield (c := 0) (v := .int (m2.1 3 4)) dX1_chance_28 f_X1_29 ly_3 rfl rfl ?_
  refine aw_callV (rest := [.int v3, .int (m.1 4 (4 : Int32).toNatClampNeg), .int (50 : Int32)]) [.ref (ad b1), .int x3, .int (m2.1 3 4)] dX1_chance_31 hr4.1 rfl k_X1_45 rfl h (Nat.le_of_ble_eq_true rfl) (fun v m5 h => ?_)
  obtain ⟨v6, rfl, h⟩ := h
  refine aw_eq (L' := [(0, .ref (ad 3)), (1, .ref (ad b1)), (2, .int x2), (3, .int x3)]) (st' := [.int v6, .int v3, .int (m.1 4 (4 : Int32).toNatClampNeg), .int (50 : Int32)]) (m' := m5) ?_ rfl rfl rfl
  refine aw_isub dX1_chance_34 ?_
  refine aw_imul dX1_chance_35 ?_
  refine aw_iadd dX1_chance_36 ?_
  refine aw_iconst (v := 0) dX1_chance_37 (by decide) ?_
  refine aw_bipush (v := 100) dX1_chance_38 (by decide) ?_
  refine aw_callN (rest := []) [.int ((50 : Int32) + ((m.1 4 (4 : Int32).toNatClampNeg) * (v3 - v6))), .int (0 : Int32), .int (100 : Int32)] dX1_chance_40 k_X1_63 rfl h (Nat.le_of_ble_eq_true rfl) (fun v m7 h => ?_)
  obtain ⟨v8, rfl, h⟩ := h
  refine aw_eq (L' := [(0, .ref (ad 3)), (1, .ref (ad b1)), (2, .int x2), (3, .int x3)]) (st' := [.int v8]) (m' := m7) ?_ rfl rfl rfl
  exact aw_ret (v := some (.int v8)) rfl (Or.inr (Or.inl ⟨_, .int, rfl, rfl, rfl, dX1_chance_43⟩)) h
set_option maxRecDepth 100000 in
set_option maxHeartbeats 4000000 in
theorem v_X1_drawnResult {ad : Nat → Nat} {d : Nat} {Q : Option Value → Wm → Prop} {m : Wm} {b1 : Nat} {x2 x3 : Int32} (hb1 : St b1) (h : (Ct ad μX1_chance d [.ref (ad 3), .ref (ad b1), .int x2, .int x3] m (fun r m1 => ∃ v2 : Int32, r = some (.int v2) ∧ ((v2 ≤ (((((uI m1 b1 4 (((m1.1 b1 4) * (1103515245 : Int32)) + (12345 : Int32))).1 b1 4).toUInt32 >>> ((16 : Int32).toUInt32 &&& Int32.toUInt32 31)).toInt32) - ((((uI m1 b1 4 (((m1.1 b1 4) * (1103515245 : Int32)) + (12345 : Int32))).1 b1 4).toUInt32 >>> ((16 : Int32).toUInt32 &&& Int32.toUInt32 31)).toInt32) / (100 : Int32) * (100 : Int32)) → Q (some (.int (1 : Int32))) (uI m1 b1 4 (((m1.1 b1 4) * (1103515245 : Int32)) + (12345 : Int32)))) ∧ (¬ v2 ≤ (((((uI m1 b1 4 (((m1.1 b1 4) * (1103515245 : Int32)) + (12345 : Int32))).1 b1 4).toUInt32 >>> ((16 : Int32).toUInt32 &&& Int32.toUInt32 31)).toInt32) - ((((uI m1 b1 4 (((m1.1 b1 4) * (1103515245 : Int32)) + (12345 : Int32))).1 b1 4).toUInt32 >>> ((16 : Int32).toUInt32 &&& Int32.toUInt32 31)).toInt32) / (100 : Int32) * (100 : Int32)) → Q (some (.int (0 : Int32))) (uI m1 b1 4 (((m1.1 b1 4) * (1103515245 : Int32)) + (12345 : Int32)))))))) : Ct ad μX1_drawnResult (d + 1) [.ref (ad 3), .ref (ad b1), .int x2, .int x3] m Q := by
  refine Ct.of (by decide +kernel) rfl (Nat.le_of_ble_eq_true rfl) ?_
  refine aw_eq (L' := [(0, .ref (ad 3)), (1, .ref (ad b1)), (2, .int x2), (3, .int x3)]) ?_ rfl rfl rfl
  refine aw_aload_n (j := 0) dX1_drawnResult_0 rfl rfl ?_
  refine aw_aload_n (j := 1) dX1_drawnResult_1 rfl rfl ?_
  refine aw_iload_n (j := 2) dX1_drawnResult_2 rfl rfl ?_
  refine aw_iload_n (j := 3) dX1_drawnResult_3 rfl rfl ?_
  refine aw_callV (rest := []) [.ref (ad b1), .int x2, .int x3] dX1_drawnResult_4 ly_3 rfl k_X1_67 rfl h (Nat.le_of_ble_eq_true rfl) (fun v m1 h => ?_)
  obtain ⟨v2, rfl, h⟩ := h
  refine aw_eq (L' := [(0, .ref (ad 3)), (1, .ref (ad b1)), (2, .int x2), (3, .int x3)]) (st' := [.int v2]) (m' := m1) ?_ rfl rfl rfl
  refine aw_istore (L' := [(4, .int v2), (0, .ref (ad 3)), (1, .ref (ad b1)), (2, .int x2), (3, .int x3)]) dX1_drawnResult_7 (by decide) rfl ?_
  refine aw_aload_n (j := 2) dX1_drawnResult_9 rfl rfl ?_
  refine aw_aload_n (j := 2) dX1_drawnResult_10 rfl rfl ?_
  refine aw_getfield (c := 0) (v := .int (m1.1 b1 4)) dX1_drawnResult_11 f_X1_70 hb1.1 rfl rfl ?_
  refine aw_ldc dX1_drawnResult_14 c_X1_73 ?_
  refine aw_imul dX1_drawnResult_16 ?_
  refine aw_sipush (v := 12345) dX1_drawnResult_17 (by decide) ?_
  refine aw_iadd dX1_drawnResult_20 ?_
  refine aw_putI dX1_drawnResult_21 f_X1_70 cl_X8 rfl hb1.1 rfl rfl rfl ?_
  refine aw_aload_n (j := 2) dX1_drawnResult_24 rfl rfl ?_
  refine aw_getfield (c := 0) (v := .int ((uI m1 b1 4 (((m1.1 b1 4) * (1103515245 : Int32)) + (12345 : Int32))).1 b1 4)) dX1_drawnResult_25 f_X1_70 hb1.1 rfl rfl ?_
  refine aw_bipush (v := 16) dX1_drawnResult_28 (by decide) ?_
  refine aw_iushr dX1_drawnResult_30 ?_
  refine aw_bipush (v := 100) dX1_drawnResult_31 (by decide) ?_
  refine aw_irem dX1_drawnResult_33 (by decide) ?_
  refine aw_iload (j := 0) dX1_drawnResult_34 rfl ?_
  refine aw_icmp_ge (tgt := 43) dX1_drawnResult_36 (by decide) (fun hc => ?_) (fun hc => ?_)
  · have h := h.1 hc
    refine aw_iconst (v := 1) dX1_drawnResult_43 (by decide) ?_
    exact aw_ret (v := some (.int (1 : Int32))) rfl (Or.inr (Or.inl ⟨_, .int, rfl, rfl, rfl, dX1_drawnResult_44⟩)) h
  · have h := h.2 hc
    refine aw_iconst (v := 0) dX1_drawnResult_39 (by decide) ?_
    refine aw_goto (tgt := 44) dX1_drawnResult_40 (by decide) ?_
    exact aw_ret (v := some (.int (0 : Int32))) rfl (Or.inr (Or.inl ⟨_, .int, rfl, rfl, rfl, dX1_drawnResult_44⟩)) h
set_option maxRecDepth 100000 in
set_option maxHeartbeats 4000000 in
theorem v_X1_settle {ad : Nat → Nat} {d : Nat} {Q : Option Value → Wm → Prop} {m : Wm} {b1 : Nat} {x2 x3 x4 x5 : Int32} (hb1 : St b1) (h : ((x5 = 0 → AW ad E0 μX1_settle (d + 1) Q 23 [(0, .ref (ad 3)), (1, .ref (ad b1)), (2, .int x2), (3, .int x3), (4, .int x4), (5, .int x5)] [] (uI (uI m 3 6 (-1 : Int32)) 3 7 (0 : Int32))) ∧ (¬ x5 = 0 → (Ct ad μX1_givePoints d [.ref (ad b1), .int x2, .int x3, .int x4] (uI (uI m 3 6 (-1 : Int32)) 3 7 (0 : Int32)) (fun r m1 => r = none ∧ AW ad E0 μX1_settle (d + 1) Q 23 [(0, .ref (ad 3)), (1, .ref (ad b1)), (2, .int x2), (3, .int x3), (4, .int x4), (5, .int x5)] [] m1))))) : Ct ad μX1_settle (d + 1) [.ref (ad 3), .ref (ad b1), .int x2, .int x3, .int x4, .int x5] m Q := by
  refine Ct.of (by decide +kernel) rfl (Nat.le_of_ble_eq_true rfl) ?_
  refine aw_eq (L' := [(0, .ref (ad 3)), (1, .ref (ad b1)), (2, .int x2), (3, .int x3), (4, .int x4), (5, .int x5)]) ?_ rfl rfl rfl
  refine aw_aload_n (j := 0) dX1_settle_0 rfl rfl ?_
  refine aw_iconst (v := -1) dX1_settle_1 (by decide) ?_
  refine aw_putI dX1_settle_2 f_X1_35 cl_X1 rfl ly_3 rfl rfl rfl ?_
  refine aw_aload_n (j := 0) dX1_settle_5 rfl rfl ?_
  refine aw_iconst (v := 0) dX1_settle_6 (by decide) ?_
  refine aw_putI dX1_settle_7 f_X1_38 cl_X1 rfl ly_3 rfl rfl rfl ?_
  refine aw_iload (j := 5) dX1_settle_10 rfl ?_
  refine aw_if_eq (tgt := 23) dX1_settle_12 (by decide) (fun hc => ?_) (fun hc => ?_)
  · have h := h.1 hc
    exact aw_sub [0, 1, 2, 3, 4, 5] rfl h
  · have h := h.2 hc
    refine aw_aload_n (j := 1) dX1_settle_15 rfl rfl ?_
    refine aw_iload_n (j := 2) dX1_settle_16 rfl rfl ?_
    refine aw_iload_n (j := 3) dX1_settle_17 rfl rfl ?_
    refine aw_iload (j := 4) dX1_settle_18 rfl ?_
    refine aw_callS (rest := []) [.ref (ad b1), .int x2, .int x3, .int x4] dX1_settle_20 k_X1_74 rfl h (Nat.le_of_ble_eq_true rfl) (fun v m1 h => ?_)
    obtain ⟨rfl, h⟩ := h
    refine aw_eq (L' := [(0, .ref (ad 3)), (1, .ref (ad b1)), (2, .int x2), (3, .int x3), (4, .int x4), (5, .int x5)]) (st' := []) (m' := m1) ?_ rfl rfl rfl
    exact aw_sub [0, 1, 2, 3, 4, 5] rfl h
set_option maxRecDepth 100000 in
set_option maxHeartbeats 4000000 in
theorem g_X1_settle_23 {ad : Nat → Nat} {d : Nat} {Q : Option Value → Wm → Prop} {m : Wm} {b1 : Nat} {x2 x3 x4 x5 : Int32} (hb1 : St b1) (h : ((¬ x4 = (2 : Int32) → ((¬ x4 = 0 → ((¬ x4 = 0 → AW ad E0 μX1_settle (d + 1) Q 52 [(0, .ref (ad 3)), (1, .ref (ad b1)), (5, .int x5), (6, .int x3)] [.int x2] m) ∧ (x4 = 0 → AW ad E0 μX1_settle (d + 1) Q 52 [(0, .ref (ad 3)), (1, .ref (ad b1)), (5, .int x5), (6, .int x3)] [.int x3] m))) ∧ (x4 = 0 → ((¬ x4 = 0 → AW ad E0 μX1_settle (d + 1) Q 52 [(0, .ref (ad 3)), (1, .ref (ad b1)), (5, .int x5), (6, .int x2)] [.int x2] m) ∧ (x4 = 0 → AW ad E0 μX1_settle (d + 1) Q 52 [(0, .ref (ad 3)), (1, .ref (ad b1)), (5, .int x5), (6, .int x2)] [.int x3] m))))) ∧ (x4 = (2 : Int32) → Q none m))) : AW ad E0 μX1_settle (d + 1) Q 23 [(0, .ref (ad 3)), (1, .ref (ad b1)), (2, .int x2), (3, .int x3), (4, .int x4), (5, .int x5)] [] m := by
  refine aw_iload (j := 4) dX1_settle_23 rfl ?_
  refine aw_iconst (v := 2) dX1_settle_25 (by decide) ?_
  refine aw_icmp_ne (tgt := 30) dX1_settle_26 (by decide) (fun hc => ?_) (fun hc => ?_)
  · have h := h.1 hc
    refine aw_iload (j := 4) dX1_settle_30 rfl ?_
    refine aw_if_ne (tgt := 39) dX1_settle_32 (by decide) (fun hc => ?_) (fun hc => ?_)
    · have h := h.1 hc
      refine aw_iload_n (j := 3) dX1_settle_39 rfl rfl ?_
      refine aw_istore (L' := [(6, .int x3), (0, .ref (ad 3)), (1, .ref (ad b1)), (2, .int x2), (3, .int x3), (4, .int x4), (5, .int x5)]) dX1_settle_40 (by decide) rfl ?_
      refine aw_iload (j := 5) dX1_settle_42 rfl ?_
      refine aw_if_ne (tgt := 51) dX1_settle_44 (by decide) (fun hc => ?_) (fun hc => ?_)
      · have h := h.1 hc
        refine aw_iload_n (j := 3) dX1_settle_51 rfl rfl ?_
        exact aw_sub [1, 2, 6, 0] rfl h
      · have h := h.2 hc
        refine aw_iload_n (j := 4) dX1_settle_47 rfl rfl ?_
        refine aw_goto (tgt := 52) dX1_settle_48 (by decide) ?_
        exact aw_sub [1, 2, 6, 0] rfl h
    · have h := h.2 hc
      refine aw_iload_n (j := 2) dX1_settle_35 rfl rfl ?_
      refine aw_goto (tgt := 40) dX1_settle_36 (by decide) ?_
      refine aw_istore (L' := [(6, .int x2), (0, .ref (ad 3)), (1, .ref (ad b1)), (2, .int x2), (3, .int x3), (4, .int x4), (5, .int x5)]) dX1_settle_40 (by decide) rfl ?_
      refine aw_iload (j := 5) dX1_settle_42 rfl ?_
      refine aw_if_ne (tgt := 51) dX1_settle_44 (by decide) (fun hc => ?_) (fun hc => ?_)
      · have h := h.1 hc
        refine aw_iload_n (j := 3) dX1_settle_51 rfl rfl ?_
        exact aw_sub [1, 2, 6, 0] rfl h
      · have h := h.2 hc
        refine aw_iload_n (j := 4) dX1_settle_47 rfl rfl ?_
        refine aw_goto (tgt := 52) dX1_settle_48 (by decide) ?_
        exact aw_sub [1, 2, 6, 0] rfl h
  · have h := h.2 hc
    exact aw_ret (v := none) rfl (Or.inl ⟨rfl, rfl, dX1_settle_29⟩) h
set_option maxRecDepth 100000 in
set_option maxHeartbeats 4000000 in
theorem g_X1_settle_52 {ad : Nat → Nat} {d : Nat} {Q : Option Value → Wm → Prop} {m : Wm} {b1 : Nat} {x5 x6 s0 : Int32} (hb1 : St b1) (h : (((m.1 4 (0 : Int32).toNatClampNeg) = 0 → (Ct ad μX1_teach d [.ref (ad 3), .ref (ad b1), .int x6, .int s0, .int x5] m (fun r m1 => r = none ∧ AW ad E0 μX1_settle (d + 1) Q 84 [(0, .ref (ad 3)), (1, .ref (ad b1)), (5, .int x5), (6, .int x6), (7, .int s0)] [] m1))) ∧ (¬ (m.1 4 (0 : Int32).toNatClampNeg) = 0 → ((¬ (m.1 4 (0 : Int32).toNatClampNeg) = (2 : Int32) → AW ad E0 μX1_settle (d + 1) Q 84 [(0, .ref (ad 3)), (1, .ref (ad b1)), (5, .int x5), (6, .int x6), (7, .int s0)] [] m) ∧ ((m.1 4 (0 : Int32).toNatClampNeg) = (2 : Int32) → (Ct ad μX1_teach d [.ref (ad 3), .ref (ad b1), .int x6, .int s0, .int x5] m (fun r m2 => r = none ∧ AW ad E0 μX1_settle (d + 1) Q 84 [(0, .ref (ad 3)), (1, .ref (ad b1)), (5, .int x5), (6, .int x6), (7, .int s0)] [] m2))))))) : AW ad E0 μX1_settle (d + 1) Q 52 [(0, .ref (ad 3)), (1, .ref (ad b1)), (5, .int x5), (6, .int x6)] [.int s0] m := by
  refine aw_istore (L' := [(7, .int s0), (0, .ref (ad 3)), (1, .ref (ad b1)), (5, .int x5), (6, .int x6)]) dX1_settle_52 (by decide) rfl ?_
  refine aw_aload_n (j := 1) dX1_settle_54 rfl rfl ?_
  refine aw_getfield (c := 7) (v := .ref (ad 4)) dX1_settle_55 f_X1_9 ly_3 rfl rfl ?_
  refine aw_iconst (v := 0) dX1_settle_58 (by decide) ?_
  refine aw_iaload dX1_settle_59 ly_4 (by unfold vp_in; decide) ?_
  refine aw_if_eq (tgt := 73) dX1_settle_60 (by decide) (fun hc => ?_) (fun hc => ?_)
  · have h := h.1 hc
    refine aw_aload_n (j := 1) dX1_settle_73 rfl rfl ?_
    refine aw_aload_n (j := 2) dX1_settle_74 rfl rfl ?_
    refine aw_iload (j := 4) dX1_settle_75 rfl ?_
    refine aw_iload (j := 0) dX1_settle_77 rfl ?_
    refine aw_iload (j := 3) dX1_settle_79 rfl ?_
    refine aw_callV (rest := []) [.ref (ad b1), .int x6, .int s0, .int x5] dX1_settle_81 ly_3 rfl k_X1_78 rfl h (Nat.le_of_ble_eq_true rfl) (fun v m1 h => ?_)
    obtain ⟨rfl, h⟩ := h
    refine aw_eq (L' := [(7, .int s0), (0, .ref (ad 3)), (1, .ref (ad b1)), (5, .int x5), (6, .int x6)]) (st' := []) (m' := m1) ?_ rfl rfl rfl
    exact aw_sub [1, 2, 3, 4, 0] rfl h
  · have h := h.2 hc
    refine aw_aload_n (j := 1) dX1_settle_63 rfl rfl ?_
    refine aw_getfield (c := 7) (v := .ref (ad 4)) dX1_settle_64 f_X1_9 ly_3 rfl rfl ?_
    refine aw_iconst (v := 0) dX1_settle_67 (by decide) ?_
    refine aw_iaload dX1_settle_68 ly_4 (by unfold vp_in; decide) ?_
    refine aw_iconst (v := 2) dX1_settle_69 (by decide) ?_
    refine aw_icmp_ne (tgt := 84) dX1_settle_70 (by decide) (fun hc => ?_) (fun hc => ?_)
    · have h := h.1 hc
      exact aw_sub [1, 2, 3, 4, 0] rfl h
    · have h := h.2 hc
      refine aw_aload_n (j := 1) dX1_settle_73 rfl rfl ?_
      refine aw_aload_n (j := 2) dX1_settle_74 rfl rfl ?_
      refine aw_iload (j := 4) dX1_settle_75 rfl ?_
      refine aw_iload (j := 0) dX1_settle_77 rfl ?_
      refine aw_iload (j := 3) dX1_settle_79 rfl ?_
      refine aw_callV (rest := []) [.ref (ad b1), .int x6, .int s0, .int x5] dX1_settle_81 ly_3 rfl k_X1_78 rfl h (Nat.le_of_ble_eq_true rfl) (fun v m2 h => ?_)
      obtain ⟨rfl, h⟩ := h
      refine aw_eq (L' := [(7, .int s0), (0, .ref (ad 3)), (1, .ref (ad b1)), (5, .int x5), (6, .int x6)]) (st' := []) (m' := m2) ?_ rfl rfl rfl
      exact aw_sub [1, 2, 3, 4, 0] rfl h
set_option maxRecDepth 100000 in
set_option maxHeartbeats 4000000 in
theorem g_X1_settle_84 {ad : Nat → Nat} {d : Nat} {Q : Option Value → Wm → Prop} {m : Wm} {b1 : Nat} {x5 x6 x7 : Int32} (hb1 : St b1) (h : (((m.1 4 (0 : Int32).toNatClampNeg) = (1 : Int32) → AW ad E0 μX1_settle (d + 1) Q 104 [(0, .ref (ad 3)), (1, .ref (ad b1)), (5, .int x5), (6, .int x6), (7, .int x7)] [] m) ∧ (¬ (m.1 4 (0 : Int32).toNatClampNeg) = (1 : Int32) → ((¬ (m.1 4 (0 : Int32).toNatClampNeg) = (2 : Int32) → Q none m) ∧ ((m.1 4 (0 : Int32).toNatClampNeg) = (2 : Int32) → AW ad E0 μX1_settle (d + 1) Q 104 [(0, .ref (ad 3)), (1, .ref (ad b1)), (5, .int x5), (6, .int x6), (7, .int x7)] [] m))))) : AW ad E0 μX1_settle (d + 1) Q 84 [(0, .ref (ad 3)), (1, .ref (ad b1)), (5, .int x5), (6, .int x6), (7, .int x7)] [] m := by
  refine aw_aload_n (j := 0) dX1_settle_84 rfl rfl ?_
  refine aw_getfield (c := 7) (v := .ref (ad 4)) dX1_settle_85 f_X1_9 ly_3 rfl rfl ?_
  refine aw_iconst (v := 0) dX1_settle_88 (by decide) ?_
  refine aw_iaload dX1_settle_89 ly_4 (by unfold vp_in; decide) ?_
  refine aw_iconst (v := 1) dX1_settle_90 (by decide) ?_
  refine aw_icmp_eq (tgt := 104) dX1_settle_91 (by decide) (fun hc => ?_) (fun hc => ?_)
  · have h := h.1 hc
    exact aw_sub [0, 1, 2, 3, 4] rfl h
  · have h := h.2 hc
    refine aw_aload_n (j := 0) dX1_settle_94 rfl rfl ?_
    refine aw_getfield (c := 7) (v := .ref (ad 4)) dX1_settle_95 f_X1_9 ly_3 rfl rfl ?_
    refine aw_iconst (v := 0) dX1_settle_98 (by decide) ?_
    refine aw_iaload dX1_settle_99 ly_4 (by unfold vp_in; decide) ?_
    refine aw_iconst (v := 2) dX1_settle_100 (by decide) ?_
    refine aw_icmp_ne (tgt := 115) dX1_settle_101 (by decide) (fun hc => ?_) (fun hc => ?_)
    · have h := h.1 hc
      exact aw_ret (v := none) rfl (Or.inl ⟨rfl, rfl, dX1_settle_115⟩) h
    · have h := h.2 hc
      exact aw_sub [0, 1, 2, 3, 4] rfl h
set_option maxRecDepth 100000 in
set_option maxHeartbeats 4000000 in
theorem g_X1_settle_104 {ad : Nat → Nat} {d : Nat} {Q : Option Value → Wm → Prop} {m : Wm} {b1 : Nat} {x5 x6 x7 : Int32} (hb1 : St b1) (h : (Ct ad μX1_teach d [.ref (ad 3), .ref (ad b1), .int x7, .int x6, .int x5] m (fun r m1 => r = none ∧ Q none m1))) : AW ad E0 μX1_settle (d + 1) Q 104 [(0, .ref (ad 3)), (1, .ref (ad b1)), (5, .int x5), (6, .int x6), (7, .int x7)] [] m := by
  refine aw_aload_n (j := 0) dX1_settle_104 rfl rfl ?_
  refine aw_aload_n (j := 1) dX1_settle_105 rfl rfl ?_
  refine aw_iload (j := 4) dX1_settle_106 rfl ?_
  refine aw_iload (j := 3) dX1_settle_108 rfl ?_
  refine aw_iload (j := 2) dX1_settle_110 rfl ?_
  refine aw_callV (rest := []) [.ref (ad b1), .int x7, .int x6, .int x5] dX1_settle_112 ly_3 rfl k_X1_78 rfl h (Nat.le_of_ble_eq_true rfl) (fun v m1 h => ?_)
  obtain ⟨rfl, h⟩ := h
  refine aw_eq (L' := [(0, .ref (ad 3)), (1, .ref (ad b1)), (5, .int x5), (6, .int x6), (7, .int x7)]) (st' := []) (m' := m1) ?_ rfl rfl rfl
  exact aw_ret (v := none) rfl (Or.inl ⟨rfl, rfl, dX1_settle_115⟩) h
set_option maxRecDepth 100000 in
set_option maxHeartbeats 4000000 in
theorem v_X1_givePoints {ad : Nat → Nat} {d : Nat} {Q : Option Value → Wm → Prop} {m : Wm} {b0 : Nat} {x1 x2 x3 : Int32} (hb0 : St b0) (h : ((¬ x3 = (2 : Int32) → ((¬ x3 = 0 → (vp_in x2 8 ∧ (vp_in x2 8 ∧ Q none (uI m (b0 + 2) x2.toNatClampNeg ((m.1 (b0 + 2) x2.toNatClampNeg) + (3 : Int32)))))) ∧ (x3 = 0 → (vp_in x1 8 ∧ (vp_in x1 8 ∧ Q none (uI m (b0 + 2) x1.toNatClampNeg ((m.1 (b0 + 2) x1.toNatClampNeg) + (3 : Int32)))))))) ∧ (x3 = (2 : Int32) → (vp_in x1 8 ∧ (vp_in x1 8 ∧ (vp_in x2 8 ∧ (vp_in x2 8 ∧ Q none (uI (uI m (b0 + 2) x1.toNatClampNeg ((m.1 (b0 + 2) x1.toNatClampNeg) + (1 : Int32))) (b0 + 2) x2.toNatClampNeg (((uI m (b0 + 2) x1.toNatClampNeg ((m.1 (b0 + 2) x1.toNatClampNeg) + (1 : Int32))).1 (b0 + 2) x2.toNatClampNeg) + (1 : Int32)))))))))) : Ct ad μX1_givePoints d [.ref (ad b0), .int x1, .int x2, .int x3] m Q := by
  refine Ct.of (by decide +kernel) rfl (Nat.le_of_ble_eq_true rfl) ?_
  refine aw_eq (L' := [(0, .ref (ad b0)), (1, .int x1), (2, .int x2), (3, .int x3)]) ?_ rfl rfl rfl
  refine aw_iload_n (j := 3) dX1_givePoints_0 rfl rfl ?_
  refine aw_iconst (v := 2) dX1_givePoints_1 (by decide) ?_
  refine aw_icmp_ne (tgt := 28) dX1_givePoints_2 (by decide) (fun hc => ?_) (fun hc => ?_)
  · have h := h.1 hc
    refine aw_aload_n (j := 0) dX1_givePoints_28 rfl rfl ?_
    refine aw_getfield (c := b0 + 2 + 3) (v := .ref (ad (b0 + 2))) dX1_givePoints_29 f_X1_82 hb0.1 rfl rfl ?_
    refine aw_iload_n (j := 3) dX1_givePoints_32 rfl rfl ?_
    refine aw_if_ne (tgt := 40) dX1_givePoints_33 (by decide) (fun hc => ?_) (fun hc => ?_)
    · have h := h.1 hc
      refine aw_iload_n (j := 2) dX1_givePoints_40 rfl rfl ?_
      refine aw_dup2_11 dX1_givePoints_41 rfl rfl ?_
      obtain ⟨hi, h⟩ := h
      refine aw_iaload dX1_givePoints_42 hb0.2.2.1 hi ?_
      refine aw_iconst (v := 3) dX1_givePoints_43 (by decide) ?_
      refine aw_iadd dX1_givePoints_44 ?_
      obtain ⟨hi, h⟩ := h
      refine aw_iastore dX1_givePoints_45 hb0.2.2.1 hi ?_
      exact aw_ret (v := none) rfl (Or.inl ⟨rfl, rfl, dX1_givePoints_46⟩) h
    · have h := h.2 hc
      refine aw_iload_n (j := 1) dX1_givePoints_36 rfl rfl ?_
      refine aw_goto (tgt := 41) dX1_givePoints_37 (by decide) ?_
      refine aw_dup2_11 dX1_givePoints_41 rfl rfl ?_
      obtain ⟨hi, h⟩ := h
      refine aw_iaload dX1_givePoints_42 hb0.2.2.1 hi ?_
      refine aw_iconst (v := 3) dX1_givePoints_43 (by decide) ?_
      refine aw_iadd dX1_givePoints_44 ?_
      obtain ⟨hi, h⟩ := h
      refine aw_iastore dX1_givePoints_45 hb0.2.2.1 hi ?_
      exact aw_ret (v := none) rfl (Or.inl ⟨rfl, rfl, dX1_givePoints_46⟩) h
  · have h := h.2 hc
    refine aw_aload_n (j := 0) dX1_givePoints_5 rfl rfl ?_
    refine aw_getfield (c := b0 + 2 + 3) (v := .ref (ad (b0 + 2))) dX1_givePoints_6 f_X1_82 hb0.1 rfl rfl ?_
    refine aw_iload_n (j := 1) dX1_givePoints_9 rfl rfl ?_
    refine aw_dup2_11 dX1_givePoints_10 rfl rfl ?_
    obtain ⟨hi, h⟩ := h
    refine aw_iaload dX1_givePoints_11 hb0.2.2.1 hi ?_
    refine aw_iconst (v := 1) dX1_givePoints_12 (by decide) ?_
    refine aw_iadd dX1_givePoints_13 ?_
    obtain ⟨hi, h⟩ := h
    refine aw_iastore dX1_givePoints_14 hb0.2.2.1 hi ?_
    refine aw_aload_n (j := 0) dX1_givePoints_15 rfl rfl ?_
    refine aw_getfield (c := b0 + 2 + 3) (v := .ref (ad (b0 + 2))) dX1_givePoints_16 f_X1_82 hb0.1 rfl rfl ?_
    refine aw_iload_n (j := 2) dX1_givePoints_19 rfl rfl ?_
    refine aw_dup2_11 dX1_givePoints_20 rfl rfl ?_
    obtain ⟨hi, h⟩ := h
    refine aw_iaload dX1_givePoints_21 hb0.2.2.1 hi ?_
    refine aw_iconst (v := 1) dX1_givePoints_22 (by decide) ?_
    refine aw_iadd dX1_givePoints_23 ?_
    obtain ⟨hi, h⟩ := h
    refine aw_iastore dX1_givePoints_24 hb0.2.2.1 hi ?_
    refine aw_goto (tgt := 46) dX1_givePoints_25 (by decide) ?_
    exact aw_ret (v := none) rfl (Or.inl ⟨rfl, rfl, dX1_givePoints_46⟩) h
set_option maxRecDepth 100000 in
set_option maxHeartbeats 4000000 in
theorem v_X1_teach {ad : Nat → Nat} {d : Nat} {Q : Option Value → Wm → Prop} {m : Wm} {b1 : Nat} {x2 x3 x4 : Int32} (hb1 : St b1) (h : (Ct ad μX8_furthestArt d [.ref (ad b1), .int x2, .int x3, .int (m.1 3 4)] m (fun r m1 => ∃ v2 : Int32, r = some (.int v2) ∧ ((¬ v2 = (-1 : Int32) → (Ct ad μX8_skillOf d [.ref (ad b1), .int x3, .int v2] m1 (fun r m3 => ∃ v4 : Int32, r = some (.int v4) ∧ (Ct ad μX8_skillOf d [.ref (ad b1), .int x2, .int v2] m3 (fun r m5 => ∃ v6 : Int32, r = some (.int v6) ∧ (Ct ad μX1_isIll d [.ref (ad 3), .int x2] m5 (fun r m7 => ∃ v8 : Int32, r = some (.int v8) ∧ ((v8 = 0 → AW ad E0 μX1_teach (d + 1) Q 63 [(0, .ref (ad 3)), (1, .ref (ad b1)), (2, .int x2), (3, .int x3), (4, .int x4), (5, .int v2), (6, .int v4), (7, .int v6)] [.int (if (v6 - v4) < (m7.1 4 (1 : Int32).toNatClampNeg) then (v6 - v4) else (m7.1 4 (1 : Int32).toNatClampNeg))] m7) ∧ (¬ v8 = 0 → AW ad E0 μX1_teach (d + 1) Q 63 [(0, .ref (ad 3)), (1, .ref (ad b1)), (2, .int x2), (3, .int x3), (4, .int x4), (5, .int v2), (6, .int v4), (7, .int v6)] [.int (0 : Int32)] m7))))))))) ∧ (v2 = (-1 : Int32) → Q none m1))))) : Ct ad μX1_teach (d + 1) [.ref (ad 3), .ref (ad b1), .int x2, .int x3, .int x4] m Q := by
  refine Ct.of (by decide +kernel) rfl (Nat.le_of_ble_eq_true rfl) ?_
  refine aw_eq (L' := [(0, .ref (ad 3)), (1, .ref (ad b1)), (2, .int x2), (3, .int x3), (4, .int x4)]) ?_ rfl rfl rfl
  refine aw_aload_n (j := 1) dX1_teach_0 rfl rfl ?_
  refine aw_iload_n (j := 2) dX1_teach_1 rfl rfl ?_
  refine aw_iload_n (j := 3) dX1_teach_2 rfl rfl ?_
  refine aw_aload_n (j := 0) dX1_teach_3 rfl rfl ?_
  refine aw_getfield (c := 0) (v := .int (m.1 3 4)) dX1_teach_4 f_X1_29 ly_3 rfl rfl ?_
  refine aw_callV (rest := []) [.int x2, .int x3, .int (m.1 3 4)] dX1_teach_7 hb1.1 rfl k_X1_85 rfl h (Nat.le_of_ble_eq_true rfl) (fun v m1 h => ?_)
  obtain ⟨v2, rfl, h⟩ := h
  refine aw_eq (L' := [(0, .ref (ad 3)), (1, .ref (ad b1)), (2, .int x2), (3, .int x3), (4, .int x4)]) (st' := [.int v2]) (m' := m1) ?_ rfl rfl rfl
  refine aw_istore (L' := [(5, .int v2), (0, .ref (ad 3)), (1, .ref (ad b1)), (2, .int x2), (3, .int x3), (4, .int x4)]) dX1_teach_10 (by decide) rfl ?_
  refine aw_iload (j := 0) dX1_teach_12 rfl ?_
  refine aw_iconst (v := -1) dX1_teach_14 (by decide) ?_
  refine aw_icmp_ne (tgt := 19) dX1_teach_15 (by decide) (fun hc => ?_) (fun hc => ?_)
  · have h := h.1 hc
    refine aw_aload_n (j := 2) dX1_teach_19 rfl rfl ?_
    refine aw_iload_n (j := 4) dX1_teach_20 rfl rfl ?_
    refine aw_iload (j := 0) dX1_teach_21 rfl ?_
    refine aw_callV (rest := []) [.int x3, .int v2] dX1_teach_23 hb1.1 rfl k_X1_88 rfl h (Nat.le_of_ble_eq_true rfl) (fun v m3 h => ?_)
    obtain ⟨v4, rfl, h⟩ := h
    refine aw_eq (L' := [(5, .int v2), (0, .ref (ad 3)), (1, .ref (ad b1)), (2, .int x2), (3, .int x3), (4, .int x4)]) (st' := [.int v4]) (m' := m3) ?_ rfl rfl rfl
    refine aw_istore (L' := [(6, .int v4), (5, .int v2), (0, .ref (ad 3)), (1, .ref (ad b1)), (2, .int x2), (3, .int x3), (4, .int x4)]) dX1_teach_26 (by decide) rfl ?_
    refine aw_aload_n (j := 3) dX1_teach_28 rfl rfl ?_
    refine aw_iload_n (j := 4) dX1_teach_29 rfl rfl ?_
    refine aw_iload (j := 1) dX1_teach_30 rfl ?_
    refine aw_callV (rest := []) [.int x2, .int v2] dX1_teach_32 hb1.1 rfl k_X1_88 rfl h (Nat.le_of_ble_eq_true rfl) (fun v m5 h => ?_)
    obtain ⟨v6, rfl, h⟩ := h
    refine aw_eq (L' := [(6, .int v4), (5, .int v2), (0, .ref (ad 3)), (1, .ref (ad b1)), (2, .int x2), (3, .int x3), (4, .int x4)]) (st' := [.int v6]) (m' := m5) ?_ rfl rfl rfl
    refine aw_istore (L' := [(7, .int v6), (6, .int v4), (5, .int v2), (0, .ref (ad 3)), (1, .ref (ad b1)), (2, .int x2), (3, .int x3), (4, .int x4)]) dX1_teach_35 (by decide) rfl ?_
    refine aw_aload_n (j := 3) dX1_teach_37 rfl rfl ?_
    refine aw_iload_n (j := 5) dX1_teach_38 rfl rfl ?_
    refine aw_callV (rest := []) [.int x2] dX1_teach_39 ly_3 rfl k_X1_91 rfl h (Nat.le_of_ble_eq_true rfl) (fun v m7 h => ?_)
    obtain ⟨v8, rfl, h⟩ := h
    refine aw_eq (L' := [(7, .int v6), (6, .int v4), (5, .int v2), (0, .ref (ad 3)), (1, .ref (ad b1)), (2, .int x2), (3, .int x3), (4, .int x4)]) (st' := [.int v8]) (m' := m7) ?_ rfl rfl rfl
    refine aw_if_eq (tgt := 49) dX1_teach_42 (by decide) (fun hc => ?_) (fun hc => ?_)
    · have h := h.1 hc
      refine aw_aload_n (j := 3) dX1_teach_49 rfl rfl ?_
      refine aw_getfield (c := 7) (v := .ref (ad 4)) dX1_teach_50 f_X1_9 ly_3 rfl rfl ?_
      refine aw_iconst (v := 1) dX1_teach_53 (by decide) ?_
      refine aw_iaload dX1_teach_54 ly_4 (by unfold vp_in; decide) ?_
      refine aw_iload (j := 0) dX1_teach_55 rfl ?_
      refine aw_iload (j := 1) dX1_teach_57 rfl ?_
      refine aw_isub dX1_teach_59 ?_
      refine aw_min dX1_teach_60 k_X1_94 (Nat.le_of_ble_eq_true rfl) ?_
      exact aw_sub [3, 4, 5, 6, 7, 2, 1, 0] rfl h
    · have h := h.2 hc
      refine aw_iconst (v := 0) dX1_teach_45 (by decide) ?_
      refine aw_goto (tgt := 63) dX1_teach_46 (by decide) ?_
      exact aw_sub [3, 4, 5, 6, 7, 2, 1, 0] rfl h
  · have h := h.2 hc
    exact aw_ret (v := none) rfl (Or.inl ⟨rfl, rfl, dX1_teach_18⟩) h
set_option maxRecDepth 100000 in
set_option maxHeartbeats 4000000 in
theorem g_X1_teach_63 {ad : Nat → Nat} {d : Nat} {Q : Option Value → Wm → Prop} {m : Wm} {b1 : Nat} {x2 x3 x4 x5 x6 x7 s0 : Int32} (hb1 : St b1) (h : (Ct ad μX8_putSkill d [.ref (ad b1), .int x3, .int x5, .int (x6 + s0)] m (fun r m1 => r = none ∧ (Ct ad μX11_clamp d [.int ((x7 + (m1.1 4 (2 : Int32).toNatClampNeg)) - (1 : Int32)), .int (0 : Int32), .int (7 : Int32)] m1 (fun r m2 => ∃ v3 : Int32, r = some (.int v3) ∧ (Ct ad μX8_putSkill d [.ref (ad b1), .int x2, .int x5, .int v3] m2 (fun r m4 => r = none ∧ ((x4 = 0 → AW ad E0 μX1_teach (d + 1) Q 117 [(0, .ref (ad 3)), (5, .int x5), (8, .int s0)] [] m4) ∧ (¬ x4 = 0 → (vp_in x2 8 ∧ (vp_in x2 8 ∧ AW ad E0 μX1_teach (d + 1) Q 117 [(0, .ref (ad 3)), (5, .int x5), (8, .int s0)] [] (uI m4 (b1 + 3) x2.toNatClampNeg ((m4.1 (b1 + 3) x2.toNatClampNeg) + s0))))))))))))) : AW ad E0 μX1_teach (d + 1) Q 63 [(0, .ref (ad 3)), (1, .ref (ad b1)), (2, .int x2), (3, .int x3), (4, .int x4), (5, .int x5), (6, .int x6), (7, .int x7)] [.int s0] m := by
  refine aw_istore (L' := [(8, .int s0), (0, .ref (ad 3)), (1, .ref (ad b1)), (2, .int x2), (3, .int x3), (4, .int x4), (5, .int x5), (6, .int x6), (7, .int x7)]) dX1_teach_63 (by decide) rfl ?_
  refine aw_aload_n (j := 2) dX1_teach_65 rfl rfl ?_
  refine aw_iload_n (j := 4) dX1_teach_66 rfl rfl ?_
  refine aw_iload (j := 6) dX1_teach_67 rfl ?_
  refine aw_iload (j := 7) dX1_teach_69 rfl ?_
  refine aw_iload (j := 0) dX1_teach_71 rfl ?_
  refine aw_iadd dX1_teach_73 ?_
  refine aw_callV (rest := []) [.int x3, .int x5, .int (x6 + s0)] dX1_teach_74 hb1.1 rfl k_X1_99 rfl h (Nat.le_of_ble_eq_true rfl) (fun v m1 h => ?_)
  obtain ⟨rfl, h⟩ := h
  refine aw_eq (L' := [(8, .int s0), (0, .ref (ad 3)), (1, .ref (ad b1)), (2, .int x2), (3, .int x3), (4, .int x4), (5, .int x5), (6, .int x6), (7, .int x7)]) (st' := []) (m' := m1) ?_ rfl rfl rfl
  refine aw_aload_n (j := 2) dX1_teach_77 rfl rfl ?_
  refine aw_iload_n (j := 3) dX1_teach_78 rfl rfl ?_
  refine aw_iload (j := 6) dX1_teach_79 rfl ?_
  refine aw_iload (j := 8) dX1_teach_81 rfl ?_
  refine aw_aload_n (j := 1) dX1_teach_83 rfl rfl ?_
  refine aw_getfield (c := 7) (v := .ref (ad 4)) dX1_teach_84 f_X1_9 ly_3 rfl rfl ?_
  refine aw_iconst (v := 2) dX1_teach_87 (by decide) ?_
  refine aw_iaload dX1_teach_88 ly_4 (by unfold vp_in; decide) ?_
  refine aw_iadd dX1_teach_89 ?_
  refine aw_iconst (v := 1) dX1_teach_90 (by decide) ?_
  refine aw_isub dX1_teach_91 ?_
  refine aw_iconst (v := 0) dX1_teach_92 (by decide) ?_
  refine aw_bipush (v := 7) dX1_teach_93 (by decide) ?_
  refine aw_callN (rest := [.int x5, .int x2, .ref (ad b1)]) [.int ((x7 + (m1.1 4 (2 : Int32).toNatClampNeg)) - (1 : Int32)), .int (0 : Int32), .int (7 : Int32)] dX1_teach_95 k_X1_63 rfl h (Nat.le_of_ble_eq_true rfl) (fun v m2 h => ?_)
  obtain ⟨v3, rfl, h⟩ := h
  refine aw_eq (L' := [(8, .int s0), (0, .ref (ad 3)), (1, .ref (ad b1)), (2, .int x2), (3, .int x3), (4, .int x4), (5, .int x5), (6, .int x6), (7, .int x7)]) (st' := [.int v3, .int x5, .int x2, .ref (ad b1)]) (m' := m2) ?_ rfl rfl rfl
  refine aw_callV (rest := []) [.int x2, .int x5, .int v3] dX1_teach_98 hb1.1 rfl k_X1_99 rfl h (Nat.le_of_ble_eq_true rfl) (fun v m4 h => ?_)
  obtain ⟨rfl, h⟩ := h
  refine aw_eq (L' := [(8, .int s0), (0, .ref (ad 3)), (1, .ref (ad b1)), (2, .int x2), (3, .int x3), (4, .int x4), (5, .int x5), (6, .int x6), (7, .int x7)]) (st' := []) (m' := m4) ?_ rfl rfl rfl
  refine aw_iload (j := 5) dX1_teach_101 rfl ?_
  refine aw_if_eq (tgt := 117) dX1_teach_103 (by decide) (fun hc => ?_) (fun hc => ?_)
  · have h := h.1 hc
    exact aw_sub [1, 6, 0] rfl h
  · have h := h.2 hc
    refine aw_aload_n (j := 2) dX1_teach_106 rfl rfl ?_
    refine aw_getfield (c := b1 + 3 + 3) (v := .ref (ad (b1 + 3))) dX1_teach_107 f_X1_103 hb1.1 rfl rfl ?_
    refine aw_iload_n (j := 3) dX1_teach_110 rfl rfl ?_
    refine aw_dup2_11 dX1_teach_111 rfl rfl ?_
    obtain ⟨hi, h⟩ := h
    refine aw_iaload dX1_teach_112 hb1.2.2.2.1 hi ?_
    refine aw_iload (j := 0) dX1_teach_113 rfl ?_
    refine aw_iadd dX1_teach_115 ?_
    obtain ⟨hi, h⟩ := h
    refine aw_iastore dX1_teach_116 hb1.2.2.2.1 hi ?_
    exact aw_sub [1, 6, 0] rfl h
set_option maxRecDepth 100000 in
set_option maxHeartbeats 4000000 in
theorem g_X1_teach_117 {ad : Nat → Nat} {d : Nat} {Q : Option Value → Wm → Prop} {m : Wm} {x5 x8 : Int32} (h : ((¬ (m.1 3 6) = (-1 : Int32) → Q none m) ∧ ((m.1 3 6) = (-1 : Int32) → Q none (uI (uI m 3 6 x5) 3 7 x8)))) : AW ad E0 μX1_teach (d + 1) Q 117 [(0, .ref (ad 3)), (5, .int x5), (8, .int x8)] [] m := by
  refine aw_aload_n (j := 0) dX1_teach_117 rfl rfl ?_
  refine aw_getfield (c := 0) (v := .int (m.1 3 6)) dX1_teach_118 f_X1_35 ly_3 rfl rfl ?_
  refine aw_iconst (v := -1) dX1_teach_121 (by decide) ?_
  refine aw_icmp_ne (tgt := 137) dX1_teach_122 (by decide) (fun hc => ?_) (fun hc => ?_)
  · have h := h.1 hc
    exact aw_ret (v := none) rfl (Or.inl ⟨rfl, rfl, dX1_teach_137⟩) h
  · have h := h.2 hc
    refine aw_aload_n (j := 0) dX1_teach_125 rfl rfl ?_
    refine aw_iload (j := 1) dX1_teach_126 rfl ?_
    refine aw_putI dX1_teach_128 f_X1_35 cl_X1 rfl ly_3 rfl rfl rfl ?_
    refine aw_aload_n (j := 0) dX1_teach_131 rfl rfl ?_
    refine aw_iload (j := 2) dX1_teach_132 rfl ?_
    refine aw_putI dX1_teach_134 f_X1_38 cl_X1 rfl ly_3 rfl rfl rfl ?_
    exact aw_ret (v := none) rfl (Or.inl ⟨rfl, rfl, dX1_teach_137⟩) h
set_option maxRecDepth 100000 in
set_option maxHeartbeats 4000000 in
theorem v_X2_save {ad : Nat → Nat} {d : Nat} {Q : Option Value → Wm → Prop} {m : Wm} {b1 : Nat} (hb1 : St b1) (h : (((20 : Int32) ≤ ((m.1 31 2) + (1 : Int32)) → AW ad E0 μX2_save (d + 1) Q 22 [(0, .ref (ad 31)), (1, .ref (ad b1))] [.int (0 : Int32), .ref (ad 31)] m) ∧ (¬ (20 : Int32) ≤ ((m.1 31 2) + (1 : Int32)) → AW ad E0 μX2_save (d + 1) Q 22 [(0, .ref (ad 31)), (1, .ref (ad b1))] [.int ((m.1 31 2) + (1 : Int32)), .ref (ad 31)] m))) : Ct ad μX2_save (d + 1) [.ref (ad 31), .ref (ad b1)] m Q := by
  refine Ct.of (by decide +kernel) rfl (Nat.le_of_ble_eq_true rfl) ?_
  refine aw_eq (L' := [(0, .ref (ad 31)), (1, .ref (ad b1))]) ?_ rfl rfl rfl
  refine aw_aload_n (j := 0) dX2_save_0 rfl rfl ?_
  refine aw_aload_n (j := 0) dX2_save_1 rfl rfl ?_
  refine aw_getfield (c := 0) (v := .int (m.1 31 2)) dX2_save_2 f_X2_19 ly_31 rfl rfl ?_
  refine aw_iconst (v := 1) dX2_save_5 (by decide) ?_
  refine aw_iadd dX2_save_6 ?_
  refine aw_bipush (v := 20) dX2_save_7 (by decide) ?_
  refine aw_icmp_ge (tgt := 21) dX2_save_9 (by decide) (fun hc => ?_) (fun hc => ?_)
  · have h := h.1 hc
    refine aw_iconst (v := 0) dX2_save_21 (by decide) ?_
    exact aw_sub [0, 1] rfl h
  · have h := h.2 hc
    refine aw_aload_n (j := 0) dX2_save_12 rfl rfl ?_
    refine aw_getfield (c := 0) (v := .int (m.1 31 2)) dX2_save_13 f_X2_19 ly_31 rfl rfl ?_
    refine aw_iconst (v := 1) dX2_save_16 (by decide) ?_
    refine aw_iadd dX2_save_17 ?_
    refine aw_goto (tgt := 22) dX2_save_18 (by decide) ?_
    exact aw_sub [0, 1] rfl h
set_option maxRecDepth 100000 in
set_option maxHeartbeats 4000000 in
theorem g_X2_save_22 {ad : Nat → Nat} {d : Nat} {Q : Option Value → Wm → Prop} {m : Wm} {b1 : Nat} {s0 : Int32} (hb1 : St b1) (h : (vp_in ((uI m 31 2 s0).1 31 2) 20 ∧ (∃ r1, (uI m 31 2 s0).2.2 32 ((uI m 31 2 s0).1 31 2).toNatClampNeg = some r1 ∧ St r1 ∧ (Ct ad μX8_copy d [.ref (ad r1), .ref (ad b1)] (uI m 31 2 s0) (fun r m2 => r = none ∧ Q none (uI m2 31 1 (if (20 : Int32) < ((m2.1 31 1) + (1 : Int32)) then (20 : Int32) else ((m2.1 31 1) + (1 : Int32))))))))) : AW ad E0 μX2_save (d + 1) Q 22 [(0, .ref (ad 31)), (1, .ref (ad b1))] [.int s0, .ref (ad 31)] m := by
  refine aw_putI dX2_save_22 f_X2_19 cl_X2 rfl ly_31 rfl rfl rfl ?_
  refine aw_aload_n (j := 0) dX2_save_25 rfl rfl ?_
  refine aw_getfield (c := 35) (v := .ref (ad 32)) dX2_save_26 f_X2_11 ly_31 rfl rfl ?_
  refine aw_aload_n (j := 0) dX2_save_29 rfl rfl ?_
  refine aw_getfield (c := 0) (v := .int ((uI m 31 2 s0).1 31 2)) dX2_save_30 f_X2_19 ly_31 rfl rfl ?_
  obtain ⟨hi, h⟩ := h
  obtain ⟨r1, hrr1, hr1, h⟩ := h
  refine aw_aaload6 dX2_save_33 ly_32 hi hrr1 ?_
  refine aw_aload_n (j := 1) dX2_save_34 rfl rfl ?_
  refine aw_callV (rest := []) [.ref (ad b1)] dX2_save_35 hr1.1 rfl k_X2_23 rfl h (Nat.le_of_ble_eq_true rfl) (fun v m2 h => ?_)
  obtain ⟨rfl, h⟩ := h
  refine aw_eq (L' := [(0, .ref (ad 31)), (1, .ref (ad b1))]) (st' := []) (m' := m2) ?_ rfl rfl rfl
  refine aw_aload_n (j := 0) dX2_save_38 rfl rfl ?_
  refine aw_aload_n (j := 0) dX2_save_39 rfl rfl ?_
  refine aw_getfield (c := 0) (v := .int (m2.1 31 1)) dX2_save_40 f_X2_15 ly_31 rfl rfl ?_
  refine aw_iconst (v := 1) dX2_save_43 (by decide) ?_
  refine aw_iadd dX2_save_44 ?_
  refine aw_bipush (v := 20) dX2_save_45 (by decide) ?_
  refine aw_min dX2_save_47 k_X2_27 (Nat.le_of_ble_eq_true rfl) ?_
  refine aw_putI dX2_save_50 f_X2_15 cl_X2 rfl ly_31 rfl rfl rfl ?_
  exact aw_ret (v := none) rfl (Or.inl ⟨rfl, rfl, dX2_save_53⟩) h
set_option maxRecDepth 100000 in
set_option maxHeartbeats 4000000 in
theorem v_X2_takeBack {ad : Nat → Nat} {d : Nat} {Q : Option Value → Wm → Prop} {m : Wm} {b1 : Nat} (hb1 : St b1) (h : ((¬ (m.1 31 1) = 0 → (vp_in (m.1 31 2) 20 ∧ (∃ r1, m.2.2 32 (m.1 31 2).toNatClampNeg = some r1 ∧ St r1 ∧ (Ct ad μX8_copy d [.ref (ad b1), .ref (ad r1)] m (fun r m2 => r = none ∧ (((m2.1 31 2) ≤ 0 → AW ad E0 μX2_takeBack (d + 1) Q 41 [(0, .ref (ad 31))] [.int (19 : Int32), .ref (ad 31)] m2) ∧ (¬ (m2.1 31 2) ≤ 0 → AW ad E0 μX2_takeBack (d + 1) Q 41 [(0, .ref (ad 31))] [.int ((m2.1 31 2) - (1 : Int32)), .ref (ad 31)] m2))))))) ∧ ((m.1 31 1) = 0 → Q (some (.int (0 : Int32))) m))) : Ct ad μX2_takeBack (d + 1) [.ref (ad 31), .ref (ad b1)] m Q := by
  refine Ct.of (by decide +kernel) rfl (Nat.le_of_ble_eq_true rfl) ?_
  refine aw_eq (L' := [(0, .ref (ad 31)), (1, .ref (ad b1))]) ?_ rfl rfl rfl
  refine aw_aload_n (j := 0) dX2_takeBack_0 rfl rfl ?_
  refine aw_getfield (c := 0) (v := .int (m.1 31 1)) dX2_takeBack_1 f_X2_15 ly_31 rfl rfl ?_
  refine aw_if_ne (tgt := 9) dX2_takeBack_4 (by decide) (fun hc => ?_) (fun hc => ?_)
  · have h := h.1 hc
    refine aw_aload_n (j := 1) dX2_takeBack_9 rfl rfl ?_
    refine aw_aload_n (j := 0) dX2_takeBack_10 rfl rfl ?_
    refine aw_getfield (c := 35) (v := .ref (ad 32)) dX2_takeBack_11 f_X2_11 ly_31 rfl rfl ?_
    refine aw_aload_n (j := 0) dX2_takeBack_14 rfl rfl ?_
    refine aw_getfield (c := 0) (v := .int (m.1 31 2)) dX2_takeBack_15 f_X2_19 ly_31 rfl rfl ?_
    obtain ⟨hi, h⟩ := h
    obtain ⟨r1, hrr1, hr1, h⟩ := h
    refine aw_aaload6 dX2_takeBack_18 ly_32 hi hrr1 ?_
    refine aw_callV (rest := []) [.ref (ad r1)] dX2_takeBack_19 hb1.1 rfl k_X2_23 rfl h (Nat.le_of_ble_eq_true rfl) (fun v m2 h => ?_)
    obtain ⟨rfl, h⟩ := h
    refine aw_eq (L' := [(0, .ref (ad 31)), (1, .ref (ad b1))]) (st' := []) (m' := m2) ?_ rfl rfl rfl
    refine aw_aload_n (j := 0) dX2_takeBack_22 rfl rfl ?_
    refine aw_aload_n (j := 0) dX2_takeBack_23 rfl rfl ?_
    refine aw_getfield (c := 0) (v := .int (m2.1 31 2)) dX2_takeBack_24 f_X2_19 ly_31 rfl rfl ?_
    refine aw_if_le (tgt := 39) dX2_takeBack_27 (by decide) (fun hc => ?_) (fun hc => ?_)
    · have h := h.1 hc
      refine aw_bipush (v := 19) dX2_takeBack_39 (by decide) ?_
      exact aw_sub [0] rfl h
    · have h := h.2 hc
      refine aw_aload_n (j := 0) dX2_takeBack_30 rfl rfl ?_
      refine aw_getfield (c := 0) (v := .int (m2.1 31 2)) dX2_takeBack_31 f_X2_19 ly_31 rfl rfl ?_
      refine aw_iconst (v := 1) dX2_takeBack_34 (by decide) ?_
      refine aw_isub dX2_takeBack_35 ?_
      refine aw_goto (tgt := 41) dX2_takeBack_36 (by decide) ?_
      exact aw_sub [0] rfl h
  · have h := h.2 hc
    refine aw_iconst (v := 0) dX2_takeBack_7 (by decide) ?_
    exact aw_ret (v := some (.int (0 : Int32))) rfl (Or.inr (Or.inl ⟨_, .boolean, rfl, rfl, by decide, dX2_takeBack_8⟩)) h
set_option maxRecDepth 100000 in
set_option maxHeartbeats 4000000 in
theorem g_X2_takeBack_41 {ad : Nat → Nat} {d : Nat} {Q : Option Value → Wm → Prop} {m : Wm} {s0 : Int32} (h : Q (some (.int (1 : Int32))) (uI (uI m 31 2 s0) 31 1 (((uI m 31 2 s0).1 31 1) - (1 : Int32)))) : AW ad E0 μX2_takeBack (d + 1) Q 41 [(0, .ref (ad 31))] [.int s0, .ref (ad 31)] m := by
  refine aw_putI dX2_takeBack_41 f_X2_19 cl_X2 rfl ly_31 rfl rfl rfl ?_
  refine aw_aload_n (j := 0) dX2_takeBack_44 rfl rfl ?_
  refine aw_dup dX2_takeBack_45 rfl ?_
  refine aw_getfield (c := 0) (v := .int ((uI m 31 2 s0).1 31 1)) dX2_takeBack_46 f_X2_15 ly_31 rfl rfl ?_
  refine aw_iconst (v := 1) dX2_takeBack_49 (by decide) ?_
  refine aw_isub dX2_takeBack_50 ?_
  refine aw_putI dX2_takeBack_51 f_X2_15 cl_X2 rfl ly_31 rfl rfl rfl ?_
  refine aw_iconst (v := 1) dX2_takeBack_54 (by decide) ?_
  exact aw_ret (v := some (.int (1 : Int32))) rfl (Or.inr (Or.inl ⟨_, .boolean, rfl, rfl, by decide, dX2_takeBack_55⟩)) h
set_option maxRecDepth 100000 in
set_option maxHeartbeats 4000000 in
theorem v_X3_clear {ad : Nat → Nat} {d : Nat} {Q : Option Value → Wm → Prop} {m : Wm} {b0 : Nat} (hb0 : Pl b0) (h : Q none (uI (uI m b0 5 (0 : Int32)) b0 6 (0 : Int32))) : Ct ad μX3_clear d [.ref (ad b0)] m Q := by
  refine Ct.of (by decide +kernel) rfl (Nat.le_of_ble_eq_true rfl) ?_
  refine aw_eq (L' := [(0, .ref (ad b0))]) ?_ rfl rfl rfl
  refine aw_aload_n (j := 0) dX3_clear_0 rfl rfl ?_
  refine aw_iconst (v := 0) dX3_clear_1 (by decide) ?_
  refine aw_putI dX3_clear_2 f_X3_27 cl_X3 rfl hb0.1 rfl rfl rfl ?_
  refine aw_aload_n (j := 0) dX3_clear_5 rfl rfl ?_
  refine aw_iconst (v := 0) dX3_clear_6 (by decide) ?_
  refine aw_putI dX3_clear_7 f_X3_31 cl_X3 rfl hb0.1 rfl rfl rfl ?_
  exact aw_ret (v := none) rfl (Or.inl ⟨rfl, rfl, dX3_clear_10⟩) h
set_option maxRecDepth 100000 in
set_option maxHeartbeats 4000000 in
theorem v_X3_begin {ad : Nat → Nat} {d : Nat} {Q : Option Value → Wm → Prop} {m : Wm} {b0 : Nat} {x1 : Int32} (hb0 : Pl b0) (h : ((x1 < 0 → Q (some (.int (m.1 b0 6))) m) ∧ (¬ x1 < 0 → (((m.1 b0 5) ≤ x1 → Q (some (.int (m.1 b0 6))) m) ∧ (¬ (m.1 b0 5) ≤ x1 → (vp_in x1 13 ∧ Q (some (.int (m.1 (b0 + 4) x1.toNatClampNeg))) m)))))) : Ct ad μX3_begin d [.ref (ad b0), .int x1] m Q := by
  refine Ct.of (by decide +kernel) rfl (Nat.le_of_ble_eq_true rfl) ?_
  refine aw_eq (L' := [(0, .ref (ad b0)), (1, .int x1)]) ?_ rfl rfl rfl
  refine aw_iload_n (j := 1) dX3_begin_0 rfl rfl ?_
  refine aw_if_lt (tgt := 21) dX3_begin_1 (by decide) (fun hc => ?_) (fun hc => ?_)
  · have h := h.1 hc
    refine aw_aload_n (j := 0) dX3_begin_21 rfl rfl ?_
    refine aw_getfield (c := 0) (v := .int (m.1 b0 6)) dX3_begin_22 f_X3_31 hb0.1 rfl rfl ?_
    exact aw_ret (v := some (.int (m.1 b0 6))) rfl (Or.inr (Or.inl ⟨_, .int, rfl, rfl, rfl, dX3_begin_25⟩)) h
  · have h := h.2 hc
    refine aw_iload_n (j := 1) dX3_begin_4 rfl rfl ?_
    refine aw_aload_n (j := 0) dX3_begin_5 rfl rfl ?_
    refine aw_getfield (c := 0) (v := .int (m.1 b0 5)) dX3_begin_6 f_X3_27 hb0.1 rfl rfl ?_
    refine aw_icmp_ge (tgt := 21) dX3_begin_9 (by decide) (fun hc => ?_) (fun hc => ?_)
    · have h := h.1 hc
      refine aw_aload_n (j := 0) dX3_begin_21 rfl rfl ?_
      refine aw_getfield (c := 0) (v := .int (m.1 b0 6)) dX3_begin_22 f_X3_31 hb0.1 rfl rfl ?_
      exact aw_ret (v := some (.int (m.1 b0 6))) rfl (Or.inr (Or.inl ⟨_, .int, rfl, rfl, rfl, dX3_begin_25⟩)) h
    · have h := h.2 hc
      refine aw_aload_n (j := 0) dX3_begin_12 rfl rfl ?_
      refine aw_getfield (c := b0 + 4 + 3) (v := .ref (ad (b0 + 4))) dX3_begin_13 f_X3_21 hb0.1 rfl rfl ?_
      refine aw_iload_n (j := 1) dX3_begin_16 rfl rfl ?_
      obtain ⟨hi, h⟩ := h
      refine aw_iaload dX3_begin_17 hb0.2.2.2.2.1 hi ?_
      refine aw_goto (tgt := 25) dX3_begin_18 (by decide) ?_
      exact aw_ret (v := some (.int (m.1 (b0 + 4) x1.toNatClampNeg))) rfl (Or.inr (Or.inl ⟨_, .int, rfl, rfl, rfl, dX3_begin_25⟩)) h
set_option maxRecDepth 100000 in
set_option maxHeartbeats 4000000 in
theorem v_X3_after {ad : Nat → Nat} {d : Nat} {Q : Option Value → Wm → Prop} {m : Wm} {b0 : Nat} {x1 : Int32} (hb0 : Pl b0) (h : (((m.1 b0 5) ≤ (x1 + (1 : Int32)) → Q (some (.int (0 : Int32))) m) ∧ (¬ (m.1 b0 5) ≤ (x1 + (1 : Int32)) → Q (some (.int (x1 + (1 : Int32)))) m))) : Ct ad μX3_after d [.ref (ad b0), .int x1] m Q := by
  refine Ct.of (by decide +kernel) rfl (Nat.le_of_ble_eq_true rfl) ?_
  refine aw_eq (L' := [(0, .ref (ad b0)), (1, .int x1)]) ?_ rfl rfl rfl
  refine aw_iload_n (j := 1) dX3_after_0 rfl rfl ?_
  refine aw_iconst (v := 1) dX3_after_1 (by decide) ?_
  refine aw_iadd dX3_after_2 ?_
  refine aw_aload_n (j := 0) dX3_after_3 rfl rfl ?_
  refine aw_getfield (c := 0) (v := .int (m.1 b0 5)) dX3_after_4 f_X3_27 hb0.1 rfl rfl ?_
  refine aw_icmp_ge (tgt := 16) dX3_after_7 (by decide) (fun hc => ?_) (fun hc => ?_)
  · have h := h.1 hc
    refine aw_iconst (v := 0) dX3_after_16 (by decide) ?_
    exact aw_ret (v := some (.int (0 : Int32))) rfl (Or.inr (Or.inl ⟨_, .int, rfl, rfl, rfl, dX3_after_17⟩)) h
  · have h := h.2 hc
    refine aw_iload_n (j := 1) dX3_after_10 rfl rfl ?_
    refine aw_iconst (v := 1) dX3_after_11 (by decide) ?_
    refine aw_iadd dX3_after_12 ?_
    refine aw_goto (tgt := 17) dX3_after_13 (by decide) ?_
    exact aw_ret (v := some (.int (x1 + (1 : Int32)))) rfl (Or.inr (Or.inl ⟨_, .int, rfl, rfl, rfl, dX3_after_17⟩)) h
set_option maxRecDepth 100000 in
set_option maxHeartbeats 4000000 in
theorem v_X3_compile {ad : Nat → Nat} {d : Nat} {Q : Option Value → Wm → Prop} {m : Wm} {b0 : Nat} {x2 : Int32} (hb0 : Pl b0) (h : (Ct ad μX3_clear d [.ref (ad b0)] m (fun r m1 => r = none ∧ ((¬ (m1.1 1 1) = 0 → (Ct ad μX3_openRound d [.ref (ad b0)] m1 (fun r m2 => r = none ∧ AW ad E0 μX3_compile (d + 1) Q 30 [(0, .ref (ad b0)), (1, .ref (ad 1)), (2, .int x2), (3, .int (if (76 : Int32) < (m2.1 1 1) then (76 : Int32) else (m2.1 1 1))), (4, .int (0 : Int32))] [] m2))) ∧ ((m1.1 1 1) = 0 → Q (some (.int (-1 : Int32))) m1))))) : Ct ad μX3_compile (d + 1) [.ref (ad b0), .ref (ad 1), .int x2] m Q := by
  refine Ct.of (by decide +kernel) rfl (Nat.le_of_ble_eq_true rfl) ?_
  refine aw_eq (L' := [(0, .ref (ad b0)), (1, .ref (ad 1)), (2, .int x2)]) ?_ rfl rfl rfl
  refine aw_aload_n (j := 0) dX3_compile_0 rfl rfl ?_
  refine aw_callV (rest := []) [] dX3_compile_1 hb0.1 rfl k_X3_40 rfl h (Nat.le_of_ble_eq_true rfl) (fun v m1 h => ?_)
  obtain ⟨rfl, h⟩ := h
  refine aw_eq (L' := [(0, .ref (ad b0)), (1, .ref (ad 1)), (2, .int x2)]) (st' := []) (m' := m1) ?_ rfl rfl rfl
  refine aw_aload_n (j := 1) dX3_compile_4 rfl rfl ?_
  refine aw_getfield (c := 0) (v := .int (m1.1 1 1)) dX3_compile_5 f_X3_43 ly_1 rfl rfl ?_
  refine aw_if_ne (tgt := 13) dX3_compile_8 (by decide) (fun hc => ?_) (fun hc => ?_)
  · have h := h.1 hc
    refine aw_aload_n (j := 0) dX3_compile_13 rfl rfl ?_
    refine aw_callV (rest := []) [] dX3_compile_14 hb0.1 rfl k_X3_48 rfl h (Nat.le_of_ble_eq_true rfl) (fun v m2 h => ?_)
    obtain ⟨rfl, h⟩ := h
    refine aw_eq (L' := [(0, .ref (ad b0)), (1, .ref (ad 1)), (2, .int x2)]) (st' := []) (m' := m2) ?_ rfl rfl rfl
    refine aw_aload_n (j := 1) dX3_compile_17 rfl rfl ?_
    refine aw_getfield (c := 0) (v := .int (m2.1 1 1)) dX3_compile_18 f_X3_43 ly_1 rfl rfl ?_
    refine aw_bipush (v := 76) dX3_compile_21 (by decide) ?_
    refine aw_min dX3_compile_23 k_X3_51 (Nat.le_of_ble_eq_true rfl) ?_
    refine aw_istore_n (L' := [(3, .int (if (76 : Int32) < (m2.1 1 1) then (76 : Int32) else (m2.1 1 1))), (0, .ref (ad b0)), (1, .ref (ad 1)), (2, .int x2)]) dX3_compile_26 rfl (by decide) rfl ?_
    refine aw_iconst (v := 0) dX3_compile_27 (by decide) ?_
    refine aw_istore (L' := [(4, .int (0 : Int32)), (3, .int (if (76 : Int32) < (m2.1 1 1) then (76 : Int32) else (m2.1 1 1))), (0, .ref (ad b0)), (1, .ref (ad 1)), (2, .int x2)]) dX3_compile_28 (by decide) rfl ?_
    exact aw_sub [2, 3, 4, 1, 0] rfl h
  · have h := h.2 hc
    refine aw_iconst (v := -1) dX3_compile_11 (by decide) ?_
    exact aw_ret (v := some (.int (-1 : Int32))) rfl (Or.inr (Or.inl ⟨_, .int, rfl, rfl, rfl, dX3_compile_12⟩)) h
set_option maxRecDepth 100000 in
set_option maxHeartbeats 4000000 in
theorem g_X3_compile_30 {ad : Nat → Nat} {d : Nat} {Q : Option Value → Wm → Prop} {m : Wm} {b0 : Nat} {x2 x3 x4 : Int32} (hb0 : Pl b0) (h : ((x3 ≤ x4 → (((76 : Int32) < (m.1 1 1) → Q (some (.int x3)) m) ∧ (¬ (76 : Int32) < (m.1 1 1) → (((m.1 b0 7) = (4 : Int32) → Q (some (.int (-1 : Int32))) m) ∧ (¬ (m.1 b0 7) = (4 : Int32) → (((m.1 b0 7) = (5 : Int32) → Q (some (.int (-1 : Int32))) m) ∧ (¬ (m.1 b0 7) = (5 : Int32) → Q (some (.int x3)) m))))))) ∧ (¬ x3 ≤ x4 → (vp_in x4 80 ∧ (Ct ad μX3_take d [.ref (ad b0), .int (m.1 2 x4.toNatClampNeg), .int x2] m (fun r m1 => ∃ v2 : Int32, r = some (.int v2) ∧ ((¬ v2 = 0 → AW ad E0 μX3_compile (d + 1) Q 30 [(0, .ref (ad b0)), (1, .ref (ad 1)), (2, .int x2), (3, .int x3), (4, .int (x4 + (1 : Int32)))] [] m1) ∧ (v2 = 0 → Q (some (.int x4)) m1)))))))) : AW ad E0 μX3_compile (d + 1) Q 30 [(0, .ref (ad b0)), (1, .ref (ad 1)), (2, .int x2), (3, .int x3), (4, .int x4)] [] m := by
  refine aw_iload (j := 4) dX3_compile_30 rfl ?_
  refine aw_iload_n (j := 3) dX3_compile_32 rfl rfl ?_
  refine aw_icmp_ge (tgt := 60) dX3_compile_33 (by decide) (fun hc => ?_) (fun hc => ?_)
  · have h := h.1 hc
    refine aw_aload_n (j := 1) dX3_compile_60 rfl rfl ?_
    refine aw_getfield (c := 0) (v := .int (m.1 1 1)) dX3_compile_61 f_X3_43 ly_1 rfl rfl ?_
    refine aw_bipush (v := 76) dX3_compile_64 (by decide) ?_
    refine aw_icmp_gt (tgt := 85) dX3_compile_66 (by decide) (fun hc => ?_) (fun hc => ?_)
    · have h := h.1 hc
      refine aw_iload_n (j := 3) dX3_compile_85 rfl rfl ?_
      refine aw_goto (tgt := 90) dX3_compile_86 (by decide) ?_
      exact aw_ret (v := some (.int x3)) rfl (Or.inr (Or.inl ⟨_, .int, rfl, rfl, rfl, dX3_compile_90⟩)) h
    · have h := h.2 hc
      refine aw_aload_n (j := 0) dX3_compile_69 rfl rfl ?_
      refine aw_getfield (c := 0) (v := .int (m.1 b0 7)) dX3_compile_70 f_X3_34 hb0.1 rfl rfl ?_
      refine aw_iconst (v := 4) dX3_compile_73 (by decide) ?_
      refine aw_icmp_eq (tgt := 89) dX3_compile_74 (by decide) (fun hc => ?_) (fun hc => ?_)
      · have h := h.1 hc
        refine aw_iconst (v := -1) dX3_compile_89 (by decide) ?_
        exact aw_ret (v := some (.int (-1 : Int32))) rfl (Or.inr (Or.inl ⟨_, .int, rfl, rfl, rfl, dX3_compile_90⟩)) h
      · have h := h.2 hc
        refine aw_aload_n (j := 0) dX3_compile_77 rfl rfl ?_
        refine aw_getfield (c := 0) (v := .int (m.1 b0 7)) dX3_compile_78 f_X3_34 hb0.1 rfl rfl ?_
        refine aw_iconst (v := 5) dX3_compile_81 (by decide) ?_
        refine aw_icmp_eq (tgt := 89) dX3_compile_82 (by decide) (fun hc => ?_) (fun hc => ?_)
        · have h := h.1 hc
          refine aw_iconst (v := -1) dX3_compile_89 (by decide) ?_
          exact aw_ret (v := some (.int (-1 : Int32))) rfl (Or.inr (Or.inl ⟨_, .int, rfl, rfl, rfl, dX3_compile_90⟩)) h
        · have h := h.2 hc
          refine aw_iload_n (j := 3) dX3_compile_85 rfl rfl ?_
          refine aw_goto (tgt := 90) dX3_compile_86 (by decide) ?_
          exact aw_ret (v := some (.int x3)) rfl (Or.inr (Or.inl ⟨_, .int, rfl, rfl, rfl, dX3_compile_90⟩)) h
  · have h := h.2 hc
    refine aw_aload_n (j := 0) dX3_compile_36 rfl rfl ?_
    refine aw_aload_n (j := 1) dX3_compile_37 rfl rfl ?_
    refine aw_getfield (c := 5) (v := .ref (ad 2)) dX3_compile_38 f_X3_57 ly_1 rfl rfl ?_
    refine aw_iload (j := 4) dX3_compile_41 rfl ?_
    obtain ⟨hi, h⟩ := h
    refine aw_caload dX3_compile_43 ly_2 hi ?_
    refine aw_iload_n (j := 2) dX3_compile_44 rfl rfl ?_
    refine aw_callV (rest := []) [.int (m.1 2 x4.toNatClampNeg), .int x2] dX3_compile_45 hb0.1 rfl k_X3_61 rfl h (Nat.le_of_ble_eq_true rfl) (fun v m1 h => ?_)
    obtain ⟨v2, rfl, h⟩ := h
    refine aw_eq (L' := [(0, .ref (ad b0)), (1, .ref (ad 1)), (2, .int x2), (3, .int x3), (4, .int x4)]) (st' := [.int v2]) (m' := m1) ?_ rfl rfl rfl
    refine aw_if_ne (tgt := 54) dX3_compile_48 (by decide) (fun hc => ?_) (fun hc => ?_)
    · have h := h.1 hc
      refine aw_iinc (j := 4) (v := x4 + (1 : Int32)) (L' := [(4, .int (x4 + (1 : Int32))), (0, .ref (ad b0)), (1, .ref (ad 1)), (2, .int x2), (3, .int x3)]) dX3_compile_54 rfl rfl (by decide) rfl ?_
      refine aw_goto (tgt := 30) dX3_compile_57 (by decide) ?_
      exact aw_sub [1, 2, 3, 4, 0] rfl h
    · have h := h.2 hc
      refine aw_iload (j := 4) dX3_compile_51 rfl ?_
      exact aw_ret (v := some (.int x4)) rfl (Or.inr (Or.inl ⟨_, .int, rfl, rfl, rfl, dX3_compile_53⟩)) h
set_option maxRecDepth 100000 in
set_option maxHeartbeats 4000000 in
theorem v_X3_openRound {ad : Nat → Nat} {d : Nat} {Q : Option Value → Wm → Prop} {m : Wm} {b0 : Nat} (hb0 : Pl b0) (h : (((12 : Int32) ≤ (m.1 b0 5) → AW ad E0 μX3_openRound d Q 22 [(0, .ref (ad b0))] [] m) ∧ (¬ (12 : Int32) ≤ (m.1 b0 5) → (vp_in (m.1 b0 5) 13 ∧ AW ad E0 μX3_openRound d Q 22 [(0, .ref (ad b0))] [] (uI m (b0 + 4) (m.1 b0 5).toNatClampNeg (m.1 b0 6)))))) : Ct ad μX3_openRound d [.ref (ad b0)] m Q := by
  refine Ct.of (by decide +kernel) rfl (Nat.le_of_ble_eq_true rfl) ?_
  refine aw_eq (L' := [(0, .ref (ad b0))]) ?_ rfl rfl rfl
  refine aw_aload_n (j := 0) dX3_openRound_0 rfl rfl ?_
  refine aw_getfield (c := 0) (v := .int (m.1 b0 5)) dX3_openRound_1 f_X3_27 hb0.1 rfl rfl ?_
  refine aw_bipush (v := 12) dX3_openRound_4 (by decide) ?_
  refine aw_icmp_ge (tgt := 22) dX3_openRound_6 (by decide) (fun hc => ?_) (fun hc => ?_)
  · have h := h.1 hc
    exact aw_sub [0] rfl h
  · have h := h.2 hc
    refine aw_aload_n (j := 0) dX3_openRound_9 rfl rfl ?_
    refine aw_getfield (c := b0 + 4 + 3) (v := .ref (ad (b0 + 4))) dX3_openRound_10 f_X3_21 hb0.1 rfl rfl ?_
    refine aw_aload_n (j := 0) dX3_openRound_13 rfl rfl ?_
    refine aw_getfield (c := 0) (v := .int (m.1 b0 5)) dX3_openRound_14 f_X3_27 hb0.1 rfl rfl ?_
    refine aw_aload_n (j := 0) dX3_openRound_17 rfl rfl ?_
    refine aw_getfield (c := 0) (v := .int (m.1 b0 6)) dX3_openRound_18 f_X3_31 hb0.1 rfl rfl ?_
    obtain ⟨hi, h⟩ := h
    refine aw_iastore dX3_openRound_21 hb0.2.2.2.2.1 hi ?_
    exact aw_sub [0] rfl h
set_option maxRecDepth 100000 in
set_option maxHeartbeats 4000000 in
theorem g_X3_openRound_22 {ad : Nat → Nat} {d : Nat} {Q : Option Value → Wm → Prop} {m : Wm} {b0 : Nat} (hb0 : Pl b0) (h : Q none (uI (uI (uI m b0 5 ((m.1 b0 5) + (1 : Int32))) b0 8 (0 : Int32)) b0 7 (0 : Int32))) : AW ad E0 μX3_openRound d Q 22 [(0, .ref (ad b0))] [] m := by
  refine aw_aload_n (j := 0) dX3_openRound_22 rfl rfl ?_
  refine aw_dup dX3_openRound_23 rfl ?_
  refine aw_getfield (c := 0) (v := .int (m.1 b0 5)) dX3_openRound_24 f_X3_27 hb0.1 rfl rfl ?_
  refine aw_iconst (v := 1) dX3_openRound_27 (by decide) ?_
  refine aw_iadd dX3_openRound_28 ?_
  refine aw_putI dX3_openRound_29 f_X3_27 cl_X3 rfl hb0.1 rfl rfl rfl ?_
  refine aw_aload_n (j := 0) dX3_openRound_32 rfl rfl ?_
  refine aw_iconst (v := 0) dX3_openRound_33 (by decide) ?_
  refine aw_putI dX3_openRound_34 f_X3_37 cl_X3 rfl hb0.1 rfl rfl rfl ?_
  refine aw_aload_n (j := 0) dX3_openRound_37 rfl rfl ?_
  refine aw_iconst (v := 0) dX3_openRound_38 (by decide) ?_
  refine aw_putI dX3_openRound_39 f_X3_34 cl_X3 rfl hb0.1 rfl rfl rfl ?_
  exact aw_ret (v := none) rfl (Or.inl ⟨rfl, rfl, dX3_openRound_42⟩) h
set_option maxRecDepth 100000 in
set_option maxHeartbeats 4000000 in
theorem v_X3_take {ad : Nat → Nat} {d : Nat} {Q : Option Value → Wm → Prop} {m : Wm} {b0 : Nat} {x1 x2 : Int32} (hb0 : Pl b0) (h : (((m.1 b0 7) = 0 → (((12 : Int32) < (m.1 b0 5) → Q (some (.int (0 : Int32))) m) ∧ (¬ (12 : Int32) < (m.1 b0 5) → (Ct ad μX3_takeSide d [.ref (ad b0), .int (x1 - (48 : Int32)), .int x2] m (fun r m3 => ∃ v4 : Int32, r = some (.int v4) ∧ ((v4 = 0 → Q (some (.int (0 : Int32))) m3) ∧ (¬ v4 = 0 → Q (some (.int (1 : Int32))) m3))))))) ∧ ((m.1 b0 7) = 1 → (Ct ad μX3_takeThrow d [.ref (ad b0), .int x1, .int (1 : Int32), .int (2 : Int32)] m (fun r m5 => ∃ v6 : Int32, r = some (.int v6) ∧ ((¬ v6 = 0 → Q (some (.int (1 : Int32))) m5) ∧ (v6 = 0 → (Ct ad μX3_takeDash d [.ref (ad b0), .int x1] m5 (fun r m7 => ∃ v8 : Int32, r = some (.int v8) ∧ ((v8 = 0 → Q (some (.int (0 : Int32))) m7) ∧ (¬ v8 = 0 → Q (some (.int (1 : Int32))) m7))))))))) ∧ ((m.1 b0 7) = 2 → (Ct ad μX3_takeDash d [.ref (ad b0), .int x1] m (fun r m9 => ∃ v10 : Int32, r = some (.int v10) ∧ (bz v10 ∧ Q (some (.int v10)) m9)))) ∧ ((m.1 b0 7) = 3 → (((12 : Int32) < (m.1 b0 5) → Q (some (.int (0 : Int32))) m) ∧ (¬ (12 : Int32) < (m.1 b0 5) → (Ct ad μX3_takeSide d [.ref (ad b0), .int (x1 - (48 : Int32)), .int x2] m (fun r m11 => ∃ v12 : Int32, r = some (.int v12) ∧ ((v12 = 0 → Q (some (.int (0 : Int32))) m11) ∧ (¬ v12 = 0 → Q (some (.int (1 : Int32))) m11))))))) ∧ ((m.1 b0 7) = 4 → (Ct ad μX3_takeThrow d [.ref (ad b0), .int x1, .int (2 : Int32), .int (5 : Int32)] m (fun r m13 => ∃ v14 : Int32, r = some (.int v14) ∧ ((¬ v14 = 0 → Q (some (.int (1 : Int32))) m13) ∧ (v14 = 0 → (Ct ad μX3_takeBreak d [.ref (ad b0), .int x1] m13 (fun r m15 => ∃ v16 : Int32, r = some (.int v16) ∧ ((v16 = 0 → Q (some (.int (0 : Int32))) m15) ∧ (¬ v16 = 0 → Q (some (.int (1 : Int32))) m15))))))))) ∧ (¬ (m.1 b0 7) = 0 → ¬ (m.1 b0 7) = 1 → ¬ (m.1 b0 7) = 2 → ¬ (m.1 b0 7) = 3 → ¬ (m.1 b0 7) = 4 → (Ct ad μX3_takeBreak d [.ref (ad b0), .int x1] m (fun r m1 => ∃ v2 : Int32, r = some (.int v2) ∧ (bz v2 ∧ Q (some (.int v2)) m1)))))) : Ct ad μX3_take (d + 1) [.ref (ad b0), .int x1, .int x2] m Q := by
  refine Ct.of (by decide +kernel) rfl (Nat.le_of_ble_eq_true rfl) ?_
  refine aw_eq (L' := [(0, .ref (ad b0)), (1, .int x1), (2, .int x2)]) ?_ rfl rfl rfl
  refine aw_aload_n (j := 0) dX3_take_0 rfl rfl ?_
  refine aw_getfield (c := 0) (v := .int (m.1 b0 7)) dX3_take_1 f_X3_34 hb0.1 rfl rfl ?_
  by_cases c0 : (m.1 b0 7) = 0
  · have h := h.1 c0
    refine aw_tswIn (tgt := 40) dX3_take_4 c0 (by decide) (by decide) (by first | rfl | decide) (by decide) ?_
    refine aw_aload_n (j := 0) dX3_take_40 rfl rfl ?_
    refine aw_getfield (c := 0) (v := .int (m.1 b0 5)) dX3_take_41 f_X3_27 hb0.1 rfl rfl ?_
    refine aw_bipush (v := 12) dX3_take_44 (by decide) ?_
    refine aw_icmp_gt (tgt := 65) dX3_take_46 (by decide) (fun hc => ?_) (fun hc => ?_)
    · have h := h.1 hc
      refine aw_iconst (v := 0) dX3_take_65 (by decide) ?_
      exact aw_ret (v := some (.int (0 : Int32))) rfl (Or.inr (Or.inl ⟨_, .boolean, rfl, rfl, by decide, dX3_take_66⟩)) h
    · have h := h.2 hc
      refine aw_aload_n (j := 0) dX3_take_49 rfl rfl ?_
      refine aw_iload_n (j := 1) dX3_take_50 rfl rfl ?_
      refine aw_bipush (v := 48) dX3_take_51 (by decide) ?_
      refine aw_isub dX3_take_53 ?_
      refine aw_iload_n (j := 2) dX3_take_54 rfl rfl ?_
      refine aw_callV (rest := []) [.int (x1 - (48 : Int32)), .int x2] dX3_take_55 hb0.1 rfl k_X3_65 rfl h (Nat.le_of_ble_eq_true rfl) (fun v m3 h => ?_)
      obtain ⟨v4, rfl, h⟩ := h
      refine aw_eq (L' := [(0, .ref (ad b0)), (1, .int x1), (2, .int x2)]) (st' := [.int v4]) (m' := m3) ?_ rfl rfl rfl
      refine aw_if_eq (tgt := 65) dX3_take_58 (by decide) (fun hc => ?_) (fun hc => ?_)
      · have h := h.1 hc
        refine aw_iconst (v := 0) dX3_take_65 (by decide) ?_
        exact aw_ret (v := some (.int (0 : Int32))) rfl (Or.inr (Or.inl ⟨_, .boolean, rfl, rfl, by decide, dX3_take_66⟩)) h
      · have h := h.2 hc
        refine aw_iconst (v := 1) dX3_take_61 (by decide) ?_
        refine aw_goto (tgt := 66) dX3_take_62 (by decide) ?_
        exact aw_ret (v := some (.int (1 : Int32))) rfl (Or.inr (Or.inl ⟨_, .boolean, rfl, rfl, by decide, dX3_take_66⟩)) h
  by_cases c1 : (m.1 b0 7) = 1
  · have h := h.2.1 c1
    refine aw_tswIn (tgt := 67) dX3_take_4 c1 (by decide) (by decide) (by first | rfl | decide) (by decide) ?_
    refine aw_aload_n (j := 0) dX3_take_67 rfl rfl ?_
    refine aw_iload_n (j := 1) dX3_take_68 rfl rfl ?_
    refine aw_iconst (v := 1) dX3_take_69 (by decide) ?_
    refine aw_iconst (v := 2) dX3_take_70 (by decide) ?_
    refine aw_callV (rest := []) [.int x1, .int (1 : Int32), .int (2 : Int32)] dX3_take_71 hb0.1 rfl k_X3_69 rfl h (Nat.le_of_ble_eq_true rfl) (fun v m5 h => ?_)
    obtain ⟨v6, rfl, h⟩ := h
    refine aw_eq (L' := [(0, .ref (ad b0)), (1, .int x1), (2, .int x2)]) (st' := [.int v6]) (m' := m5) ?_ rfl rfl rfl
    refine aw_if_ne (tgt := 85) dX3_take_74 (by decide) (fun hc => ?_) (fun hc => ?_)
    · have h := h.1 hc
      refine aw_iconst (v := 1) dX3_take_85 (by decide) ?_
      refine aw_goto (tgt := 90) dX3_take_86 (by decide) ?_
      exact aw_ret (v := some (.int (1 : Int32))) rfl (Or.inr (Or.inl ⟨_, .boolean, rfl, rfl, by decide, dX3_take_90⟩)) h
    · have h := h.2 hc
      refine aw_aload_n (j := 0) dX3_take_77 rfl rfl ?_
      refine aw_iload_n (j := 1) dX3_take_78 rfl rfl ?_
      refine aw_callV (rest := []) [.int x1] dX3_take_79 hb0.1 rfl k_X3_73 rfl h (Nat.le_of_ble_eq_true rfl) (fun v m7 h => ?_)
      obtain ⟨v8, rfl, h⟩ := h
      refine aw_eq (L' := [(0, .ref (ad b0)), (1, .int x1), (2, .int x2)]) (st' := [.int v8]) (m' := m7) ?_ rfl rfl rfl
      refine aw_if_eq (tgt := 89) dX3_take_82 (by decide) (fun hc => ?_) (fun hc => ?_)
      · have h := h.1 hc
        refine aw_iconst (v := 0) dX3_take_89 (by decide) ?_
        exact aw_ret (v := some (.int (0 : Int32))) rfl (Or.inr (Or.inl ⟨_, .boolean, rfl, rfl, by decide, dX3_take_90⟩)) h
      · have h := h.2 hc
        refine aw_iconst (v := 1) dX3_take_85 (by decide) ?_
        refine aw_goto (tgt := 90) dX3_take_86 (by decide) ?_
        exact aw_ret (v := some (.int (1 : Int32))) rfl (Or.inr (Or.inl ⟨_, .boolean, rfl, rfl, by decide, dX3_take_90⟩)) h
  by_cases c2 : (m.1 b0 7) = 2
  · have h := h.2.2.1 c2
    refine aw_tswIn (tgt := 91) dX3_take_4 c2 (by decide) (by decide) (by first | rfl | decide) (by decide) ?_
    refine aw_aload_n (j := 0) dX3_take_91 rfl rfl ?_
    refine aw_iload_n (j := 1) dX3_take_92 rfl rfl ?_
    refine aw_callV (rest := []) [.int x1] dX3_take_93 hb0.1 rfl k_X3_73 rfl h (Nat.le_of_ble_eq_true rfl) (fun v m9 h => ?_)
    obtain ⟨v10, rfl, h⟩ := h
    refine aw_eq (L' := [(0, .ref (ad b0)), (1, .int x1), (2, .int x2)]) (st' := [.int v10]) (m' := m9) ?_ rfl rfl rfl
    exact aw_ret (v := some (.int v10)) rfl (Or.inr (Or.inl ⟨_, .boolean, rfl, rfl, h.1.n, dX3_take_96⟩)) h.2
  by_cases c3 : (m.1 b0 7) = 3
  · have h := h.2.2.2.1 c3
    refine aw_tswIn (tgt := 40) dX3_take_4 c3 (by decide) (by decide) (by first | rfl | decide) (by decide) ?_
    refine aw_aload_n (j := 0) dX3_take_40 rfl rfl ?_
    refine aw_getfield (c := 0) (v := .int (m.1 b0 5)) dX3_take_41 f_X3_27 hb0.1 rfl rfl ?_
    refine aw_bipush (v := 12) dX3_take_44 (by decide) ?_
    refine aw_icmp_gt (tgt := 65) dX3_take_46 (by decide) (fun hc => ?_) (fun hc => ?_)
    · have h := h.1 hc
      refine aw_iconst (v := 0) dX3_take_65 (by decide) ?_
      exact aw_ret (v := some (.int (0 : Int32))) rfl (Or.inr (Or.inl ⟨_, .boolean, rfl, rfl, by decide, dX3_take_66⟩)) h
    · have h := h.2 hc
      refine aw_aload_n (j := 0) dX3_take_49 rfl rfl ?_
      refine aw_iload_n (j := 1) dX3_take_50 rfl rfl ?_
      refine aw_bipush (v := 48) dX3_take_51 (by decide) ?_
      refine aw_isub dX3_take_53 ?_
      refine aw_iload_n (j := 2) dX3_take_54 rfl rfl ?_
      refine aw_callV (rest := []) [.int (x1 - (48 : Int32)), .int x2] dX3_take_55 hb0.1 rfl k_X3_65 rfl h (Nat.le_of_ble_eq_true rfl) (fun v m11 h => ?_)
      obtain ⟨v12, rfl, h⟩ := h
      refine aw_eq (L' := [(0, .ref (ad b0)), (1, .int x1), (2, .int x2)]) (st' := [.int v12]) (m' := m11) ?_ rfl rfl rfl
      refine aw_if_eq (tgt := 65) dX3_take_58 (by decide) (fun hc => ?_) (fun hc => ?_)
      · have h := h.1 hc
        refine aw_iconst (v := 0) dX3_take_65 (by decide) ?_
        exact aw_ret (v := some (.int (0 : Int32))) rfl (Or.inr (Or.inl ⟨_, .boolean, rfl, rfl, by decide, dX3_take_66⟩)) h
      · have h := h.2 hc
        refine aw_iconst (v := 1) dX3_take_61 (by decide) ?_
        refine aw_goto (tgt := 66) dX3_take_62 (by decide) ?_
        exact aw_ret (v := some (.int (1 : Int32))) rfl (Or.inr (Or.inl ⟨_, .boolean, rfl, rfl, by decide, dX3_take_66⟩)) h
  by_cases c4 : (m.1 b0 7) = 4
  · have h := h.2.2.2.2.1 c4
    refine aw_tswIn (tgt := 97) dX3_take_4 c4 (by decide) (by decide) (by first | rfl | decide) (by decide) ?_
    refine aw_aload_n (j := 0) dX3_take_97 rfl rfl ?_
    refine aw_iload_n (j := 1) dX3_take_98 rfl rfl ?_
    refine aw_iconst (v := 2) dX3_take_99 (by decide) ?_
    refine aw_iconst (v := 5) dX3_take_100 (by decide) ?_
    refine aw_callV (rest := []) [.int x1, .int (2 : Int32), .int (5 : Int32)] dX3_take_101 hb0.1 rfl k_X3_69 rfl h (Nat.le_of_ble_eq_true rfl) (fun v m13 h => ?_)
    obtain ⟨v14, rfl, h⟩ := h
    refine aw_eq (L' := [(0, .ref (ad b0)), (1, .int x1), (2, .int x2)]) (st' := [.int v14]) (m' := m13) ?_ rfl rfl rfl
    refine aw_if_ne (tgt := 115) dX3_take_104 (by decide) (fun hc => ?_) (fun hc => ?_)
    · have h := h.1 hc
      refine aw_iconst (v := 1) dX3_take_115 (by decide) ?_
      refine aw_goto (tgt := 120) dX3_take_116 (by decide) ?_
      exact aw_ret (v := some (.int (1 : Int32))) rfl (Or.inr (Or.inl ⟨_, .boolean, rfl, rfl, by decide, dX3_take_120⟩)) h
    · have h := h.2 hc
      refine aw_aload_n (j := 0) dX3_take_107 rfl rfl ?_
      refine aw_iload_n (j := 1) dX3_take_108 rfl rfl ?_
      refine aw_callV (rest := []) [.int x1] dX3_take_109 hb0.1 rfl k_X3_77 rfl h (Nat.le_of_ble_eq_true rfl) (fun v m15 h => ?_)
      obtain ⟨v16, rfl, h⟩ := h
      refine aw_eq (L' := [(0, .ref (ad b0)), (1, .int x1), (2, .int x2)]) (st' := [.int v16]) (m' := m15) ?_ rfl rfl rfl
      refine aw_if_eq (tgt := 119) dX3_take_112 (by decide) (fun hc => ?_) (fun hc => ?_)
      · have h := h.1 hc
        refine aw_iconst (v := 0) dX3_take_119 (by decide) ?_
        exact aw_ret (v := some (.int (0 : Int32))) rfl (Or.inr (Or.inl ⟨_, .boolean, rfl, rfl, by decide, dX3_take_120⟩)) h
      · have h := h.2 hc
        refine aw_iconst (v := 1) dX3_take_115 (by decide) ?_
        refine aw_goto (tgt := 120) dX3_take_116 (by decide) ?_
        exact aw_ret (v := some (.int (1 : Int32))) rfl (Or.inr (Or.inl ⟨_, .boolean, rfl, rfl, by decide, dX3_take_120⟩)) h
  have h := h.2.2.2.2.2 c0 c1 c2 c3 c4
  refine aw_tswOut (tgt := 121) dX3_take_4 (by have e0 := i32_ne (n := 0) c0 (by decide); have e1 := i32_ne (n := 1) c1 (by decide); have e2 := i32_ne (n := 2) c2 (by decide); have e3 := i32_ne (n := 3) c3 (by decide); have e4 := i32_ne (n := 4) c4 (by decide); omega) (by decide) ?_
  refine aw_aload_n (j := 0) dX3_take_121 rfl rfl ?_
  refine aw_iload_n (j := 1) dX3_take_122 rfl rfl ?_
  refine aw_callV (rest := []) [.int x1] dX3_take_123 hb0.1 rfl k_X3_77 rfl h (Nat.le_of_ble_eq_true rfl) (fun v m1 h => ?_)
  obtain ⟨v2, rfl, h⟩ := h
  refine aw_eq (L' := [(0, .ref (ad b0)), (1, .int x1), (2, .int x2)]) (st' := [.int v2]) (m' := m1) ?_ rfl rfl rfl
  exact aw_ret (v := some (.int v2)) rfl (Or.inr (Or.inl ⟨_, .boolean, rfl, rfl, h.1.n, dX3_take_126⟩)) h.2
set_option maxRecDepth 100000 in
set_option maxHeartbeats 4000000 in
theorem v_X3_takeSide {ad : Nat → Nat} {d : Nat} {Q : Option Value → Wm → Prop} {m : Wm} {b0 : Nat} {x1 x2 : Int32} (hb0 : Pl b0) (h : ((x1 < 0 → Q (some (.int (0 : Int32))) m) ∧ (¬ x1 < 0 → ((x2 ≤ x1 → Q (some (.int (0 : Int32))) m) ∧ (¬ x2 ≤ x1 → (((((m.1 b0 8) >>> (x1 &&& 31)) &&& (1 : Int32)) = 0 → ((¬ ((uI m b0 8 ((m.1 b0 8) ||| ((1 : Int32) <<< (x1 &&& 31)))).1 b0 7) = 0 → ((((uI m b0 8 ((m.1 b0 8) ||| ((1 : Int32) <<< (x1 &&& 31)))).1 b0 6) ≤ 0 → Q (some (.int (1 : Int32))) (uI (uI m b0 8 ((m.1 b0 8) ||| ((1 : Int32) <<< (x1 &&& 31)))) b0 7 (4 : Int32))) ∧ (¬ ((uI m b0 8 ((m.1 b0 8) ||| ((1 : Int32) <<< (x1 &&& 31)))).1 b0 6) ≤ 0 → (vp_in (((uI m b0 8 ((m.1 b0 8) ||| ((1 : Int32) <<< (x1 &&& 31)))).1 b0 6) - (1 : Int32)) 48 ∧ Q (some (.int (1 : Int32))) (uI (uI (uI m b0 8 ((m.1 b0 8) ||| ((1 : Int32) <<< (x1 &&& 31)))) (b0 + 2) (((uI m b0 8 ((m.1 b0 8) ||| ((1 : Int32) <<< (x1 &&& 31)))).1 b0 6) - (1 : Int32)).toNatClampNeg x1) b0 7 (4 : Int32)))))) ∧ (((uI m b0 8 ((m.1 b0 8) ||| ((1 : Int32) <<< (x1 &&& 31)))).1 b0 7) = 0 → (Ct ad μX3_addGame d [.ref (ad b0), .int x1, .int x1, .int (0 : Int32)] (uI m b0 8 ((m.1 b0 8) ||| ((1 : Int32) <<< (x1 &&& 31)))) (fun r m1 => r = none ∧ Q (some (.int (1 : Int32))) (uI m1 b0 7 (1 : Int32))))))) ∧ (¬ (((m.1 b0 8) >>> (x1 &&& 31)) &&& (1 : Int32)) = 0 → Q (some (.int (0 : Int32))) m))))))) : Ct ad μX3_takeSide (d + 1) [.ref (ad b0), .int x1, .int x2] m Q := by
  refine Ct.of (by decide +kernel) rfl (Nat.le_of_ble_eq_true rfl) ?_
  refine aw_eq (L' := [(0, .ref (ad b0)), (1, .int x1), (2, .int x2)]) ?_ rfl rfl rfl
  refine aw_iload_n (j := 1) dX3_takeSide_0 rfl rfl ?_
  refine aw_if_lt (tgt := 20) dX3_takeSide_1 (by decide) (fun hc => ?_) (fun hc => ?_)
  · have h := h.1 hc
    refine aw_iconst (v := 0) dX3_takeSide_20 (by decide) ?_
    exact aw_ret (v := some (.int (0 : Int32))) rfl (Or.inr (Or.inl ⟨_, .boolean, rfl, rfl, by decide, dX3_takeSide_21⟩)) h
  · have h := h.2 hc
    refine aw_iload_n (j := 1) dX3_takeSide_4 rfl rfl ?_
    refine aw_iload_n (j := 2) dX3_takeSide_5 rfl rfl ?_
    refine aw_icmp_ge (tgt := 20) dX3_takeSide_6 (by decide) (fun hc => ?_) (fun hc => ?_)
    · have h := h.1 hc
      refine aw_iconst (v := 0) dX3_takeSide_20 (by decide) ?_
      exact aw_ret (v := some (.int (0 : Int32))) rfl (Or.inr (Or.inl ⟨_, .boolean, rfl, rfl, by decide, dX3_takeSide_21⟩)) h
    · have h := h.2 hc
      refine aw_aload_n (j := 0) dX3_takeSide_9 rfl rfl ?_
      refine aw_getfield (c := 0) (v := .int (m.1 b0 8)) dX3_takeSide_10 f_X3_37 hb0.1 rfl rfl ?_
      refine aw_iload_n (j := 1) dX3_takeSide_13 rfl rfl ?_
      refine aw_ishr dX3_takeSide_14 ?_
      refine aw_iconst (v := 1) dX3_takeSide_15 (by decide) ?_
      refine aw_iand dX3_takeSide_16 ?_
      refine aw_if_eq (tgt := 22) dX3_takeSide_17 (by decide) (fun hc => ?_) (fun hc => ?_)
      · have h := h.1 hc
        refine aw_aload_n (j := 0) dX3_takeSide_22 rfl rfl ?_
        refine aw_dup dX3_takeSide_23 rfl ?_
        refine aw_getfield (c := 0) (v := .int (m.1 b0 8)) dX3_takeSide_24 f_X3_37 hb0.1 rfl rfl ?_
        refine aw_iconst (v := 1) dX3_takeSide_27 (by decide) ?_
        refine aw_iload_n (j := 1) dX3_takeSide_28 rfl rfl ?_
        refine aw_ishl dX3_takeSide_29 ?_
        refine aw_ior dX3_takeSide_30 ?_
        refine aw_putI dX3_takeSide_31 f_X3_37 cl_X3 rfl hb0.1 rfl rfl rfl ?_
        refine aw_aload_n (j := 0) dX3_takeSide_34 rfl rfl ?_
        refine aw_getfield (c := 0) (v := .int ((uI m b0 8 ((m.1 b0 8) ||| ((1 : Int32) <<< (x1 &&& 31)))).1 b0 7)) dX3_takeSide_35 f_X3_34 hb0.1 rfl rfl ?_
        refine aw_if_ne (tgt := 56) dX3_takeSide_38 (by decide) (fun hc => ?_) (fun hc => ?_)
        · have h := h.1 hc
          refine aw_aload_n (j := 0) dX3_takeSide_56 rfl rfl ?_
          refine aw_getfield (c := 0) (v := .int ((uI m b0 8 ((m.1 b0 8) ||| ((1 : Int32) <<< (x1 &&& 31)))).1 b0 6)) dX3_takeSide_57 f_X3_31 hb0.1 rfl rfl ?_
          refine aw_if_le (tgt := 75) dX3_takeSide_60 (by decide) (fun hc => ?_) (fun hc => ?_)
          · have h := h.1 hc
            refine aw_aload_n (j := 0) dX3_takeSide_75 rfl rfl ?_
            refine aw_iconst (v := 4) dX3_takeSide_76 (by decide) ?_
            refine aw_putI dX3_takeSide_77 f_X3_34 cl_X3 rfl hb0.1 rfl rfl rfl ?_
            refine aw_iconst (v := 1) dX3_takeSide_80 (by decide) ?_
            exact aw_ret (v := some (.int (1 : Int32))) rfl (Or.inr (Or.inl ⟨_, .boolean, rfl, rfl, by decide, dX3_takeSide_81⟩)) h
          · have h := h.2 hc
            refine aw_aload_n (j := 0) dX3_takeSide_63 rfl rfl ?_
            refine aw_getfield (c := b0 + 2 + 3) (v := .ref (ad (b0 + 2))) dX3_takeSide_64 f_X3_15 hb0.1 rfl rfl ?_
            refine aw_aload_n (j := 0) dX3_takeSide_67 rfl rfl ?_
            refine aw_getfield (c := 0) (v := .int ((uI m b0 8 ((m.1 b0 8) ||| ((1 : Int32) <<< (x1 &&& 31)))).1 b0 6)) dX3_takeSide_68 f_X3_31 hb0.1 rfl rfl ?_
            refine aw_iconst (v := 1) dX3_takeSide_71 (by decide) ?_
            refine aw_isub dX3_takeSide_72 ?_
            refine aw_iload_n (j := 1) dX3_takeSide_73 rfl rfl ?_
            obtain ⟨hi, h⟩ := h
            refine aw_iastore dX3_takeSide_74 hb0.2.2.1 hi ?_
            refine aw_aload_n (j := 0) dX3_takeSide_75 rfl rfl ?_
            refine aw_iconst (v := 4) dX3_takeSide_76 (by decide) ?_
            refine aw_putI dX3_takeSide_77 f_X3_34 cl_X3 rfl hb0.1 rfl rfl rfl ?_
            refine aw_iconst (v := 1) dX3_takeSide_80 (by decide) ?_
            exact aw_ret (v := some (.int (1 : Int32))) rfl (Or.inr (Or.inl ⟨_, .boolean, rfl, rfl, by decide, dX3_takeSide_81⟩)) h
        · have h := h.2 hc
          refine aw_aload_n (j := 0) dX3_takeSide_41 rfl rfl ?_
          refine aw_iload_n (j := 1) dX3_takeSide_42 rfl rfl ?_
          refine aw_iload_n (j := 1) dX3_takeSide_43 rfl rfl ?_
          refine aw_iconst (v := 0) dX3_takeSide_44 (by decide) ?_
          refine aw_callV (rest := []) [.int x1, .int x1, .int (0 : Int32)] dX3_takeSide_45 hb0.1 rfl k_X3_80 rfl h (Nat.le_of_ble_eq_true rfl) (fun v m1 h => ?_)
          obtain ⟨rfl, h⟩ := h
          refine aw_eq (L' := [(0, .ref (ad b0)), (1, .int x1), (2, .int x2)]) (st' := []) (m' := m1) ?_ rfl rfl rfl
          refine aw_aload_n (j := 0) dX3_takeSide_48 rfl rfl ?_
          refine aw_iconst (v := 1) dX3_takeSide_49 (by decide) ?_
          refine aw_putI dX3_takeSide_50 f_X3_34 cl_X3 rfl hb0.1 rfl rfl rfl ?_
          refine aw_goto (tgt := 80) dX3_takeSide_53 (by decide) ?_
          refine aw_iconst (v := 1) dX3_takeSide_80 (by decide) ?_
          exact aw_ret (v := some (.int (1 : Int32))) rfl (Or.inr (Or.inl ⟨_, .boolean, rfl, rfl, by decide, dX3_takeSide_81⟩)) h
      · have h := h.2 hc
        refine aw_iconst (v := 0) dX3_takeSide_20 (by decide) ?_
        exact aw_ret (v := some (.int (0 : Int32))) rfl (Or.inr (Or.inl ⟨_, .boolean, rfl, rfl, by decide, dX3_takeSide_21⟩)) h
set_option maxRecDepth 100000 in
set_option maxHeartbeats 4000000 in
theorem v_X3_takeThrow {ad : Nat → Nat} {d : Nat} {Q : Option Value → Wm → Prop} {m : Wm} {b0 : Nat} {x1 x2 x3 : Int32} (hb0 : Pl b0) (h : ((x1 = (33 : Int32) → (((m.1 b0 6) ≤ 0 → Q (some (.int (1 : Int32))) (uI m b0 7 x3)) ∧ (¬ (m.1 b0 6) ≤ 0 → (vp_in ((m.1 b0 6) - (1 : Int32)) 48 ∧ (vp_in ((m.1 b0 6) - (1 : Int32)) 48 ∧ Q (some (.int (1 : Int32))) (uI (uI m (b0 + 3) ((m.1 b0 6) - (1 : Int32)).toNatClampNeg ((m.1 (b0 + 3) ((m.1 b0 6) - (1 : Int32)).toNatClampNeg) ||| x2)) b0 7 x3)))))) ∧ (¬ x1 = (33 : Int32) → Q (some (.int (0 : Int32))) m))) : Ct ad μX3_takeThrow d [.ref (ad b0), .int x1, .int x2, .int x3] m Q := by
  refine Ct.of (by decide +kernel) rfl (Nat.le_of_ble_eq_true rfl) ?_
  refine aw_eq (L' := [(0, .ref (ad b0)), (1, .int x1), (2, .int x2), (3, .int x3)]) ?_ rfl rfl rfl
  refine aw_iload_n (j := 1) dX3_takeThrow_0 rfl rfl ?_
  refine aw_bipush (v := 33) dX3_takeThrow_1 (by decide) ?_
  refine aw_icmp_eq (tgt := 8) dX3_takeThrow_3 (by decide) (fun hc => ?_) (fun hc => ?_)
  · have h := h.1 hc
    refine aw_aload_n (j := 0) dX3_takeThrow_8 rfl rfl ?_
    refine aw_getfield (c := 0) (v := .int (m.1 b0 6)) dX3_takeThrow_9 f_X3_31 hb0.1 rfl rfl ?_
    refine aw_if_le (tgt := 30) dX3_takeThrow_12 (by decide) (fun hc => ?_) (fun hc => ?_)
    · have h := h.1 hc
      refine aw_aload_n (j := 0) dX3_takeThrow_30 rfl rfl ?_
      refine aw_iload_n (j := 3) dX3_takeThrow_31 rfl rfl ?_
      refine aw_putI dX3_takeThrow_32 f_X3_34 cl_X3 rfl hb0.1 rfl rfl rfl ?_
      refine aw_iconst (v := 1) dX3_takeThrow_35 (by decide) ?_
      exact aw_ret (v := some (.int (1 : Int32))) rfl (Or.inr (Or.inl ⟨_, .boolean, rfl, rfl, by decide, dX3_takeThrow_36⟩)) h
    · have h := h.2 hc
      refine aw_aload_n (j := 0) dX3_takeThrow_15 rfl rfl ?_
      refine aw_getfield (c := b0 + 3 + 3) (v := .ref (ad (b0 + 3))) dX3_takeThrow_16 f_X3_18 hb0.1 rfl rfl ?_
      refine aw_aload_n (j := 0) dX3_takeThrow_19 rfl rfl ?_
      refine aw_getfield (c := 0) (v := .int (m.1 b0 6)) dX3_takeThrow_20 f_X3_31 hb0.1 rfl rfl ?_
      refine aw_iconst (v := 1) dX3_takeThrow_23 (by decide) ?_
      refine aw_isub dX3_takeThrow_24 ?_
      refine aw_dup2_11 dX3_takeThrow_25 rfl rfl ?_
      obtain ⟨hi, h⟩ := h
      refine aw_iaload dX3_takeThrow_26 hb0.2.2.2.1 hi ?_
      refine aw_iload_n (j := 2) dX3_takeThrow_27 rfl rfl ?_
      refine aw_ior dX3_takeThrow_28 ?_
      obtain ⟨hi, h⟩ := h
      refine aw_iastore dX3_takeThrow_29 hb0.2.2.2.1 hi ?_
      refine aw_aload_n (j := 0) dX3_takeThrow_30 rfl rfl ?_
      refine aw_iload_n (j := 3) dX3_takeThrow_31 rfl rfl ?_
      refine aw_putI dX3_takeThrow_32 f_X3_34 cl_X3 rfl hb0.1 rfl rfl rfl ?_
      refine aw_iconst (v := 1) dX3_takeThrow_35 (by decide) ?_
      exact aw_ret (v := some (.int (1 : Int32))) rfl (Or.inr (Or.inl ⟨_, .boolean, rfl, rfl, by decide, dX3_takeThrow_36⟩)) h
  · have h := h.2 hc
    refine aw_iconst (v := 0) dX3_takeThrow_6 (by decide) ?_
    exact aw_ret (v := some (.int (0 : Int32))) rfl (Or.inr (Or.inl ⟨_, .boolean, rfl, rfl, by decide, dX3_takeThrow_7⟩)) h
set_option maxRecDepth 100000 in
set_option maxHeartbeats 4000000 in
theorem v_X3_takeDash {ad : Nat → Nat} {d : Nat} {Q : Option Value → Wm → Prop} {m : Wm} {b0 : Nat} {x1 : Int32} (hb0 : Pl b0) (h : ((x1 = (45 : Int32) → Q (some (.int (1 : Int32))) (uI m b0 7 (3 : Int32))) ∧ (¬ x1 = (45 : Int32) → Q (some (.int (0 : Int32))) m))) : Ct ad μX3_takeDash d [.ref (ad b0), .int x1] m Q := by
  refine Ct.of (by decide +kernel) rfl (Nat.le_of_ble_eq_true rfl) ?_
  refine aw_eq (L' := [(0, .ref (ad b0)), (1, .int x1)]) ?_ rfl rfl rfl
  refine aw_iload_n (j := 1) dX3_takeDash_0 rfl rfl ?_
  refine aw_bipush (v := 45) dX3_takeDash_1 (by decide) ?_
  refine aw_icmp_eq (tgt := 8) dX3_takeDash_3 (by decide) (fun hc => ?_) (fun hc => ?_)
  · have h := h.1 hc
    refine aw_aload_n (j := 0) dX3_takeDash_8 rfl rfl ?_
    refine aw_iconst (v := 3) dX3_takeDash_9 (by decide) ?_
    refine aw_putI dX3_takeDash_10 f_X3_34 cl_X3 rfl hb0.1 rfl rfl rfl ?_
    refine aw_iconst (v := 1) dX3_takeDash_13 (by decide) ?_
    exact aw_ret (v := some (.int (1 : Int32))) rfl (Or.inr (Or.inl ⟨_, .boolean, rfl, rfl, by decide, dX3_takeDash_14⟩)) h
  · have h := h.2 hc
    refine aw_iconst (v := 0) dX3_takeDash_6 (by decide) ?_
    exact aw_ret (v := some (.int (0 : Int32))) rfl (Or.inr (Or.inl ⟨_, .boolean, rfl, rfl, by decide, dX3_takeDash_7⟩)) h
set_option maxRecDepth 100000 in
set_option maxHeartbeats 4000000 in
theorem v_X3_takeBreak {ad : Nat → Nat} {d : Nat} {Q : Option Value → Wm → Prop} {m : Wm} {b0 : Nat} {x1 : Int32} (hb0 : Pl b0) (h : ((¬ x1 = (59 : Int32) → ((¬ x1 = (44 : Int32) → Q (some (.int (0 : Int32))) (uI m b0 7 (0 : Int32))) ∧ (x1 = (44 : Int32) → Q (some (.int (1 : Int32))) (uI m b0 7 (0 : Int32))))) ∧ (x1 = (59 : Int32) → (Ct ad μX3_openRound d [.ref (ad b0)] m (fun r m1 => r = none ∧ Q (some (.int (1 : Int32))) m1))))) : Ct ad μX3_takeBreak (d + 1) [.ref (ad b0), .int x1] m Q := by
  refine Ct.of (by decide +kernel) rfl (Nat.le_of_ble_eq_true rfl) ?_
  refine aw_eq (L' := [(0, .ref (ad b0)), (1, .int x1)]) ?_ rfl rfl rfl
  refine aw_iload_n (j := 1) dX3_takeBreak_0 rfl rfl ?_
  refine aw_bipush (v := 59) dX3_takeBreak_1 (by decide) ?_
  refine aw_icmp_ne (tgt := 12) dX3_takeBreak_3 (by decide) (fun hc => ?_) (fun hc => ?_)
  · have h := h.1 hc
    refine aw_aload_n (j := 0) dX3_takeBreak_12 rfl rfl ?_
    refine aw_iconst (v := 0) dX3_takeBreak_13 (by decide) ?_
    refine aw_putI dX3_takeBreak_14 f_X3_34 cl_X3 rfl hb0.1 rfl rfl rfl ?_
    refine aw_iload_n (j := 1) dX3_takeBreak_17 rfl rfl ?_
    refine aw_bipush (v := 44) dX3_takeBreak_18 (by decide) ?_
    refine aw_icmp_ne (tgt := 27) dX3_takeBreak_20 (by decide) (fun hc => ?_) (fun hc => ?_)
    · have h := h.1 hc
      refine aw_iconst (v := 0) dX3_takeBreak_27 (by decide) ?_
      exact aw_ret (v := some (.int (0 : Int32))) rfl (Or.inr (Or.inl ⟨_, .boolean, rfl, rfl, by decide, dX3_takeBreak_28⟩)) h
    · have h := h.2 hc
      refine aw_iconst (v := 1) dX3_takeBreak_23 (by decide) ?_
      refine aw_goto (tgt := 28) dX3_takeBreak_24 (by decide) ?_
      exact aw_ret (v := some (.int (1 : Int32))) rfl (Or.inr (Or.inl ⟨_, .boolean, rfl, rfl, by decide, dX3_takeBreak_28⟩)) h
  · have h := h.2 hc
    refine aw_aload_n (j := 0) dX3_takeBreak_6 rfl rfl ?_
    refine aw_callV (rest := []) [] dX3_takeBreak_7 hb0.1 rfl k_X3_48 rfl h (Nat.le_of_ble_eq_true rfl) (fun v m1 h => ?_)
    obtain ⟨rfl, h⟩ := h
    refine aw_eq (L' := [(0, .ref (ad b0)), (1, .int x1)]) (st' := []) (m' := m1) ?_ rfl rfl rfl
    refine aw_iconst (v := 1) dX3_takeBreak_10 (by decide) ?_
    exact aw_ret (v := some (.int (1 : Int32))) rfl (Or.inr (Or.inl ⟨_, .boolean, rfl, rfl, by decide, dX3_takeBreak_11⟩)) h
set_option maxRecDepth 100000 in
set_option maxHeartbeats 4000000 in
theorem v_X3_addGame {ad : Nat → Nat} {d : Nat} {Q : Option Value → Wm → Prop} {m : Wm} {b0 : Nat} {x1 x2 x3 : Int32} (hb0 : Pl b0) (h : (((48 : Int32) ≤ (m.1 b0 6) → Q none m) ∧ (¬ (48 : Int32) ≤ (m.1 b0 6) → (vp_in (m.1 b0 6) 48 ∧ (vp_in ((uI m (b0 + 1) (m.1 b0 6).toNatClampNeg x1).1 b0 6) 48 ∧ (vp_in ((uI (uI m (b0 + 1) (m.1 b0 6).toNatClampNeg x1) (b0 + 2) ((uI m (b0 + 1) (m.1 b0 6).toNatClampNeg x1).1 b0 6).toNatClampNeg x2).1 b0 6) 48 ∧ Q none (uI (uI (uI (uI m (b0 + 1) (m.1 b0 6).toNatClampNeg x1) (b0 + 2) ((uI m (b0 + 1) (m.1 b0 6).toNatClampNeg x1).1 b0 6).toNatClampNeg x2) (b0 + 3) ((uI (uI m (b0 + 1) (m.1 b0 6).toNatClampNeg x1) (b0 + 2) ((uI m (b0 + 1) (m.1 b0 6).toNatClampNeg x1).1 b0 6).toNatClampNeg x2).1 b0 6).toNatClampNeg x3) b0 6 (((uI (uI (uI m (b0 + 1) (m.1 b0 6).toNatClampNeg x1) (b0 + 2) ((uI m (b0 + 1) (m.1 b0 6).toNatClampNeg x1).1 b0 6).toNatClampNeg x2) (b0 + 3) ((uI (uI m (b0 + 1) (m.1 b0 6).toNatClampNeg x1) (b0 + 2) ((uI m (b0 + 1) (m.1 b0 6).toNatClampNeg x1).1 b0 6).toNatClampNeg x2).1 b0 6).toNatClampNeg x3).1 b0 6) + (1 : Int32))))))))) : Ct ad μX3_addGame d [.ref (ad b0), .int x1, .int x2, .int x3] m Q := by
  refine Ct.of (by decide +kernel) rfl (Nat.le_of_ble_eq_true rfl) ?_
  refine aw_eq (L' := [(0, .ref (ad b0)), (1, .int x1), (2, .int x2), (3, .int x3)]) ?_ rfl rfl rfl
  refine aw_aload_n (j := 0) dX3_addGame_0 rfl rfl ?_
  refine aw_getfield (c := 0) (v := .int (m.1 b0 6)) dX3_addGame_1 f_X3_31 hb0.1 rfl rfl ?_
  refine aw_bipush (v := 48) dX3_addGame_4 (by decide) ?_
  refine aw_icmp_ge (tgt := 49) dX3_addGame_6 (by decide) (fun hc => ?_) (fun hc => ?_)
  · have h := h.1 hc
    exact aw_ret (v := none) rfl (Or.inl ⟨rfl, rfl, dX3_addGame_49⟩) h
  · have h := h.2 hc
    refine aw_aload_n (j := 0) dX3_addGame_9 rfl rfl ?_
    refine aw_getfield (c := b0 + 1 + 3) (v := .ref (ad (b0 + 1))) dX3_addGame_10 f_X3_11 hb0.1 rfl rfl ?_
    refine aw_aload_n (j := 0) dX3_addGame_13 rfl rfl ?_
    refine aw_getfield (c := 0) (v := .int (m.1 b0 6)) dX3_addGame_14 f_X3_31 hb0.1 rfl rfl ?_
    refine aw_iload_n (j := 1) dX3_addGame_17 rfl rfl ?_
    obtain ⟨hi, h⟩ := h
    refine aw_iastore dX3_addGame_18 hb0.2.1 hi ?_
    refine aw_aload_n (j := 0) dX3_addGame_19 rfl rfl ?_
    refine aw_getfield (c := b0 + 2 + 3) (v := .ref (ad (b0 + 2))) dX3_addGame_20 f_X3_15 hb0.1 rfl rfl ?_
    refine aw_aload_n (j := 0) dX3_addGame_23 rfl rfl ?_
    refine aw_getfield (c := 0) (v := .int ((uI m (b0 + 1) (m.1 b0 6).toNatClampNeg x1).1 b0 6)) dX3_addGame_24 f_X3_31 hb0.1 rfl rfl ?_
    refine aw_iload_n (j := 2) dX3_addGame_27 rfl rfl ?_
    obtain ⟨hi, h⟩ := h
    refine aw_iastore dX3_addGame_28 hb0.2.2.1 hi ?_
    refine aw_aload_n (j := 0) dX3_addGame_29 rfl rfl ?_
    refine aw_getfield (c := b0 + 3 + 3) (v := .ref (ad (b0 + 3))) dX3_addGame_30 f_X3_18 hb0.1 rfl rfl ?_
    refine aw_aload_n (j := 0) dX3_addGame_33 rfl rfl ?_
    refine aw_getfield (c := 0) (v := .int ((uI (uI m (b0 + 1) (m.1 b0 6).toNatClampNeg x1) (b0 + 2) ((uI m (b0 + 1) (m.1 b0 6).toNatClampNeg x1).1 b0 6).toNatClampNeg x2).1 b0 6)) dX3_addGame_34 f_X3_31 hb0.1 rfl rfl ?_
    refine aw_iload_n (j := 3) dX3_addGame_37 rfl rfl ?_
    obtain ⟨hi, h⟩ := h
    refine aw_iastore dX3_addGame_38 hb0.2.2.2.1 hi ?_
    refine aw_aload_n (j := 0) dX3_addGame_39 rfl rfl ?_
    refine aw_dup dX3_addGame_40 rfl ?_
    refine aw_getfield (c := 0) (v := .int ((uI (uI (uI m (b0 + 1) (m.1 b0 6).toNatClampNeg x1) (b0 + 2) ((uI m (b0 + 1) (m.1 b0 6).toNatClampNeg x1).1 b0 6).toNatClampNeg x2) (b0 + 3) ((uI (uI m (b0 + 1) (m.1 b0 6).toNatClampNeg x1) (b0 + 2) ((uI m (b0 + 1) (m.1 b0 6).toNatClampNeg x1).1 b0 6).toNatClampNeg x2).1 b0 6).toNatClampNeg x3).1 b0 6)) dX3_addGame_41 f_X3_31 hb0.1 rfl rfl ?_
    refine aw_iconst (v := 1) dX3_addGame_44 (by decide) ?_
    refine aw_iadd dX3_addGame_45 ?_
    refine aw_putI dX3_addGame_46 f_X3_31 cl_X3 rfl hb0.1 rfl rfl rfl ?_
    exact aw_ret (v := none) rfl (Or.inl ⟨rfl, rfl, dX3_addGame_49⟩) h
set_option maxRecDepth 100000 in
set_option maxHeartbeats 4000000 in
theorem v_X3_fillEachWithEach {ad : Nat → Nat} {d : Nat} {Q : Option Value → Wm → Prop} {m : Wm} {b0 : Nat} {x1 : Int32} (hb0 : Pl b0) (h : (Ct ad μX3_clear d [.ref (ad b0)] m (fun r m1 => r = none ∧ AW ad E0 μX3_fillEachWithEach (d + 1) Q 17 [(0, .ref (ad b0)), (1, .int x1), (2, .int (if (8 : Int32) < (x1 + (x1 &&& (1 : Int32))) then (8 : Int32) else (x1 + (x1 &&& (1 : Int32))))), (3, .int (0 : Int32))] [] m1))) : Ct ad μX3_fillEachWithEach (d + 1) [.ref (ad b0), .int x1] m Q := by
  refine Ct.of (by decide +kernel) rfl (Nat.le_of_ble_eq_true rfl) ?_
  refine aw_eq (L' := [(0, .ref (ad b0)), (1, .int x1)]) ?_ rfl rfl rfl
  refine aw_aload_n (j := 0) dX3_fillEachWithEach_0 rfl rfl ?_
  refine aw_callV (rest := []) [] dX3_fillEachWithEach_1 hb0.1 rfl k_X3_40 rfl h (Nat.le_of_ble_eq_true rfl) (fun v m1 h => ?_)
  obtain ⟨rfl, h⟩ := h
  refine aw_eq (L' := [(0, .ref (ad b0)), (1, .int x1)]) (st' := []) (m' := m1) ?_ rfl rfl rfl
  refine aw_iload_n (j := 1) dX3_fillEachWithEach_4 rfl rfl ?_
  refine aw_iload_n (j := 1) dX3_fillEachWithEach_5 rfl rfl ?_
  refine aw_iconst (v := 1) dX3_fillEachWithEach_6 (by decide) ?_
  refine aw_iand dX3_fillEachWithEach_7 ?_
  refine aw_iadd dX3_fillEachWithEach_8 ?_
  refine aw_bipush (v := 8) dX3_fillEachWithEach_9 (by decide) ?_
  refine aw_min dX3_fillEachWithEach_11 k_X3_51 (Nat.le_of_ble_eq_true rfl) ?_
  refine aw_istore_n (L' := [(2, .int (if (8 : Int32) < (x1 + (x1 &&& (1 : Int32))) then (8 : Int32) else (x1 + (x1 &&& (1 : Int32))))), (0, .ref (ad b0)), (1, .int x1)]) dX3_fillEachWithEach_14 rfl (by decide) rfl ?_
  refine aw_iconst (v := 0) dX3_fillEachWithEach_15 (by decide) ?_
  refine aw_istore_n (L' := [(3, .int (0 : Int32)), (2, .int (if (8 : Int32) < (x1 + (x1 &&& (1 : Int32))) then (8 : Int32) else (x1 + (x1 &&& (1 : Int32))))), (0, .ref (ad b0)), (1, .int x1)]) dX3_fillEachWithEach_16 rfl (by decide) rfl ?_
  exact aw_sub [2, 3, 1, 0] rfl h
set_option maxRecDepth 100000 in
set_option maxHeartbeats 4000000 in
theorem g_X3_fillEachWithEach_17 {ad : Nat → Nat} {d : Nat} {Q : Option Value → Wm → Prop} {m : Wm} {b0 : Nat} {x1 x2 x3 : Int32} (hb0 : Pl b0) (h : ((x2 ≤ x3 → AW ad E0 μX3_fillEachWithEach (d + 1) Q 37 [(0, .ref (ad b0)), (1, .int x1), (2, .int x2), (3, .int (0 : Int32))] [] m) ∧ (¬ x2 ≤ x3 → (vp_in x3 8 ∧ AW ad E0 μX3_fillEachWithEach (d + 1) Q 17 [(0, .ref (ad b0)), (1, .int x1), (2, .int x2), (3, .int (x3 + (1 : Int32)))] [] (uI m (b0 + 5) x3.toNatClampNeg x3))))) : AW ad E0 μX3_fillEachWithEach (d + 1) Q 17 [(0, .ref (ad b0)), (1, .int x1), (2, .int x2), (3, .int x3)] [] m := by
  refine aw_iload_n (j := 3) dX3_fillEachWithEach_17 rfl rfl ?_
  refine aw_iload_n (j := 2) dX3_fillEachWithEach_18 rfl rfl ?_
  refine aw_icmp_ge (tgt := 35) dX3_fillEachWithEach_19 (by decide) (fun hc => ?_) (fun hc => ?_)
  · have h := h.1 hc
    refine aw_iconst (v := 0) dX3_fillEachWithEach_35 (by decide) ?_
    refine aw_istore_n (L' := [(3, .int (0 : Int32)), (0, .ref (ad b0)), (1, .int x1), (2, .int x2)]) dX3_fillEachWithEach_36 rfl (by decide) rfl ?_
    exact aw_sub [1, 2, 3, 0] rfl h
  · have h := h.2 hc
    refine aw_aload_n (j := 0) dX3_fillEachWithEach_22 rfl rfl ?_
    refine aw_getfield (c := b0 + 5 + 3) (v := .ref (ad (b0 + 5))) dX3_fillEachWithEach_23 f_X3_24 hb0.1 rfl rfl ?_
    refine aw_iload_n (j := 3) dX3_fillEachWithEach_26 rfl rfl ?_
    refine aw_iload_n (j := 3) dX3_fillEachWithEach_27 rfl rfl ?_
    obtain ⟨hi, h⟩ := h
    refine aw_iastore dX3_fillEachWithEach_28 hb0.2.2.2.2.2 hi ?_
    refine aw_iinc (j := 3) (v := x3 + (1 : Int32)) (L' := [(3, .int (x3 + (1 : Int32))), (0, .ref (ad b0)), (1, .int x1), (2, .int x2)]) dX3_fillEachWithEach_29 rfl rfl (by decide) rfl ?_
    refine aw_goto (tgt := 17) dX3_fillEachWithEach_32 (by decide) ?_
    exact aw_sub [1, 2, 3, 0] rfl h
set_option maxRecDepth 100000 in
set_option maxHeartbeats 4000000 in
theorem g_X3_fillEachWithEach_37 {ad : Nat → Nat} {d : Nat} {Q : Option Value → Wm → Prop} {m : Wm} {b0 : Nat} {x1 x2 x3 : Int32} (hb0 : Pl b0) (h : (((x2 - (1 : Int32)) ≤ x3 → Q none m) ∧ (¬ (x2 - (1 : Int32)) ≤ x3 → (Ct ad μX3_openRound d [.ref (ad b0)] m (fun r m1 => r = none ∧ AW ad E0 μX3_fillEachWithEach (d + 1) Q 51 [(0, .ref (ad b0)), (1, .int x1), (2, .int x2), (3, .int x3), (4, .int (0 : Int32))] [] m1))))) : AW ad E0 μX3_fillEachWithEach (d + 1) Q 37 [(0, .ref (ad b0)), (1, .int x1), (2, .int x2), (3, .int x3)] [] m := by
  refine aw_iload_n (j := 3) dX3_fillEachWithEach_37 rfl rfl ?_
  refine aw_iload_n (j := 2) dX3_fillEachWithEach_38 rfl rfl ?_
  refine aw_iconst (v := 1) dX3_fillEachWithEach_39 (by decide) ?_
  refine aw_isub dX3_fillEachWithEach_40 ?_
  refine aw_icmp_ge (tgt := 119) dX3_fillEachWithEach_41 (by decide) (fun hc => ?_) (fun hc => ?_)
  · have h := h.1 hc
    exact aw_ret (v := none) rfl (Or.inl ⟨rfl, rfl, dX3_fillEachWithEach_119⟩) h
  · have h := h.2 hc
    refine aw_aload_n (j := 0) dX3_fillEachWithEach_44 rfl rfl ?_
    refine aw_callV (rest := []) [] dX3_fillEachWithEach_45 hb0.1 rfl k_X3_48 rfl h (Nat.le_of_ble_eq_true rfl) (fun v m1 h => ?_)
    obtain ⟨rfl, h⟩ := h
    refine aw_eq (L' := [(0, .ref (ad b0)), (1, .int x1), (2, .int x2), (3, .int x3)]) (st' := []) (m' := m1) ?_ rfl rfl rfl
    refine aw_iconst (v := 0) dX3_fillEachWithEach_48 (by decide) ?_
    refine aw_istore (L' := [(4, .int (0 : Int32)), (0, .ref (ad b0)), (1, .int x1), (2, .int x2), (3, .int x3)]) dX3_fillEachWithEach_49 (by decide) rfl ?_
    exact aw_sub [1, 2, 3, 4, 0] rfl h
set_option maxRecDepth 100000 in
set_option maxHeartbeats 4000000 in
theorem g_X3_fillEachWithEach_51 {ad : Nat → Nat} {d : Nat} {Q : Option Value → Wm → Prop} {m : Wm} {b0 : Nat} {x1 x2 x3 x4 : Int32} (hb0 : Pl b0) (h : (((x2 / (2 : Int32)) ≤ x4 → (Ct ad μX3_turnPlaces d [.ref (ad b0), .int x2] m (fun r m1 => r = none ∧ AW ad E0 μX3_fillEachWithEach (d + 1) Q 37 [(0, .ref (ad b0)), (1, .int x1), (2, .int x2), (3, .int (x3 + (1 : Int32)))] [] m1))) ∧ (¬ (x2 / (2 : Int32)) ≤ x4 → (vp_in x4 8 ∧ (vp_in ((x2 - (1 : Int32)) - x4) 8 ∧ ((x1 ≤ (m.1 (b0 + 5) x4.toNatClampNeg) → AW ad E0 μX3_fillEachWithEach (d + 1) Q 51 [(0, .ref (ad b0)), (1, .int x1), (2, .int x2), (3, .int x3), (4, .int (x4 + (1 : Int32)))] [] m) ∧ (¬ x1 ≤ (m.1 (b0 + 5) x4.toNatClampNeg) → ((x1 ≤ (m.1 (b0 + 5) ((x2 - (1 : Int32)) - x4).toNatClampNeg) → AW ad E0 μX3_fillEachWithEach (d + 1) Q 51 [(0, .ref (ad b0)), (1, .int x1), (2, .int x2), (3, .int x3), (4, .int (x4 + (1 : Int32)))] [] m) ∧ (¬ x1 ≤ (m.1 (b0 + 5) ((x2 - (1 : Int32)) - x4).toNatClampNeg) → (Ct ad μX3_addGame d [.ref (ad b0), .int (m.1 (b0 + 5) x4.toNatClampNeg), .int (m.1 (b0 + 5) ((x2 - (1 : Int32)) - x4).toNatClampNeg), .int (0 : Int32)] m (fun r m2 => r = none ∧ AW ad E0 μX3_fillEachWithEach (d + 1) Q 51 [(0, .ref (ad b0)), (1, .int x1), (2, .int x2), (3, .int x3), (4, .int (x4 + (1 : Int32)))] [] m2))))))))))) : AW ad E0 μX3_fillEachWithEach (d + 1) Q 51 [(0, .ref (ad b0)), (1, .int x1), (2, .int x2), (3, .int x3), (4, .int x4)] [] m := by
  refine aw_iload (j := 4) dX3_fillEachWithEach_51 rfl ?_
  refine aw_iload_n (j := 2) dX3_fillEachWithEach_53 rfl rfl ?_
  refine aw_iconst (v := 2) dX3_fillEachWithEach_54 (by decide) ?_
  refine aw_idiv dX3_fillEachWithEach_55 (by decide) ?_
  refine aw_icmp_ge (tgt := 108) dX3_fillEachWithEach_56 (by decide) (fun hc => ?_) (fun hc => ?_)
  · have h := h.1 hc
    refine aw_aload_n (j := 0) dX3_fillEachWithEach_108 rfl rfl ?_
    refine aw_iload_n (j := 2) dX3_fillEachWithEach_109 rfl rfl ?_
    refine aw_callV (rest := []) [.int x2] dX3_fillEachWithEach_110 hb0.1 rfl k_X3_84 rfl h (Nat.le_of_ble_eq_true rfl) (fun v m1 h => ?_)
    obtain ⟨rfl, h⟩ := h
    refine aw_eq (L' := [(0, .ref (ad b0)), (1, .int x1), (2, .int x2), (3, .int x3), (4, .int x4)]) (st' := []) (m' := m1) ?_ rfl rfl rfl
    refine aw_iinc (j := 3) (v := x3 + (1 : Int32)) (L' := [(3, .int (x3 + (1 : Int32))), (0, .ref (ad b0)), (1, .int x1), (2, .int x2), (4, .int x4)]) dX3_fillEachWithEach_113 rfl rfl (by decide) rfl ?_
    refine aw_goto (tgt := 37) dX3_fillEachWithEach_116 (by decide) ?_
    exact aw_sub [1, 2, 3, 0] rfl h
  · have h := h.2 hc
    refine aw_aload_n (j := 0) dX3_fillEachWithEach_59 rfl rfl ?_
    refine aw_getfield (c := b0 + 5 + 3) (v := .ref (ad (b0 + 5))) dX3_fillEachWithEach_60 f_X3_24 hb0.1 rfl rfl ?_
    refine aw_iload (j := 4) dX3_fillEachWithEach_63 rfl ?_
    obtain ⟨hi, h⟩ := h
    refine aw_iaload dX3_fillEachWithEach_65 hb0.2.2.2.2.2 hi ?_
    refine aw_istore (L' := [(5, .int (m.1 (b0 + 5) x4.toNatClampNeg)), (0, .ref (ad b0)), (1, .int x1), (2, .int x2), (3, .int x3), (4, .int x4)]) dX3_fillEachWithEach_66 (by decide) rfl ?_
    refine aw_aload_n (j := 1) dX3_fillEachWithEach_68 rfl rfl ?_
    refine aw_getfield (c := b0 + 5 + 3) (v := .ref (ad (b0 + 5))) dX3_fillEachWithEach_69 f_X3_24 hb0.1 rfl rfl ?_
    refine aw_iload_n (j := 3) dX3_fillEachWithEach_72 rfl rfl ?_
    refine aw_iconst (v := 1) dX3_fillEachWithEach_73 (by decide) ?_
    refine aw_isub dX3_fillEachWithEach_74 ?_
    refine aw_iload (j := 5) dX3_fillEachWithEach_75 rfl ?_
    refine aw_isub dX3_fillEachWithEach_77 ?_
    obtain ⟨hi, h⟩ := h
    refine aw_iaload dX3_fillEachWithEach_78 hb0.2.2.2.2.2 hi ?_
    refine aw_istore (L' := [(6, .int (m.1 (b0 + 5) ((x2 - (1 : Int32)) - x4).toNatClampNeg)), (5, .int (m.1 (b0 + 5) x4.toNatClampNeg)), (0, .ref (ad b0)), (1, .int x1), (2, .int x2), (3, .int x3), (4, .int x4)]) dX3_fillEachWithEach_79 (by decide) rfl ?_
    refine aw_iload (j := 1) dX3_fillEachWithEach_81 rfl ?_
    refine aw_iload_n (j := 3) dX3_fillEachWithEach_83 rfl rfl ?_
    refine aw_icmp_ge (tgt := 102) dX3_fillEachWithEach_84 (by decide) (fun hc => ?_) (fun hc => ?_)
    · have h := h.1 hc
      refine aw_iinc (j := 6) (v := x4 + (1 : Int32)) (L' := [(4, .int (x4 + (1 : Int32))), (6, .int (m.1 (b0 + 5) ((x2 - (1 : Int32)) - x4).toNatClampNeg)), (5, .int (m.1 (b0 + 5) x4.toNatClampNeg)), (0, .ref (ad b0)), (1, .int x1), (2, .int x2), (3, .int x3)]) dX3_fillEachWithEach_102 rfl rfl (by decide) rfl ?_
      refine aw_goto (tgt := 51) dX3_fillEachWithEach_105 (by decide) ?_
      exact aw_sub [3, 4, 5, 6, 0] rfl h
    · have h := h.2 hc
      refine aw_iload (j := 0) dX3_fillEachWithEach_87 rfl ?_
      refine aw_iload_n (j := 3) dX3_fillEachWithEach_89 rfl rfl ?_
      refine aw_icmp_ge (tgt := 102) dX3_fillEachWithEach_90 (by decide) (fun hc => ?_) (fun hc => ?_)
      · have h := h.1 hc
        refine aw_iinc (j := 6) (v := x4 + (1 : Int32)) (L' := [(4, .int (x4 + (1 : Int32))), (6, .int (m.1 (b0 + 5) ((x2 - (1 : Int32)) - x4).toNatClampNeg)), (5, .int (m.1 (b0 + 5) x4.toNatClampNeg)), (0, .ref (ad b0)), (1, .int x1), (2, .int x2), (3, .int x3)]) dX3_fillEachWithEach_102 rfl rfl (by decide) rfl ?_
        refine aw_goto (tgt := 51) dX3_fillEachWithEach_105 (by decide) ?_
        exact aw_sub [3, 4, 5, 6, 0] rfl h
      · have h := h.2 hc
        refine aw_aload_n (j := 2) dX3_fillEachWithEach_93 rfl rfl ?_
        refine aw_iload (j := 1) dX3_fillEachWithEach_94 rfl ?_
        refine aw_iload (j := 0) dX3_fillEachWithEach_96 rfl ?_
        refine aw_iconst (v := 0) dX3_fillEachWithEach_98 (by decide) ?_
        refine aw_callV (rest := []) [.int (m.1 (b0 + 5) x4.toNatClampNeg), .int (m.1 (b0 + 5) ((x2 - (1 : Int32)) - x4).toNatClampNeg), .int (0 : Int32)] dX3_fillEachWithEach_99 hb0.1 rfl k_X3_80 rfl h (Nat.le_of_ble_eq_true rfl) (fun v m2 h => ?_)
        obtain ⟨rfl, h⟩ := h
        refine aw_eq (L' := [(6, .int (m.1 (b0 + 5) ((x2 - (1 : Int32)) - x4).toNatClampNeg)), (5, .int (m.1 (b0 + 5) x4.toNatClampNeg)), (0, .ref (ad b0)), (1, .int x1), (2, .int x2), (3, .int x3), (4, .int x4)]) (st' := []) (m' := m2) ?_ rfl rfl rfl
        refine aw_iinc (j := 6) (v := x4 + (1 : Int32)) (L' := [(4, .int (x4 + (1 : Int32))), (6, .int (m.1 (b0 + 5) ((x2 - (1 : Int32)) - x4).toNatClampNeg)), (5, .int (m.1 (b0 + 5) x4.toNatClampNeg)), (0, .ref (ad b0)), (1, .int x1), (2, .int x2), (3, .int x3)]) dX3_fillEachWithEach_102 rfl rfl (by decide) rfl ?_
        refine aw_goto (tgt := 51) dX3_fillEachWithEach_105 (by decide) ?_
        exact aw_sub [3, 4, 5, 6, 0] rfl h
set_option maxRecDepth 100000 in
set_option maxHeartbeats 4000000 in
theorem v_X3_turnPlaces {ad : Nat → Nat} {d : Nat} {Q : Option Value → Wm → Prop} {m : Wm} {b0 : Nat} {x1 : Int32} (hb0 : Pl b0) (h : (vp_in (x1 - (1 : Int32)) 8 ∧ AW ad E0 μX3_turnPlaces d Q 13 [(0, .ref (ad b0)), (2, .int (m.1 (b0 + 5) (x1 - (1 : Int32)).toNatClampNeg)), (3, .int (x1 - (1 : Int32)))] [] m)) : Ct ad μX3_turnPlaces d [.ref (ad b0), .int x1] m Q := by
  refine Ct.of (by decide +kernel) rfl (Nat.le_of_ble_eq_true rfl) ?_
  refine aw_eq (L' := [(0, .ref (ad b0)), (1, .int x1)]) ?_ rfl rfl rfl
  refine aw_aload_n (j := 0) dX3_turnPlaces_0 rfl rfl ?_
  refine aw_getfield (c := b0 + 5 + 3) (v := .ref (ad (b0 + 5))) dX3_turnPlaces_1 f_X3_24 hb0.1 rfl rfl ?_
  refine aw_iload_n (j := 1) dX3_turnPlaces_4 rfl rfl ?_
  refine aw_iconst (v := 1) dX3_turnPlaces_5 (by decide) ?_
  refine aw_isub dX3_turnPlaces_6 ?_
  obtain ⟨hi, h⟩ := h
  refine aw_iaload dX3_turnPlaces_7 hb0.2.2.2.2.2 hi ?_
  refine aw_istore_n (L' := [(2, .int (m.1 (b0 + 5) (x1 - (1 : Int32)).toNatClampNeg)), (0, .ref (ad b0)), (1, .int x1)]) dX3_turnPlaces_8 rfl (by decide) rfl ?_
  refine aw_iload_n (j := 2) dX3_turnPlaces_9 rfl rfl ?_
  refine aw_iconst (v := 1) dX3_turnPlaces_10 (by decide) ?_
  refine aw_isub dX3_turnPlaces_11 ?_
  refine aw_istore_n (L' := [(3, .int (x1 - (1 : Int32))), (2, .int (m.1 (b0 + 5) (x1 - (1 : Int32)).toNatClampNeg)), (0, .ref (ad b0)), (1, .int x1)]) dX3_turnPlaces_12 rfl (by decide) rfl ?_
  exact aw_sub [2, 1, 0] rfl h
set_option maxRecDepth 100000 in
set_option maxHeartbeats 4000000 in
theorem g_X3_turnPlaces_13 {ad : Nat → Nat} {d : Nat} {Q : Option Value → Wm → Prop} {m : Wm} {b0 : Nat} {x2 x3 : Int32} (hb0 : Pl b0) (h : ((x3 ≤ (1 : Int32) → Q none (uI m (b0 + 5) (1 : Int32).toNatClampNeg x2)) ∧ (¬ x3 ≤ (1 : Int32) → (vp_in (x3 - (1 : Int32)) 8 ∧ (vp_in x3 8 ∧ AW ad E0 μX3_turnPlaces d Q 13 [(0, .ref (ad b0)), (2, .int x2), (3, .int (x3 + (-1 : Int32)))] [] (uI m (b0 + 5) x3.toNatClampNeg (m.1 (b0 + 5) (x3 - (1 : Int32)).toNatClampNeg))))))) : AW ad E0 μX3_turnPlaces d Q 13 [(0, .ref (ad b0)), (2, .int x2), (3, .int x3)] [] m := by
  refine aw_iload_n (j := 2) dX3_turnPlaces_13 rfl rfl ?_
  refine aw_iconst (v := 1) dX3_turnPlaces_14 (by decide) ?_
  refine aw_icmp_le (tgt := 38) dX3_turnPlaces_15 (by decide) (fun hc => ?_) (fun hc => ?_)
  · have h := h.1 hc
    refine aw_aload_n (j := 0) dX3_turnPlaces_38 rfl rfl ?_
    refine aw_getfield (c := b0 + 5 + 3) (v := .ref (ad (b0 + 5))) dX3_turnPlaces_39 f_X3_24 hb0.1 rfl rfl ?_
    refine aw_iconst (v := 1) dX3_turnPlaces_42 (by decide) ?_
    refine aw_iload_n (j := 1) dX3_turnPlaces_43 rfl rfl ?_
    refine aw_iastore dX3_turnPlaces_44 hb0.2.2.2.2.2 (by unfold vp_in; decide) ?_
    exact aw_ret (v := none) rfl (Or.inl ⟨rfl, rfl, dX3_turnPlaces_45⟩) h
  · have h := h.2 hc
    refine aw_aload_n (j := 0) dX3_turnPlaces_18 rfl rfl ?_
    refine aw_getfield (c := b0 + 5 + 3) (v := .ref (ad (b0 + 5))) dX3_turnPlaces_19 f_X3_24 hb0.1 rfl rfl ?_
    refine aw_iload_n (j := 2) dX3_turnPlaces_22 rfl rfl ?_
    refine aw_aload_n (j := 0) dX3_turnPlaces_23 rfl rfl ?_
    refine aw_getfield (c := b0 + 5 + 3) (v := .ref (ad (b0 + 5))) dX3_turnPlaces_24 f_X3_24 hb0.1 rfl rfl ?_
    refine aw_iload_n (j := 2) dX3_turnPlaces_27 rfl rfl ?_
    refine aw_iconst (v := 1) dX3_turnPlaces_28 (by decide) ?_
    refine aw_isub dX3_turnPlaces_29 ?_
    obtain ⟨hi, h⟩ := h
    refine aw_iaload dX3_turnPlaces_30 hb0.2.2.2.2.2 hi ?_
    obtain ⟨hi, h⟩ := h
    refine aw_iastore dX3_turnPlaces_31 hb0.2.2.2.2.2 hi ?_
    refine aw_iinc (j := 2) (v := x3 + (-1 : Int32)) (L' := [(3, .int (x3 + (-1 : Int32))), (0, .ref (ad b0)), (2, .int x2)]) dX3_turnPlaces_32 rfl rfl (by decide) rfl ?_
    refine aw_goto (tgt := 13) dX3_turnPlaces_35 (by decide) ?_
    exact aw_sub [1, 2, 0] rfl h
set_option maxRecDepth 100000 in
set_option maxHeartbeats 4000000 in
theorem v_X4_read {ad : Nat → Nat} {d : Nat} {Q : Option Value → Wm → Prop} {m : Wm} {b3 : Nat} (hb3 : St b3) (h : (Ct ad μX8_copy d [.ref (ad 16), .ref (ad b3)] m (fun r m1 => r = none ∧ AW ad E0 μX4_read (d + 1) Q 61 [(0, .ref (ad 15)), (1, .ref (ad 1)), (4, .int (if (76 : Int32) < ((uI (uI (uI (uI (uI (uI m1 15 1 (m1.1 3 3)) 15 2 ((uI m1 15 1 (m1.1 3 3)).1 3 4)) 15 3 ((uI (uI m1 15 1 (m1.1 3 3)) 15 2 ((uI m1 15 1 (m1.1 3 3)).1 3 4)).1 3 5)) 15 4 (0 : Int32)) 15 6 (0 : Int32)) 15 7 (0 : Int32)).1 1 1) then (76 : Int32) else ((uI (uI (uI (uI (uI (uI m1 15 1 (m1.1 3 3)) 15 2 ((uI m1 15 1 (m1.1 3 3)).1 3 4)) 15 3 ((uI (uI m1 15 1 (m1.1 3 3)) 15 2 ((uI m1 15 1 (m1.1 3 3)).1 3 4)).1 3 5)) 15 4 (0 : Int32)) 15 6 (0 : Int32)) 15 7 (0 : Int32)).1 1 1))), (5, .int (0 : Int32))] [] (uI (uI (uI (uI (uI (uI m1 15 1 (m1.1 3 3)) 15 2 ((uI m1 15 1 (m1.1 3 3)).1 3 4)) 15 3 ((uI (uI m1 15 1 (m1.1 3 3)) 15 2 ((uI m1 15 1 (m1.1 3 3)).1 3 4)).1 3 5)) 15 4 (0 : Int32)) 15 6 (0 : Int32)) 15 7 (0 : Int32))))) : Ct ad μX4_read (d + 1) [.ref (ad 15), .ref (ad 1), .ref (ad 3), .ref (ad b3)] m Q := by
  refine Ct.of (by decide +kernel) rfl (Nat.le_of_ble_eq_true rfl) ?_
  refine aw_eq (L' := [(0, .ref (ad 15)), (1, .ref (ad 1)), (2, .ref (ad 3)), (3, .ref (ad b3))]) ?_ rfl rfl rfl
  refine aw_aload_n (j := 0) dX4_read_0 rfl rfl ?_
  refine aw_getfield (c := 19) (v := .ref (ad 16)) dX4_read_1 f_X4_12 ly_15 rfl rfl ?_
  refine aw_aload_n (j := 3) dX4_read_4 rfl rfl ?_
  refine aw_callV (rest := []) [.ref (ad b3)] dX4_read_5 ly_16 rfl k_X4_41 rfl h (Nat.le_of_ble_eq_true rfl) (fun v m1 h => ?_)
  obtain ⟨rfl, h⟩ := h
  refine aw_eq (L' := [(0, .ref (ad 15)), (1, .ref (ad 1)), (2, .ref (ad 3)), (3, .ref (ad b3))]) (st' := []) (m' := m1) ?_ rfl rfl rfl
  refine aw_aload_n (j := 0) dX4_read_8 rfl rfl ?_
  refine aw_aload_n (j := 2) dX4_read_9 rfl rfl ?_
  refine aw_getfield (c := 0) (v := .int (m1.1 3 3)) dX4_read_10 f_X4_45 ly_3 rfl rfl ?_
  refine aw_putI dX4_read_13 f_X4_18 cl_X4 rfl ly_15 rfl rfl rfl ?_
  refine aw_aload_n (j := 0) dX4_read_16 rfl rfl ?_
  refine aw_aload_n (j := 2) dX4_read_17 rfl rfl ?_
  refine aw_getfield (c := 0) (v := .int ((uI m1 15 1 (m1.1 3 3)).1 3 4)) dX4_read_18 f_X4_48 ly_3 rfl rfl ?_
  refine aw_putI dX4_read_21 f_X4_22 cl_X4 rfl ly_15 rfl rfl rfl ?_
  refine aw_aload_n (j := 0) dX4_read_24 rfl rfl ?_
  refine aw_aload_n (j := 2) dX4_read_25 rfl rfl ?_
  refine aw_getfield (c := 0) (v := .int ((uI (uI m1 15 1 (m1.1 3 3)) 15 2 ((uI m1 15 1 (m1.1 3 3)).1 3 4)).1 3 5)) dX4_read_26 f_X4_49 ly_3 rfl rfl ?_
  refine aw_putI dX4_read_29 f_X4_25 cl_X4 rfl ly_15 rfl rfl rfl ?_
  refine aw_aload_n (j := 0) dX4_read_32 rfl rfl ?_
  refine aw_iconst (v := 0) dX4_read_33 (by decide) ?_
  refine aw_putI dX4_read_34 f_X4_28 cl_X4 rfl ly_15 rfl rfl rfl ?_
  refine aw_aload_n (j := 0) dX4_read_37 rfl rfl ?_
  refine aw_iconst (v := 0) dX4_read_38 (by decide) ?_
  refine aw_putI dX4_read_39 f_X4_34 cl_X4 rfl ly_15 rfl rfl rfl ?_
  refine aw_aload_n (j := 0) dX4_read_42 rfl rfl ?_
  refine aw_iconst (v := 0) dX4_read_43 (by decide) ?_
  refine aw_putI dX4_read_44 f_X4_37 cl_X4 rfl ly_15 rfl (by decide) (by decide) ?_
  refine aw_aload_n (j := 1) dX4_read_47 rfl rfl ?_
  refine aw_getfield (c := 0) (v := .int ((uI (uI (uI (uI (uI (uI m1 15 1 (m1.1 3 3)) 15 2 ((uI m1 15 1 (m1.1 3 3)).1 3 4)) 15 3 ((uI (uI m1 15 1 (m1.1 3 3)) 15 2 ((uI m1 15 1 (m1.1 3 3)).1 3 4)).1 3 5)) 15 4 (0 : Int32)) 15 6 (0 : Int32)) 15 7 (0 : Int32)).1 1 1)) dX4_read_48 f_X4_50 ly_1 rfl rfl ?_
  refine aw_bipush (v := 76) dX4_read_51 (by decide) ?_
  refine aw_min dX4_read_53 k_X4_55 (Nat.le_of_ble_eq_true rfl) ?_
  refine aw_istore (L' := [(4, .int (if (76 : Int32) < ((uI (uI (uI (uI (uI (uI m1 15 1 (m1.1 3 3)) 15 2 ((uI m1 15 1 (m1.1 3 3)).1 3 4)) 15 3 ((uI (uI m1 15 1 (m1.1 3 3)) 15 2 ((uI m1 15 1 (m1.1 3 3)).1 3 4)).1 3 5)) 15 4 (0 : Int32)) 15 6 (0 : Int32)) 15 7 (0 : Int32)).1 1 1) then (76 : Int32) else ((uI (uI (uI (uI (uI (uI m1 15 1 (m1.1 3 3)) 15 2 ((uI m1 15 1 (m1.1 3 3)).1 3 4)) 15 3 ((uI (uI m1 15 1 (m1.1 3 3)) 15 2 ((uI m1 15 1 (m1.1 3 3)).1 3 4)).1 3 5)) 15 4 (0 : Int32)) 15 6 (0 : Int32)) 15 7 (0 : Int32)).1 1 1))), (0, .ref (ad 15)), (1, .ref (ad 1)), (2, .ref (ad 3)), (3, .ref (ad b3))]) dX4_read_56 (by decide) rfl ?_
  refine aw_iconst (v := 0) dX4_read_58 (by decide) ?_
  refine aw_istore (L' := [(5, .int (0 : Int32)), (4, .int (if (76 : Int32) < ((uI (uI (uI (uI (uI (uI m1 15 1 (m1.1 3 3)) 15 2 ((uI m1 15 1 (m1.1 3 3)).1 3 4)) 15 3 ((uI (uI m1 15 1 (m1.1 3 3)) 15 2 ((uI m1 15 1 (m1.1 3 3)).1 3 4)).1 3 5)) 15 4 (0 : Int32)) 15 6 (0 : Int32)) 15 7 (0 : Int32)).1 1 1) then (76 : Int32) else ((uI (uI (uI (uI (uI (uI m1 15 1 (m1.1 3 3)) 15 2 ((uI m1 15 1 (m1.1 3 3)).1 3 4)) 15 3 ((uI (uI m1 15 1 (m1.1 3 3)) 15 2 ((uI m1 15 1 (m1.1 3 3)).1 3 4)).1 3 5)) 15 4 (0 : Int32)) 15 6 (0 : Int32)) 15 7 (0 : Int32)).1 1 1))), (0, .ref (ad 15)), (1, .ref (ad 1)), (2, .ref (ad 3)), (3, .ref (ad b3))]) dX4_read_59 (by decide) rfl ?_
  exact aw_sub [2, 3, 1, 0] rfl h
set_option maxRecDepth 100000 in
set_option maxHeartbeats 4000000 in
theorem g_X4_read_61 {ad : Nat → Nat} {d : Nat} {Q : Option Value → Wm → Prop} {m : Wm} {x4 x5 : Int32} (h : ((x4 ≤ x5 → (((76 : Int32) < (m.1 1 1) → Q (some (.int x4)) m) ∧ (¬ (76 : Int32) < (m.1 1 1) → (Ct ad μX4_canEnd d [.ref (ad 15)] m (fun r m1 => ∃ v2 : Int32, r = some (.int v2) ∧ ((¬ v2 = 0 → Q (some (.int (-1 : Int32))) m1) ∧ (v2 = 0 → Q (some (.int x4)) m1))))))) ∧ (¬ x4 ≤ x5 → (vp_in x5 80 ∧ (Ct ad μX4_take d [.ref (ad 15), .int (m.1 2 x5.toNatClampNeg)] m (fun r m3 => ∃ v4 : Int32, r = some (.int v4) ∧ ((¬ v4 = 0 → AW ad E0 μX4_read (d + 1) Q 61 [(0, .ref (ad 15)), (1, .ref (ad 1)), (4, .int x4), (5, .int (x5 + (1 : Int32)))] [] m3) ∧ (v4 = 0 → Q (some (.int x5)) m3)))))))) : AW ad E0 μX4_read (d + 1) Q 61 [(0, .ref (ad 15)), (1, .ref (ad 1)), (4, .int x4), (5, .int x5)] [] m := by
  refine aw_iload (j := 3) dX4_read_61 rfl ?_
  refine aw_iload (j := 2) dX4_read_63 rfl ?_
  refine aw_icmp_ge (tgt := 91) dX4_read_65 (by decide) (fun hc => ?_) (fun hc => ?_)
  · have h := h.1 hc
    refine aw_aload_n (j := 1) dX4_read_91 rfl rfl ?_
    refine aw_getfield (c := 0) (v := .int (m.1 1 1)) dX4_read_92 f_X4_50 ly_1 rfl rfl ?_
    refine aw_bipush (v := 76) dX4_read_95 (by decide) ?_
    refine aw_icmp_gt (tgt := 107) dX4_read_97 (by decide) (fun hc => ?_) (fun hc => ?_)
    · have h := h.1 hc
      refine aw_iload (j := 2) dX4_read_107 rfl ?_
      refine aw_goto (tgt := 113) dX4_read_109 (by decide) ?_
      exact aw_ret (v := some (.int x4)) rfl (Or.inr (Or.inl ⟨_, .int, rfl, rfl, rfl, dX4_read_113⟩)) h
    · have h := h.2 hc
      refine aw_aload_n (j := 0) dX4_read_100 rfl rfl ?_
      refine aw_callV (rest := []) [] dX4_read_101 ly_15 rfl k_X4_69 rfl h (Nat.le_of_ble_eq_true rfl) (fun v m1 h => ?_)
      obtain ⟨v2, rfl, h⟩ := h
      refine aw_eq (L' := [(0, .ref (ad 15)), (1, .ref (ad 1)), (4, .int x4), (5, .int x5)]) (st' := [.int v2]) (m' := m1) ?_ rfl rfl rfl
      refine aw_if_ne (tgt := 112) dX4_read_104 (by decide) (fun hc => ?_) (fun hc => ?_)
      · have h := h.1 hc
        refine aw_iconst (v := -1) dX4_read_112 (by decide) ?_
        exact aw_ret (v := some (.int (-1 : Int32))) rfl (Or.inr (Or.inl ⟨_, .int, rfl, rfl, rfl, dX4_read_113⟩)) h
      · have h := h.2 hc
        refine aw_iload (j := 2) dX4_read_107 rfl ?_
        refine aw_goto (tgt := 113) dX4_read_109 (by decide) ?_
        exact aw_ret (v := some (.int x4)) rfl (Or.inr (Or.inl ⟨_, .int, rfl, rfl, rfl, dX4_read_113⟩)) h
  · have h := h.2 hc
    refine aw_aload_n (j := 0) dX4_read_68 rfl rfl ?_
    refine aw_aload_n (j := 1) dX4_read_69 rfl rfl ?_
    refine aw_getfield (c := 5) (v := .ref (ad 2)) dX4_read_70 f_X4_61 ly_1 rfl rfl ?_
    refine aw_iload (j := 3) dX4_read_73 rfl ?_
    obtain ⟨hi, h⟩ := h
    refine aw_caload dX4_read_75 ly_2 hi ?_
    refine aw_callV (rest := []) [.int (m.1 2 x5.toNatClampNeg)] dX4_read_76 ly_15 rfl k_X4_65 rfl h (Nat.le_of_ble_eq_true rfl) (fun v m3 h => ?_)
    obtain ⟨v4, rfl, h⟩ := h
    refine aw_eq (L' := [(0, .ref (ad 15)), (1, .ref (ad 1)), (4, .int x4), (5, .int x5)]) (st' := [.int v4]) (m' := m3) ?_ rfl rfl rfl
    refine aw_if_ne (tgt := 85) dX4_read_79 (by decide) (fun hc => ?_) (fun hc => ?_)
    · have h := h.1 hc
      refine aw_iinc (j := 3) (v := x5 + (1 : Int32)) (L' := [(5, .int (x5 + (1 : Int32))), (0, .ref (ad 15)), (1, .ref (ad 1)), (4, .int x4)]) dX4_read_85 rfl rfl (by decide) rfl ?_
      refine aw_goto (tgt := 61) dX4_read_88 (by decide) ?_
      exact aw_sub [1, 2, 3, 0] rfl h
    · have h := h.2 hc
      refine aw_iload (j := 3) dX4_read_82 rfl ?_
      exact aw_ret (v := some (.int x5)) rfl (Or.inr (Or.inl ⟨_, .int, rfl, rfl, rfl, dX4_read_84⟩)) h
set_option maxRecDepth 100000 in
set_option maxHeartbeats 4000000 in
theorem v_X4_enter {ad : Nat → Nat} {d : Nat} {Q : Option Value → Wm → Prop} {m : Wm} {b2 : Nat} (hb2 : St b2) (h : (Ct ad μX8_copy d [.ref (ad b2), .ref (ad 16)] m (fun r m1 => r = none ∧ Q none (uI (uI (uI m1 3 3 (m1.1 15 1)) 3 4 ((uI m1 3 3 (m1.1 15 1)).1 15 2)) 3 5 ((uI (uI m1 3 3 (m1.1 15 1)) 3 4 ((uI m1 3 3 (m1.1 15 1)).1 15 2)).1 15 3))))) : Ct ad μX4_enter (d + 1) [.ref (ad 15), .ref (ad 3), .ref (ad b2)] m Q := by
  refine Ct.of (by decide +kernel) rfl (Nat.le_of_ble_eq_true rfl) ?_
  refine aw_eq (L' := [(0, .ref (ad 15)), (1, .ref (ad 3)), (2, .ref (ad b2))]) ?_ rfl rfl rfl
  refine aw_aload_n (j := 2) dX4_enter_0 rfl rfl ?_
  refine aw_aload_n (j := 0) dX4_enter_1 rfl rfl ?_
  refine aw_getfield (c := 19) (v := .ref (ad 16)) dX4_enter_2 f_X4_12 ly_15 rfl rfl ?_
  refine aw_callV (rest := []) [.ref (ad 16)] dX4_enter_5 hb2.1 rfl k_X4_41 rfl h (Nat.le_of_ble_eq_true rfl) (fun v m1 h => ?_)
  obtain ⟨rfl, h⟩ := h
  refine aw_eq (L' := [(0, .ref (ad 15)), (1, .ref (ad 3)), (2, .ref (ad b2))]) (st' := []) (m' := m1) ?_ rfl rfl rfl
  refine aw_aload_n (j := 1) dX4_enter_8 rfl rfl ?_
  refine aw_aload_n (j := 0) dX4_enter_9 rfl rfl ?_
  refine aw_getfield (c := 0) (v := .int (m1.1 15 1)) dX4_enter_10 f_X4_18 ly_15 rfl rfl ?_
  refine aw_putI dX4_enter_13 f_X4_45 cl_X1 rfl ly_3 rfl rfl rfl ?_
  refine aw_aload_n (j := 1) dX4_enter_16 rfl rfl ?_
  refine aw_aload_n (j := 0) dX4_enter_17 rfl rfl ?_
  refine aw_getfield (c := 0) (v := .int ((uI m1 3 3 (m1.1 15 1)).1 15 2)) dX4_enter_18 f_X4_22 ly_15 rfl rfl ?_
  refine aw_putI dX4_enter_21 f_X4_48 cl_X1 rfl ly_3 rfl rfl rfl ?_
  refine aw_aload_n (j := 1) dX4_enter_24 rfl rfl ?_
  refine aw_aload_n (j := 0) dX4_enter_25 rfl rfl ?_
  refine aw_getfield (c := 0) (v := .int ((uI (uI m1 3 3 (m1.1 15 1)) 3 4 ((uI m1 3 3 (m1.1 15 1)).1 15 2)).1 15 3)) dX4_enter_26 f_X4_25 ly_15 rfl rfl ?_
  refine aw_putI dX4_enter_29 f_X4_49 cl_X1 rfl ly_3 rfl rfl rfl ?_
  exact aw_ret (v := none) rfl (Or.inl ⟨rfl, rfl, dX4_enter_32⟩) h
set_option maxRecDepth 100000 in
set_option maxHeartbeats 4000000 in
theorem v_X4_canEnd {ad : Nat → Nat} {d : Nat} {Q : Option Value → Wm → Prop} {m : Wm} (h : (((m.1 15 6) = (3 : Int32) → Q (some (.int (1 : Int32))) m) ∧ (¬ (m.1 15 6) = (3 : Int32) → ((¬ (m.1 15 6) = (2 : Int32) → Q (some (.int (0 : Int32))) m) ∧ ((m.1 15 6) = (2 : Int32) → ((¬ (m.1 15 5) = (m.1 15 2) → Q (some (.int (0 : Int32))) m) ∧ ((m.1 15 5) = (m.1 15 2) → Q (some (.int (1 : Int32))) m))))))) : Ct ad μX4_canEnd d [.ref (ad 15)] m Q := by
  refine Ct.of (by decide +kernel) rfl (Nat.le_of_ble_eq_true rfl) ?_
  refine aw_eq (L' := [(0, .ref (ad 15))]) ?_ rfl rfl rfl
  refine aw_aload_n (j := 0) dX4_canEnd_0 rfl rfl ?_
  refine aw_getfield (c := 0) (v := .int (m.1 15 6)) dX4_canEnd_1 f_X4_34 ly_15 rfl rfl ?_
  refine aw_iconst (v := 3) dX4_canEnd_4 (by decide) ?_
  refine aw_icmp_eq (tgt := 27) dX4_canEnd_5 (by decide) (fun hc => ?_) (fun hc => ?_)
  · have h := h.1 hc
    refine aw_iconst (v := 1) dX4_canEnd_27 (by decide) ?_
    refine aw_goto (tgt := 32) dX4_canEnd_28 (by decide) ?_
    exact aw_ret (v := some (.int (1 : Int32))) rfl (Or.inr (Or.inl ⟨_, .boolean, rfl, rfl, by decide, dX4_canEnd_32⟩)) h
  · have h := h.2 hc
    refine aw_aload_n (j := 0) dX4_canEnd_8 rfl rfl ?_
    refine aw_getfield (c := 0) (v := .int (m.1 15 6)) dX4_canEnd_9 f_X4_34 ly_15 rfl rfl ?_
    refine aw_iconst (v := 2) dX4_canEnd_12 (by decide) ?_
    refine aw_icmp_ne (tgt := 31) dX4_canEnd_13 (by decide) (fun hc => ?_) (fun hc => ?_)
    · have h := h.1 hc
      refine aw_iconst (v := 0) dX4_canEnd_31 (by decide) ?_
      exact aw_ret (v := some (.int (0 : Int32))) rfl (Or.inr (Or.inl ⟨_, .boolean, rfl, rfl, by decide, dX4_canEnd_32⟩)) h
    · have h := h.2 hc
      refine aw_aload_n (j := 0) dX4_canEnd_16 rfl rfl ?_
      refine aw_getfield (c := 0) (v := .int (m.1 15 5)) dX4_canEnd_17 f_X4_31 ly_15 rfl rfl ?_
      refine aw_aload_n (j := 0) dX4_canEnd_20 rfl rfl ?_
      refine aw_getfield (c := 0) (v := .int (m.1 15 2)) dX4_canEnd_21 f_X4_22 ly_15 rfl rfl ?_
      refine aw_icmp_ne (tgt := 31) dX4_canEnd_24 (by decide) (fun hc => ?_) (fun hc => ?_)
      · have h := h.1 hc
        refine aw_iconst (v := 0) dX4_canEnd_31 (by decide) ?_
        exact aw_ret (v := some (.int (0 : Int32))) rfl (Or.inr (Or.inl ⟨_, .boolean, rfl, rfl, by decide, dX4_canEnd_32⟩)) h
      · have h := h.2 hc
        refine aw_iconst (v := 1) dX4_canEnd_27 (by decide) ?_
        refine aw_goto (tgt := 32) dX4_canEnd_28 (by decide) ?_
        exact aw_ret (v := some (.int (1 : Int32))) rfl (Or.inr (Or.inl ⟨_, .boolean, rfl, rfl, by decide, dX4_canEnd_32⟩)) h
set_option maxRecDepth 100000 in
set_option maxHeartbeats 4000000 in
theorem v_X4_take {ad : Nat → Nat} {d : Nat} {Q : Option Value → Wm → Prop} {m : Wm} {x1 : Int32} (h : ((¬ x1 = (59 : Int32) → AW ad E0 μX4_take (d + 1) Q 20 [(0, .ref (ad 15)), (1, .int x1)] [] m) ∧ (x1 = (59 : Int32) → (Ct ad μX4_canEnd d [.ref (ad 15)] m (fun r m1 => ∃ v2 : Int32, r = some (.int v2) ∧ ((v2 = 0 → AW ad E0 μX4_take (d + 1) Q 20 [(0, .ref (ad 15)), (1, .int x1)] [] m1) ∧ (¬ v2 = 0 → Q (some (.int (1 : Int32))) (uI m1 15 6 (0 : Int32))))))))) : Ct ad μX4_take (d + 1) [.ref (ad 15), .int x1] m Q := by
  refine Ct.of (by decide +kernel) rfl (Nat.le_of_ble_eq_true rfl) ?_
  refine aw_eq (L' := [(0, .ref (ad 15)), (1, .int x1)]) ?_ rfl rfl rfl
  refine aw_iload_n (j := 1) dX4_take_0 rfl rfl ?_
  refine aw_bipush (v := 59) dX4_take_1 (by decide) ?_
  refine aw_icmp_ne (tgt := 20) dX4_take_3 (by decide) (fun hc => ?_) (fun hc => ?_)
  · have h := h.1 hc
    exact aw_sub [0, 1] rfl h
  · have h := h.2 hc
    refine aw_aload_n (j := 0) dX4_take_6 rfl rfl ?_
    refine aw_callV (rest := []) [] dX4_take_7 ly_15 rfl k_X4_69 rfl h (Nat.le_of_ble_eq_true rfl) (fun v m1 h => ?_)
    obtain ⟨v2, rfl, h⟩ := h
    refine aw_eq (L' := [(0, .ref (ad 15)), (1, .int x1)]) (st' := [.int v2]) (m' := m1) ?_ rfl rfl rfl
    refine aw_if_eq (tgt := 20) dX4_take_10 (by decide) (fun hc => ?_) (fun hc => ?_)
    · have h := h.1 hc
      exact aw_sub [0, 1] rfl h
    · have h := h.2 hc
      refine aw_aload_n (j := 0) dX4_take_13 rfl rfl ?_
      refine aw_iconst (v := 0) dX4_take_14 (by decide) ?_
      refine aw_putI dX4_take_15 f_X4_34 cl_X4 rfl ly_15 rfl rfl rfl ?_
      refine aw_iconst (v := 1) dX4_take_18 (by decide) ?_
      exact aw_ret (v := some (.int (1 : Int32))) rfl (Or.inr (Or.inl ⟨_, .boolean, rfl, rfl, by decide, dX4_take_19⟩)) h
set_option maxRecDepth 100000 in
set_option maxHeartbeats 4000000 in
theorem g_X4_take_20 {ad : Nat → Nat} {d : Nat} {Q : Option Value → Wm → Prop} {m : Wm} {x1 : Int32} (h : (((m.1 15 6) = 0 → (Ct ad μX4_takeLine d [.ref (ad 15), .int x1] m (fun r m1 => ∃ v2 : Int32, r = some (.int v2) ∧ (bz v2 ∧ Q (some (.int v2)) m1)))) ∧ ((m.1 15 6) = 1 → (Ct ad μX4_takeArts d [.ref (ad 15), .int (x1 - (48 : Int32))] m (fun r m3 => ∃ v4 : Int32, r = some (.int v4) ∧ (bz v4 ∧ Q (some (.int v4)) m3)))) ∧ ((m.1 15 6) = 2 → (((m.1 15 2) ≤ (m.1 15 5) → (Ct ad μX4_takeIll d [.ref (ad 15), .int x1] m (fun r m5 => ∃ v6 : Int32, r = some (.int v6) ∧ (bz v6 ∧ Q (some (.int v6)) m5)))) ∧ (¬ (m.1 15 2) ≤ (m.1 15 5) → (Ct ad μX4_takeSkill d [.ref (ad 15), .int (x1 - (48 : Int32))] m (fun r m7 => ∃ v8 : Int32, r = some (.int v8) ∧ (bz v8 ∧ Q (some (.int v8)) m7)))))) ∧ (¬ (m.1 15 6) = 0 → ¬ (m.1 15 6) = 1 → ¬ (m.1 15 6) = 2 → Q (some (.int (0 : Int32))) m))) : AW ad E0 μX4_take (d + 1) Q 20 [(0, .ref (ad 15)), (1, .int x1)] [] m := by
  refine aw_aload_n (j := 0) dX4_take_20 rfl rfl ?_
  refine aw_getfield (c := 0) (v := .int (m.1 15 6)) dX4_take_21 f_X4_34 ly_15 rfl rfl ?_
  by_cases c0 : (m.1 15 6) = 0
  · have h := h.1 c0
    refine aw_tswIn (tgt := 52) dX4_take_24 c0 (by decide) (by decide) (by first | rfl | decide) (by decide) ?_
    refine aw_aload_n (j := 0) dX4_take_52 rfl rfl ?_
    refine aw_iload_n (j := 1) dX4_take_53 rfl rfl ?_
    refine aw_callV (rest := []) [.int x1] dX4_take_54 ly_15 rfl k_X4_73 rfl h (Nat.le_of_ble_eq_true rfl) (fun v m1 h => ?_)
    obtain ⟨v2, rfl, h⟩ := h
    refine aw_eq (L' := [(0, .ref (ad 15)), (1, .int x1)]) (st' := [.int v2]) (m' := m1) ?_ rfl rfl rfl
    exact aw_ret (v := some (.int v2)) rfl (Or.inr (Or.inl ⟨_, .boolean, rfl, rfl, h.1.n, dX4_take_57⟩)) h.2
  by_cases c1 : (m.1 15 6) = 1
  · have h := h.2.1 c1
    refine aw_tswIn (tgt := 58) dX4_take_24 c1 (by decide) (by decide) (by first | rfl | decide) (by decide) ?_
    refine aw_aload_n (j := 0) dX4_take_58 rfl rfl ?_
    refine aw_iload_n (j := 1) dX4_take_59 rfl rfl ?_
    refine aw_bipush (v := 48) dX4_take_60 (by decide) ?_
    refine aw_isub dX4_take_62 ?_
    refine aw_callV (rest := []) [.int (x1 - (48 : Int32))] dX4_take_63 ly_15 rfl k_X4_76 rfl h (Nat.le_of_ble_eq_true rfl) (fun v m3 h => ?_)
    obtain ⟨v4, rfl, h⟩ := h
    refine aw_eq (L' := [(0, .ref (ad 15)), (1, .int x1)]) (st' := [.int v4]) (m' := m3) ?_ rfl rfl rfl
    exact aw_ret (v := some (.int v4)) rfl (Or.inr (Or.inl ⟨_, .boolean, rfl, rfl, h.1.n, dX4_take_66⟩)) h.2
  by_cases c2 : (m.1 15 6) = 2
  · have h := h.2.2.1 c2
    refine aw_tswIn (tgt := 67) dX4_take_24 c2 (by decide) (by decide) (by first | rfl | decide) (by decide) ?_
    refine aw_aload_n (j := 0) dX4_take_67 rfl rfl ?_
    refine aw_getfield (c := 0) (v := .int (m.1 15 5)) dX4_take_68 f_X4_31 ly_15 rfl rfl ?_
    refine aw_aload_n (j := 0) dX4_take_71 rfl rfl ?_
    refine aw_getfield (c := 0) (v := .int (m.1 15 2)) dX4_take_72 f_X4_22 ly_15 rfl rfl ?_
    refine aw_icmp_ge (tgt := 89) dX4_take_75 (by decide) (fun hc => ?_) (fun hc => ?_)
    · have h := h.1 hc
      refine aw_aload_n (j := 0) dX4_take_89 rfl rfl ?_
      refine aw_iload_n (j := 1) dX4_take_90 rfl rfl ?_
      refine aw_callV (rest := []) [.int x1] dX4_take_91 ly_15 rfl k_X4_83 rfl h (Nat.le_of_ble_eq_true rfl) (fun v m5 h => ?_)
      obtain ⟨v6, rfl, h⟩ := h
      refine aw_eq (L' := [(0, .ref (ad 15)), (1, .int x1)]) (st' := [.int v6]) (m' := m5) ?_ rfl rfl rfl
      exact aw_ret (v := some (.int v6)) rfl (Or.inr (Or.inl ⟨_, .boolean, rfl, rfl, h.1.n, dX4_take_94⟩)) h.2
    · have h := h.2 hc
      refine aw_aload_n (j := 0) dX4_take_78 rfl rfl ?_
      refine aw_iload_n (j := 1) dX4_take_79 rfl rfl ?_
      refine aw_bipush (v := 48) dX4_take_80 (by decide) ?_
      refine aw_isub dX4_take_82 ?_
      refine aw_callV (rest := []) [.int (x1 - (48 : Int32))] dX4_take_83 ly_15 rfl k_X4_80 rfl h (Nat.le_of_ble_eq_true rfl) (fun v m7 h => ?_)
      obtain ⟨v8, rfl, h⟩ := h
      refine aw_eq (L' := [(0, .ref (ad 15)), (1, .int x1)]) (st' := [.int v8]) (m' := m7) ?_ rfl rfl rfl
      refine aw_goto (tgt := 94) dX4_take_86 (by decide) ?_
      exact aw_ret (v := some (.int v8)) rfl (Or.inr (Or.inl ⟨_, .boolean, rfl, rfl, h.1.n, dX4_take_94⟩)) h.2
  have h := h.2.2.2 c0 c1 c2
  refine aw_tswOut (tgt := 95) dX4_take_24 (by have e0 := i32_ne (n := 0) c0 (by decide); have e1 := i32_ne (n := 1) c1 (by decide); have e2 := i32_ne (n := 2) c2 (by decide); omega) (by decide) ?_
  refine aw_iconst (v := 0) dX4_take_95 (by decide) ?_
  exact aw_ret (v := some (.int (0 : Int32))) rfl (Or.inr (Or.inl ⟨_, .boolean, rfl, rfl, by decide, dX4_take_96⟩)) h
set_option maxRecDepth 100000 in
set_option maxHeartbeats 4000000 in
theorem v_X4_takeLine {ad : Nat → Nat} {d : Nat} {Q : Option Value → Wm → Prop} {m : Wm} {x1 : Int32} (h : ((¬ x1 = (119 : Int32) → ((((uI m 15 4 ((m.1 15 4) + (1 : Int32))).1 15 1) < (8 : Int32) → (Ct ad μX8_clearSide d [.ref (ad 16), .int (((uI (uI (uI m 15 4 ((m.1 15 4) + (1 : Int32))) 15 1 (((uI m 15 4 ((m.1 15 4) + (1 : Int32))).1 15 1) + (1 : Int32))) 15 5 (0 : Int32)).1 15 1) - (1 : Int32))] (uI (uI (uI m 15 4 ((m.1 15 4) + (1 : Int32))) 15 1 (((uI m 15 4 ((m.1 15 4) + (1 : Int32))).1 15 1) + (1 : Int32))) 15 5 (0 : Int32)) (fun r m1 => r = none ∧ (Ct ad μX4_takeSkill d [.ref (ad 15), .int (x1 - (48 : Int32))] (uI m1 15 6 (2 : Int32)) (fun r m2 => ∃ v3 : Int32, r = some (.int v3) ∧ (bz v3 ∧ Q (some (.int v3)) m2)))))) ∧ (¬ ((uI m 15 4 ((m.1 15 4) + (1 : Int32))).1 15 1) < (8 : Int32) → Q (some (.int (0 : Int32))) (uI m 15 4 ((m.1 15 4) + (1 : Int32)))))) ∧ (x1 = (119 : Int32) → Q (some (.int (1 : Int32))) (uI (uI m 15 4 ((m.1 15 4) + (1 : Int32))) 15 6 (1 : Int32))))) : Ct ad μX4_takeLine (d + 1) [.ref (ad 15), .int x1] m Q := by
  refine Ct.of (by decide +kernel) rfl (Nat.le_of_ble_eq_true rfl) ?_
  refine aw_eq (L' := [(0, .ref (ad 15)), (1, .int x1)]) ?_ rfl rfl rfl
  refine aw_aload_n (j := 0) dX4_takeLine_0 rfl rfl ?_
  refine aw_dup dX4_takeLine_1 rfl ?_
  refine aw_getfield (c := 0) (v := .int (m.1 15 4)) dX4_takeLine_2 f_X4_28 ly_15 rfl rfl ?_
  refine aw_iconst (v := 1) dX4_takeLine_5 (by decide) ?_
  refine aw_iadd dX4_takeLine_6 ?_
  refine aw_putI dX4_takeLine_7 f_X4_28 cl_X4 rfl ly_15 rfl rfl rfl ?_
  refine aw_iload_n (j := 1) dX4_takeLine_10 rfl rfl ?_
  refine aw_bipush (v := 119) dX4_takeLine_11 (by decide) ?_
  refine aw_icmp_ne (tgt := 23) dX4_takeLine_13 (by decide) (fun hc => ?_) (fun hc => ?_)
  · have h := h.1 hc
    refine aw_aload_n (j := 0) dX4_takeLine_23 rfl rfl ?_
    refine aw_getfield (c := 0) (v := .int ((uI m 15 4 ((m.1 15 4) + (1 : Int32))).1 15 1)) dX4_takeLine_24 f_X4_18 ly_15 rfl rfl ?_
    refine aw_bipush (v := 8) dX4_takeLine_27 (by decide) ?_
    refine aw_icmp_lt (tgt := 34) dX4_takeLine_29 (by decide) (fun hc => ?_) (fun hc => ?_)
    · have h := h.1 hc
      refine aw_aload_n (j := 0) dX4_takeLine_34 rfl rfl ?_
      refine aw_dup dX4_takeLine_35 rfl ?_
      refine aw_getfield (c := 0) (v := .int ((uI m 15 4 ((m.1 15 4) + (1 : Int32))).1 15 1)) dX4_takeLine_36 f_X4_18 ly_15 rfl rfl ?_
      refine aw_iconst (v := 1) dX4_takeLine_39 (by decide) ?_
      refine aw_iadd dX4_takeLine_40 ?_
      refine aw_putI dX4_takeLine_41 f_X4_18 cl_X4 rfl ly_15 rfl rfl rfl ?_
      refine aw_aload_n (j := 0) dX4_takeLine_44 rfl rfl ?_
      refine aw_iconst (v := 0) dX4_takeLine_45 (by decide) ?_
      refine aw_putI dX4_takeLine_46 f_X4_31 cl_X4 rfl ly_15 rfl rfl rfl ?_
      refine aw_aload_n (j := 0) dX4_takeLine_49 rfl rfl ?_
      refine aw_getfield (c := 19) (v := .ref (ad 16)) dX4_takeLine_50 f_X4_12 ly_15 rfl rfl ?_
      refine aw_aload_n (j := 0) dX4_takeLine_53 rfl rfl ?_
      refine aw_getfield (c := 0) (v := .int ((uI (uI (uI m 15 4 ((m.1 15 4) + (1 : Int32))) 15 1 (((uI m 15 4 ((m.1 15 4) + (1 : Int32))).1 15 1) + (1 : Int32))) 15 5 (0 : Int32)).1 15 1)) dX4_takeLine_54 f_X4_18 ly_15 rfl rfl ?_
      refine aw_iconst (v := 1) dX4_takeLine_57 (by decide) ?_
      refine aw_isub dX4_takeLine_58 ?_
      refine aw_callV (rest := []) [.int (((uI (uI (uI m 15 4 ((m.1 15 4) + (1 : Int32))) 15 1 (((uI m 15 4 ((m.1 15 4) + (1 : Int32))).1 15 1) + (1 : Int32))) 15 5 (0 : Int32)).1 15 1) - (1 : Int32))] dX4_takeLine_59 ly_16 rfl k_X4_86 rfl h (Nat.le_of_ble_eq_true rfl) (fun v m1 h => ?_)
      obtain ⟨rfl, h⟩ := h
      refine aw_eq (L' := [(0, .ref (ad 15)), (1, .int x1)]) (st' := []) (m' := m1) ?_ rfl rfl rfl
      refine aw_aload_n (j := 0) dX4_takeLine_62 rfl rfl ?_
      refine aw_iconst (v := 2) dX4_takeLine_63 (by decide) ?_
      refine aw_putI dX4_takeLine_64 f_X4_34 cl_X4 rfl ly_15 rfl rfl rfl ?_
      refine aw_aload_n (j := 0) dX4_takeLine_67 rfl rfl ?_
      refine aw_iload_n (j := 1) dX4_takeLine_68 rfl rfl ?_
      refine aw_bipush (v := 48) dX4_takeLine_69 (by decide) ?_
      refine aw_isub dX4_takeLine_71 ?_
      refine aw_callV (rest := []) [.int (x1 - (48 : Int32))] dX4_takeLine_72 ly_15 rfl k_X4_80 rfl h (Nat.le_of_ble_eq_true rfl) (fun v m2 h => ?_)
      obtain ⟨v3, rfl, h⟩ := h
      refine aw_eq (L' := [(0, .ref (ad 15)), (1, .int x1)]) (st' := [.int v3]) (m' := m2) ?_ rfl rfl rfl
      exact aw_ret (v := some (.int v3)) rfl (Or.inr (Or.inl ⟨_, .boolean, rfl, rfl, h.1.n, dX4_takeLine_75⟩)) h.2
    · have h := h.2 hc
      refine aw_iconst (v := 0) dX4_takeLine_32 (by decide) ?_
      exact aw_ret (v := some (.int (0 : Int32))) rfl (Or.inr (Or.inl ⟨_, .boolean, rfl, rfl, by decide, dX4_takeLine_33⟩)) h
  · have h := h.2 hc
    refine aw_aload_n (j := 0) dX4_takeLine_16 rfl rfl ?_
    refine aw_iconst (v := 1) dX4_takeLine_17 (by decide) ?_
    refine aw_putI dX4_takeLine_18 f_X4_34 cl_X4 rfl ly_15 rfl rfl rfl ?_
    refine aw_iconst (v := 1) dX4_takeLine_21 (by decide) ?_
    exact aw_ret (v := some (.int (1 : Int32))) rfl (Or.inr (Or.inl ⟨_, .boolean, rfl, rfl, by decide, dX4_takeLine_22⟩)) h
set_option maxRecDepth 100000 in
set_option maxHeartbeats 4000000 in
theorem v_X4_takeArts {ad : Nat → Nat} {d : Nat} {Q : Option Value → Wm → Prop} {m : Wm} {x1 : Int32} (h : ((x1 < (1 : Int32) → Q (some (.int (0 : Int32))) m) ∧ (¬ x1 < (1 : Int32) → ((x1 ≤ (4 : Int32) → AW ad E0 μX4_takeArts (d + 1) Q 14 [(0, .ref (ad 15)), (1, .int x1), (2, .int (0 : Int32))] [] m) ∧ (¬ x1 ≤ (4 : Int32) → Q (some (.int (0 : Int32))) m))))) : Ct ad μX4_takeArts (d + 1) [.ref (ad 15), .int x1] m Q := by
  refine Ct.of (by decide +kernel) rfl (Nat.le_of_ble_eq_true rfl) ?_
  refine aw_eq (L' := [(0, .ref (ad 15)), (1, .int x1)]) ?_ rfl rfl rfl
  refine aw_iload_n (j := 1) dX4_takeArts_0 rfl rfl ?_
  refine aw_iconst (v := 1) dX4_takeArts_1 (by decide) ?_
  refine aw_icmp_lt (tgt := 10) dX4_takeArts_2 (by decide) (fun hc => ?_) (fun hc => ?_)
  · have h := h.1 hc
    refine aw_iconst (v := 0) dX4_takeArts_10 (by decide) ?_
    exact aw_ret (v := some (.int (0 : Int32))) rfl (Or.inr (Or.inl ⟨_, .boolean, rfl, rfl, by decide, dX4_takeArts_11⟩)) h
  · have h := h.2 hc
    refine aw_iload_n (j := 1) dX4_takeArts_5 rfl rfl ?_
    refine aw_iconst (v := 4) dX4_takeArts_6 (by decide) ?_
    refine aw_icmp_le (tgt := 12) dX4_takeArts_7 (by decide) (fun hc => ?_) (fun hc => ?_)
    · have h := h.1 hc
      refine aw_iconst (v := 0) dX4_takeArts_12 (by decide) ?_
      refine aw_istore_n (L' := [(2, .int (0 : Int32)), (0, .ref (ad 15)), (1, .int x1)]) dX4_takeArts_13 rfl (by decide) rfl ?_
      exact aw_sub [1, 2, 0] rfl h
    · have h := h.2 hc
      refine aw_iconst (v := 0) dX4_takeArts_10 (by decide) ?_
      exact aw_ret (v := some (.int (0 : Int32))) rfl (Or.inr (Or.inl ⟨_, .boolean, rfl, rfl, by decide, dX4_takeArts_11⟩)) h
set_option maxRecDepth 100000 in
set_option maxHeartbeats 4000000 in
theorem g_X4_takeArts_14 {ad : Nat → Nat} {d : Nat} {Q : Option Value → Wm → Prop} {m : Wm} {x1 x2 : Int32} (h : (((8 : Int32) ≤ x2 → Q (some (.int (1 : Int32))) (uI (uI (uI (uI (uI m 15 3 (0 : Int32)) 15 1 (0 : Int32)) 15 2 x1) 15 7 (1 : Int32)) 15 6 (3 : Int32))) ∧ (¬ (8 : Int32) ≤ x2 → (Ct ad μX8_clearSide d [.ref (ad 16), .int x2] m (fun r m1 => r = none ∧ AW ad E0 μX4_takeArts (d + 1) Q 14 [(0, .ref (ad 15)), (1, .int x1), (2, .int (x2 + (1 : Int32)))] [] m1))))) : AW ad E0 μX4_takeArts (d + 1) Q 14 [(0, .ref (ad 15)), (1, .int x1), (2, .int x2)] [] m := by
  refine aw_iload_n (j := 2) dX4_takeArts_14 rfl rfl ?_
  refine aw_bipush (v := 8) dX4_takeArts_15 (by decide) ?_
  refine aw_icmp_ge (tgt := 34) dX4_takeArts_17 (by decide) (fun hc => ?_) (fun hc => ?_)
  · have h := h.1 hc
    refine aw_aload_n (j := 0) dX4_takeArts_34 rfl rfl ?_
    refine aw_iconst (v := 0) dX4_takeArts_35 (by decide) ?_
    refine aw_putI dX4_takeArts_36 f_X4_25 cl_X4 rfl ly_15 rfl rfl rfl ?_
    refine aw_aload_n (j := 0) dX4_takeArts_39 rfl rfl ?_
    refine aw_iconst (v := 0) dX4_takeArts_40 (by decide) ?_
    refine aw_putI dX4_takeArts_41 f_X4_18 cl_X4 rfl ly_15 rfl rfl rfl ?_
    refine aw_aload_n (j := 0) dX4_takeArts_44 rfl rfl ?_
    refine aw_iload_n (j := 1) dX4_takeArts_45 rfl rfl ?_
    refine aw_putI dX4_takeArts_46 f_X4_22 cl_X4 rfl ly_15 rfl rfl rfl ?_
    refine aw_aload_n (j := 0) dX4_takeArts_49 rfl rfl ?_
    refine aw_iconst (v := 1) dX4_takeArts_50 (by decide) ?_
    refine aw_putI dX4_takeArts_51 f_X4_37 cl_X4 rfl ly_15 rfl (by decide) (by decide) ?_
    refine aw_aload_n (j := 0) dX4_takeArts_54 rfl rfl ?_
    refine aw_iconst (v := 3) dX4_takeArts_55 (by decide) ?_
    refine aw_putI dX4_takeArts_56 f_X4_34 cl_X4 rfl ly_15 rfl rfl rfl ?_
    refine aw_iconst (v := 1) dX4_takeArts_59 (by decide) ?_
    exact aw_ret (v := some (.int (1 : Int32))) rfl (Or.inr (Or.inl ⟨_, .boolean, rfl, rfl, by decide, dX4_takeArts_60⟩)) h
  · have h := h.2 hc
    refine aw_aload_n (j := 0) dX4_takeArts_20 rfl rfl ?_
    refine aw_getfield (c := 19) (v := .ref (ad 16)) dX4_takeArts_21 f_X4_12 ly_15 rfl rfl ?_
    refine aw_iload_n (j := 2) dX4_takeArts_24 rfl rfl ?_
    refine aw_callV (rest := []) [.int x2] dX4_takeArts_25 ly_16 rfl k_X4_86 rfl h (Nat.le_of_ble_eq_true rfl) (fun v m1 h => ?_)
    obtain ⟨rfl, h⟩ := h
    refine aw_eq (L' := [(0, .ref (ad 15)), (1, .int x1), (2, .int x2)]) (st' := []) (m' := m1) ?_ rfl rfl rfl
    refine aw_iinc (j := 2) (v := x2 + (1 : Int32)) (L' := [(2, .int (x2 + (1 : Int32))), (0, .ref (ad 15)), (1, .int x1)]) dX4_takeArts_28 rfl rfl (by decide) rfl ?_
    refine aw_goto (tgt := 14) dX4_takeArts_31 (by decide) ?_
    exact aw_sub [1, 2, 0] rfl h
set_option maxRecDepth 100000 in
set_option maxHeartbeats 4000000 in
theorem v_X4_takeSkill {ad : Nat → Nat} {d : Nat} {Q : Option Value → Wm → Prop} {m : Wm} {x1 : Int32} (h : ((x1 < 0 → Q (some (.int (0 : Int32))) m) ∧ (¬ x1 < 0 → ((x1 ≤ (7 : Int32) → (Ct ad μX8_putSkill d [.ref (ad 16), .int ((m.1 15 1) - (1 : Int32)), .int (m.1 15 5), .int x1] m (fun r m1 => r = none ∧ Q (some (.int (1 : Int32))) (uI m1 15 5 ((m1.1 15 5) + (1 : Int32)))))) ∧ (¬ x1 ≤ (7 : Int32) → Q (some (.int (0 : Int32))) m))))) : Ct ad μX4_takeSkill (d + 1) [.ref (ad 15), .int x1] m Q := by
  refine Ct.of (by decide +kernel) rfl (Nat.le_of_ble_eq_true rfl) ?_
  refine aw_eq (L' := [(0, .ref (ad 15)), (1, .int x1)]) ?_ rfl rfl rfl
  refine aw_iload_n (j := 1) dX4_takeSkill_0 rfl rfl ?_
  refine aw_if_lt (tgt := 10) dX4_takeSkill_1 (by decide) (fun hc => ?_) (fun hc => ?_)
  · have h := h.1 hc
    refine aw_iconst (v := 0) dX4_takeSkill_10 (by decide) ?_
    exact aw_ret (v := some (.int (0 : Int32))) rfl (Or.inr (Or.inl ⟨_, .boolean, rfl, rfl, by decide, dX4_takeSkill_11⟩)) h
  · have h := h.2 hc
    refine aw_iload_n (j := 1) dX4_takeSkill_4 rfl rfl ?_
    refine aw_bipush (v := 7) dX4_takeSkill_5 (by decide) ?_
    refine aw_icmp_le (tgt := 12) dX4_takeSkill_7 (by decide) (fun hc => ?_) (fun hc => ?_)
    · have h := h.1 hc
      refine aw_aload_n (j := 0) dX4_takeSkill_12 rfl rfl ?_
      refine aw_getfield (c := 19) (v := .ref (ad 16)) dX4_takeSkill_13 f_X4_12 ly_15 rfl rfl ?_
      refine aw_aload_n (j := 0) dX4_takeSkill_16 rfl rfl ?_
      refine aw_getfield (c := 0) (v := .int (m.1 15 1)) dX4_takeSkill_17 f_X4_18 ly_15 rfl rfl ?_
      refine aw_iconst (v := 1) dX4_takeSkill_20 (by decide) ?_
      refine aw_isub dX4_takeSkill_21 ?_
      refine aw_aload_n (j := 0) dX4_takeSkill_22 rfl rfl ?_
      refine aw_getfield (c := 0) (v := .int (m.1 15 5)) dX4_takeSkill_23 f_X4_31 ly_15 rfl rfl ?_
      refine aw_iload_n (j := 1) dX4_takeSkill_26 rfl rfl ?_
      refine aw_callV (rest := []) [.int ((m.1 15 1) - (1 : Int32)), .int (m.1 15 5), .int x1] dX4_takeSkill_27 ly_16 rfl k_X4_90 rfl h (Nat.le_of_ble_eq_true rfl) (fun v m1 h => ?_)
      obtain ⟨rfl, h⟩ := h
      refine aw_eq (L' := [(0, .ref (ad 15)), (1, .int x1)]) (st' := []) (m' := m1) ?_ rfl rfl rfl
      refine aw_aload_n (j := 0) dX4_takeSkill_30 rfl rfl ?_
      refine aw_dup dX4_takeSkill_31 rfl ?_
      refine aw_getfield (c := 0) (v := .int (m1.1 15 5)) dX4_takeSkill_32 f_X4_31 ly_15 rfl rfl ?_
      refine aw_iconst (v := 1) dX4_takeSkill_35 (by decide) ?_
      refine aw_iadd dX4_takeSkill_36 ?_
      refine aw_putI dX4_takeSkill_37 f_X4_31 cl_X4 rfl ly_15 rfl rfl rfl ?_
      refine aw_iconst (v := 1) dX4_takeSkill_40 (by decide) ?_
      exact aw_ret (v := some (.int (1 : Int32))) rfl (Or.inr (Or.inl ⟨_, .boolean, rfl, rfl, by decide, dX4_takeSkill_41⟩)) h
    · have h := h.2 hc
      refine aw_iconst (v := 0) dX4_takeSkill_10 (by decide) ?_
      exact aw_ret (v := some (.int (0 : Int32))) rfl (Or.inr (Or.inl ⟨_, .boolean, rfl, rfl, by decide, dX4_takeSkill_11⟩)) h
set_option maxRecDepth 100000 in
set_option maxHeartbeats 4000000 in
theorem v_X4_takeIll {ad : Nat → Nat} {d : Nat} {Q : Option Value → Wm → Prop} {m : Wm} {x1 : Int32} (h : ((¬ x1 = (33 : Int32) → Q (some (.int (0 : Int32))) m) ∧ (x1 = (33 : Int32) → ((¬ (m.1 15 1) = 0 → Q (some (.int (1 : Int32))) (uI (uI m 15 3 ((m.1 15 3) ||| ((1 : Int32) <<< (((m.1 15 1) - (1 : Int32)) &&& 31)))) 15 6 (3 : Int32))) ∧ ((m.1 15 1) = 0 → Q (some (.int (0 : Int32))) m))))) : Ct ad μX4_takeIll d [.ref (ad 15), .int x1] m Q := by
  refine Ct.of (by decide +kernel) rfl (Nat.le_of_ble_eq_true rfl) ?_
  refine aw_eq (L' := [(0, .ref (ad 15)), (1, .int x1)]) ?_ rfl rfl rfl
  refine aw_iload_n (j := 1) dX4_takeIll_0 rfl rfl ?_
  refine aw_bipush (v := 33) dX4_takeIll_1 (by decide) ?_
  refine aw_icmp_ne (tgt := 13) dX4_takeIll_3 (by decide) (fun hc => ?_) (fun hc => ?_)
  · have h := h.1 hc
    refine aw_iconst (v := 0) dX4_takeIll_13 (by decide) ?_
    exact aw_ret (v := some (.int (0 : Int32))) rfl (Or.inr (Or.inl ⟨_, .boolean, rfl, rfl, by decide, dX4_takeIll_14⟩)) h
  · have h := h.2 hc
    refine aw_aload_n (j := 0) dX4_takeIll_6 rfl rfl ?_
    refine aw_getfield (c := 0) (v := .int (m.1 15 1)) dX4_takeIll_7 f_X4_18 ly_15 rfl rfl ?_
    refine aw_if_ne (tgt := 15) dX4_takeIll_10 (by decide) (fun hc => ?_) (fun hc => ?_)
    · have h := h.1 hc
      refine aw_aload_n (j := 0) dX4_takeIll_15 rfl rfl ?_
      refine aw_dup dX4_takeIll_16 rfl ?_
      refine aw_getfield (c := 0) (v := .int (m.1 15 3)) dX4_takeIll_17 f_X4_25 ly_15 rfl rfl ?_
      refine aw_iconst (v := 1) dX4_takeIll_20 (by decide) ?_
      refine aw_aload_n (j := 0) dX4_takeIll_21 rfl rfl ?_
      refine aw_getfield (c := 0) (v := .int (m.1 15 1)) dX4_takeIll_22 f_X4_18 ly_15 rfl rfl ?_
      refine aw_iconst (v := 1) dX4_takeIll_25 (by decide) ?_
      refine aw_isub dX4_takeIll_26 ?_
      refine aw_ishl dX4_takeIll_27 ?_
      refine aw_ior dX4_takeIll_28 ?_
      refine aw_putI dX4_takeIll_29 f_X4_25 cl_X4 rfl ly_15 rfl rfl rfl ?_
      refine aw_aload_n (j := 0) dX4_takeIll_32 rfl rfl ?_
      refine aw_iconst (v := 3) dX4_takeIll_33 (by decide) ?_
      refine aw_putI dX4_takeIll_34 f_X4_34 cl_X4 rfl ly_15 rfl rfl rfl ?_
      refine aw_iconst (v := 1) dX4_takeIll_37 (by decide) ?_
      exact aw_ret (v := some (.int (1 : Int32))) rfl (Or.inr (Or.inl ⟨_, .boolean, rfl, rfl, by decide, dX4_takeIll_38⟩)) h
    · have h := h.2 hc
      refine aw_iconst (v := 0) dX4_takeIll_13 (by decide) ?_
      exact aw_ret (v := some (.int (0 : Int32))) rfl (Or.inr (Or.inl ⟨_, .boolean, rfl, rfl, by decide, dX4_takeIll_14⟩)) h
set_option maxRecDepth 100000 in
set_option maxHeartbeats 4000000 in
theorem v_X5_compile {ad : Nat → Nat} {d : Nat} {Q : Option Value → Wm → Prop} {m : Wm} {b0 : Nat} (hb0 : Ru b0) (h : ((¬ ((uI (uI (uI (uI (uI (uI m b0 4 (0 : Int32)) b0 5 (0 : Int32)) b0 6 (0 : Int32)) b0 7 (0 : Int32)) b0 8 (1 : Int32)) (b0 + 4) (0 : Int32).toNatClampNeg (vp_nar .boolean (0 : Int32))).1 1 1) = 0 → AW ad E0 μX5_compile (d + 1) Q 53 [(0, .ref (ad b0)), (1, .ref (ad 1)), (2, .int (if (40 : Int32) < ((uI (uI (uI (uI (uI (uI m b0 4 (0 : Int32)) b0 5 (0 : Int32)) b0 6 (0 : Int32)) b0 7 (0 : Int32)) b0 8 (1 : Int32)) (b0 + 4) (0 : Int32).toNatClampNeg (vp_nar .boolean (0 : Int32))).1 1 1) then (40 : Int32) else ((uI (uI (uI (uI (uI (uI m b0 4 (0 : Int32)) b0 5 (0 : Int32)) b0 6 (0 : Int32)) b0 7 (0 : Int32)) b0 8 (1 : Int32)) (b0 + 4) (0 : Int32).toNatClampNeg (vp_nar .boolean (0 : Int32))).1 1 1))), (3, .int (0 : Int32))] [] (uI (uI (uI (uI (uI (uI m b0 4 (0 : Int32)) b0 5 (0 : Int32)) b0 6 (0 : Int32)) b0 7 (0 : Int32)) b0 8 (1 : Int32)) (b0 + 4) (0 : Int32).toNatClampNeg (vp_nar .boolean (0 : Int32)))) ∧ (((uI (uI (uI (uI (uI (uI m b0 4 (0 : Int32)) b0 5 (0 : Int32)) b0 6 (0 : Int32)) b0 7 (0 : Int32)) b0 8 (1 : Int32)) (b0 + 4) (0 : Int32).toNatClampNeg (vp_nar .boolean (0 : Int32))).1 1 1) = 0 → Q (some (.int (-1 : Int32))) (uI (uI (uI (uI (uI (uI m b0 4 (0 : Int32)) b0 5 (0 : Int32)) b0 6 (0 : Int32)) b0 7 (0 : Int32)) b0 8 (1 : Int32)) (b0 + 4) (0 : Int32).toNatClampNeg (vp_nar .boolean (0 : Int32)))))) : Ct ad μX5_compile (d + 1) [.ref (ad b0), .ref (ad 1)] m Q := by
  refine Ct.of (by decide +kernel) rfl (Nat.le_of_ble_eq_true rfl) ?_
  refine aw_eq (L' := [(0, .ref (ad b0)), (1, .ref (ad 1))]) ?_ rfl rfl rfl
  refine aw_aload_n (j := 0) dX5_compile_0 rfl rfl ?_
  refine aw_iconst (v := 0) dX5_compile_1 (by decide) ?_
  refine aw_putI dX5_compile_2 f_X5_25 cl_X5 rfl hb0.1 rfl rfl rfl ?_
  refine aw_aload_n (j := 0) dX5_compile_5 rfl rfl ?_
  refine aw_iconst (v := 0) dX5_compile_6 (by decide) ?_
  refine aw_putI dX5_compile_7 f_X5_29 cl_X5 rfl hb0.1 rfl rfl rfl ?_
  refine aw_aload_n (j := 0) dX5_compile_10 rfl rfl ?_
  refine aw_iconst (v := 0) dX5_compile_11 (by decide) ?_
  refine aw_putI dX5_compile_12 f_X5_32 cl_X5 rfl hb0.1 rfl rfl rfl ?_
  refine aw_aload_n (j := 0) dX5_compile_15 rfl rfl ?_
  refine aw_iconst (v := 0) dX5_compile_16 (by decide) ?_
  refine aw_putI dX5_compile_17 f_X5_35 cl_X5 rfl hb0.1 rfl rfl rfl ?_
  refine aw_aload_n (j := 0) dX5_compile_20 rfl rfl ?_
  refine aw_iconst (v := 1) dX5_compile_21 (by decide) ?_
  refine aw_putI dX5_compile_22 f_X5_38 cl_X5 rfl hb0.1 rfl (by decide) (by decide) ?_
  refine aw_aload_n (j := 0) dX5_compile_25 rfl rfl ?_
  refine aw_getfield (c := b0 + 4 + 3) (v := .ref (ad (b0 + 4))) dX5_compile_26 f_X5_21 hb0.1 rfl rfl ?_
  refine aw_iconst (v := 0) dX5_compile_29 (by decide) ?_
  refine aw_iconst (v := 0) dX5_compile_30 (by decide) ?_
  refine aw_zastore dX5_compile_31 hb0.2.2.2.2 (by unfold vp_in; decide) ?_
  refine aw_aload_n (j := 1) dX5_compile_32 rfl rfl ?_
  refine aw_getfield (c := 0) (v := .int ((uI (uI (uI (uI (uI (uI m b0 4 (0 : Int32)) b0 5 (0 : Int32)) b0 6 (0 : Int32)) b0 7 (0 : Int32)) b0 8 (1 : Int32)) (b0 + 4) (0 : Int32).toNatClampNeg (vp_nar .boolean (0 : Int32))).1 1 1)) dX5_compile_33 f_X5_42 ly_1 rfl rfl ?_
  refine aw_if_ne (tgt := 41) dX5_compile_36 (by decide) (fun hc => ?_) (fun hc => ?_)
  · have h := h.1 hc
    refine aw_aload_n (j := 1) dX5_compile_41 rfl rfl ?_
    refine aw_getfield (c := 0) (v := .int ((uI (uI (uI (uI (uI (uI m b0 4 (0 : Int32)) b0 5 (0 : Int32)) b0 6 (0 : Int32)) b0 7 (0 : Int32)) b0 8 (1 : Int32)) (b0 + 4) (0 : Int32).toNatClampNeg (vp_nar .boolean (0 : Int32))).1 1 1)) dX5_compile_42 f_X5_42 ly_1 rfl rfl ?_
    refine aw_bipush (v := 40) dX5_compile_45 (by decide) ?_
    refine aw_min dX5_compile_47 k_X5_45 (Nat.le_of_ble_eq_true rfl) ?_
    refine aw_istore_n (L' := [(2, .int (if (40 : Int32) < ((uI (uI (uI (uI (uI (uI m b0 4 (0 : Int32)) b0 5 (0 : Int32)) b0 6 (0 : Int32)) b0 7 (0 : Int32)) b0 8 (1 : Int32)) (b0 + 4) (0 : Int32).toNatClampNeg (vp_nar .boolean (0 : Int32))).1 1 1) then (40 : Int32) else ((uI (uI (uI (uI (uI (uI m b0 4 (0 : Int32)) b0 5 (0 : Int32)) b0 6 (0 : Int32)) b0 7 (0 : Int32)) b0 8 (1 : Int32)) (b0 + 4) (0 : Int32).toNatClampNeg (vp_nar .boolean (0 : Int32))).1 1 1))), (0, .ref (ad b0)), (1, .ref (ad 1))]) dX5_compile_50 rfl (by decide) rfl ?_
    refine aw_iconst (v := 0) dX5_compile_51 (by decide) ?_
    refine aw_istore_n (L' := [(3, .int (0 : Int32)), (2, .int (if (40 : Int32) < ((uI (uI (uI (uI (uI (uI m b0 4 (0 : Int32)) b0 5 (0 : Int32)) b0 6 (0 : Int32)) b0 7 (0 : Int32)) b0 8 (1 : Int32)) (b0 + 4) (0 : Int32).toNatClampNeg (vp_nar .boolean (0 : Int32))).1 1 1) then (40 : Int32) else ((uI (uI (uI (uI (uI (uI m b0 4 (0 : Int32)) b0 5 (0 : Int32)) b0 6 (0 : Int32)) b0 7 (0 : Int32)) b0 8 (1 : Int32)) (b0 + 4) (0 : Int32).toNatClampNeg (vp_nar .boolean (0 : Int32))).1 1 1))), (0, .ref (ad b0)), (1, .ref (ad 1))]) dX5_compile_52 rfl (by decide) rfl ?_
    exact aw_sub [2, 3, 1, 0] rfl h
  · have h := h.2 hc
    refine aw_iconst (v := -1) dX5_compile_39 (by decide) ?_
    exact aw_ret (v := some (.int (-1 : Int32))) rfl (Or.inr (Or.inl ⟨_, .int, rfl, rfl, rfl, dX5_compile_40⟩)) h
set_option maxRecDepth 100000 in
set_option maxHeartbeats 4000000 in
theorem g_X5_compile_53 {ad : Nat → Nat} {d : Nat} {Q : Option Value → Wm → Prop} {m : Wm} {b0 : Nat} {x2 x3 : Int32} (hb0 : Ru b0) (h : ((x2 ≤ x3 → (((40 : Int32) < (m.1 1 1) → Q (some (.int x2)) m) ∧ (¬ (40 : Int32) < (m.1 1 1) → ((¬ (m.1 b0 8) = 0 → Q (some (.int x2)) m) ∧ ((m.1 b0 8) = 0 → (((m.1 b0 6) ≤ 0 → (Ct ad μX5_release d [.ref (ad b0), .int (1 : Int32)] m (fun r m1 => r = none ∧ Q (some (.int (-1 : Int32))) m1))) ∧ (¬ (m.1 b0 6) ≤ 0 → Q (some (.int x2)) m))))))) ∧ (¬ x2 ≤ x3 → (vp_in x3 80 ∧ (Ct ad μX5_take d [.ref (ad b0), .int (m.1 2 x3.toNatClampNeg)] m (fun r m2 => ∃ v3 : Int32, r = some (.int v3) ∧ ((¬ v3 = 0 → AW ad E0 μX5_compile (d + 1) Q 53 [(0, .ref (ad b0)), (1, .ref (ad 1)), (2, .int x2), (3, .int (x3 + (1 : Int32)))] [] m2) ∧ (v3 = 0 → Q (some (.int x3)) m2)))))))) : AW ad E0 μX5_compile (d + 1) Q 53 [(0, .ref (ad b0)), (1, .ref (ad 1)), (2, .int x2), (3, .int x3)] [] m := by
  refine aw_iload_n (j := 3) dX5_compile_53 rfl rfl ?_
  refine aw_iload_n (j := 2) dX5_compile_54 rfl rfl ?_
  refine aw_icmp_ge (tgt := 79) dX5_compile_55 (by decide) (fun hc => ?_) (fun hc => ?_)
  · have h := h.1 hc
    refine aw_aload_n (j := 1) dX5_compile_79 rfl rfl ?_
    refine aw_getfield (c := 0) (v := .int (m.1 1 1)) dX5_compile_80 f_X5_42 ly_1 rfl rfl ?_
    refine aw_bipush (v := 40) dX5_compile_83 (by decide) ?_
    refine aw_icmp_gt (tgt := 102) dX5_compile_85 (by decide) (fun hc => ?_) (fun hc => ?_)
    · have h := h.1 hc
      refine aw_iload_n (j := 2) dX5_compile_102 rfl rfl ?_
      exact aw_ret (v := some (.int x2)) rfl (Or.inr (Or.inl ⟨_, .int, rfl, rfl, rfl, dX5_compile_103⟩)) h
    · have h := h.2 hc
      refine aw_aload_n (j := 0) dX5_compile_88 rfl rfl ?_
      refine aw_getfield (c := 0) (v := .int (m.1 b0 8)) dX5_compile_89 f_X5_38 hb0.1 rfl rfl ?_
      refine aw_if_ne (tgt := 102) dX5_compile_92 (by decide) (fun hc => ?_) (fun hc => ?_)
      · have h := h.1 hc
        refine aw_iload_n (j := 2) dX5_compile_102 rfl rfl ?_
        exact aw_ret (v := some (.int x2)) rfl (Or.inr (Or.inl ⟨_, .int, rfl, rfl, rfl, dX5_compile_103⟩)) h
      · have h := h.2 hc
        refine aw_aload_n (j := 0) dX5_compile_95 rfl rfl ?_
        refine aw_getfield (c := 0) (v := .int (m.1 b0 6)) dX5_compile_96 f_X5_32 hb0.1 rfl rfl ?_
        refine aw_if_le (tgt := 104) dX5_compile_99 (by decide) (fun hc => ?_) (fun hc => ?_)
        · have h := h.1 hc
          refine aw_aload_n (j := 0) dX5_compile_104 rfl rfl ?_
          refine aw_iconst (v := 1) dX5_compile_105 (by decide) ?_
          refine aw_callV (rest := []) [.int (1 : Int32)] dX5_compile_106 hb0.1 rfl k_X5_59 rfl h (Nat.le_of_ble_eq_true rfl) (fun v m1 h => ?_)
          obtain ⟨rfl, h⟩ := h
          refine aw_eq (L' := [(0, .ref (ad b0)), (1, .ref (ad 1)), (2, .int x2), (3, .int x3)]) (st' := []) (m' := m1) ?_ rfl rfl rfl
          refine aw_iconst (v := -1) dX5_compile_109 (by decide) ?_
          exact aw_ret (v := some (.int (-1 : Int32))) rfl (Or.inr (Or.inl ⟨_, .int, rfl, rfl, rfl, dX5_compile_110⟩)) h
        · have h := h.2 hc
          refine aw_iload_n (j := 2) dX5_compile_102 rfl rfl ?_
          exact aw_ret (v := some (.int x2)) rfl (Or.inr (Or.inl ⟨_, .int, rfl, rfl, rfl, dX5_compile_103⟩)) h
  · have h := h.2 hc
    refine aw_aload_n (j := 0) dX5_compile_58 rfl rfl ?_
    refine aw_aload_n (j := 1) dX5_compile_59 rfl rfl ?_
    refine aw_getfield (c := 5) (v := .ref (ad 2)) dX5_compile_60 f_X5_51 ly_1 rfl rfl ?_
    refine aw_iload_n (j := 3) dX5_compile_63 rfl rfl ?_
    obtain ⟨hi, h⟩ := h
    refine aw_caload dX5_compile_64 ly_2 hi ?_
    refine aw_callV (rest := []) [.int (m.1 2 x3.toNatClampNeg)] dX5_compile_65 hb0.1 rfl k_X5_55 rfl h (Nat.le_of_ble_eq_true rfl) (fun v m2 h => ?_)
    obtain ⟨v3, rfl, h⟩ := h
    refine aw_eq (L' := [(0, .ref (ad b0)), (1, .ref (ad 1)), (2, .int x2), (3, .int x3)]) (st' := [.int v3]) (m' := m2) ?_ rfl rfl rfl
    refine aw_if_ne (tgt := 73) dX5_compile_68 (by decide) (fun hc => ?_) (fun hc => ?_)
    · have h := h.1 hc
      refine aw_iinc (j := 3) (v := x3 + (1 : Int32)) (L' := [(3, .int (x3 + (1 : Int32))), (0, .ref (ad b0)), (1, .ref (ad 1)), (2, .int x2)]) dX5_compile_73 rfl rfl (by decide) rfl ?_
      refine aw_goto (tgt := 53) dX5_compile_76 (by decide) ?_
      exact aw_sub [1, 2, 3, 0] rfl h
    · have h := h.2 hc
      refine aw_iload_n (j := 3) dX5_compile_71 rfl rfl ?_
      exact aw_ret (v := some (.int x3)) rfl (Or.inr (Or.inl ⟨_, .int, rfl, rfl, rfl, dX5_compile_72⟩)) h
set_option maxRecDepth 100000 in
set_option maxHeartbeats 4000000 in
theorem v_X5_take {ad : Nat → Nat} {d : Nat} {Q : Option Value → Wm → Prop} {m : Wm} {b0 : Nat} {x1 : Int32} (hb0 : Ru b0) (h : ((x1 < (48 : Int32) → AW ad E0 μX5_take (d + 1) Q 21 [(0, .ref (ad b0)), (1, .int x1)] [] m) ∧ (¬ x1 < (48 : Int32) → (((57 : Int32) < x1 → AW ad E0 μX5_take (d + 1) Q 21 [(0, .ref (ad b0)), (1, .int x1)] [] m) ∧ (¬ (57 : Int32) < x1 → (Ct ad μX5_takeDigit d [.ref (ad b0), .int (x1 - (48 : Int32))] m (fun r m1 => ∃ v2 : Int32, r = some (.int v2) ∧ (bz v2 ∧ Q (some (.int v2)) m1)))))))) : Ct ad μX5_take (d + 1) [.ref (ad b0), .int x1] m Q := by
  refine Ct.of (by decide +kernel) rfl (Nat.le_of_ble_eq_true rfl) ?_
  refine aw_eq (L' := [(0, .ref (ad b0)), (1, .int x1)]) ?_ rfl rfl rfl
  refine aw_iload_n (j := 1) dX5_take_0 rfl rfl ?_
  refine aw_bipush (v := 48) dX5_take_1 (by decide) ?_
  refine aw_icmp_lt (tgt := 21) dX5_take_3 (by decide) (fun hc => ?_) (fun hc => ?_)
  · have h := h.1 hc
    exact aw_sub [0, 1] rfl h
  · have h := h.2 hc
    refine aw_iload_n (j := 1) dX5_take_6 rfl rfl ?_
    refine aw_bipush (v := 57) dX5_take_7 (by decide) ?_
    refine aw_icmp_gt (tgt := 21) dX5_take_9 (by decide) (fun hc => ?_) (fun hc => ?_)
    · have h := h.1 hc
      exact aw_sub [0, 1] rfl h
    · have h := h.2 hc
      refine aw_aload_n (j := 0) dX5_take_12 rfl rfl ?_
      refine aw_iload_n (j := 1) dX5_take_13 rfl rfl ?_
      refine aw_bipush (v := 48) dX5_take_14 (by decide) ?_
      refine aw_isub dX5_take_16 ?_
      refine aw_callV (rest := []) [.int (x1 - (48 : Int32))] dX5_take_17 hb0.1 rfl k_X5_63 rfl h (Nat.le_of_ble_eq_true rfl) (fun v m1 h => ?_)
      obtain ⟨v2, rfl, h⟩ := h
      refine aw_eq (L' := [(0, .ref (ad b0)), (1, .int x1)]) (st' := [.int v2]) (m' := m1) ?_ rfl rfl rfl
      exact aw_ret (v := some (.int v2)) rfl (Or.inr (Or.inl ⟨_, .boolean, rfl, rfl, h.1.n, dX5_take_20⟩)) h.2
set_option maxRecDepth 100000 in
set_option maxHeartbeats 4000000 in
theorem g_X5_take_21 {ad : Nat → Nat} {d : Nat} {Q : Option Value → Wm → Prop} {m : Wm} {b0 : Nat} {x1 : Int32} (hb0 : Ru b0) (h : ((((uI m b0 7 (0 : Int32)).1 b0 8) = 0 → (Ct ad μX5_takeJoin d [.ref (ad b0), .int x1] (uI m b0 7 (0 : Int32)) (fun r m1 => ∃ v2 : Int32, r = some (.int v2) ∧ (bz v2 ∧ Q (some (.int v2)) m1)))) ∧ (¬ ((uI m b0 7 (0 : Int32)).1 b0 8) = 0 → (Ct ad μX5_takeThing d [.ref (ad b0), .int x1] (uI m b0 7 (0 : Int32)) (fun r m3 => ∃ v4 : Int32, r = some (.int v4) ∧ (bz v4 ∧ Q (some (.int v4)) m3)))))) : AW ad E0 μX5_take (d + 1) Q 21 [(0, .ref (ad b0)), (1, .int x1)] [] m := by
  refine aw_aload_n (j := 0) dX5_take_21 rfl rfl ?_
  refine aw_iconst (v := 0) dX5_take_22 (by decide) ?_
  refine aw_putI dX5_take_23 f_X5_35 cl_X5 rfl hb0.1 rfl rfl rfl ?_
  refine aw_aload_n (j := 0) dX5_take_26 rfl rfl ?_
  refine aw_getfield (c := 0) (v := .int ((uI m b0 7 (0 : Int32)).1 b0 8)) dX5_take_27 f_X5_38 hb0.1 rfl rfl ?_
  refine aw_if_eq (tgt := 41) dX5_take_30 (by decide) (fun hc => ?_) (fun hc => ?_)
  · have h := h.1 hc
    refine aw_aload_n (j := 0) dX5_take_41 rfl rfl ?_
    refine aw_iload_n (j := 1) dX5_take_42 rfl rfl ?_
    refine aw_callV (rest := []) [.int x1] dX5_take_43 hb0.1 rfl k_X5_70 rfl h (Nat.le_of_ble_eq_true rfl) (fun v m1 h => ?_)
    obtain ⟨v2, rfl, h⟩ := h
    refine aw_eq (L' := [(0, .ref (ad b0)), (1, .int x1)]) (st' := [.int v2]) (m' := m1) ?_ rfl rfl rfl
    exact aw_ret (v := some (.int v2)) rfl (Or.inr (Or.inl ⟨_, .boolean, rfl, rfl, h.1.n, dX5_take_46⟩)) h.2
  · have h := h.2 hc
    refine aw_aload_n (j := 0) dX5_take_33 rfl rfl ?_
    refine aw_iload_n (j := 1) dX5_take_34 rfl rfl ?_
    refine aw_callV (rest := []) [.int x1] dX5_take_35 hb0.1 rfl k_X5_67 rfl h (Nat.le_of_ble_eq_true rfl) (fun v m3 h => ?_)
    obtain ⟨v4, rfl, h⟩ := h
    refine aw_eq (L' := [(0, .ref (ad b0)), (1, .int x1)]) (st' := [.int v4]) (m' := m3) ?_ rfl rfl rfl
    refine aw_goto (tgt := 46) dX5_take_38 (by decide) ?_
    exact aw_ret (v := some (.int v4)) rfl (Or.inr (Or.inl ⟨_, .boolean, rfl, rfl, h.1.n, dX5_take_46⟩)) h.2
set_option maxRecDepth 100000 in
set_option maxHeartbeats 4000000 in
theorem v_X5_takeDigit {ad : Nat → Nat} {d : Nat} {Q : Option Value → Wm → Prop} {m : Wm} {b0 : Nat} {x1 : Int32} (hb0 : Ru b0) (h : (((m.1 b0 8) = 0 → (((m.1 b0 7) = 0 → Q (some (.int (0 : Int32))) m) ∧ (¬ (m.1 b0 7) = 0 → (((m.1 b0 7) = (3 : Int32) → Q (some (.int (0 : Int32))) m) ∧ (¬ (m.1 b0 7) = (3 : Int32) → ((¬ (m.1 b0 4) = 0 → (vp_in ((m.1 b0 4) - (1 : Int32)) 40 ∧ (vp_in ((m.1 b0 4) - (1 : Int32)) 40 ∧ Q (some (.int (1 : Int32))) (uI (uI m (b0 + 1) ((m.1 b0 4) - (1 : Int32)).toNatClampNeg (((m.1 (b0 + 1) ((m.1 b0 4) - (1 : Int32)).toNatClampNeg) * (10 : Int32)) + x1)) b0 7 (((uI m (b0 + 1) ((m.1 b0 4) - (1 : Int32)).toNatClampNeg (((m.1 (b0 + 1) ((m.1 b0 4) - (1 : Int32)).toNatClampNeg) * (10 : Int32)) + x1)).1 b0 7) + (1 : Int32)))))) ∧ ((m.1 b0 4) = 0 → Q (some (.int (0 : Int32))) m))))))) ∧ (¬ (m.1 b0 8) = 0 → (Ct ad μX5_emit d [.ref (ad b0), .int x1] m (fun r m1 => r = none ∧ Q (some (.int (1 : Int32))) (uI (uI m1 b0 7 (1 : Int32)) b0 8 (0 : Int32))))))) : Ct ad μX5_takeDigit (d + 1) [.ref (ad b0), .int x1] m Q := by
  refine Ct.of (by decide +kernel) rfl (Nat.le_of_ble_eq_true rfl) ?_
  refine aw_eq (L' := [(0, .ref (ad b0)), (1, .int x1)]) ?_ rfl rfl rfl
  refine aw_aload_n (j := 0) dX5_takeDigit_0 rfl rfl ?_
  refine aw_getfield (c := 0) (v := .int (m.1 b0 8)) dX5_takeDigit_1 f_X5_38 hb0.1 rfl rfl ?_
  refine aw_if_eq (tgt := 24) dX5_takeDigit_4 (by decide) (fun hc => ?_) (fun hc => ?_)
  · have h := h.1 hc
    refine aw_aload_n (j := 0) dX5_takeDigit_24 rfl rfl ?_
    refine aw_getfield (c := 0) (v := .int (m.1 b0 7)) dX5_takeDigit_25 f_X5_35 hb0.1 rfl rfl ?_
    refine aw_if_eq (tgt := 46) dX5_takeDigit_28 (by decide) (fun hc => ?_) (fun hc => ?_)
    · have h := h.1 hc
      refine aw_iconst (v := 0) dX5_takeDigit_46 (by decide) ?_
      exact aw_ret (v := some (.int (0 : Int32))) rfl (Or.inr (Or.inl ⟨_, .boolean, rfl, rfl, by decide, dX5_takeDigit_47⟩)) h
    · have h := h.2 hc
      refine aw_aload_n (j := 0) dX5_takeDigit_31 rfl rfl ?_
      refine aw_getfield (c := 0) (v := .int (m.1 b0 7)) dX5_takeDigit_32 f_X5_35 hb0.1 rfl rfl ?_
      refine aw_iconst (v := 3) dX5_takeDigit_35 (by decide) ?_
      refine aw_icmp_eq (tgt := 46) dX5_takeDigit_36 (by decide) (fun hc => ?_) (fun hc => ?_)
      · have h := h.1 hc
        refine aw_iconst (v := 0) dX5_takeDigit_46 (by decide) ?_
        exact aw_ret (v := some (.int (0 : Int32))) rfl (Or.inr (Or.inl ⟨_, .boolean, rfl, rfl, by decide, dX5_takeDigit_47⟩)) h
      · have h := h.2 hc
        refine aw_aload_n (j := 0) dX5_takeDigit_39 rfl rfl ?_
        refine aw_getfield (c := 0) (v := .int (m.1 b0 4)) dX5_takeDigit_40 f_X5_25 hb0.1 rfl rfl ?_
        refine aw_if_ne (tgt := 48) dX5_takeDigit_43 (by decide) (fun hc => ?_) (fun hc => ?_)
        · have h := h.1 hc
          refine aw_aload_n (j := 0) dX5_takeDigit_48 rfl rfl ?_
          refine aw_getfield (c := b0 + 1 + 3) (v := .ref (ad (b0 + 1))) dX5_takeDigit_49 f_X5_11 hb0.1 rfl rfl ?_
          refine aw_aload_n (j := 0) dX5_takeDigit_52 rfl rfl ?_
          refine aw_getfield (c := 0) (v := .int (m.1 b0 4)) dX5_takeDigit_53 f_X5_25 hb0.1 rfl rfl ?_
          refine aw_iconst (v := 1) dX5_takeDigit_56 (by decide) ?_
          refine aw_isub dX5_takeDigit_57 ?_
          refine aw_aload_n (j := 0) dX5_takeDigit_58 rfl rfl ?_
          refine aw_getfield (c := b0 + 1 + 3) (v := .ref (ad (b0 + 1))) dX5_takeDigit_59 f_X5_11 hb0.1 rfl rfl ?_
          refine aw_aload_n (j := 0) dX5_takeDigit_62 rfl rfl ?_
          refine aw_getfield (c := 0) (v := .int (m.1 b0 4)) dX5_takeDigit_63 f_X5_25 hb0.1 rfl rfl ?_
          refine aw_iconst (v := 1) dX5_takeDigit_66 (by decide) ?_
          refine aw_isub dX5_takeDigit_67 ?_
          obtain ⟨hi, h⟩ := h
          refine aw_iaload dX5_takeDigit_68 hb0.2.1 hi ?_
          refine aw_bipush (v := 10) dX5_takeDigit_69 (by decide) ?_
          refine aw_imul dX5_takeDigit_71 ?_
          refine aw_iload_n (j := 1) dX5_takeDigit_72 rfl rfl ?_
          refine aw_iadd dX5_takeDigit_73 ?_
          obtain ⟨hi, h⟩ := h
          refine aw_iastore dX5_takeDigit_74 hb0.2.1 hi ?_
          refine aw_aload_n (j := 0) dX5_takeDigit_75 rfl rfl ?_
          refine aw_dup dX5_takeDigit_76 rfl ?_
          refine aw_getfield (c := 0) (v := .int ((uI m (b0 + 1) ((m.1 b0 4) - (1 : Int32)).toNatClampNeg (((m.1 (b0 + 1) ((m.1 b0 4) - (1 : Int32)).toNatClampNeg) * (10 : Int32)) + x1)).1 b0 7)) dX5_takeDigit_77 f_X5_35 hb0.1 rfl rfl ?_
          refine aw_iconst (v := 1) dX5_takeDigit_80 (by decide) ?_
          refine aw_iadd dX5_takeDigit_81 ?_
          refine aw_putI dX5_takeDigit_82 f_X5_35 cl_X5 rfl hb0.1 rfl rfl rfl ?_
          refine aw_iconst (v := 1) dX5_takeDigit_85 (by decide) ?_
          exact aw_ret (v := some (.int (1 : Int32))) rfl (Or.inr (Or.inl ⟨_, .boolean, rfl, rfl, by decide, dX5_takeDigit_86⟩)) h
        · have h := h.2 hc
          refine aw_iconst (v := 0) dX5_takeDigit_46 (by decide) ?_
          exact aw_ret (v := some (.int (0 : Int32))) rfl (Or.inr (Or.inl ⟨_, .boolean, rfl, rfl, by decide, dX5_takeDigit_47⟩)) h
  · have h := h.2 hc
    refine aw_aload_n (j := 0) dX5_takeDigit_7 rfl rfl ?_
    refine aw_iload_n (j := 1) dX5_takeDigit_8 rfl rfl ?_
    refine aw_callV (rest := []) [.int x1] dX5_takeDigit_9 hb0.1 rfl k_X5_73 rfl h (Nat.le_of_ble_eq_true rfl) (fun v m1 h => ?_)
    obtain ⟨rfl, h⟩ := h
    refine aw_eq (L' := [(0, .ref (ad b0)), (1, .int x1)]) (st' := []) (m' := m1) ?_ rfl rfl rfl
    refine aw_aload_n (j := 0) dX5_takeDigit_12 rfl rfl ?_
    refine aw_iconst (v := 1) dX5_takeDigit_13 (by decide) ?_
    refine aw_putI dX5_takeDigit_14 f_X5_35 cl_X5 rfl hb0.1 rfl rfl rfl ?_
    refine aw_aload_n (j := 0) dX5_takeDigit_17 rfl rfl ?_
    refine aw_iconst (v := 0) dX5_takeDigit_18 (by decide) ?_
    refine aw_putI dX5_takeDigit_19 f_X5_38 cl_X5 rfl hb0.1 rfl (by decide) (by decide) ?_
    refine aw_iconst (v := 1) dX5_takeDigit_22 (by decide) ?_
    exact aw_ret (v := some (.int (1 : Int32))) rfl (Or.inr (Or.inl ⟨_, .boolean, rfl, rfl, by decide, dX5_takeDigit_23⟩)) h
set_option maxRecDepth 100000 in
set_option maxHeartbeats 4000000 in
theorem v_X5_takeThing {ad : Nat → Nat} {d : Nat} {Q : Option Value → Wm → Prop} {m : Wm} {b0 : Nat} {x1 : Int32} (hb0 : Ru b0) (h : ((¬ x1 = (45 : Int32) → ((¬ x1 = (40 : Int32) → (Ct ad μX5_isThing d [.int x1] m (fun r m1 => ∃ v2 : Int32, r = some (.int v2) ∧ ((¬ v2 = 0 → (Ct ad μX5_emit d [.ref (ad b0), .int ((1000 : Int32) + x1)] m1 (fun r m3 => r = none ∧ Q (some (.int (1 : Int32))) (uI m3 b0 8 (0 : Int32))))) ∧ (v2 = 0 → Q (some (.int (0 : Int32))) m1))))) ∧ (x1 = (40 : Int32) → (((m.1 b0 6) < (4 : Int32) → (vp_in ((uI m b0 6 ((m.1 b0 6) + (1 : Int32))).1 b0 6) 5 ∧ (Ct ad μX5_hold d [.ref (ad b0), .int x1] (uI (uI m b0 6 ((m.1 b0 6) + (1 : Int32))) (b0 + 4) ((uI m b0 6 ((m.1 b0 6) + (1 : Int32))).1 b0 6).toNatClampNeg (vp_nar .boolean (0 : Int32))) (fun r m4 => r = none ∧ Q (some (.int (1 : Int32))) m4)))) ∧ (¬ (m.1 b0 6) < (4 : Int32) → Q (some (.int (0 : Int32))) m))))) ∧ (x1 = (45 : Int32) → (Ct ad μX5_hold d [.ref (ad b0), .int (256 : Int32)] m (fun r m5 => r = none ∧ Q (some (.int (1 : Int32))) m5))))) : Ct ad μX5_takeThing (d + 1) [.ref (ad b0), .int x1] m Q := by
  refine Ct.of (by decide +kernel) rfl (Nat.le_of_ble_eq_true rfl) ?_
  refine aw_eq (L' := [(0, .ref (ad b0)), (1, .int x1)]) ?_ rfl rfl rfl
  refine aw_iload_n (j := 1) dX5_takeThing_0 rfl rfl ?_
  refine aw_bipush (v := 45) dX5_takeThing_1 (by decide) ?_
  refine aw_icmp_ne (tgt := 15) dX5_takeThing_3 (by decide) (fun hc => ?_) (fun hc => ?_)
  · have h := h.1 hc
    refine aw_iload_n (j := 1) dX5_takeThing_15 rfl rfl ?_
    refine aw_bipush (v := 40) dX5_takeThing_16 (by decide) ?_
    refine aw_icmp_ne (tgt := 58) dX5_takeThing_18 (by decide) (fun hc => ?_) (fun hc => ?_)
    · have h := h.1 hc
      refine aw_iload_n (j := 1) dX5_takeThing_58 rfl rfl ?_
      refine aw_callS (rest := []) [.int x1] dX5_takeThing_59 k_X5_79 rfl h (Nat.le_of_ble_eq_true rfl) (fun v m1 h => ?_)
      obtain ⟨v2, rfl, h⟩ := h
      refine aw_eq (L' := [(0, .ref (ad b0)), (1, .int x1)]) (st' := [.int v2]) (m' := m1) ?_ rfl rfl rfl
      refine aw_if_ne (tgt := 67) dX5_takeThing_62 (by decide) (fun hc => ?_) (fun hc => ?_)
      · have h := h.1 hc
        refine aw_aload_n (j := 0) dX5_takeThing_67 rfl rfl ?_
        refine aw_sipush (v := 1000) dX5_takeThing_68 (by decide) ?_
        refine aw_iload_n (j := 1) dX5_takeThing_71 rfl rfl ?_
        refine aw_iadd dX5_takeThing_72 ?_
        refine aw_callV (rest := []) [.int ((1000 : Int32) + x1)] dX5_takeThing_73 hb0.1 rfl k_X5_73 rfl h (Nat.le_of_ble_eq_true rfl) (fun v m3 h => ?_)
        obtain ⟨rfl, h⟩ := h
        refine aw_eq (L' := [(0, .ref (ad b0)), (1, .int x1)]) (st' := []) (m' := m3) ?_ rfl rfl rfl
        refine aw_aload_n (j := 0) dX5_takeThing_76 rfl rfl ?_
        refine aw_iconst (v := 0) dX5_takeThing_77 (by decide) ?_
        refine aw_putI dX5_takeThing_78 f_X5_38 cl_X5 rfl hb0.1 rfl (by decide) (by decide) ?_
        refine aw_iconst (v := 1) dX5_takeThing_81 (by decide) ?_
        exact aw_ret (v := some (.int (1 : Int32))) rfl (Or.inr (Or.inl ⟨_, .boolean, rfl, rfl, by decide, dX5_takeThing_82⟩)) h
      · have h := h.2 hc
        refine aw_iconst (v := 0) dX5_takeThing_65 (by decide) ?_
        exact aw_ret (v := some (.int (0 : Int32))) rfl (Or.inr (Or.inl ⟨_, .boolean, rfl, rfl, by decide, dX5_takeThing_66⟩)) h
    · have h := h.2 hc
      refine aw_aload_n (j := 0) dX5_takeThing_21 rfl rfl ?_
      refine aw_getfield (c := 0) (v := .int (m.1 b0 6)) dX5_takeThing_22 f_X5_32 hb0.1 rfl rfl ?_
      refine aw_iconst (v := 4) dX5_takeThing_25 (by decide) ?_
      refine aw_icmp_lt (tgt := 31) dX5_takeThing_26 (by decide) (fun hc => ?_) (fun hc => ?_)
      · have h := h.1 hc
        refine aw_aload_n (j := 0) dX5_takeThing_31 rfl rfl ?_
        refine aw_dup dX5_takeThing_32 rfl ?_
        refine aw_getfield (c := 0) (v := .int (m.1 b0 6)) dX5_takeThing_33 f_X5_32 hb0.1 rfl rfl ?_
        refine aw_iconst (v := 1) dX5_takeThing_36 (by decide) ?_
        refine aw_iadd dX5_takeThing_37 ?_
        refine aw_putI dX5_takeThing_38 f_X5_32 cl_X5 rfl hb0.1 rfl rfl rfl ?_
        refine aw_aload_n (j := 0) dX5_takeThing_41 rfl rfl ?_
        refine aw_getfield (c := b0 + 4 + 3) (v := .ref (ad (b0 + 4))) dX5_takeThing_42 f_X5_21 hb0.1 rfl rfl ?_
        refine aw_aload_n (j := 0) dX5_takeThing_45 rfl rfl ?_
        refine aw_getfield (c := 0) (v := .int ((uI m b0 6 ((m.1 b0 6) + (1 : Int32))).1 b0 6)) dX5_takeThing_46 f_X5_32 hb0.1 rfl rfl ?_
        refine aw_iconst (v := 0) dX5_takeThing_49 (by decide) ?_
        obtain ⟨hi, h⟩ := h
        refine aw_zastore dX5_takeThing_50 hb0.2.2.2.2 hi ?_
        refine aw_aload_n (j := 0) dX5_takeThing_51 rfl rfl ?_
        refine aw_iload_n (j := 1) dX5_takeThing_52 rfl rfl ?_
        refine aw_callV (rest := []) [.int x1] dX5_takeThing_53 hb0.1 rfl k_X5_76 rfl h (Nat.le_of_ble_eq_true rfl) (fun v m4 h => ?_)
        obtain ⟨rfl, h⟩ := h
        refine aw_eq (L' := [(0, .ref (ad b0)), (1, .int x1)]) (st' := []) (m' := m4) ?_ rfl rfl rfl
        refine aw_iconst (v := 1) dX5_takeThing_56 (by decide) ?_
        exact aw_ret (v := some (.int (1 : Int32))) rfl (Or.inr (Or.inl ⟨_, .boolean, rfl, rfl, by decide, dX5_takeThing_57⟩)) h
      · have h := h.2 hc
        refine aw_iconst (v := 0) dX5_takeThing_29 (by decide) ?_
        exact aw_ret (v := some (.int (0 : Int32))) rfl (Or.inr (Or.inl ⟨_, .boolean, rfl, rfl, by decide, dX5_takeThing_30⟩)) h
  · have h := h.2 hc
    refine aw_aload_n (j := 0) dX5_takeThing_6 rfl rfl ?_
    refine aw_sipush (v := 256) dX5_takeThing_7 (by decide) ?_
    refine aw_callV (rest := []) [.int (256 : Int32)] dX5_takeThing_10 hb0.1 rfl k_X5_76 rfl h (Nat.le_of_ble_eq_true rfl) (fun v m5 h => ?_)
    obtain ⟨rfl, h⟩ := h
    refine aw_eq (L' := [(0, .ref (ad b0)), (1, .int x1)]) (st' := []) (m' := m5) ?_ rfl rfl rfl
    refine aw_iconst (v := 1) dX5_takeThing_13 (by decide) ?_
    exact aw_ret (v := some (.int (1 : Int32))) rfl (Or.inr (Or.inl ⟨_, .boolean, rfl, rfl, by decide, dX5_takeThing_14⟩)) h
set_option maxRecDepth 100000 in
set_option maxHeartbeats 4000000 in
theorem v_X5_takeJoin {ad : Nat → Nat} {d : Nat} {Q : Option Value → Wm → Prop} {m : Wm} {b0 : Nat} {x1 : Int32} (hb0 : Ru b0) (h : ((¬ x1 = (41 : Int32) → (Ct ad μX5_rank d [.int x1] m (fun r m1 => ∃ v2 : Int32, r = some (.int v2) ∧ ((v2 = 0 → Q (some (.int (0 : Int32))) m1) ∧ (¬ v2 = 0 → ((¬ v2 = (1 : Int32) → AW ad E0 μX5_takeJoin (d + 1) Q 74 [(0, .ref (ad b0)), (1, .int x1), (2, .int v2)] [] m1) ∧ (v2 = (1 : Int32) → (vp_in (m1.1 b0 6) 5 ∧ (((m1.1 (b0 + 4) (m1.1 b0 6).toNatClampNeg) = 0 → AW ad E0 μX5_takeJoin (d + 1) Q 74 [(0, .ref (ad b0)), (1, .int x1), (2, .int v2)] [] m1) ∧ (¬ (m1.1 (b0 + 4) (m1.1 b0 6).toNatClampNeg) = 0 → Q (some (.int (0 : Int32))) m1)))))))))) ∧ (x1 = (41 : Int32) → ((¬ (m.1 b0 6) = 0 → (Ct ad μX5_release d [.ref (ad b0), .int (1 : Int32)] m (fun r m3 => r = none ∧ Q (some (.int (1 : Int32))) (uI (uI m3 b0 5 (if (0 : Int32) < ((m3.1 b0 5) - (1 : Int32)) then ((m3.1 b0 5) - (1 : Int32)) else (0 : Int32))) b0 6 (((uI m3 b0 5 (if (0 : Int32) < ((m3.1 b0 5) - (1 : Int32)) then ((m3.1 b0 5) - (1 : Int32)) else (0 : Int32))).1 b0 6) - (1 : Int32)))))) ∧ ((m.1 b0 6) = 0 → Q (some (.int (0 : Int32))) m))))) : Ct ad μX5_takeJoin (d + 1) [.ref (ad b0), .int x1] m Q := by
  refine Ct.of (by decide +kernel) rfl (Nat.le_of_ble_eq_true rfl) ?_
  refine aw_eq (L' := [(0, .ref (ad b0)), (1, .int x1)]) ?_ rfl rfl rfl
  refine aw_iload_n (j := 1) dX5_takeJoin_0 rfl rfl ?_
  refine aw_bipush (v := 41) dX5_takeJoin_1 (by decide) ?_
  refine aw_icmp_ne (tgt := 46) dX5_takeJoin_3 (by decide) (fun hc => ?_) (fun hc => ?_)
  · have h := h.1 hc
    refine aw_iload_n (j := 1) dX5_takeJoin_46 rfl rfl ?_
    refine aw_callS (rest := []) [.int x1] dX5_takeJoin_47 k_X5_85 rfl h (Nat.le_of_ble_eq_true rfl) (fun v m1 h => ?_)
    obtain ⟨v2, rfl, h⟩ := h
    refine aw_eq (L' := [(0, .ref (ad b0)), (1, .int x1)]) (st' := [.int v2]) (m' := m1) ?_ rfl rfl rfl
    refine aw_istore_n (L' := [(2, .int v2), (0, .ref (ad b0)), (1, .int x1)]) dX5_takeJoin_50 rfl (by decide) rfl ?_
    refine aw_iload_n (j := 0) dX5_takeJoin_51 rfl rfl ?_
    refine aw_if_eq (tgt := 72) dX5_takeJoin_52 (by decide) (fun hc => ?_) (fun hc => ?_)
    · have h := h.1 hc
      refine aw_iconst (v := 0) dX5_takeJoin_72 (by decide) ?_
      exact aw_ret (v := some (.int (0 : Int32))) rfl (Or.inr (Or.inl ⟨_, .boolean, rfl, rfl, by decide, dX5_takeJoin_73⟩)) h
    · have h := h.2 hc
      refine aw_iload_n (j := 0) dX5_takeJoin_55 rfl rfl ?_
      refine aw_iconst (v := 1) dX5_takeJoin_56 (by decide) ?_
      refine aw_icmp_ne (tgt := 74) dX5_takeJoin_57 (by decide) (fun hc => ?_) (fun hc => ?_)
      · have h := h.1 hc
        exact aw_sub [1, 2, 0] rfl h
      · have h := h.2 hc
        refine aw_aload_n (j := 1) dX5_takeJoin_60 rfl rfl ?_
        refine aw_getfield (c := b0 + 4 + 3) (v := .ref (ad (b0 + 4))) dX5_takeJoin_61 f_X5_21 hb0.1 rfl rfl ?_
        refine aw_aload_n (j := 1) dX5_takeJoin_64 rfl rfl ?_
        refine aw_getfield (c := 0) (v := .int (m1.1 b0 6)) dX5_takeJoin_65 f_X5_32 hb0.1 rfl rfl ?_
        obtain ⟨hi, h⟩ := h
        refine aw_zaload dX5_takeJoin_68 hb0.2.2.2.2 hi ?_
        refine aw_if_eq (tgt := 74) dX5_takeJoin_69 (by decide) (fun hc => ?_) (fun hc => ?_)
        · have h := h.1 hc
          exact aw_sub [1, 2, 0] rfl h
        · have h := h.2 hc
          refine aw_iconst (v := 0) dX5_takeJoin_72 (by decide) ?_
          exact aw_ret (v := some (.int (0 : Int32))) rfl (Or.inr (Or.inl ⟨_, .boolean, rfl, rfl, by decide, dX5_takeJoin_73⟩)) h
  · have h := h.2 hc
    refine aw_aload_n (j := 0) dX5_takeJoin_6 rfl rfl ?_
    refine aw_getfield (c := 0) (v := .int (m.1 b0 6)) dX5_takeJoin_7 f_X5_32 hb0.1 rfl rfl ?_
    refine aw_if_ne (tgt := 15) dX5_takeJoin_10 (by decide) (fun hc => ?_) (fun hc => ?_)
    · have h := h.1 hc
      refine aw_aload_n (j := 0) dX5_takeJoin_15 rfl rfl ?_
      refine aw_iconst (v := 1) dX5_takeJoin_16 (by decide) ?_
      refine aw_callV (rest := []) [.int (1 : Int32)] dX5_takeJoin_17 hb0.1 rfl k_X5_59 rfl h (Nat.le_of_ble_eq_true rfl) (fun v m3 h => ?_)
      obtain ⟨rfl, h⟩ := h
      refine aw_eq (L' := [(0, .ref (ad b0)), (1, .int x1)]) (st' := []) (m' := m3) ?_ rfl rfl rfl
      refine aw_aload_n (j := 0) dX5_takeJoin_20 rfl rfl ?_
      refine aw_iconst (v := 0) dX5_takeJoin_21 (by decide) ?_
      refine aw_aload_n (j := 0) dX5_takeJoin_22 rfl rfl ?_
      refine aw_getfield (c := 0) (v := .int (m3.1 b0 5)) dX5_takeJoin_23 f_X5_29 hb0.1 rfl rfl ?_
      refine aw_iconst (v := 1) dX5_takeJoin_26 (by decide) ?_
      refine aw_isub dX5_takeJoin_27 ?_
      refine aw_max dX5_takeJoin_28 k_X5_82 (Nat.le_of_ble_eq_true rfl) ?_
      refine aw_putI dX5_takeJoin_31 f_X5_29 cl_X5 rfl hb0.1 rfl rfl rfl ?_
      refine aw_aload_n (j := 0) dX5_takeJoin_34 rfl rfl ?_
      refine aw_dup dX5_takeJoin_35 rfl ?_
      refine aw_getfield (c := 0) (v := .int ((uI m3 b0 5 (if (0 : Int32) < ((m3.1 b0 5) - (1 : Int32)) then ((m3.1 b0 5) - (1 : Int32)) else (0 : Int32))).1 b0 6)) dX5_takeJoin_36 f_X5_32 hb0.1 rfl rfl ?_
      refine aw_iconst (v := 1) dX5_takeJoin_39 (by decide) ?_
      refine aw_isub dX5_takeJoin_40 ?_
      refine aw_putI dX5_takeJoin_41 f_X5_32 cl_X5 rfl hb0.1 rfl rfl rfl ?_
      refine aw_iconst (v := 1) dX5_takeJoin_44 (by decide) ?_
      exact aw_ret (v := some (.int (1 : Int32))) rfl (Or.inr (Or.inl ⟨_, .boolean, rfl, rfl, by decide, dX5_takeJoin_45⟩)) h
    · have h := h.2 hc
      refine aw_iconst (v := 0) dX5_takeJoin_13 (by decide) ?_
      exact aw_ret (v := some (.int (0 : Int32))) rfl (Or.inr (Or.inl ⟨_, .boolean, rfl, rfl, by decide, dX5_takeJoin_14⟩)) h
set_option maxRecDepth 100000 in
set_option maxHeartbeats 4000000 in
theorem g_X5_takeJoin_74 {ad : Nat → Nat} {d : Nat} {Q : Option Value → Wm → Prop} {m : Wm} {b0 : Nat} {x1 x2 : Int32} (hb0 : Ru b0) (h : ((¬ x2 = (1 : Int32) → AW ad E0 μX5_takeJoin (d + 1) Q 89 [(0, .ref (ad b0)), (1, .int x1), (2, .int x2)] [] m) ∧ (x2 = (1 : Int32) → (vp_in (m.1 b0 6) 5 ∧ AW ad E0 μX5_takeJoin (d + 1) Q 89 [(0, .ref (ad b0)), (1, .int x1), (2, .int x2)] [] (uI m (b0 + 4) (m.1 b0 6).toNatClampNeg (vp_nar .boolean (1 : Int32))))))) : AW ad E0 μX5_takeJoin (d + 1) Q 74 [(0, .ref (ad b0)), (1, .int x1), (2, .int x2)] [] m := by
  refine aw_iload_n (j := 2) dX5_takeJoin_74 rfl rfl ?_
  refine aw_iconst (v := 1) dX5_takeJoin_75 (by decide) ?_
  refine aw_icmp_ne (tgt := 89) dX5_takeJoin_76 (by decide) (fun hc => ?_) (fun hc => ?_)
  · have h := h.1 hc
    exact aw_sub [0, 1, 2] rfl h
  · have h := h.2 hc
    refine aw_aload_n (j := 0) dX5_takeJoin_79 rfl rfl ?_
    refine aw_getfield (c := b0 + 4 + 3) (v := .ref (ad (b0 + 4))) dX5_takeJoin_80 f_X5_21 hb0.1 rfl rfl ?_
    refine aw_aload_n (j := 0) dX5_takeJoin_83 rfl rfl ?_
    refine aw_getfield (c := 0) (v := .int (m.1 b0 6)) dX5_takeJoin_84 f_X5_32 hb0.1 rfl rfl ?_
    refine aw_iconst (v := 1) dX5_takeJoin_87 (by decide) ?_
    obtain ⟨hi, h⟩ := h
    refine aw_zastore dX5_takeJoin_88 hb0.2.2.2.2 hi ?_
    exact aw_sub [0, 1, 2] rfl h
set_option maxRecDepth 100000 in
set_option maxHeartbeats 4000000 in
theorem g_X5_takeJoin_89 {ad : Nat → Nat} {d : Nat} {Q : Option Value → Wm → Prop} {m : Wm} {b0 : Nat} {x1 x2 : Int32} (hb0 : Ru b0) (h : (Ct ad μX5_release d [.ref (ad b0), .int x2] m (fun r m1 => r = none ∧ (Ct ad μX5_hold d [.ref (ad b0), .int x1] m1 (fun r m2 => r = none ∧ Q (some (.int (1 : Int32))) (uI m2 b0 8 (1 : Int32))))))) : AW ad E0 μX5_takeJoin (d + 1) Q 89 [(0, .ref (ad b0)), (1, .int x1), (2, .int x2)] [] m := by
  refine aw_aload_n (j := 0) dX5_takeJoin_89 rfl rfl ?_
  refine aw_iload_n (j := 2) dX5_takeJoin_90 rfl rfl ?_
  refine aw_callV (rest := []) [.int x2] dX5_takeJoin_91 hb0.1 rfl k_X5_59 rfl h (Nat.le_of_ble_eq_true rfl) (fun v m1 h => ?_)
  obtain ⟨rfl, h⟩ := h
  refine aw_eq (L' := [(0, .ref (ad b0)), (1, .int x1), (2, .int x2)]) (st' := []) (m' := m1) ?_ rfl rfl rfl
  refine aw_aload_n (j := 0) dX5_takeJoin_94 rfl rfl ?_
  refine aw_iload_n (j := 1) dX5_takeJoin_95 rfl rfl ?_
  refine aw_callV (rest := []) [.int x1] dX5_takeJoin_96 hb0.1 rfl k_X5_76 rfl h (Nat.le_of_ble_eq_true rfl) (fun v m2 h => ?_)
  obtain ⟨rfl, h⟩ := h
  refine aw_eq (L' := [(0, .ref (ad b0)), (1, .int x1), (2, .int x2)]) (st' := []) (m' := m2) ?_ rfl rfl rfl
  refine aw_aload_n (j := 0) dX5_takeJoin_99 rfl rfl ?_
  refine aw_iconst (v := 1) dX5_takeJoin_100 (by decide) ?_
  refine aw_putI dX5_takeJoin_101 f_X5_38 cl_X5 rfl hb0.1 rfl (by decide) (by decide) ?_
  refine aw_iconst (v := 1) dX5_takeJoin_104 (by decide) ?_
  exact aw_ret (v := some (.int (1 : Int32))) rfl (Or.inr (Or.inl ⟨_, .boolean, rfl, rfl, by decide, dX5_takeJoin_105⟩)) h
set_option maxRecDepth 100000 in
set_option maxHeartbeats 4000000 in
theorem v_X5_isThing {ad : Nat → Nat} {d : Nat} {Q : Option Value → Wm → Prop} {m : Wm} {x0 : Int32} (h : ((x0 < (97 : Int32) → AW ad E0 μX5_isThing d Q 12 [(0, .int x0)] [] m) ∧ (¬ x0 < (97 : Int32) → ((x0 ≤ (100 : Int32) → Q (some (.int (1 : Int32))) m) ∧ (¬ x0 ≤ (100 : Int32) → AW ad E0 μX5_isThing d Q 12 [(0, .int x0)] [] m))))) : Ct ad μX5_isThing d [.int x0] m Q := by
  refine Ct.of (by decide +kernel) rfl (Nat.le_of_ble_eq_true rfl) ?_
  refine aw_eq (L' := [(0, .int x0)]) ?_ rfl rfl rfl
  refine aw_iload_n (j := 0) dX5_isThing_0 rfl rfl ?_
  refine aw_bipush (v := 97) dX5_isThing_1 (by decide) ?_
  refine aw_icmp_lt (tgt := 12) dX5_isThing_3 (by decide) (fun hc => ?_) (fun hc => ?_)
  · have h := h.1 hc
    exact aw_sub [0] rfl h
  · have h := h.2 hc
    refine aw_iload_n (j := 0) dX5_isThing_6 rfl rfl ?_
    refine aw_bipush (v := 100) dX5_isThing_7 (by decide) ?_
    refine aw_icmp_le (tgt := 48) dX5_isThing_9 (by decide) (fun hc => ?_) (fun hc => ?_)
    · have h := h.1 hc
      refine aw_iconst (v := 1) dX5_isThing_48 (by decide) ?_
      refine aw_goto (tgt := 53) dX5_isThing_49 (by decide) ?_
      exact aw_ret (v := some (.int (1 : Int32))) rfl (Or.inr (Or.inl ⟨_, .boolean, rfl, rfl, by decide, dX5_isThing_53⟩)) h
    · have h := h.2 hc
      exact aw_sub [0] rfl h
set_option maxRecDepth 100000 in
set_option maxHeartbeats 4000000 in
theorem g_X5_isThing_12 {ad : Nat → Nat} {d : Nat} {Q : Option Value → Wm → Prop} {m : Wm} {x0 : Int32} (h : ((x0 = (115 : Int32) → Q (some (.int (1 : Int32))) m) ∧ (¬ x0 = (115 : Int32) → ((x0 = (109 : Int32) → Q (some (.int (1 : Int32))) m) ∧ (¬ x0 = (109 : Int32) → ((x0 = (108 : Int32) → Q (some (.int (1 : Int32))) m) ∧ (¬ x0 = (108 : Int32) → ((x0 = (105 : Int32) → Q (some (.int (1 : Int32))) m) ∧ (¬ x0 = (105 : Int32) → ((x0 = (112 : Int32) → Q (some (.int (1 : Int32))) m) ∧ (¬ x0 = (112 : Int32) → ((¬ x0 = (114 : Int32) → Q (some (.int (0 : Int32))) m) ∧ (x0 = (114 : Int32) → Q (some (.int (1 : Int32))) m))))))))))))) : AW ad E0 μX5_isThing d Q 12 [(0, .int x0)] [] m := by
  refine aw_iload_n (j := 0) dX5_isThing_12 rfl rfl ?_
  refine aw_bipush (v := 115) dX5_isThing_13 (by decide) ?_
  refine aw_icmp_eq (tgt := 48) dX5_isThing_15 (by decide) (fun hc => ?_) (fun hc => ?_)
  · have h := h.1 hc
    refine aw_iconst (v := 1) dX5_isThing_48 (by decide) ?_
    refine aw_goto (tgt := 53) dX5_isThing_49 (by decide) ?_
    exact aw_ret (v := some (.int (1 : Int32))) rfl (Or.inr (Or.inl ⟨_, .boolean, rfl, rfl, by decide, dX5_isThing_53⟩)) h
  · have h := h.2 hc
    refine aw_iload_n (j := 0) dX5_isThing_18 rfl rfl ?_
    refine aw_bipush (v := 109) dX5_isThing_19 (by decide) ?_
    refine aw_icmp_eq (tgt := 48) dX5_isThing_21 (by decide) (fun hc => ?_) (fun hc => ?_)
    · have h := h.1 hc
      refine aw_iconst (v := 1) dX5_isThing_48 (by decide) ?_
      refine aw_goto (tgt := 53) dX5_isThing_49 (by decide) ?_
      exact aw_ret (v := some (.int (1 : Int32))) rfl (Or.inr (Or.inl ⟨_, .boolean, rfl, rfl, by decide, dX5_isThing_53⟩)) h
    · have h := h.2 hc
      refine aw_iload_n (j := 0) dX5_isThing_24 rfl rfl ?_
      refine aw_bipush (v := 108) dX5_isThing_25 (by decide) ?_
      refine aw_icmp_eq (tgt := 48) dX5_isThing_27 (by decide) (fun hc => ?_) (fun hc => ?_)
      · have h := h.1 hc
        refine aw_iconst (v := 1) dX5_isThing_48 (by decide) ?_
        refine aw_goto (tgt := 53) dX5_isThing_49 (by decide) ?_
        exact aw_ret (v := some (.int (1 : Int32))) rfl (Or.inr (Or.inl ⟨_, .boolean, rfl, rfl, by decide, dX5_isThing_53⟩)) h
      · have h := h.2 hc
        refine aw_iload_n (j := 0) dX5_isThing_30 rfl rfl ?_
        refine aw_bipush (v := 105) dX5_isThing_31 (by decide) ?_
        refine aw_icmp_eq (tgt := 48) dX5_isThing_33 (by decide) (fun hc => ?_) (fun hc => ?_)
        · have h := h.1 hc
          refine aw_iconst (v := 1) dX5_isThing_48 (by decide) ?_
          refine aw_goto (tgt := 53) dX5_isThing_49 (by decide) ?_
          exact aw_ret (v := some (.int (1 : Int32))) rfl (Or.inr (Or.inl ⟨_, .boolean, rfl, rfl, by decide, dX5_isThing_53⟩)) h
        · have h := h.2 hc
          refine aw_iload_n (j := 0) dX5_isThing_36 rfl rfl ?_
          refine aw_bipush (v := 112) dX5_isThing_37 (by decide) ?_
          refine aw_icmp_eq (tgt := 48) dX5_isThing_39 (by decide) (fun hc => ?_) (fun hc => ?_)
          · have h := h.1 hc
            refine aw_iconst (v := 1) dX5_isThing_48 (by decide) ?_
            refine aw_goto (tgt := 53) dX5_isThing_49 (by decide) ?_
            exact aw_ret (v := some (.int (1 : Int32))) rfl (Or.inr (Or.inl ⟨_, .boolean, rfl, rfl, by decide, dX5_isThing_53⟩)) h
          · have h := h.2 hc
            refine aw_iload_n (j := 0) dX5_isThing_42 rfl rfl ?_
            refine aw_bipush (v := 114) dX5_isThing_43 (by decide) ?_
            refine aw_icmp_ne (tgt := 52) dX5_isThing_45 (by decide) (fun hc => ?_) (fun hc => ?_)
            · have h := h.1 hc
              refine aw_iconst (v := 0) dX5_isThing_52 (by decide) ?_
              exact aw_ret (v := some (.int (0 : Int32))) rfl (Or.inr (Or.inl ⟨_, .boolean, rfl, rfl, by decide, dX5_isThing_53⟩)) h
            · have h := h.2 hc
              refine aw_iconst (v := 1) dX5_isThing_48 (by decide) ?_
              refine aw_goto (tgt := 53) dX5_isThing_49 (by decide) ?_
              exact aw_ret (v := some (.int (1 : Int32))) rfl (Or.inr (Or.inl ⟨_, .boolean, rfl, rfl, by decide, dX5_isThing_53⟩)) h
set_option maxRecDepth 100000 in
set_option maxHeartbeats 4000000 in
theorem v_X5_rank {ad : Nat → Nat} {d : Nat} {Q : Option Value → Wm → Prop} {m : Wm} {x0 : Int32} (h : ((x0 = 42 → Q (some (.int (3 : Int32))) m) ∧ (x0 = 43 → Q (some (.int (2 : Int32))) m) ∧ (x0 = 45 → Q (some (.int (2 : Int32))) m) ∧ (x0 = 47 → Q (some (.int (3 : Int32))) m) ∧ (x0 = 60 → Q (some (.int (1 : Int32))) m) ∧ (x0 = 61 → Q (some (.int (1 : Int32))) m) ∧ (x0 = 62 → Q (some (.int (1 : Int32))) m) ∧ (x0 = 256 → Q (some (.int (4 : Int32))) m) ∧ (¬ x0 = 42 → ¬ x0 = 43 → ¬ x0 = 45 → ¬ x0 = 47 → ¬ x0 = 60 → ¬ x0 = 61 → ¬ x0 = 62 → ¬ x0 = 256 → Q (some (.int (0 : Int32))) m))) : Ct ad μX5_rank d [.int x0] m Q := by
  refine Ct.of (by decide +kernel) rfl (Nat.le_of_ble_eq_true rfl) ?_
  refine aw_eq (L' := [(0, .int x0)]) ?_ rfl rfl rfl
  refine aw_iload_n (j := 0) dX5_rank_0 rfl rfl ?_
  by_cases c0 : x0 = 42
  · have h := h.1 c0
    refine aw_lsw (off := 79) (tgt := 80) dX5_rank_1 (by decide) (by rw [c0]; decide) (by decide) ?_
    refine aw_iconst (v := 3) dX5_rank_80 (by decide) ?_
    exact aw_ret (v := some (.int (3 : Int32))) rfl (Or.inr (Or.inl ⟨_, .int, rfl, rfl, rfl, dX5_rank_81⟩)) h
  by_cases c1 : x0 = 43
  · have h := h.2.1 c1
    refine aw_lsw (off := 77) (tgt := 78) dX5_rank_1 (by decide) (by rw [c1]; decide) (by decide) ?_
    refine aw_iconst (v := 2) dX5_rank_78 (by decide) ?_
    exact aw_ret (v := some (.int (2 : Int32))) rfl (Or.inr (Or.inl ⟨_, .int, rfl, rfl, rfl, dX5_rank_79⟩)) h
  by_cases c2 : x0 = 45
  · have h := h.2.2.1 c2
    refine aw_lsw (off := 77) (tgt := 78) dX5_rank_1 (by decide) (by rw [c2]; decide) (by decide) ?_
    refine aw_iconst (v := 2) dX5_rank_78 (by decide) ?_
    exact aw_ret (v := some (.int (2 : Int32))) rfl (Or.inr (Or.inl ⟨_, .int, rfl, rfl, rfl, dX5_rank_79⟩)) h
  by_cases c3 : x0 = 47
  · have h := h.2.2.2.1 c3
    refine aw_lsw (off := 79) (tgt := 80) dX5_rank_1 (by decide) (by rw [c3]; decide) (by decide) ?_
    refine aw_iconst (v := 3) dX5_rank_80 (by decide) ?_
    exact aw_ret (v := some (.int (3 : Int32))) rfl (Or.inr (Or.inl ⟨_, .int, rfl, rfl, rfl, dX5_rank_81⟩)) h
  by_cases c4 : x0 = 60
  · have h := h.2.2.2.2.1 c4
    refine aw_lsw (off := 75) (tgt := 76) dX5_rank_1 (by decide) (by rw [c4]; decide) (by decide) ?_
    refine aw_iconst (v := 1) dX5_rank_76 (by decide) ?_
    exact aw_ret (v := some (.int (1 : Int32))) rfl (Or.inr (Or.inl ⟨_, .int, rfl, rfl, rfl, dX5_rank_77⟩)) h
  by_cases c5 : x0 = 61
  · have h := h.2.2.2.2.2.1 c5
    refine aw_lsw (off := 75) (tgt := 76) dX5_rank_1 (by decide) (by rw [c5]; decide) (by decide) ?_
    refine aw_iconst (v := 1) dX5_rank_76 (by decide) ?_
    exact aw_ret (v := some (.int (1 : Int32))) rfl (Or.inr (Or.inl ⟨_, .int, rfl, rfl, rfl, dX5_rank_77⟩)) h
  by_cases c6 : x0 = 62
  · have h := h.2.2.2.2.2.2.1 c6
    refine aw_lsw (off := 75) (tgt := 76) dX5_rank_1 (by decide) (by rw [c6]; decide) (by decide) ?_
    refine aw_iconst (v := 1) dX5_rank_76 (by decide) ?_
    exact aw_ret (v := some (.int (1 : Int32))) rfl (Or.inr (Or.inl ⟨_, .int, rfl, rfl, rfl, dX5_rank_77⟩)) h
  by_cases c7 : x0 = 256
  · have h := h.2.2.2.2.2.2.2.1 c7
    refine aw_lsw (off := 81) (tgt := 82) dX5_rank_1 (by decide) (by rw [c7]; decide) (by decide) ?_
    refine aw_iconst (v := 4) dX5_rank_82 (by decide) ?_
    exact aw_ret (v := some (.int (4 : Int32))) rfl (Or.inr (Or.inl ⟨_, .int, rfl, rfl, rfl, dX5_rank_83⟩)) h
  have h := h.2.2.2.2.2.2.2.2 c0 c1 c2 c3 c4 c5 c6 c7
  refine aw_lsw (off := 83) (tgt := 84) dX5_rank_1 (by decide) (by have e0 := Ne.symm (i32_ne (n := 42) c0 (by decide)); have e1 := Ne.symm (i32_ne (n := 43) c1 (by decide)); have e2 := Ne.symm (i32_ne (n := 45) c2 (by decide)); have e3 := Ne.symm (i32_ne (n := 47) c3 (by decide)); have e4 := Ne.symm (i32_ne (n := 60) c4 (by decide)); have e5 := Ne.symm (i32_ne (n := 61) c5 (by decide)); have e6 := Ne.symm (i32_ne (n := 62) c6 (by decide)); have e7 := Ne.symm (i32_ne (n := 256) c7 (by decide)); simp [Op.lookupswitch.offset, List.find?, *]) (by decide) ?_
  refine aw_iconst (v := 0) dX5_rank_84 (by decide) ?_
  exact aw_ret (v := some (.int (0 : Int32))) rfl (Or.inr (Or.inl ⟨_, .int, rfl, rfl, rfl, dX5_rank_85⟩)) h
set_option maxRecDepth 100000 in
set_option maxHeartbeats 4000000 in
theorem v_X5_emit {ad : Nat → Nat} {d : Nat} {Q : Option Value → Wm → Prop} {m : Wm} {b0 : Nat} {x1 : Int32} (hb0 : Ru b0) (h : (((40 : Int32) ≤ (m.1 b0 4) → Q none m) ∧ (¬ (40 : Int32) ≤ (m.1 b0 4) → (vp_in (m.1 b0 4) 40 ∧ Q none (uI (uI m (b0 + 1) (m.1 b0 4).toNatClampNeg x1) b0 4 (((uI m (b0 + 1) (m.1 b0 4).toNatClampNeg x1).1 b0 4) + (1 : Int32))))))) : Ct ad μX5_emit d [.ref (ad b0), .int x1] m Q := by
  refine Ct.of (by decide +kernel) rfl (Nat.le_of_ble_eq_true rfl) ?_
  refine aw_eq (L' := [(0, .ref (ad b0)), (1, .int x1)]) ?_ rfl rfl rfl
  refine aw_aload_n (j := 0) dX5_emit_0 rfl rfl ?_
  refine aw_getfield (c := 0) (v := .int (m.1 b0 4)) dX5_emit_1 f_X5_25 hb0.1 rfl rfl ?_
  refine aw_bipush (v := 40) dX5_emit_4 (by decide) ?_
  refine aw_icmp_ge (tgt := 29) dX5_emit_6 (by decide) (fun hc => ?_) (fun hc => ?_)
  · have h := h.1 hc
    exact aw_ret (v := none) rfl (Or.inl ⟨rfl, rfl, dX5_emit_29⟩) h
  · have h := h.2 hc
    refine aw_aload_n (j := 0) dX5_emit_9 rfl rfl ?_
    refine aw_getfield (c := b0 + 1 + 3) (v := .ref (ad (b0 + 1))) dX5_emit_10 f_X5_11 hb0.1 rfl rfl ?_
    refine aw_aload_n (j := 0) dX5_emit_13 rfl rfl ?_
    refine aw_getfield (c := 0) (v := .int (m.1 b0 4)) dX5_emit_14 f_X5_25 hb0.1 rfl rfl ?_
    refine aw_iload_n (j := 1) dX5_emit_17 rfl rfl ?_
    obtain ⟨hi, h⟩ := h
    refine aw_iastore dX5_emit_18 hb0.2.1 hi ?_
    refine aw_aload_n (j := 0) dX5_emit_19 rfl rfl ?_
    refine aw_dup dX5_emit_20 rfl ?_
    refine aw_getfield (c := 0) (v := .int ((uI m (b0 + 1) (m.1 b0 4).toNatClampNeg x1).1 b0 4)) dX5_emit_21 f_X5_25 hb0.1 rfl rfl ?_
    refine aw_iconst (v := 1) dX5_emit_24 (by decide) ?_
    refine aw_iadd dX5_emit_25 ?_
    refine aw_putI dX5_emit_26 f_X5_25 cl_X5 rfl hb0.1 rfl rfl rfl ?_
    exact aw_ret (v := none) rfl (Or.inl ⟨rfl, rfl, dX5_emit_29⟩) h
set_option maxRecDepth 100000 in
set_option maxHeartbeats 4000000 in
theorem v_X5_hold {ad : Nat → Nat} {d : Nat} {Q : Option Value → Wm → Prop} {m : Wm} {b0 : Nat} {x1 : Int32} (hb0 : Ru b0) (h : (((40 : Int32) ≤ (m.1 b0 5) → Q none m) ∧ (¬ (40 : Int32) ≤ (m.1 b0 5) → (vp_in (m.1 b0 5) 40 ∧ Q none (uI (uI m (b0 + 3) (m.1 b0 5).toNatClampNeg x1) b0 5 (((uI m (b0 + 3) (m.1 b0 5).toNatClampNeg x1).1 b0 5) + (1 : Int32))))))) : Ct ad μX5_hold d [.ref (ad b0), .int x1] m Q := by
  refine Ct.of (by decide +kernel) rfl (Nat.le_of_ble_eq_true rfl) ?_
  refine aw_eq (L' := [(0, .ref (ad b0)), (1, .int x1)]) ?_ rfl rfl rfl
  refine aw_aload_n (j := 0) dX5_hold_0 rfl rfl ?_
  refine aw_getfield (c := 0) (v := .int (m.1 b0 5)) dX5_hold_1 f_X5_29 hb0.1 rfl rfl ?_
  refine aw_bipush (v := 40) dX5_hold_4 (by decide) ?_
  refine aw_icmp_ge (tgt := 29) dX5_hold_6 (by decide) (fun hc => ?_) (fun hc => ?_)
  · have h := h.1 hc
    exact aw_ret (v := none) rfl (Or.inl ⟨rfl, rfl, dX5_hold_29⟩) h
  · have h := h.2 hc
    refine aw_aload_n (j := 0) dX5_hold_9 rfl rfl ?_
    refine aw_getfield (c := b0 + 3 + 3) (v := .ref (ad (b0 + 3))) dX5_hold_10 f_X5_18 hb0.1 rfl rfl ?_
    refine aw_aload_n (j := 0) dX5_hold_13 rfl rfl ?_
    refine aw_getfield (c := 0) (v := .int (m.1 b0 5)) dX5_hold_14 f_X5_29 hb0.1 rfl rfl ?_
    refine aw_iload_n (j := 1) dX5_hold_17 rfl rfl ?_
    obtain ⟨hi, h⟩ := h
    refine aw_iastore dX5_hold_18 hb0.2.2.2.1 hi ?_
    refine aw_aload_n (j := 0) dX5_hold_19 rfl rfl ?_
    refine aw_dup dX5_hold_20 rfl ?_
    refine aw_getfield (c := 0) (v := .int ((uI m (b0 + 3) (m.1 b0 5).toNatClampNeg x1).1 b0 5)) dX5_hold_21 f_X5_29 hb0.1 rfl rfl ?_
    refine aw_iconst (v := 1) dX5_hold_24 (by decide) ?_
    refine aw_iadd dX5_hold_25 ?_
    refine aw_putI dX5_hold_26 f_X5_29 cl_X5 rfl hb0.1 rfl rfl rfl ?_
    exact aw_ret (v := none) rfl (Or.inl ⟨rfl, rfl, dX5_hold_29⟩) h
set_option maxRecDepth 100000 in
set_option maxHeartbeats 4000000 in
theorem v_X5_release {ad : Nat → Nat} {d : Nat} {Q : Option Value → Wm → Prop} {m : Wm} {b0 : Nat} {x1 : Int32} (hb0 : Ru b0) (h : AW ad E0 μX5_release (d + 1) Q 7 [(0, .ref (ad b0)), (1, .int x1), (2, .int ((m.1 b0 5) - (1 : Int32)))] [] m) : Ct ad μX5_release (d + 1) [.ref (ad b0), .int x1] m Q := by
  refine Ct.of (by decide +kernel) rfl (Nat.le_of_ble_eq_true rfl) ?_
  refine aw_eq (L' := [(0, .ref (ad b0)), (1, .int x1)]) ?_ rfl rfl rfl
  refine aw_aload_n (j := 0) dX5_release_0 rfl rfl ?_
  refine aw_getfield (c := 0) (v := .int (m.1 b0 5)) dX5_release_1 f_X5_29 hb0.1 rfl rfl ?_
  refine aw_iconst (v := 1) dX5_release_4 (by decide) ?_
  refine aw_isub dX5_release_5 ?_
  refine aw_istore_n (L' := [(2, .int ((m.1 b0 5) - (1 : Int32))), (0, .ref (ad b0)), (1, .int x1)]) dX5_release_6 rfl (by decide) rfl ?_
  exact aw_sub [1, 2, 0] rfl h
set_option maxRecDepth 100000 in
set_option maxHeartbeats 4000000 in
theorem g_X5_release_7 {ad : Nat → Nat} {d : Nat} {Q : Option Value → Wm → Prop} {m : Wm} {b0 : Nat} {x1 x2 : Int32} (hb0 : Ru b0) (h : ((x2 < 0 → Q none m) ∧ (¬ x2 < 0 → (vp_in x2 40 ∧ (Ct ad μX5_rank d [.int (m.1 (b0 + 3) x2.toNatClampNeg)] m (fun r m1 => ∃ v2 : Int32, r = some (.int v2) ∧ ((x1 ≤ v2 → (vp_in x2 40 ∧ (Ct ad μX5_emit d [.ref (ad b0), .int ((1000 : Int32) + (m1.1 (b0 + 3) x2.toNatClampNeg))] m1 (fun r m3 => r = none ∧ AW ad E0 μX5_release (d + 1) Q 7 [(0, .ref (ad b0)), (1, .int x1), (2, .int (x2 + (-1 : Int32)))] [] (uI m3 b0 5 x2))))) ∧ (¬ x1 ≤ v2 → Q none m1)))))))) : AW ad E0 μX5_release (d + 1) Q 7 [(0, .ref (ad b0)), (1, .int x1), (2, .int x2)] [] m := by
  refine aw_iload_n (j := 2) dX5_release_7 rfl rfl ?_
  refine aw_if_lt (tgt := 52) dX5_release_8 (by decide) (fun hc => ?_) (fun hc => ?_)
  · have h := h.1 hc
    exact aw_ret (v := none) rfl (Or.inl ⟨rfl, rfl, dX5_release_52⟩) h
  · have h := h.2 hc
    refine aw_aload_n (j := 0) dX5_release_11 rfl rfl ?_
    refine aw_getfield (c := b0 + 3 + 3) (v := .ref (ad (b0 + 3))) dX5_release_12 f_X5_18 hb0.1 rfl rfl ?_
    refine aw_iload_n (j := 2) dX5_release_15 rfl rfl ?_
    obtain ⟨hi, h⟩ := h
    refine aw_iaload dX5_release_16 hb0.2.2.2.1 hi ?_
    refine aw_callS (rest := []) [.int (m.1 (b0 + 3) x2.toNatClampNeg)] dX5_release_17 k_X5_85 rfl h (Nat.le_of_ble_eq_true rfl) (fun v m1 h => ?_)
    obtain ⟨v2, rfl, h⟩ := h
    refine aw_eq (L' := [(0, .ref (ad b0)), (1, .int x1), (2, .int x2)]) (st' := [.int v2]) (m' := m1) ?_ rfl rfl rfl
    refine aw_iload_n (j := 1) dX5_release_20 rfl rfl ?_
    refine aw_icmp_ge (tgt := 27) dX5_release_21 (by decide) (fun hc => ?_) (fun hc => ?_)
    · have h := h.1 hc
      refine aw_aload_n (j := 0) dX5_release_27 rfl rfl ?_
      refine aw_sipush (v := 1000) dX5_release_28 (by decide) ?_
      refine aw_aload_n (j := 0) dX5_release_31 rfl rfl ?_
      refine aw_getfield (c := b0 + 3 + 3) (v := .ref (ad (b0 + 3))) dX5_release_32 f_X5_18 hb0.1 rfl rfl ?_
      refine aw_iload_n (j := 2) dX5_release_35 rfl rfl ?_
      obtain ⟨hi, h⟩ := h
      refine aw_iaload dX5_release_36 hb0.2.2.2.1 hi ?_
      refine aw_iadd dX5_release_37 ?_
      refine aw_callV (rest := []) [.int ((1000 : Int32) + (m1.1 (b0 + 3) x2.toNatClampNeg))] dX5_release_38 hb0.1 rfl k_X5_73 rfl h (Nat.le_of_ble_eq_true rfl) (fun v m3 h => ?_)
      obtain ⟨rfl, h⟩ := h
      refine aw_eq (L' := [(0, .ref (ad b0)), (1, .int x1), (2, .int x2)]) (st' := []) (m' := m3) ?_ rfl rfl rfl
      refine aw_aload_n (j := 0) dX5_release_41 rfl rfl ?_
      refine aw_iload_n (j := 2) dX5_release_42 rfl rfl ?_
      refine aw_putI dX5_release_43 f_X5_29 cl_X5 rfl hb0.1 rfl rfl rfl ?_
      refine aw_iinc (j := 2) (v := x2 + (-1 : Int32)) (L' := [(2, .int (x2 + (-1 : Int32))), (0, .ref (ad b0)), (1, .int x1)]) dX5_release_46 rfl rfl (by decide) rfl ?_
      refine aw_goto (tgt := 7) dX5_release_49 (by decide) ?_
      exact aw_sub [1, 2, 0] rfl h
    · have h := h.2 hc
      refine aw_goto (tgt := 52) dX5_release_24 (by decide) ?_
      exact aw_ret (v := none) rfl (Or.inl ⟨rfl, rfl, dX5_release_52⟩) h
set_option maxRecDepth 100000 in
set_option maxHeartbeats 4000000 in
theorem v_X5_value {ad : Nat → Nat} {d : Nat} {Q : Option Value → Wm → Prop} {m : Wm} {b0 b1 : Nat} {x2 x3 : Int32} (hb0 : Ru b0) (hb1 : St b1) (h : ((¬ (m.1 b0 4) = 0 → AW ad E0 μX5_value (d + 1) Q 20 [(0, .ref (ad b0)), (1, .ref (ad b1)), (2, .int x2), (3, .int x3), (4, .int (0 : Int32)), (5, .int (0 : Int32))] [] m) ∧ ((m.1 b0 4) = 0 → (Ct ad μX8_sum d [.ref (ad b1), .int x2, .int x3] m (fun r m1 => ∃ v2 : Int32, r = some (.int v2) ∧ Q (some (.int v2)) m1))))) : Ct ad μX5_value (d + 1) [.ref (ad b0), .ref (ad b1), .int x2, .int x3] m Q := by
  refine Ct.of (by decide +kernel) rfl (Nat.le_of_ble_eq_true rfl) ?_
  refine aw_eq (L' := [(0, .ref (ad b0)), (1, .ref (ad b1)), (2, .int x2), (3, .int x3)]) ?_ rfl rfl rfl
  refine aw_aload_n (j := 0) dX5_value_0 rfl rfl ?_
  refine aw_getfield (c := 0) (v := .int (m.1 b0 4)) dX5_value_1 f_X5_25 hb0.1 rfl rfl ?_
  refine aw_if_ne (tgt := 14) dX5_value_4 (by decide) (fun hc => ?_) (fun hc => ?_)
  · have h := h.1 hc
    refine aw_iconst (v := 0) dX5_value_14 (by decide) ?_
    refine aw_istore (L' := [(4, .int (0 : Int32)), (0, .ref (ad b0)), (1, .ref (ad b1)), (2, .int x2), (3, .int x3)]) dX5_value_15 (by decide) rfl ?_
    refine aw_iconst (v := 0) dX5_value_17 (by decide) ?_
    refine aw_istore (L' := [(5, .int (0 : Int32)), (4, .int (0 : Int32)), (0, .ref (ad b0)), (1, .ref (ad b1)), (2, .int x2), (3, .int x3)]) dX5_value_18 (by decide) rfl ?_
    exact aw_sub [2, 3, 4, 5, 1, 0] rfl h
  · have h := h.2 hc
    refine aw_aload_n (j := 1) dX5_value_7 rfl rfl ?_
    refine aw_iload_n (j := 2) dX5_value_8 rfl rfl ?_
    refine aw_iload_n (j := 3) dX5_value_9 rfl rfl ?_
    refine aw_callV (rest := []) [.int x2, .int x3] dX5_value_10 hb1.1 rfl k_X5_89 rfl h (Nat.le_of_ble_eq_true rfl) (fun v m1 h => ?_)
    obtain ⟨v2, rfl, h⟩ := h
    refine aw_eq (L' := [(0, .ref (ad b0)), (1, .ref (ad b1)), (2, .int x2), (3, .int x3)]) (st' := [.int v2]) (m' := m1) ?_ rfl rfl rfl
    exact aw_ret (v := some (.int v2)) rfl (Or.inr (Or.inl ⟨_, .int, rfl, rfl, rfl, dX5_value_13⟩)) h
set_option maxRecDepth 100000 in
set_option maxHeartbeats 4000000 in
theorem g_X5_value_20 {ad : Nat → Nat} {d : Nat} {Q : Option Value → Wm → Prop} {m : Wm} {b0 b1 : Nat} {x2 x3 x4 x5 : Int32} (hb0 : Ru b0) (hb1 : St b1) (h : (((m.1 b0 4) ≤ x5 → (Ct ad μX11_clamp d [.int (m.1 (b0 + 2) (0 : Int32).toNatClampNeg), .int (-9999 : Int32), .int (9999 : Int32)] m (fun r m1 => ∃ v2 : Int32, r = some (.int v2) ∧ Q (some (.int v2)) m1))) ∧ (¬ (m.1 b0 4) ≤ x5 → (vp_in x5 40 ∧ (((1000 : Int32) ≤ (m.1 (b0 + 1) x5.toNatClampNeg) → (Ct ad μX5_rank d [.int ((m.1 (b0 + 1) x5.toNatClampNeg) - (1000 : Int32))] m (fun r m3 => ∃ v4 : Int32, r = some (.int v4) ∧ AW ad E0 μX5_value (d + 1) Q 59 [(0, .ref (ad b0)), (1, .ref (ad b1)), (2, .int x2), (3, .int x3), (4, .int x4), (5, .int x5), (6, .int (m.1 (b0 + 1) x5.toNatClampNeg))] [.int v4] m3))) ∧ (¬ (1000 : Int32) ≤ (m.1 (b0 + 1) x5.toNatClampNeg) → AW ad E0 μX5_value (d + 1) Q 59 [(0, .ref (ad b0)), (1, .ref (ad b1)), (2, .int x2), (3, .int x3), (4, .int x4), (5, .int x5), (6, .int (m.1 (b0 + 1) x5.toNatClampNeg))] [.int (0 : Int32)] m)))))) : AW ad E0 μX5_value (d + 1) Q 20 [(0, .ref (ad b0)), (1, .ref (ad b1)), (2, .int x2), (3, .int x3), (4, .int x4), (5, .int x5)] [] m := by
  refine aw_iload (j := 5) dX5_value_20 rfl ?_
  refine aw_aload_n (j := 0) dX5_value_22 rfl rfl ?_
  refine aw_getfield (c := 0) (v := .int (m.1 b0 4)) dX5_value_23 f_X5_25 hb0.1 rfl rfl ?_
  refine aw_icmp_ge (tgt := 193) dX5_value_26 (by decide) (fun hc => ?_) (fun hc => ?_)
  · have h := h.1 hc
    refine aw_aload_n (j := 0) dX5_value_193 rfl rfl ?_
    refine aw_getfield (c := b0 + 2 + 3) (v := .ref (ad (b0 + 2))) dX5_value_194 f_X5_15 hb0.1 rfl rfl ?_
    refine aw_iconst (v := 0) dX5_value_197 (by decide) ?_
    refine aw_iaload dX5_value_198 hb0.2.2.1 (by unfold vp_in; decide) ?_
    refine aw_sipush (v := -9999) dX5_value_199 (by decide) ?_
    refine aw_sipush (v := 9999) dX5_value_202 (by decide) ?_
    refine aw_callN (rest := []) [.int (m.1 (b0 + 2) (0 : Int32).toNatClampNeg), .int (-9999 : Int32), .int (9999 : Int32)] dX5_value_205 k_X5_102 rfl h (Nat.le_of_ble_eq_true rfl) (fun v m1 h => ?_)
    obtain ⟨v2, rfl, h⟩ := h
    refine aw_eq (L' := [(0, .ref (ad b0)), (1, .ref (ad b1)), (2, .int x2), (3, .int x3), (4, .int x4), (5, .int x5)]) (st' := [.int v2]) (m' := m1) ?_ rfl rfl rfl
    exact aw_ret (v := some (.int v2)) rfl (Or.inr (Or.inl ⟨_, .int, rfl, rfl, rfl, dX5_value_208⟩)) h
  · have h := h.2 hc
    refine aw_aload_n (j := 0) dX5_value_29 rfl rfl ?_
    refine aw_getfield (c := b0 + 1 + 3) (v := .ref (ad (b0 + 1))) dX5_value_30 f_X5_11 hb0.1 rfl rfl ?_
    refine aw_iload (j := 5) dX5_value_33 rfl ?_
    obtain ⟨hi, h⟩ := h
    refine aw_iaload dX5_value_35 hb0.2.1 hi ?_
    refine aw_istore (L' := [(6, .int (m.1 (b0 + 1) x5.toNatClampNeg)), (0, .ref (ad b0)), (1, .ref (ad b1)), (2, .int x2), (3, .int x3), (4, .int x4), (5, .int x5)]) dX5_value_36 (by decide) rfl ?_
    refine aw_iload (j := 0) dX5_value_38 rfl ?_
    refine aw_sipush (v := 1000) dX5_value_40 (by decide) ?_
    refine aw_icmp_ge (tgt := 50) dX5_value_43 (by decide) (fun hc => ?_) (fun hc => ?_)
    · have h := h.1 hc
      refine aw_iload (j := 0) dX5_value_50 rfl ?_
      refine aw_sipush (v := 1000) dX5_value_52 (by decide) ?_
      refine aw_isub dX5_value_55 ?_
      refine aw_callS (rest := []) [.int ((m.1 (b0 + 1) x5.toNatClampNeg) - (1000 : Int32))] dX5_value_56 k_X5_85 rfl h (Nat.le_of_ble_eq_true rfl) (fun v m3 h => ?_)
      obtain ⟨v4, rfl, h⟩ := h
      refine aw_eq (L' := [(6, .int (m.1 (b0 + 1) x5.toNatClampNeg)), (0, .ref (ad b0)), (1, .ref (ad b1)), (2, .int x2), (3, .int x3), (4, .int x4), (5, .int x5)]) (st' := [.int v4]) (m' := m3) ?_ rfl rfl rfl
      exact aw_sub [1, 2, 3, 4, 5, 6, 0] rfl h
    · have h := h.2 hc
      refine aw_iconst (v := 0) dX5_value_46 (by decide) ?_
      refine aw_goto (tgt := 59) dX5_value_47 (by decide) ?_
      exact aw_sub [1, 2, 3, 4, 5, 6, 0] rfl h
set_option maxRecDepth 100000 in
set_option maxHeartbeats 4000000 in
theorem g_X5_value_59 {ad : Nat → Nat} {d : Nat} {Q : Option Value → Wm → Prop} {m : Wm} {b0 b1 : Nat} {x2 x3 x4 x5 x6 s0 : Int32} (hb0 : Ru b0) (hb1 : St b1) (h : ((¬ s0 = 0 → AW ad E0 μX5_value (d + 1) Q 111 [(0, .ref (ad b0)), (1, .ref (ad b1)), (2, .int x2), (3, .int x3), (4, .int x4), (5, .int x5), (6, .int x6), (7, .int s0)] [] m) ∧ (s0 = 0 → (((40 : Int32) ≤ x4 → AW ad E0 μX5_value (d + 1) Q 111 [(0, .ref (ad b0)), (1, .ref (ad b1)), (2, .int x2), (3, .int x3), (4, .int x4), (5, .int x5), (6, .int x6), (7, .int s0)] [] m) ∧ (¬ (40 : Int32) ≤ x4 → (((1000 : Int32) ≤ x6 → (Ct ad μX5_thing d [.int (x6 - (1000 : Int32)), .ref (ad b1), .int x2, .int x3] m (fun r m1 => ∃ v2 : Int32, r = some (.int v2) ∧ (vp_in x4 40 ∧ AW ad E0 μX5_value (d + 1) Q 20 [(0, .ref (ad b0)), (1, .ref (ad b1)), (2, .int x2), (3, .int x3), (4, .int (x4 + (1 : Int32))), (5, .int (x5 + (1 : Int32)))] [] (uI m1 (b0 + 2) x4.toNatClampNeg v2))))) ∧ (¬ (1000 : Int32) ≤ x6 → (vp_in x4 40 ∧ AW ad E0 μX5_value (d + 1) Q 20 [(0, .ref (ad b0)), (1, .ref (ad b1)), (2, .int x2), (3, .int x3), (4, .int (x4 + (1 : Int32))), (5, .int (x5 + (1 : Int32)))] [] (uI m (b0 + 2) x4.toNatClampNeg x6))))))))) : AW ad E0 μX5_value (d + 1) Q 59 [(0, .ref (ad b0)), (1, .ref (ad b1)), (2, .int x2), (3, .int x3), (4, .int x4), (5, .int x5), (6, .int x6)] [.int s0] m := by
  refine aw_istore (L' := [(7, .int s0), (0, .ref (ad b0)), (1, .ref (ad b1)), (2, .int x2), (3, .int x3), (4, .int x4), (5, .int x5), (6, .int x6)]) dX5_value_59 (by decide) rfl ?_
  refine aw_iload (j := 0) dX5_value_61 rfl ?_
  refine aw_if_ne (tgt := 111) dX5_value_63 (by decide) (fun hc => ?_) (fun hc => ?_)
  · have h := h.1 hc
    exact aw_sub [1, 2, 3, 4, 5, 6, 7, 0] rfl h
  · have h := h.2 hc
    refine aw_iload (j := 5) dX5_value_66 rfl ?_
    refine aw_bipush (v := 40) dX5_value_68 (by decide) ?_
    refine aw_icmp_ge (tgt := 111) dX5_value_70 (by decide) (fun hc => ?_) (fun hc => ?_)
    · have h := h.1 hc
      exact aw_sub [1, 2, 3, 4, 5, 6, 7, 0] rfl h
    · have h := h.2 hc
      refine aw_aload_n (j := 1) dX5_value_73 rfl rfl ?_
      refine aw_getfield (c := b0 + 2 + 3) (v := .ref (ad (b0 + 2))) dX5_value_74 f_X5_15 hb0.1 rfl rfl ?_
      refine aw_iload (j := 5) dX5_value_77 rfl ?_
      refine aw_iload (j := 7) dX5_value_79 rfl ?_
      refine aw_sipush (v := 1000) dX5_value_81 (by decide) ?_
      refine aw_icmp_ge (tgt := 92) dX5_value_84 (by decide) (fun hc => ?_) (fun hc => ?_)
      · have h := h.1 hc
        refine aw_iload (j := 7) dX5_value_92 rfl ?_
        refine aw_sipush (v := 1000) dX5_value_94 (by decide) ?_
        refine aw_isub dX5_value_97 ?_
        refine aw_aload_n (j := 2) dX5_value_98 rfl rfl ?_
        refine aw_iload_n (j := 3) dX5_value_99 rfl rfl ?_
        refine aw_iload_n (j := 4) dX5_value_100 rfl rfl ?_
        refine aw_callS (rest := [.int x4, .ref (ad (b0 + 2))]) [.int (x6 - (1000 : Int32)), .ref (ad b1), .int x2, .int x3] dX5_value_101 k_X5_94 rfl h (Nat.le_of_ble_eq_true rfl) (fun v m1 h => ?_)
        obtain ⟨v2, rfl, h⟩ := h
        refine aw_eq (L' := [(7, .int s0), (0, .ref (ad b0)), (1, .ref (ad b1)), (2, .int x2), (3, .int x3), (4, .int x4), (5, .int x5), (6, .int x6)]) (st' := [.int v2, .int x4, .ref (ad (b0 + 2))]) (m' := m1) ?_ rfl rfl rfl
        obtain ⟨hi, h⟩ := h
        refine aw_iastore dX5_value_104 hb0.2.2.1 hi ?_
        refine aw_iinc (j := 5) (v := x4 + (1 : Int32)) (L' := [(4, .int (x4 + (1 : Int32))), (7, .int s0), (0, .ref (ad b0)), (1, .ref (ad b1)), (2, .int x2), (3, .int x3), (5, .int x5), (6, .int x6)]) dX5_value_105 rfl rfl (by decide) rfl ?_
        refine aw_goto (tgt := 187) dX5_value_108 (by decide) ?_
        refine aw_iinc (j := 6) (v := x5 + (1 : Int32)) (L' := [(5, .int (x5 + (1 : Int32))), (4, .int (x4 + (1 : Int32))), (7, .int s0), (0, .ref (ad b0)), (1, .ref (ad b1)), (2, .int x2), (3, .int x3), (6, .int x6)]) dX5_value_187 rfl rfl (by decide) rfl ?_
        refine aw_goto (tgt := 20) dX5_value_190 (by decide) ?_
        exact aw_sub [3, 4, 5, 6, 1, 0] rfl h
      · have h := h.2 hc
        refine aw_iload (j := 7) dX5_value_87 rfl ?_
        refine aw_goto (tgt := 104) dX5_value_89 (by decide) ?_
        obtain ⟨hi, h⟩ := h
        refine aw_iastore dX5_value_104 hb0.2.2.1 hi ?_
        refine aw_iinc (j := 5) (v := x4 + (1 : Int32)) (L' := [(4, .int (x4 + (1 : Int32))), (7, .int s0), (0, .ref (ad b0)), (1, .ref (ad b1)), (2, .int x2), (3, .int x3), (5, .int x5), (6, .int x6)]) dX5_value_105 rfl rfl (by decide) rfl ?_
        refine aw_goto (tgt := 187) dX5_value_108 (by decide) ?_
        refine aw_iinc (j := 6) (v := x5 + (1 : Int32)) (L' := [(5, .int (x5 + (1 : Int32))), (4, .int (x4 + (1 : Int32))), (7, .int s0), (0, .ref (ad b0)), (1, .ref (ad b1)), (2, .int x2), (3, .int x3), (6, .int x6)]) dX5_value_187 rfl rfl (by decide) rfl ?_
        refine aw_goto (tgt := 20) dX5_value_190 (by decide) ?_
        exact aw_sub [3, 4, 5, 6, 1, 0] rfl h
set_option maxRecDepth 100000 in
set_option maxHeartbeats 4000000 in
theorem g_X5_value_111 {ad : Nat → Nat} {d : Nat} {Q : Option Value → Wm → Prop} {m : Wm} {b0 b1 : Nat} {x2 x3 x4 x5 x6 x7 : Int32} (hb0 : Ru b0) (hb1 : St b1) (h : ((¬ x7 = (4 : Int32) → AW ad E0 μX5_value (d + 1) Q 144 [(0, .ref (ad b0)), (1, .ref (ad b1)), (2, .int x2), (3, .int x3), (4, .int x4), (5, .int x5), (6, .int x6)] [] m) ∧ (x7 = (4 : Int32) → ((x4 ≤ 0 → AW ad E0 μX5_value (d + 1) Q 144 [(0, .ref (ad b0)), (1, .ref (ad b1)), (2, .int x2), (3, .int x3), (4, .int x4), (5, .int x5), (6, .int x6)] [] m) ∧ (¬ x4 ≤ 0 → (vp_in (x4 - (1 : Int32)) 40 ∧ (vp_in (x4 - (1 : Int32)) 40 ∧ AW ad E0 μX5_value (d + 1) Q 20 [(0, .ref (ad b0)), (1, .ref (ad b1)), (2, .int x2), (3, .int x3), (4, .int x4), (5, .int (x5 + (1 : Int32)))] [] (uI m (b0 + 2) (x4 - (1 : Int32)).toNatClampNeg (-(m.1 (b0 + 2) (x4 - (1 : Int32)).toNatClampNeg)))))))))) : AW ad E0 μX5_value (d + 1) Q 111 [(0, .ref (ad b0)), (1, .ref (ad b1)), (2, .int x2), (3, .int x3), (4, .int x4), (5, .int x5), (6, .int x6), (7, .int x7)] [] m := by
  refine aw_iload (j := 7) dX5_value_111 rfl ?_
  refine aw_iconst (v := 4) dX5_value_113 (by decide) ?_
  refine aw_icmp_ne (tgt := 144) dX5_value_114 (by decide) (fun hc => ?_) (fun hc => ?_)
  · have h := h.1 hc
    exact aw_sub [0, 1, 2, 3, 4, 5, 6] rfl h
  · have h := h.2 hc
    refine aw_iload (j := 4) dX5_value_117 rfl ?_
    refine aw_if_le (tgt := 144) dX5_value_119 (by decide) (fun hc => ?_) (fun hc => ?_)
    · have h := h.1 hc
      exact aw_sub [0, 1, 2, 3, 4, 5, 6] rfl h
    · have h := h.2 hc
      refine aw_aload_n (j := 0) dX5_value_122 rfl rfl ?_
      refine aw_getfield (c := b0 + 2 + 3) (v := .ref (ad (b0 + 2))) dX5_value_123 f_X5_15 hb0.1 rfl rfl ?_
      refine aw_iload (j := 4) dX5_value_126 rfl ?_
      refine aw_iconst (v := 1) dX5_value_128 (by decide) ?_
      refine aw_isub dX5_value_129 ?_
      refine aw_aload_n (j := 0) dX5_value_130 rfl rfl ?_
      refine aw_getfield (c := b0 + 2 + 3) (v := .ref (ad (b0 + 2))) dX5_value_131 f_X5_15 hb0.1 rfl rfl ?_
      refine aw_iload (j := 4) dX5_value_134 rfl ?_
      refine aw_iconst (v := 1) dX5_value_136 (by decide) ?_
      refine aw_isub dX5_value_137 ?_
      obtain ⟨hi, h⟩ := h
      refine aw_iaload dX5_value_138 hb0.2.2.1 hi ?_
      refine aw_ineg dX5_value_139 ?_
      obtain ⟨hi, h⟩ := h
      refine aw_iastore dX5_value_140 hb0.2.2.1 hi ?_
      refine aw_goto (tgt := 187) dX5_value_141 (by decide) ?_
      refine aw_iinc (j := 5) (v := x5 + (1 : Int32)) (L' := [(5, .int (x5 + (1 : Int32))), (0, .ref (ad b0)), (1, .ref (ad b1)), (2, .int x2), (3, .int x3), (4, .int x4), (6, .int x6), (7, .int x7)]) dX5_value_187 rfl rfl (by decide) rfl ?_
      refine aw_goto (tgt := 20) dX5_value_190 (by decide) ?_
      exact aw_sub [1, 2, 3, 4, 5, 0] rfl h
set_option maxRecDepth 100000 in
set_option maxHeartbeats 4000000 in
theorem g_X5_value_144 {ad : Nat → Nat} {d : Nat} {Q : Option Value → Wm → Prop} {m : Wm} {b0 b1 : Nat} {x2 x3 x4 x5 x6 : Int32} (hb0 : Ru b0) (hb1 : St b1) (h : ((x4 ≤ (1 : Int32) → AW ad E0 μX5_value (d + 1) Q 20 [(0, .ref (ad b0)), (1, .ref (ad b1)), (2, .int x2), (3, .int x3), (4, .int x4), (5, .int (x5 + (1 : Int32)))] [] m) ∧ (¬ x4 ≤ (1 : Int32) → (vp_in ((x4 + (-1 : Int32)) - (1 : Int32)) 40 ∧ (vp_in (x4 + (-1 : Int32)) 40 ∧ (Ct ad μX5_joined d [.int (x6 - (1000 : Int32)), .int (m.1 (b0 + 2) ((x4 + (-1 : Int32)) - (1 : Int32)).toNatClampNeg), .int (m.1 (b0 + 2) (x4 + (-1 : Int32)).toNatClampNeg)] m (fun r m1 => ∃ v2 : Int32, r = some (.int v2) ∧ (vp_in ((x4 + (-1 : Int32)) - (1 : Int32)) 40 ∧ AW ad E0 μX5_value (d + 1) Q 20 [(0, .ref (ad b0)), (1, .ref (ad b1)), (2, .int x2), (3, .int x3), (4, .int (x4 + (-1 : Int32))), (5, .int (x5 + (1 : Int32)))] [] (uI m1 (b0 + 2) ((x4 + (-1 : Int32)) - (1 : Int32)).toNatClampNeg v2))))))))) : AW ad E0 μX5_value (d + 1) Q 144 [(0, .ref (ad b0)), (1, .ref (ad b1)), (2, .int x2), (3, .int x3), (4, .int x4), (5, .int x5), (6, .int x6)] [] m := by
  refine aw_iload (j := 4) dX5_value_144 rfl ?_
  refine aw_iconst (v := 1) dX5_value_146 (by decide) ?_
  refine aw_icmp_le (tgt := 187) dX5_value_147 (by decide) (fun hc => ?_) (fun hc => ?_)
  · have h := h.1 hc
    refine aw_iinc (j := 5) (v := x5 + (1 : Int32)) (L' := [(5, .int (x5 + (1 : Int32))), (0, .ref (ad b0)), (1, .ref (ad b1)), (2, .int x2), (3, .int x3), (4, .int x4), (6, .int x6)]) dX5_value_187 rfl rfl (by decide) rfl ?_
    refine aw_goto (tgt := 20) dX5_value_190 (by decide) ?_
    exact aw_sub [1, 2, 3, 4, 5, 0] rfl h
  · have h := h.2 hc
    refine aw_iinc (j := 4) (v := x4 + (-1 : Int32)) (L' := [(4, .int (x4 + (-1 : Int32))), (0, .ref (ad b0)), (1, .ref (ad b1)), (2, .int x2), (3, .int x3), (5, .int x5), (6, .int x6)]) dX5_value_150 rfl rfl (by decide) rfl ?_
    refine aw_aload_n (j := 1) dX5_value_153 rfl rfl ?_
    refine aw_getfield (c := b0 + 2 + 3) (v := .ref (ad (b0 + 2))) dX5_value_154 f_X5_15 hb0.1 rfl rfl ?_
    refine aw_iload (j := 0) dX5_value_157 rfl ?_
    refine aw_iconst (v := 1) dX5_value_159 (by decide) ?_
    refine aw_isub dX5_value_160 ?_
    refine aw_iload (j := 6) dX5_value_161 rfl ?_
    refine aw_sipush (v := 1000) dX5_value_163 (by decide) ?_
    refine aw_isub dX5_value_166 ?_
    refine aw_aload_n (j := 1) dX5_value_167 rfl rfl ?_
    refine aw_getfield (c := b0 + 2 + 3) (v := .ref (ad (b0 + 2))) dX5_value_168 f_X5_15 hb0.1 rfl rfl ?_
    refine aw_iload (j := 0) dX5_value_171 rfl ?_
    refine aw_iconst (v := 1) dX5_value_173 (by decide) ?_
    refine aw_isub dX5_value_174 ?_
    obtain ⟨hi, h⟩ := h
    refine aw_iaload dX5_value_175 hb0.2.2.1 hi ?_
    refine aw_aload_n (j := 1) dX5_value_176 rfl rfl ?_
    refine aw_getfield (c := b0 + 2 + 3) (v := .ref (ad (b0 + 2))) dX5_value_177 f_X5_15 hb0.1 rfl rfl ?_
    refine aw_iload (j := 0) dX5_value_180 rfl ?_
    obtain ⟨hi, h⟩ := h
    refine aw_iaload dX5_value_182 hb0.2.2.1 hi ?_
    refine aw_callS (rest := [.int ((x4 + (-1 : Int32)) - (1 : Int32)), .ref (ad (b0 + 2))]) [.int (x6 - (1000 : Int32)), .int (m.1 (b0 + 2) ((x4 + (-1 : Int32)) - (1 : Int32)).toNatClampNeg), .int (m.1 (b0 + 2) (x4 + (-1 : Int32)).toNatClampNeg)] dX5_value_183 k_X5_98 rfl h (Nat.le_of_ble_eq_true rfl) (fun v m1 h => ?_)
    obtain ⟨v2, rfl, h⟩ := h
    refine aw_eq (L' := [(4, .int (x4 + (-1 : Int32))), (0, .ref (ad b0)), (1, .ref (ad b1)), (2, .int x2), (3, .int x3), (5, .int x5), (6, .int x6)]) (st' := [.int v2, .int ((x4 + (-1 : Int32)) - (1 : Int32)), .ref (ad (b0 + 2))]) (m' := m1) ?_ rfl rfl rfl
    obtain ⟨hi, h⟩ := h
    refine aw_iastore dX5_value_186 hb0.2.2.1 hi ?_
    refine aw_iinc (j := 5) (v := x5 + (1 : Int32)) (L' := [(5, .int (x5 + (1 : Int32))), (4, .int (x4 + (-1 : Int32))), (0, .ref (ad b0)), (1, .ref (ad b1)), (2, .int x2), (3, .int x3), (6, .int x6)]) dX5_value_187 rfl rfl (by decide) rfl ?_
    refine aw_goto (tgt := 20) dX5_value_190 (by decide) ?_
    exact aw_sub [2, 3, 4, 5, 1, 0] rfl h
set_option maxRecDepth 100000 in
set_option maxHeartbeats 4000000 in
theorem v_X5_thing {ad : Nat → Nat} {d : Nat} {Q : Option Value → Wm → Prop} {m : Wm} {b1 : Nat} {x0 x2 x3 : Int32} (hb1 : St b1) (h : ((x0 = 105 → Q (some (.int x2)) m) ∧ (x0 = 108 → (Ct ad μX8_least d [.ref (ad b1), .int x2, .int x3] m (fun r m3 => ∃ v4 : Int32, r = some (.int v4) ∧ Q (some (.int v4)) m3))) ∧ (x0 = 109 → (Ct ad μX8_greatest d [.ref (ad b1), .int x2, .int x3] m (fun r m5 => ∃ v6 : Int32, r = some (.int v6) ∧ Q (some (.int v6)) m5))) ∧ (x0 = 112 → (vp_in x2 8 ∧ Q (some (.int (m.1 (b1 + 2) x2.toNatClampNeg))) m)) ∧ (x0 = 114 → (vp_in x2 8 ∧ Q (some (.int (m.1 (b1 + 3) x2.toNatClampNeg))) m)) ∧ (x0 = 115 → (Ct ad μX8_sum d [.ref (ad b1), .int x2, .int x3] m (fun r m7 => ∃ v8 : Int32, r = some (.int v8) ∧ Q (some (.int v8)) m7))) ∧ (¬ x0 = 105 → ¬ x0 = 108 → ¬ x0 = 109 → ¬ x0 = 112 → ¬ x0 = 114 → ¬ x0 = 115 → ((x3 ≤ (x0 - (97 : Int32)) → Q (some (.int (0 : Int32))) m) ∧ (¬ x3 ≤ (x0 - (97 : Int32)) → (Ct ad μX8_skillOf d [.ref (ad b1), .int x2, .int (x0 - (97 : Int32))] m (fun r m1 => ∃ v2 : Int32, r = some (.int v2) ∧ Q (some (.int v2)) m1))))))) : Ct ad μX5_thing (d + 1) [.int x0, .ref (ad b1), .int x2, .int x3] m Q := by
  refine Ct.of (by decide +kernel) rfl (Nat.le_of_ble_eq_true rfl) ?_
  refine aw_eq (L' := [(0, .int x0), (1, .ref (ad b1)), (2, .int x2), (3, .int x3)]) ?_ rfl rfl rfl
  refine aw_iload_n (j := 0) dX5_thing_0 rfl rfl ?_
  by_cases c0 : x0 = 105
  · have h := h.1 c0
    refine aw_tswIn (tgt := 81) dX5_thing_1 c0 (by decide) (by decide) (by first | rfl | decide) (by decide) ?_
    refine aw_iload_n (j := 2) dX5_thing_81 rfl rfl ?_
    exact aw_ret (v := some (.int x2)) rfl (Or.inr (Or.inl ⟨_, .int, rfl, rfl, rfl, dX5_thing_82⟩)) h
  by_cases c1 : x0 = 108
  · have h := h.2.1 c1
    refine aw_tswIn (tgt := 74) dX5_thing_1 c1 (by decide) (by decide) (by first | rfl | decide) (by decide) ?_
    refine aw_aload_n (j := 1) dX5_thing_74 rfl rfl ?_
    refine aw_iload_n (j := 2) dX5_thing_75 rfl rfl ?_
    refine aw_iload_n (j := 3) dX5_thing_76 rfl rfl ?_
    refine aw_callV (rest := []) [.int x2, .int x3] dX5_thing_77 hb1.1 rfl k_X5_108 rfl h (Nat.le_of_ble_eq_true rfl) (fun v m3 h => ?_)
    obtain ⟨v4, rfl, h⟩ := h
    refine aw_eq (L' := [(0, .int x0), (1, .ref (ad b1)), (2, .int x2), (3, .int x3)]) (st' := [.int v4]) (m' := m3) ?_ rfl rfl rfl
    exact aw_ret (v := some (.int v4)) rfl (Or.inr (Or.inl ⟨_, .int, rfl, rfl, rfl, dX5_thing_80⟩)) h
  by_cases c2 : x0 = 109
  · have h := h.2.2.1 c2
    refine aw_tswIn (tgt := 67) dX5_thing_1 c2 (by decide) (by decide) (by first | rfl | decide) (by decide) ?_
    refine aw_aload_n (j := 1) dX5_thing_67 rfl rfl ?_
    refine aw_iload_n (j := 2) dX5_thing_68 rfl rfl ?_
    refine aw_iload_n (j := 3) dX5_thing_69 rfl rfl ?_
    refine aw_callV (rest := []) [.int x2, .int x3] dX5_thing_70 hb1.1 rfl k_X5_105 rfl h (Nat.le_of_ble_eq_true rfl) (fun v m5 h => ?_)
    obtain ⟨v6, rfl, h⟩ := h
    refine aw_eq (L' := [(0, .int x0), (1, .ref (ad b1)), (2, .int x2), (3, .int x3)]) (st' := [.int v6]) (m' := m5) ?_ rfl rfl rfl
    exact aw_ret (v := some (.int v6)) rfl (Or.inr (Or.inl ⟨_, .int, rfl, rfl, rfl, dX5_thing_73⟩)) h
  by_cases c3 : x0 = 112
  · have h := h.2.2.2.1 c3
    refine aw_tswIn (tgt := 83) dX5_thing_1 c3 (by decide) (by decide) (by first | rfl | decide) (by decide) ?_
    refine aw_aload_n (j := 1) dX5_thing_83 rfl rfl ?_
    refine aw_getfield (c := b1 + 2 + 3) (v := .ref (ad (b1 + 2))) dX5_thing_84 f_X5_111 hb1.1 rfl rfl ?_
    refine aw_iload_n (j := 2) dX5_thing_87 rfl rfl ?_
    obtain ⟨hi, h⟩ := h
    refine aw_iaload dX5_thing_88 hb1.2.2.1 hi ?_
    exact aw_ret (v := some (.int (m.1 (b1 + 2) x2.toNatClampNeg))) rfl (Or.inr (Or.inl ⟨_, .int, rfl, rfl, rfl, dX5_thing_89⟩)) h
  by_cases c4 : x0 = 114
  · have h := h.2.2.2.2.1 c4
    refine aw_tswIn (tgt := 90) dX5_thing_1 c4 (by decide) (by decide) (by first | rfl | decide) (by decide) ?_
    refine aw_aload_n (j := 1) dX5_thing_90 rfl rfl ?_
    refine aw_getfield (c := b1 + 3 + 3) (v := .ref (ad (b1 + 3))) dX5_thing_91 f_X5_114 hb1.1 rfl rfl ?_
    refine aw_iload_n (j := 2) dX5_thing_94 rfl rfl ?_
    obtain ⟨hi, h⟩ := h
    refine aw_iaload dX5_thing_95 hb1.2.2.2.1 hi ?_
    exact aw_ret (v := some (.int (m.1 (b1 + 3) x2.toNatClampNeg))) rfl (Or.inr (Or.inl ⟨_, .int, rfl, rfl, rfl, dX5_thing_96⟩)) h
  by_cases c5 : x0 = 115
  · have h := h.2.2.2.2.2.1 c5
    refine aw_tswIn (tgt := 60) dX5_thing_1 c5 (by decide) (by decide) (by first | rfl | decide) (by decide) ?_
    refine aw_aload_n (j := 1) dX5_thing_60 rfl rfl ?_
    refine aw_iload_n (j := 2) dX5_thing_61 rfl rfl ?_
    refine aw_iload_n (j := 3) dX5_thing_62 rfl rfl ?_
    refine aw_callV (rest := []) [.int x2, .int x3] dX5_thing_63 hb1.1 rfl k_X5_89 rfl h (Nat.le_of_ble_eq_true rfl) (fun v m7 h => ?_)
    obtain ⟨v8, rfl, h⟩ := h
    refine aw_eq (L' := [(0, .int x0), (1, .ref (ad b1)), (2, .int x2), (3, .int x3)]) (st' := [.int v8]) (m' := m7) ?_ rfl rfl rfl
    exact aw_ret (v := some (.int v8)) rfl (Or.inr (Or.inl ⟨_, .int, rfl, rfl, rfl, dX5_thing_66⟩)) h
  by_cases k0 : x0 = 106
  · have h := h.2.2.2.2.2.2 c0 c1 c2 c3 c4 c5
    refine aw_tswIn (tgt := 97) dX5_thing_1 k0 (by decide) (by decide) (by first | rfl | decide) (by decide) ?_
    refine aw_iload_n (j := 0) dX5_thing_97 rfl rfl ?_
    refine aw_bipush (v := 97) dX5_thing_98 (by decide) ?_
    refine aw_isub dX5_thing_100 ?_
    refine aw_iload_n (j := 3) dX5_thing_101 rfl rfl ?_
    refine aw_icmp_ge (tgt := 117) dX5_thing_102 (by decide) (fun hc => ?_) (fun hc => ?_)
    · have h := h.1 hc
      refine aw_iconst (v := 0) dX5_thing_117 (by decide) ?_
      exact aw_ret (v := some (.int (0 : Int32))) rfl (Or.inr (Or.inl ⟨_, .int, rfl, rfl, rfl, dX5_thing_118⟩)) h
    · have h := h.2 hc
      refine aw_aload_n (j := 1) dX5_thing_105 rfl rfl ?_
      refine aw_iload_n (j := 2) dX5_thing_106 rfl rfl ?_
      refine aw_iload_n (j := 0) dX5_thing_107 rfl rfl ?_
      refine aw_bipush (v := 97) dX5_thing_108 (by decide) ?_
      refine aw_isub dX5_thing_110 ?_
      refine aw_callV (rest := []) [.int x2, .int (x0 - (97 : Int32))] dX5_thing_111 hb1.1 rfl k_X5_117 rfl h (Nat.le_of_ble_eq_true rfl) (fun v m1 h => ?_)
      obtain ⟨v2, rfl, h⟩ := h
      refine aw_eq (L' := [(0, .int x0), (1, .ref (ad b1)), (2, .int x2), (3, .int x3)]) (st' := [.int v2]) (m' := m1) ?_ rfl rfl rfl
      refine aw_goto (tgt := 118) dX5_thing_114 (by decide) ?_
      exact aw_ret (v := some (.int v2)) rfl (Or.inr (Or.inl ⟨_, .int, rfl, rfl, rfl, dX5_thing_118⟩)) h
  by_cases k1 : x0 = 107
  · have h := h.2.2.2.2.2.2 c0 c1 c2 c3 c4 c5
    refine aw_tswIn (tgt := 97) dX5_thing_1 k1 (by decide) (by decide) (by first | rfl | decide) (by decide) ?_
    refine aw_iload_n (j := 0) dX5_thing_97 rfl rfl ?_
    refine aw_bipush (v := 97) dX5_thing_98 (by decide) ?_
    refine aw_isub dX5_thing_100 ?_
    refine aw_iload_n (j := 3) dX5_thing_101 rfl rfl ?_
    refine aw_icmp_ge (tgt := 117) dX5_thing_102 (by decide) (fun hc => ?_) (fun hc => ?_)
    · have h := h.1 hc
      refine aw_iconst (v := 0) dX5_thing_117 (by decide) ?_
      exact aw_ret (v := some (.int (0 : Int32))) rfl (Or.inr (Or.inl ⟨_, .int, rfl, rfl, rfl, dX5_thing_118⟩)) h
    · have h := h.2 hc
      refine aw_aload_n (j := 1) dX5_thing_105 rfl rfl ?_
      refine aw_iload_n (j := 2) dX5_thing_106 rfl rfl ?_
      refine aw_iload_n (j := 0) dX5_thing_107 rfl rfl ?_
      refine aw_bipush (v := 97) dX5_thing_108 (by decide) ?_
      refine aw_isub dX5_thing_110 ?_
      refine aw_callV (rest := []) [.int x2, .int (x0 - (97 : Int32))] dX5_thing_111 hb1.1 rfl k_X5_117 rfl h (Nat.le_of_ble_eq_true rfl) (fun v m1 h => ?_)
      obtain ⟨v2, rfl, h⟩ := h
      refine aw_eq (L' := [(0, .int x0), (1, .ref (ad b1)), (2, .int x2), (3, .int x3)]) (st' := [.int v2]) (m' := m1) ?_ rfl rfl rfl
      refine aw_goto (tgt := 118) dX5_thing_114 (by decide) ?_
      exact aw_ret (v := some (.int v2)) rfl (Or.inr (Or.inl ⟨_, .int, rfl, rfl, rfl, dX5_thing_118⟩)) h
  by_cases k2 : x0 = 110
  · have h := h.2.2.2.2.2.2 c0 c1 c2 c3 c4 c5
    refine aw_tswIn (tgt := 97) dX5_thing_1 k2 (by decide) (by decide) (by first | rfl | decide) (by decide) ?_
    refine aw_iload_n (j := 0) dX5_thing_97 rfl rfl ?_
    refine aw_bipush (v := 97) dX5_thing_98 (by decide) ?_
    refine aw_isub dX5_thing_100 ?_
    refine aw_iload_n (j := 3) dX5_thing_101 rfl rfl ?_
    refine aw_icmp_ge (tgt := 117) dX5_thing_102 (by decide) (fun hc => ?_) (fun hc => ?_)
    · have h := h.1 hc
      refine aw_iconst (v := 0) dX5_thing_117 (by decide) ?_
      exact aw_ret (v := some (.int (0 : Int32))) rfl (Or.inr (Or.inl ⟨_, .int, rfl, rfl, rfl, dX5_thing_118⟩)) h
    · have h := h.2 hc
      refine aw_aload_n (j := 1) dX5_thing_105 rfl rfl ?_
      refine aw_iload_n (j := 2) dX5_thing_106 rfl rfl ?_
      refine aw_iload_n (j := 0) dX5_thing_107 rfl rfl ?_
      refine aw_bipush (v := 97) dX5_thing_108 (by decide) ?_
      refine aw_isub dX5_thing_110 ?_
      refine aw_callV (rest := []) [.int x2, .int (x0 - (97 : Int32))] dX5_thing_111 hb1.1 rfl k_X5_117 rfl h (Nat.le_of_ble_eq_true rfl) (fun v m1 h => ?_)
      obtain ⟨v2, rfl, h⟩ := h
      refine aw_eq (L' := [(0, .int x0), (1, .ref (ad b1)), (2, .int x2), (3, .int x3)]) (st' := [.int v2]) (m' := m1) ?_ rfl rfl rfl
      refine aw_goto (tgt := 118) dX5_thing_114 (by decide) ?_
      exact aw_ret (v := some (.int v2)) rfl (Or.inr (Or.inl ⟨_, .int, rfl, rfl, rfl, dX5_thing_118⟩)) h
  by_cases k3 : x0 = 111
  · have h := h.2.2.2.2.2.2 c0 c1 c2 c3 c4 c5
    refine aw_tswIn (tgt := 97) dX5_thing_1 k3 (by decide) (by decide) (by first | rfl | decide) (by decide) ?_
    refine aw_iload_n (j := 0) dX5_thing_97 rfl rfl ?_
    refine aw_bipush (v := 97) dX5_thing_98 (by decide) ?_
    refine aw_isub dX5_thing_100 ?_
    refine aw_iload_n (j := 3) dX5_thing_101 rfl rfl ?_
    refine aw_icmp_ge (tgt := 117) dX5_thing_102 (by decide) (fun hc => ?_) (fun hc => ?_)
    · have h := h.1 hc
      refine aw_iconst (v := 0) dX5_thing_117 (by decide) ?_
      exact aw_ret (v := some (.int (0 : Int32))) rfl (Or.inr (Or.inl ⟨_, .int, rfl, rfl, rfl, dX5_thing_118⟩)) h
    · have h := h.2 hc
      refine aw_aload_n (j := 1) dX5_thing_105 rfl rfl ?_
      refine aw_iload_n (j := 2) dX5_thing_106 rfl rfl ?_
      refine aw_iload_n (j := 0) dX5_thing_107 rfl rfl ?_
      refine aw_bipush (v := 97) dX5_thing_108 (by decide) ?_
      refine aw_isub dX5_thing_110 ?_
      refine aw_callV (rest := []) [.int x2, .int (x0 - (97 : Int32))] dX5_thing_111 hb1.1 rfl k_X5_117 rfl h (Nat.le_of_ble_eq_true rfl) (fun v m1 h => ?_)
      obtain ⟨v2, rfl, h⟩ := h
      refine aw_eq (L' := [(0, .int x0), (1, .ref (ad b1)), (2, .int x2), (3, .int x3)]) (st' := [.int v2]) (m' := m1) ?_ rfl rfl rfl
      refine aw_goto (tgt := 118) dX5_thing_114 (by decide) ?_
      exact aw_ret (v := some (.int v2)) rfl (Or.inr (Or.inl ⟨_, .int, rfl, rfl, rfl, dX5_thing_118⟩)) h
  by_cases k4 : x0 = 113
  · have h := h.2.2.2.2.2.2 c0 c1 c2 c3 c4 c5
    refine aw_tswIn (tgt := 97) dX5_thing_1 k4 (by decide) (by decide) (by first | rfl | decide) (by decide) ?_
    refine aw_iload_n (j := 0) dX5_thing_97 rfl rfl ?_
    refine aw_bipush (v := 97) dX5_thing_98 (by decide) ?_
    refine aw_isub dX5_thing_100 ?_
    refine aw_iload_n (j := 3) dX5_thing_101 rfl rfl ?_
    refine aw_icmp_ge (tgt := 117) dX5_thing_102 (by decide) (fun hc => ?_) (fun hc => ?_)
    · have h := h.1 hc
      refine aw_iconst (v := 0) dX5_thing_117 (by decide) ?_
      exact aw_ret (v := some (.int (0 : Int32))) rfl (Or.inr (Or.inl ⟨_, .int, rfl, rfl, rfl, dX5_thing_118⟩)) h
    · have h := h.2 hc
      refine aw_aload_n (j := 1) dX5_thing_105 rfl rfl ?_
      refine aw_iload_n (j := 2) dX5_thing_106 rfl rfl ?_
      refine aw_iload_n (j := 0) dX5_thing_107 rfl rfl ?_
      refine aw_bipush (v := 97) dX5_thing_108 (by decide) ?_
      refine aw_isub dX5_thing_110 ?_
      refine aw_callV (rest := []) [.int x2, .int (x0 - (97 : Int32))] dX5_thing_111 hb1.1 rfl k_X5_117 rfl h (Nat.le_of_ble_eq_true rfl) (fun v m1 h => ?_)
      obtain ⟨v2, rfl, h⟩ := h
      refine aw_eq (L' := [(0, .int x0), (1, .ref (ad b1)), (2, .int x2), (3, .int x3)]) (st' := [.int v2]) (m' := m1) ?_ rfl rfl rfl
      refine aw_goto (tgt := 118) dX5_thing_114 (by decide) ?_
      exact aw_ret (v := some (.int v2)) rfl (Or.inr (Or.inl ⟨_, .int, rfl, rfl, rfl, dX5_thing_118⟩)) h
  have h := h.2.2.2.2.2.2 c0 c1 c2 c3 c4 c5
  refine aw_tswOut (tgt := 97) dX5_thing_1 (by have e0 := i32_ne (n := 105) c0 (by decide); have e1 := i32_ne (n := 108) c1 (by decide); have e2 := i32_ne (n := 109) c2 (by decide); have e3 := i32_ne (n := 112) c3 (by decide); have e4 := i32_ne (n := 114) c4 (by decide); have e5 := i32_ne (n := 115) c5 (by decide); have f0 := i32_ne (n := 106) k0 (by decide); have f1 := i32_ne (n := 107) k1 (by decide); have f2 := i32_ne (n := 110) k2 (by decide); have f3 := i32_ne (n := 111) k3 (by decide); have f4 := i32_ne (n := 113) k4 (by decide); omega) (by decide) ?_
  refine aw_iload_n (j := 0) dX5_thing_97 rfl rfl ?_
  refine aw_bipush (v := 97) dX5_thing_98 (by decide) ?_
  refine aw_isub dX5_thing_100 ?_
  refine aw_iload_n (j := 3) dX5_thing_101 rfl rfl ?_
  refine aw_icmp_ge (tgt := 117) dX5_thing_102 (by decide) (fun hc => ?_) (fun hc => ?_)
  · have h := h.1 hc
    refine aw_iconst (v := 0) dX5_thing_117 (by decide) ?_
    exact aw_ret (v := some (.int (0 : Int32))) rfl (Or.inr (Or.inl ⟨_, .int, rfl, rfl, rfl, dX5_thing_118⟩)) h
  · have h := h.2 hc
    refine aw_aload_n (j := 1) dX5_thing_105 rfl rfl ?_
    refine aw_iload_n (j := 2) dX5_thing_106 rfl rfl ?_
    refine aw_iload_n (j := 0) dX5_thing_107 rfl rfl ?_
    refine aw_bipush (v := 97) dX5_thing_108 (by decide) ?_
    refine aw_isub dX5_thing_110 ?_
    refine aw_callV (rest := []) [.int x2, .int (x0 - (97 : Int32))] dX5_thing_111 hb1.1 rfl k_X5_117 rfl h (Nat.le_of_ble_eq_true rfl) (fun v m1 h => ?_)
    obtain ⟨v2, rfl, h⟩ := h
    refine aw_eq (L' := [(0, .int x0), (1, .ref (ad b1)), (2, .int x2), (3, .int x3)]) (st' := [.int v2]) (m' := m1) ?_ rfl rfl rfl
    refine aw_goto (tgt := 118) dX5_thing_114 (by decide) ?_
    exact aw_ret (v := some (.int v2)) rfl (Or.inr (Or.inl ⟨_, .int, rfl, rfl, rfl, dX5_thing_118⟩)) h
set_option maxRecDepth 100000 in
set_option maxHeartbeats 4000000 in
theorem v_X5_joined {ad : Nat → Nat} {d : Nat} {Q : Option Value → Wm → Prop} {m : Wm} {x0 x1 x2 : Int32} (h : ((x0 = 42 → Q (some (.int (x1 * x2))) m) ∧ (x0 = 43 → Q (some (.int (x1 + x2))) m) ∧ (x0 = 45 → Q (some (.int (x1 - x2))) m) ∧ (x0 = 60 → ((x2 ≤ x1 → Q (some (.int (0 : Int32))) m) ∧ (¬ x2 ≤ x1 → Q (some (.int (1 : Int32))) m))) ∧ (x0 = 61 → ((¬ x1 = x2 → Q (some (.int (0 : Int32))) m) ∧ (x1 = x2 → Q (some (.int (1 : Int32))) m))) ∧ (x0 = 62 → ((x1 ≤ x2 → Q (some (.int (0 : Int32))) m) ∧ (¬ x1 ≤ x2 → Q (some (.int (1 : Int32))) m))) ∧ (¬ x0 = 42 → ¬ x0 = 43 → ¬ x0 = 45 → ¬ x0 = 60 → ¬ x0 = 61 → ¬ x0 = 62 → ((¬ x2 = 0 → (¬ x2 = 0 ∧ Q (some (.int (x1 / x2))) m)) ∧ (x2 = 0 → Q (some (.int (0 : Int32))) m))))) : Ct ad μX5_joined d [.int x0, .int x1, .int x2] m Q := by
  refine Ct.of (by decide +kernel) rfl (Nat.le_of_ble_eq_true rfl) ?_
  refine aw_eq (L' := [(0, .int x0), (1, .int x1), (2, .int x2)]) ?_ rfl rfl rfl
  refine aw_iload_n (j := 0) dX5_joined_0 rfl rfl ?_
  by_cases c0 : x0 = 42
  · have h := h.1 c0
    refine aw_lsw (off := 100) (tgt := 101) dX5_joined_1 (by decide) (by rw [c0]; decide) (by decide) ?_
    refine aw_iload_n (j := 1) dX5_joined_101 rfl rfl ?_
    refine aw_iload_n (j := 2) dX5_joined_102 rfl rfl ?_
    refine aw_imul dX5_joined_103 ?_
    exact aw_ret (v := some (.int (x1 * x2))) rfl (Or.inr (Or.inl ⟨_, .int, rfl, rfl, rfl, dX5_joined_104⟩)) h
  by_cases c1 : x0 = 43
  · have h := h.2.1 c1
    refine aw_lsw (off := 92) (tgt := 93) dX5_joined_1 (by decide) (by rw [c1]; decide) (by decide) ?_
    refine aw_iload_n (j := 1) dX5_joined_93 rfl rfl ?_
    refine aw_iload_n (j := 2) dX5_joined_94 rfl rfl ?_
    refine aw_iadd dX5_joined_95 ?_
    exact aw_ret (v := some (.int (x1 + x2))) rfl (Or.inr (Or.inl ⟨_, .int, rfl, rfl, rfl, dX5_joined_96⟩)) h
  by_cases c2 : x0 = 45
  · have h := h.2.2.1 c2
    refine aw_lsw (off := 96) (tgt := 97) dX5_joined_1 (by decide) (by rw [c2]; decide) (by decide) ?_
    refine aw_iload_n (j := 1) dX5_joined_97 rfl rfl ?_
    refine aw_iload_n (j := 2) dX5_joined_98 rfl rfl ?_
    refine aw_isub dX5_joined_99 ?_
    exact aw_ret (v := some (.int (x1 - x2))) rfl (Or.inr (Or.inl ⟨_, .int, rfl, rfl, rfl, dX5_joined_100⟩)) h
  by_cases c3 : x0 = 60
  · have h := h.2.2.2.1 c3
    refine aw_lsw (off := 59) (tgt := 60) dX5_joined_1 (by decide) (by rw [c3]; decide) (by decide) ?_
    refine aw_iload_n (j := 1) dX5_joined_60 rfl rfl ?_
    refine aw_iload_n (j := 2) dX5_joined_61 rfl rfl ?_
    refine aw_icmp_ge (tgt := 69) dX5_joined_62 (by decide) (fun hc => ?_) (fun hc => ?_)
    · have h := h.1 hc
      refine aw_iconst (v := 0) dX5_joined_69 (by decide) ?_
      exact aw_ret (v := some (.int (0 : Int32))) rfl (Or.inr (Or.inl ⟨_, .int, rfl, rfl, rfl, dX5_joined_70⟩)) h
    · have h := h.2 hc
      refine aw_iconst (v := 1) dX5_joined_65 (by decide) ?_
      refine aw_goto (tgt := 70) dX5_joined_66 (by decide) ?_
      exact aw_ret (v := some (.int (1 : Int32))) rfl (Or.inr (Or.inl ⟨_, .int, rfl, rfl, rfl, dX5_joined_70⟩)) h
  by_cases c4 : x0 = 61
  · have h := h.2.2.2.2.1 c4
    refine aw_lsw (off := 81) (tgt := 82) dX5_joined_1 (by decide) (by rw [c4]; decide) (by decide) ?_
    refine aw_iload_n (j := 1) dX5_joined_82 rfl rfl ?_
    refine aw_iload_n (j := 2) dX5_joined_83 rfl rfl ?_
    refine aw_icmp_ne (tgt := 91) dX5_joined_84 (by decide) (fun hc => ?_) (fun hc => ?_)
    · have h := h.1 hc
      refine aw_iconst (v := 0) dX5_joined_91 (by decide) ?_
      exact aw_ret (v := some (.int (0 : Int32))) rfl (Or.inr (Or.inl ⟨_, .int, rfl, rfl, rfl, dX5_joined_92⟩)) h
    · have h := h.2 hc
      refine aw_iconst (v := 1) dX5_joined_87 (by decide) ?_
      refine aw_goto (tgt := 92) dX5_joined_88 (by decide) ?_
      exact aw_ret (v := some (.int (1 : Int32))) rfl (Or.inr (Or.inl ⟨_, .int, rfl, rfl, rfl, dX5_joined_92⟩)) h
  by_cases c5 : x0 = 62
  · have h := h.2.2.2.2.2.1 c5
    refine aw_lsw (off := 70) (tgt := 71) dX5_joined_1 (by decide) (by rw [c5]; decide) (by decide) ?_
    refine aw_iload_n (j := 1) dX5_joined_71 rfl rfl ?_
    refine aw_iload_n (j := 2) dX5_joined_72 rfl rfl ?_
    refine aw_icmp_le (tgt := 80) dX5_joined_73 (by decide) (fun hc => ?_) (fun hc => ?_)
    · have h := h.1 hc
      refine aw_iconst (v := 0) dX5_joined_80 (by decide) ?_
      exact aw_ret (v := some (.int (0 : Int32))) rfl (Or.inr (Or.inl ⟨_, .int, rfl, rfl, rfl, dX5_joined_81⟩)) h
    · have h := h.2 hc
      refine aw_iconst (v := 1) dX5_joined_76 (by decide) ?_
      refine aw_goto (tgt := 81) dX5_joined_77 (by decide) ?_
      exact aw_ret (v := some (.int (1 : Int32))) rfl (Or.inr (Or.inl ⟨_, .int, rfl, rfl, rfl, dX5_joined_81⟩)) h
  have h := h.2.2.2.2.2.2 c0 c1 c2 c3 c4 c5
  refine aw_lsw (off := 104) (tgt := 105) dX5_joined_1 (by decide) (by have e0 := Ne.symm (i32_ne (n := 42) c0 (by decide)); have e1 := Ne.symm (i32_ne (n := 43) c1 (by decide)); have e2 := Ne.symm (i32_ne (n := 45) c2 (by decide)); have e3 := Ne.symm (i32_ne (n := 60) c3 (by decide)); have e4 := Ne.symm (i32_ne (n := 61) c4 (by decide)); have e5 := Ne.symm (i32_ne (n := 62) c5 (by decide)); simp [Op.lookupswitch.offset, List.find?, *]) (by decide) ?_
  refine aw_iload_n (j := 2) dX5_joined_105 rfl rfl ?_
  refine aw_if_ne (tgt := 113) dX5_joined_106 (by decide) (fun hc => ?_) (fun hc => ?_)
  · have h := h.1 hc
    refine aw_iload_n (j := 1) dX5_joined_113 rfl rfl ?_
    refine aw_iload_n (j := 2) dX5_joined_114 rfl rfl ?_
    obtain ⟨hz, h⟩ := h
    refine aw_idiv dX5_joined_115 hz ?_
    exact aw_ret (v := some (.int (x1 / x2))) rfl (Or.inr (Or.inl ⟨_, .int, rfl, rfl, rfl, dX5_joined_116⟩)) h
  · have h := h.2 hc
    refine aw_iconst (v := 0) dX5_joined_109 (by decide) ?_
    refine aw_goto (tgt := 116) dX5_joined_110 (by decide) ?_
    exact aw_ret (v := some (.int (0 : Int32))) rfl (Or.inr (Or.inl ⟨_, .int, rfl, rfl, rfl, dX5_joined_116⟩)) h
set_option maxRecDepth 100000 in
set_option maxHeartbeats 4000000 in
theorem v_X6_explore {ad : Nat → Nat} {d : Nat} {Q : Option Value → Wm → Prop} {m : Wm} {b2 : Nat} {x3 : Int32} (hb2 : St b2) (h : (Ct ad μX8_copy d [.ref (ad 157), .ref (ad b2)] m (fun r m1 => r = none ∧ (Ct ad μX9_clear d [.ref (ad 151)] m1 (fun r m2 => r = none ∧ (Ct ad μX9_putSkillsOf d [.ref (ad 151), .ref (ad 157)] m2 (fun r m3 => ∃ v4 : Int32, r = some (.int v4) ∧ AW ad E0 μX6_explore (d + 1) Q 51 [(0, .ref (ad 156)), (1, .ref (ad 3)), (3, .int x3), (4, .int (0 : Int32))] [] (uI (uI (uI m3 163 (0 : Int32).toNatClampNeg (-1 : Int32)) 164 (0 : Int32).toNatClampNeg (-1 : Int32)) 165 (0 : Int32).toNatClampNeg (0 : Int32))))))))) : Ct ad μX6_explore (d + 1) [.ref (ad 156), .ref (ad 3), .ref (ad b2), .int x3] m Q := by
  refine Ct.of (by decide +kernel) rfl (Nat.le_of_ble_eq_true rfl) ?_
  refine aw_eq (L' := [(0, .ref (ad 156)), (1, .ref (ad 3)), (2, .ref (ad b2)), (3, .int x3)]) ?_ rfl rfl rfl
  refine aw_aload_n (j := 0) dX6_explore_0 rfl rfl ?_
  refine aw_getfield (c := 160) (v := .ref (ad 157)) dX6_explore_1 f_X6_12 ly_156 rfl rfl ?_
  refine aw_aload_n (j := 2) dX6_explore_4 rfl rfl ?_
  refine aw_callV (rest := []) [.ref (ad b2)] dX6_explore_5 ly_157 rfl k_X6_41 rfl h (Nat.le_of_ble_eq_true rfl) (fun v m1 h => ?_)
  obtain ⟨rfl, h⟩ := h
  refine aw_eq (L' := [(0, .ref (ad 156)), (1, .ref (ad 3)), (2, .ref (ad b2)), (3, .int x3)]) (st' := []) (m' := m1) ?_ rfl rfl rfl
  refine aw_aload_n (j := 0) dX6_explore_8 rfl rfl ?_
  refine aw_getfield (c := 154) (v := .ref (ad 151)) dX6_explore_9 f_X6_37 ly_156 rfl rfl ?_
  refine aw_callV (rest := []) [] dX6_explore_12 ly_151 rfl k_X6_45 rfl h (Nat.le_of_ble_eq_true rfl) (fun v m2 h => ?_)
  obtain ⟨rfl, h⟩ := h
  refine aw_eq (L' := [(0, .ref (ad 156)), (1, .ref (ad 3)), (2, .ref (ad b2)), (3, .int x3)]) (st' := []) (m' := m2) ?_ rfl rfl rfl
  refine aw_aload_n (j := 0) dX6_explore_15 rfl rfl ?_
  refine aw_getfield (c := 154) (v := .ref (ad 151)) dX6_explore_16 f_X6_37 ly_156 rfl rfl ?_
  refine aw_aload_n (j := 0) dX6_explore_19 rfl rfl ?_
  refine aw_getfield (c := 160) (v := .ref (ad 157)) dX6_explore_20 f_X6_12 ly_156 rfl rfl ?_
  refine aw_callV (rest := []) [.ref (ad 157)] dX6_explore_23 ly_151 rfl k_X6_48 rfl h (Nat.le_of_ble_eq_true rfl) (fun v m3 h => ?_)
  obtain ⟨v4, rfl, h⟩ := h
  refine aw_eq (L' := [(0, .ref (ad 156)), (1, .ref (ad 3)), (2, .ref (ad b2)), (3, .int x3)]) (st' := [.int v4]) (m' := m3) ?_ rfl rfl rfl
  refine aw_pop dX6_explore_26 rfl ?_
  refine aw_aload_n (j := 0) dX6_explore_27 rfl rfl ?_
  refine aw_getfield (c := 166) (v := .ref (ad 163)) dX6_explore_28 f_X6_24 ly_156 rfl rfl ?_
  refine aw_iconst (v := 0) dX6_explore_31 (by decide) ?_
  refine aw_iconst (v := -1) dX6_explore_32 (by decide) ?_
  refine aw_iastore dX6_explore_33 ly_163 (by unfold vp_in; decide) ?_
  refine aw_aload_n (j := 0) dX6_explore_34 rfl rfl ?_
  refine aw_getfield (c := 167) (v := .ref (ad 164)) dX6_explore_35 f_X6_27 ly_156 rfl rfl ?_
  refine aw_iconst (v := 0) dX6_explore_38 (by decide) ?_
  refine aw_iconst (v := -1) dX6_explore_39 (by decide) ?_
  refine aw_iastore dX6_explore_40 ly_164 (by unfold vp_in; decide) ?_
  refine aw_aload_n (j := 0) dX6_explore_41 rfl rfl ?_
  refine aw_getfield (c := 168) (v := .ref (ad 165)) dX6_explore_42 f_X6_30 ly_156 rfl rfl ?_
  refine aw_iconst (v := 0) dX6_explore_45 (by decide) ?_
  refine aw_iconst (v := 0) dX6_explore_46 (by decide) ?_
  refine aw_iastore dX6_explore_47 ly_165 (by unfold vp_in; decide) ?_
  refine aw_iconst (v := 0) dX6_explore_48 (by decide) ?_
  refine aw_istore (L' := [(4, .int (0 : Int32)), (0, .ref (ad 156)), (1, .ref (ad 3)), (2, .ref (ad b2)), (3, .int x3)]) dX6_explore_49 (by decide) rfl ?_
  exact aw_sub [1, 2, 4, 0] rfl h
set_option maxRecDepth 100000 in
set_option maxHeartbeats 4000000 in
theorem g_X6_explore_51 {ad : Nat → Nat} {d : Nat} {Q : Option Value → Wm → Prop} {m : Wm} {x3 x4 : Int32} (h : (((3000 : Int32) ≤ x4 → Q (some (.int (1 : Int32))) m) ∧ (¬ (3000 : Int32) ≤ x4 → (((m.1 151 4) ≤ x4 → Q (some (.int (1 : Int32))) m) ∧ (¬ (m.1 151 4) ≤ x4 → (vp_in x4 3000 ∧ (((m.1 165 x4.toNatClampNeg) < x3 → (Ct ad μX6_expand d [.ref (ad 156), .ref (ad 3), .int x4] m (fun r m1 => ∃ v2 : Int32, r = some (.int v2) ∧ ((¬ v2 = 0 → AW ad E0 μX6_explore (d + 1) Q 51 [(0, .ref (ad 156)), (1, .ref (ad 3)), (3, .int x3), (4, .int (x4 + (1 : Int32)))] [] m1) ∧ (v2 = 0 → Q (some (.int (0 : Int32))) m1))))) ∧ (¬ (m.1 165 x4.toNatClampNeg) < x3 → Q (some (.int (1 : Int32))) m)))))))) : AW ad E0 μX6_explore (d + 1) Q 51 [(0, .ref (ad 156)), (1, .ref (ad 3)), (3, .int x3), (4, .int x4)] [] m := by
  refine aw_iload (j := 3) dX6_explore_51 rfl ?_
  refine aw_sipush (v := 3000) dX6_explore_53 (by decide) ?_
  refine aw_icmp_ge (tgt := 102) dX6_explore_56 (by decide) (fun hc => ?_) (fun hc => ?_)
  · have h := h.1 hc
    refine aw_iconst (v := 1) dX6_explore_102 (by decide) ?_
    exact aw_ret (v := some (.int (1 : Int32))) rfl (Or.inr (Or.inl ⟨_, .boolean, rfl, rfl, by decide, dX6_explore_103⟩)) h
  · have h := h.2 hc
    refine aw_iload (j := 3) dX6_explore_59 rfl ?_
    refine aw_aload_n (j := 0) dX6_explore_61 rfl rfl ?_
    refine aw_getfield (c := 154) (v := .ref (ad 151)) dX6_explore_62 f_X6_37 ly_156 rfl rfl ?_
    refine aw_getfield (c := 0) (v := .int (m.1 151 4)) dX6_explore_65 f_X6_52 ly_151 rfl rfl ?_
    refine aw_icmp_ge (tgt := 102) dX6_explore_68 (by decide) (fun hc => ?_) (fun hc => ?_)
    · have h := h.1 hc
      refine aw_iconst (v := 1) dX6_explore_102 (by decide) ?_
      exact aw_ret (v := some (.int (1 : Int32))) rfl (Or.inr (Or.inl ⟨_, .boolean, rfl, rfl, by decide, dX6_explore_103⟩)) h
    · have h := h.2 hc
      refine aw_aload_n (j := 0) dX6_explore_71 rfl rfl ?_
      refine aw_getfield (c := 168) (v := .ref (ad 165)) dX6_explore_72 f_X6_30 ly_156 rfl rfl ?_
      refine aw_iload (j := 3) dX6_explore_75 rfl ?_
      obtain ⟨hi, h⟩ := h
      refine aw_iaload dX6_explore_77 ly_165 hi ?_
      refine aw_iload_n (j := 2) dX6_explore_78 rfl rfl ?_
      refine aw_icmp_lt (tgt := 84) dX6_explore_79 (by decide) (fun hc => ?_) (fun hc => ?_)
      · have h := h.1 hc
        refine aw_aload_n (j := 0) dX6_explore_84 rfl rfl ?_
        refine aw_aload_n (j := 1) dX6_explore_85 rfl rfl ?_
        refine aw_iload (j := 3) dX6_explore_86 rfl ?_
        refine aw_callV (rest := []) [.ref (ad 3), .int x4] dX6_explore_88 ly_156 rfl k_X6_55 rfl h (Nat.le_of_ble_eq_true rfl) (fun v m1 h => ?_)
        obtain ⟨v2, rfl, h⟩ := h
        refine aw_eq (L' := [(0, .ref (ad 156)), (1, .ref (ad 3)), (3, .int x3), (4, .int x4)]) (st' := [.int v2]) (m' := m1) ?_ rfl rfl rfl
        refine aw_if_ne (tgt := 96) dX6_explore_91 (by decide) (fun hc => ?_) (fun hc => ?_)
        · have h := h.1 hc
          refine aw_iinc (j := 3) (v := x4 + (1 : Int32)) (L' := [(4, .int (x4 + (1 : Int32))), (0, .ref (ad 156)), (1, .ref (ad 3)), (3, .int x3)]) dX6_explore_96 rfl rfl (by decide) rfl ?_
          refine aw_goto (tgt := 51) dX6_explore_99 (by decide) ?_
          exact aw_sub [1, 2, 3, 0] rfl h
        · have h := h.2 hc
          refine aw_iconst (v := 0) dX6_explore_94 (by decide) ?_
          exact aw_ret (v := some (.int (0 : Int32))) rfl (Or.inr (Or.inl ⟨_, .boolean, rfl, rfl, by decide, dX6_explore_95⟩)) h
      · have h := h.2 hc
        refine aw_iconst (v := 1) dX6_explore_82 (by decide) ?_
        exact aw_ret (v := some (.int (1 : Int32))) rfl (Or.inr (Or.inl ⟨_, .boolean, rfl, rfl, by decide, dX6_explore_83⟩)) h
set_option maxRecDepth 100000 in
set_option maxHeartbeats 4000000 in
theorem v_X6_expand {ad : Nat → Nat} {d : Nat} {Q : Option Value → Wm → Prop} {m : Wm} {x2 : Int32} (h : (Ct ad μX6_unpackAll d [.ref (ad 156), .ref (ad 3), .int x2] m (fun r m1 => r = none ∧ AW ad E0 μX6_expand (d + 1) Q 8 [(0, .ref (ad 156)), (1, .ref (ad 3)), (2, .int x2), (3, .int (0 : Int32))] [] m1))) : Ct ad μX6_expand (d + 1) [.ref (ad 156), .ref (ad 3), .int x2] m Q := by
  refine Ct.of (by decide +kernel) rfl (Nat.le_of_ble_eq_true rfl) ?_
  refine aw_eq (L' := [(0, .ref (ad 156)), (1, .ref (ad 3)), (2, .int x2)]) ?_ rfl rfl rfl
  refine aw_aload_n (j := 0) dX6_expand_0 rfl rfl ?_
  refine aw_aload_n (j := 1) dX6_expand_1 rfl rfl ?_
  refine aw_iload_n (j := 2) dX6_expand_2 rfl rfl ?_
  refine aw_callV (rest := []) [.ref (ad 3), .int x2] dX6_expand_3 ly_156 rfl k_X6_59 rfl h (Nat.le_of_ble_eq_true rfl) (fun v m1 h => ?_)
  obtain ⟨rfl, h⟩ := h
  refine aw_eq (L' := [(0, .ref (ad 156)), (1, .ref (ad 3)), (2, .int x2)]) (st' := []) (m' := m1) ?_ rfl rfl rfl
  refine aw_iconst (v := 0) dX6_expand_6 (by decide) ?_
  refine aw_istore_n (L' := [(3, .int (0 : Int32)), (0, .ref (ad 156)), (1, .ref (ad 3)), (2, .int x2)]) dX6_expand_7 rfl (by decide) rfl ?_
  exact aw_sub [1, 2, 3, 0] rfl h
set_option maxRecDepth 100000 in
set_option maxHeartbeats 4000000 in
theorem g_X6_expand_8 {ad : Nat → Nat} {d : Nat} {Q : Option Value → Wm → Prop} {m : Wm} {x2 x3 : Int32} (h : (((m.1 3 3) ≤ x3 → AW ad E0 μX6_expand (d + 1) Q 39 [(0, .ref (ad 156)), (1, .ref (ad 3)), (2, .int x2), (3, .int (0 : Int32))] [] m) ∧ (¬ (m.1 3 3) ≤ x3 → (Ct ad μX1_power d [.ref (ad 3), .ref (ad 157), .int x3] m (fun r m1 => ∃ v2 : Int32, r = some (.int v2) ∧ (vp_in x3 8 ∧ AW ad E0 μX6_expand (d + 1) Q 8 [(0, .ref (ad 156)), (1, .ref (ad 3)), (2, .int x2), (3, .int (x3 + (1 : Int32)))] [] (uI m1 162 x3.toNatClampNeg v2))))))) : AW ad E0 μX6_expand (d + 1) Q 8 [(0, .ref (ad 156)), (1, .ref (ad 3)), (2, .int x2), (3, .int x3)] [] m := by
  refine aw_iload_n (j := 3) dX6_expand_8 rfl rfl ?_
  refine aw_aload_n (j := 1) dX6_expand_9 rfl rfl ?_
  refine aw_getfield (c := 0) (v := .int (m.1 3 3)) dX6_expand_10 f_X6_63 ly_3 rfl rfl ?_
  refine aw_icmp_ge (tgt := 37) dX6_expand_13 (by decide) (fun hc => ?_) (fun hc => ?_)
  · have h := h.1 hc
    refine aw_iconst (v := 0) dX6_expand_37 (by decide) ?_
    refine aw_istore_n (L' := [(3, .int (0 : Int32)), (0, .ref (ad 156)), (1, .ref (ad 3)), (2, .int x2)]) dX6_expand_38 rfl (by decide) rfl ?_
    exact aw_sub [1, 2, 3, 0] rfl h
  · have h := h.2 hc
    refine aw_aload_n (j := 0) dX6_expand_16 rfl rfl ?_
    refine aw_getfield (c := 165) (v := .ref (ad 162)) dX6_expand_17 f_X6_18 ly_156 rfl rfl ?_
    refine aw_iload_n (j := 3) dX6_expand_20 rfl rfl ?_
    refine aw_aload_n (j := 1) dX6_expand_21 rfl rfl ?_
    refine aw_aload_n (j := 0) dX6_expand_22 rfl rfl ?_
    refine aw_getfield (c := 160) (v := .ref (ad 157)) dX6_expand_23 f_X6_12 ly_156 rfl rfl ?_
    refine aw_iload_n (j := 3) dX6_expand_26 rfl rfl ?_
    refine aw_callV (rest := [.int x3, .ref (ad 162)]) [.ref (ad 157), .int x3] dX6_expand_27 ly_3 rfl k_X6_68 rfl h (Nat.le_of_ble_eq_true rfl) (fun v m1 h => ?_)
    obtain ⟨v2, rfl, h⟩ := h
    refine aw_eq (L' := [(0, .ref (ad 156)), (1, .ref (ad 3)), (2, .int x2), (3, .int x3)]) (st' := [.int v2, .int x3, .ref (ad 162)]) (m' := m1) ?_ rfl rfl rfl
    obtain ⟨hi, h⟩ := h
    refine aw_iastore dX6_expand_30 ly_162 hi ?_
    refine aw_iinc (j := 3) (v := x3 + (1 : Int32)) (L' := [(3, .int (x3 + (1 : Int32))), (0, .ref (ad 156)), (1, .ref (ad 3)), (2, .int x2)]) dX6_expand_31 rfl rfl (by decide) rfl ?_
    refine aw_goto (tgt := 8) dX6_expand_34 (by decide) ?_
    exact aw_sub [1, 2, 3, 0] rfl h
set_option maxRecDepth 100000 in
set_option maxHeartbeats 4000000 in
theorem g_X6_expand_39 {ad : Nat → Nat} {d : Nat} {Q : Option Value → Wm → Prop} {m : Wm} {x2 x3 : Int32} (h : (((3 : Int32) ≤ x3 → Q (some (.int (1 : Int32))) m) ∧ (¬ (3 : Int32) ≤ x3 → AW ad E0 μX6_expand (d + 1) Q 47 [(0, .ref (ad 156)), (1, .ref (ad 3)), (2, .int x2), (3, .int x3), (4, .int (0 : Int32))] [] m))) : AW ad E0 μX6_expand (d + 1) Q 39 [(0, .ref (ad 156)), (1, .ref (ad 3)), (2, .int x2), (3, .int x3)] [] m := by
  refine aw_iload_n (j := 3) dX6_expand_39 rfl rfl ?_
  refine aw_iconst (v := 3) dX6_expand_40 (by decide) ?_
  refine aw_icmp_ge (tgt := 105) dX6_expand_41 (by decide) (fun hc => ?_) (fun hc => ?_)
  · have h := h.1 hc
    refine aw_iconst (v := 1) dX6_expand_105 (by decide) ?_
    exact aw_ret (v := some (.int (1 : Int32))) rfl (Or.inr (Or.inl ⟨_, .boolean, rfl, rfl, by decide, dX6_expand_106⟩)) h
  · have h := h.2 hc
    refine aw_iconst (v := 0) dX6_expand_44 (by decide) ?_
    refine aw_istore (L' := [(4, .int (0 : Int32)), (0, .ref (ad 156)), (1, .ref (ad 3)), (2, .int x2), (3, .int x3)]) dX6_expand_45 (by decide) rfl ?_
    exact aw_sub [1, 2, 3, 4, 0] rfl h
set_option maxRecDepth 100000 in
set_option maxHeartbeats 4000000 in
theorem g_X6_expand_47 {ad : Nat → Nat} {d : Nat} {Q : Option Value → Wm → Prop} {m : Wm} {x2 x3 x4 : Int32} (h : (((m.1 3 3) ≤ x4 → AW ad E0 μX6_expand (d + 1) Q 39 [(0, .ref (ad 156)), (1, .ref (ad 3)), (2, .int x2), (3, .int (x3 + (1 : Int32)))] [] m) ∧ (¬ (m.1 3 3) ≤ x4 → AW ad E0 μX6_expand (d + 1) Q 62 [(0, .ref (ad 156)), (1, .ref (ad 3)), (2, .int x2), (3, .int x3), (4, .int x4), (5, .int (x4 + (1 : Int32)))] [] m))) : AW ad E0 μX6_expand (d + 1) Q 47 [(0, .ref (ad 156)), (1, .ref (ad 3)), (2, .int x2), (3, .int x3), (4, .int x4)] [] m := by
  refine aw_iload (j := 4) dX6_expand_47 rfl ?_
  refine aw_aload_n (j := 1) dX6_expand_49 rfl rfl ?_
  refine aw_getfield (c := 0) (v := .int (m.1 3 3)) dX6_expand_50 f_X6_63 ly_3 rfl rfl ?_
  refine aw_icmp_ge (tgt := 99) dX6_expand_53 (by decide) (fun hc => ?_) (fun hc => ?_)
  · have h := h.1 hc
    refine aw_iinc (j := 3) (v := x3 + (1 : Int32)) (L' := [(3, .int (x3 + (1 : Int32))), (0, .ref (ad 156)), (1, .ref (ad 3)), (2, .int x2), (4, .int x4)]) dX6_expand_99 rfl rfl (by decide) rfl ?_
    refine aw_goto (tgt := 39) dX6_expand_102 (by decide) ?_
    exact aw_sub [1, 2, 3, 0] rfl h
  · have h := h.2 hc
    refine aw_iload (j := 4) dX6_expand_56 rfl ?_
    refine aw_iconst (v := 1) dX6_expand_58 (by decide) ?_
    refine aw_iadd dX6_expand_59 ?_
    refine aw_istore (L' := [(5, .int (x4 + (1 : Int32))), (0, .ref (ad 156)), (1, .ref (ad 3)), (2, .int x2), (3, .int x3), (4, .int x4)]) dX6_expand_60 (by decide) rfl ?_
    exact aw_sub [1, 2, 3, 4, 5, 0] rfl h
set_option maxRecDepth 100000 in
set_option maxHeartbeats 4000000 in
theorem g_X6_expand_62 {ad : Nat → Nat} {d : Nat} {Q : Option Value → Wm → Prop} {m : Wm} {x2 x3 x4 x5 : Int32} (h : (((m.1 3 3) ≤ x5 → AW ad E0 μX6_expand (d + 1) Q 47 [(0, .ref (ad 156)), (1, .ref (ad 3)), (2, .int x2), (3, .int x3), (4, .int (x4 + (1 : Int32)))] [] m) ∧ (¬ (m.1 3 3) ≤ x5 → (Ct ad μX6_step d [.ref (ad 156), .ref (ad 3), .int x2, .int x3, .int x4, .int x5] m (fun r m1 => ∃ v2 : Int32, r = some (.int v2) ∧ ((¬ v2 = 0 → AW ad E0 μX6_expand (d + 1) Q 62 [(0, .ref (ad 156)), (1, .ref (ad 3)), (2, .int x2), (3, .int x3), (4, .int x4), (5, .int (x5 + (1 : Int32)))] [] m1) ∧ (v2 = 0 → Q (some (.int (0 : Int32))) m1))))))) : AW ad E0 μX6_expand (d + 1) Q 62 [(0, .ref (ad 156)), (1, .ref (ad 3)), (2, .int x2), (3, .int x3), (4, .int x4), (5, .int x5)] [] m := by
  refine aw_iload (j := 5) dX6_expand_62 rfl ?_
  refine aw_aload_n (j := 1) dX6_expand_64 rfl rfl ?_
  refine aw_getfield (c := 0) (v := .int (m.1 3 3)) dX6_expand_65 f_X6_63 ly_3 rfl rfl ?_
  refine aw_icmp_ge (tgt := 93) dX6_expand_68 (by decide) (fun hc => ?_) (fun hc => ?_)
  · have h := h.1 hc
    refine aw_iinc (j := 4) (v := x4 + (1 : Int32)) (L' := [(4, .int (x4 + (1 : Int32))), (0, .ref (ad 156)), (1, .ref (ad 3)), (2, .int x2), (3, .int x3), (5, .int x5)]) dX6_expand_93 rfl rfl (by decide) rfl ?_
    refine aw_goto (tgt := 47) dX6_expand_96 (by decide) ?_
    exact aw_sub [1, 2, 3, 4, 0] rfl h
  · have h := h.2 hc
    refine aw_aload_n (j := 0) dX6_expand_71 rfl rfl ?_
    refine aw_aload_n (j := 1) dX6_expand_72 rfl rfl ?_
    refine aw_iload_n (j := 2) dX6_expand_73 rfl rfl ?_
    refine aw_iload_n (j := 3) dX6_expand_74 rfl rfl ?_
    refine aw_iload (j := 4) dX6_expand_75 rfl ?_
    refine aw_iload (j := 5) dX6_expand_77 rfl ?_
    refine aw_callV (rest := []) [.ref (ad 3), .int x2, .int x3, .int x4, .int x5] dX6_expand_79 ly_156 rfl k_X6_72 rfl h (Nat.le_of_ble_eq_true rfl) (fun v m1 h => ?_)
    obtain ⟨v2, rfl, h⟩ := h
    refine aw_eq (L' := [(0, .ref (ad 156)), (1, .ref (ad 3)), (2, .int x2), (3, .int x3), (4, .int x4), (5, .int x5)]) (st' := [.int v2]) (m' := m1) ?_ rfl rfl rfl
    refine aw_if_ne (tgt := 87) dX6_expand_82 (by decide) (fun hc => ?_) (fun hc => ?_)
    · have h := h.1 hc
      refine aw_iinc (j := 5) (v := x5 + (1 : Int32)) (L' := [(5, .int (x5 + (1 : Int32))), (0, .ref (ad 156)), (1, .ref (ad 3)), (2, .int x2), (3, .int x3), (4, .int x4)]) dX6_expand_87 rfl rfl (by decide) rfl ?_
      refine aw_goto (tgt := 62) dX6_expand_90 (by decide) ?_
      exact aw_sub [1, 2, 3, 4, 5, 0] rfl h
    · have h := h.2 hc
      refine aw_iconst (v := 0) dX6_expand_85 (by decide) ?_
      exact aw_ret (v := some (.int (0 : Int32))) rfl (Or.inr (Or.inl ⟨_, .boolean, rfl, rfl, by decide, dX6_expand_86⟩)) h
set_option maxRecDepth 100000 in
set_option maxHeartbeats 4000000 in
theorem v_X6_step {ad : Nat → Nat} {d : Nat} {Q : Option Value → Wm → Prop} {m : Wm} {x2 x3 x4 x5 : Int32} (h : (vp_in x4 8 ∧ (vp_in x5 8 ∧ (Ct ad μX1_resultOf d [.ref (ad 3), .int ((m.1 162 x4.toNatClampNeg) - (m.1 162 x5.toNatClampNeg))] m (fun r m1 => ∃ v2 : Int32, r = some (.int v2) ∧ ((¬ x3 = 0 → ((¬ x3 = (1 : Int32) → AW ad E0 μX6_step (d + 1) Q 40 [(0, .ref (ad 156)), (1, .ref (ad 3)), (2, .int x2), (3, .int x3), (4, .int x4), (5, .int x5), (6, .int v2)] [.int (0 : Int32)] m1) ∧ (x3 = (1 : Int32) → AW ad E0 μX6_step (d + 1) Q 40 [(0, .ref (ad 156)), (1, .ref (ad 3)), (2, .int x2), (3, .int x3), (4, .int x4), (5, .int x5), (6, .int v2)] [.int (1 : Int32)] m1))) ∧ (x3 = 0 → AW ad E0 μX6_step (d + 1) Q 40 [(0, .ref (ad 156)), (1, .ref (ad 3)), (2, .int x2), (3, .int x3), (4, .int x4), (5, .int x5), (6, .int v2)] [.int v2] m1))))))) : Ct ad μX6_step (d + 1) [.ref (ad 156), .ref (ad 3), .int x2, .int x3, .int x4, .int x5] m Q := by
  refine Ct.of (by decide +kernel) rfl (Nat.le_of_ble_eq_true rfl) ?_
  refine aw_eq (L' := [(0, .ref (ad 156)), (1, .ref (ad 3)), (2, .int x2), (3, .int x3), (4, .int x4), (5, .int x5)]) ?_ rfl rfl rfl
  refine aw_aload_n (j := 1) dX6_step_0 rfl rfl ?_
  refine aw_aload_n (j := 0) dX6_step_1 rfl rfl ?_
  refine aw_getfield (c := 165) (v := .ref (ad 162)) dX6_step_2 f_X6_18 ly_156 rfl rfl ?_
  refine aw_iload (j := 4) dX6_step_5 rfl ?_
  obtain ⟨hi, h⟩ := h
  refine aw_iaload dX6_step_7 ly_162 hi ?_
  refine aw_aload_n (j := 0) dX6_step_8 rfl rfl ?_
  refine aw_getfield (c := 165) (v := .ref (ad 162)) dX6_step_9 f_X6_18 ly_156 rfl rfl ?_
  refine aw_iload (j := 5) dX6_step_12 rfl ?_
  obtain ⟨hi, h⟩ := h
  refine aw_iaload dX6_step_14 ly_162 hi ?_
  refine aw_isub dX6_step_15 ?_
  refine aw_callV (rest := []) [.int ((m.1 162 x4.toNatClampNeg) - (m.1 162 x5.toNatClampNeg))] dX6_step_16 ly_3 rfl k_X6_76 rfl h (Nat.le_of_ble_eq_true rfl) (fun v m1 h => ?_)
  obtain ⟨v2, rfl, h⟩ := h
  refine aw_eq (L' := [(0, .ref (ad 156)), (1, .ref (ad 3)), (2, .int x2), (3, .int x3), (4, .int x4), (5, .int x5)]) (st' := [.int v2]) (m' := m1) ?_ rfl rfl rfl
  refine aw_istore (L' := [(6, .int v2), (0, .ref (ad 156)), (1, .ref (ad 3)), (2, .int x2), (3, .int x3), (4, .int x4), (5, .int x5)]) dX6_step_19 (by decide) rfl ?_
  refine aw_iload_n (j := 4) dX6_step_21 rfl rfl ?_
  refine aw_if_ne (tgt := 30) dX6_step_22 (by decide) (fun hc => ?_) (fun hc => ?_)
  · have h := h.1 hc
    refine aw_iload_n (j := 4) dX6_step_30 rfl rfl ?_
    refine aw_iconst (v := 1) dX6_step_31 (by decide) ?_
    refine aw_icmp_ne (tgt := 39) dX6_step_32 (by decide) (fun hc => ?_) (fun hc => ?_)
    · have h := h.1 hc
      refine aw_iconst (v := 0) dX6_step_39 (by decide) ?_
      exact aw_sub [1, 2, 3, 4, 5, 6, 0] rfl h
    · have h := h.2 hc
      refine aw_iconst (v := 1) dX6_step_35 (by decide) ?_
      refine aw_goto (tgt := 40) dX6_step_36 (by decide) ?_
      exact aw_sub [1, 2, 3, 4, 5, 6, 0] rfl h
  · have h := h.2 hc
    refine aw_iload (j := 0) dX6_step_25 rfl ?_
    refine aw_goto (tgt := 40) dX6_step_27 (by decide) ?_
    exact aw_sub [1, 2, 3, 4, 5, 6, 0] rfl h
set_option maxRecDepth 100000 in
set_option maxHeartbeats 4000000 in
theorem g_X6_step_40 {ad : Nat → Nat} {d : Nat} {Q : Option Value → Wm → Prop} {m : Wm} {x2 x3 x4 x5 x6 s0 : Int32} (h : ((s0 = (2 : Int32) → Q (some (.int (1 : Int32))) m) ∧ (¬ s0 = (2 : Int32) → ((x3 = 0 → AW ad E0 μX6_step (d + 1) Q 61 [(0, .ref (ad 156)), (1, .ref (ad 3)), (2, .int x2), (3, .int x3), (4, .int x4), (5, .int x5), (7, .int s0)] [] m) ∧ (¬ x3 = 0 → ((¬ s0 = x6 → AW ad E0 μX6_step (d + 1) Q 61 [(0, .ref (ad 156)), (1, .ref (ad 3)), (2, .int x2), (3, .int x3), (4, .int x4), (5, .int x5), (7, .int s0)] [] m) ∧ (s0 = x6 → Q (some (.int (1 : Int32))) m))))))) : AW ad E0 μX6_step (d + 1) Q 40 [(0, .ref (ad 156)), (1, .ref (ad 3)), (2, .int x2), (3, .int x3), (4, .int x4), (5, .int x5), (6, .int x6)] [.int s0] m := by
  refine aw_istore (L' := [(7, .int s0), (0, .ref (ad 156)), (1, .ref (ad 3)), (2, .int x2), (3, .int x3), (4, .int x4), (5, .int x5), (6, .int x6)]) dX6_step_40 (by decide) rfl ?_
  refine aw_iload (j := 0) dX6_step_42 rfl ?_
  refine aw_iconst (v := 2) dX6_step_44 (by decide) ?_
  refine aw_icmp_eq (tgt := 59) dX6_step_45 (by decide) (fun hc => ?_) (fun hc => ?_)
  · have h := h.1 hc
    refine aw_iconst (v := 1) dX6_step_59 (by decide) ?_
    exact aw_ret (v := some (.int (1 : Int32))) rfl (Or.inr (Or.inl ⟨_, .boolean, rfl, rfl, by decide, dX6_step_60⟩)) h
  · have h := h.2 hc
    refine aw_iload_n (j := 4) dX6_step_48 rfl rfl ?_
    refine aw_if_eq (tgt := 61) dX6_step_49 (by decide) (fun hc => ?_) (fun hc => ?_)
    · have h := h.1 hc
      exact aw_sub [1, 2, 3, 4, 5, 6, 0] rfl h
    · have h := h.2 hc
      refine aw_iload (j := 0) dX6_step_52 rfl ?_
      refine aw_iload (j := 7) dX6_step_54 rfl ?_
      refine aw_icmp_ne (tgt := 61) dX6_step_56 (by decide) (fun hc => ?_) (fun hc => ?_)
      · have h := h.1 hc
        exact aw_sub [1, 2, 3, 4, 5, 6, 0] rfl h
      · have h := h.2 hc
        refine aw_iconst (v := 1) dX6_step_59 (by decide) ?_
        exact aw_ret (v := some (.int (1 : Int32))) rfl (Or.inr (Or.inl ⟨_, .boolean, rfl, rfl, by decide, dX6_step_60⟩)) h
set_option maxRecDepth 100000 in
set_option maxHeartbeats 4000000 in
theorem g_X6_step_61 {ad : Nat → Nat} {d : Nat} {Q : Option Value → Wm → Prop} {m : Wm} {x2 x3 x4 x5 x7 : Int32} (h : (Ct ad μX1_settle d [.ref (ad 3), .ref (ad 157), .int x4, .int x5, .int x7, .int (0 : Int32)] m (fun r m1 => r = none ∧ ((¬ (m1.1 3 6) = (-1 : Int32) → (Ct ad μX6_halfAfter d [.ref (ad 156), .int x2, .int x4, .int x5, .int (0 : Int32)] m1 (fun r m2 => ∃ w3 : Int64, r = some (.long w3) ∧ (Ct ad μX6_halfAfter d [.ref (ad 156), .int x2, .int x4, .int x5, .int (1 : Int32)] m2 (fun r m4 => ∃ w5 : Int64, r = some (.long w5) ∧ (Ct ad μX9_put d [.ref (ad 151), .long w3, .long w5] m4 (fun r m6 => ∃ v7 : Int32, r = some (.int v7) ∧ (Ct ad μX9_unpack d [.ref (ad 151), .int x2, .int x4, .ref (ad 157)] m6 (fun r m8 => r = none ∧ (Ct ad μX9_unpack d [.ref (ad 151), .int x2, .int x5, .ref (ad 157)] m8 (fun r m9 => r = none ∧ ((¬ v7 = (-1 : Int32) → (((m9.1 151 5) = 0 → Q (some (.int (1 : Int32))) m9) ∧ (¬ (m9.1 151 5) = 0 → (vp_in v7 3000 ∧ (vp_in v7 3000 ∧ (vp_in x2 3000 ∧ (vp_in v7 3000 ∧ Q (some (.int (1 : Int32))) (uI (uI (uI m9 163 v7.toNatClampNeg x2) 164 v7.toNatClampNeg ((((100 : Int32) * x3) + ((10 : Int32) * x4)) + x5)) 165 v7.toNatClampNeg (((uI (uI m9 163 v7.toNatClampNeg x2) 164 v7.toNatClampNeg ((((100 : Int32) * x3) + ((10 : Int32) * x4)) + x5)).1 165 x2.toNatClampNeg) + (1 : Int32)))))))))) ∧ (v7 = (-1 : Int32) → Q (some (.int (0 : Int32))) m9))))))))))))) ∧ ((m1.1 3 6) = (-1 : Int32) → Q (some (.int (1 : Int32))) m1))))) : AW ad E0 μX6_step (d + 1) Q 61 [(0, .ref (ad 156)), (1, .ref (ad 3)), (2, .int x2), (3, .int x3), (4, .int x4), (5, .int x5), (7, .int x7)] [] m := by
  refine aw_aload_n (j := 1) dX6_step_61 rfl rfl ?_
  refine aw_aload_n (j := 0) dX6_step_62 rfl rfl ?_
  refine aw_getfield (c := 160) (v := .ref (ad 157)) dX6_step_63 f_X6_12 ly_156 rfl rfl ?_
  refine aw_iload (j := 4) dX6_step_66 rfl ?_
  refine aw_iload (j := 5) dX6_step_68 rfl ?_
  refine aw_iload (j := 6) dX6_step_70 rfl ?_
  refine aw_iconst (v := 0) dX6_step_72 (by decide) ?_
  refine aw_callV (rest := []) [.ref (ad 157), .int x4, .int x5, .int x7, .int (0 : Int32)] dX6_step_73 ly_3 rfl k_X6_80 rfl h (Nat.le_of_ble_eq_true rfl) (fun v m1 h => ?_)
  obtain ⟨rfl, h⟩ := h
  refine aw_eq (L' := [(0, .ref (ad 156)), (1, .ref (ad 3)), (2, .int x2), (3, .int x3), (4, .int x4), (5, .int x5), (7, .int x7)]) (st' := []) (m' := m1) ?_ rfl rfl rfl
  refine aw_aload_n (j := 1) dX6_step_76 rfl rfl ?_
  refine aw_getfield (c := 0) (v := .int (m1.1 3 6)) dX6_step_77 f_X6_84 ly_3 rfl rfl ?_
  refine aw_iconst (v := -1) dX6_step_80 (by decide) ?_
  refine aw_icmp_ne (tgt := 86) dX6_step_81 (by decide) (fun hc => ?_) (fun hc => ?_)
  · have h := h.1 hc
    refine aw_aload_n (j := 0) dX6_step_86 rfl rfl ?_
    refine aw_getfield (c := 154) (v := .ref (ad 151)) dX6_step_87 f_X6_37 ly_156 rfl rfl ?_
    refine aw_aload_n (j := 0) dX6_step_90 rfl rfl ?_
    refine aw_iload_n (j := 2) dX6_step_91 rfl rfl ?_
    refine aw_iload (j := 4) dX6_step_92 rfl ?_
    refine aw_iload (j := 5) dX6_step_94 rfl ?_
    refine aw_iconst (v := 0) dX6_step_96 (by decide) ?_
    refine aw_callV (rest := [.ref (ad 151)]) [.int x2, .int x4, .int x5, .int (0 : Int32)] dX6_step_97 ly_156 rfl k_X6_87 rfl h (Nat.le_of_ble_eq_true rfl) (fun v m2 h => ?_)
    obtain ⟨w3, rfl, h⟩ := h
    refine aw_eq (L' := [(0, .ref (ad 156)), (1, .ref (ad 3)), (2, .int x2), (3, .int x3), (4, .int x4), (5, .int x5), (7, .int x7)]) (st' := [.long w3, .ref (ad 151)]) (m' := m2) ?_ rfl rfl rfl
    refine aw_aload_n (j := 0) dX6_step_100 rfl rfl ?_
    refine aw_iload_n (j := 2) dX6_step_101 rfl rfl ?_
    refine aw_iload (j := 4) dX6_step_102 rfl ?_
    refine aw_iload (j := 5) dX6_step_104 rfl ?_
    refine aw_iconst (v := 1) dX6_step_106 (by decide) ?_
    refine aw_callV (rest := [.long w3, .ref (ad 151)]) [.int x2, .int x4, .int x5, .int (1 : Int32)] dX6_step_107 ly_156 rfl k_X6_87 rfl h (Nat.le_of_ble_eq_true rfl) (fun v m4 h => ?_)
    obtain ⟨w5, rfl, h⟩ := h
    refine aw_eq (L' := [(0, .ref (ad 156)), (1, .ref (ad 3)), (2, .int x2), (3, .int x3), (4, .int x4), (5, .int x5), (7, .int x7)]) (st' := [.long w5, .long w3, .ref (ad 151)]) (m' := m4) ?_ rfl rfl rfl
    refine aw_callV (rest := []) [.long w3, .long w5] dX6_step_110 ly_151 rfl k_X6_91 rfl h (Nat.le_of_ble_eq_true rfl) (fun v m6 h => ?_)
    obtain ⟨v7, rfl, h⟩ := h
    refine aw_eq (L' := [(0, .ref (ad 156)), (1, .ref (ad 3)), (2, .int x2), (3, .int x3), (4, .int x4), (5, .int x5), (7, .int x7)]) (st' := [.int v7]) (m' := m6) ?_ rfl rfl rfl
    refine aw_istore (L' := [(8, .int v7), (0, .ref (ad 156)), (1, .ref (ad 3)), (2, .int x2), (3, .int x3), (4, .int x4), (5, .int x5), (7, .int x7)]) dX6_step_113 (by decide) rfl ?_
    refine aw_aload_n (j := 1) dX6_step_115 rfl rfl ?_
    refine aw_getfield (c := 154) (v := .ref (ad 151)) dX6_step_116 f_X6_37 ly_156 rfl rfl ?_
    refine aw_iload_n (j := 3) dX6_step_119 rfl rfl ?_
    refine aw_iload (j := 5) dX6_step_120 rfl ?_
    refine aw_aload_n (j := 1) dX6_step_122 rfl rfl ?_
    refine aw_getfield (c := 160) (v := .ref (ad 157)) dX6_step_123 f_X6_12 ly_156 rfl rfl ?_
    refine aw_callV (rest := []) [.int x2, .int x4, .ref (ad 157)] dX6_step_126 ly_151 rfl k_X6_95 rfl h (Nat.le_of_ble_eq_true rfl) (fun v m8 h => ?_)
    obtain ⟨rfl, h⟩ := h
    refine aw_eq (L' := [(8, .int v7), (0, .ref (ad 156)), (1, .ref (ad 3)), (2, .int x2), (3, .int x3), (4, .int x4), (5, .int x5), (7, .int x7)]) (st' := []) (m' := m8) ?_ rfl rfl rfl
    refine aw_aload_n (j := 1) dX6_step_129 rfl rfl ?_
    refine aw_getfield (c := 154) (v := .ref (ad 151)) dX6_step_130 f_X6_37 ly_156 rfl rfl ?_
    refine aw_iload_n (j := 3) dX6_step_133 rfl rfl ?_
    refine aw_iload (j := 6) dX6_step_134 rfl ?_
    refine aw_aload_n (j := 1) dX6_step_136 rfl rfl ?_
    refine aw_getfield (c := 160) (v := .ref (ad 157)) dX6_step_137 f_X6_12 ly_156 rfl rfl ?_
    refine aw_callV (rest := []) [.int x2, .int x5, .ref (ad 157)] dX6_step_140 ly_151 rfl k_X6_95 rfl h (Nat.le_of_ble_eq_true rfl) (fun v m9 h => ?_)
    obtain ⟨rfl, h⟩ := h
    refine aw_eq (L' := [(8, .int v7), (0, .ref (ad 156)), (1, .ref (ad 3)), (2, .int x2), (3, .int x3), (4, .int x4), (5, .int x5), (7, .int x7)]) (st' := []) (m' := m9) ?_ rfl rfl rfl
    refine aw_iload (j := 0) dX6_step_143 rfl ?_
    refine aw_iconst (v := -1) dX6_step_145 (by decide) ?_
    refine aw_icmp_ne (tgt := 151) dX6_step_146 (by decide) (fun hc => ?_) (fun hc => ?_)
    · have h := h.1 hc
      refine aw_aload_n (j := 1) dX6_step_151 rfl rfl ?_
      refine aw_getfield (c := 154) (v := .ref (ad 151)) dX6_step_152 f_X6_37 ly_156 rfl rfl ?_
      refine aw_getfield (c := 0) (v := .int (m9.1 151 5)) dX6_step_155 f_X6_99 ly_151 rfl rfl ?_
      refine aw_if_eq (tgt := 204) dX6_step_158 (by decide) (fun hc => ?_) (fun hc => ?_)
      · have h := h.1 hc
        refine aw_iconst (v := 1) dX6_step_204 (by decide) ?_
        exact aw_ret (v := some (.int (1 : Int32))) rfl (Or.inr (Or.inl ⟨_, .boolean, rfl, rfl, by decide, dX6_step_205⟩)) h
      · have h := h.2 hc
        refine aw_aload_n (j := 1) dX6_step_161 rfl rfl ?_
        refine aw_getfield (c := 166) (v := .ref (ad 163)) dX6_step_162 f_X6_24 ly_156 rfl rfl ?_
        refine aw_iload (j := 0) dX6_step_165 rfl ?_
        refine aw_iload_n (j := 3) dX6_step_167 rfl rfl ?_
        obtain ⟨hi, h⟩ := h
        refine aw_iastore dX6_step_168 ly_163 hi ?_
        refine aw_aload_n (j := 1) dX6_step_169 rfl rfl ?_
        refine aw_getfield (c := 167) (v := .ref (ad 164)) dX6_step_170 f_X6_27 ly_156 rfl rfl ?_
        refine aw_iload (j := 0) dX6_step_173 rfl ?_
        refine aw_bipush (v := 100) dX6_step_175 (by decide) ?_
        refine aw_iload_n (j := 4) dX6_step_177 rfl rfl ?_
        refine aw_imul dX6_step_178 ?_
        refine aw_bipush (v := 10) dX6_step_179 (by decide) ?_
        refine aw_iload (j := 5) dX6_step_181 rfl ?_
        refine aw_imul dX6_step_183 ?_
        refine aw_iadd dX6_step_184 ?_
        refine aw_iload (j := 6) dX6_step_185 rfl ?_
        refine aw_iadd dX6_step_187 ?_
        obtain ⟨hi, h⟩ := h
        refine aw_iastore dX6_step_188 ly_164 hi ?_
        refine aw_aload_n (j := 1) dX6_step_189 rfl rfl ?_
        refine aw_getfield (c := 168) (v := .ref (ad 165)) dX6_step_190 f_X6_30 ly_156 rfl rfl ?_
        refine aw_iload (j := 0) dX6_step_193 rfl ?_
        refine aw_aload_n (j := 1) dX6_step_195 rfl rfl ?_
        refine aw_getfield (c := 168) (v := .ref (ad 165)) dX6_step_196 f_X6_30 ly_156 rfl rfl ?_
        refine aw_iload_n (j := 3) dX6_step_199 rfl rfl ?_
        obtain ⟨hi, h⟩ := h
        refine aw_iaload dX6_step_200 ly_165 hi ?_
        refine aw_iconst (v := 1) dX6_step_201 (by decide) ?_
        refine aw_iadd dX6_step_202 ?_
        obtain ⟨hi, h⟩ := h
        refine aw_iastore dX6_step_203 ly_165 hi ?_
        refine aw_iconst (v := 1) dX6_step_204 (by decide) ?_
        exact aw_ret (v := some (.int (1 : Int32))) rfl (Or.inr (Or.inl ⟨_, .boolean, rfl, rfl, by decide, dX6_step_205⟩)) h
    · have h := h.2 hc
      refine aw_iconst (v := 0) dX6_step_149 (by decide) ?_
      exact aw_ret (v := some (.int (0 : Int32))) rfl (Or.inr (Or.inl ⟨_, .boolean, rfl, rfl, by decide, dX6_step_150⟩)) h
  · have h := h.2 hc
    refine aw_iconst (v := 1) dX6_step_84 (by decide) ?_
    exact aw_ret (v := some (.int (1 : Int32))) rfl (Or.inr (Or.inl ⟨_, .boolean, rfl, rfl, by decide, dX6_step_85⟩)) h
set_option maxRecDepth 100000 in
set_option maxHeartbeats 4000000 in
theorem v_X6_halfAfter {ad : Nat → Nat} {d : Nat} {Q : Option Value → Wm → Prop} {m : Wm} {x1 x2 x3 x4 : Int32} (h : ((x4 = 0 → (vp_in x1 3000 ∧ AW ad E0 μX6_halfAfter (d + 1) Q 26 [(0, .ref (ad 156)), (2, .int x2), (3, .int x3), (4, .int x4)] [.long (m.2.1 152 x1.toNatClampNeg)] m)) ∧ (¬ x4 = 0 → (vp_in x1 3000 ∧ AW ad E0 μX6_halfAfter (d + 1) Q 26 [(0, .ref (ad 156)), (2, .int x2), (3, .int x3), (4, .int x4)] [.long (m.2.1 153 x1.toNatClampNeg)] m)))) : Ct ad μX6_halfAfter (d + 1) [.ref (ad 156), .int x1, .int x2, .int x3, .int x4] m Q := by
  refine Ct.of (by decide +kernel) rfl (Nat.le_of_ble_eq_true rfl) ?_
  refine aw_eq (L' := [(0, .ref (ad 156)), (1, .int x1), (2, .int x2), (3, .int x3), (4, .int x4)]) ?_ rfl rfl rfl
  refine aw_iload (j := 4) dX6_halfAfter_0 rfl ?_
  refine aw_if_eq (tgt := 17) dX6_halfAfter_2 (by decide) (fun hc => ?_) (fun hc => ?_)
  · have h := h.1 hc
    refine aw_aload_n (j := 0) dX6_halfAfter_17 rfl rfl ?_
    refine aw_getfield (c := 154) (v := .ref (ad 151)) dX6_halfAfter_18 f_X6_37 ly_156 rfl rfl ?_
    refine aw_getfield (c := 155) (v := .ref (ad 152)) dX6_halfAfter_21 f_X6_107 ly_151 rfl rfl ?_
    refine aw_iload_n (j := 1) dX6_halfAfter_24 rfl rfl ?_
    obtain ⟨hi, h⟩ := h
    refine aw_laload dX6_halfAfter_25 ly_152 hi ?_
    exact aw_sub [0, 2, 3, 4] rfl h
  · have h := h.2 hc
    refine aw_aload_n (j := 0) dX6_halfAfter_5 rfl rfl ?_
    refine aw_getfield (c := 154) (v := .ref (ad 151)) dX6_halfAfter_6 f_X6_37 ly_156 rfl rfl ?_
    refine aw_getfield (c := 156) (v := .ref (ad 153)) dX6_halfAfter_9 f_X6_103 ly_151 rfl rfl ?_
    refine aw_iload_n (j := 1) dX6_halfAfter_12 rfl rfl ?_
    obtain ⟨hi, h⟩ := h
    refine aw_laload dX6_halfAfter_13 ly_153 hi ?_
    refine aw_goto (tgt := 26) dX6_halfAfter_14 (by decide) ?_
    exact aw_sub [0, 2, 3, 4] rfl h
set_option maxRecDepth 100000 in
set_option maxHeartbeats 4000000 in
theorem g_X6_halfAfter_26 {ad : Nat → Nat} {d : Nat} {Q : Option Value → Wm → Prop} {m : Wm} {x2 x3 x4 : Int32} {z0 : Int64} (h : ((x2 < (4 : Int32) → AW ad E0 μX6_halfAfter (d + 1) Q 38 [(0, .ref (ad 156)), (2, .int x2), (3, .int x3), (4, .int x4), (5, .long z0)] [.int (0 : Int32)] m) ∧ (¬ x2 < (4 : Int32) → AW ad E0 μX6_halfAfter (d + 1) Q 38 [(0, .ref (ad 156)), (2, .int x2), (3, .int x3), (4, .int x4), (5, .long z0)] [.int (1 : Int32)] m))) : AW ad E0 μX6_halfAfter (d + 1) Q 26 [(0, .ref (ad 156)), (2, .int x2), (3, .int x3), (4, .int x4)] [.long z0] m := by
  refine aw_lstore (L' := [(5, .long z0), (0, .ref (ad 156)), (2, .int x2), (3, .int x3), (4, .int x4)]) dX6_halfAfter_26 (by decide) rfl ?_
  refine aw_iload_n (j := 2) dX6_halfAfter_28 rfl rfl ?_
  refine aw_iconst (v := 4) dX6_halfAfter_29 (by decide) ?_
  refine aw_icmp_lt (tgt := 37) dX6_halfAfter_30 (by decide) (fun hc => ?_) (fun hc => ?_)
  · have h := h.1 hc
    refine aw_iconst (v := 0) dX6_halfAfter_37 (by decide) ?_
    exact aw_sub [1, 2, 3, 4, 0] rfl h
  · have h := h.2 hc
    refine aw_iconst (v := 1) dX6_halfAfter_33 (by decide) ?_
    refine aw_goto (tgt := 38) dX6_halfAfter_34 (by decide) ?_
    exact aw_sub [1, 2, 3, 4, 0] rfl h
set_option maxRecDepth 100000 in
set_option maxHeartbeats 4000000 in
theorem g_X6_halfAfter_38 {ad : Nat → Nat} {d : Nat} {Q : Option Value → Wm → Prop} {m : Wm} {x2 x3 x4 s0 : Int32} {y5 : Int64} (h : ((¬ s0 = x4 → ((x3 < (4 : Int32) → AW ad E0 μX6_halfAfter (d + 1) Q 70 [(0, .ref (ad 156)), (3, .int x3), (4, .int x4), (5, .long y5)] [.int (0 : Int32)] m) ∧ (¬ x3 < (4 : Int32) → AW ad E0 μX6_halfAfter (d + 1) Q 70 [(0, .ref (ad 156)), (3, .int x3), (4, .int x4), (5, .long y5)] [.int (1 : Int32)] m))) ∧ (s0 = x4 → (Ct ad μX9_without d [.long y5, .int x2] m (fun r m1 => ∃ w2 : Int64, r = some (.long w2) ∧ (Ct ad μX9_packed d [.ref (ad 157), .int x2] m1 (fun r m3 => ∃ w4 : Int64, r = some (.long w4) ∧ ((x3 < (4 : Int32) → AW ad E0 μX6_halfAfter (d + 1) Q 70 [(0, .ref (ad 156)), (3, .int x3), (4, .int x4), (5, .long (w2 ||| w4))] [.int (0 : Int32)] m3) ∧ (¬ x3 < (4 : Int32) → AW ad E0 μX6_halfAfter (d + 1) Q 70 [(0, .ref (ad 156)), (3, .int x3), (4, .int x4), (5, .long (w2 ||| w4))] [.int (1 : Int32)] m3))))))))) : AW ad E0 μX6_halfAfter (d + 1) Q 38 [(0, .ref (ad 156)), (2, .int x2), (3, .int x3), (4, .int x4), (5, .long y5)] [.int s0] m := by
  refine aw_iload (j := 3) dX6_halfAfter_38 rfl ?_
  refine aw_icmp_ne (tgt := 60) dX6_halfAfter_40 (by decide) (fun hc => ?_) (fun hc => ?_)
  · have h := h.1 hc
    refine aw_iload_n (j := 2) dX6_halfAfter_60 rfl rfl ?_
    refine aw_iconst (v := 4) dX6_halfAfter_61 (by decide) ?_
    refine aw_icmp_lt (tgt := 69) dX6_halfAfter_62 (by decide) (fun hc => ?_) (fun hc => ?_)
    · have h := h.1 hc
      refine aw_iconst (v := 0) dX6_halfAfter_69 (by decide) ?_
      exact aw_sub [0, 2, 3, 4] rfl h
    · have h := h.2 hc
      refine aw_iconst (v := 1) dX6_halfAfter_65 (by decide) ?_
      refine aw_goto (tgt := 70) dX6_halfAfter_66 (by decide) ?_
      exact aw_sub [0, 2, 3, 4] rfl h
  · have h := h.2 hc
    refine aw_lload (j := 4) dX6_halfAfter_43 rfl ?_
    refine aw_iload_n (j := 1) dX6_halfAfter_45 rfl rfl ?_
    refine aw_callS (rest := []) [.long y5, .int x2] dX6_halfAfter_46 k_X6_110 rfl h (Nat.le_of_ble_eq_true rfl) (fun v m1 h => ?_)
    obtain ⟨w2, rfl, h⟩ := h
    refine aw_eq (L' := [(0, .ref (ad 156)), (2, .int x2), (3, .int x3), (4, .int x4), (5, .long y5)]) (st' := [.long w2]) (m' := m1) ?_ rfl rfl rfl
    refine aw_aload_n (j := 0) dX6_halfAfter_49 rfl rfl ?_
    refine aw_getfield (c := 160) (v := .ref (ad 157)) dX6_halfAfter_50 f_X6_12 ly_156 rfl rfl ?_
    refine aw_iload_n (j := 1) dX6_halfAfter_53 rfl rfl ?_
    refine aw_callS (rest := [.long w2]) [.ref (ad 157), .int x2] dX6_halfAfter_54 k_X6_114 rfl h (Nat.le_of_ble_eq_true rfl) (fun v m3 h => ?_)
    obtain ⟨w4, rfl, h⟩ := h
    refine aw_eq (L' := [(0, .ref (ad 156)), (2, .int x2), (3, .int x3), (4, .int x4), (5, .long y5)]) (st' := [.long w4, .long w2]) (m' := m3) ?_ rfl rfl rfl
    refine aw_lor dX6_halfAfter_57 ?_
    refine aw_lstore (L' := [(5, .long (w2 ||| w4)), (0, .ref (ad 156)), (2, .int x2), (3, .int x3), (4, .int x4)]) dX6_halfAfter_58 (by decide) rfl ?_
    refine aw_iload_n (j := 3) dX6_halfAfter_60 rfl rfl ?_
    refine aw_iconst (v := 4) dX6_halfAfter_61 (by decide) ?_
    refine aw_icmp_lt (tgt := 69) dX6_halfAfter_62 (by decide) (fun hc => ?_) (fun hc => ?_)
    · have h := h.1 hc
      refine aw_iconst (v := 0) dX6_halfAfter_69 (by decide) ?_
      exact aw_sub [1, 3, 4, 0] rfl h
    · have h := h.2 hc
      refine aw_iconst (v := 1) dX6_halfAfter_65 (by decide) ?_
      refine aw_goto (tgt := 70) dX6_halfAfter_66 (by decide) ?_
      exact aw_sub [1, 3, 4, 0] rfl h
set_option maxRecDepth 100000 in
set_option maxHeartbeats 4000000 in
theorem g_X6_halfAfter_70 {ad : Nat → Nat} {d : Nat} {Q : Option Value → Wm → Prop} {m : Wm} {x3 x4 s0 : Int32} {y5 : Int64} (h : ((¬ s0 = x4 → Q (some (.long y5)) m) ∧ (s0 = x4 → (Ct ad μX9_without d [.long y5, .int x3] m (fun r m1 => ∃ w2 : Int64, r = some (.long w2) ∧ (Ct ad μX9_packed d [.ref (ad 157), .int x3] m1 (fun r m3 => ∃ w4 : Int64, r = some (.long w4) ∧ Q (some (.long (w2 ||| w4))) m3))))))) : AW ad E0 μX6_halfAfter (d + 1) Q 70 [(0, .ref (ad 156)), (3, .int x3), (4, .int x4), (5, .long y5)] [.int s0] m := by
  refine aw_iload (j := 2) dX6_halfAfter_70 rfl ?_
  refine aw_icmp_ne (tgt := 92) dX6_halfAfter_72 (by decide) (fun hc => ?_) (fun hc => ?_)
  · have h := h.1 hc
    refine aw_lload (j := 3) dX6_halfAfter_92 rfl ?_
    exact aw_ret (v := some (.long y5)) rfl (Or.inr (Or.inr ⟨_, rfl, rfl, dX6_halfAfter_94⟩)) h
  · have h := h.2 hc
    refine aw_lload (j := 3) dX6_halfAfter_75 rfl ?_
    refine aw_iload_n (j := 1) dX6_halfAfter_77 rfl rfl ?_
    refine aw_callS (rest := []) [.long y5, .int x3] dX6_halfAfter_78 k_X6_110 rfl h (Nat.le_of_ble_eq_true rfl) (fun v m1 h => ?_)
    obtain ⟨w2, rfl, h⟩ := h
    refine aw_eq (L' := [(0, .ref (ad 156)), (3, .int x3), (4, .int x4), (5, .long y5)]) (st' := [.long w2]) (m' := m1) ?_ rfl rfl rfl
    refine aw_aload_n (j := 0) dX6_halfAfter_81 rfl rfl ?_
    refine aw_getfield (c := 160) (v := .ref (ad 157)) dX6_halfAfter_82 f_X6_12 ly_156 rfl rfl ?_
    refine aw_iload_n (j := 1) dX6_halfAfter_85 rfl rfl ?_
    refine aw_callS (rest := [.long w2]) [.ref (ad 157), .int x3] dX6_halfAfter_86 k_X6_114 rfl h (Nat.le_of_ble_eq_true rfl) (fun v m3 h => ?_)
    obtain ⟨w4, rfl, h⟩ := h
    refine aw_eq (L' := [(0, .ref (ad 156)), (3, .int x3), (4, .int x4), (5, .long y5)]) (st' := [.long w4, .long w2]) (m' := m3) ?_ rfl rfl rfl
    refine aw_lor dX6_halfAfter_89 ?_
    refine aw_lstore (L' := [(5, .long (w2 ||| w4)), (0, .ref (ad 156)), (3, .int x3), (4, .int x4)]) dX6_halfAfter_90 (by decide) rfl ?_
    refine aw_lload (j := 0) dX6_halfAfter_92 rfl ?_
    exact aw_ret (v := some (.long (w2 ||| w4))) rfl (Or.inr (Or.inr ⟨_, rfl, rfl, dX6_halfAfter_94⟩)) h
set_option maxRecDepth 100000 in
set_option maxHeartbeats 4000000 in
theorem v_X6_unpackAll {ad : Nat → Nat} {d : Nat} {Q : Option Value → Wm → Prop} {m : Wm} {x2 : Int32} (h : AW ad E0 μX6_unpackAll (d + 1) Q 2 [(0, .ref (ad 156)), (1, .ref (ad 3)), (2, .int x2), (3, .int (0 : Int32))] [] m) : Ct ad μX6_unpackAll (d + 1) [.ref (ad 156), .ref (ad 3), .int x2] m Q := by
  refine Ct.of (by decide +kernel) rfl (Nat.le_of_ble_eq_true rfl) ?_
  refine aw_eq (L' := [(0, .ref (ad 156)), (1, .ref (ad 3)), (2, .int x2)]) ?_ rfl rfl rfl
  refine aw_iconst (v := 0) dX6_unpackAll_0 (by decide) ?_
  refine aw_istore_n (L' := [(3, .int (0 : Int32)), (0, .ref (ad 156)), (1, .ref (ad 3)), (2, .int x2)]) dX6_unpackAll_1 rfl (by decide) rfl ?_
  exact aw_sub [1, 2, 3, 0] rfl h
set_option maxRecDepth 100000 in
set_option maxHeartbeats 4000000 in
theorem g_X6_unpackAll_2 {ad : Nat → Nat} {d : Nat} {Q : Option Value → Wm → Prop} {m : Wm} {x2 x3 : Int32} (h : (((m.1 3 3) ≤ x3 → Q none m) ∧ (¬ (m.1 3 3) ≤ x3 → (Ct ad μX9_unpack d [.ref (ad 151), .int x2, .int x3, .ref (ad 157)] m (fun r m1 => r = none ∧ AW ad E0 μX6_unpackAll (d + 1) Q 2 [(0, .ref (ad 156)), (1, .ref (ad 3)), (2, .int x2), (3, .int (x3 + (1 : Int32)))] [] m1))))) : AW ad E0 μX6_unpackAll (d + 1) Q 2 [(0, .ref (ad 156)), (1, .ref (ad 3)), (2, .int x2), (3, .int x3)] [] m := by
  refine aw_iload_n (j := 3) dX6_unpackAll_2 rfl rfl ?_
  refine aw_aload_n (j := 1) dX6_unpackAll_3 rfl rfl ?_
  refine aw_getfield (c := 0) (v := .int (m.1 3 3)) dX6_unpackAll_4 f_X6_63 ly_3 rfl rfl ?_
  refine aw_icmp_ge (tgt := 29) dX6_unpackAll_7 (by decide) (fun hc => ?_) (fun hc => ?_)
  · have h := h.1 hc
    exact aw_ret (v := none) rfl (Or.inl ⟨rfl, rfl, dX6_unpackAll_29⟩) h
  · have h := h.2 hc
    refine aw_aload_n (j := 0) dX6_unpackAll_10 rfl rfl ?_
    refine aw_getfield (c := 154) (v := .ref (ad 151)) dX6_unpackAll_11 f_X6_37 ly_156 rfl rfl ?_
    refine aw_iload_n (j := 2) dX6_unpackAll_14 rfl rfl ?_
    refine aw_iload_n (j := 3) dX6_unpackAll_15 rfl rfl ?_
    refine aw_aload_n (j := 0) dX6_unpackAll_16 rfl rfl ?_
    refine aw_getfield (c := 160) (v := .ref (ad 157)) dX6_unpackAll_17 f_X6_12 ly_156 rfl rfl ?_
    refine aw_callV (rest := []) [.int x2, .int x3, .ref (ad 157)] dX6_unpackAll_20 ly_151 rfl k_X6_95 rfl h (Nat.le_of_ble_eq_true rfl) (fun v m1 h => ?_)
    obtain ⟨rfl, h⟩ := h
    refine aw_eq (L' := [(0, .ref (ad 156)), (1, .ref (ad 3)), (2, .int x2), (3, .int x3)]) (st' := []) (m' := m1) ?_ rfl rfl rfl
    refine aw_iinc (j := 3) (v := x3 + (1 : Int32)) (L' := [(3, .int (x3 + (1 : Int32))), (0, .ref (ad 156)), (1, .ref (ad 3)), (2, .int x2)]) dX6_unpackAll_23 rfl rfl (by decide) rfl ?_
    refine aw_goto (tgt := 2) dX6_unpackAll_26 (by decide) ?_
    exact aw_sub [1, 2, 3, 0] rfl h
set_option maxRecDepth 100000 in
set_option maxHeartbeats 4000000 in
theorem v_X6_fillWay {ad : Nat → Nat} {d : Nat} {Q : Option Value → Wm → Prop} {m : Wm} {a2 na2 : Nat} {x1 : Int32} (ha2 : LAY[a2]? = some (.inr (4, na2))) (h : (vp_in x1 3000 ∧ AW ad E0 μX6_fillWay d Q 10 [(0, .ref (ad 156)), (2, .ref (ad a2)), (3, .int x1), (4, .int (m.1 165 x1.toNatClampNeg))] [] m)) : Ct ad μX6_fillWay d [.ref (ad 156), .int x1, .ref (ad a2)] m Q := by
  refine Ct.of (by decide +kernel) rfl (Nat.le_of_ble_eq_true rfl) ?_
  refine aw_eq (L' := [(0, .ref (ad 156)), (1, .int x1), (2, .ref (ad a2))]) ?_ rfl rfl rfl
  refine aw_iload_n (j := 1) dX6_fillWay_0 rfl rfl ?_
  refine aw_istore_n (L' := [(3, .int x1), (0, .ref (ad 156)), (1, .int x1), (2, .ref (ad a2))]) dX6_fillWay_1 rfl (by decide) rfl ?_
  refine aw_aload_n (j := 1) dX6_fillWay_2 rfl rfl ?_
  refine aw_getfield (c := 168) (v := .ref (ad 165)) dX6_fillWay_3 f_X6_30 ly_156 rfl rfl ?_
  refine aw_iload_n (j := 2) dX6_fillWay_6 rfl rfl ?_
  obtain ⟨hi, h⟩ := h
  refine aw_iaload dX6_fillWay_7 ly_165 hi ?_
  refine aw_istore (L' := [(4, .int (m.1 165 x1.toNatClampNeg)), (3, .int x1), (0, .ref (ad 156)), (1, .int x1), (2, .ref (ad a2))]) dX6_fillWay_8 (by decide) rfl ?_
  exact aw_sub [2, 4, 1, 0] rfl h
set_option maxRecDepth 100000 in
set_option maxHeartbeats 4000000 in
theorem g_X6_fillWay_10 {ad : Nat → Nat} {d : Nat} {Q : Option Value → Wm → Prop} {m : Wm} {a2 na2 : Nat} {x3 x4 : Int32} (ha2 : LAY[a2]? = some (.inr (4, na2))) (h : ((x4 ≤ 0 → Q none m) ∧ (¬ x4 ≤ 0 → ((x3 < 0 → Q none m) ∧ (¬ x3 < 0 → (((Int32.ofNat na2) < x4 → AW ad E0 μX6_fillWay d Q 39 [(0, .ref (ad 156)), (2, .ref (ad a2)), (3, .int x3), (4, .int x4)] [] m) ∧ (¬ (Int32.ofNat na2) < x4 → (vp_in x3 3000 ∧ (vp_in (x4 - (1 : Int32)) na2 ∧ AW ad E0 μX6_fillWay d Q 39 [(0, .ref (ad 156)), (2, .ref (ad a2)), (3, .int x3), (4, .int x4)] [] (uL m a2 (x4 - (1 : Int32)).toNatClampNeg ((m.1 164 x3.toNatClampNeg).toInt64))))))))))) : AW ad E0 μX6_fillWay d Q 10 [(0, .ref (ad 156)), (2, .ref (ad a2)), (3, .int x3), (4, .int x4)] [] m := by
  refine aw_iload (j := 3) dX6_fillWay_10 rfl ?_
  refine aw_if_le (tgt := 52) dX6_fillWay_12 (by decide) (fun hc => ?_) (fun hc => ?_)
  · have h := h.1 hc
    exact aw_ret (v := none) rfl (Or.inl ⟨rfl, rfl, dX6_fillWay_52⟩) h
  · have h := h.2 hc
    refine aw_iload_n (j := 2) dX6_fillWay_15 rfl rfl ?_
    refine aw_if_lt (tgt := 52) dX6_fillWay_16 (by decide) (fun hc => ?_) (fun hc => ?_)
    · have h := h.1 hc
      exact aw_ret (v := none) rfl (Or.inl ⟨rfl, rfl, dX6_fillWay_52⟩) h
    · have h := h.2 hc
      refine aw_iload (j := 3) dX6_fillWay_19 rfl ?_
      refine aw_aload_n (j := 1) dX6_fillWay_21 rfl rfl ?_
      refine aw_alen4 (v := Int32.ofNat na2) dX6_fillWay_22 ha2 rfl ?_
      refine aw_icmp_gt (tgt := 39) dX6_fillWay_23 (by decide) (fun hc => ?_) (fun hc => ?_)
      · have h := h.1 hc
        exact aw_sub [0, 1, 2, 3] rfl h
      · have h := h.2 hc
        refine aw_aload_n (j := 1) dX6_fillWay_26 rfl rfl ?_
        refine aw_iload (j := 3) dX6_fillWay_27 rfl ?_
        refine aw_iconst (v := 1) dX6_fillWay_29 (by decide) ?_
        refine aw_isub dX6_fillWay_30 ?_
        refine aw_aload_n (j := 0) dX6_fillWay_31 rfl rfl ?_
        refine aw_getfield (c := 167) (v := .ref (ad 164)) dX6_fillWay_32 f_X6_27 ly_156 rfl rfl ?_
        refine aw_iload_n (j := 2) dX6_fillWay_35 rfl rfl ?_
        obtain ⟨hi, h⟩ := h
        refine aw_iaload dX6_fillWay_36 ly_164 hi ?_
        refine aw_i2l dX6_fillWay_37 ?_
        obtain ⟨hi, h⟩ := h
        refine aw_lastore dX6_fillWay_38 ha2 hi ?_
        exact aw_sub [0, 1, 2, 3] rfl h
set_option maxRecDepth 100000 in
set_option maxHeartbeats 4000000 in
theorem g_X6_fillWay_39 {ad : Nat → Nat} {d : Nat} {Q : Option Value → Wm → Prop} {m : Wm} {a2 na2 : Nat} {x3 x4 : Int32} (ha2 : LAY[a2]? = some (.inr (4, na2))) (h : (vp_in x3 3000 ∧ AW ad E0 μX6_fillWay d Q 10 [(0, .ref (ad 156)), (2, .ref (ad a2)), (3, .int (m.1 163 x3.toNatClampNeg)), (4, .int (x4 + (-1 : Int32)))] [] m)) : AW ad E0 μX6_fillWay d Q 39 [(0, .ref (ad 156)), (2, .ref (ad a2)), (3, .int x3), (4, .int x4)] [] m := by
  refine aw_aload_n (j := 0) dX6_fillWay_39 rfl rfl ?_
  refine aw_getfield (c := 166) (v := .ref (ad 163)) dX6_fillWay_40 f_X6_24 ly_156 rfl rfl ?_
  refine aw_iload_n (j := 2) dX6_fillWay_43 rfl rfl ?_
  obtain ⟨hi, h⟩ := h
  refine aw_iaload dX6_fillWay_44 ly_163 hi ?_
  refine aw_istore_n (L' := [(3, .int (m.1 163 x3.toNatClampNeg)), (0, .ref (ad 156)), (2, .ref (ad a2)), (4, .int x4)]) dX6_fillWay_45 rfl (by decide) rfl ?_
  refine aw_iinc (j := 3) (v := x4 + (-1 : Int32)) (L' := [(4, .int (x4 + (-1 : Int32))), (3, .int (m.1 163 x3.toNatClampNeg)), (0, .ref (ad 156)), (2, .ref (ad a2))]) dX6_fillWay_46 rfl rfl (by decide) rfl ?_
  refine aw_goto (tgt := 10) dX6_fillWay_49 (by decide) ?_
  exact aw_sub [2, 3, 1, 0] rfl h
set_option maxRecDepth 100000 in
set_option maxHeartbeats 4000000 in
theorem v_X6_firstStrong {ad : Nat → Nat} {d : Nat} {Q : Option Value → Wm → Prop} {m : Wm} {x2 : Int32} (h : AW ad E0 μX6_firstStrong (d + 1) Q 2 [(0, .ref (ad 156)), (1, .ref (ad 3)), (2, .int x2), (3, .int (0 : Int32))] [] m) : Ct ad μX6_firstStrong (d + 1) [.ref (ad 156), .ref (ad 3), .int x2] m Q := by
  refine Ct.of (by decide +kernel) rfl (Nat.le_of_ble_eq_true rfl) ?_
  refine aw_eq (L' := [(0, .ref (ad 156)), (1, .ref (ad 3)), (2, .int x2)]) ?_ rfl rfl rfl
  refine aw_iconst (v := 0) dX6_firstStrong_0 (by decide) ?_
  refine aw_istore_n (L' := [(3, .int (0 : Int32)), (0, .ref (ad 156)), (1, .ref (ad 3)), (2, .int x2)]) dX6_firstStrong_1 rfl (by decide) rfl ?_
  exact aw_sub [1, 2, 3, 0] rfl h
set_option maxRecDepth 100000 in
set_option maxHeartbeats 4000000 in
theorem g_X6_firstStrong_2 {ad : Nat → Nat} {d : Nat} {Q : Option Value → Wm → Prop} {m : Wm} {x2 x3 : Int32} (h : (((m.1 151 4) ≤ x3 → Q (some (.int (-1 : Int32))) m) ∧ (¬ (m.1 151 4) ≤ x3 → (Ct ad μX6_unpackAll d [.ref (ad 156), .ref (ad 3), .int x3] m (fun r m1 => r = none ∧ AW ad E0 μX6_firstStrong (d + 1) Q 25 [(0, .ref (ad 156)), (1, .ref (ad 3)), (2, .int x2), (3, .int x3), (4, .int (1 : Int32)), (5, .int (0 : Int32))] [] m1))))) : AW ad E0 μX6_firstStrong (d + 1) Q 2 [(0, .ref (ad 156)), (1, .ref (ad 3)), (2, .int x2), (3, .int x3)] [] m := by
  refine aw_iload_n (j := 3) dX6_firstStrong_2 rfl rfl ?_
  refine aw_aload_n (j := 0) dX6_firstStrong_3 rfl rfl ?_
  refine aw_getfield (c := 154) (v := .ref (ad 151)) dX6_firstStrong_4 f_X6_37 ly_156 rfl rfl ?_
  refine aw_getfield (c := 0) (v := .int (m.1 151 4)) dX6_firstStrong_7 f_X6_52 ly_151 rfl rfl ?_
  refine aw_icmp_ge (tgt := 79) dX6_firstStrong_10 (by decide) (fun hc => ?_) (fun hc => ?_)
  · have h := h.1 hc
    refine aw_iconst (v := -1) dX6_firstStrong_79 (by decide) ?_
    exact aw_ret (v := some (.int (-1 : Int32))) rfl (Or.inr (Or.inl ⟨_, .int, rfl, rfl, rfl, dX6_firstStrong_80⟩)) h
  · have h := h.2 hc
    refine aw_aload_n (j := 0) dX6_firstStrong_13 rfl rfl ?_
    refine aw_aload_n (j := 1) dX6_firstStrong_14 rfl rfl ?_
    refine aw_iload_n (j := 3) dX6_firstStrong_15 rfl rfl ?_
    refine aw_callV (rest := []) [.ref (ad 3), .int x3] dX6_firstStrong_16 ly_156 rfl k_X6_59 rfl h (Nat.le_of_ble_eq_true rfl) (fun v m1 h => ?_)
    obtain ⟨rfl, h⟩ := h
    refine aw_eq (L' := [(0, .ref (ad 156)), (1, .ref (ad 3)), (2, .int x2), (3, .int x3)]) (st' := []) (m' := m1) ?_ rfl rfl rfl
    refine aw_iconst (v := 1) dX6_firstStrong_19 (by decide) ?_
    refine aw_istore (L' := [(4, .int (1 : Int32)), (0, .ref (ad 156)), (1, .ref (ad 3)), (2, .int x2), (3, .int x3)]) dX6_firstStrong_20 (by decide) rfl ?_
    refine aw_iconst (v := 0) dX6_firstStrong_22 (by decide) ?_
    refine aw_istore (L' := [(5, .int (0 : Int32)), (4, .int (1 : Int32)), (0, .ref (ad 156)), (1, .ref (ad 3)), (2, .int x2), (3, .int x3)]) dX6_firstStrong_23 (by decide) rfl ?_
    exact aw_sub [2, 3, 4, 5, 1, 0] rfl h
set_option maxRecDepth 100000 in
set_option maxHeartbeats 4000000 in
theorem g_X6_firstStrong_25 {ad : Nat → Nat} {d : Nat} {Q : Option Value → Wm → Prop} {m : Wm} {x2 x3 x4 x5 : Int32} (h : (((m.1 3 3) ≤ x5 → ((x4 = 0 → AW ad E0 μX6_firstStrong (d + 1) Q 2 [(0, .ref (ad 156)), (1, .ref (ad 3)), (2, .int x2), (3, .int (x3 + (1 : Int32)))] [] m) ∧ (¬ x4 = 0 → Q (some (.int x3)) m))) ∧ (¬ (m.1 3 3) ≤ x5 → ((x4 = 0 → ((x4 = 0 → AW ad E0 μX6_firstStrong (d + 1) Q 2 [(0, .ref (ad 156)), (1, .ref (ad 3)), (2, .int x2), (3, .int (x3 + (1 : Int32)))] [] m) ∧ (¬ x4 = 0 → Q (some (.int x3)) m))) ∧ (¬ x4 = 0 → (Ct ad μX1_power d [.ref (ad 3), .ref (ad 157), .int x5] m (fun r m1 => ∃ v2 : Int32, r = some (.int v2) ∧ ((v2 < x2 → AW ad E0 μX6_firstStrong (d + 1) Q 25 [(0, .ref (ad 156)), (1, .ref (ad 3)), (2, .int x2), (3, .int x3), (4, .int (0 : Int32)), (5, .int (x5 + (1 : Int32)))] [] m1) ∧ (¬ v2 < x2 → AW ad E0 μX6_firstStrong (d + 1) Q 25 [(0, .ref (ad 156)), (1, .ref (ad 3)), (2, .int x2), (3, .int x3), (4, .int (1 : Int32)), (5, .int (x5 + (1 : Int32)))] [] m1))))))))) : AW ad E0 μX6_firstStrong (d + 1) Q 25 [(0, .ref (ad 156)), (1, .ref (ad 3)), (2, .int x2), (3, .int x3), (4, .int x4), (5, .int x5)] [] m := by
  refine aw_iload (j := 5) dX6_firstStrong_25 rfl ?_
  refine aw_aload_n (j := 1) dX6_firstStrong_27 rfl rfl ?_
  refine aw_getfield (c := 0) (v := .int (m.1 3 3)) dX6_firstStrong_28 f_X6_63 ly_3 rfl rfl ?_
  refine aw_icmp_ge (tgt := 66) dX6_firstStrong_31 (by decide) (fun hc => ?_) (fun hc => ?_)
  · have h := h.1 hc
    refine aw_iload (j := 4) dX6_firstStrong_66 rfl ?_
    refine aw_if_eq (tgt := 73) dX6_firstStrong_68 (by decide) (fun hc => ?_) (fun hc => ?_)
    · have h := h.1 hc
      refine aw_iinc (j := 3) (v := x3 + (1 : Int32)) (L' := [(3, .int (x3 + (1 : Int32))), (0, .ref (ad 156)), (1, .ref (ad 3)), (2, .int x2), (4, .int x4), (5, .int x5)]) dX6_firstStrong_73 rfl rfl (by decide) rfl ?_
      refine aw_goto (tgt := 2) dX6_firstStrong_76 (by decide) ?_
      exact aw_sub [1, 2, 3, 0] rfl h
    · have h := h.2 hc
      refine aw_iload_n (j := 3) dX6_firstStrong_71 rfl rfl ?_
      exact aw_ret (v := some (.int x3)) rfl (Or.inr (Or.inl ⟨_, .int, rfl, rfl, rfl, dX6_firstStrong_72⟩)) h
  · have h := h.2 hc
    refine aw_iload (j := 4) dX6_firstStrong_34 rfl ?_
    refine aw_if_eq (tgt := 66) dX6_firstStrong_36 (by decide) (fun hc => ?_) (fun hc => ?_)
    · have h := h.1 hc
      refine aw_iload (j := 4) dX6_firstStrong_66 rfl ?_
      refine aw_if_eq (tgt := 73) dX6_firstStrong_68 (by decide) (fun hc => ?_) (fun hc => ?_)
      · have h := h.1 hc
        refine aw_iinc (j := 3) (v := x3 + (1 : Int32)) (L' := [(3, .int (x3 + (1 : Int32))), (0, .ref (ad 156)), (1, .ref (ad 3)), (2, .int x2), (4, .int x4), (5, .int x5)]) dX6_firstStrong_73 rfl rfl (by decide) rfl ?_
        refine aw_goto (tgt := 2) dX6_firstStrong_76 (by decide) ?_
        exact aw_sub [1, 2, 3, 0] rfl h
      · have h := h.2 hc
        refine aw_iload_n (j := 3) dX6_firstStrong_71 rfl rfl ?_
        exact aw_ret (v := some (.int x3)) rfl (Or.inr (Or.inl ⟨_, .int, rfl, rfl, rfl, dX6_firstStrong_72⟩)) h
    · have h := h.2 hc
      refine aw_aload_n (j := 1) dX6_firstStrong_39 rfl rfl ?_
      refine aw_aload_n (j := 0) dX6_firstStrong_40 rfl rfl ?_
      refine aw_getfield (c := 160) (v := .ref (ad 157)) dX6_firstStrong_41 f_X6_12 ly_156 rfl rfl ?_
      refine aw_iload (j := 5) dX6_firstStrong_44 rfl ?_
      refine aw_callV (rest := []) [.ref (ad 157), .int x5] dX6_firstStrong_46 ly_3 rfl k_X6_68 rfl h (Nat.le_of_ble_eq_true rfl) (fun v m1 h => ?_)
      obtain ⟨v2, rfl, h⟩ := h
      refine aw_eq (L' := [(0, .ref (ad 156)), (1, .ref (ad 3)), (2, .int x2), (3, .int x3), (4, .int x4), (5, .int x5)]) (st' := [.int v2]) (m' := m1) ?_ rfl rfl rfl
      refine aw_iload_n (j := 2) dX6_firstStrong_49 rfl rfl ?_
      refine aw_icmp_lt (tgt := 57) dX6_firstStrong_50 (by decide) (fun hc => ?_) (fun hc => ?_)
      · have h := h.1 hc
        refine aw_iconst (v := 0) dX6_firstStrong_57 (by decide) ?_
        refine aw_istore (L' := [(4, .int (0 : Int32)), (0, .ref (ad 156)), (1, .ref (ad 3)), (2, .int x2), (3, .int x3), (5, .int x5)]) dX6_firstStrong_58 (by decide) rfl ?_
        refine aw_iinc (j := 5) (v := x5 + (1 : Int32)) (L' := [(5, .int (x5 + (1 : Int32))), (4, .int (0 : Int32)), (0, .ref (ad 156)), (1, .ref (ad 3)), (2, .int x2), (3, .int x3)]) dX6_firstStrong_60 rfl rfl (by decide) rfl ?_
        refine aw_goto (tgt := 25) dX6_firstStrong_63 (by decide) ?_
        exact aw_sub [2, 3, 4, 5, 1, 0] rfl h
      · have h := h.2 hc
        refine aw_iconst (v := 1) dX6_firstStrong_53 (by decide) ?_
        refine aw_goto (tgt := 58) dX6_firstStrong_54 (by decide) ?_
        refine aw_istore (L' := [(4, .int (1 : Int32)), (0, .ref (ad 156)), (1, .ref (ad 3)), (2, .int x2), (3, .int x3), (5, .int x5)]) dX6_firstStrong_58 (by decide) rfl ?_
        refine aw_iinc (j := 5) (v := x5 + (1 : Int32)) (L' := [(5, .int (x5 + (1 : Int32))), (4, .int (1 : Int32)), (0, .ref (ad 156)), (1, .ref (ad 3)), (2, .int x2), (3, .int x3)]) dX6_firstStrong_60 rfl rfl (by decide) rfl ?_
        refine aw_goto (tgt := 25) dX6_firstStrong_63 (by decide) ?_
        exact aw_sub [2, 3, 4, 5, 1, 0] rfl h
set_option maxRecDepth 100000 in
set_option maxHeartbeats 4000000 in
theorem v_X6_greatestPower {ad : Nat → Nat} {d : Nat} {Q : Option Value → Wm → Prop} {m : Wm} {x2 : Int32} (h : AW ad E0 μX6_greatestPower (d + 1) Q 5 [(0, .ref (ad 156)), (1, .ref (ad 3)), (2, .int x2), (3, .int (0 : Int32)), (4, .int (0 : Int32))] [] m) : Ct ad μX6_greatestPower (d + 1) [.ref (ad 156), .ref (ad 3), .int x2] m Q := by
  refine Ct.of (by decide +kernel) rfl (Nat.le_of_ble_eq_true rfl) ?_
  refine aw_eq (L' := [(0, .ref (ad 156)), (1, .ref (ad 3)), (2, .int x2)]) ?_ rfl rfl rfl
  refine aw_iconst (v := 0) dX6_greatestPower_0 (by decide) ?_
  refine aw_istore_n (L' := [(3, .int (0 : Int32)), (0, .ref (ad 156)), (1, .ref (ad 3)), (2, .int x2)]) dX6_greatestPower_1 rfl (by decide) rfl ?_
  refine aw_iconst (v := 0) dX6_greatestPower_2 (by decide) ?_
  refine aw_istore (L' := [(4, .int (0 : Int32)), (3, .int (0 : Int32)), (0, .ref (ad 156)), (1, .ref (ad 3)), (2, .int x2)]) dX6_greatestPower_3 (by decide) rfl ?_
  exact aw_sub [2, 3, 4, 1, 0] rfl h
set_option maxRecDepth 100000 in
set_option maxHeartbeats 4000000 in
theorem g_X6_greatestPower_5 {ad : Nat → Nat} {d : Nat} {Q : Option Value → Wm → Prop} {m : Wm} {x2 x3 x4 : Int32} (h : (((m.1 151 4) ≤ x4 → Q (some (.int x3)) m) ∧ (¬ (m.1 151 4) ≤ x4 → (Ct ad μX6_unpackAll d [.ref (ad 156), .ref (ad 3), .int x4] m (fun r m1 => r = none ∧ (Ct ad μX1_power d [.ref (ad 3), .ref (ad 157), .int x2] m1 (fun r m2 => ∃ v3 : Int32, r = some (.int v3) ∧ ((x4 = 0 → AW ad E0 μX6_greatestPower (d + 1) Q 46 [(0, .ref (ad 156)), (1, .ref (ad 3)), (2, .int x2), (4, .int x4), (5, .int v3)] [] m2) ∧ (¬ x4 = 0 → ((v3 ≤ x3 → AW ad E0 μX6_greatestPower (d + 1) Q 5 [(0, .ref (ad 156)), (1, .ref (ad 3)), (2, .int x2), (3, .int x3), (4, .int (x4 + (1 : Int32)))] [] m2) ∧ (¬ v3 ≤ x3 → AW ad E0 μX6_greatestPower (d + 1) Q 46 [(0, .ref (ad 156)), (1, .ref (ad 3)), (2, .int x2), (4, .int x4), (5, .int v3)] [] m2))))))))))) : AW ad E0 μX6_greatestPower (d + 1) Q 5 [(0, .ref (ad 156)), (1, .ref (ad 3)), (2, .int x2), (3, .int x3), (4, .int x4)] [] m := by
  refine aw_iload (j := 4) dX6_greatestPower_5 rfl ?_
  refine aw_aload_n (j := 0) dX6_greatestPower_7 rfl rfl ?_
  refine aw_getfield (c := 154) (v := .ref (ad 151)) dX6_greatestPower_8 f_X6_37 ly_156 rfl rfl ?_
  refine aw_getfield (c := 0) (v := .int (m.1 151 4)) dX6_greatestPower_11 f_X6_52 ly_151 rfl rfl ?_
  refine aw_icmp_ge (tgt := 61) dX6_greatestPower_14 (by decide) (fun hc => ?_) (fun hc => ?_)
  · have h := h.1 hc
    refine aw_iload_n (j := 3) dX6_greatestPower_61 rfl rfl ?_
    exact aw_ret (v := some (.int x3)) rfl (Or.inr (Or.inl ⟨_, .int, rfl, rfl, rfl, dX6_greatestPower_62⟩)) h
  · have h := h.2 hc
    refine aw_aload_n (j := 0) dX6_greatestPower_17 rfl rfl ?_
    refine aw_aload_n (j := 1) dX6_greatestPower_18 rfl rfl ?_
    refine aw_iload (j := 4) dX6_greatestPower_19 rfl ?_
    refine aw_callV (rest := []) [.ref (ad 3), .int x4] dX6_greatestPower_21 ly_156 rfl k_X6_59 rfl h (Nat.le_of_ble_eq_true rfl) (fun v m1 h => ?_)
    obtain ⟨rfl, h⟩ := h
    refine aw_eq (L' := [(0, .ref (ad 156)), (1, .ref (ad 3)), (2, .int x2), (3, .int x3), (4, .int x4)]) (st' := []) (m' := m1) ?_ rfl rfl rfl
    refine aw_aload_n (j := 1) dX6_greatestPower_24 rfl rfl ?_
    refine aw_aload_n (j := 0) dX6_greatestPower_25 rfl rfl ?_
    refine aw_getfield (c := 160) (v := .ref (ad 157)) dX6_greatestPower_26 f_X6_12 ly_156 rfl rfl ?_
    refine aw_iload_n (j := 2) dX6_greatestPower_29 rfl rfl ?_
    refine aw_callV (rest := []) [.ref (ad 157), .int x2] dX6_greatestPower_30 ly_3 rfl k_X6_68 rfl h (Nat.le_of_ble_eq_true rfl) (fun v m2 h => ?_)
    obtain ⟨v3, rfl, h⟩ := h
    refine aw_eq (L' := [(0, .ref (ad 156)), (1, .ref (ad 3)), (2, .int x2), (3, .int x3), (4, .int x4)]) (st' := [.int v3]) (m' := m2) ?_ rfl rfl rfl
    refine aw_istore (L' := [(5, .int v3), (0, .ref (ad 156)), (1, .ref (ad 3)), (2, .int x2), (3, .int x3), (4, .int x4)]) dX6_greatestPower_33 (by decide) rfl ?_
    refine aw_iload (j := 5) dX6_greatestPower_35 rfl ?_
    refine aw_if_eq (tgt := 46) dX6_greatestPower_37 (by decide) (fun hc => ?_) (fun hc => ?_)
    · have h := h.1 hc
      exact aw_sub [1, 2, 3, 5, 0] rfl h
    · have h := h.2 hc
      refine aw_iload (j := 0) dX6_greatestPower_40 rfl ?_
      refine aw_iload_n (j := 4) dX6_greatestPower_42 rfl rfl ?_
      refine aw_icmp_le (tgt := 55) dX6_greatestPower_43 (by decide) (fun hc => ?_) (fun hc => ?_)
      · have h := h.1 hc
        refine aw_iinc (j := 5) (v := x4 + (1 : Int32)) (L' := [(4, .int (x4 + (1 : Int32))), (5, .int v3), (0, .ref (ad 156)), (1, .ref (ad 3)), (2, .int x2), (3, .int x3)]) dX6_greatestPower_55 rfl rfl (by decide) rfl ?_
        refine aw_goto (tgt := 5) dX6_greatestPower_58 (by decide) ?_
        exact aw_sub [2, 3, 4, 5, 0] rfl h
      · have h := h.2 hc
        exact aw_sub [1, 2, 3, 5, 0] rfl h
set_option maxRecDepth 100000 in
set_option maxHeartbeats 4000000 in
theorem g_X6_greatestPower_46 {ad : Nat → Nat} {d : Nat} {Q : Option Value → Wm → Prop} {m : Wm} {x2 x4 x5 : Int32} (h : AW ad E0 μX6_greatestPower (d + 1) Q 5 [(0, .ref (ad 156)), (1, .ref (ad 3)), (2, .int x2), (3, .int x5), (4, .int (x4 + (1 : Int32)))] [] (uI m 156 6 x4)) : AW ad E0 μX6_greatestPower (d + 1) Q 46 [(0, .ref (ad 156)), (1, .ref (ad 3)), (2, .int x2), (4, .int x4), (5, .int x5)] [] m := by
  refine aw_iload (j := 4) dX6_greatestPower_46 rfl ?_
  refine aw_istore_n (L' := [(3, .int x5), (0, .ref (ad 156)), (1, .ref (ad 3)), (2, .int x2), (4, .int x4), (5, .int x5)]) dX6_greatestPower_48 rfl (by decide) rfl ?_
  refine aw_aload_n (j := 1) dX6_greatestPower_49 rfl rfl ?_
  refine aw_iload (j := 4) dX6_greatestPower_50 rfl ?_
  refine aw_putI dX6_greatestPower_52 f_X6_33 cl_X6 rfl ly_156 rfl rfl rfl ?_
  refine aw_iinc (j := 4) (v := x4 + (1 : Int32)) (L' := [(4, .int (x4 + (1 : Int32))), (3, .int x5), (0, .ref (ad 156)), (1, .ref (ad 3)), (2, .int x2), (5, .int x5)]) dX6_greatestPower_55 rfl rfl (by decide) rfl ?_
  refine aw_goto (tgt := 5) dX6_greatestPower_58 (by decide) ?_
  exact aw_sub [2, 3, 4, 1, 0] rfl h
set_option maxRecDepth 100000 in
set_option maxHeartbeats 4000000 in
theorem v_X6_leastGap {ad : Nat → Nat} {d : Nat} {Q : Option Value → Wm → Prop} {m : Wm} (h : AW ad E0 μX6_leastGap (d + 1) Q 4 [(0, .ref (ad 156)), (1, .ref (ad 3)), (2, .int (0 : Int32)), (3, .int (0 : Int32))] [] m) : Ct ad μX6_leastGap (d + 1) [.ref (ad 156), .ref (ad 3)] m Q := by
  refine Ct.of (by decide +kernel) rfl (Nat.le_of_ble_eq_true rfl) ?_
  refine aw_eq (L' := [(0, .ref (ad 156)), (1, .ref (ad 3))]) ?_ rfl rfl rfl
  refine aw_iconst (v := 0) dX6_leastGap_0 (by decide) ?_
  refine aw_istore_n (L' := [(2, .int (0 : Int32)), (0, .ref (ad 156)), (1, .ref (ad 3))]) dX6_leastGap_1 rfl (by decide) rfl ?_
  refine aw_iconst (v := 0) dX6_leastGap_2 (by decide) ?_
  refine aw_istore_n (L' := [(3, .int (0 : Int32)), (2, .int (0 : Int32)), (0, .ref (ad 156)), (1, .ref (ad 3))]) dX6_leastGap_3 rfl (by decide) rfl ?_
  exact aw_sub [2, 3, 1, 0] rfl h
set_option maxRecDepth 100000 in
set_option maxHeartbeats 4000000 in
theorem g_X6_leastGap_4 {ad : Nat → Nat} {d : Nat} {Q : Option Value → Wm → Prop} {m : Wm} {x2 x3 : Int32} (h : (((m.1 151 4) ≤ x3 → Q (some (.int x2)) m) ∧ (¬ (m.1 151 4) ≤ x3 → (Ct ad μX6_unpackAll d [.ref (ad 156), .ref (ad 3), .int x3] m (fun r m1 => r = none ∧ (Ct ad μX1_strongest d [.ref (ad 3), .ref (ad 157)] m1 (fun r m2 => ∃ v3 : Int32, r = some (.int v3) ∧ (Ct ad μX1_power d [.ref (ad 3), .ref (ad 157), .int v3] m2 (fun r m4 => ∃ v5 : Int32, r = some (.int v5) ∧ (Ct ad μX1_weakest d [.ref (ad 3), .ref (ad 157)] m4 (fun r m6 => ∃ v7 : Int32, r = some (.int v7) ∧ (Ct ad μX1_power d [.ref (ad 3), .ref (ad 157), .int v7] m6 (fun r m8 => ∃ v9 : Int32, r = some (.int v9) ∧ ((x3 = 0 → AW ad E0 μX6_leastGap (d + 1) Q 66 [(0, .ref (ad 156)), (1, .ref (ad 3)), (3, .int x3), (4, .int (v5 - v9))] [] m8) ∧ (¬ x3 = 0 → ((x2 ≤ (v5 - v9) → AW ad E0 μX6_leastGap (d + 1) Q 4 [(0, .ref (ad 156)), (1, .ref (ad 3)), (2, .int x2), (3, .int (x3 + (1 : Int32)))] [] m8) ∧ (¬ x2 ≤ (v5 - v9) → AW ad E0 μX6_leastGap (d + 1) Q 66 [(0, .ref (ad 156)), (1, .ref (ad 3)), (3, .int x3), (4, .int (v5 - v9))] [] m8))))))))))))))))) : AW ad E0 μX6_leastGap (d + 1) Q 4 [(0, .ref (ad 156)), (1, .ref (ad 3)), (2, .int x2), (3, .int x3)] [] m := by
  refine aw_iload_n (j := 3) dX6_leastGap_4 rfl rfl ?_
  refine aw_aload_n (j := 0) dX6_leastGap_5 rfl rfl ?_
  refine aw_getfield (c := 154) (v := .ref (ad 151)) dX6_leastGap_6 f_X6_37 ly_156 rfl rfl ?_
  refine aw_getfield (c := 0) (v := .int (m.1 151 4)) dX6_leastGap_9 f_X6_52 ly_151 rfl rfl ?_
  refine aw_icmp_ge (tgt := 80) dX6_leastGap_12 (by decide) (fun hc => ?_) (fun hc => ?_)
  · have h := h.1 hc
    refine aw_iload_n (j := 2) dX6_leastGap_80 rfl rfl ?_
    exact aw_ret (v := some (.int x2)) rfl (Or.inr (Or.inl ⟨_, .int, rfl, rfl, rfl, dX6_leastGap_81⟩)) h
  · have h := h.2 hc
    refine aw_aload_n (j := 0) dX6_leastGap_15 rfl rfl ?_
    refine aw_aload_n (j := 1) dX6_leastGap_16 rfl rfl ?_
    refine aw_iload_n (j := 3) dX6_leastGap_17 rfl rfl ?_
    refine aw_callV (rest := []) [.ref (ad 3), .int x3] dX6_leastGap_18 ly_156 rfl k_X6_59 rfl h (Nat.le_of_ble_eq_true rfl) (fun v m1 h => ?_)
    obtain ⟨rfl, h⟩ := h
    refine aw_eq (L' := [(0, .ref (ad 156)), (1, .ref (ad 3)), (2, .int x2), (3, .int x3)]) (st' := []) (m' := m1) ?_ rfl rfl rfl
    refine aw_aload_n (j := 1) dX6_leastGap_21 rfl rfl ?_
    refine aw_aload_n (j := 0) dX6_leastGap_22 rfl rfl ?_
    refine aw_getfield (c := 160) (v := .ref (ad 157)) dX6_leastGap_23 f_X6_12 ly_156 rfl rfl ?_
    refine aw_aload_n (j := 1) dX6_leastGap_26 rfl rfl ?_
    refine aw_aload_n (j := 0) dX6_leastGap_27 rfl rfl ?_
    refine aw_getfield (c := 160) (v := .ref (ad 157)) dX6_leastGap_28 f_X6_12 ly_156 rfl rfl ?_
    refine aw_callV (rest := [.ref (ad 157), .ref (ad 3)]) [.ref (ad 157)] dX6_leastGap_31 ly_3 rfl k_X6_118 rfl h (Nat.le_of_ble_eq_true rfl) (fun v m2 h => ?_)
    obtain ⟨v3, rfl, h⟩ := h
    refine aw_eq (L' := [(0, .ref (ad 156)), (1, .ref (ad 3)), (2, .int x2), (3, .int x3)]) (st' := [.int v3, .ref (ad 157), .ref (ad 3)]) (m' := m2) ?_ rfl rfl rfl
    refine aw_callV (rest := []) [.ref (ad 157), .int v3] dX6_leastGap_34 ly_3 rfl k_X6_68 rfl h (Nat.le_of_ble_eq_true rfl) (fun v m4 h => ?_)
    obtain ⟨v5, rfl, h⟩ := h
    refine aw_eq (L' := [(0, .ref (ad 156)), (1, .ref (ad 3)), (2, .int x2), (3, .int x3)]) (st' := [.int v5]) (m' := m4) ?_ rfl rfl rfl
    refine aw_aload_n (j := 1) dX6_leastGap_37 rfl rfl ?_
    refine aw_aload_n (j := 0) dX6_leastGap_38 rfl rfl ?_
    refine aw_getfield (c := 160) (v := .ref (ad 157)) dX6_leastGap_39 f_X6_12 ly_156 rfl rfl ?_
    refine aw_aload_n (j := 1) dX6_leastGap_42 rfl rfl ?_
    refine aw_aload_n (j := 0) dX6_leastGap_43 rfl rfl ?_
    refine aw_getfield (c := 160) (v := .ref (ad 157)) dX6_leastGap_44 f_X6_12 ly_156 rfl rfl ?_
    refine aw_callV (rest := [.ref (ad 157), .ref (ad 3), .int v5]) [.ref (ad 157)] dX6_leastGap_47 ly_3 rfl k_X6_121 rfl h (Nat.le_of_ble_eq_true rfl) (fun v m6 h => ?_)
    obtain ⟨v7, rfl, h⟩ := h
    refine aw_eq (L' := [(0, .ref (ad 156)), (1, .ref (ad 3)), (2, .int x2), (3, .int x3)]) (st' := [.int v7, .ref (ad 157), .ref (ad 3), .int v5]) (m' := m6) ?_ rfl rfl rfl
    refine aw_callV (rest := [.int v5]) [.ref (ad 157), .int v7] dX6_leastGap_50 ly_3 rfl k_X6_68 rfl h (Nat.le_of_ble_eq_true rfl) (fun v m8 h => ?_)
    obtain ⟨v9, rfl, h⟩ := h
    refine aw_eq (L' := [(0, .ref (ad 156)), (1, .ref (ad 3)), (2, .int x2), (3, .int x3)]) (st' := [.int v9, .int v5]) (m' := m8) ?_ rfl rfl rfl
    refine aw_isub dX6_leastGap_53 ?_
    refine aw_istore (L' := [(4, .int (v5 - v9)), (0, .ref (ad 156)), (1, .ref (ad 3)), (2, .int x2), (3, .int x3)]) dX6_leastGap_54 (by decide) rfl ?_
    refine aw_iload_n (j := 4) dX6_leastGap_56 rfl rfl ?_
    refine aw_if_eq (tgt := 66) dX6_leastGap_57 (by decide) (fun hc => ?_) (fun hc => ?_)
    · have h := h.1 hc
      exact aw_sub [1, 2, 4, 0] rfl h
    · have h := h.2 hc
      refine aw_iload (j := 0) dX6_leastGap_60 rfl ?_
      refine aw_iload_n (j := 3) dX6_leastGap_62 rfl rfl ?_
      refine aw_icmp_ge (tgt := 74) dX6_leastGap_63 (by decide) (fun hc => ?_) (fun hc => ?_)
      · have h := h.1 hc
        refine aw_iinc (j := 4) (v := x3 + (1 : Int32)) (L' := [(3, .int (x3 + (1 : Int32))), (4, .int (v5 - v9)), (0, .ref (ad 156)), (1, .ref (ad 3)), (2, .int x2)]) dX6_leastGap_74 rfl rfl (by decide) rfl ?_
        refine aw_goto (tgt := 4) dX6_leastGap_77 (by decide) ?_
        exact aw_sub [2, 3, 4, 0] rfl h
      · have h := h.2 hc
        exact aw_sub [1, 2, 4, 0] rfl h
set_option maxRecDepth 100000 in
set_option maxHeartbeats 4000000 in
theorem g_X6_leastGap_66 {ad : Nat → Nat} {d : Nat} {Q : Option Value → Wm → Prop} {m : Wm} {x3 x4 : Int32} (h : AW ad E0 μX6_leastGap (d + 1) Q 4 [(0, .ref (ad 156)), (1, .ref (ad 3)), (2, .int x4), (3, .int (x3 + (1 : Int32)))] [] (uI m 156 6 x3)) : AW ad E0 μX6_leastGap (d + 1) Q 66 [(0, .ref (ad 156)), (1, .ref (ad 3)), (3, .int x3), (4, .int x4)] [] m := by
  refine aw_iload (j := 3) dX6_leastGap_66 rfl ?_
  refine aw_istore_n (L' := [(2, .int x4), (0, .ref (ad 156)), (1, .ref (ad 3)), (3, .int x3), (4, .int x4)]) dX6_leastGap_68 rfl (by decide) rfl ?_
  refine aw_aload_n (j := 1) dX6_leastGap_69 rfl rfl ?_
  refine aw_iload_n (j := 3) dX6_leastGap_70 rfl rfl ?_
  refine aw_putI dX6_leastGap_71 f_X6_33 cl_X6 rfl ly_156 rfl rfl rfl ?_
  refine aw_iinc (j := 3) (v := x3 + (1 : Int32)) (L' := [(3, .int (x3 + (1 : Int32))), (2, .int x4), (0, .ref (ad 156)), (1, .ref (ad 3)), (4, .int x4)]) dX6_leastGap_74 rfl rfl (by decide) rfl ?_
  refine aw_goto (tgt := 4) dX6_leastGap_77 (by decide) ?_
  exact aw_sub [2, 3, 1, 0] rfl h
set_option maxRecDepth 100000 in
set_option maxHeartbeats 4000000 in
theorem v_X7_findLoop {ad : Nat → Nat} {d : Nat} {Q : Option Value → Wm → Prop} {m : Wm} {b2 b3 : Nat} (hb2 : Pl b2) (hb3 : St b3) (h : (Ct ad μX8_copy d [.ref (ad 167), .ref (ad b3)] m (fun r m1 => r = none ∧ (Ct ad μX9_clear d [.ref (ad 151)] m1 (fun r m2 => r = none ∧ (Ct ad μX9_putSkillsOf d [.ref (ad 151), .ref (ad 167)] m2 (fun r m3 => ∃ v4 : Int32, r = some (.int v4) ∧ AW ad E0 μX7_findLoop (d + 1) Q 30 [(0, .ref (ad 166)), (1, .ref (ad 3)), (2, .ref (ad b2)), (4, .int (1 : Int32))] [] m3))))))) : Ct ad μX7_findLoop (d + 1) [.ref (ad 166), .ref (ad 3), .ref (ad b2), .ref (ad b3)] m Q := by
  refine Ct.of (by decide +kernel) rfl (Nat.le_of_ble_eq_true rfl) ?_
  refine aw_eq (L' := [(0, .ref (ad 166)), (1, .ref (ad 3)), (2, .ref (ad b2)), (3, .ref (ad b3))]) ?_ rfl rfl rfl
  refine aw_aload_n (j := 0) dX7_findLoop_0 rfl rfl ?_
  refine aw_getfield (c := 170) (v := .ref (ad 167)) dX7_findLoop_1 f_X7_12 ly_166 rfl rfl ?_
  refine aw_aload_n (j := 3) dX7_findLoop_4 rfl rfl ?_
  refine aw_callV (rest := []) [.ref (ad b3)] dX7_findLoop_5 ly_167 rfl k_X7_37 rfl h (Nat.le_of_ble_eq_true rfl) (fun v m1 h => ?_)
  obtain ⟨rfl, h⟩ := h
  refine aw_eq (L' := [(0, .ref (ad 166)), (1, .ref (ad 3)), (2, .ref (ad b2)), (3, .ref (ad b3))]) (st' := []) (m' := m1) ?_ rfl rfl rfl
  refine aw_aload_n (j := 0) dX7_findLoop_8 rfl rfl ?_
  refine aw_getfield (c := 154) (v := .ref (ad 151)) dX7_findLoop_9 f_X7_33 ly_166 rfl rfl ?_
  refine aw_callV (rest := []) [] dX7_findLoop_12 ly_151 rfl k_X7_41 rfl h (Nat.le_of_ble_eq_true rfl) (fun v m2 h => ?_)
  obtain ⟨rfl, h⟩ := h
  refine aw_eq (L' := [(0, .ref (ad 166)), (1, .ref (ad 3)), (2, .ref (ad b2)), (3, .ref (ad b3))]) (st' := []) (m' := m2) ?_ rfl rfl rfl
  refine aw_aload_n (j := 0) dX7_findLoop_15 rfl rfl ?_
  refine aw_getfield (c := 154) (v := .ref (ad 151)) dX7_findLoop_16 f_X7_33 ly_166 rfl rfl ?_
  refine aw_aload_n (j := 0) dX7_findLoop_19 rfl rfl ?_
  refine aw_getfield (c := 170) (v := .ref (ad 167)) dX7_findLoop_20 f_X7_12 ly_166 rfl rfl ?_
  refine aw_callV (rest := []) [.ref (ad 167)] dX7_findLoop_23 ly_151 rfl k_X7_46 rfl h (Nat.le_of_ble_eq_true rfl) (fun v m3 h => ?_)
  obtain ⟨v4, rfl, h⟩ := h
  refine aw_eq (L' := [(0, .ref (ad 166)), (1, .ref (ad 3)), (2, .ref (ad b2)), (3, .ref (ad b3))]) (st' := [.int v4]) (m' := m3) ?_ rfl rfl rfl
  refine aw_pop dX7_findLoop_26 rfl ?_
  refine aw_iconst (v := 1) dX7_findLoop_27 (by decide) ?_
  refine aw_istore (L' := [(4, .int (1 : Int32)), (0, .ref (ad 166)), (1, .ref (ad 3)), (2, .ref (ad b2)), (3, .ref (ad b3))]) dX7_findLoop_28 (by decide) rfl ?_
  exact aw_sub [1, 2, 3, 0] rfl h
set_option maxRecDepth 100000 in
set_option maxHeartbeats 4000000 in
theorem g_X7_findLoop_30 {ad : Nat → Nat} {d : Nat} {Q : Option Value → Wm → Prop} {m : Wm} {b2 : Nat} {x4 : Int32} (hb2 : Pl b2) (h : (((2000 : Int32) < x4 → Q (some (.int (0 : Int32))) m) ∧ (¬ (2000 : Int32) < x4 → (Ct ad μX7_playTurn d [.ref (ad 166), .ref (ad 3), .ref (ad b2)] m (fun r m1 => r = none ∧ (Ct ad μX9_putSkillsOf d [.ref (ad 151), .ref (ad 167)] m1 (fun r m2 => ∃ v3 : Int32, r = some (.int v3) ∧ ((¬ (m2.1 151 5) = 0 → AW ad E0 μX7_findLoop (d + 1) Q 30 [(0, .ref (ad 166)), (1, .ref (ad 3)), (2, .ref (ad b2)), (4, .int (x4 + (1 : Int32)))] [] m2) ∧ ((m2.1 151 5) = 0 → Q (some (.int (1 : Int32))) (uI (uI m2 166 3 v3) 166 4 (x4 - v3))))))))))) : AW ad E0 μX7_findLoop (d + 1) Q 30 [(0, .ref (ad 166)), (1, .ref (ad 3)), (2, .ref (ad b2)), (4, .int x4)] [] m := by
  refine aw_iload (j := 3) dX7_findLoop_30 rfl ?_
  refine aw_sipush (v := 2000) dX7_findLoop_32 (by decide) ?_
  refine aw_icmp_gt (tgt := 90) dX7_findLoop_35 (by decide) (fun hc => ?_) (fun hc => ?_)
  · have h := h.1 hc
    refine aw_iconst (v := 0) dX7_findLoop_90 (by decide) ?_
    exact aw_ret (v := some (.int (0 : Int32))) rfl (Or.inr (Or.inl ⟨_, .boolean, rfl, rfl, by decide, dX7_findLoop_91⟩)) h
  · have h := h.2 hc
    refine aw_aload_n (j := 0) dX7_findLoop_38 rfl rfl ?_
    refine aw_aload_n (j := 1) dX7_findLoop_39 rfl rfl ?_
    refine aw_aload_n (j := 2) dX7_findLoop_40 rfl rfl ?_
    refine aw_callV (rest := []) [.ref (ad 3), .ref (ad b2)] dX7_findLoop_41 ly_166 rfl k_X7_50 rfl h (Nat.le_of_ble_eq_true rfl) (fun v m1 h => ?_)
    obtain ⟨rfl, h⟩ := h
    refine aw_eq (L' := [(0, .ref (ad 166)), (1, .ref (ad 3)), (2, .ref (ad b2)), (4, .int x4)]) (st' := []) (m' := m1) ?_ rfl rfl rfl
    refine aw_aload_n (j := 0) dX7_findLoop_44 rfl rfl ?_
    refine aw_getfield (c := 154) (v := .ref (ad 151)) dX7_findLoop_45 f_X7_33 ly_166 rfl rfl ?_
    refine aw_aload_n (j := 0) dX7_findLoop_48 rfl rfl ?_
    refine aw_getfield (c := 170) (v := .ref (ad 167)) dX7_findLoop_49 f_X7_12 ly_166 rfl rfl ?_
    refine aw_callV (rest := []) [.ref (ad 167)] dX7_findLoop_52 ly_151 rfl k_X7_46 rfl h (Nat.le_of_ble_eq_true rfl) (fun v m2 h => ?_)
    obtain ⟨v3, rfl, h⟩ := h
    refine aw_eq (L' := [(0, .ref (ad 166)), (1, .ref (ad 3)), (2, .ref (ad b2)), (4, .int x4)]) (st' := [.int v3]) (m' := m2) ?_ rfl rfl rfl
    refine aw_istore (L' := [(5, .int v3), (0, .ref (ad 166)), (1, .ref (ad 3)), (2, .ref (ad b2)), (4, .int x4)]) dX7_findLoop_55 (by decide) rfl ?_
    refine aw_aload_n (j := 1) dX7_findLoop_57 rfl rfl ?_
    refine aw_getfield (c := 154) (v := .ref (ad 151)) dX7_findLoop_58 f_X7_33 ly_166 rfl rfl ?_
    refine aw_getfield (c := 0) (v := .int (m2.1 151 5)) dX7_findLoop_61 f_X7_54 ly_151 rfl rfl ?_
    refine aw_if_ne (tgt := 84) dX7_findLoop_64 (by decide) (fun hc => ?_) (fun hc => ?_)
    · have h := h.1 hc
      refine aw_iinc (j := 4) (v := x4 + (1 : Int32)) (L' := [(4, .int (x4 + (1 : Int32))), (5, .int v3), (0, .ref (ad 166)), (1, .ref (ad 3)), (2, .ref (ad b2))]) dX7_findLoop_84 rfl rfl (by decide) rfl ?_
      refine aw_goto (tgt := 30) dX7_findLoop_87 (by decide) ?_
      exact aw_sub [2, 3, 4, 0] rfl h
    · have h := h.2 hc
      refine aw_aload_n (j := 1) dX7_findLoop_67 rfl rfl ?_
      refine aw_iload (j := 0) dX7_findLoop_68 rfl ?_
      refine aw_putI dX7_findLoop_70 f_X7_22 cl_X7 rfl ly_166 rfl rfl rfl ?_
      refine aw_aload_n (j := 1) dX7_findLoop_73 rfl rfl ?_
      refine aw_iload (j := 4) dX7_findLoop_74 rfl ?_
      refine aw_iload (j := 0) dX7_findLoop_76 rfl ?_
      refine aw_isub dX7_findLoop_78 ?_
      refine aw_putI dX7_findLoop_79 f_X7_26 cl_X7 rfl ly_166 rfl rfl rfl ?_
      refine aw_iconst (v := 1) dX7_findLoop_82 (by decide) ?_
      exact aw_ret (v := some (.int (1 : Int32))) rfl (Or.inr (Or.inl ⟨_, .boolean, rfl, rfl, by decide, dX7_findLoop_83⟩)) h
set_option maxRecDepth 100000 in
set_option maxHeartbeats 4000000 in
theorem v_X7_playTurn {ad : Nat → Nat} {d : Nat} {Q : Option Value → Wm → Prop} {m : Wm} {b2 : Nat} (hb2 : Pl b2) (h : AW ad E0 μX7_playTurn (d + 1) Q 2 [(0, .ref (ad 166)), (1, .ref (ad 3)), (2, .ref (ad b2)), (3, .int (0 : Int32))] [] m) : Ct ad μX7_playTurn (d + 1) [.ref (ad 166), .ref (ad 3), .ref (ad b2)] m Q := by
  refine Ct.of (by decide +kernel) rfl (Nat.le_of_ble_eq_true rfl) ?_
  refine aw_eq (L' := [(0, .ref (ad 166)), (1, .ref (ad 3)), (2, .ref (ad b2))]) ?_ rfl rfl rfl
  refine aw_iconst (v := 0) dX7_playTurn_0 (by decide) ?_
  refine aw_istore_n (L' := [(3, .int (0 : Int32)), (0, .ref (ad 166)), (1, .ref (ad 3)), (2, .ref (ad b2))]) dX7_playTurn_1 rfl (by decide) rfl ?_
  exact aw_sub [1, 2, 3, 0] rfl h
set_option maxRecDepth 100000 in
set_option maxHeartbeats 4000000 in
theorem g_X7_playTurn_2 {ad : Nat → Nat} {d : Nat} {Q : Option Value → Wm → Prop} {m : Wm} {b2 : Nat} {x3 : Int32} (hb2 : Pl b2) (h : (((m.1 b2 6) ≤ x3 → Q none m) ∧ (¬ (m.1 b2 6) ≤ x3 → (vp_in x3 48 ∧ (vp_in x3 48 ∧ (vp_in x3 48 ∧ (Ct ad μX1_result d [.ref (ad 3), .ref (ad 167), .int (m.1 (b2 + 1) x3.toNatClampNeg), .int (m.1 (b2 + 2) x3.toNatClampNeg), .int (m.1 (b2 + 3) x3.toNatClampNeg)] m (fun r m1 => ∃ v2 : Int32, r = some (.int v2) ∧ (vp_in x3 48 ∧ (vp_in x3 48 ∧ (Ct ad μX1_settle d [.ref (ad 3), .ref (ad 167), .int (m1.1 (b2 + 1) x3.toNatClampNeg), .int (m1.1 (b2 + 2) x3.toNatClampNeg), .int v2, .int (0 : Int32)] m1 (fun r m3 => r = none ∧ AW ad E0 μX7_playTurn (d + 1) Q 2 [(0, .ref (ad 166)), (1, .ref (ad 3)), (2, .ref (ad b2)), (3, .int (x3 + (1 : Int32)))] [] m3)))))))))))) : AW ad E0 μX7_playTurn (d + 1) Q 2 [(0, .ref (ad 166)), (1, .ref (ad 3)), (2, .ref (ad b2)), (3, .int x3)] [] m := by
  refine aw_iload_n (j := 3) dX7_playTurn_2 rfl rfl ?_
  refine aw_aload_n (j := 2) dX7_playTurn_3 rfl rfl ?_
  refine aw_getfield (c := 0) (v := .int (m.1 b2 6)) dX7_playTurn_4 f_X7_58 hb2.1 rfl rfl ?_
  refine aw_icmp_ge (tgt := 67) dX7_playTurn_7 (by decide) (fun hc => ?_) (fun hc => ?_)
  · have h := h.1 hc
    exact aw_ret (v := none) rfl (Or.inl ⟨rfl, rfl, dX7_playTurn_67⟩) h
  · have h := h.2 hc
    refine aw_aload_n (j := 1) dX7_playTurn_10 rfl rfl ?_
    refine aw_aload_n (j := 0) dX7_playTurn_11 rfl rfl ?_
    refine aw_getfield (c := 170) (v := .ref (ad 167)) dX7_playTurn_12 f_X7_12 ly_166 rfl rfl ?_
    refine aw_aload_n (j := 2) dX7_playTurn_15 rfl rfl ?_
    refine aw_getfield (c := b2 + 1 + 3) (v := .ref (ad (b2 + 1))) dX7_playTurn_16 f_X7_63 hb2.1 rfl rfl ?_
    refine aw_iload_n (j := 3) dX7_playTurn_19 rfl rfl ?_
    obtain ⟨hi, h⟩ := h
    refine aw_iaload dX7_playTurn_20 hb2.2.1 hi ?_
    refine aw_aload_n (j := 2) dX7_playTurn_21 rfl rfl ?_
    refine aw_getfield (c := b2 + 2 + 3) (v := .ref (ad (b2 + 2))) dX7_playTurn_22 f_X7_66 hb2.1 rfl rfl ?_
    refine aw_iload_n (j := 3) dX7_playTurn_25 rfl rfl ?_
    obtain ⟨hi, h⟩ := h
    refine aw_iaload dX7_playTurn_26 hb2.2.2.1 hi ?_
    refine aw_aload_n (j := 2) dX7_playTurn_27 rfl rfl ?_
    refine aw_getfield (c := b2 + 3 + 3) (v := .ref (ad (b2 + 3))) dX7_playTurn_28 f_X7_69 hb2.1 rfl rfl ?_
    refine aw_iload_n (j := 3) dX7_playTurn_31 rfl rfl ?_
    obtain ⟨hi, h⟩ := h
    refine aw_iaload dX7_playTurn_32 hb2.2.2.2.1 hi ?_
    refine aw_callV (rest := []) [.ref (ad 167), .int (m.1 (b2 + 1) x3.toNatClampNeg), .int (m.1 (b2 + 2) x3.toNatClampNeg), .int (m.1 (b2 + 3) x3.toNatClampNeg)] dX7_playTurn_33 ly_3 rfl k_X7_72 rfl h (Nat.le_of_ble_eq_true rfl) (fun v m1 h => ?_)
    obtain ⟨v2, rfl, h⟩ := h
    refine aw_eq (L' := [(0, .ref (ad 166)), (1, .ref (ad 3)), (2, .ref (ad b2)), (3, .int x3)]) (st' := [.int v2]) (m' := m1) ?_ rfl rfl rfl
    refine aw_istore (L' := [(4, .int v2), (0, .ref (ad 166)), (1, .ref (ad 3)), (2, .ref (ad b2)), (3, .int x3)]) dX7_playTurn_36 (by decide) rfl ?_
    refine aw_aload_n (j := 2) dX7_playTurn_38 rfl rfl ?_
    refine aw_aload_n (j := 1) dX7_playTurn_39 rfl rfl ?_
    refine aw_getfield (c := 170) (v := .ref (ad 167)) dX7_playTurn_40 f_X7_12 ly_166 rfl rfl ?_
    refine aw_aload_n (j := 3) dX7_playTurn_43 rfl rfl ?_
    refine aw_getfield (c := b2 + 1 + 3) (v := .ref (ad (b2 + 1))) dX7_playTurn_44 f_X7_63 hb2.1 rfl rfl ?_
    refine aw_iload_n (j := 4) dX7_playTurn_47 rfl rfl ?_
    obtain ⟨hi, h⟩ := h
    refine aw_iaload dX7_playTurn_48 hb2.2.1 hi ?_
    refine aw_aload_n (j := 3) dX7_playTurn_49 rfl rfl ?_
    refine aw_getfield (c := b2 + 2 + 3) (v := .ref (ad (b2 + 2))) dX7_playTurn_50 f_X7_66 hb2.1 rfl rfl ?_
    refine aw_iload_n (j := 4) dX7_playTurn_53 rfl rfl ?_
    obtain ⟨hi, h⟩ := h
    refine aw_iaload dX7_playTurn_54 hb2.2.2.1 hi ?_
    refine aw_iload (j := 0) dX7_playTurn_55 rfl ?_
    refine aw_iconst (v := 0) dX7_playTurn_57 (by decide) ?_
    refine aw_callV (rest := []) [.ref (ad 167), .int (m1.1 (b2 + 1) x3.toNatClampNeg), .int (m1.1 (b2 + 2) x3.toNatClampNeg), .int v2, .int (0 : Int32)] dX7_playTurn_58 ly_3 rfl k_X7_78 rfl h (Nat.le_of_ble_eq_true rfl) (fun v m3 h => ?_)
    obtain ⟨rfl, h⟩ := h
    refine aw_eq (L' := [(4, .int v2), (0, .ref (ad 166)), (1, .ref (ad 3)), (2, .ref (ad b2)), (3, .int x3)]) (st' := []) (m' := m3) ?_ rfl rfl rfl
    refine aw_iinc (j := 4) (v := x3 + (1 : Int32)) (L' := [(3, .int (x3 + (1 : Int32))), (4, .int v2), (0, .ref (ad 166)), (1, .ref (ad 3)), (2, .ref (ad b2))]) dX7_playTurn_61 rfl rfl (by decide) rfl ?_
    refine aw_goto (tgt := 2) dX7_playTurn_64 (by decide) ?_
    exact aw_sub [2, 3, 4, 0] rfl h
set_option maxRecDepth 100000 in
set_option maxHeartbeats 4000000 in
theorem v_X7_loopSum {ad : Nat → Nat} {d : Nat} {Q : Option Value → Wm → Prop} {m : Wm} {x1 x2 : Int32} (h : AW ad E0 μX7_loopSum (d + 1) Q 8 [(0, .ref (ad 166)), (1, .int x1), (2, .int x2), (3, .int (0 : Int32)), (4, .int (m.1 166 3))] [] m) : Ct ad μX7_loopSum (d + 1) [.ref (ad 166), .int x1, .int x2] m Q := by
  refine Ct.of (by decide +kernel) rfl (Nat.le_of_ble_eq_true rfl) ?_
  refine aw_eq (L' := [(0, .ref (ad 166)), (1, .int x1), (2, .int x2)]) ?_ rfl rfl rfl
  refine aw_iconst (v := 0) dX7_loopSum_0 (by decide) ?_
  refine aw_istore_n (L' := [(3, .int (0 : Int32)), (0, .ref (ad 166)), (1, .int x1), (2, .int x2)]) dX7_loopSum_1 rfl (by decide) rfl ?_
  refine aw_aload_n (j := 1) dX7_loopSum_2 rfl rfl ?_
  refine aw_getfield (c := 0) (v := .int (m.1 166 3)) dX7_loopSum_3 f_X7_22 ly_166 rfl rfl ?_
  refine aw_istore (L' := [(4, .int (m.1 166 3)), (3, .int (0 : Int32)), (0, .ref (ad 166)), (1, .int x1), (2, .int x2)]) dX7_loopSum_6 (by decide) rfl ?_
  exact aw_sub [2, 3, 4, 1, 0] rfl h
set_option maxRecDepth 100000 in
set_option maxHeartbeats 4000000 in
theorem g_X7_loopSum_8 {ad : Nat → Nat} {d : Nat} {Q : Option Value → Wm → Prop} {m : Wm} {x1 x2 x3 x4 : Int32} (h : (((m.1 151 4) ≤ x4 → Q (some (.int x3)) m) ∧ (¬ (m.1 151 4) ≤ x4 → (Ct ad μX9_skillIn d [.ref (ad 151), .int x4, .int x1, .int x2] m (fun r m1 => ∃ v2 : Int32, r = some (.int v2) ∧ AW ad E0 μX7_loopSum (d + 1) Q 8 [(0, .ref (ad 166)), (1, .int x1), (2, .int x2), (3, .int (x3 + v2)), (4, .int (x4 + (1 : Int32)))] [] m1))))) : AW ad E0 μX7_loopSum (d + 1) Q 8 [(0, .ref (ad 166)), (1, .int x1), (2, .int x2), (3, .int x3), (4, .int x4)] [] m := by
  refine aw_iload (j := 4) dX7_loopSum_8 rfl ?_
  refine aw_aload_n (j := 0) dX7_loopSum_10 rfl rfl ?_
  refine aw_getfield (c := 154) (v := .ref (ad 151)) dX7_loopSum_11 f_X7_33 ly_166 rfl rfl ?_
  refine aw_getfield (c := 0) (v := .int (m.1 151 4)) dX7_loopSum_14 f_X7_82 ly_151 rfl rfl ?_
  refine aw_icmp_ge (tgt := 40) dX7_loopSum_17 (by decide) (fun hc => ?_) (fun hc => ?_)
  · have h := h.1 hc
    refine aw_iload_n (j := 3) dX7_loopSum_40 rfl rfl ?_
    exact aw_ret (v := some (.int x3)) rfl (Or.inr (Or.inl ⟨_, .int, rfl, rfl, rfl, dX7_loopSum_41⟩)) h
  · have h := h.2 hc
    refine aw_iload_n (j := 3) dX7_loopSum_20 rfl rfl ?_
    refine aw_aload_n (j := 0) dX7_loopSum_21 rfl rfl ?_
    refine aw_getfield (c := 154) (v := .ref (ad 151)) dX7_loopSum_22 f_X7_33 ly_166 rfl rfl ?_
    refine aw_iload (j := 4) dX7_loopSum_25 rfl ?_
    refine aw_iload_n (j := 1) dX7_loopSum_27 rfl rfl ?_
    refine aw_iload_n (j := 2) dX7_loopSum_28 rfl rfl ?_
    refine aw_callV (rest := [.int x3]) [.int x4, .int x1, .int x2] dX7_loopSum_29 ly_151 rfl k_X7_85 rfl h (Nat.le_of_ble_eq_true rfl) (fun v m1 h => ?_)
    obtain ⟨v2, rfl, h⟩ := h
    refine aw_eq (L' := [(0, .ref (ad 166)), (1, .int x1), (2, .int x2), (3, .int x3), (4, .int x4)]) (st' := [.int v2, .int x3]) (m' := m1) ?_ rfl rfl rfl
    refine aw_iadd dX7_loopSum_32 ?_
    refine aw_istore_n (L' := [(3, .int (x3 + v2)), (0, .ref (ad 166)), (1, .int x1), (2, .int x2), (4, .int x4)]) dX7_loopSum_33 rfl (by decide) rfl ?_
    refine aw_iinc (j := 4) (v := x4 + (1 : Int32)) (L' := [(4, .int (x4 + (1 : Int32))), (3, .int (x3 + v2)), (0, .ref (ad 166)), (1, .int x1), (2, .int x2)]) dX7_loopSum_34 rfl rfl (by decide) rfl ?_
    refine aw_goto (tgt := 8) dX7_loopSum_37 (by decide) ?_
    exact aw_sub [2, 3, 4, 1, 0] rfl h
set_option maxRecDepth 100000 in
set_option maxHeartbeats 4000000 in
theorem v_X7_follow {ad : Nat → Nat} {d : Nat} {Q : Option Value → Wm → Prop} {m : Wm} {b2 b3 : Nat} {x4 x5 : Int32} (hb2 : Pl b2) (hb3 : St b3) (h : (Ct ad μX8_copy d [.ref (ad 167), .ref (ad b3)] m (fun r m1 => r = none ∧ AW ad E0 μX7_follow (d + 1) Q 11 [(0, .ref (ad 166)), (1, .ref (ad 3)), (2, .ref (ad b2)), (4, .int x4), (5, .int x5), (6, .int (0 : Int32))] [] m1))) : Ct ad μX7_follow (d + 1) [.ref (ad 166), .ref (ad 3), .ref (ad b2), .ref (ad b3), .int x4, .int x5] m Q := by
  refine Ct.of (by decide +kernel) rfl (Nat.le_of_ble_eq_true rfl) ?_
  refine aw_eq (L' := [(0, .ref (ad 166)), (1, .ref (ad 3)), (2, .ref (ad b2)), (3, .ref (ad b3)), (4, .int x4), (5, .int x5)]) ?_ rfl rfl rfl
  refine aw_aload_n (j := 0) dX7_follow_0 rfl rfl ?_
  refine aw_getfield (c := 170) (v := .ref (ad 167)) dX7_follow_1 f_X7_12 ly_166 rfl rfl ?_
  refine aw_aload_n (j := 3) dX7_follow_4 rfl rfl ?_
  refine aw_callV (rest := []) [.ref (ad b3)] dX7_follow_5 ly_167 rfl k_X7_37 rfl h (Nat.le_of_ble_eq_true rfl) (fun v m1 h => ?_)
  obtain ⟨rfl, h⟩ := h
  refine aw_eq (L' := [(0, .ref (ad 166)), (1, .ref (ad 3)), (2, .ref (ad b2)), (3, .ref (ad b3)), (4, .int x4), (5, .int x5)]) (st' := []) (m' := m1) ?_ rfl rfl rfl
  refine aw_iconst (v := 0) dX7_follow_8 (by decide) ?_
  refine aw_istore (L' := [(6, .int (0 : Int32)), (0, .ref (ad 166)), (1, .ref (ad 3)), (2, .ref (ad b2)), (3, .ref (ad b3)), (4, .int x4), (5, .int x5)]) dX7_follow_9 (by decide) rfl ?_
  exact aw_sub [1, 2, 3, 5, 6, 0] rfl h
set_option maxRecDepth 100000 in
set_option maxHeartbeats 4000000 in
theorem g_X7_follow_11 {ad : Nat → Nat} {d : Nat} {Q : Option Value → Wm → Prop} {m : Wm} {b2 : Nat} {x4 x5 x6 : Int32} (hb2 : Pl b2) (h : (((8 : Int32) ≤ x6 → AW ad E0 μX7_follow (d + 1) Q 43 [(0, .ref (ad 166)), (1, .ref (ad 3)), (2, .ref (ad b2)), (4, .int x4), (5, .int x5), (6, .int (0 : Int32)), (7, .int (0 : Int32))] [] (uL m 166 5 (1 : Int64))) ∧ (¬ (8 : Int32) ≤ x6 → (vp_in x6 8 ∧ AW ad E0 μX7_follow (d + 1) Q 11 [(0, .ref (ad 166)), (1, .ref (ad 3)), (2, .ref (ad b2)), (4, .int x4), (5, .int x5), (6, .int (x6 + (1 : Int32)))] [] (uI m 172 x6.toNatClampNeg (0 : Int32)))))) : AW ad E0 μX7_follow (d + 1) Q 11 [(0, .ref (ad 166)), (1, .ref (ad 3)), (2, .ref (ad b2)), (4, .int x4), (5, .int x5), (6, .int x6)] [] m := by
  refine aw_iload (j := 5) dX7_follow_11 rfl ?_
  refine aw_bipush (v := 8) dX7_follow_13 (by decide) ?_
  refine aw_icmp_ge (tgt := 32) dX7_follow_15 (by decide) (fun hc => ?_) (fun hc => ?_)
  · have h := h.1 hc
    refine aw_aload_n (j := 0) dX7_follow_32 rfl rfl ?_
    refine aw_lconst (v := 1) dX7_follow_33 (by decide) ?_
    refine aw_putL dX7_follow_34 f_X7_29 cl_X7 rfl ly_166 rfl rfl rfl ?_
    refine aw_iconst (v := 0) dX7_follow_37 (by decide) ?_
    refine aw_istore (L' := [(6, .int (0 : Int32)), (0, .ref (ad 166)), (1, .ref (ad 3)), (2, .ref (ad b2)), (4, .int x4), (5, .int x5)]) dX7_follow_38 (by decide) rfl ?_
    refine aw_iconst (v := 0) dX7_follow_40 (by decide) ?_
    refine aw_istore (L' := [(7, .int (0 : Int32)), (6, .int (0 : Int32)), (0, .ref (ad 166)), (1, .ref (ad 3)), (2, .ref (ad b2)), (4, .int x4), (5, .int x5)]) dX7_follow_41 (by decide) rfl ?_
    exact aw_sub [2, 3, 4, 5, 6, 1, 0] rfl h
  · have h := h.2 hc
    refine aw_aload_n (j := 0) dX7_follow_18 rfl rfl ?_
    refine aw_getfield (c := 175) (v := .ref (ad 172)) dX7_follow_19 f_X7_18 ly_166 rfl rfl ?_
    refine aw_iload (j := 5) dX7_follow_22 rfl ?_
    refine aw_iconst (v := 0) dX7_follow_24 (by decide) ?_
    obtain ⟨hi, h⟩ := h
    refine aw_iastore dX7_follow_25 ly_172 hi ?_
    refine aw_iinc (j := 5) (v := x6 + (1 : Int32)) (L' := [(6, .int (x6 + (1 : Int32))), (0, .ref (ad 166)), (1, .ref (ad 3)), (2, .ref (ad b2)), (4, .int x4), (5, .int x5)]) dX7_follow_26 rfl rfl (by decide) rfl ?_
    refine aw_goto (tgt := 11) dX7_follow_29 (by decide) ?_
    exact aw_sub [1, 2, 3, 4, 5, 0] rfl h
set_option maxRecDepth 100000 in
set_option maxHeartbeats 4000000 in
theorem g_X7_follow_43 {ad : Nat → Nat} {d : Nat} {Q : Option Value → Wm → Prop} {m : Wm} {b2 : Nat} {x4 x5 x6 x7 : Int32} (hb2 : Pl b2) (h : ((x4 ≤ x7 → Q (some (.long (m.2.1 166 5))) m) ∧ (¬ x4 ≤ x7 → (((lg_cmp (m.2.1 166 5) (0 : Int64)) ≤ 0 → Q (some (.long (m.2.1 166 5))) m) ∧ (¬ (lg_cmp (m.2.1 166 5) (0 : Int64)) ≤ 0 → ((((x5 >>> (x7 &&& 31)) &&& (1 : Int32)) = 0 → AW ad E0 μX7_follow (d + 1) Q 79 [(0, .ref (ad 166)), (1, .ref (ad 3)), (2, .ref (ad b2)), (4, .int x4), (5, .int x5), (6, .int x6), (7, .int x7)] [.int (0 : Int32), .int x6, .ref (ad b2), .ref (ad 3), .ref (ad 166)] m) ∧ (¬ ((x5 >>> (x7 &&& 31)) &&& (1 : Int32)) = 0 → AW ad E0 μX7_follow (d + 1) Q 79 [(0, .ref (ad 166)), (1, .ref (ad 3)), (2, .ref (ad b2)), (4, .int x4), (5, .int x5), (6, .int x6), (7, .int x7)] [.int (1 : Int32), .int x6, .ref (ad b2), .ref (ad 3), .ref (ad 166)] m))))))) : AW ad E0 μX7_follow (d + 1) Q 43 [(0, .ref (ad 166)), (1, .ref (ad 3)), (2, .ref (ad b2)), (4, .int x4), (5, .int x5), (6, .int x6), (7, .int x7)] [] m := by
  refine aw_iload (j := 6) dX7_follow_43 rfl ?_
  refine aw_iload (j := 3) dX7_follow_45 rfl ?_
  refine aw_icmp_ge (tgt := 109) dX7_follow_47 (by decide) (fun hc => ?_) (fun hc => ?_)
  · have h := h.1 hc
    refine aw_aload_n (j := 0) dX7_follow_109 rfl rfl ?_
    refine aw_getfield (c := 1) (v := .long (m.2.1 166 5)) dX7_follow_110 f_X7_29 ly_166 rfl rfl ?_
    exact aw_ret (v := some (.long (m.2.1 166 5))) rfl (Or.inr (Or.inr ⟨_, rfl, rfl, dX7_follow_113⟩)) h
  · have h := h.2 hc
    refine aw_aload_n (j := 0) dX7_follow_50 rfl rfl ?_
    refine aw_getfield (c := 1) (v := .long (m.2.1 166 5)) dX7_follow_51 f_X7_29 ly_166 rfl rfl ?_
    refine aw_lconst (v := 0) dX7_follow_54 (by decide) ?_
    refine aw_lcmp dX7_follow_55 ?_
    refine aw_if_le (tgt := 109) dX7_follow_56 (by decide) (fun hc => ?_) (fun hc => ?_)
    · have h := h.1 hc
      refine aw_aload_n (j := 0) dX7_follow_109 rfl rfl ?_
      refine aw_getfield (c := 1) (v := .long (m.2.1 166 5)) dX7_follow_110 f_X7_29 ly_166 rfl rfl ?_
      exact aw_ret (v := some (.long (m.2.1 166 5))) rfl (Or.inr (Or.inr ⟨_, rfl, rfl, dX7_follow_113⟩)) h
    · have h := h.2 hc
      refine aw_aload_n (j := 0) dX7_follow_59 rfl rfl ?_
      refine aw_aload_n (j := 1) dX7_follow_60 rfl rfl ?_
      refine aw_aload_n (j := 2) dX7_follow_61 rfl rfl ?_
      refine aw_iload (j := 5) dX7_follow_62 rfl ?_
      refine aw_iload (j := 4) dX7_follow_64 rfl ?_
      refine aw_iload (j := 6) dX7_follow_66 rfl ?_
      refine aw_ishr dX7_follow_68 ?_
      refine aw_iconst (v := 1) dX7_follow_69 (by decide) ?_
      refine aw_iand dX7_follow_70 ?_
      refine aw_if_eq (tgt := 78) dX7_follow_71 (by decide) (fun hc => ?_) (fun hc => ?_)
      · have h := h.1 hc
        refine aw_iconst (v := 0) dX7_follow_78 (by decide) ?_
        exact aw_sub [0, 1, 2, 3, 4, 5, 6] rfl h
      · have h := h.2 hc
        refine aw_iconst (v := 1) dX7_follow_74 (by decide) ?_
        refine aw_goto (tgt := 79) dX7_follow_75 (by decide) ?_
        exact aw_sub [0, 1, 2, 3, 4, 5, 6] rfl h
set_option maxRecDepth 100000 in
set_option maxHeartbeats 4000000 in
theorem g_X7_follow_79 {ad : Nat → Nat} {d : Nat} {Q : Option Value → Wm → Prop} {m : Wm} {b2 c2 : Nat} {x4 x5 x6 x7 s0 s1 : Int32} (hb2 : Pl b2) (hc2 : Pl c2) (h : (Ct ad μX7_followGame d [.ref (ad 166), .ref (ad 3), .ref (ad c2), .int s1, .int s0] m (fun r m1 => r = none ∧ (((m1.1 b2 6) ≤ (x6 + (1 : Int32)) → AW ad E0 μX7_follow (d + 1) Q 43 [(0, .ref (ad 166)), (1, .ref (ad 3)), (2, .ref (ad b2)), (4, .int x4), (5, .int x5), (6, .int (0 : Int32)), (7, .int (x7 + (1 : Int32)))] [] m1) ∧ (¬ (m1.1 b2 6) ≤ (x6 + (1 : Int32)) → AW ad E0 μX7_follow (d + 1) Q 43 [(0, .ref (ad 166)), (1, .ref (ad 3)), (2, .ref (ad b2)), (4, .int x4), (5, .int x5), (6, .int (x6 + (1 : Int32))), (7, .int (x7 + (1 : Int32)))] [] m1))))) : AW ad E0 μX7_follow (d + 1) Q 79 [(0, .ref (ad 166)), (1, .ref (ad 3)), (2, .ref (ad b2)), (4, .int x4), (5, .int x5), (6, .int x6), (7, .int x7)] [.int s0, .int s1, .ref (ad c2), .ref (ad 3), .ref (ad 166)] m := by
  refine aw_callV (rest := []) [.ref (ad 3), .ref (ad c2), .int s1, .int s0] dX7_follow_79 ly_166 rfl k_X7_89 rfl h (Nat.le_of_ble_eq_true rfl) (fun v m1 h => ?_)
  obtain ⟨rfl, h⟩ := h
  refine aw_eq (L' := [(0, .ref (ad 166)), (1, .ref (ad 3)), (2, .ref (ad b2)), (4, .int x4), (5, .int x5), (6, .int x6), (7, .int x7)]) (st' := []) (m' := m1) ?_ rfl rfl rfl
  refine aw_iload (j := 5) dX7_follow_82 rfl ?_
  refine aw_iconst (v := 1) dX7_follow_84 (by decide) ?_
  refine aw_iadd dX7_follow_85 ?_
  refine aw_aload_n (j := 2) dX7_follow_86 rfl rfl ?_
  refine aw_getfield (c := 0) (v := .int (m1.1 b2 6)) dX7_follow_87 f_X7_58 hb2.1 rfl rfl ?_
  refine aw_icmp_ge (tgt := 100) dX7_follow_90 (by decide) (fun hc => ?_) (fun hc => ?_)
  · have h := h.1 hc
    refine aw_iconst (v := 0) dX7_follow_100 (by decide) ?_
    refine aw_istore (L' := [(6, .int (0 : Int32)), (0, .ref (ad 166)), (1, .ref (ad 3)), (2, .ref (ad b2)), (4, .int x4), (5, .int x5), (7, .int x7)]) dX7_follow_101 (by decide) rfl ?_
    refine aw_iinc (j := 6) (v := x7 + (1 : Int32)) (L' := [(7, .int (x7 + (1 : Int32))), (6, .int (0 : Int32)), (0, .ref (ad 166)), (1, .ref (ad 3)), (2, .ref (ad b2)), (4, .int x4), (5, .int x5)]) dX7_follow_103 rfl rfl (by decide) rfl ?_
    refine aw_goto (tgt := 43) dX7_follow_106 (by decide) ?_
    exact aw_sub [2, 3, 4, 5, 6, 1, 0] rfl h
  · have h := h.2 hc
    refine aw_iload (j := 5) dX7_follow_93 rfl ?_
    refine aw_iconst (v := 1) dX7_follow_95 (by decide) ?_
    refine aw_iadd dX7_follow_96 ?_
    refine aw_goto (tgt := 101) dX7_follow_97 (by decide) ?_
    refine aw_istore (L' := [(6, .int (x6 + (1 : Int32))), (0, .ref (ad 166)), (1, .ref (ad 3)), (2, .ref (ad b2)), (4, .int x4), (5, .int x5), (7, .int x7)]) dX7_follow_101 (by decide) rfl ?_
    refine aw_iinc (j := 6) (v := x7 + (1 : Int32)) (L' := [(7, .int (x7 + (1 : Int32))), (6, .int (x6 + (1 : Int32))), (0, .ref (ad 166)), (1, .ref (ad 3)), (2, .ref (ad b2)), (4, .int x4), (5, .int x5)]) dX7_follow_103 rfl rfl (by decide) rfl ?_
    refine aw_goto (tgt := 43) dX7_follow_106 (by decide) ?_
    exact aw_sub [2, 3, 4, 5, 6, 1, 0] rfl h
set_option maxRecDepth 100000 in
set_option maxHeartbeats 4000000 in
theorem v_X7_followGame {ad : Nat → Nat} {d : Nat} {Q : Option Value → Wm → Prop} {m : Wm} {b2 : Nat} {x3 x4 : Int32} (hb2 : Pl b2) (h : (vp_in x3 48 ∧ (vp_in x3 48 ∧ (vp_in x3 48 ∧ (((m.1 (b2 + 3) x3.toNatClampNeg) = 0 → (Ct ad μX1_chance d [.ref (ad 3), .ref (ad 167), .int (m.1 (b2 + 1) x3.toNatClampNeg), .int (m.1 (b2 + 2) x3.toNatClampNeg)] m (fun r m1 => ∃ v2 : Int32, r = some (.int v2) ∧ AW ad E0 μX7_followGame (d + 1) Q 42 [(0, .ref (ad 166)), (1, .ref (ad 3)), (2, .ref (ad b2)), (3, .int x3), (4, .int x4), (5, .int (m.1 (b2 + 1) x3.toNatClampNeg)), (6, .int (m.1 (b2 + 2) x3.toNatClampNeg))] [.int v2] m1))) ∧ (¬ (m.1 (b2 + 3) x3.toNatClampNeg) = 0 → AW ad E0 μX7_followGame (d + 1) Q 42 [(0, .ref (ad 166)), (1, .ref (ad 3)), (2, .ref (ad b2)), (3, .int x3), (4, .int x4), (5, .int (m.1 (b2 + 1) x3.toNatClampNeg)), (6, .int (m.1 (b2 + 2) x3.toNatClampNeg))] [.int (100 : Int32)] m)))))) : Ct ad μX7_followGame (d + 1) [.ref (ad 166), .ref (ad 3), .ref (ad b2), .int x3, .int x4] m Q := by
  refine Ct.of (by decide +kernel) rfl (Nat.le_of_ble_eq_true rfl) ?_
  refine aw_eq (L' := [(0, .ref (ad 166)), (1, .ref (ad 3)), (2, .ref (ad b2)), (3, .int x3), (4, .int x4)]) ?_ rfl rfl rfl
  refine aw_aload_n (j := 2) dX7_followGame_0 rfl rfl ?_
  refine aw_getfield (c := b2 + 1 + 3) (v := .ref (ad (b2 + 1))) dX7_followGame_1 f_X7_63 hb2.1 rfl rfl ?_
  refine aw_iload_n (j := 3) dX7_followGame_4 rfl rfl ?_
  obtain ⟨hi, h⟩ := h
  refine aw_iaload dX7_followGame_5 hb2.2.1 hi ?_
  refine aw_istore (L' := [(5, .int (m.1 (b2 + 1) x3.toNatClampNeg)), (0, .ref (ad 166)), (1, .ref (ad 3)), (2, .ref (ad b2)), (3, .int x3), (4, .int x4)]) dX7_followGame_6 (by decide) rfl ?_
  refine aw_aload_n (j := 3) dX7_followGame_8 rfl rfl ?_
  refine aw_getfield (c := b2 + 2 + 3) (v := .ref (ad (b2 + 2))) dX7_followGame_9 f_X7_66 hb2.1 rfl rfl ?_
  refine aw_iload_n (j := 4) dX7_followGame_12 rfl rfl ?_
  obtain ⟨hi, h⟩ := h
  refine aw_iaload dX7_followGame_13 hb2.2.2.1 hi ?_
  refine aw_istore (L' := [(6, .int (m.1 (b2 + 2) x3.toNatClampNeg)), (5, .int (m.1 (b2 + 1) x3.toNatClampNeg)), (0, .ref (ad 166)), (1, .ref (ad 3)), (2, .ref (ad b2)), (3, .int x3), (4, .int x4)]) dX7_followGame_14 (by decide) rfl ?_
  refine aw_aload_n (j := 4) dX7_followGame_16 rfl rfl ?_
  refine aw_getfield (c := b2 + 3 + 3) (v := .ref (ad (b2 + 3))) dX7_followGame_17 f_X7_69 hb2.1 rfl rfl ?_
  refine aw_iload_n (j := 5) dX7_followGame_20 rfl rfl ?_
  obtain ⟨hi, h⟩ := h
  refine aw_iaload dX7_followGame_21 hb2.2.2.2.1 hi ?_
  refine aw_if_eq (tgt := 30) dX7_followGame_22 (by decide) (fun hc => ?_) (fun hc => ?_)
  · have h := h.1 hc
    refine aw_aload_n (j := 3) dX7_followGame_30 rfl rfl ?_
    refine aw_aload_n (j := 2) dX7_followGame_31 rfl rfl ?_
    refine aw_getfield (c := 170) (v := .ref (ad 167)) dX7_followGame_32 f_X7_12 ly_166 rfl rfl ?_
    refine aw_iload (j := 1) dX7_followGame_35 rfl ?_
    refine aw_iload (j := 0) dX7_followGame_37 rfl ?_
    refine aw_callV (rest := []) [.ref (ad 167), .int (m.1 (b2 + 1) x3.toNatClampNeg), .int (m.1 (b2 + 2) x3.toNatClampNeg)] dX7_followGame_39 ly_3 rfl k_X7_93 rfl h (Nat.le_of_ble_eq_true rfl) (fun v m1 h => ?_)
    obtain ⟨v2, rfl, h⟩ := h
    refine aw_eq (L' := [(6, .int (m.1 (b2 + 2) x3.toNatClampNeg)), (5, .int (m.1 (b2 + 1) x3.toNatClampNeg)), (0, .ref (ad 166)), (1, .ref (ad 3)), (2, .ref (ad b2)), (3, .int x3), (4, .int x4)]) (st' := [.int v2]) (m' := m1) ?_ rfl rfl rfl
    exact aw_sub [2, 3, 4, 5, 6, 1, 0] rfl h
  · have h := h.2 hc
    refine aw_bipush (v := 100) dX7_followGame_25 (by decide) ?_
    refine aw_goto (tgt := 42) dX7_followGame_27 (by decide) ?_
    exact aw_sub [2, 3, 4, 5, 6, 1, 0] rfl h
set_option maxRecDepth 100000 in
set_option maxHeartbeats 4000000 in
theorem g_X7_followGame_42 {ad : Nat → Nat} {d : Nat} {Q : Option Value → Wm → Prop} {m : Wm} {b2 : Nat} {x3 x4 x5 x6 s0 : Int32} (hb2 : Pl b2) (h : ((x4 = 0 → AW ad E0 μX7_followGame (d + 1) Q 66 [(0, .ref (ad 166)), (1, .ref (ad 3)), (2, .ref (ad b2)), (3, .int x3), (4, .int x4), (5, .int x5), (6, .int x6)] [.long s0.toInt64, .long (m.2.1 166 5), .ref (ad 166)] m) ∧ (¬ x4 = 0 → AW ad E0 μX7_followGame (d + 1) Q 66 [(0, .ref (ad 166)), (1, .ref (ad 3)), (2, .ref (ad b2)), (3, .int x3), (4, .int x4), (5, .int x5), (6, .int x6)] [.long (((100 : Int32) - s0).toInt64), .long (m.2.1 166 5), .ref (ad 166)] m))) : AW ad E0 μX7_followGame (d + 1) Q 42 [(0, .ref (ad 166)), (1, .ref (ad 3)), (2, .ref (ad b2)), (3, .int x3), (4, .int x4), (5, .int x5), (6, .int x6)] [.int s0] m := by
  refine aw_istore (L' := [(7, .int s0), (0, .ref (ad 166)), (1, .ref (ad 3)), (2, .ref (ad b2)), (3, .int x3), (4, .int x4), (5, .int x5), (6, .int x6)]) dX7_followGame_42 (by decide) rfl ?_
  refine aw_aload_n (j := 1) dX7_followGame_44 rfl rfl ?_
  refine aw_dup dX7_followGame_45 rfl ?_
  refine aw_getfield (c := 1) (v := .long (m.2.1 166 5)) dX7_followGame_46 f_X7_29 ly_166 rfl rfl ?_
  refine aw_iload (j := 5) dX7_followGame_49 rfl ?_
  refine aw_if_eq (tgt := 63) dX7_followGame_51 (by decide) (fun hc => ?_) (fun hc => ?_)
  · have h := h.1 hc
    refine aw_iload (j := 0) dX7_followGame_63 rfl ?_
    refine aw_i2l dX7_followGame_65 ?_
    exact aw_sub [1, 2, 3, 4, 5, 6, 7] rfl h
  · have h := h.2 hc
    refine aw_bipush (v := 100) dX7_followGame_54 (by decide) ?_
    refine aw_iload (j := 0) dX7_followGame_56 rfl ?_
    refine aw_isub dX7_followGame_58 ?_
    refine aw_i2l dX7_followGame_59 ?_
    refine aw_goto (tgt := 66) dX7_followGame_60 (by decide) ?_
    exact aw_sub [1, 2, 3, 4, 5, 6, 7] rfl h
set_option maxRecDepth 100000 in
set_option maxHeartbeats 4000000 in
theorem g_X7_followGame_66 {ad : Nat → Nat} {d : Nat} {Q : Option Value → Wm → Prop} {m : Wm} {b2 : Nat} {x3 x4 x5 x6 : Int32} {z0 z1 : Int64} (hb2 : Pl b2) (h : ((x4 = 0 → AW ad E0 μX7_followGame (d + 1) Q 80 [(0, .ref (ad 166)), (1, .ref (ad 3)), (2, .ref (ad b2)), (3, .int x3), (5, .int x5), (6, .int x6)] [.int (0 : Int32)] (uL m 166 5 (z1 * z0))) ∧ (¬ x4 = 0 → AW ad E0 μX7_followGame (d + 1) Q 80 [(0, .ref (ad 166)), (1, .ref (ad 3)), (2, .ref (ad b2)), (3, .int x3), (5, .int x5), (6, .int x6)] [.int (1 : Int32)] (uL m 166 5 (z1 * z0))))) : AW ad E0 μX7_followGame (d + 1) Q 66 [(0, .ref (ad 166)), (1, .ref (ad 3)), (2, .ref (ad b2)), (3, .int x3), (4, .int x4), (5, .int x5), (6, .int x6)] [.long z0, .long z1, .ref (ad 166)] m := by
  refine aw_lmul dX7_followGame_66 ?_
  refine aw_putL dX7_followGame_67 f_X7_29 cl_X7 rfl ly_166 rfl rfl rfl ?_
  refine aw_iload (j := 4) dX7_followGame_70 rfl ?_
  refine aw_if_eq (tgt := 79) dX7_followGame_72 (by decide) (fun hc => ?_) (fun hc => ?_)
  · have h := h.1 hc
    refine aw_iconst (v := 0) dX7_followGame_79 (by decide) ?_
    exact aw_sub [0, 1, 2, 3, 5, 6] rfl h
  · have h := h.2 hc
    refine aw_iconst (v := 1) dX7_followGame_75 (by decide) ?_
    refine aw_goto (tgt := 80) dX7_followGame_76 (by decide) ?_
    exact aw_sub [0, 1, 2, 3, 5, 6] rfl h
set_option maxRecDepth 100000 in
set_option maxHeartbeats 4000000 in
theorem g_X7_followGame_80 {ad : Nat → Nat} {d : Nat} {Q : Option Value → Wm → Prop} {m : Wm} {b2 : Nat} {x3 x5 x6 s0 : Int32} (hb2 : Pl b2) (h : (vp_in x3 48 ∧ (((m.1 (b2 + 3) x3.toNatClampNeg) = 0 → AW ad E0 μX7_followGame (d + 1) Q 111 [(0, .ref (ad 166)), (1, .ref (ad 3)), (5, .int x5), (6, .int x6), (8, .int s0)] [] m) ∧ (¬ (m.1 (b2 + 3) x3.toNatClampNeg) = 0 → (vp_in x3 48 ∧ (Ct ad μX1_result d [.ref (ad 3), .ref (ad 167), .int x5, .int x6, .int (m.1 (b2 + 3) x3.toNatClampNeg)] m (fun r m1 => ∃ v2 : Int32, r = some (.int v2) ∧ AW ad E0 μX7_followGame (d + 1) Q 111 [(0, .ref (ad 166)), (1, .ref (ad 3)), (5, .int x5), (6, .int x6), (8, .int v2)] [] m1))))))) : AW ad E0 μX7_followGame (d + 1) Q 80 [(0, .ref (ad 166)), (1, .ref (ad 3)), (2, .ref (ad b2)), (3, .int x3), (5, .int x5), (6, .int x6)] [.int s0] m := by
  refine aw_istore (L' := [(8, .int s0), (0, .ref (ad 166)), (1, .ref (ad 3)), (2, .ref (ad b2)), (3, .int x3), (5, .int x5), (6, .int x6)]) dX7_followGame_80 (by decide) rfl ?_
  refine aw_aload_n (j := 3) dX7_followGame_82 rfl rfl ?_
  refine aw_getfield (c := b2 + 3 + 3) (v := .ref (ad (b2 + 3))) dX7_followGame_83 f_X7_69 hb2.1 rfl rfl ?_
  refine aw_iload_n (j := 4) dX7_followGame_86 rfl rfl ?_
  obtain ⟨hi, h⟩ := h
  refine aw_iaload dX7_followGame_87 hb2.2.2.2.1 hi ?_
  refine aw_if_eq (tgt := 111) dX7_followGame_88 (by decide) (fun hc => ?_) (fun hc => ?_)
  · have h := h.1 hc
    exact aw_sub [1, 2, 5, 6, 0] rfl h
  · have h := h.2 hc
    refine aw_aload_n (j := 2) dX7_followGame_91 rfl rfl ?_
    refine aw_aload_n (j := 1) dX7_followGame_92 rfl rfl ?_
    refine aw_getfield (c := 170) (v := .ref (ad 167)) dX7_followGame_93 f_X7_12 ly_166 rfl rfl ?_
    refine aw_iload (j := 5) dX7_followGame_96 rfl ?_
    refine aw_iload (j := 6) dX7_followGame_98 rfl ?_
    refine aw_aload_n (j := 3) dX7_followGame_100 rfl rfl ?_
    refine aw_getfield (c := b2 + 3 + 3) (v := .ref (ad (b2 + 3))) dX7_followGame_101 f_X7_69 hb2.1 rfl rfl ?_
    refine aw_iload_n (j := 4) dX7_followGame_104 rfl rfl ?_
    obtain ⟨hi, h⟩ := h
    refine aw_iaload dX7_followGame_105 hb2.2.2.2.1 hi ?_
    refine aw_callV (rest := []) [.ref (ad 167), .int x5, .int x6, .int (m.1 (b2 + 3) x3.toNatClampNeg)] dX7_followGame_106 ly_3 rfl k_X7_72 rfl h (Nat.le_of_ble_eq_true rfl) (fun v m1 h => ?_)
    obtain ⟨v2, rfl, h⟩ := h
    refine aw_eq (L' := [(8, .int s0), (0, .ref (ad 166)), (1, .ref (ad 3)), (2, .ref (ad b2)), (3, .int x3), (5, .int x5), (6, .int x6)]) (st' := [.int v2]) (m' := m1) ?_ rfl rfl rfl
    refine aw_istore (L' := [(8, .int v2), (0, .ref (ad 166)), (1, .ref (ad 3)), (2, .ref (ad b2)), (3, .int x3), (5, .int x5), (6, .int x6)]) dX7_followGame_109 (by decide) rfl ?_
    exact aw_sub [1, 2, 5, 6, 0] rfl h
set_option maxRecDepth 100000 in
set_option maxHeartbeats 4000000 in
theorem g_X7_followGame_111 {ad : Nat → Nat} {d : Nat} {Q : Option Value → Wm → Prop} {m : Wm} {x5 x6 x8 : Int32} (h : ((x8 = (2 : Int32) → AW ad E0 μX7_followGame (d + 1) Q 138 [(0, .ref (ad 166)), (1, .ref (ad 3)), (5, .int x5), (6, .int x6), (8, .int x8)] [] m) ∧ (¬ x8 = (2 : Int32) → ((¬ x8 = 0 → (vp_in x6 8 ∧ (vp_in x6 8 ∧ AW ad E0 μX7_followGame (d + 1) Q 138 [(0, .ref (ad 166)), (1, .ref (ad 3)), (5, .int x5), (6, .int x6), (8, .int x8)] [] (uI m 172 x6.toNatClampNeg ((m.1 172 x6.toNatClampNeg) + (1 : Int32)))))) ∧ (x8 = 0 → (vp_in x5 8 ∧ (vp_in x5 8 ∧ AW ad E0 μX7_followGame (d + 1) Q 138 [(0, .ref (ad 166)), (1, .ref (ad 3)), (5, .int x5), (6, .int x6), (8, .int x8)] [] (uI m 172 x5.toNatClampNeg ((m.1 172 x5.toNatClampNeg) + (1 : Int32)))))))))) : AW ad E0 μX7_followGame (d + 1) Q 111 [(0, .ref (ad 166)), (1, .ref (ad 3)), (5, .int x5), (6, .int x6), (8, .int x8)] [] m := by
  refine aw_iload (j := 4) dX7_followGame_111 rfl ?_
  refine aw_iconst (v := 2) dX7_followGame_113 (by decide) ?_
  refine aw_icmp_eq (tgt := 138) dX7_followGame_114 (by decide) (fun hc => ?_) (fun hc => ?_)
  · have h := h.1 hc
    exact aw_sub [0, 1, 2, 3, 4] rfl h
  · have h := h.2 hc
    refine aw_aload_n (j := 0) dX7_followGame_117 rfl rfl ?_
    refine aw_getfield (c := 175) (v := .ref (ad 172)) dX7_followGame_118 f_X7_18 ly_166 rfl rfl ?_
    refine aw_iload (j := 4) dX7_followGame_121 rfl ?_
    refine aw_if_ne (tgt := 131) dX7_followGame_123 (by decide) (fun hc => ?_) (fun hc => ?_)
    · have h := h.1 hc
      refine aw_iload (j := 3) dX7_followGame_131 rfl ?_
      refine aw_dup2_11 dX7_followGame_133 rfl rfl ?_
      obtain ⟨hi, h⟩ := h
      refine aw_iaload dX7_followGame_134 ly_172 hi ?_
      refine aw_iconst (v := 1) dX7_followGame_135 (by decide) ?_
      refine aw_iadd dX7_followGame_136 ?_
      obtain ⟨hi, h⟩ := h
      refine aw_iastore dX7_followGame_137 ly_172 hi ?_
      exact aw_sub [0, 1, 2, 3, 4] rfl h
    · have h := h.2 hc
      refine aw_iload (j := 2) dX7_followGame_126 rfl ?_
      refine aw_goto (tgt := 133) dX7_followGame_128 (by decide) ?_
      refine aw_dup2_11 dX7_followGame_133 rfl rfl ?_
      obtain ⟨hi, h⟩ := h
      refine aw_iaload dX7_followGame_134 ly_172 hi ?_
      refine aw_iconst (v := 1) dX7_followGame_135 (by decide) ?_
      refine aw_iadd dX7_followGame_136 ?_
      obtain ⟨hi, h⟩ := h
      refine aw_iastore dX7_followGame_137 ly_172 hi ?_
      exact aw_sub [0, 1, 2, 3, 4] rfl h
set_option maxRecDepth 100000 in
set_option maxHeartbeats 4000000 in
theorem g_X7_followGame_138 {ad : Nat → Nat} {d : Nat} {Q : Option Value → Wm → Prop} {m : Wm} {x5 x6 x8 : Int32} (h : (Ct ad μX1_settle d [.ref (ad 3), .ref (ad 167), .int x5, .int x6, .int x8, .int (1 : Int32)] m (fun r m1 => r = none ∧ Q none m1))) : AW ad E0 μX7_followGame (d + 1) Q 138 [(0, .ref (ad 166)), (1, .ref (ad 3)), (5, .int x5), (6, .int x6), (8, .int x8)] [] m := by
  refine aw_aload_n (j := 1) dX7_followGame_138 rfl rfl ?_
  refine aw_aload_n (j := 0) dX7_followGame_139 rfl rfl ?_
  refine aw_getfield (c := 170) (v := .ref (ad 167)) dX7_followGame_140 f_X7_12 ly_166 rfl rfl ?_
  refine aw_iload (j := 2) dX7_followGame_143 rfl ?_
  refine aw_iload (j := 3) dX7_followGame_145 rfl ?_
  refine aw_iload (j := 4) dX7_followGame_147 rfl ?_
  refine aw_iconst (v := 1) dX7_followGame_149 (by decide) ?_
  refine aw_callV (rest := []) [.ref (ad 167), .int x5, .int x6, .int x8, .int (1 : Int32)] dX7_followGame_150 ly_3 rfl k_X7_78 rfl h (Nat.le_of_ble_eq_true rfl) (fun v m1 h => ?_)
  obtain ⟨rfl, h⟩ := h
  refine aw_eq (L' := [(0, .ref (ad 166)), (1, .ref (ad 3)), (5, .int x5), (6, .int x6), (8, .int x8)]) (st' := []) (m' := m1) ?_ rfl rfl rfl
  exact aw_ret (v := none) rfl (Or.inl ⟨rfl, rfl, dX7_followGame_153⟩) h
set_option maxRecDepth 100000 in
set_option maxHeartbeats 4000000 in
theorem v_X8_skillOf {ad : Nat → Nat} {d : Nat} {Q : Option Value → Wm → Prop} {m : Wm} {b0 : Nat} {x1 x2 : Int32} (hb0 : St b0) (h : ((((x1 * (4 : Int32)) + x2) < 0 → Q (some (.int (0 : Int32))) m) ∧ (¬ ((x1 * (4 : Int32)) + x2) < 0 → (((32 : Int32) ≤ ((x1 * (4 : Int32)) + x2) → Q (some (.int (0 : Int32))) m) ∧ (¬ (32 : Int32) ≤ ((x1 * (4 : Int32)) + x2) → (vp_in ((x1 * (4 : Int32)) + x2) 32 ∧ Q (some (.int (m.1 (b0 + 1) ((x1 * (4 : Int32)) + x2).toNatClampNeg))) m)))))) : Ct ad μX8_skillOf d [.ref (ad b0), .int x1, .int x2] m Q := by
  refine Ct.of (by decide +kernel) rfl (Nat.le_of_ble_eq_true rfl) ?_
  refine aw_eq (L' := [(0, .ref (ad b0)), (1, .int x1), (2, .int x2)]) ?_ rfl rfl rfl
  refine aw_iload_n (j := 1) dX8_skillOf_0 rfl rfl ?_
  refine aw_iconst (v := 4) dX8_skillOf_1 (by decide) ?_
  refine aw_imul dX8_skillOf_2 ?_
  refine aw_iload_n (j := 2) dX8_skillOf_3 rfl rfl ?_
  refine aw_iadd dX8_skillOf_4 ?_
  refine aw_istore_n (L' := [(3, .int ((x1 * (4 : Int32)) + x2)), (0, .ref (ad b0)), (1, .int x1), (2, .int x2)]) dX8_skillOf_5 rfl (by decide) rfl ?_
  refine aw_iload_n (j := 0) dX8_skillOf_6 rfl rfl ?_
  refine aw_if_lt (tgt := 28) dX8_skillOf_7 (by decide) (fun hc => ?_) (fun hc => ?_)
  · have h := h.1 hc
    refine aw_iconst (v := 0) dX8_skillOf_28 (by decide) ?_
    exact aw_ret (v := some (.int (0 : Int32))) rfl (Or.inr (Or.inl ⟨_, .int, rfl, rfl, rfl, dX8_skillOf_29⟩)) h
  · have h := h.2 hc
    refine aw_iload_n (j := 0) dX8_skillOf_10 rfl rfl ?_
    refine aw_aload_n (j := 1) dX8_skillOf_11 rfl rfl ?_
    refine aw_getfield (c := b0 + 1 + 3) (v := .ref (ad (b0 + 1))) dX8_skillOf_12 f_X8_9 hb0.1 rfl rfl ?_
    refine aw_alen0 (v := (32 : Int32)) dX8_skillOf_15 hb0.2.1 (by decide) ?_
    refine aw_icmp_ge (tgt := 28) dX8_skillOf_16 (by decide) (fun hc => ?_) (fun hc => ?_)
    · have h := h.1 hc
      refine aw_iconst (v := 0) dX8_skillOf_28 (by decide) ?_
      exact aw_ret (v := some (.int (0 : Int32))) rfl (Or.inr (Or.inl ⟨_, .int, rfl, rfl, rfl, dX8_skillOf_29⟩)) h
    · have h := h.2 hc
      refine aw_aload_n (j := 1) dX8_skillOf_19 rfl rfl ?_
      refine aw_getfield (c := b0 + 1 + 3) (v := .ref (ad (b0 + 1))) dX8_skillOf_20 f_X8_9 hb0.1 rfl rfl ?_
      refine aw_iload_n (j := 0) dX8_skillOf_23 rfl rfl ?_
      obtain ⟨hi, h⟩ := h
      refine aw_iaload dX8_skillOf_24 hb0.2.1 hi ?_
      refine aw_goto (tgt := 29) dX8_skillOf_25 (by decide) ?_
      exact aw_ret (v := some (.int (m.1 (b0 + 1) ((x1 * (4 : Int32)) + x2).toNatClampNeg))) rfl (Or.inr (Or.inl ⟨_, .int, rfl, rfl, rfl, dX8_skillOf_29⟩)) h
set_option maxRecDepth 100000 in
set_option maxHeartbeats 4000000 in
theorem v_X8_putSkill {ad : Nat → Nat} {d : Nat} {Q : Option Value → Wm → Prop} {m : Wm} {b0 : Nat} {x1 x2 x3 : Int32} (hb0 : St b0) (h : ((((x1 * (4 : Int32)) + x2) < 0 → Q none m) ∧ (¬ ((x1 * (4 : Int32)) + x2) < 0 → (((32 : Int32) ≤ ((x1 * (4 : Int32)) + x2) → Q none m) ∧ (¬ (32 : Int32) ≤ ((x1 * (4 : Int32)) + x2) → (vp_in ((x1 * (4 : Int32)) + x2) 32 ∧ Q none (uI m (b0 + 1) ((x1 * (4 : Int32)) + x2).toNatClampNeg x3))))))) : Ct ad μX8_putSkill d [.ref (ad b0), .int x1, .int x2, .int x3] m Q := by
  refine Ct.of (by decide +kernel) rfl (Nat.le_of_ble_eq_true rfl) ?_
  refine aw_eq (L' := [(0, .ref (ad b0)), (1, .int x1), (2, .int x2), (3, .int x3)]) ?_ rfl rfl rfl
  refine aw_iload_n (j := 1) dX8_putSkill_0 rfl rfl ?_
  refine aw_iconst (v := 4) dX8_putSkill_1 (by decide) ?_
  refine aw_imul dX8_putSkill_2 ?_
  refine aw_iload_n (j := 2) dX8_putSkill_3 rfl rfl ?_
  refine aw_iadd dX8_putSkill_4 ?_
  refine aw_istore (L' := [(4, .int ((x1 * (4 : Int32)) + x2)), (0, .ref (ad b0)), (1, .int x1), (2, .int x2), (3, .int x3)]) dX8_putSkill_5 (by decide) rfl ?_
  refine aw_iload (j := 0) dX8_putSkill_7 rfl ?_
  refine aw_if_lt (tgt := 30) dX8_putSkill_9 (by decide) (fun hc => ?_) (fun hc => ?_)
  · have h := h.1 hc
    exact aw_ret (v := none) rfl (Or.inl ⟨rfl, rfl, dX8_putSkill_30⟩) h
  · have h := h.2 hc
    refine aw_iload (j := 0) dX8_putSkill_12 rfl ?_
    refine aw_aload_n (j := 1) dX8_putSkill_14 rfl rfl ?_
    refine aw_getfield (c := b0 + 1 + 3) (v := .ref (ad (b0 + 1))) dX8_putSkill_15 f_X8_9 hb0.1 rfl rfl ?_
    refine aw_alen0 (v := (32 : Int32)) dX8_putSkill_18 hb0.2.1 (by decide) ?_
    refine aw_icmp_ge (tgt := 30) dX8_putSkill_19 (by decide) (fun hc => ?_) (fun hc => ?_)
    · have h := h.1 hc
      exact aw_ret (v := none) rfl (Or.inl ⟨rfl, rfl, dX8_putSkill_30⟩) h
    · have h := h.2 hc
      refine aw_aload_n (j := 1) dX8_putSkill_22 rfl rfl ?_
      refine aw_getfield (c := b0 + 1 + 3) (v := .ref (ad (b0 + 1))) dX8_putSkill_23 f_X8_9 hb0.1 rfl rfl ?_
      refine aw_iload (j := 0) dX8_putSkill_26 rfl ?_
      refine aw_iload_n (j := 4) dX8_putSkill_28 rfl rfl ?_
      obtain ⟨hi, h⟩ := h
      refine aw_iastore dX8_putSkill_29 hb0.2.1 hi ?_
      exact aw_ret (v := none) rfl (Or.inl ⟨rfl, rfl, dX8_putSkill_30⟩) h
set_option maxRecDepth 100000 in
set_option maxHeartbeats 4000000 in
theorem v_X8_sum {ad : Nat → Nat} {d : Nat} {Q : Option Value → Wm → Prop} {m : Wm} {b0 : Nat} {x1 x2 : Int32} (hb0 : St b0) (h : AW ad E0 μX8_sum (d + 1) Q 26 [(0, .ref (ad b0)), (3, .int (0 : Int32)), (4, .int (if (32 : Int32) < ((x1 * (4 : Int32)) + x2) then (32 : Int32) else ((x1 * (4 : Int32)) + x2))), (5, .int ((if x1 < (0 : Int32) then (0 : Int32) else x1) * (4 : Int32)))] [] m) : Ct ad μX8_sum (d + 1) [.ref (ad b0), .int x1, .int x2] m Q := by
  refine Ct.of (by decide +kernel) rfl (Nat.le_of_ble_eq_true rfl) ?_
  refine aw_eq (L' := [(0, .ref (ad b0)), (1, .int x1), (2, .int x2)]) ?_ rfl rfl rfl
  refine aw_iconst (v := 0) dX8_sum_0 (by decide) ?_
  refine aw_istore_n (L' := [(3, .int (0 : Int32)), (0, .ref (ad b0)), (1, .int x1), (2, .int x2)]) dX8_sum_1 rfl (by decide) rfl ?_
  refine aw_iload_n (j := 2) dX8_sum_2 rfl rfl ?_
  refine aw_iconst (v := 4) dX8_sum_3 (by decide) ?_
  refine aw_imul dX8_sum_4 ?_
  refine aw_iload_n (j := 3) dX8_sum_5 rfl rfl ?_
  refine aw_iadd dX8_sum_6 ?_
  refine aw_aload_n (j := 1) dX8_sum_7 rfl rfl ?_
  refine aw_getfield (c := b0 + 1 + 3) (v := .ref (ad (b0 + 1))) dX8_sum_8 f_X8_9 hb0.1 rfl rfl ?_
  refine aw_alen0 (v := (32 : Int32)) dX8_sum_11 hb0.2.1 (by decide) ?_
  refine aw_min dX8_sum_12 k_X8_28 (Nat.le_of_ble_eq_true rfl) ?_
  refine aw_istore (L' := [(4, .int (if (32 : Int32) < ((x1 * (4 : Int32)) + x2) then (32 : Int32) else ((x1 * (4 : Int32)) + x2))), (3, .int (0 : Int32)), (0, .ref (ad b0)), (1, .int x1), (2, .int x2)]) dX8_sum_15 (by decide) rfl ?_
  refine aw_iload_n (j := 3) dX8_sum_17 rfl rfl ?_
  refine aw_iconst (v := 0) dX8_sum_18 (by decide) ?_
  refine aw_max dX8_sum_19 k_X8_34 (Nat.le_of_ble_eq_true rfl) ?_
  refine aw_iconst (v := 4) dX8_sum_22 (by decide) ?_
  refine aw_imul dX8_sum_23 ?_
  refine aw_istore (L' := [(5, .int ((if x1 < (0 : Int32) then (0 : Int32) else x1) * (4 : Int32))), (4, .int (if (32 : Int32) < ((x1 * (4 : Int32)) + x2) then (32 : Int32) else ((x1 * (4 : Int32)) + x2))), (3, .int (0 : Int32)), (0, .ref (ad b0)), (1, .int x1), (2, .int x2)]) dX8_sum_24 (by decide) rfl ?_
  exact aw_sub [3, 2, 1, 0] rfl h
set_option maxRecDepth 100000 in
set_option maxHeartbeats 4000000 in
theorem g_X8_sum_26 {ad : Nat → Nat} {d : Nat} {Q : Option Value → Wm → Prop} {m : Wm} {b0 : Nat} {x3 x4 x5 : Int32} (hb0 : St b0) (h : ((x4 ≤ x5 → Q (some (.int x3)) m) ∧ (¬ x4 ≤ x5 → (vp_in x5 32 ∧ AW ad E0 μX8_sum (d + 1) Q 26 [(0, .ref (ad b0)), (3, .int (x3 + (m.1 (b0 + 1) x5.toNatClampNeg))), (4, .int x4), (5, .int (x5 + (1 : Int32)))] [] m)))) : AW ad E0 μX8_sum (d + 1) Q 26 [(0, .ref (ad b0)), (3, .int x3), (4, .int x4), (5, .int x5)] [] m := by
  refine aw_iload (j := 3) dX8_sum_26 rfl ?_
  refine aw_iload (j := 2) dX8_sum_28 rfl ?_
  refine aw_icmp_ge (tgt := 49) dX8_sum_30 (by decide) (fun hc => ?_) (fun hc => ?_)
  · have h := h.1 hc
    refine aw_iload_n (j := 1) dX8_sum_49 rfl rfl ?_
    exact aw_ret (v := some (.int x3)) rfl (Or.inr (Or.inl ⟨_, .int, rfl, rfl, rfl, dX8_sum_50⟩)) h
  · have h := h.2 hc
    refine aw_iload_n (j := 1) dX8_sum_33 rfl rfl ?_
    refine aw_aload_n (j := 0) dX8_sum_34 rfl rfl ?_
    refine aw_getfield (c := b0 + 1 + 3) (v := .ref (ad (b0 + 1))) dX8_sum_35 f_X8_9 hb0.1 rfl rfl ?_
    refine aw_iload (j := 3) dX8_sum_38 rfl ?_
    obtain ⟨hi, h⟩ := h
    refine aw_iaload dX8_sum_40 hb0.2.1 hi ?_
    refine aw_iadd dX8_sum_41 ?_
    refine aw_istore_n (L' := [(3, .int (x3 + (m.1 (b0 + 1) x5.toNatClampNeg))), (0, .ref (ad b0)), (4, .int x4), (5, .int x5)]) dX8_sum_42 rfl (by decide) rfl ?_
    refine aw_iinc (j := 3) (v := x5 + (1 : Int32)) (L' := [(5, .int (x5 + (1 : Int32))), (3, .int (x3 + (m.1 (b0 + 1) x5.toNatClampNeg))), (0, .ref (ad b0)), (4, .int x4)]) dX8_sum_43 rfl rfl (by decide) rfl ?_
    refine aw_goto (tgt := 26) dX8_sum_46 (by decide) ?_
    exact aw_sub [2, 1, 3, 0] rfl h
set_option maxRecDepth 100000 in
set_option maxHeartbeats 4000000 in
theorem v_X8_greatest {ad : Nat → Nat} {d : Nat} {Q : Option Value → Wm → Prop} {m : Wm} {b0 : Nat} {x1 x2 : Int32} (hb0 : St b0) (h : AW ad E0 μX8_greatest (d + 1) Q 26 [(0, .ref (ad b0)), (3, .int (0 : Int32)), (4, .int (if (32 : Int32) < ((x1 * (4 : Int32)) + x2) then (32 : Int32) else ((x1 * (4 : Int32)) + x2))), (5, .int ((if x1 < (0 : Int32) then (0 : Int32) else x1) * (4 : Int32)))] [] m) : Ct ad μX8_greatest (d + 1) [.ref (ad b0), .int x1, .int x2] m Q := by
  refine Ct.of (by decide +kernel) rfl (Nat.le_of_ble_eq_true rfl) ?_
  refine aw_eq (L' := [(0, .ref (ad b0)), (1, .int x1), (2, .int x2)]) ?_ rfl rfl rfl
  refine aw_iconst (v := 0) dX8_greatest_0 (by decide) ?_
  refine aw_istore_n (L' := [(3, .int (0 : Int32)), (0, .ref (ad b0)), (1, .int x1), (2, .int x2)]) dX8_greatest_1 rfl (by decide) rfl ?_
  refine aw_iload_n (j := 2) dX8_greatest_2 rfl rfl ?_
  refine aw_iconst (v := 4) dX8_greatest_3 (by decide) ?_
  refine aw_imul dX8_greatest_4 ?_
  refine aw_iload_n (j := 3) dX8_greatest_5 rfl rfl ?_
  refine aw_iadd dX8_greatest_6 ?_
  refine aw_aload_n (j := 1) dX8_greatest_7 rfl rfl ?_
  refine aw_getfield (c := b0 + 1 + 3) (v := .ref (ad (b0 + 1))) dX8_greatest_8 f_X8_9 hb0.1 rfl rfl ?_
  refine aw_alen0 (v := (32 : Int32)) dX8_greatest_11 hb0.2.1 (by decide) ?_
  refine aw_min dX8_greatest_12 k_X8_28 (Nat.le_of_ble_eq_true rfl) ?_
  refine aw_istore (L' := [(4, .int (if (32 : Int32) < ((x1 * (4 : Int32)) + x2) then (32 : Int32) else ((x1 * (4 : Int32)) + x2))), (3, .int (0 : Int32)), (0, .ref (ad b0)), (1, .int x1), (2, .int x2)]) dX8_greatest_15 (by decide) rfl ?_
  refine aw_iload_n (j := 3) dX8_greatest_17 rfl rfl ?_
  refine aw_iconst (v := 0) dX8_greatest_18 (by decide) ?_
  refine aw_max dX8_greatest_19 k_X8_34 (Nat.le_of_ble_eq_true rfl) ?_
  refine aw_iconst (v := 4) dX8_greatest_22 (by decide) ?_
  refine aw_imul dX8_greatest_23 ?_
  refine aw_istore (L' := [(5, .int ((if x1 < (0 : Int32) then (0 : Int32) else x1) * (4 : Int32))), (4, .int (if (32 : Int32) < ((x1 * (4 : Int32)) + x2) then (32 : Int32) else ((x1 * (4 : Int32)) + x2))), (3, .int (0 : Int32)), (0, .ref (ad b0)), (1, .int x1), (2, .int x2)]) dX8_greatest_24 (by decide) rfl ?_
  exact aw_sub [3, 2, 1, 0] rfl h
set_option maxRecDepth 100000 in
set_option maxHeartbeats 4000000 in
theorem g_X8_greatest_26 {ad : Nat → Nat} {d : Nat} {Q : Option Value → Wm → Prop} {m : Wm} {b0 : Nat} {x3 x4 x5 : Int32} (hb0 : St b0) (h : ((x4 ≤ x5 → Q (some (.int x3)) m) ∧ (¬ x4 ≤ x5 → (vp_in x5 32 ∧ AW ad E0 μX8_greatest (d + 1) Q 26 [(0, .ref (ad b0)), (3, .int (if x3 < (m.1 (b0 + 1) x5.toNatClampNeg) then (m.1 (b0 + 1) x5.toNatClampNeg) else x3)), (4, .int x4), (5, .int (x5 + (1 : Int32)))] [] m)))) : AW ad E0 μX8_greatest (d + 1) Q 26 [(0, .ref (ad b0)), (3, .int x3), (4, .int x4), (5, .int x5)] [] m := by
  refine aw_iload (j := 3) dX8_greatest_26 rfl ?_
  refine aw_iload (j := 2) dX8_greatest_28 rfl ?_
  refine aw_icmp_ge (tgt := 51) dX8_greatest_30 (by decide) (fun hc => ?_) (fun hc => ?_)
  · have h := h.1 hc
    refine aw_iload_n (j := 1) dX8_greatest_51 rfl rfl ?_
    exact aw_ret (v := some (.int x3)) rfl (Or.inr (Or.inl ⟨_, .int, rfl, rfl, rfl, dX8_greatest_52⟩)) h
  · have h := h.2 hc
    refine aw_iload_n (j := 1) dX8_greatest_33 rfl rfl ?_
    refine aw_aload_n (j := 0) dX8_greatest_34 rfl rfl ?_
    refine aw_getfield (c := b0 + 1 + 3) (v := .ref (ad (b0 + 1))) dX8_greatest_35 f_X8_9 hb0.1 rfl rfl ?_
    refine aw_iload (j := 3) dX8_greatest_38 rfl ?_
    obtain ⟨hi, h⟩ := h
    refine aw_iaload dX8_greatest_40 hb0.2.1 hi ?_
    refine aw_max dX8_greatest_41 k_X8_34 (Nat.le_of_ble_eq_true rfl) ?_
    refine aw_istore_n (L' := [(3, .int (if x3 < (m.1 (b0 + 1) x5.toNatClampNeg) then (m.1 (b0 + 1) x5.toNatClampNeg) else x3)), (0, .ref (ad b0)), (4, .int x4), (5, .int x5)]) dX8_greatest_44 rfl (by decide) rfl ?_
    refine aw_iinc (j := 3) (v := x5 + (1 : Int32)) (L' := [(5, .int (x5 + (1 : Int32))), (3, .int (if x3 < (m.1 (b0 + 1) x5.toNatClampNeg) then (m.1 (b0 + 1) x5.toNatClampNeg) else x3)), (0, .ref (ad b0)), (4, .int x4)]) dX8_greatest_45 rfl rfl (by decide) rfl ?_
    refine aw_goto (tgt := 26) dX8_greatest_48 (by decide) ?_
    exact aw_sub [2, 1, 3, 0] rfl h
set_option maxRecDepth 100000 in
set_option maxHeartbeats 4000000 in
theorem v_X8_least {ad : Nat → Nat} {d : Nat} {Q : Option Value → Wm → Prop} {m : Wm} {b0 : Nat} {x1 x2 : Int32} (hb0 : St b0) (h : AW ad E0 μX8_least (d + 1) Q 27 [(0, .ref (ad b0)), (3, .int (7 : Int32)), (4, .int (if (32 : Int32) < ((x1 * (4 : Int32)) + x2) then (32 : Int32) else ((x1 * (4 : Int32)) + x2))), (5, .int ((if x1 < (0 : Int32) then (0 : Int32) else x1) * (4 : Int32)))] [] m) : Ct ad μX8_least (d + 1) [.ref (ad b0), .int x1, .int x2] m Q := by
  refine Ct.of (by decide +kernel) rfl (Nat.le_of_ble_eq_true rfl) ?_
  refine aw_eq (L' := [(0, .ref (ad b0)), (1, .int x1), (2, .int x2)]) ?_ rfl rfl rfl
  refine aw_bipush (v := 7) dX8_least_0 (by decide) ?_
  refine aw_istore_n (L' := [(3, .int (7 : Int32)), (0, .ref (ad b0)), (1, .int x1), (2, .int x2)]) dX8_least_2 rfl (by decide) rfl ?_
  refine aw_iload_n (j := 2) dX8_least_3 rfl rfl ?_
  refine aw_iconst (v := 4) dX8_least_4 (by decide) ?_
  refine aw_imul dX8_least_5 ?_
  refine aw_iload_n (j := 3) dX8_least_6 rfl rfl ?_
  refine aw_iadd dX8_least_7 ?_
  refine aw_aload_n (j := 1) dX8_least_8 rfl rfl ?_
  refine aw_getfield (c := b0 + 1 + 3) (v := .ref (ad (b0 + 1))) dX8_least_9 f_X8_9 hb0.1 rfl rfl ?_
  refine aw_alen0 (v := (32 : Int32)) dX8_least_12 hb0.2.1 (by decide) ?_
  refine aw_min dX8_least_13 k_X8_28 (Nat.le_of_ble_eq_true rfl) ?_
  refine aw_istore (L' := [(4, .int (if (32 : Int32) < ((x1 * (4 : Int32)) + x2) then (32 : Int32) else ((x1 * (4 : Int32)) + x2))), (3, .int (7 : Int32)), (0, .ref (ad b0)), (1, .int x1), (2, .int x2)]) dX8_least_16 (by decide) rfl ?_
  refine aw_iload_n (j := 3) dX8_least_18 rfl rfl ?_
  refine aw_iconst (v := 0) dX8_least_19 (by decide) ?_
  refine aw_max dX8_least_20 k_X8_34 (Nat.le_of_ble_eq_true rfl) ?_
  refine aw_iconst (v := 4) dX8_least_23 (by decide) ?_
  refine aw_imul dX8_least_24 ?_
  refine aw_istore (L' := [(5, .int ((if x1 < (0 : Int32) then (0 : Int32) else x1) * (4 : Int32))), (4, .int (if (32 : Int32) < ((x1 * (4 : Int32)) + x2) then (32 : Int32) else ((x1 * (4 : Int32)) + x2))), (3, .int (7 : Int32)), (0, .ref (ad b0)), (1, .int x1), (2, .int x2)]) dX8_least_25 (by decide) rfl ?_
  exact aw_sub [3, 2, 1, 0] rfl h
set_option maxRecDepth 100000 in
set_option maxHeartbeats 4000000 in
theorem g_X8_least_27 {ad : Nat → Nat} {d : Nat} {Q : Option Value → Wm → Prop} {m : Wm} {b0 : Nat} {x3 x4 x5 : Int32} (hb0 : St b0) (h : ((x4 ≤ x5 → Q (some (.int x3)) m) ∧ (¬ x4 ≤ x5 → (vp_in x5 32 ∧ AW ad E0 μX8_least (d + 1) Q 27 [(0, .ref (ad b0)), (3, .int (if (m.1 (b0 + 1) x5.toNatClampNeg) < x3 then (m.1 (b0 + 1) x5.toNatClampNeg) else x3)), (4, .int x4), (5, .int (x5 + (1 : Int32)))] [] m)))) : AW ad E0 μX8_least (d + 1) Q 27 [(0, .ref (ad b0)), (3, .int x3), (4, .int x4), (5, .int x5)] [] m := by
  refine aw_iload (j := 3) dX8_least_27 rfl ?_
  refine aw_iload (j := 2) dX8_least_29 rfl ?_
  refine aw_icmp_ge (tgt := 52) dX8_least_31 (by decide) (fun hc => ?_) (fun hc => ?_)
  · have h := h.1 hc
    refine aw_iload_n (j := 1) dX8_least_52 rfl rfl ?_
    exact aw_ret (v := some (.int x3)) rfl (Or.inr (Or.inl ⟨_, .int, rfl, rfl, rfl, dX8_least_53⟩)) h
  · have h := h.2 hc
    refine aw_iload_n (j := 1) dX8_least_34 rfl rfl ?_
    refine aw_aload_n (j := 0) dX8_least_35 rfl rfl ?_
    refine aw_getfield (c := b0 + 1 + 3) (v := .ref (ad (b0 + 1))) dX8_least_36 f_X8_9 hb0.1 rfl rfl ?_
    refine aw_iload (j := 3) dX8_least_39 rfl ?_
    obtain ⟨hi, h⟩ := h
    refine aw_iaload dX8_least_41 hb0.2.1 hi ?_
    refine aw_min dX8_least_42 k_X8_28 (Nat.le_of_ble_eq_true rfl) ?_
    refine aw_istore_n (L' := [(3, .int (if (m.1 (b0 + 1) x5.toNatClampNeg) < x3 then (m.1 (b0 + 1) x5.toNatClampNeg) else x3)), (0, .ref (ad b0)), (4, .int x4), (5, .int x5)]) dX8_least_45 rfl (by decide) rfl ?_
    refine aw_iinc (j := 3) (v := x5 + (1 : Int32)) (L' := [(5, .int (x5 + (1 : Int32))), (3, .int (if (m.1 (b0 + 1) x5.toNatClampNeg) < x3 then (m.1 (b0 + 1) x5.toNatClampNeg) else x3)), (0, .ref (ad b0)), (4, .int x4)]) dX8_least_46 rfl rfl (by decide) rfl ?_
    refine aw_goto (tgt := 27) dX8_least_49 (by decide) ?_
    exact aw_sub [2, 1, 3, 0] rfl h
set_option maxRecDepth 100000 in
set_option maxHeartbeats 4000000 in
theorem v_X8_furthestArt {ad : Nat → Nat} {d : Nat} {Q : Option Value → Wm → Prop} {m : Wm} {b0 : Nat} {x1 x2 x3 : Int32} (hb0 : St b0) (h : AW ad E0 μX8_furthestArt (d + 1) Q 27 [(0, .ref (ad b0)), (3, .int x3), (4, .int (-1 : Int32)), (5, .int (0 : Int32)), (6, .int ((if x1 < (0 : Int32) then (0 : Int32) else x1) * (4 : Int32))), (7, .int ((if x2 < (0 : Int32) then (0 : Int32) else x2) * (4 : Int32))), (8, .int (0 : Int32))] [] m) : Ct ad μX8_furthestArt (d + 1) [.ref (ad b0), .int x1, .int x2, .int x3] m Q := by
  refine Ct.of (by decide +kernel) rfl (Nat.le_of_ble_eq_true rfl) ?_
  refine aw_eq (L' := [(0, .ref (ad b0)), (1, .int x1), (2, .int x2), (3, .int x3)]) ?_ rfl rfl rfl
  refine aw_iconst (v := -1) dX8_furthestArt_0 (by decide) ?_
  refine aw_istore (L' := [(4, .int (-1 : Int32)), (0, .ref (ad b0)), (1, .int x1), (2, .int x2), (3, .int x3)]) dX8_furthestArt_1 (by decide) rfl ?_
  refine aw_iconst (v := 0) dX8_furthestArt_3 (by decide) ?_
  refine aw_istore (L' := [(5, .int (0 : Int32)), (4, .int (-1 : Int32)), (0, .ref (ad b0)), (1, .int x1), (2, .int x2), (3, .int x3)]) dX8_furthestArt_4 (by decide) rfl ?_
  refine aw_iload_n (j := 3) dX8_furthestArt_6 rfl rfl ?_
  refine aw_iconst (v := 0) dX8_furthestArt_7 (by decide) ?_
  refine aw_max dX8_furthestArt_8 k_X8_34 (Nat.le_of_ble_eq_true rfl) ?_
  refine aw_iconst (v := 4) dX8_furthestArt_11 (by decide) ?_
  refine aw_imul dX8_furthestArt_12 ?_
  refine aw_istore (L' := [(6, .int ((if x1 < (0 : Int32) then (0 : Int32) else x1) * (4 : Int32))), (5, .int (0 : Int32)), (4, .int (-1 : Int32)), (0, .ref (ad b0)), (1, .int x1), (2, .int x2), (3, .int x3)]) dX8_furthestArt_13 (by decide) rfl ?_
  refine aw_iload_n (j := 5) dX8_furthestArt_15 rfl rfl ?_
  refine aw_iconst (v := 0) dX8_furthestArt_16 (by decide) ?_
  refine aw_max dX8_furthestArt_17 k_X8_34 (Nat.le_of_ble_eq_true rfl) ?_
  refine aw_iconst (v := 4) dX8_furthestArt_20 (by decide) ?_
  refine aw_imul dX8_furthestArt_21 ?_
  refine aw_istore (L' := [(7, .int ((if x2 < (0 : Int32) then (0 : Int32) else x2) * (4 : Int32))), (6, .int ((if x1 < (0 : Int32) then (0 : Int32) else x1) * (4 : Int32))), (5, .int (0 : Int32)), (4, .int (-1 : Int32)), (0, .ref (ad b0)), (1, .int x1), (2, .int x2), (3, .int x3)]) dX8_furthestArt_22 (by decide) rfl ?_
  refine aw_iconst (v := 0) dX8_furthestArt_24 (by decide) ?_
  refine aw_istore (L' := [(8, .int (0 : Int32)), (7, .int ((if x2 < (0 : Int32) then (0 : Int32) else x2) * (4 : Int32))), (6, .int ((if x1 < (0 : Int32) then (0 : Int32) else x1) * (4 : Int32))), (5, .int (0 : Int32)), (4, .int (-1 : Int32)), (0, .ref (ad b0)), (1, .int x1), (2, .int x2), (3, .int x3)]) dX8_furthestArt_25 (by decide) rfl ?_
  exact aw_sub [5, 8, 4, 3, 2, 1, 0] rfl h
set_option maxRecDepth 100000 in
set_option maxHeartbeats 4000000 in
theorem g_X8_furthestArt_27 {ad : Nat → Nat} {d : Nat} {Q : Option Value → Wm → Prop} {m : Wm} {b0 : Nat} {x3 x4 x5 x6 x7 x8 : Int32} (hb0 : St b0) (h : ((x3 ≤ x8 → Q (some (.int x4)) m) ∧ (¬ x3 ≤ x8 → (((32 : Int32) ≤ (x6 + x8) → Q (some (.int x4)) m) ∧ (¬ (32 : Int32) ≤ (x6 + x8) → (((32 : Int32) ≤ (x7 + x8) → Q (some (.int x4)) m) ∧ (¬ (32 : Int32) ≤ (x7 + x8) → (vp_in (x6 + x8) 32 ∧ (vp_in (x7 + x8) 32 ∧ ((((m.1 (b0 + 1) (x6 + x8).toNatClampNeg) - (m.1 (b0 + 1) (x7 + x8).toNatClampNeg)) ≤ x5 → AW ad E0 μX8_furthestArt (d + 1) Q 27 [(0, .ref (ad b0)), (3, .int x3), (4, .int x4), (5, .int x5), (6, .int x6), (7, .int x7), (8, .int (x8 + (1 : Int32)))] [] m) ∧ (¬ ((m.1 (b0 + 1) (x6 + x8).toNatClampNeg) - (m.1 (b0 + 1) (x7 + x8).toNatClampNeg)) ≤ x5 → AW ad E0 μX8_furthestArt (d + 1) Q 27 [(0, .ref (ad b0)), (3, .int x3), (4, .int x8), (5, .int ((m.1 (b0 + 1) (x6 + x8).toNatClampNeg) - (m.1 (b0 + 1) (x7 + x8).toNatClampNeg))), (6, .int x6), (7, .int x7), (8, .int (x8 + (1 : Int32)))] [] m))))))))))) : AW ad E0 μX8_furthestArt (d + 1) Q 27 [(0, .ref (ad b0)), (3, .int x3), (4, .int x4), (5, .int x5), (6, .int x6), (7, .int x7), (8, .int x8)] [] m := by
  refine aw_iload (j := 6) dX8_furthestArt_27 rfl ?_
  refine aw_iload_n (j := 1) dX8_furthestArt_29 rfl rfl ?_
  refine aw_icmp_ge (tgt := 103) dX8_furthestArt_30 (by decide) (fun hc => ?_) (fun hc => ?_)
  · have h := h.1 hc
    refine aw_iload (j := 2) dX8_furthestArt_103 rfl ?_
    exact aw_ret (v := some (.int x4)) rfl (Or.inr (Or.inl ⟨_, .int, rfl, rfl, rfl, dX8_furthestArt_105⟩)) h
  · have h := h.2 hc
    refine aw_iload (j := 4) dX8_furthestArt_33 rfl ?_
    refine aw_iload (j := 6) dX8_furthestArt_35 rfl ?_
    refine aw_iadd dX8_furthestArt_37 ?_
    refine aw_aload_n (j := 0) dX8_furthestArt_38 rfl rfl ?_
    refine aw_getfield (c := b0 + 1 + 3) (v := .ref (ad (b0 + 1))) dX8_furthestArt_39 f_X8_9 hb0.1 rfl rfl ?_
    refine aw_alen0 (v := (32 : Int32)) dX8_furthestArt_42 hb0.2.1 (by decide) ?_
    refine aw_icmp_ge (tgt := 103) dX8_furthestArt_43 (by decide) (fun hc => ?_) (fun hc => ?_)
    · have h := h.1 hc
      refine aw_iload (j := 2) dX8_furthestArt_103 rfl ?_
      exact aw_ret (v := some (.int x4)) rfl (Or.inr (Or.inl ⟨_, .int, rfl, rfl, rfl, dX8_furthestArt_105⟩)) h
    · have h := h.2 hc
      refine aw_iload (j := 5) dX8_furthestArt_46 rfl ?_
      refine aw_iload (j := 6) dX8_furthestArt_48 rfl ?_
      refine aw_iadd dX8_furthestArt_50 ?_
      refine aw_aload_n (j := 0) dX8_furthestArt_51 rfl rfl ?_
      refine aw_getfield (c := b0 + 1 + 3) (v := .ref (ad (b0 + 1))) dX8_furthestArt_52 f_X8_9 hb0.1 rfl rfl ?_
      refine aw_alen0 (v := (32 : Int32)) dX8_furthestArt_55 hb0.2.1 (by decide) ?_
      refine aw_icmp_ge (tgt := 103) dX8_furthestArt_56 (by decide) (fun hc => ?_) (fun hc => ?_)
      · have h := h.1 hc
        refine aw_iload (j := 2) dX8_furthestArt_103 rfl ?_
        exact aw_ret (v := some (.int x4)) rfl (Or.inr (Or.inl ⟨_, .int, rfl, rfl, rfl, dX8_furthestArt_105⟩)) h
      · have h := h.2 hc
        refine aw_aload_n (j := 0) dX8_furthestArt_59 rfl rfl ?_
        refine aw_getfield (c := b0 + 1 + 3) (v := .ref (ad (b0 + 1))) dX8_furthestArt_60 f_X8_9 hb0.1 rfl rfl ?_
        refine aw_iload (j := 4) dX8_furthestArt_63 rfl ?_
        refine aw_iload (j := 6) dX8_furthestArt_65 rfl ?_
        refine aw_iadd dX8_furthestArt_67 ?_
        obtain ⟨hi, h⟩ := h
        refine aw_iaload dX8_furthestArt_68 hb0.2.1 hi ?_
        refine aw_aload_n (j := 0) dX8_furthestArt_69 rfl rfl ?_
        refine aw_getfield (c := b0 + 1 + 3) (v := .ref (ad (b0 + 1))) dX8_furthestArt_70 f_X8_9 hb0.1 rfl rfl ?_
        refine aw_iload (j := 5) dX8_furthestArt_73 rfl ?_
        refine aw_iload (j := 6) dX8_furthestArt_75 rfl ?_
        refine aw_iadd dX8_furthestArt_77 ?_
        obtain ⟨hi, h⟩ := h
        refine aw_iaload dX8_furthestArt_78 hb0.2.1 hi ?_
        refine aw_isub dX8_furthestArt_79 ?_
        refine aw_istore (L' := [(9, .int ((m.1 (b0 + 1) (x6 + x8).toNatClampNeg) - (m.1 (b0 + 1) (x7 + x8).toNatClampNeg))), (0, .ref (ad b0)), (3, .int x3), (4, .int x4), (5, .int x5), (6, .int x6), (7, .int x7), (8, .int x8)]) dX8_furthestArt_80 (by decide) rfl ?_
        refine aw_iload (j := 0) dX8_furthestArt_82 rfl ?_
        refine aw_iload (j := 4) dX8_furthestArt_84 rfl ?_
        refine aw_icmp_le (tgt := 97) dX8_furthestArt_86 (by decide) (fun hc => ?_) (fun hc => ?_)
        · have h := h.1 hc
          refine aw_iinc (j := 7) (v := x8 + (1 : Int32)) (L' := [(8, .int (x8 + (1 : Int32))), (9, .int ((m.1 (b0 + 1) (x6 + x8).toNatClampNeg) - (m.1 (b0 + 1) (x7 + x8).toNatClampNeg))), (0, .ref (ad b0)), (3, .int x3), (4, .int x4), (5, .int x5), (6, .int x6), (7, .int x7)]) dX8_furthestArt_97 rfl rfl (by decide) rfl ?_
          refine aw_goto (tgt := 27) dX8_furthestArt_100 (by decide) ?_
          exact aw_sub [2, 3, 4, 5, 6, 7, 0] rfl h
        · have h := h.2 hc
          refine aw_iload (j := 0) dX8_furthestArt_89 rfl ?_
          refine aw_istore (L' := [(5, .int ((m.1 (b0 + 1) (x6 + x8).toNatClampNeg) - (m.1 (b0 + 1) (x7 + x8).toNatClampNeg))), (9, .int ((m.1 (b0 + 1) (x6 + x8).toNatClampNeg) - (m.1 (b0 + 1) (x7 + x8).toNatClampNeg))), (0, .ref (ad b0)), (3, .int x3), (4, .int x4), (6, .int x6), (7, .int x7), (8, .int x8)]) dX8_furthestArt_91 (by decide) rfl ?_
          refine aw_iload (j := 7) dX8_furthestArt_93 rfl ?_
          refine aw_istore (L' := [(4, .int x8), (5, .int ((m.1 (b0 + 1) (x6 + x8).toNatClampNeg) - (m.1 (b0 + 1) (x7 + x8).toNatClampNeg))), (9, .int ((m.1 (b0 + 1) (x6 + x8).toNatClampNeg) - (m.1 (b0 + 1) (x7 + x8).toNatClampNeg))), (0, .ref (ad b0)), (3, .int x3), (6, .int x6), (7, .int x7), (8, .int x8)]) dX8_furthestArt_95 (by decide) rfl ?_
          refine aw_iinc (j := 7) (v := x8 + (1 : Int32)) (L' := [(8, .int (x8 + (1 : Int32))), (4, .int x8), (5, .int ((m.1 (b0 + 1) (x6 + x8).toNatClampNeg) - (m.1 (b0 + 1) (x7 + x8).toNatClampNeg))), (9, .int ((m.1 (b0 + 1) (x6 + x8).toNatClampNeg) - (m.1 (b0 + 1) (x7 + x8).toNatClampNeg))), (0, .ref (ad b0)), (3, .int x3), (6, .int x6), (7, .int x7)]) dX8_furthestArt_97 rfl rfl (by decide) rfl ?_
          refine aw_goto (tgt := 27) dX8_furthestArt_100 (by decide) ?_
          exact aw_sub [4, 5, 1, 2, 6, 7, 0] rfl h
set_option maxRecDepth 100000 in
set_option maxHeartbeats 4000000 in
theorem v_X8_copy {ad : Nat → Nat} {d : Nat} {Q : Option Value → Wm → Prop} {m : Wm} {b0 b1 : Nat} (hb0 : St b0) (hb1 : St b1) (h : (¬ (0 : Int32) < 0 ∧ ¬ (0 : Int32) < 0 ∧ ¬ (32 : Int32) < 0 ∧ (0 : Int32).toNatClampNeg + (32 : Int32).toNatClampNeg ≤ 32 ∧ (0 : Int32).toNatClampNeg + (32 : Int32).toNatClampNeg ≤ 32 ∧ (¬ (0 : Int32) < 0 ∧ ¬ (0 : Int32) < 0 ∧ ¬ (8 : Int32) < 0 ∧ (0 : Int32).toNatClampNeg + (8 : Int32).toNatClampNeg ≤ 8 ∧ (0 : Int32).toNatClampNeg + (8 : Int32).toNatClampNeg ≤ 8 ∧ (¬ (0 : Int32) < 0 ∧ ¬ (0 : Int32) < 0 ∧ ¬ (8 : Int32) < 0 ∧ (0 : Int32).toNatClampNeg + (8 : Int32).toNatClampNeg ≤ 8 ∧ (0 : Int32).toNatClampNeg + (8 : Int32).toNatClampNeg ≤ 8 ∧ (¬ (0 : Int32) < 0 ∧ ¬ (0 : Int32) < 0 ∧ ¬ (8 : Int32) < 0 ∧ (0 : Int32).toNatClampNeg + (8 : Int32).toNatClampNeg ≤ 8 ∧ (0 : Int32).toNatClampNeg + (8 : Int32).toNatClampNeg ≤ 8 ∧ Q none (uI (uC (uC (uC (uC m (b1 + 1) (b0 + 1) (0 : Int32).toNatClampNeg (0 : Int32).toNatClampNeg (32 : Int32).toNatClampNeg) (b1 + 2) (b0 + 2) (0 : Int32).toNatClampNeg (0 : Int32).toNatClampNeg (8 : Int32).toNatClampNeg) (b1 + 3) (b0 + 3) (0 : Int32).toNatClampNeg (0 : Int32).toNatClampNeg (8 : Int32).toNatClampNeg) (b1 + 4) (b0 + 4) (0 : Int32).toNatClampNeg (0 : Int32).toNatClampNeg (8 : Int32).toNatClampNeg) b0 4 ((uC (uC (uC (uC m (b1 + 1) (b0 + 1) (0 : Int32).toNatClampNeg (0 : Int32).toNatClampNeg (32 : Int32).toNatClampNeg) (b1 + 2) (b0 + 2) (0 : Int32).toNatClampNeg (0 : Int32).toNatClampNeg (8 : Int32).toNatClampNeg) (b1 + 3) (b0 + 3) (0 : Int32).toNatClampNeg (0 : Int32).toNatClampNeg (8 : Int32).toNatClampNeg) (b1 + 4) (b0 + 4) (0 : Int32).toNatClampNeg (0 : Int32).toNatClampNeg (8 : Int32).toNatClampNeg).1 b1 4))))))) : Ct ad μX8_copy (d + 1) [.ref (ad b0), .ref (ad b1)] m Q := by
  refine Ct.of (by decide +kernel) rfl (Nat.le_of_ble_eq_true rfl) ?_
  refine aw_eq (L' := [(0, .ref (ad b0)), (1, .ref (ad b1))]) ?_ rfl rfl rfl
  refine aw_aload_n (j := 1) dX8_copy_0 rfl rfl ?_
  refine aw_getfield (c := b1 + 1 + 3) (v := .ref (ad (b1 + 1))) dX8_copy_1 f_X8_9 hb1.1 rfl rfl ?_
  refine aw_iconst (v := 0) dX8_copy_4 (by decide) ?_
  refine aw_aload_n (j := 0) dX8_copy_5 rfl rfl ?_
  refine aw_getfield (c := b0 + 1 + 3) (v := .ref (ad (b0 + 1))) dX8_copy_6 f_X8_9 hb0.1 rfl rfl ?_
  refine aw_iconst (v := 0) dX8_copy_9 (by decide) ?_
  refine aw_aload_n (j := 0) dX8_copy_10 rfl rfl ?_
  refine aw_getfield (c := b0 + 1 + 3) (v := .ref (ad (b0 + 1))) dX8_copy_11 f_X8_9 hb0.1 rfl rfl ?_
  refine aw_alen0 (v := (32 : Int32)) dX8_copy_14 hb0.2.1 (by decide) ?_
  obtain ⟨q1, q2, q3, q4, q5, h⟩ := h
  refine aw_copy dX8_copy_15 k_X8_37 hb1.2.1 hb0.2.1 q1 q2 q3 q4 q5 (Nat.le_of_ble_eq_true rfl) ?_
  refine aw_aload_n (j := 1) dX8_copy_18 rfl rfl ?_
  refine aw_getfield (c := b1 + 2 + 3) (v := .ref (ad (b1 + 2))) dX8_copy_19 f_X8_15 hb1.1 rfl rfl ?_
  refine aw_iconst (v := 0) dX8_copy_22 (by decide) ?_
  refine aw_aload_n (j := 0) dX8_copy_23 rfl rfl ?_
  refine aw_getfield (c := b0 + 2 + 3) (v := .ref (ad (b0 + 2))) dX8_copy_24 f_X8_15 hb0.1 rfl rfl ?_
  refine aw_iconst (v := 0) dX8_copy_27 (by decide) ?_
  refine aw_bipush (v := 8) dX8_copy_28 (by decide) ?_
  obtain ⟨q1, q2, q3, q4, q5, h⟩ := h
  refine aw_copy dX8_copy_30 k_X8_37 hb1.2.2.1 hb0.2.2.1 q1 q2 q3 q4 q5 (Nat.le_of_ble_eq_true rfl) ?_
  refine aw_aload_n (j := 1) dX8_copy_33 rfl rfl ?_
  refine aw_getfield (c := b1 + 3 + 3) (v := .ref (ad (b1 + 3))) dX8_copy_34 f_X8_18 hb1.1 rfl rfl ?_
  refine aw_iconst (v := 0) dX8_copy_37 (by decide) ?_
  refine aw_aload_n (j := 0) dX8_copy_38 rfl rfl ?_
  refine aw_getfield (c := b0 + 3 + 3) (v := .ref (ad (b0 + 3))) dX8_copy_39 f_X8_18 hb0.1 rfl rfl ?_
  refine aw_iconst (v := 0) dX8_copy_42 (by decide) ?_
  refine aw_bipush (v := 8) dX8_copy_43 (by decide) ?_
  obtain ⟨q1, q2, q3, q4, q5, h⟩ := h
  refine aw_copy dX8_copy_45 k_X8_37 hb1.2.2.2.1 hb0.2.2.2.1 q1 q2 q3 q4 q5 (Nat.le_of_ble_eq_true rfl) ?_
  refine aw_aload_n (j := 1) dX8_copy_48 rfl rfl ?_
  refine aw_getfield (c := b1 + 4 + 3) (v := .ref (ad (b1 + 4))) dX8_copy_49 f_X8_21 hb1.1 rfl rfl ?_
  refine aw_iconst (v := 0) dX8_copy_52 (by decide) ?_
  refine aw_aload_n (j := 0) dX8_copy_53 rfl rfl ?_
  refine aw_getfield (c := b0 + 4 + 3) (v := .ref (ad (b0 + 4))) dX8_copy_54 f_X8_21 hb0.1 rfl rfl ?_
  refine aw_iconst (v := 0) dX8_copy_57 (by decide) ?_
  refine aw_bipush (v := 8) dX8_copy_58 (by decide) ?_
  obtain ⟨q1, q2, q3, q4, q5, h⟩ := h
  refine aw_copy dX8_copy_60 k_X8_37 hb1.2.2.2.2 hb0.2.2.2.2 q1 q2 q3 q4 q5 (Nat.le_of_ble_eq_true rfl) ?_
  refine aw_aload_n (j := 0) dX8_copy_63 rfl rfl ?_
  refine aw_aload_n (j := 1) dX8_copy_64 rfl rfl ?_
  refine aw_getfield (c := 0) (v := .int ((uC (uC (uC (uC m (b1 + 1) (b0 + 1) (0 : Int32).toNatClampNeg (0 : Int32).toNatClampNeg (32 : Int32).toNatClampNeg) (b1 + 2) (b0 + 2) (0 : Int32).toNatClampNeg (0 : Int32).toNatClampNeg (8 : Int32).toNatClampNeg) (b1 + 3) (b0 + 3) (0 : Int32).toNatClampNeg (0 : Int32).toNatClampNeg (8 : Int32).toNatClampNeg) (b1 + 4) (b0 + 4) (0 : Int32).toNatClampNeg (0 : Int32).toNatClampNeg (8 : Int32).toNatClampNeg).1 b1 4)) dX8_copy_65 f_X8_24 hb1.1 rfl rfl ?_
  refine aw_putI dX8_copy_68 f_X8_24 cl_X8 rfl hb0.1 rfl rfl rfl ?_
  exact aw_ret (v := none) rfl (Or.inl ⟨rfl, rfl, dX8_copy_71⟩) h
set_option maxRecDepth 100000 in
set_option maxHeartbeats 4000000 in
theorem v_X8_copySkills {ad : Nat → Nat} {d : Nat} {Q : Option Value → Wm → Prop} {m : Wm} {b0 b1 : Nat} {x2 : Int32} (hb0 : St b0) (hb1 : St b1) (h : AW ad E0 μX8_copySkills (d + 1) Q 2 [(0, .ref (ad b0)), (1, .ref (ad b1)), (2, .int x2), (3, .int (0 : Int32))] [] m) : Ct ad μX8_copySkills (d + 1) [.ref (ad b0), .ref (ad b1), .int x2] m Q := by
  refine Ct.of (by decide +kernel) rfl (Nat.le_of_ble_eq_true rfl) ?_
  refine aw_eq (L' := [(0, .ref (ad b0)), (1, .ref (ad b1)), (2, .int x2)]) ?_ rfl rfl rfl
  refine aw_iconst (v := 0) dX8_copySkills_0 (by decide) ?_
  refine aw_istore_n (L' := [(3, .int (0 : Int32)), (0, .ref (ad b0)), (1, .ref (ad b1)), (2, .int x2)]) dX8_copySkills_1 rfl (by decide) rfl ?_
  exact aw_sub [1, 2, 3, 0] rfl h
set_option maxRecDepth 100000 in
set_option maxHeartbeats 4000000 in
theorem g_X8_copySkills_2 {ad : Nat → Nat} {d : Nat} {Q : Option Value → Wm → Prop} {m : Wm} {b0 b1 : Nat} {x2 x3 : Int32} (hb0 : St b0) (hb1 : St b1) (h : (((4 : Int32) ≤ x3 → Q none m) ∧ (¬ (4 : Int32) ≤ x3 → (Ct ad μX8_skillOf d [.ref (ad b1), .int x2, .int x3] m (fun r m1 => ∃ v2 : Int32, r = some (.int v2) ∧ (Ct ad μX8_putSkill d [.ref (ad b0), .int x2, .int x3, .int v2] m1 (fun r m3 => r = none ∧ AW ad E0 μX8_copySkills (d + 1) Q 2 [(0, .ref (ad b0)), (1, .ref (ad b1)), (2, .int x2), (3, .int (x3 + (1 : Int32)))] [] m3))))))) : AW ad E0 μX8_copySkills (d + 1) Q 2 [(0, .ref (ad b0)), (1, .ref (ad b1)), (2, .int x2), (3, .int x3)] [] m := by
  refine aw_iload_n (j := 3) dX8_copySkills_2 rfl rfl ?_
  refine aw_iconst (v := 4) dX8_copySkills_3 (by decide) ?_
  refine aw_icmp_ge (tgt := 25) dX8_copySkills_4 (by decide) (fun hc => ?_) (fun hc => ?_)
  · have h := h.1 hc
    exact aw_ret (v := none) rfl (Or.inl ⟨rfl, rfl, dX8_copySkills_25⟩) h
  · have h := h.2 hc
    refine aw_aload_n (j := 0) dX8_copySkills_7 rfl rfl ?_
    refine aw_iload_n (j := 2) dX8_copySkills_8 rfl rfl ?_
    refine aw_iload_n (j := 3) dX8_copySkills_9 rfl rfl ?_
    refine aw_aload_n (j := 1) dX8_copySkills_10 rfl rfl ?_
    refine aw_iload_n (j := 2) dX8_copySkills_11 rfl rfl ?_
    refine aw_iload_n (j := 3) dX8_copySkills_12 rfl rfl ?_
    refine aw_callV (rest := [.int x3, .int x2, .ref (ad b0)]) [.int x2, .int x3] dX8_copySkills_13 hb1.1 rfl k_X8_43 rfl h (Nat.le_of_ble_eq_true rfl) (fun v m1 h => ?_)
    obtain ⟨v2, rfl, h⟩ := h
    refine aw_eq (L' := [(0, .ref (ad b0)), (1, .ref (ad b1)), (2, .int x2), (3, .int x3)]) (st' := [.int v2, .int x3, .int x2, .ref (ad b0)]) (m' := m1) ?_ rfl rfl rfl
    refine aw_callV (rest := []) [.int x2, .int x3, .int v2] dX8_copySkills_16 hb0.1 rfl k_X8_46 rfl h (Nat.le_of_ble_eq_true rfl) (fun v m3 h => ?_)
    obtain ⟨rfl, h⟩ := h
    refine aw_eq (L' := [(0, .ref (ad b0)), (1, .ref (ad b1)), (2, .int x2), (3, .int x3)]) (st' := []) (m' := m3) ?_ rfl rfl rfl
    refine aw_iinc (j := 3) (v := x3 + (1 : Int32)) (L' := [(3, .int (x3 + (1 : Int32))), (0, .ref (ad b0)), (1, .ref (ad b1)), (2, .int x2)]) dX8_copySkills_19 rfl rfl (by decide) rfl ?_
    refine aw_goto (tgt := 2) dX8_copySkills_22 (by decide) ?_
    exact aw_sub [1, 2, 3, 0] rfl h
set_option maxRecDepth 100000 in
set_option maxHeartbeats 4000000 in
theorem v_X8_clearSide {ad : Nat → Nat} {d : Nat} {Q : Option Value → Wm → Prop} {m : Wm} {b0 : Nat} {x1 : Int32} (hb0 : St b0) (h : AW ad E0 μX8_clearSide (d + 1) Q 2 [(0, .ref (ad b0)), (1, .int x1), (2, .int (0 : Int32))] [] m) : Ct ad μX8_clearSide (d + 1) [.ref (ad b0), .int x1] m Q := by
  refine Ct.of (by decide +kernel) rfl (Nat.le_of_ble_eq_true rfl) ?_
  refine aw_eq (L' := [(0, .ref (ad b0)), (1, .int x1)]) ?_ rfl rfl rfl
  refine aw_iconst (v := 0) dX8_clearSide_0 (by decide) ?_
  refine aw_istore_n (L' := [(2, .int (0 : Int32)), (0, .ref (ad b0)), (1, .int x1)]) dX8_clearSide_1 rfl (by decide) rfl ?_
  exact aw_sub [1, 2, 0] rfl h
set_option maxRecDepth 100000 in
set_option maxHeartbeats 4000000 in
theorem g_X8_clearSide_2 {ad : Nat → Nat} {d : Nat} {Q : Option Value → Wm → Prop} {m : Wm} {b0 : Nat} {x1 x2 : Int32} (hb0 : St b0) (h : (((4 : Int32) ≤ x2 → (vp_in x1 8 ∧ (vp_in x1 8 ∧ (vp_in x1 8 ∧ Q none (uI (uI (uI m (b0 + 2) x1.toNatClampNeg (0 : Int32)) (b0 + 3) x1.toNatClampNeg (0 : Int32)) (b0 + 4) x1.toNatClampNeg (0 : Int32)))))) ∧ (¬ (4 : Int32) ≤ x2 → (Ct ad μX8_putSkill d [.ref (ad b0), .int x1, .int x2, .int (0 : Int32)] m (fun r m1 => r = none ∧ AW ad E0 μX8_clearSide (d + 1) Q 2 [(0, .ref (ad b0)), (1, .int x1), (2, .int (x2 + (1 : Int32)))] [] m1))))) : AW ad E0 μX8_clearSide (d + 1) Q 2 [(0, .ref (ad b0)), (1, .int x1), (2, .int x2)] [] m := by
  refine aw_iload_n (j := 2) dX8_clearSide_2 rfl rfl ?_
  refine aw_iconst (v := 4) dX8_clearSide_3 (by decide) ?_
  refine aw_icmp_ge (tgt := 20) dX8_clearSide_4 (by decide) (fun hc => ?_) (fun hc => ?_)
  · have h := h.1 hc
    refine aw_aload_n (j := 0) dX8_clearSide_20 rfl rfl ?_
    refine aw_getfield (c := b0 + 2 + 3) (v := .ref (ad (b0 + 2))) dX8_clearSide_21 f_X8_15 hb0.1 rfl rfl ?_
    refine aw_iload_n (j := 1) dX8_clearSide_24 rfl rfl ?_
    refine aw_iconst (v := 0) dX8_clearSide_25 (by decide) ?_
    obtain ⟨hi, h⟩ := h
    refine aw_iastore dX8_clearSide_26 hb0.2.2.1 hi ?_
    refine aw_aload_n (j := 0) dX8_clearSide_27 rfl rfl ?_
    refine aw_getfield (c := b0 + 3 + 3) (v := .ref (ad (b0 + 3))) dX8_clearSide_28 f_X8_18 hb0.1 rfl rfl ?_
    refine aw_iload_n (j := 1) dX8_clearSide_31 rfl rfl ?_
    refine aw_iconst (v := 0) dX8_clearSide_32 (by decide) ?_
    obtain ⟨hi, h⟩ := h
    refine aw_iastore dX8_clearSide_33 hb0.2.2.2.1 hi ?_
    refine aw_aload_n (j := 0) dX8_clearSide_34 rfl rfl ?_
    refine aw_getfield (c := b0 + 4 + 3) (v := .ref (ad (b0 + 4))) dX8_clearSide_35 f_X8_21 hb0.1 rfl rfl ?_
    refine aw_iload_n (j := 1) dX8_clearSide_38 rfl rfl ?_
    refine aw_iconst (v := 0) dX8_clearSide_39 (by decide) ?_
    obtain ⟨hi, h⟩ := h
    refine aw_iastore dX8_clearSide_40 hb0.2.2.2.2 hi ?_
    exact aw_ret (v := none) rfl (Or.inl ⟨rfl, rfl, dX8_clearSide_41⟩) h
  · have h := h.2 hc
    refine aw_aload_n (j := 0) dX8_clearSide_7 rfl rfl ?_
    refine aw_iload_n (j := 1) dX8_clearSide_8 rfl rfl ?_
    refine aw_iload_n (j := 2) dX8_clearSide_9 rfl rfl ?_
    refine aw_iconst (v := 0) dX8_clearSide_10 (by decide) ?_
    refine aw_callV (rest := []) [.int x1, .int x2, .int (0 : Int32)] dX8_clearSide_11 hb0.1 rfl k_X8_46 rfl h (Nat.le_of_ble_eq_true rfl) (fun v m1 h => ?_)
    obtain ⟨rfl, h⟩ := h
    refine aw_eq (L' := [(0, .ref (ad b0)), (1, .int x1), (2, .int x2)]) (st' := []) (m' := m1) ?_ rfl rfl rfl
    refine aw_iinc (j := 2) (v := x2 + (1 : Int32)) (L' := [(2, .int (x2 + (1 : Int32))), (0, .ref (ad b0)), (1, .int x1)]) dX8_clearSide_14 rfl rfl (by decide) rfl ?_
    refine aw_goto (tgt := 2) dX8_clearSide_17 (by decide) ?_
    exact aw_sub [1, 2, 0] rfl h
set_option maxRecDepth 100000 in
set_option maxHeartbeats 4000000 in
theorem v_X9_clear {ad : Nat → Nat} {d : Nat} {Q : Option Value → Wm → Prop} {m : Wm} (h : AW ad E0 μX9_clear d Q 2 [(0, .ref (ad 151)), (1, .int (0 : Int32))] [] m) : Ct ad μX9_clear d [.ref (ad 151)] m Q := by
  refine Ct.of (by decide +kernel) rfl (Nat.le_of_ble_eq_true rfl) ?_
  refine aw_eq (L' := [(0, .ref (ad 151))]) ?_ rfl rfl rfl
  refine aw_iconst (v := 0) dX9_clear_0 (by decide) ?_
  refine aw_istore_n (L' := [(1, .int (0 : Int32)), (0, .ref (ad 151))]) dX9_clear_1 rfl (by decide) rfl ?_
  exact aw_sub [1, 0] rfl h
set_option maxRecDepth 100000 in
set_option maxHeartbeats 4000000 in
theorem g_X9_clear_2 {ad : Nat → Nat} {d : Nat} {Q : Option Value → Wm → Prop} {m : Wm} {x1 : Int32} (h : (((m.1 151 4) ≤ x1 → Q none (uI m 151 4 (0 : Int32))) ∧ (¬ (m.1 151 4) ≤ x1 → (vp_in x1 3000 ∧ (vp_in (m.1 155 x1.toNatClampNeg) 8192 ∧ AW ad E0 μX9_clear d Q 2 [(0, .ref (ad 151)), (1, .int (x1 + (1 : Int32)))] [] (uI m 154 (m.1 155 x1.toNatClampNeg).toNatClampNeg (0 : Int32))))))) : AW ad E0 μX9_clear d Q 2 [(0, .ref (ad 151)), (1, .int x1)] [] m := by
  refine aw_iload_n (j := 1) dX9_clear_2 rfl rfl ?_
  refine aw_aload_n (j := 0) dX9_clear_3 rfl rfl ?_
  refine aw_getfield (c := 0) (v := .int (m.1 151 4)) dX9_clear_4 f_X9_25 ly_151 rfl rfl ?_
  refine aw_icmp_ge (tgt := 28) dX9_clear_7 (by decide) (fun hc => ?_) (fun hc => ?_)
  · have h := h.1 hc
    refine aw_aload_n (j := 0) dX9_clear_28 rfl rfl ?_
    refine aw_iconst (v := 0) dX9_clear_29 (by decide) ?_
    refine aw_putI dX9_clear_30 f_X9_25 cl_X9 rfl ly_151 rfl rfl rfl ?_
    exact aw_ret (v := none) rfl (Or.inl ⟨rfl, rfl, dX9_clear_33⟩) h
  · have h := h.2 hc
    refine aw_aload_n (j := 0) dX9_clear_10 rfl rfl ?_
    refine aw_getfield (c := 157) (v := .ref (ad 154)) dX9_clear_11 f_X9_18 ly_151 rfl rfl ?_
    refine aw_aload_n (j := 0) dX9_clear_14 rfl rfl ?_
    refine aw_getfield (c := 158) (v := .ref (ad 155)) dX9_clear_15 f_X9_22 ly_151 rfl rfl ?_
    refine aw_iload_n (j := 1) dX9_clear_18 rfl rfl ?_
    obtain ⟨hi, h⟩ := h
    refine aw_iaload dX9_clear_19 ly_155 hi ?_
    refine aw_iconst (v := 0) dX9_clear_20 (by decide) ?_
    obtain ⟨hi, h⟩ := h
    refine aw_iastore dX9_clear_21 ly_154 hi ?_
    refine aw_iinc (j := 1) (v := x1 + (1 : Int32)) (L' := [(1, .int (x1 + (1 : Int32))), (0, .ref (ad 151))]) dX9_clear_22 rfl rfl (by decide) rfl ?_
    refine aw_goto (tgt := 2) dX9_clear_25 (by decide) ?_
    exact aw_sub [1, 0] rfl h
set_option maxRecDepth 100000 in
set_option maxHeartbeats 4000000 in
theorem v_X9_put {ad : Nat → Nat} {d : Nat} {Q : Option Value → Wm → Prop} {m : Wm} {y1 y3 : Int64} (h : AW ad E0 μX9_put d Q 29 [(0, .ref (ad 151)), (1, .long y1), (3, .long y3), (5, .int ((((((y1 * (-7046029254386353131 : Int64)) ^^^ (y3 * (-4417276706812531889 : Int64))).toUInt64 >>> ((40 : Int32).toInt64.toUInt64 &&& Int64.toUInt64 63)).toInt64).toInt32) &&& (8191 : Int32))), (6, .int (0 : Int32))] [] (uI m 151 5 (0 : Int32))) : Ct ad μX9_put d [.ref (ad 151), .long y1, .long y3] m Q := by
  refine Ct.of (by decide +kernel) rfl (Nat.le_of_ble_eq_true rfl) ?_
  refine aw_eq (L' := [(0, .ref (ad 151)), (1, .long y1), (3, .long y3)]) ?_ rfl rfl rfl
  refine aw_lload_n (j := 1) dX9_put_0 rfl rfl ?_
  refine aw_ldc2 dX9_put_1 c_X9_33 ?_
  refine aw_lmul dX9_put_4 ?_
  refine aw_lload_n (j := 2) dX9_put_5 rfl rfl ?_
  refine aw_ldc2 dX9_put_6 c_X9_35 ?_
  refine aw_lmul dX9_put_9 ?_
  refine aw_lxor dX9_put_10 ?_
  refine aw_bipush (v := 40) dX9_put_11 (by decide) ?_
  refine aw_lushr dX9_put_13 ?_
  refine aw_l2i dX9_put_14 ?_
  refine aw_sipush (v := 8191) dX9_put_15 (by decide) ?_
  refine aw_iand dX9_put_18 ?_
  refine aw_istore (L' := [(5, .int ((((((y1 * (-7046029254386353131 : Int64)) ^^^ (y3 * (-4417276706812531889 : Int64))).toUInt64 >>> ((40 : Int32).toInt64.toUInt64 &&& Int64.toUInt64 63)).toInt64).toInt32) &&& (8191 : Int32))), (0, .ref (ad 151)), (1, .long y1), (3, .long y3)]) dX9_put_19 (by decide) rfl ?_
  refine aw_aload_n (j := 1) dX9_put_21 rfl rfl ?_
  refine aw_iconst (v := 0) dX9_put_22 (by decide) ?_
  refine aw_putI dX9_put_23 f_X9_29 cl_X9 rfl ly_151 rfl (by decide) (by decide) ?_
  refine aw_iconst (v := 0) dX9_put_26 (by decide) ?_
  refine aw_istore (L' := [(6, .int (0 : Int32)), (5, .int ((((((y1 * (-7046029254386353131 : Int64)) ^^^ (y3 * (-4417276706812531889 : Int64))).toUInt64 >>> ((40 : Int32).toInt64.toUInt64 &&& Int64.toUInt64 63)).toInt64).toInt32) &&& (8191 : Int32))), (0, .ref (ad 151)), (1, .long y1), (3, .long y3)]) dX9_put_27 (by decide) rfl ?_
  exact aw_sub [2, 3, 4, 1, 0] rfl h
set_option maxRecDepth 100000 in
set_option maxHeartbeats 4000000 in
theorem g_X9_put_29 {ad : Nat → Nat} {d : Nat} {Q : Option Value → Wm → Prop} {m : Wm} {x5 x6 : Int32} {y1 y3 : Int64} (h : (((8192 : Int32) ≤ x6 → AW ad E0 μX9_put d Q 101 [(0, .ref (ad 151)), (1, .long y1), (3, .long y3), (5, .int x5)] [] m) ∧ (¬ (8192 : Int32) ≤ x6 → (vp_in x5 8192 ∧ (((m.1 154 x5.toNatClampNeg) = 0 → AW ad E0 μX9_put d Q 101 [(0, .ref (ad 151)), (1, .long y1), (3, .long y3), (5, .int x5)] [] m) ∧ (¬ (m.1 154 x5.toNatClampNeg) = 0 → (vp_in x5 8192 ∧ (vp_in ((m.1 154 x5.toNatClampNeg) - (1 : Int32)) 3000 ∧ ((¬ (lg_cmp (m.2.1 152 ((m.1 154 x5.toNatClampNeg) - (1 : Int32)).toNatClampNeg) y1) = 0 → AW ad E0 μX9_put d Q 85 [(0, .ref (ad 151)), (1, .long y1), (3, .long y3), (5, .int x5), (6, .int x6)] [] m) ∧ ((lg_cmp (m.2.1 152 ((m.1 154 x5.toNatClampNeg) - (1 : Int32)).toNatClampNeg) y1) = 0 → (vp_in ((m.1 154 x5.toNatClampNeg) - (1 : Int32)) 3000 ∧ ((¬ (lg_cmp (m.2.1 153 ((m.1 154 x5.toNatClampNeg) - (1 : Int32)).toNatClampNeg) y3) = 0 → AW ad E0 μX9_put d Q 85 [(0, .ref (ad 151)), (1, .long y1), (3, .long y3), (5, .int x5), (6, .int x6)] [] m) ∧ ((lg_cmp (m.2.1 153 ((m.1 154 x5.toNatClampNeg) - (1 : Int32)).toNatClampNeg) y3) = 0 → Q (some (.int ((m.1 154 x5.toNatClampNeg) - (1 : Int32)))) m))))))))))))) : AW ad E0 μX9_put d Q 29 [(0, .ref (ad 151)), (1, .long y1), (3, .long y3), (5, .int x5), (6, .int x6)] [] m := by
  refine aw_iload (j := 4) dX9_put_29 rfl ?_
  refine aw_sipush (v := 8192) dX9_put_31 (by decide) ?_
  refine aw_icmp_ge (tgt := 101) dX9_put_34 (by decide) (fun hc => ?_) (fun hc => ?_)
  · have h := h.1 hc
    exact aw_sub [0, 1, 2, 3] rfl h
  · have h := h.2 hc
    refine aw_aload_n (j := 0) dX9_put_37 rfl rfl ?_
    refine aw_getfield (c := 157) (v := .ref (ad 154)) dX9_put_38 f_X9_18 ly_151 rfl rfl ?_
    refine aw_iload (j := 3) dX9_put_41 rfl ?_
    obtain ⟨hi, h⟩ := h
    refine aw_iaload dX9_put_43 ly_154 hi ?_
    refine aw_if_eq (tgt := 101) dX9_put_44 (by decide) (fun hc => ?_) (fun hc => ?_)
    · have h := h.1 hc
      exact aw_sub [0, 1, 2, 3] rfl h
    · have h := h.2 hc
      refine aw_aload_n (j := 0) dX9_put_47 rfl rfl ?_
      refine aw_getfield (c := 157) (v := .ref (ad 154)) dX9_put_48 f_X9_18 ly_151 rfl rfl ?_
      refine aw_iload (j := 3) dX9_put_51 rfl ?_
      obtain ⟨hi, h⟩ := h
      refine aw_iaload dX9_put_53 ly_154 hi ?_
      refine aw_iconst (v := 1) dX9_put_54 (by decide) ?_
      refine aw_isub dX9_put_55 ?_
      refine aw_istore (L' := [(7, .int ((m.1 154 x5.toNatClampNeg) - (1 : Int32))), (0, .ref (ad 151)), (1, .long y1), (3, .long y3), (5, .int x5), (6, .int x6)]) dX9_put_56 (by decide) rfl ?_
      refine aw_aload_n (j := 1) dX9_put_58 rfl rfl ?_
      refine aw_getfield (c := 155) (v := .ref (ad 152)) dX9_put_59 f_X9_11 ly_151 rfl rfl ?_
      refine aw_iload (j := 0) dX9_put_62 rfl ?_
      obtain ⟨hi, h⟩ := h
      refine aw_laload dX9_put_64 ly_152 hi ?_
      refine aw_lload_n (j := 2) dX9_put_65 rfl rfl ?_
      refine aw_lcmp dX9_put_66 ?_
      refine aw_if_ne (tgt := 85) dX9_put_67 (by decide) (fun hc => ?_) (fun hc => ?_)
      · have h := h.1 hc
        exact aw_sub [1, 2, 3, 4, 5] rfl h
      · have h := h.2 hc
        refine aw_aload_n (j := 1) dX9_put_70 rfl rfl ?_
        refine aw_getfield (c := 156) (v := .ref (ad 153)) dX9_put_71 f_X9_15 ly_151 rfl rfl ?_
        refine aw_iload (j := 0) dX9_put_74 rfl ?_
        obtain ⟨hi, h⟩ := h
        refine aw_laload dX9_put_76 ly_153 hi ?_
        refine aw_lload_n (j := 3) dX9_put_77 rfl rfl ?_
        refine aw_lcmp dX9_put_78 ?_
        refine aw_if_ne (tgt := 85) dX9_put_79 (by decide) (fun hc => ?_) (fun hc => ?_)
        · have h := h.1 hc
          exact aw_sub [1, 2, 3, 4, 5] rfl h
        · have h := h.2 hc
          refine aw_iload (j := 0) dX9_put_82 rfl ?_
          exact aw_ret (v := some (.int ((m.1 154 x5.toNatClampNeg) - (1 : Int32)))) rfl (Or.inr (Or.inl ⟨_, .int, rfl, rfl, rfl, dX9_put_84⟩)) h
set_option maxRecDepth 100000 in
set_option maxHeartbeats 4000000 in
theorem g_X9_put_85 {ad : Nat → Nat} {d : Nat} {Q : Option Value → Wm → Prop} {m : Wm} {x5 x6 : Int32} {y1 y3 : Int64} (h : AW ad E0 μX9_put d Q 29 [(0, .ref (ad 151)), (1, .long y1), (3, .long y3), (5, .int ((x5 + (1 : Int32)) &&& (8191 : Int32))), (6, .int (x6 + (1 : Int32)))] [] m) : AW ad E0 μX9_put d Q 85 [(0, .ref (ad 151)), (1, .long y1), (3, .long y3), (5, .int x5), (6, .int x6)] [] m := by
  refine aw_iload (j := 3) dX9_put_85 rfl ?_
  refine aw_iconst (v := 1) dX9_put_87 (by decide) ?_
  refine aw_iadd dX9_put_88 ?_
  refine aw_sipush (v := 8191) dX9_put_89 (by decide) ?_
  refine aw_iand dX9_put_92 ?_
  refine aw_istore (L' := [(5, .int ((x5 + (1 : Int32)) &&& (8191 : Int32))), (0, .ref (ad 151)), (1, .long y1), (3, .long y3), (6, .int x6)]) dX9_put_93 (by decide) rfl ?_
  refine aw_iinc (j := 4) (v := x6 + (1 : Int32)) (L' := [(6, .int (x6 + (1 : Int32))), (5, .int ((x5 + (1 : Int32)) &&& (8191 : Int32))), (0, .ref (ad 151)), (1, .long y1), (3, .long y3)]) dX9_put_95 rfl rfl (by decide) rfl ?_
  refine aw_goto (tgt := 29) dX9_put_98 (by decide) ?_
  exact aw_sub [2, 3, 4, 1, 0] rfl h
set_option maxRecDepth 100000 in
set_option maxHeartbeats 4000000 in
theorem g_X9_put_101 {ad : Nat → Nat} {d : Nat} {Q : Option Value → Wm → Prop} {m : Wm} {x5 : Int32} {y1 y3 : Int64} (h : (((m.1 151 4) < (3000 : Int32) → (vp_in (m.1 151 4) 3000 ∧ (vp_in ((uL m 152 (m.1 151 4).toNatClampNeg y1).1 151 4) 3000 ∧ (vp_in ((uL (uL m 152 (m.1 151 4).toNatClampNeg y1) 153 ((uL m 152 (m.1 151 4).toNatClampNeg y1).1 151 4).toNatClampNeg y3).1 151 4) 3000 ∧ (vp_in x5 8192 ∧ Q (some (.int (((uI (uI (uI (uI (uL (uL m 152 (m.1 151 4).toNatClampNeg y1) 153 ((uL m 152 (m.1 151 4).toNatClampNeg y1).1 151 4).toNatClampNeg y3) 155 ((uL (uL m 152 (m.1 151 4).toNatClampNeg y1) 153 ((uL m 152 (m.1 151 4).toNatClampNeg y1).1 151 4).toNatClampNeg y3).1 151 4).toNatClampNeg x5) 151 4 (((uI (uL (uL m 152 (m.1 151 4).toNatClampNeg y1) 153 ((uL m 152 (m.1 151 4).toNatClampNeg y1).1 151 4).toNatClampNeg y3) 155 ((uL (uL m 152 (m.1 151 4).toNatClampNeg y1) 153 ((uL m 152 (m.1 151 4).toNatClampNeg y1).1 151 4).toNatClampNeg y3).1 151 4).toNatClampNeg x5).1 151 4) + (1 : Int32))) 154 x5.toNatClampNeg ((uI (uI (uL (uL m 152 (m.1 151 4).toNatClampNeg y1) 153 ((uL m 152 (m.1 151 4).toNatClampNeg y1).1 151 4).toNatClampNeg y3) 155 ((uL (uL m 152 (m.1 151 4).toNatClampNeg y1) 153 ((uL m 152 (m.1 151 4).toNatClampNeg y1).1 151 4).toNatClampNeg y3).1 151 4).toNatClampNeg x5) 151 4 (((uI (uL (uL m 152 (m.1 151 4).toNatClampNeg y1) 153 ((uL m 152 (m.1 151 4).toNatClampNeg y1).1 151 4).toNatClampNeg y3) 155 ((uL (uL m 152 (m.1 151 4).toNatClampNeg y1) 153 ((uL m 152 (m.1 151 4).toNatClampNeg y1).1 151 4).toNatClampNeg y3).1 151 4).toNatClampNeg x5).1 151 4) + (1 : Int32))).1 151 4)) 151 5 (1 : Int32)).1 151 4) - (1 : Int32)))) (uI (uI (uI (uI (uL (uL m 152 (m.1 151 4).toNatClampNeg y1) 153 ((uL m 152 (m.1 151 4).toNatClampNeg y1).1 151 4).toNatClampNeg y3) 155 ((uL (uL m 152 (m.1 151 4).toNatClampNeg y1) 153 ((uL m 152 (m.1 151 4).toNatClampNeg y1).1 151 4).toNatClampNeg y3).1 151 4).toNatClampNeg x5) 151 4 (((uI (uL (uL m 152 (m.1 151 4).toNatClampNeg y1) 153 ((uL m 152 (m.1 151 4).toNatClampNeg y1).1 151 4).toNatClampNeg y3) 155 ((uL (uL m 152 (m.1 151 4).toNatClampNeg y1) 153 ((uL m 152 (m.1 151 4).toNatClampNeg y1).1 151 4).toNatClampNeg y3).1 151 4).toNatClampNeg x5).1 151 4) + (1 : Int32))) 154 x5.toNatClampNeg ((uI (uI (uL (uL m 152 (m.1 151 4).toNatClampNeg y1) 153 ((uL m 152 (m.1 151 4).toNatClampNeg y1).1 151 4).toNatClampNeg y3) 155 ((uL (uL m 152 (m.1 151 4).toNatClampNeg y1) 153 ((uL m 152 (m.1 151 4).toNatClampNeg y1).1 151 4).toNatClampNeg y3).1 151 4).toNatClampNeg x5) 151 4 (((uI (uL (uL m 152 (m.1 151 4).toNatClampNeg y1) 153 ((uL m 152 (m.1 151 4).toNatClampNeg y1).1 151 4).toNatClampNeg y3) 155 ((uL (uL m 152 (m.1 151 4).toNatClampNeg y1) 153 ((uL m 152 (m.1 151 4).toNatClampNeg y1).1 151 4).toNatClampNeg y3).1 151 4).toNatClampNeg x5).1 151 4) + (1 : Int32))).1 151 4)) 151 5 (1 : Int32))))))) ∧ (¬ (m.1 151 4) < (3000 : Int32) → Q (some (.int (-1 : Int32))) m))) : AW ad E0 μX9_put d Q 101 [(0, .ref (ad 151)), (1, .long y1), (3, .long y3), (5, .int x5)] [] m := by
  refine aw_aload_n (j := 0) dX9_put_101 rfl rfl ?_
  refine aw_getfield (c := 0) (v := .int (m.1 151 4)) dX9_put_102 f_X9_25 ly_151 rfl rfl ?_
  refine aw_sipush (v := 3000) dX9_put_105 (by decide) ?_
  refine aw_icmp_lt (tgt := 113) dX9_put_108 (by decide) (fun hc => ?_) (fun hc => ?_)
  · have h := h.1 hc
    refine aw_aload_n (j := 0) dX9_put_113 rfl rfl ?_
    refine aw_getfield (c := 155) (v := .ref (ad 152)) dX9_put_114 f_X9_11 ly_151 rfl rfl ?_
    refine aw_aload_n (j := 0) dX9_put_117 rfl rfl ?_
    refine aw_getfield (c := 0) (v := .int (m.1 151 4)) dX9_put_118 f_X9_25 ly_151 rfl rfl ?_
    refine aw_lload_n (j := 1) dX9_put_121 rfl rfl ?_
    obtain ⟨hi, h⟩ := h
    refine aw_lastore dX9_put_122 ly_152 hi ?_
    refine aw_aload_n (j := 0) dX9_put_123 rfl rfl ?_
    refine aw_getfield (c := 156) (v := .ref (ad 153)) dX9_put_124 f_X9_15 ly_151 rfl rfl ?_
    refine aw_aload_n (j := 0) dX9_put_127 rfl rfl ?_
    refine aw_getfield (c := 0) (v := .int ((uL m 152 (m.1 151 4).toNatClampNeg y1).1 151 4)) dX9_put_128 f_X9_25 ly_151 rfl rfl ?_
    refine aw_lload_n (j := 2) dX9_put_131 rfl rfl ?_
    obtain ⟨hi, h⟩ := h
    refine aw_lastore dX9_put_132 ly_153 hi ?_
    refine aw_aload_n (j := 0) dX9_put_133 rfl rfl ?_
    refine aw_getfield (c := 158) (v := .ref (ad 155)) dX9_put_134 f_X9_22 ly_151 rfl rfl ?_
    refine aw_aload_n (j := 0) dX9_put_137 rfl rfl ?_
    refine aw_getfield (c := 0) (v := .int ((uL (uL m 152 (m.1 151 4).toNatClampNeg y1) 153 ((uL m 152 (m.1 151 4).toNatClampNeg y1).1 151 4).toNatClampNeg y3).1 151 4)) dX9_put_138 f_X9_25 ly_151 rfl rfl ?_
    refine aw_iload (j := 3) dX9_put_141 rfl ?_
    obtain ⟨hi, h⟩ := h
    refine aw_iastore dX9_put_143 ly_155 hi ?_
    refine aw_aload_n (j := 0) dX9_put_144 rfl rfl ?_
    refine aw_dup dX9_put_145 rfl ?_
    refine aw_getfield (c := 0) (v := .int ((uI (uL (uL m 152 (m.1 151 4).toNatClampNeg y1) 153 ((uL m 152 (m.1 151 4).toNatClampNeg y1).1 151 4).toNatClampNeg y3) 155 ((uL (uL m 152 (m.1 151 4).toNatClampNeg y1) 153 ((uL m 152 (m.1 151 4).toNatClampNeg y1).1 151 4).toNatClampNeg y3).1 151 4).toNatClampNeg x5).1 151 4)) dX9_put_146 f_X9_25 ly_151 rfl rfl ?_
    refine aw_iconst (v := 1) dX9_put_149 (by decide) ?_
    refine aw_iadd dX9_put_150 ?_
    refine aw_putI dX9_put_151 f_X9_25 cl_X9 rfl ly_151 rfl rfl rfl ?_
    refine aw_aload_n (j := 0) dX9_put_154 rfl rfl ?_
    refine aw_getfield (c := 157) (v := .ref (ad 154)) dX9_put_155 f_X9_18 ly_151 rfl rfl ?_
    refine aw_iload (j := 3) dX9_put_158 rfl ?_
    refine aw_aload_n (j := 0) dX9_put_160 rfl rfl ?_
    refine aw_getfield (c := 0) (v := .int ((uI (uI (uL (uL m 152 (m.1 151 4).toNatClampNeg y1) 153 ((uL m 152 (m.1 151 4).toNatClampNeg y1).1 151 4).toNatClampNeg y3) 155 ((uL (uL m 152 (m.1 151 4).toNatClampNeg y1) 153 ((uL m 152 (m.1 151 4).toNatClampNeg y1).1 151 4).toNatClampNeg y3).1 151 4).toNatClampNeg x5) 151 4 (((uI (uL (uL m 152 (m.1 151 4).toNatClampNeg y1) 153 ((uL m 152 (m.1 151 4).toNatClampNeg y1).1 151 4).toNatClampNeg y3) 155 ((uL (uL m 152 (m.1 151 4).toNatClampNeg y1) 153 ((uL m 152 (m.1 151 4).toNatClampNeg y1).1 151 4).toNatClampNeg y3).1 151 4).toNatClampNeg x5).1 151 4) + (1 : Int32))).1 151 4)) dX9_put_161 f_X9_25 ly_151 rfl rfl ?_
    obtain ⟨hi, h⟩ := h
    refine aw_iastore dX9_put_164 ly_154 hi ?_
    refine aw_aload_n (j := 0) dX9_put_165 rfl rfl ?_
    refine aw_iconst (v := 1) dX9_put_166 (by decide) ?_
    refine aw_putI dX9_put_167 f_X9_29 cl_X9 rfl ly_151 rfl (by decide) (by decide) ?_
    refine aw_aload_n (j := 0) dX9_put_170 rfl rfl ?_
    refine aw_getfield (c := 0) (v := .int ((uI (uI (uI (uI (uL (uL m 152 (m.1 151 4).toNatClampNeg y1) 153 ((uL m 152 (m.1 151 4).toNatClampNeg y1).1 151 4).toNatClampNeg y3) 155 ((uL (uL m 152 (m.1 151 4).toNatClampNeg y1) 153 ((uL m 152 (m.1 151 4).toNatClampNeg y1).1 151 4).toNatClampNeg y3).1 151 4).toNatClampNeg x5) 151 4 (((uI (uL (uL m 152 (m.1 151 4).toNatClampNeg y1) 153 ((uL m 152 (m.1 151 4).toNatClampNeg y1).1 151 4).toNatClampNeg y3) 155 ((uL (uL m 152 (m.1 151 4).toNatClampNeg y1) 153 ((uL m 152 (m.1 151 4).toNatClampNeg y1).1 151 4).toNatClampNeg y3).1 151 4).toNatClampNeg x5).1 151 4) + (1 : Int32))) 154 x5.toNatClampNeg ((uI (uI (uL (uL m 152 (m.1 151 4).toNatClampNeg y1) 153 ((uL m 152 (m.1 151 4).toNatClampNeg y1).1 151 4).toNatClampNeg y3) 155 ((uL (uL m 152 (m.1 151 4).toNatClampNeg y1) 153 ((uL m 152 (m.1 151 4).toNatClampNeg y1).1 151 4).toNatClampNeg y3).1 151 4).toNatClampNeg x5) 151 4 (((uI (uL (uL m 152 (m.1 151 4).toNatClampNeg y1) 153 ((uL m 152 (m.1 151 4).toNatClampNeg y1).1 151 4).toNatClampNeg y3) 155 ((uL (uL m 152 (m.1 151 4).toNatClampNeg y1) 153 ((uL m 152 (m.1 151 4).toNatClampNeg y1).1 151 4).toNatClampNeg y3).1 151 4).toNatClampNeg x5).1 151 4) + (1 : Int32))).1 151 4)) 151 5 (1 : Int32)).1 151 4)) dX9_put_171 f_X9_25 ly_151 rfl rfl ?_
    refine aw_iconst (v := 1) dX9_put_174 (by decide) ?_
    refine aw_isub dX9_put_175 ?_
    exact aw_ret (v := some (.int (((uI (uI (uI (uI (uL (uL m 152 (m.1 151 4).toNatClampNeg y1) 153 ((uL m 152 (m.1 151 4).toNatClampNeg y1).1 151 4).toNatClampNeg y3) 155 ((uL (uL m 152 (m.1 151 4).toNatClampNeg y1) 153 ((uL m 152 (m.1 151 4).toNatClampNeg y1).1 151 4).toNatClampNeg y3).1 151 4).toNatClampNeg x5) 151 4 (((uI (uL (uL m 152 (m.1 151 4).toNatClampNeg y1) 153 ((uL m 152 (m.1 151 4).toNatClampNeg y1).1 151 4).toNatClampNeg y3) 155 ((uL (uL m 152 (m.1 151 4).toNatClampNeg y1) 153 ((uL m 152 (m.1 151 4).toNatClampNeg y1).1 151 4).toNatClampNeg y3).1 151 4).toNatClampNeg x5).1 151 4) + (1 : Int32))) 154 x5.toNatClampNeg ((uI (uI (uL (uL m 152 (m.1 151 4).toNatClampNeg y1) 153 ((uL m 152 (m.1 151 4).toNatClampNeg y1).1 151 4).toNatClampNeg y3) 155 ((uL (uL m 152 (m.1 151 4).toNatClampNeg y1) 153 ((uL m 152 (m.1 151 4).toNatClampNeg y1).1 151 4).toNatClampNeg y3).1 151 4).toNatClampNeg x5) 151 4 (((uI (uL (uL m 152 (m.1 151 4).toNatClampNeg y1) 153 ((uL m 152 (m.1 151 4).toNatClampNeg y1).1 151 4).toNatClampNeg y3) 155 ((uL (uL m 152 (m.1 151 4).toNatClampNeg y1) 153 ((uL m 152 (m.1 151 4).toNatClampNeg y1).1 151 4).toNatClampNeg y3).1 151 4).toNatClampNeg x5).1 151 4) + (1 : Int32))).1 151 4)) 151 5 (1 : Int32)).1 151 4) - (1 : Int32)))) rfl (Or.inr (Or.inl ⟨_, .int, rfl, rfl, rfl, dX9_put_176⟩)) h
  · have h := h.2 hc
    refine aw_iconst (v := -1) dX9_put_111 (by decide) ?_
    exact aw_ret (v := some (.int (-1 : Int32))) rfl (Or.inr (Or.inl ⟨_, .int, rfl, rfl, rfl, dX9_put_112⟩)) h
set_option maxRecDepth 100000 in
set_option maxHeartbeats 4000000 in
theorem v_X9_putSkillsOf {ad : Nat → Nat} {d : Nat} {Q : Option Value → Wm → Prop} {m : Wm} {b1 : Nat} (hb1 : St b1) (h : AW ad E0 μX9_putSkillsOf (d + 1) Q 8 [(0, .ref (ad 151)), (1, .ref (ad b1)), (2, .long (0 : Int64)), (4, .long (0 : Int64)), (6, .int (0 : Int32))] [] m) : Ct ad μX9_putSkillsOf (d + 1) [.ref (ad 151), .ref (ad b1)] m Q := by
  refine Ct.of (by decide +kernel) rfl (Nat.le_of_ble_eq_true rfl) ?_
  refine aw_eq (L' := [(0, .ref (ad 151)), (1, .ref (ad b1))]) ?_ rfl rfl rfl
  refine aw_lconst (v := 0) dX9_putSkillsOf_0 (by decide) ?_
  refine aw_lstore_n (L' := [(2, .long (0 : Int64)), (0, .ref (ad 151)), (1, .ref (ad b1))]) dX9_putSkillsOf_1 rfl (by decide) rfl ?_
  refine aw_lconst (v := 0) dX9_putSkillsOf_2 (by decide) ?_
  refine aw_lstore (L' := [(4, .long (0 : Int64)), (2, .long (0 : Int64)), (0, .ref (ad 151)), (1, .ref (ad b1))]) dX9_putSkillsOf_3 (by decide) rfl ?_
  refine aw_iconst (v := 0) dX9_putSkillsOf_5 (by decide) ?_
  refine aw_istore (L' := [(6, .int (0 : Int32)), (4, .long (0 : Int64)), (2, .long (0 : Int64)), (0, .ref (ad 151)), (1, .ref (ad b1))]) dX9_putSkillsOf_6 (by decide) rfl ?_
  exact aw_sub [3, 4, 2, 1, 0] rfl h
set_option maxRecDepth 100000 in
set_option maxHeartbeats 4000000 in
theorem g_X9_putSkillsOf_8 {ad : Nat → Nat} {d : Nat} {Q : Option Value → Wm → Prop} {m : Wm} {b1 : Nat} {x6 : Int32} {y2 y4 : Int64} (hb1 : St b1) (h : (((4 : Int32) ≤ x6 → (Ct ad μX9_put d [.ref (ad 151), .long y2, .long y4] m (fun r m1 => ∃ v2 : Int32, r = some (.int v2) ∧ Q (some (.int v2)) m1))) ∧ (¬ (4 : Int32) ≤ x6 → (Ct ad μX9_packed d [.ref (ad b1), .int x6] m (fun r m3 => ∃ w4 : Int64, r = some (.long w4) ∧ (Ct ad μX9_packed d [.ref (ad b1), .int (x6 + (4 : Int32))] m3 (fun r m5 => ∃ w6 : Int64, r = some (.long w6) ∧ AW ad E0 μX9_putSkillsOf (d + 1) Q 8 [(0, .ref (ad 151)), (1, .ref (ad b1)), (2, .long (y2 ||| w4)), (4, .long (y4 ||| w6)), (6, .int (x6 + (1 : Int32)))] [] m5))))))) : AW ad E0 μX9_putSkillsOf (d + 1) Q 8 [(0, .ref (ad 151)), (1, .ref (ad b1)), (2, .long y2), (4, .long y4), (6, .int x6)] [] m := by
  refine aw_iload (j := 4) dX9_putSkillsOf_8 rfl ?_
  refine aw_iconst (v := 4) dX9_putSkillsOf_10 (by decide) ?_
  refine aw_icmp_ge (tgt := 42) dX9_putSkillsOf_11 (by decide) (fun hc => ?_) (fun hc => ?_)
  · have h := h.1 hc
    refine aw_aload_n (j := 0) dX9_putSkillsOf_42 rfl rfl ?_
    refine aw_lload_n (j := 2) dX9_putSkillsOf_43 rfl rfl ?_
    refine aw_lload (j := 3) dX9_putSkillsOf_44 rfl ?_
    refine aw_callV (rest := []) [.long y2, .long y4] dX9_putSkillsOf_46 ly_151 rfl k_X9_41 rfl h (Nat.le_of_ble_eq_true rfl) (fun v m1 h => ?_)
    obtain ⟨v2, rfl, h⟩ := h
    refine aw_eq (L' := [(0, .ref (ad 151)), (1, .ref (ad b1)), (2, .long y2), (4, .long y4), (6, .int x6)]) (st' := [.int v2]) (m' := m1) ?_ rfl rfl rfl
    exact aw_ret (v := some (.int v2)) rfl (Or.inr (Or.inl ⟨_, .int, rfl, rfl, rfl, dX9_putSkillsOf_49⟩)) h
  · have h := h.2 hc
    refine aw_lload_n (j := 2) dX9_putSkillsOf_14 rfl rfl ?_
    refine aw_aload_n (j := 1) dX9_putSkillsOf_15 rfl rfl ?_
    refine aw_iload (j := 4) dX9_putSkillsOf_16 rfl ?_
    refine aw_callS (rest := [.long y2]) [.ref (ad b1), .int x6] dX9_putSkillsOf_18 k_X9_37 rfl h (Nat.le_of_ble_eq_true rfl) (fun v m3 h => ?_)
    obtain ⟨w4, rfl, h⟩ := h
    refine aw_eq (L' := [(0, .ref (ad 151)), (1, .ref (ad b1)), (2, .long y2), (4, .long y4), (6, .int x6)]) (st' := [.long w4, .long y2]) (m' := m3) ?_ rfl rfl rfl
    refine aw_lor dX9_putSkillsOf_21 ?_
    refine aw_lstore_n (L' := [(2, .long (y2 ||| w4)), (0, .ref (ad 151)), (1, .ref (ad b1)), (4, .long y4), (6, .int x6)]) dX9_putSkillsOf_22 rfl (by decide) rfl ?_
    refine aw_lload (j := 3) dX9_putSkillsOf_23 rfl ?_
    refine aw_aload_n (j := 2) dX9_putSkillsOf_25 rfl rfl ?_
    refine aw_iload (j := 4) dX9_putSkillsOf_26 rfl ?_
    refine aw_iconst (v := 4) dX9_putSkillsOf_28 (by decide) ?_
    refine aw_iadd dX9_putSkillsOf_29 ?_
    refine aw_callS (rest := [.long y4]) [.ref (ad b1), .int (x6 + (4 : Int32))] dX9_putSkillsOf_30 k_X9_37 rfl h (Nat.le_of_ble_eq_true rfl) (fun v m5 h => ?_)
    obtain ⟨w6, rfl, h⟩ := h
    refine aw_eq (L' := [(2, .long (y2 ||| w4)), (0, .ref (ad 151)), (1, .ref (ad b1)), (4, .long y4), (6, .int x6)]) (st' := [.long w6, .long y4]) (m' := m5) ?_ rfl rfl rfl
    refine aw_lor dX9_putSkillsOf_33 ?_
    refine aw_lstore (L' := [(4, .long (y4 ||| w6)), (2, .long (y2 ||| w4)), (0, .ref (ad 151)), (1, .ref (ad b1)), (6, .int x6)]) dX9_putSkillsOf_34 (by decide) rfl ?_
    refine aw_iinc (j := 4) (v := x6 + (1 : Int32)) (L' := [(6, .int (x6 + (1 : Int32))), (4, .long (y4 ||| w6)), (2, .long (y2 ||| w4)), (0, .ref (ad 151)), (1, .ref (ad b1))]) dX9_putSkillsOf_36 rfl rfl (by decide) rfl ?_
    refine aw_goto (tgt := 8) dX9_putSkillsOf_39 (by decide) ?_
    exact aw_sub [3, 4, 2, 1, 0] rfl h
set_option maxRecDepth 100000 in
set_option maxHeartbeats 4000000 in
theorem v_X9_packed {ad : Nat → Nat} {d : Nat} {Q : Option Value → Wm → Prop} {m : Wm} {b0 : Nat} {x1 : Int32} (hb0 : St b0) (h : AW ad E0 μX9_packed (d + 1) Q 5 [(0, .ref (ad b0)), (1, .int x1), (2, .long (0 : Int64)), (4, .int (3 : Int32))] [] m) : Ct ad μX9_packed (d + 1) [.ref (ad b0), .int x1] m Q := by
  refine Ct.of (by decide +kernel) rfl (Nat.le_of_ble_eq_true rfl) ?_
  refine aw_eq (L' := [(0, .ref (ad b0)), (1, .int x1)]) ?_ rfl rfl rfl
  refine aw_lconst (v := 0) dX9_packed_0 (by decide) ?_
  refine aw_lstore_n (L' := [(2, .long (0 : Int64)), (0, .ref (ad b0)), (1, .int x1)]) dX9_packed_1 rfl (by decide) rfl ?_
  refine aw_iconst (v := 3) dX9_packed_2 (by decide) ?_
  refine aw_istore (L' := [(4, .int (3 : Int32)), (2, .long (0 : Int64)), (0, .ref (ad b0)), (1, .int x1)]) dX9_packed_3 (by decide) rfl ?_
  exact aw_sub [2, 3, 1, 0] rfl h
set_option maxRecDepth 100000 in
set_option maxHeartbeats 4000000 in
theorem g_X9_packed_5 {ad : Nat → Nat} {d : Nat} {Q : Option Value → Wm → Prop} {m : Wm} {b0 : Nat} {x1 x4 : Int32} {y2 : Int64} (hb0 : St b0) (h : ((x4 < 0 → Q (some (.long (y2 <<< (((x1 - x1 / (4 : Int32) * (4 : Int32)) * (12 : Int32)).toInt64 &&& 63)))) m) ∧ (¬ x4 < 0 → (Ct ad μX8_skillOf d [.ref (ad b0), .int x1, .int x4] m (fun r m1 => ∃ v2 : Int32, r = some (.int v2) ∧ AW ad E0 μX9_packed (d + 1) Q 5 [(0, .ref (ad b0)), (1, .int x1), (2, .long ((y2 <<< ((3 : Int32).toInt64 &&& 63)) ||| v2.toInt64)), (4, .int (x4 + (-1 : Int32)))] [] m1))))) : AW ad E0 μX9_packed (d + 1) Q 5 [(0, .ref (ad b0)), (1, .int x1), (2, .long y2), (4, .int x4)] [] m := by
  refine aw_iload (j := 3) dX9_packed_5 rfl ?_
  refine aw_if_lt (tgt := 29) dX9_packed_7 (by decide) (fun hc => ?_) (fun hc => ?_)
  · have h := h.1 hc
    refine aw_lload_n (j := 2) dX9_packed_29 rfl rfl ?_
    refine aw_iload_n (j := 1) dX9_packed_30 rfl rfl ?_
    refine aw_iconst (v := 4) dX9_packed_31 (by decide) ?_
    refine aw_irem dX9_packed_32 (by decide) ?_
    refine aw_bipush (v := 12) dX9_packed_33 (by decide) ?_
    refine aw_imul dX9_packed_35 ?_
    refine aw_lshl dX9_packed_36 ?_
    exact aw_ret (v := some (.long (y2 <<< (((x1 - x1 / (4 : Int32) * (4 : Int32)) * (12 : Int32)).toInt64 &&& 63)))) rfl (Or.inr (Or.inr ⟨_, rfl, rfl, dX9_packed_37⟩)) h
  · have h := h.2 hc
    refine aw_lload_n (j := 2) dX9_packed_10 rfl rfl ?_
    refine aw_iconst (v := 3) dX9_packed_11 (by decide) ?_
    refine aw_lshl dX9_packed_12 ?_
    refine aw_aload_n (j := 0) dX9_packed_13 rfl rfl ?_
    refine aw_iload_n (j := 1) dX9_packed_14 rfl rfl ?_
    refine aw_iload (j := 3) dX9_packed_15 rfl ?_
    refine aw_callV (rest := [.long (y2 <<< ((3 : Int32).toInt64 &&& 63))]) [.int x1, .int x4] dX9_packed_17 hb0.1 rfl k_X9_45 rfl h (Nat.le_of_ble_eq_true rfl) (fun v m1 h => ?_)
    obtain ⟨v2, rfl, h⟩ := h
    refine aw_eq (L' := [(0, .ref (ad b0)), (1, .int x1), (2, .long y2), (4, .int x4)]) (st' := [.int v2, .long (y2 <<< ((3 : Int32).toInt64 &&& 63))]) (m' := m1) ?_ rfl rfl rfl
    refine aw_i2l dX9_packed_20 ?_
    refine aw_lor dX9_packed_21 ?_
    refine aw_lstore_n (L' := [(2, .long ((y2 <<< ((3 : Int32).toInt64 &&& 63)) ||| v2.toInt64)), (0, .ref (ad b0)), (1, .int x1), (4, .int x4)]) dX9_packed_22 rfl (by decide) rfl ?_
    refine aw_iinc (j := 3) (v := x4 + (-1 : Int32)) (L' := [(4, .int (x4 + (-1 : Int32))), (2, .long ((y2 <<< ((3 : Int32).toInt64 &&& 63)) ||| v2.toInt64)), (0, .ref (ad b0)), (1, .int x1)]) dX9_packed_23 rfl rfl (by decide) rfl ?_
    refine aw_goto (tgt := 5) dX9_packed_26 (by decide) ?_
    exact aw_sub [2, 3, 1, 0] rfl h
set_option maxRecDepth 100000 in
set_option maxHeartbeats 4000000 in
theorem v_X9_without {ad : Nat → Nat} {d : Nat} {Q : Option Value → Wm → Prop} {m : Wm} {x2 : Int32} {y0 : Int64} (h : Q (some (.long (y0 &&& (((4095 : Int64) <<< (((x2 - x2 / (4 : Int32) * (4 : Int32)) * (12 : Int32)).toInt64 &&& 63)) ^^^ (-1 : Int64))))) m) : Ct ad μX9_without d [.long y0, .int x2] m Q := by
  refine Ct.of (by decide +kernel) rfl (Nat.le_of_ble_eq_true rfl) ?_
  refine aw_eq (L' := [(0, .long y0), (2, .int x2)]) ?_ rfl rfl rfl
  refine aw_lload_n (j := 0) dX9_without_0 rfl rfl ?_
  refine aw_ldc2 dX9_without_1 c_X9_51 ?_
  refine aw_iload_n (j := 1) dX9_without_4 rfl rfl ?_
  refine aw_iconst (v := 4) dX9_without_5 (by decide) ?_
  refine aw_irem dX9_without_6 (by decide) ?_
  refine aw_bipush (v := 12) dX9_without_7 (by decide) ?_
  refine aw_imul dX9_without_9 ?_
  refine aw_lshl dX9_without_10 ?_
  refine aw_ldc2 dX9_without_11 c_X9_53 ?_
  refine aw_lxor dX9_without_14 ?_
  refine aw_land dX9_without_15 ?_
  exact aw_ret (v := some (.long (y0 &&& (((4095 : Int64) <<< (((x2 - x2 / (4 : Int32) * (4 : Int32)) * (12 : Int32)).toInt64 &&& 63)) ^^^ (-1 : Int64))))) rfl (Or.inr (Or.inr ⟨_, rfl, rfl, dX9_without_16⟩)) h
set_option maxRecDepth 100000 in
set_option maxHeartbeats 4000000 in
theorem v_X9_skillIn {ad : Nat → Nat} {d : Nat} {Q : Option Value → Wm → Prop} {m : Wm} {x1 x2 x3 : Int32} (h : (((4 : Int32) ≤ x2 → (vp_in x1 3000 ∧ AW ad E0 μX9_skillIn d Q 20 [(2, .int x2), (3, .int x3)] [.long (m.2.1 153 x1.toNatClampNeg)] m)) ∧ (¬ (4 : Int32) ≤ x2 → (vp_in x1 3000 ∧ AW ad E0 μX9_skillIn d Q 20 [(2, .int x2), (3, .int x3)] [.long (m.2.1 152 x1.toNatClampNeg)] m)))) : Ct ad μX9_skillIn d [.ref (ad 151), .int x1, .int x2, .int x3] m Q := by
  refine Ct.of (by decide +kernel) rfl (Nat.le_of_ble_eq_true rfl) ?_
  refine aw_eq (L' := [(0, .ref (ad 151)), (1, .int x1), (2, .int x2), (3, .int x3)]) ?_ rfl rfl rfl
  refine aw_iload_n (j := 2) dX9_skillIn_0 rfl rfl ?_
  refine aw_iconst (v := 4) dX9_skillIn_1 (by decide) ?_
  refine aw_icmp_ge (tgt := 14) dX9_skillIn_2 (by decide) (fun hc => ?_) (fun hc => ?_)
  · have h := h.1 hc
    refine aw_aload_n (j := 0) dX9_skillIn_14 rfl rfl ?_
    refine aw_getfield (c := 156) (v := .ref (ad 153)) dX9_skillIn_15 f_X9_15 ly_151 rfl rfl ?_
    refine aw_iload_n (j := 1) dX9_skillIn_18 rfl rfl ?_
    obtain ⟨hi, h⟩ := h
    refine aw_laload dX9_skillIn_19 ly_153 hi ?_
    exact aw_sub [2, 3] rfl h
  · have h := h.2 hc
    refine aw_aload_n (j := 0) dX9_skillIn_5 rfl rfl ?_
    refine aw_getfield (c := 155) (v := .ref (ad 152)) dX9_skillIn_6 f_X9_11 ly_151 rfl rfl ?_
    refine aw_iload_n (j := 1) dX9_skillIn_9 rfl rfl ?_
    obtain ⟨hi, h⟩ := h
    refine aw_laload dX9_skillIn_10 ly_152 hi ?_
    refine aw_goto (tgt := 20) dX9_skillIn_11 (by decide) ?_
    exact aw_sub [2, 3] rfl h
set_option maxRecDepth 100000 in
set_option maxHeartbeats 4000000 in
theorem g_X9_skillIn_20 {ad : Nat → Nat} {d : Nat} {Q : Option Value → Wm → Prop} {m : Wm} {x2 x3 : Int32} {z0 : Int64} (h : Q (some (.int ((((z0.toUInt64 >>> ((((x2 - x2 / (4 : Int32) * (4 : Int32)) * (12 : Int32)) + ((3 : Int32) * x3)).toInt64.toUInt64 &&& Int64.toUInt64 63)).toInt64).toInt32) &&& (7 : Int32)))) m) : AW ad E0 μX9_skillIn d Q 20 [(2, .int x2), (3, .int x3)] [.long z0] m := by
  refine aw_lstore (L' := [(4, .long z0), (2, .int x2), (3, .int x3)]) dX9_skillIn_20 (by decide) rfl ?_
  refine aw_lload (j := 0) dX9_skillIn_22 rfl ?_
  refine aw_iload_n (j := 1) dX9_skillIn_24 rfl rfl ?_
  refine aw_iconst (v := 4) dX9_skillIn_25 (by decide) ?_
  refine aw_irem dX9_skillIn_26 (by decide) ?_
  refine aw_bipush (v := 12) dX9_skillIn_27 (by decide) ?_
  refine aw_imul dX9_skillIn_29 ?_
  refine aw_iconst (v := 3) dX9_skillIn_30 (by decide) ?_
  refine aw_iload_n (j := 2) dX9_skillIn_31 rfl rfl ?_
  refine aw_imul dX9_skillIn_32 ?_
  refine aw_iadd dX9_skillIn_33 ?_
  refine aw_lushr dX9_skillIn_34 ?_
  refine aw_l2i dX9_skillIn_35 ?_
  refine aw_bipush (v := 7) dX9_skillIn_36 (by decide) ?_
  refine aw_iand dX9_skillIn_38 ?_
  exact aw_ret (v := some (.int ((((z0.toUInt64 >>> ((((x2 - x2 / (4 : Int32) * (4 : Int32)) * (12 : Int32)) + ((3 : Int32) * x3)).toInt64.toUInt64 &&& Int64.toUInt64 63)).toInt64).toInt32) &&& (7 : Int32)))) rfl (Or.inr (Or.inl ⟨_, .int, rfl, rfl, rfl, dX9_skillIn_39⟩)) h
set_option maxRecDepth 100000 in
set_option maxHeartbeats 4000000 in
theorem v_X9_unpack {ad : Nat → Nat} {d : Nat} {Q : Option Value → Wm → Prop} {m : Wm} {b3 : Nat} {x1 x2 : Int32} (hb3 : St b3) (h : AW ad E0 μX9_unpack (d + 1) Q 3 [(0, .ref (ad 151)), (1, .int x1), (2, .int x2), (3, .ref (ad b3)), (4, .int (0 : Int32))] [] m) : Ct ad μX9_unpack (d + 1) [.ref (ad 151), .int x1, .int x2, .ref (ad b3)] m Q := by
  refine Ct.of (by decide +kernel) rfl (Nat.le_of_ble_eq_true rfl) ?_
  refine aw_eq (L' := [(0, .ref (ad 151)), (1, .int x1), (2, .int x2), (3, .ref (ad b3))]) ?_ rfl rfl rfl
  refine aw_iconst (v := 0) dX9_unpack_0 (by decide) ?_
  refine aw_istore (L' := [(4, .int (0 : Int32)), (0, .ref (ad 151)), (1, .int x1), (2, .int x2), (3, .ref (ad b3))]) dX9_unpack_1 (by decide) rfl ?_
  exact aw_sub [1, 2, 3, 4, 0] rfl h
set_option maxRecDepth 100000 in
set_option maxHeartbeats 4000000 in
theorem g_X9_unpack_3 {ad : Nat → Nat} {d : Nat} {Q : Option Value → Wm → Prop} {m : Wm} {b3 : Nat} {x1 x2 x4 : Int32} (hb3 : St b3) (h : (((4 : Int32) ≤ x4 → Q none m) ∧ (¬ (4 : Int32) ≤ x4 → (Ct ad μX9_skillIn d [.ref (ad 151), .int x1, .int x2, .int x4] m (fun r m1 => ∃ v2 : Int32, r = some (.int v2) ∧ (Ct ad μX8_putSkill d [.ref (ad b3), .int x2, .int x4, .int v2] m1 (fun r m3 => r = none ∧ AW ad E0 μX9_unpack (d + 1) Q 3 [(0, .ref (ad 151)), (1, .int x1), (2, .int x2), (3, .ref (ad b3)), (4, .int (x4 + (1 : Int32)))] [] m3))))))) : AW ad E0 μX9_unpack (d + 1) Q 3 [(0, .ref (ad 151)), (1, .int x1), (2, .int x2), (3, .ref (ad b3)), (4, .int x4)] [] m := by
  refine aw_iload (j := 4) dX9_unpack_3 rfl ?_
  refine aw_iconst (v := 4) dX9_unpack_5 (by decide) ?_
  refine aw_icmp_ge (tgt := 30) dX9_unpack_6 (by decide) (fun hc => ?_) (fun hc => ?_)
  · have h := h.1 hc
    exact aw_ret (v := none) rfl (Or.inl ⟨rfl, rfl, dX9_unpack_30⟩) h
  · have h := h.2 hc
    refine aw_aload_n (j := 3) dX9_unpack_9 rfl rfl ?_
    refine aw_iload_n (j := 2) dX9_unpack_10 rfl rfl ?_
    refine aw_iload (j := 4) dX9_unpack_11 rfl ?_
    refine aw_aload_n (j := 0) dX9_unpack_13 rfl rfl ?_
    refine aw_iload_n (j := 1) dX9_unpack_14 rfl rfl ?_
    refine aw_iload_n (j := 2) dX9_unpack_15 rfl rfl ?_
    refine aw_iload (j := 4) dX9_unpack_16 rfl ?_
    refine aw_callV (rest := [.int x4, .int x2, .ref (ad b3)]) [.int x1, .int x2, .int x4] dX9_unpack_18 ly_151 rfl k_X9_55 rfl h (Nat.le_of_ble_eq_true rfl) (fun v m1 h => ?_)
    obtain ⟨v2, rfl, h⟩ := h
    refine aw_eq (L' := [(0, .ref (ad 151)), (1, .int x1), (2, .int x2), (3, .ref (ad b3)), (4, .int x4)]) (st' := [.int v2, .int x4, .int x2, .ref (ad b3)]) (m' := m1) ?_ rfl rfl rfl
    refine aw_callV (rest := []) [.int x2, .int x4, .int v2] dX9_unpack_21 hb3.1 rfl k_X9_59 rfl h (Nat.le_of_ble_eq_true rfl) (fun v m3 h => ?_)
    obtain ⟨rfl, h⟩ := h
    refine aw_eq (L' := [(0, .ref (ad 151)), (1, .int x1), (2, .int x2), (3, .ref (ad b3)), (4, .int x4)]) (st' := []) (m' := m3) ?_ rfl rfl rfl
    refine aw_iinc (j := 4) (v := x4 + (1 : Int32)) (L' := [(4, .int (x4 + (1 : Int32))), (0, .ref (ad 151)), (1, .int x1), (2, .int x2), (3, .ref (ad b3))]) dX9_unpack_24 rfl rfl (by decide) rfl ?_
    refine aw_goto (tgt := 3) dX9_unpack_27 (by decide) ?_
    exact aw_sub [1, 2, 3, 4, 0] rfl h
set_option maxRecDepth 100000 in
set_option maxHeartbeats 4000000 in
theorem v_X9_total {ad : Nat → Nat} {d : Nat} {Q : Option Value → Wm → Prop} {m : Wm} {x1 : Int32} (h : AW ad E0 μX9_total (d + 1) Q 4 [(0, .ref (ad 151)), (1, .int x1), (2, .int (0 : Int32)), (3, .int (0 : Int32))] [] m) : Ct ad μX9_total (d + 1) [.ref (ad 151), .int x1] m Q := by
  refine Ct.of (by decide +kernel) rfl (Nat.le_of_ble_eq_true rfl) ?_
  refine aw_eq (L' := [(0, .ref (ad 151)), (1, .int x1)]) ?_ rfl rfl rfl
  refine aw_iconst (v := 0) dX9_total_0 (by decide) ?_
  refine aw_istore_n (L' := [(2, .int (0 : Int32)), (0, .ref (ad 151)), (1, .int x1)]) dX9_total_1 rfl (by decide) rfl ?_
  refine aw_iconst (v := 0) dX9_total_2 (by decide) ?_
  refine aw_istore_n (L' := [(3, .int (0 : Int32)), (2, .int (0 : Int32)), (0, .ref (ad 151)), (1, .int x1)]) dX9_total_3 rfl (by decide) rfl ?_
  exact aw_sub [2, 3, 1, 0] rfl h
set_option maxRecDepth 100000 in
set_option maxHeartbeats 4000000 in
theorem g_X9_total_4 {ad : Nat → Nat} {d : Nat} {Q : Option Value → Wm → Prop} {m : Wm} {x1 x2 x3 : Int32} (h : (((8 : Int32) ≤ x3 → Q (some (.int x2)) m) ∧ (¬ (8 : Int32) ≤ x3 → AW ad E0 μX9_total (d + 1) Q 13 [(0, .ref (ad 151)), (1, .int x1), (2, .int x2), (3, .int x3), (4, .int (0 : Int32))] [] m))) : AW ad E0 μX9_total (d + 1) Q 4 [(0, .ref (ad 151)), (1, .int x1), (2, .int x2), (3, .int x3)] [] m := by
  refine aw_iload_n (j := 3) dX9_total_4 rfl rfl ?_
  refine aw_bipush (v := 8) dX9_total_5 (by decide) ?_
  refine aw_icmp_ge (tgt := 42) dX9_total_7 (by decide) (fun hc => ?_) (fun hc => ?_)
  · have h := h.1 hc
    refine aw_iload_n (j := 2) dX9_total_42 rfl rfl ?_
    exact aw_ret (v := some (.int x2)) rfl (Or.inr (Or.inl ⟨_, .int, rfl, rfl, rfl, dX9_total_43⟩)) h
  · have h := h.2 hc
    refine aw_iconst (v := 0) dX9_total_10 (by decide) ?_
    refine aw_istore (L' := [(4, .int (0 : Int32)), (0, .ref (ad 151)), (1, .int x1), (2, .int x2), (3, .int x3)]) dX9_total_11 (by decide) rfl ?_
    exact aw_sub [1, 2, 3, 4, 0] rfl h
set_option maxRecDepth 100000 in
set_option maxHeartbeats 4000000 in
theorem g_X9_total_13 {ad : Nat → Nat} {d : Nat} {Q : Option Value → Wm → Prop} {m : Wm} {x1 x2 x3 x4 : Int32} (h : (((4 : Int32) ≤ x4 → AW ad E0 μX9_total (d + 1) Q 4 [(0, .ref (ad 151)), (1, .int x1), (2, .int x2), (3, .int (x3 + (1 : Int32)))] [] m) ∧ (¬ (4 : Int32) ≤ x4 → (Ct ad μX9_skillIn d [.ref (ad 151), .int x1, .int x3, .int x4] m (fun r m1 => ∃ v2 : Int32, r = some (.int v2) ∧ AW ad E0 μX9_total (d + 1) Q 13 [(0, .ref (ad 151)), (1, .int x1), (2, .int (x2 + v2)), (3, .int x3), (4, .int (x4 + (1 : Int32)))] [] m1))))) : AW ad E0 μX9_total (d + 1) Q 13 [(0, .ref (ad 151)), (1, .int x1), (2, .int x2), (3, .int x3), (4, .int x4)] [] m := by
  refine aw_iload (j := 4) dX9_total_13 rfl ?_
  refine aw_iconst (v := 4) dX9_total_15 (by decide) ?_
  refine aw_icmp_ge (tgt := 36) dX9_total_16 (by decide) (fun hc => ?_) (fun hc => ?_)
  · have h := h.1 hc
    refine aw_iinc (j := 3) (v := x3 + (1 : Int32)) (L' := [(3, .int (x3 + (1 : Int32))), (0, .ref (ad 151)), (1, .int x1), (2, .int x2), (4, .int x4)]) dX9_total_36 rfl rfl (by decide) rfl ?_
    refine aw_goto (tgt := 4) dX9_total_39 (by decide) ?_
    exact aw_sub [1, 2, 3, 0] rfl h
  · have h := h.2 hc
    refine aw_iload_n (j := 2) dX9_total_19 rfl rfl ?_
    refine aw_aload_n (j := 0) dX9_total_20 rfl rfl ?_
    refine aw_iload_n (j := 1) dX9_total_21 rfl rfl ?_
    refine aw_iload_n (j := 3) dX9_total_22 rfl rfl ?_
    refine aw_iload (j := 4) dX9_total_23 rfl ?_
    refine aw_callV (rest := [.int x2]) [.int x1, .int x3, .int x4] dX9_total_25 ly_151 rfl k_X9_55 rfl h (Nat.le_of_ble_eq_true rfl) (fun v m1 h => ?_)
    obtain ⟨v2, rfl, h⟩ := h
    refine aw_eq (L' := [(0, .ref (ad 151)), (1, .int x1), (2, .int x2), (3, .int x3), (4, .int x4)]) (st' := [.int v2, .int x2]) (m' := m1) ?_ rfl rfl rfl
    refine aw_iadd dX9_total_28 ?_
    refine aw_istore_n (L' := [(2, .int (x2 + v2)), (0, .ref (ad 151)), (1, .int x1), (3, .int x3), (4, .int x4)]) dX9_total_29 rfl (by decide) rfl ?_
    refine aw_iinc (j := 4) (v := x4 + (1 : Int32)) (L' := [(4, .int (x4 + (1 : Int32))), (2, .int (x2 + v2)), (0, .ref (ad 151)), (1, .int x1), (3, .int x3)]) dX9_total_30 rfl rfl (by decide) rfl ?_
    refine aw_goto (tgt := 13) dX9_total_33 (by decide) ?_
    exact aw_sub [2, 3, 1, 4, 0] rfl h
set_option maxRecDepth 100000 in
set_option maxHeartbeats 4000000 in
theorem v_X9_firstWith {ad : Nat → Nat} {d : Nat} {Q : Option Value → Wm → Prop} {m : Wm} {x1 x2 x3 : Int32} (h : AW ad E0 μX9_firstWith (d + 1) Q 3 [(0, .ref (ad 151)), (1, .int x1), (2, .int x2), (3, .int x3), (4, .int (0 : Int32))] [] m) : Ct ad μX9_firstWith (d + 1) [.ref (ad 151), .int x1, .int x2, .int x3] m Q := by
  refine Ct.of (by decide +kernel) rfl (Nat.le_of_ble_eq_true rfl) ?_
  refine aw_eq (L' := [(0, .ref (ad 151)), (1, .int x1), (2, .int x2), (3, .int x3)]) ?_ rfl rfl rfl
  refine aw_iconst (v := 0) dX9_firstWith_0 (by decide) ?_
  refine aw_istore (L' := [(4, .int (0 : Int32)), (0, .ref (ad 151)), (1, .int x1), (2, .int x2), (3, .int x3)]) dX9_firstWith_1 (by decide) rfl ?_
  exact aw_sub [1, 2, 3, 4, 0] rfl h
set_option maxRecDepth 100000 in
set_option maxHeartbeats 4000000 in
theorem g_X9_firstWith_3 {ad : Nat → Nat} {d : Nat} {Q : Option Value → Wm → Prop} {m : Wm} {x1 x2 x3 x4 : Int32} (h : (((m.1 151 4) ≤ x4 → Q (some (.int (-1 : Int32))) m) ∧ (¬ (m.1 151 4) ≤ x4 → (Ct ad μX9_skillIn d [.ref (ad 151), .int x4, .int x1, .int x2] m (fun r m1 => ∃ v2 : Int32, r = some (.int v2) ∧ ((v2 < x3 → AW ad E0 μX9_firstWith (d + 1) Q 3 [(0, .ref (ad 151)), (1, .int x1), (2, .int x2), (3, .int x3), (4, .int (x4 + (1 : Int32)))] [] m1) ∧ (¬ v2 < x3 → Q (some (.int x4)) m1))))))) : AW ad E0 μX9_firstWith (d + 1) Q 3 [(0, .ref (ad 151)), (1, .int x1), (2, .int x2), (3, .int x3), (4, .int x4)] [] m := by
  refine aw_iload (j := 4) dX9_firstWith_3 rfl ?_
  refine aw_aload_n (j := 0) dX9_firstWith_5 rfl rfl ?_
  refine aw_getfield (c := 0) (v := .int (m.1 151 4)) dX9_firstWith_6 f_X9_25 ly_151 rfl rfl ?_
  refine aw_icmp_ge (tgt := 33) dX9_firstWith_9 (by decide) (fun hc => ?_) (fun hc => ?_)
  · have h := h.1 hc
    refine aw_iconst (v := -1) dX9_firstWith_33 (by decide) ?_
    exact aw_ret (v := some (.int (-1 : Int32))) rfl (Or.inr (Or.inl ⟨_, .int, rfl, rfl, rfl, dX9_firstWith_34⟩)) h
  · have h := h.2 hc
    refine aw_aload_n (j := 0) dX9_firstWith_12 rfl rfl ?_
    refine aw_iload (j := 4) dX9_firstWith_13 rfl ?_
    refine aw_iload_n (j := 1) dX9_firstWith_15 rfl rfl ?_
    refine aw_iload_n (j := 2) dX9_firstWith_16 rfl rfl ?_
    refine aw_callV (rest := []) [.int x4, .int x1, .int x2] dX9_firstWith_17 ly_151 rfl k_X9_55 rfl h (Nat.le_of_ble_eq_true rfl) (fun v m1 h => ?_)
    obtain ⟨v2, rfl, h⟩ := h
    refine aw_eq (L' := [(0, .ref (ad 151)), (1, .int x1), (2, .int x2), (3, .int x3), (4, .int x4)]) (st' := [.int v2]) (m' := m1) ?_ rfl rfl rfl
    refine aw_iload_n (j := 3) dX9_firstWith_20 rfl rfl ?_
    refine aw_icmp_lt (tgt := 27) dX9_firstWith_21 (by decide) (fun hc => ?_) (fun hc => ?_)
    · have h := h.1 hc
      refine aw_iinc (j := 4) (v := x4 + (1 : Int32)) (L' := [(4, .int (x4 + (1 : Int32))), (0, .ref (ad 151)), (1, .int x1), (2, .int x2), (3, .int x3)]) dX9_firstWith_27 rfl rfl (by decide) rfl ?_
      refine aw_goto (tgt := 3) dX9_firstWith_30 (by decide) ?_
      exact aw_sub [1, 2, 3, 4, 0] rfl h
    · have h := h.2 hc
      refine aw_iload (j := 4) dX9_firstWith_24 rfl ?_
      exact aw_ret (v := some (.int x4)) rfl (Or.inr (Or.inl ⟨_, .int, rfl, rfl, rfl, dX9_firstWith_26⟩)) h
set_option maxRecDepth 100000 in
set_option maxHeartbeats 4000000 in
theorem v_X10_add {ad : Nat → Nat} {d : Nat} {Q : Option Value → Wm → Prop} {m : Wm} {x1 : Int32} (h : (((m.1 1 1) ≤ (76 : Int32) → AW ad E0 μX10_add d Q 13 [(0, .ref (ad 1)), (1, .int x1), (2, .int (0 : Int32))] [] m) ∧ (¬ (m.1 1 1) ≤ (76 : Int32) → Q (some (.int (0 : Int32))) m))) : Ct ad μX10_add d [.ref (ad 1), .int x1] m Q := by
  refine Ct.of (by decide +kernel) rfl (Nat.le_of_ble_eq_true rfl) ?_
  refine aw_eq (L' := [(0, .ref (ad 1)), (1, .int x1)]) ?_ rfl rfl rfl
  refine aw_aload_n (j := 0) dX10_add_0 rfl rfl ?_
  refine aw_getfield (c := 0) (v := .int (m.1 1 1)) dX10_add_1 f_X10_13 ly_1 rfl rfl ?_
  refine aw_bipush (v := 76) dX10_add_4 (by decide) ?_
  refine aw_icmp_le (tgt := 11) dX10_add_6 (by decide) (fun hc => ?_) (fun hc => ?_)
  · have h := h.1 hc
    refine aw_iconst (v := 0) dX10_add_11 (by decide) ?_
    refine aw_istore_n (L' := [(2, .int (0 : Int32)), (0, .ref (ad 1)), (1, .int x1)]) dX10_add_12 rfl (by decide) rfl ?_
    exact aw_sub [1, 2, 0] rfl h
  · have h := h.2 hc
    refine aw_iconst (v := 0) dX10_add_9 (by decide) ?_
    exact aw_ret (v := some (.int (0 : Int32))) rfl (Or.inr (Or.inl ⟨_, .boolean, rfl, rfl, by decide, dX10_add_10⟩)) h
set_option maxRecDepth 100000 in
set_option maxHeartbeats 4000000 in
theorem g_X10_add_13 {ad : Nat → Nat} {d : Nat} {Q : Option Value → Wm → Prop} {m : Wm} {x1 x2 : Int32} (h : (((4 : Int32) ≤ x2 → Q (some (.int (1 : Int32))) m) ∧ (¬ (4 : Int32) ≤ x2 → (vp_in (m.1 1 1) 80 ∧ AW ad E0 μX10_add d Q 13 [(0, .ref (ad 1)), (1, .int x1), (2, .int (x2 + (1 : Int32)))] [] (uI (uI m 2 (m.1 1 1).toNatClampNeg (vp_nar .char (((((x1.toUInt32 >>> (((24 : Int32) - ((8 : Int32) * x2)).toUInt32 &&& Int32.toUInt32 31)).toInt32) &&& (255 : Int32)).toUInt32 % 65536).toInt32))) 1 1 (((uI m 2 (m.1 1 1).toNatClampNeg (vp_nar .char (((((x1.toUInt32 >>> (((24 : Int32) - ((8 : Int32) * x2)).toUInt32 &&& Int32.toUInt32 31)).toInt32) &&& (255 : Int32)).toUInt32 % 65536).toInt32))).1 1 1) + (1 : Int32))))))) : AW ad E0 μX10_add d Q 13 [(0, .ref (ad 1)), (1, .int x1), (2, .int x2)] [] m := by
  refine aw_iload_n (j := 2) dX10_add_13 rfl rfl ?_
  refine aw_iconst (v := 4) dX10_add_14 (by decide) ?_
  refine aw_icmp_ge (tgt := 57) dX10_add_15 (by decide) (fun hc => ?_) (fun hc => ?_)
  · have h := h.1 hc
    refine aw_iconst (v := 1) dX10_add_57 (by decide) ?_
    exact aw_ret (v := some (.int (1 : Int32))) rfl (Or.inr (Or.inl ⟨_, .boolean, rfl, rfl, by decide, dX10_add_58⟩)) h
  · have h := h.2 hc
    refine aw_aload_n (j := 0) dX10_add_18 rfl rfl ?_
    refine aw_getfield (c := 5) (v := .ref (ad 2)) dX10_add_19 f_X10_9 ly_1 rfl rfl ?_
    refine aw_aload_n (j := 0) dX10_add_22 rfl rfl ?_
    refine aw_getfield (c := 0) (v := .int (m.1 1 1)) dX10_add_23 f_X10_13 ly_1 rfl rfl ?_
    refine aw_iload_n (j := 1) dX10_add_26 rfl rfl ?_
    refine aw_bipush (v := 24) dX10_add_27 (by decide) ?_
    refine aw_bipush (v := 8) dX10_add_29 (by decide) ?_
    refine aw_iload_n (j := 2) dX10_add_31 rfl rfl ?_
    refine aw_imul dX10_add_32 ?_
    refine aw_isub dX10_add_33 ?_
    refine aw_iushr dX10_add_34 ?_
    refine aw_sipush (v := 255) dX10_add_35 (by decide) ?_
    refine aw_iand dX10_add_38 ?_
    refine aw_i2c dX10_add_39 ?_
    obtain ⟨hi, h⟩ := h
    refine aw_castore dX10_add_40 ly_2 hi ?_
    refine aw_aload_n (j := 0) dX10_add_41 rfl rfl ?_
    refine aw_dup dX10_add_42 rfl ?_
    refine aw_getfield (c := 0) (v := .int ((uI m 2 (m.1 1 1).toNatClampNeg (vp_nar .char (((((x1.toUInt32 >>> (((24 : Int32) - ((8 : Int32) * x2)).toUInt32 &&& Int32.toUInt32 31)).toInt32) &&& (255 : Int32)).toUInt32 % 65536).toInt32))).1 1 1)) dX10_add_43 f_X10_13 ly_1 rfl rfl ?_
    refine aw_iconst (v := 1) dX10_add_46 (by decide) ?_
    refine aw_iadd dX10_add_47 ?_
    refine aw_putI dX10_add_48 f_X10_13 cl_X10 rfl ly_1 rfl rfl rfl ?_
    refine aw_iinc (j := 2) (v := x2 + (1 : Int32)) (L' := [(2, .int (x2 + (1 : Int32))), (0, .ref (ad 1)), (1, .int x1)]) dX10_add_51 rfl rfl (by decide) rfl ?_
    refine aw_goto (tgt := 13) dX10_add_54 (by decide) ?_
    exact aw_sub [1, 2, 0] rfl h
set_option maxRecDepth 100000 in
set_option maxHeartbeats 4000000 in
theorem v_X10_cut {ad : Nat → Nat} {d : Nat} {Q : Option Value → Wm → Prop} {m : Wm} {x1 : Int32} (h : ((x1 < 0 → Q (some (.int (0 : Int32))) m) ∧ (¬ x1 < 0 → ((x1 ≤ (m.1 1 1) → Q (some (.int (1 : Int32))) (uI m 1 1 x1)) ∧ (¬ x1 ≤ (m.1 1 1) → Q (some (.int (0 : Int32))) m))))) : Ct ad μX10_cut d [.ref (ad 1), .int x1] m Q := by
  refine Ct.of (by decide +kernel) rfl (Nat.le_of_ble_eq_true rfl) ?_
  refine aw_eq (L' := [(0, .ref (ad 1)), (1, .int x1)]) ?_ rfl rfl rfl
  refine aw_iload_n (j := 1) dX10_cut_0 rfl rfl ?_
  refine aw_if_lt (tgt := 12) dX10_cut_1 (by decide) (fun hc => ?_) (fun hc => ?_)
  · have h := h.1 hc
    refine aw_iconst (v := 0) dX10_cut_12 (by decide) ?_
    exact aw_ret (v := some (.int (0 : Int32))) rfl (Or.inr (Or.inl ⟨_, .boolean, rfl, rfl, by decide, dX10_cut_13⟩)) h
  · have h := h.2 hc
    refine aw_iload_n (j := 1) dX10_cut_4 rfl rfl ?_
    refine aw_aload_n (j := 0) dX10_cut_5 rfl rfl ?_
    refine aw_getfield (c := 0) (v := .int (m.1 1 1)) dX10_cut_6 f_X10_13 ly_1 rfl rfl ?_
    refine aw_icmp_le (tgt := 14) dX10_cut_9 (by decide) (fun hc => ?_) (fun hc => ?_)
    · have h := h.1 hc
      refine aw_aload_n (j := 0) dX10_cut_14 rfl rfl ?_
      refine aw_iload_n (j := 1) dX10_cut_15 rfl rfl ?_
      refine aw_putI dX10_cut_16 f_X10_13 cl_X10 rfl ly_1 rfl rfl rfl ?_
      refine aw_iconst (v := 1) dX10_cut_19 (by decide) ?_
      exact aw_ret (v := some (.int (1 : Int32))) rfl (Or.inr (Or.inl ⟨_, .boolean, rfl, rfl, by decide, dX10_cut_20⟩)) h
    · have h := h.2 hc
      refine aw_iconst (v := 0) dX10_cut_12 (by decide) ?_
      exact aw_ret (v := some (.int (0 : Int32))) rfl (Or.inr (Or.inl ⟨_, .boolean, rfl, rfl, by decide, dX10_cut_13⟩)) h
