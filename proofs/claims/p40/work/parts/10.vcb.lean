set_option maxRecDepth 100000 in
set_option maxHeartbeats 4000000 in
theorem v_X11_sign {ad : Nat → Nat} {d : Nat} {Q : Option Value → Wm → Prop} {m : Wm} {x1 : Int32} (h : (Ct ad μX10_add d [.ref (ad 1), .int x1] m (fun r m1 => ∃ v2 : Int32, r = some (.int v2) ∧ ((v2 = 0 → Q (some (.int (-1 : Int32))) m1) ∧ (¬ v2 = 0 → Q (some (.int (m1.1 1 1))) m1))))) : Ct ad μX11_sign (d + 1) [.ref (ad 0), .int x1] m Q := by
  refine Ct.of (by decide +kernel) rfl (Nat.le_of_ble_eq_true rfl) ?_
  refine aw_eq (L' := [(0, .ref (ad 0)), (1, .int x1)]) ?_ rfl rfl rfl
  refine aw_aload_n (j := 0) dX11_sign_0 rfl rfl ?_
  refine aw_getfield (c := 4) (v := .ref (ad 1)) dX11_sign_1 f_X11_12 ly_0 rfl rfl ?_
  refine aw_iload_n (j := 1) dX11_sign_4 rfl rfl ?_
  refine aw_callV (rest := []) [.int x1] dX11_sign_5 ly_1 rfl k_X11_110 rfl h (Nat.le_of_ble_eq_true rfl) (fun v m1 h => ?_)
  obtain ⟨v2, rfl, h⟩ := h
  refine aw_eq (L' := [(0, .ref (ad 0)), (1, .int x1)]) (st' := [.int v2]) (m' := m1) ?_ rfl rfl rfl
  refine aw_if_eq (tgt := 21) dX11_sign_8 (by decide) (fun hc => ?_) (fun hc => ?_)
  · have h := h.1 hc
    refine aw_iconst (v := -1) dX11_sign_21 (by decide) ?_
    exact aw_ret (v := some (.int (-1 : Int32))) rfl (Or.inr (Or.inl ⟨_, .int, rfl, rfl, rfl, dX11_sign_22⟩)) h
  · have h := h.2 hc
    refine aw_aload_n (j := 0) dX11_sign_11 rfl rfl ?_
    refine aw_getfield (c := 4) (v := .ref (ad 1)) dX11_sign_12 f_X11_12 ly_0 rfl rfl ?_
    refine aw_getfield (c := 0) (v := .int (m1.1 1 1)) dX11_sign_15 f_X11_114 ly_1 rfl rfl ?_
    refine aw_goto (tgt := 22) dX11_sign_18 (by decide) ?_
    exact aw_ret (v := some (.int (m1.1 1 1))) rfl (Or.inr (Or.inl ⟨_, .int, rfl, rfl, rfl, dX11_sign_22⟩)) h
set_option maxRecDepth 100000 in
set_option maxHeartbeats 4000000 in
theorem v_X11_end {ad : Nat → Nat} {d : Nat} {Q : Option Value → Wm → Prop} {m : Wm} {x1 : Int32} (h : (Ct ad μX10_cut d [.ref (ad 1), .int x1] m (fun r m1 => ∃ v2 : Int32, r = some (.int v2) ∧ (bz v2 ∧ Q (some (.int v2)) m1)))) : Ct ad μX11_end (d + 1) [.ref (ad 0), .int x1] m Q := by
  refine Ct.of (by decide +kernel) rfl (Nat.le_of_ble_eq_true rfl) ?_
  refine aw_eq (L' := [(0, .ref (ad 0)), (1, .int x1)]) ?_ rfl rfl rfl
  refine aw_aload_n (j := 0) dX11_end_0 rfl rfl ?_
  refine aw_getfield (c := 4) (v := .ref (ad 1)) dX11_end_1 f_X11_12 ly_0 rfl rfl ?_
  refine aw_iload_n (j := 1) dX11_end_4 rfl rfl ?_
  refine aw_callV (rest := []) [.int x1] dX11_end_5 ly_1 rfl k_X11_117 rfl h (Nat.le_of_ble_eq_true rfl) (fun v m1 h => ?_)
  obtain ⟨v2, rfl, h⟩ := h
  refine aw_eq (L' := [(0, .ref (ad 0)), (1, .int x1)]) (st' := [.int v2]) (m' := m1) ?_ rfl rfl rfl
  exact aw_ret (v := some (.int v2)) rfl (Or.inr (Or.inl ⟨_, .boolean, rfl, rfl, h.1.n, dX11_end_8⟩)) h.2
set_option maxRecDepth 100000 in
set_option maxHeartbeats 4000000 in
theorem v_X11_league {ad : Nat → Nat} {d : Nat} {Q : Option Value → Wm → Prop} {m : Wm} (h : ((¬ (m.1 1 1) = 0 → (Ct ad μX4_read d [.ref (ad 15), .ref (ad 1), .ref (ad 3), .ref (ad 21)] m (fun r m1 => ∃ v2 : Int32, r = some (.int v2) ∧ ((v2 = (-1 : Int32) → (Ct ad μX4_enter d [.ref (ad 15), .ref (ad 3), .ref (ad 21)] (uI m1 1 1 (0 : Int32)) (fun r m3 => r = none ∧ (((m3.1 15 7) = 0 → AW ad E0 μX11_league (d + 1) Q 101 [(0, .ref (ad 0)), (2, .int (0 : Int32))] [] (uI m3 31 1 (0 : Int32))) ∧ (¬ (m3.1 15 7) = 0 → (∃ r4, m3.2.2 0 9 = some r4 ∧ Pl r4 ∧ (Ct ad μX3_clear d [.ref (ad r4)] m3 (fun r m5 => r = none ∧ AW ad E0 μX11_league (d + 1) Q 101 [(0, .ref (ad 0)), (2, .int (0 : Int32))] [] (uI (uI (uI m5 0 11 (0 : Int32)) 0 15 (0 : Int32)) 31 1 (0 : Int32)))))))))) ∧ (¬ v2 = (-1 : Int32) → Q (some (.int ((-1 : Int32) - v2))) (uI m1 1 1 (0 : Int32))))))) ∧ ((m.1 1 1) = 0 → Q (some (.int (0 : Int32))) m))) : Ct ad μX11_league (d + 1) [.ref (ad 0)] m Q := by
  refine Ct.of (by decide +kernel) rfl (Nat.le_of_ble_eq_true rfl) ?_
  refine aw_eq (L' := [(0, .ref (ad 0))]) ?_ rfl rfl rfl
  refine aw_aload_n (j := 0) dX11_league_0 rfl rfl ?_
  refine aw_getfield (c := 4) (v := .ref (ad 1)) dX11_league_1 f_X11_12 ly_0 rfl rfl ?_
  refine aw_getfield (c := 0) (v := .int (m.1 1 1)) dX11_league_4 f_X11_114 ly_1 rfl rfl ?_
  refine aw_if_ne (tgt := 12) dX11_league_7 (by decide) (fun hc => ?_) (fun hc => ?_)
  · have h := h.1 hc
    refine aw_aload_n (j := 0) dX11_league_12 rfl rfl ?_
    refine aw_getfield (c := 18) (v := .ref (ad 15)) dX11_league_13 f_X11_26 ly_0 rfl rfl ?_
    refine aw_aload_n (j := 0) dX11_league_16 rfl rfl ?_
    refine aw_getfield (c := 4) (v := .ref (ad 1)) dX11_league_17 f_X11_12 ly_0 rfl rfl ?_
    refine aw_aload_n (j := 0) dX11_league_20 rfl rfl ?_
    refine aw_getfield (c := 6) (v := .ref (ad 3)) dX11_league_21 f_X11_19 ly_0 rfl rfl ?_
    refine aw_aload_n (j := 0) dX11_league_24 rfl rfl ?_
    refine aw_getfield (c := 24) (v := .ref (ad 21)) dX11_league_25 f_X11_33 ly_0 rfl rfl ?_
    refine aw_callV (rest := []) [.ref (ad 1), .ref (ad 3), .ref (ad 21)] dX11_league_28 ly_15 rfl k_X11_120 rfl h (Nat.le_of_ble_eq_true rfl) (fun v m1 h => ?_)
    obtain ⟨v2, rfl, h⟩ := h
    refine aw_eq (L' := [(0, .ref (ad 0))]) (st' := [.int v2]) (m' := m1) ?_ rfl rfl rfl
    refine aw_istore_n (L' := [(1, .int v2), (0, .ref (ad 0))]) dX11_league_31 rfl (by decide) rfl ?_
    refine aw_aload_n (j := 1) dX11_league_32 rfl rfl ?_
    refine aw_getfield (c := 4) (v := .ref (ad 1)) dX11_league_33 f_X11_12 ly_0 rfl rfl ?_
    refine aw_iconst (v := 0) dX11_league_36 (by decide) ?_
    refine aw_putI dX11_league_37 f_X11_114 cl_X10 rfl ly_1 rfl rfl rfl ?_
    refine aw_iload_n (j := 0) dX11_league_40 rfl rfl ?_
    refine aw_iconst (v := -1) dX11_league_41 (by decide) ?_
    refine aw_icmp_eq (tgt := 49) dX11_league_42 (by decide) (fun hc => ?_) (fun hc => ?_)
    · have h := h.1 hc
      refine aw_aload_n (j := 1) dX11_league_49 rfl rfl ?_
      refine aw_getfield (c := 18) (v := .ref (ad 15)) dX11_league_50 f_X11_26 ly_0 rfl rfl ?_
      refine aw_aload_n (j := 1) dX11_league_53 rfl rfl ?_
      refine aw_getfield (c := 6) (v := .ref (ad 3)) dX11_league_54 f_X11_19 ly_0 rfl rfl ?_
      refine aw_aload_n (j := 1) dX11_league_57 rfl rfl ?_
      refine aw_getfield (c := 24) (v := .ref (ad 21)) dX11_league_58 f_X11_33 ly_0 rfl rfl ?_
      refine aw_callV (rest := []) [.ref (ad 3), .ref (ad 21)] dX11_league_61 ly_15 rfl k_X11_124 rfl h (Nat.le_of_ble_eq_true rfl) (fun v m3 h => ?_)
      obtain ⟨rfl, h⟩ := h
      refine aw_eq (L' := [(1, .int v2), (0, .ref (ad 0))]) (st' := []) (m' := m3) ?_ rfl rfl rfl
      refine aw_aload_n (j := 1) dX11_league_64 rfl rfl ?_
      refine aw_getfield (c := 18) (v := .ref (ad 15)) dX11_league_65 f_X11_26 ly_0 rfl rfl ?_
      refine aw_getfield (c := 0) (v := .int (m3.1 15 7)) dX11_league_68 f_X11_128 ly_15 rfl rfl ?_
      refine aw_if_eq (tgt := 91) dX11_league_71 (by decide) (fun hc => ?_) (fun hc => ?_)
      · have h := h.1 hc
        refine aw_aload_n (j := 1) dX11_league_91 rfl rfl ?_
        refine aw_getfield (c := 34) (v := .ref (ad 31)) dX11_league_92 f_X11_43 ly_0 rfl rfl ?_
        refine aw_iconst (v := 0) dX11_league_95 (by decide) ?_
        refine aw_putI dX11_league_96 f_X11_135 cl_X2 rfl ly_31 rfl rfl rfl ?_
        refine aw_iconst (v := 0) dX11_league_99 (by decide) ?_
        refine aw_istore_n (L' := [(2, .int (0 : Int32)), (1, .int v2), (0, .ref (ad 0))]) dX11_league_100 rfl (by decide) rfl ?_
        exact aw_sub [2, 0] rfl h
      · have h := h.2 hc
        refine aw_aload_n (j := 1) dX11_league_74 rfl rfl ?_
        obtain ⟨r4, hrr4, hr4, h⟩ := h
        refine aw_getfield (c := 2) (v := .ref (ad r4)) dX11_league_75 f_X11_56 ly_0 rfl (by show va_rf (Option.map ad (m3.2.2 0 9)) = _; rw [hrr4]; rfl) ?_
        refine aw_callV (rest := []) [] dX11_league_78 hr4.1 rfl k_X11_132 rfl h (Nat.le_of_ble_eq_true rfl) (fun v m5 h => ?_)
        obtain ⟨rfl, h⟩ := h
        refine aw_eq (L' := [(1, .int v2), (0, .ref (ad 0))]) (st' := []) (m' := m5) ?_ rfl rfl rfl
        refine aw_aload_n (j := 1) dX11_league_81 rfl rfl ?_
        refine aw_iconst (v := 0) dX11_league_82 (by decide) ?_
        refine aw_putI dX11_league_83 f_X11_63 cl_X11 rfl ly_0 rfl rfl rfl ?_
        refine aw_aload_n (j := 1) dX11_league_86 rfl rfl ?_
        refine aw_iconst (v := 0) dX11_league_87 (by decide) ?_
        refine aw_putI dX11_league_88 f_X11_77 cl_X11 rfl ly_0 rfl rfl rfl ?_
        refine aw_aload_n (j := 1) dX11_league_91 rfl rfl ?_
        refine aw_getfield (c := 34) (v := .ref (ad 31)) dX11_league_92 f_X11_43 ly_0 rfl rfl ?_
        refine aw_iconst (v := 0) dX11_league_95 (by decide) ?_
        refine aw_putI dX11_league_96 f_X11_135 cl_X2 rfl ly_31 rfl rfl rfl ?_
        refine aw_iconst (v := 0) dX11_league_99 (by decide) ?_
        refine aw_istore_n (L' := [(2, .int (0 : Int32)), (1, .int v2), (0, .ref (ad 0))]) dX11_league_100 rfl (by decide) rfl ?_
        exact aw_sub [2, 0] rfl h
    · have h := h.2 hc
      refine aw_iconst (v := -1) dX11_league_45 (by decide) ?_
      refine aw_iload_n (j := 0) dX11_league_46 rfl rfl ?_
      refine aw_isub dX11_league_47 ?_
      exact aw_ret (v := some (.int ((-1 : Int32) - v2))) rfl (Or.inr (Or.inl ⟨_, .int, rfl, rfl, rfl, dX11_league_48⟩)) h
  · have h := h.2 hc
    refine aw_iconst (v := 0) dX11_league_10 (by decide) ?_
    exact aw_ret (v := some (.int (0 : Int32))) rfl (Or.inr (Or.inl ⟨_, .int, rfl, rfl, rfl, dX11_league_11⟩)) h
set_option maxRecDepth 100000 in
set_option maxHeartbeats 4000000 in
theorem g_X11_league_101 {ad : Nat → Nat} {d : Nat} {Q : Option Value → Wm → Prop} {m : Wm} {x2 : Int32} (h : (((2 : Int32) ≤ x2 → Q (some (.int (m.1 15 4))) m) ∧ (¬ (2 : Int32) ≤ x2 → (vp_in x2 2 ∧ (∃ r1, m.2.2 133 x2.toNatClampNeg = some r1 ∧ Ke r1 ∧ AW ad E0 μX11_league (d + 1) Q 101 [(0, .ref (ad 0)), (2, .int (x2 + (1 : Int32)))] [] (uI m r1 4 (0 : Int32))))))) : AW ad E0 μX11_league (d + 1) Q 101 [(0, .ref (ad 0)), (2, .int x2)] [] m := by
  refine aw_iload_n (j := 1) dX11_league_101 rfl rfl ?_
  refine aw_aload_n (j := 0) dX11_league_102 rfl rfl ?_
  refine aw_getfield (c := 136) (v := .ref (ad 133)) dX11_league_103 f_X11_49 ly_0 rfl rfl ?_
  refine aw_alen5 (v := (2 : Int32)) dX11_league_106 ly_133 (by decide) ?_
  refine aw_icmp_ge (tgt := 126) dX11_league_107 (by decide) (fun hc => ?_) (fun hc => ?_)
  · have h := h.1 hc
    refine aw_aload_n (j := 0) dX11_league_126 rfl rfl ?_
    refine aw_getfield (c := 18) (v := .ref (ad 15)) dX11_league_127 f_X11_26 ly_0 rfl rfl ?_
    refine aw_getfield (c := 0) (v := .int (m.1 15 4)) dX11_league_130 f_X11_139 ly_15 rfl rfl ?_
    exact aw_ret (v := some (.int (m.1 15 4))) rfl (Or.inr (Or.inl ⟨_, .int, rfl, rfl, rfl, dX11_league_133⟩)) h
  · have h := h.2 hc
    refine aw_aload_n (j := 0) dX11_league_110 rfl rfl ?_
    refine aw_getfield (c := 136) (v := .ref (ad 133)) dX11_league_111 f_X11_49 ly_0 rfl rfl ?_
    refine aw_iload_n (j := 1) dX11_league_114 rfl rfl ?_
    obtain ⟨hi, h⟩ := h
    obtain ⟨r1, hrr1, hr1, h⟩ := h
    refine aw_aaload5 dX11_league_115 ly_133 hi hrr1 ?_
    refine aw_iconst (v := 0) dX11_league_116 (by decide) ?_
    refine aw_putI dX11_league_117 f_X11_136 cl_X0 rfl hr1.1 rfl (by decide) (by decide) ?_
    refine aw_iinc (j := 1) (v := x2 + (1 : Int32)) (L' := [(2, .int (x2 + (1 : Int32))), (0, .ref (ad 0))]) dX11_league_120 rfl rfl (by decide) rfl ?_
    refine aw_goto (tgt := 101) dX11_league_123 (by decide) ?_
    exact aw_sub [1, 0] rfl h
set_option maxRecDepth 100000 in
set_option maxHeartbeats 4000000 in
theorem v_X11_rule {ad : Nat → Nat} {d : Nat} {Q : Option Value → Wm → Prop} {m : Wm} (h : (∃ r1, m.2.2 3 2 = some r1 ∧ Ru r1 ∧ (Ct ad μX5_compile d [.ref (ad r1), .ref (ad 1)] m (fun r m2 => ∃ v3 : Int32, r = some (.int v3) ∧ ((v3 = (-1 : Int32) → (∃ r4, (uI m2 1 1 (0 : Int32)).2.2 3 1 = some r4 ∧ Ru r4 ∧ (∃ r5, (uI m2 1 1 (0 : Int32)).2.2 3 2 = some r5 ∧ Ru r5 ∧ Q (some (.int (0 : Int32))) (uR (uR (uI m2 1 1 (0 : Int32)) 3 1 (some r5)) 3 2 (some r4))))) ∧ (¬ v3 = (-1 : Int32) → Q (some (.int ((-1 : Int32) - v3))) (uI m2 1 1 (0 : Int32)))))))) : Ct ad μX11_rule (d + 1) [.ref (ad 0)] m Q := by
  refine Ct.of (by decide +kernel) rfl (Nat.le_of_ble_eq_true rfl) ?_
  refine aw_eq (L' := [(0, .ref (ad 0))]) ?_ rfl rfl rfl
  refine aw_aload_n (j := 0) dX11_rule_0 rfl rfl ?_
  refine aw_getfield (c := 6) (v := .ref (ad 3)) dX11_rule_1 f_X11_19 ly_0 rfl rfl ?_
  obtain ⟨r1, hrr1, hr1, h⟩ := h
  refine aw_getfield (c := 2) (v := .ref (ad r1)) dX11_rule_4 f_X11_142 ly_3 rfl (by show va_rf (Option.map ad (m.2.2 3 2)) = _; rw [hrr1]; rfl) ?_
  refine aw_aload_n (j := 0) dX11_rule_7 rfl rfl ?_
  refine aw_getfield (c := 4) (v := .ref (ad 1)) dX11_rule_8 f_X11_12 ly_0 rfl rfl ?_
  refine aw_callV (rest := []) [.ref (ad 1)] dX11_rule_11 hr1.1 rfl k_X11_146 rfl h (Nat.le_of_ble_eq_true rfl) (fun v m2 h => ?_)
  obtain ⟨v3, rfl, h⟩ := h
  refine aw_eq (L' := [(0, .ref (ad 0))]) (st' := [.int v3]) (m' := m2) ?_ rfl rfl rfl
  refine aw_istore_n (L' := [(1, .int v3), (0, .ref (ad 0))]) dX11_rule_14 rfl (by decide) rfl ?_
  refine aw_aload_n (j := 1) dX11_rule_15 rfl rfl ?_
  refine aw_getfield (c := 4) (v := .ref (ad 1)) dX11_rule_16 f_X11_12 ly_0 rfl rfl ?_
  refine aw_iconst (v := 0) dX11_rule_19 (by decide) ?_
  refine aw_putI dX11_rule_20 f_X11_114 cl_X10 rfl ly_1 rfl rfl rfl ?_
  refine aw_iload_n (j := 0) dX11_rule_23 rfl rfl ?_
  refine aw_iconst (v := -1) dX11_rule_24 (by decide) ?_
  refine aw_icmp_eq (tgt := 32) dX11_rule_25 (by decide) (fun hc => ?_) (fun hc => ?_)
  · have h := h.1 hc
    refine aw_aload_n (j := 1) dX11_rule_32 rfl rfl ?_
    refine aw_getfield (c := 6) (v := .ref (ad 3)) dX11_rule_33 f_X11_19 ly_0 rfl rfl ?_
    obtain ⟨r4, hrr4, hr4, h⟩ := h
    refine aw_getfield (c := 2) (v := .ref (ad r4)) dX11_rule_36 f_X11_152 ly_3 rfl (by show va_rf (Option.map ad ((uI m2 1 1 (0 : Int32)).2.2 3 1)) = _; rw [hrr4]; rfl) ?_
    refine aw_astore_n (L' := [(2, .ref (ad r4)), (1, .int v3), (0, .ref (ad 0))]) dX11_rule_39 rfl (by decide) rfl ?_
    refine aw_aload_n (j := 2) dX11_rule_40 rfl rfl ?_
    refine aw_getfield (c := 6) (v := .ref (ad 3)) dX11_rule_41 f_X11_19 ly_0 rfl rfl ?_
    refine aw_aload_n (j := 2) dX11_rule_44 rfl rfl ?_
    refine aw_getfield (c := 6) (v := .ref (ad 3)) dX11_rule_45 f_X11_19 ly_0 rfl rfl ?_
    obtain ⟨r5, hrr5, hr5, h⟩ := h
    refine aw_getfield (c := 2) (v := .ref (ad r5)) dX11_rule_48 f_X11_142 ly_3 rfl (by show va_rf (Option.map ad ((uI m2 1 1 (0 : Int32)).2.2 3 2)) = _; rw [hrr5]; rfl) ?_
    refine aw_putR dX11_rule_51 f_X11_152 cl_X1 rfl ly_3 rfl rfl rfl ?_
    refine aw_aload_n (j := 2) dX11_rule_54 rfl rfl ?_
    refine aw_getfield (c := 6) (v := .ref (ad 3)) dX11_rule_55 f_X11_19 ly_0 rfl rfl ?_
    refine aw_aload_n (j := 0) dX11_rule_58 rfl rfl ?_
    refine aw_putR dX11_rule_59 f_X11_142 cl_X1 rfl ly_3 rfl rfl rfl ?_
    refine aw_iconst (v := 0) dX11_rule_62 (by decide) ?_
    exact aw_ret (v := some (.int (0 : Int32))) rfl (Or.inr (Or.inl ⟨_, .int, rfl, rfl, rfl, dX11_rule_63⟩)) h
  · have h := h.2 hc
    refine aw_iconst (v := -1) dX11_rule_28 (by decide) ?_
    refine aw_iload_n (j := 0) dX11_rule_29 rfl rfl ?_
    refine aw_isub dX11_rule_30 ?_
    exact aw_ret (v := some (.int ((-1 : Int32) - v3))) rfl (Or.inr (Or.inl ⟨_, .int, rfl, rfl, rfl, dX11_rule_31⟩)) h
set_option maxRecDepth 100000 in
set_option maxHeartbeats 4000000 in
theorem v_X11_plan {ad : Nat → Nat} {d : Nat} {Q : Option Value → Wm → Prop} {m : Wm} (h : (∃ r1, m.2.2 0 10 = some r1 ∧ Pl r1 ∧ (Ct ad μX3_compile d [.ref (ad r1), .ref (ad 1), .int (m.1 3 3)] m (fun r m2 => ∃ v3 : Int32, r = some (.int v3) ∧ ((v3 = (-1 : Int32) → (∃ r4, (uI m2 1 1 (0 : Int32)).2.2 0 9 = some r4 ∧ Pl r4 ∧ (∃ r5, (uI m2 1 1 (0 : Int32)).2.2 0 10 = some r5 ∧ Pl r5 ∧ (∃ r6, (uI (uR (uR (uI m2 1 1 (0 : Int32)) 0 9 (some r5)) 0 10 (some r4)) 0 11 (0 : Int32)).2.2 0 9 = some r6 ∧ Pl r6 ∧ Q (some (.int ((uI (uR (uR (uI m2 1 1 (0 : Int32)) 0 9 (some r5)) 0 10 (some r4)) 0 11 (0 : Int32)).1 r6 5))) (uI (uR (uR (uI m2 1 1 (0 : Int32)) 0 9 (some r5)) 0 10 (some r4)) 0 11 (0 : Int32)))))) ∧ (¬ v3 = (-1 : Int32) → Q (some (.int ((-1 : Int32) - v3))) (uI m2 1 1 (0 : Int32)))))))) : Ct ad μX11_plan (d + 1) [.ref (ad 0)] m Q := by
  refine Ct.of (by decide +kernel) rfl (Nat.le_of_ble_eq_true rfl) ?_
  refine aw_eq (L' := [(0, .ref (ad 0))]) ?_ rfl rfl rfl
  refine aw_aload_n (j := 0) dX11_plan_0 rfl rfl ?_
  obtain ⟨r1, hrr1, hr1, h⟩ := h
  refine aw_getfield (c := 2) (v := .ref (ad r1)) dX11_plan_1 f_X11_60 ly_0 rfl (by show va_rf (Option.map ad (m.2.2 0 10)) = _; rw [hrr1]; rfl) ?_
  refine aw_aload_n (j := 0) dX11_plan_4 rfl rfl ?_
  refine aw_getfield (c := 4) (v := .ref (ad 1)) dX11_plan_5 f_X11_12 ly_0 rfl rfl ?_
  refine aw_aload_n (j := 0) dX11_plan_8 rfl rfl ?_
  refine aw_getfield (c := 6) (v := .ref (ad 3)) dX11_plan_9 f_X11_19 ly_0 rfl rfl ?_
  refine aw_getfield (c := 0) (v := .int (m.1 3 3)) dX11_plan_12 f_X11_155 ly_3 rfl rfl ?_
  refine aw_callV (rest := []) [.ref (ad 1), .int (m.1 3 3)] dX11_plan_15 hr1.1 rfl k_X11_158 rfl h (Nat.le_of_ble_eq_true rfl) (fun v m2 h => ?_)
  obtain ⟨v3, rfl, h⟩ := h
  refine aw_eq (L' := [(0, .ref (ad 0))]) (st' := [.int v3]) (m' := m2) ?_ rfl rfl rfl
  refine aw_istore_n (L' := [(1, .int v3), (0, .ref (ad 0))]) dX11_plan_18 rfl (by decide) rfl ?_
  refine aw_aload_n (j := 1) dX11_plan_19 rfl rfl ?_
  refine aw_getfield (c := 4) (v := .ref (ad 1)) dX11_plan_20 f_X11_12 ly_0 rfl rfl ?_
  refine aw_iconst (v := 0) dX11_plan_23 (by decide) ?_
  refine aw_putI dX11_plan_24 f_X11_114 cl_X10 rfl ly_1 rfl rfl rfl ?_
  refine aw_iload_n (j := 0) dX11_plan_27 rfl rfl ?_
  refine aw_iconst (v := -1) dX11_plan_28 (by decide) ?_
  refine aw_icmp_eq (tgt := 36) dX11_plan_29 (by decide) (fun hc => ?_) (fun hc => ?_)
  · have h := h.1 hc
    refine aw_aload_n (j := 1) dX11_plan_36 rfl rfl ?_
    obtain ⟨r4, hrr4, hr4, h⟩ := h
    refine aw_getfield (c := 2) (v := .ref (ad r4)) dX11_plan_37 f_X11_56 ly_0 rfl (by show va_rf (Option.map ad ((uI m2 1 1 (0 : Int32)).2.2 0 9)) = _; rw [hrr4]; rfl) ?_
    refine aw_astore_n (L' := [(2, .ref (ad r4)), (1, .int v3), (0, .ref (ad 0))]) dX11_plan_40 rfl (by decide) rfl ?_
    refine aw_aload_n (j := 2) dX11_plan_41 rfl rfl ?_
    refine aw_aload_n (j := 2) dX11_plan_42 rfl rfl ?_
    obtain ⟨r5, hrr5, hr5, h⟩ := h
    refine aw_getfield (c := 2) (v := .ref (ad r5)) dX11_plan_43 f_X11_60 ly_0 rfl (by show va_rf (Option.map ad ((uI m2 1 1 (0 : Int32)).2.2 0 10)) = _; rw [hrr5]; rfl) ?_
    refine aw_putR dX11_plan_46 f_X11_56 cl_X11 rfl ly_0 rfl rfl rfl ?_
    refine aw_aload_n (j := 2) dX11_plan_49 rfl rfl ?_
    refine aw_aload_n (j := 0) dX11_plan_50 rfl rfl ?_
    refine aw_putR dX11_plan_51 f_X11_60 cl_X11 rfl ly_0 rfl rfl rfl ?_
    refine aw_aload_n (j := 2) dX11_plan_54 rfl rfl ?_
    refine aw_iconst (v := 0) dX11_plan_55 (by decide) ?_
    refine aw_putI dX11_plan_56 f_X11_63 cl_X11 rfl ly_0 rfl rfl rfl ?_
    refine aw_aload_n (j := 2) dX11_plan_59 rfl rfl ?_
    obtain ⟨r6, hrr6, hr6, h⟩ := h
    refine aw_getfield (c := 2) (v := .ref (ad r6)) dX11_plan_60 f_X11_56 ly_0 rfl (by show va_rf (Option.map ad ((uI (uR (uR (uI m2 1 1 (0 : Int32)) 0 9 (some r5)) 0 10 (some r4)) 0 11 (0 : Int32)).2.2 0 9)) = _; rw [hrr6]; rfl) ?_
    refine aw_getfield (c := 0) (v := .int ((uI (uR (uR (uI m2 1 1 (0 : Int32)) 0 9 (some r5)) 0 10 (some r4)) 0 11 (0 : Int32)).1 r6 5)) dX11_plan_63 f_X11_161 hr6.1 rfl rfl ?_
    exact aw_ret (v := some (.int ((uI (uR (uR (uI m2 1 1 (0 : Int32)) 0 9 (some r5)) 0 10 (some r4)) 0 11 (0 : Int32)).1 r6 5))) rfl (Or.inr (Or.inl ⟨_, .int, rfl, rfl, rfl, dX11_plan_66⟩)) h
  · have h := h.2 hc
    refine aw_iconst (v := -1) dX11_plan_32 (by decide) ?_
    refine aw_iload_n (j := 0) dX11_plan_33 rfl rfl ?_
    refine aw_isub dX11_plan_34 ?_
    exact aw_ret (v := some (.int ((-1 : Int32) - v3))) rfl (Or.inr (Or.inl ⟨_, .int, rfl, rfl, rfl, dX11_plan_35⟩)) h
set_option maxRecDepth 100000 in
set_option maxHeartbeats 4000000 in
theorem v_X11_skill {ad : Nat → Nat} {d : Nat} {Q : Option Value → Wm → Prop} {m : Wm} {x1 x2 : Int32} (h : (Ct ad μX1_has d [.ref (ad 3), .int x1] m (fun r m1 => ∃ v2 : Int32, r = some (.int v2) ∧ ((v2 = 0 → Q (some (.int (-1 : Int32))) m1) ∧ (¬ v2 = 0 → (Ct ad μX1_knows d [.ref (ad 3), .int x2] m1 (fun r m3 => ∃ v4 : Int32, r = some (.int v4) ∧ ((v4 = 0 → Q (some (.int (-1 : Int32))) m3) ∧ (¬ v4 = 0 → (Ct ad μX8_skillOf d [.ref (ad 21), .int x1, .int x2] m3 (fun r m5 => ∃ v6 : Int32, r = some (.int v6) ∧ Q (some (.int v6)) m5))))))))))) : Ct ad μX11_skill (d + 1) [.ref (ad 0), .int x1, .int x2] m Q := by
  refine Ct.of (by decide +kernel) rfl (Nat.le_of_ble_eq_true rfl) ?_
  refine aw_eq (L' := [(0, .ref (ad 0)), (1, .int x1), (2, .int x2)]) ?_ rfl rfl rfl
  refine aw_aload_n (j := 0) dX11_skill_0 rfl rfl ?_
  refine aw_getfield (c := 6) (v := .ref (ad 3)) dX11_skill_1 f_X11_19 ly_0 rfl rfl ?_
  refine aw_iload_n (j := 1) dX11_skill_4 rfl rfl ?_
  refine aw_callV (rest := []) [.int x1] dX11_skill_5 ly_3 rfl k_X11_164 rfl h (Nat.le_of_ble_eq_true rfl) (fun v m1 h => ?_)
  obtain ⟨v2, rfl, h⟩ := h
  refine aw_eq (L' := [(0, .ref (ad 0)), (1, .int x1), (2, .int x2)]) (st' := [.int v2]) (m' := m1) ?_ rfl rfl rfl
  refine aw_if_eq (tgt := 34) dX11_skill_8 (by decide) (fun hc => ?_) (fun hc => ?_)
  · have h := h.1 hc
    refine aw_iconst (v := -1) dX11_skill_34 (by decide) ?_
    exact aw_ret (v := some (.int (-1 : Int32))) rfl (Or.inr (Or.inl ⟨_, .int, rfl, rfl, rfl, dX11_skill_35⟩)) h
  · have h := h.2 hc
    refine aw_aload_n (j := 0) dX11_skill_11 rfl rfl ?_
    refine aw_getfield (c := 6) (v := .ref (ad 3)) dX11_skill_12 f_X11_19 ly_0 rfl rfl ?_
    refine aw_iload_n (j := 2) dX11_skill_15 rfl rfl ?_
    refine aw_callV (rest := []) [.int x2] dX11_skill_16 ly_3 rfl k_X11_167 rfl h (Nat.le_of_ble_eq_true rfl) (fun v m3 h => ?_)
    obtain ⟨v4, rfl, h⟩ := h
    refine aw_eq (L' := [(0, .ref (ad 0)), (1, .int x1), (2, .int x2)]) (st' := [.int v4]) (m' := m3) ?_ rfl rfl rfl
    refine aw_if_eq (tgt := 34) dX11_skill_19 (by decide) (fun hc => ?_) (fun hc => ?_)
    · have h := h.1 hc
      refine aw_iconst (v := -1) dX11_skill_34 (by decide) ?_
      exact aw_ret (v := some (.int (-1 : Int32))) rfl (Or.inr (Or.inl ⟨_, .int, rfl, rfl, rfl, dX11_skill_35⟩)) h
    · have h := h.2 hc
      refine aw_aload_n (j := 0) dX11_skill_22 rfl rfl ?_
      refine aw_getfield (c := 24) (v := .ref (ad 21)) dX11_skill_23 f_X11_33 ly_0 rfl rfl ?_
      refine aw_iload_n (j := 1) dX11_skill_26 rfl rfl ?_
      refine aw_iload_n (j := 2) dX11_skill_27 rfl rfl ?_
      refine aw_callV (rest := []) [.int x1, .int x2] dX11_skill_28 ly_21 rfl k_X11_170 rfl h (Nat.le_of_ble_eq_true rfl) (fun v m5 h => ?_)
      obtain ⟨v6, rfl, h⟩ := h
      refine aw_eq (L' := [(0, .ref (ad 0)), (1, .int x1), (2, .int x2)]) (st' := [.int v6]) (m' := m5) ?_ rfl rfl rfl
      refine aw_goto (tgt := 35) dX11_skill_31 (by decide) ?_
      exact aw_ret (v := some (.int v6)) rfl (Or.inr (Or.inl ⟨_, .int, rfl, rfl, rfl, dX11_skill_35⟩)) h
set_option maxRecDepth 100000 in
set_option maxHeartbeats 4000000 in
theorem v_X11_law {ad : Nat → Nat} {d : Nat} {Q : Option Value → Wm → Prop} {m : Wm} {x1 x2 : Int32} (h : (Ct ad μX1_allows d [.int x1, .int x2] m (fun r m1 => ∃ v2 : Int32, r = some (.int v2) ∧ ((¬ v2 = 0 → (vp_in x1 5 ∧ (vp_in x1 5 ∧ Q (some (.int (m1.1 4 x1.toNatClampNeg))) (uI m1 4 x1.toNatClampNeg x2)))) ∧ (v2 = 0 → Q (some (.int (-1 : Int32))) m1))))) : Ct ad μX11_law (d + 1) [.ref (ad 0), .int x1, .int x2] m Q := by
  refine Ct.of (by decide +kernel) rfl (Nat.le_of_ble_eq_true rfl) ?_
  refine aw_eq (L' := [(0, .ref (ad 0)), (1, .int x1), (2, .int x2)]) ?_ rfl rfl rfl
  refine aw_iload_n (j := 1) dX11_law_0 rfl rfl ?_
  refine aw_iload_n (j := 2) dX11_law_1 rfl rfl ?_
  refine aw_callS (rest := []) [.int x1, .int x2] dX11_law_2 k_X11_193 rfl h (Nat.le_of_ble_eq_true rfl) (fun v m1 h => ?_)
  obtain ⟨v2, rfl, h⟩ := h
  refine aw_eq (L' := [(0, .ref (ad 0)), (1, .int x1), (2, .int x2)]) (st' := [.int v2]) (m' := m1) ?_ rfl rfl rfl
  refine aw_if_ne (tgt := 10) dX11_law_5 (by decide) (fun hc => ?_) (fun hc => ?_)
  · have h := h.1 hc
    refine aw_aload_n (j := 0) dX11_law_10 rfl rfl ?_
    refine aw_getfield (c := 6) (v := .ref (ad 3)) dX11_law_11 f_X11_19 ly_0 rfl rfl ?_
    refine aw_getfield (c := 7) (v := .ref (ad 4)) dX11_law_14 f_X11_197 ly_3 rfl rfl ?_
    refine aw_iload_n (j := 1) dX11_law_17 rfl rfl ?_
    obtain ⟨hi, h⟩ := h
    refine aw_iaload dX11_law_18 ly_4 hi ?_
    refine aw_istore_n (L' := [(3, .int (m1.1 4 x1.toNatClampNeg)), (0, .ref (ad 0)), (1, .int x1), (2, .int x2)]) dX11_law_19 rfl (by decide) rfl ?_
    refine aw_aload_n (j := 1) dX11_law_20 rfl rfl ?_
    refine aw_getfield (c := 6) (v := .ref (ad 3)) dX11_law_21 f_X11_19 ly_0 rfl rfl ?_
    refine aw_getfield (c := 7) (v := .ref (ad 4)) dX11_law_24 f_X11_197 ly_3 rfl rfl ?_
    refine aw_iload_n (j := 2) dX11_law_27 rfl rfl ?_
    refine aw_iload_n (j := 3) dX11_law_28 rfl rfl ?_
    obtain ⟨hi, h⟩ := h
    refine aw_iastore dX11_law_29 ly_4 hi ?_
    refine aw_iload_n (j := 0) dX11_law_30 rfl rfl ?_
    exact aw_ret (v := some (.int (m1.1 4 x1.toNatClampNeg))) rfl (Or.inr (Or.inl ⟨_, .int, rfl, rfl, rfl, dX11_law_31⟩)) h
  · have h := h.2 hc
    refine aw_iconst (v := -1) dX11_law_8 (by decide) ?_
    exact aw_ret (v := some (.int (-1 : Int32))) rfl (Or.inr (Or.inl ⟨_, .int, rfl, rfl, rfl, dX11_law_9⟩)) h
set_option maxRecDepth 100000 in
set_option maxHeartbeats 4000000 in
theorem v_X11_sheet {ad : Nat → Nat} {d : Nat} {Q : Option Value → Wm → Prop} {m : Wm} {x1 x2 x3 x4 x5 : Int32} (h : (Ct ad μX1_knows d [.ref (ad 3), .int x1] m (fun r m1 => ∃ v2 : Int32, r = some (.int v2) ∧ ((v2 = 0 → Q (some (.int (-1 : Int32))) m1) ∧ (¬ v2 = 0 → ((x2 < 0 → Q (some (.int (-1 : Int32))) m1) ∧ (¬ x2 < 0 → (((3 : Int32) < x2 → Q (some (.int (-1 : Int32))) m1) ∧ (¬ (3 : Int32) < x2 → ((x3 ≤ (8 : Int32) → ((¬ x2 = (3 : Int32) → AW ad E0 μX11_sheet (d + 1) Q 38 [(0, .ref (ad 0)), (1, .int x1), (2, .int x2), (3, .int x3), (4, .int x4), (5, .int x5)] [.int (0 : Int32)] m1) ∧ (x2 = (3 : Int32) → AW ad E0 μX11_sheet (d + 1) Q 38 [(0, .ref (ad 0)), (1, .int x1), (2, .int x2), (3, .int x3), (4, .int x4), (5, .int x5)] [.int (1 : Int32)] m1))) ∧ (¬ x3 ≤ (8 : Int32) → Q (some (.int (-1 : Int32))) m1))))))))))) : Ct ad μX11_sheet (d + 1) [.ref (ad 0), .int x1, .int x2, .int x3, .int x4, .int x5] m Q := by
  refine Ct.of (by decide +kernel) rfl (Nat.le_of_ble_eq_true rfl) ?_
  refine aw_eq (L' := [(0, .ref (ad 0)), (1, .int x1), (2, .int x2), (3, .int x3), (4, .int x4), (5, .int x5)]) ?_ rfl rfl rfl
  refine aw_aload_n (j := 0) dX11_sheet_0 rfl rfl ?_
  refine aw_getfield (c := 6) (v := .ref (ad 3)) dX11_sheet_1 f_X11_19 ly_0 rfl rfl ?_
  refine aw_iload_n (j := 1) dX11_sheet_4 rfl rfl ?_
  refine aw_callV (rest := []) [.int x1] dX11_sheet_5 ly_3 rfl k_X11_167 rfl h (Nat.le_of_ble_eq_true rfl) (fun v m1 h => ?_)
  obtain ⟨v2, rfl, h⟩ := h
  refine aw_eq (L' := [(0, .ref (ad 0)), (1, .int x1), (2, .int x2), (3, .int x3), (4, .int x4), (5, .int x5)]) (st' := [.int v2]) (m' := m1) ?_ rfl rfl rfl
  refine aw_if_eq (tgt := 26) dX11_sheet_8 (by decide) (fun hc => ?_) (fun hc => ?_)
  · have h := h.1 hc
    refine aw_iconst (v := -1) dX11_sheet_26 (by decide) ?_
    exact aw_ret (v := some (.int (-1 : Int32))) rfl (Or.inr (Or.inl ⟨_, .int, rfl, rfl, rfl, dX11_sheet_27⟩)) h
  · have h := h.2 hc
    refine aw_iload_n (j := 2) dX11_sheet_11 rfl rfl ?_
    refine aw_if_lt (tgt := 26) dX11_sheet_12 (by decide) (fun hc => ?_) (fun hc => ?_)
    · have h := h.1 hc
      refine aw_iconst (v := -1) dX11_sheet_26 (by decide) ?_
      exact aw_ret (v := some (.int (-1 : Int32))) rfl (Or.inr (Or.inl ⟨_, .int, rfl, rfl, rfl, dX11_sheet_27⟩)) h
    · have h := h.2 hc
      refine aw_iload_n (j := 2) dX11_sheet_15 rfl rfl ?_
      refine aw_iconst (v := 3) dX11_sheet_16 (by decide) ?_
      refine aw_icmp_gt (tgt := 26) dX11_sheet_17 (by decide) (fun hc => ?_) (fun hc => ?_)
      · have h := h.1 hc
        refine aw_iconst (v := -1) dX11_sheet_26 (by decide) ?_
        exact aw_ret (v := some (.int (-1 : Int32))) rfl (Or.inr (Or.inl ⟨_, .int, rfl, rfl, rfl, dX11_sheet_27⟩)) h
      · have h := h.2 hc
        refine aw_iload_n (j := 3) dX11_sheet_20 rfl rfl ?_
        refine aw_bipush (v := 8) dX11_sheet_21 (by decide) ?_
        refine aw_icmp_le (tgt := 28) dX11_sheet_23 (by decide) (fun hc => ?_) (fun hc => ?_)
        · have h := h.1 hc
          refine aw_iload_n (j := 2) dX11_sheet_28 rfl rfl ?_
          refine aw_iconst (v := 3) dX11_sheet_29 (by decide) ?_
          refine aw_icmp_ne (tgt := 37) dX11_sheet_30 (by decide) (fun hc => ?_) (fun hc => ?_)
          · have h := h.1 hc
            refine aw_iconst (v := 0) dX11_sheet_37 (by decide) ?_
            exact aw_sub [0, 1, 2, 3, 4, 5] rfl h
          · have h := h.2 hc
            refine aw_iconst (v := 1) dX11_sheet_33 (by decide) ?_
            refine aw_goto (tgt := 38) dX11_sheet_34 (by decide) ?_
            exact aw_sub [0, 1, 2, 3, 4, 5] rfl h
        · have h := h.2 hc
          refine aw_iconst (v := -1) dX11_sheet_26 (by decide) ?_
          exact aw_ret (v := some (.int (-1 : Int32))) rfl (Or.inr (Or.inl ⟨_, .int, rfl, rfl, rfl, dX11_sheet_27⟩)) h
set_option maxRecDepth 100000 in
set_option maxHeartbeats 4000000 in
theorem g_X11_sheet_38 {ad : Nat → Nat} {d : Nat} {Q : Option Value → Wm → Prop} {m : Wm} {x1 x2 x3 x4 x5 s0 : Int32} (h : ((0 ≤ x3 → AW ad E0 μX11_sheet (d + 1) Q 58 [(0, .ref (ad 0)), (1, .int x1), (2, .int x2), (3, .int x3), (4, .int x4), (5, .int x5), (6, .int s0), (7, .int (0 : Int32)), (8, .int (0 : Int32))] [] m) ∧ (¬ 0 ≤ x3 → ((¬ s0 = 0 → AW ad E0 μX11_sheet (d + 1) Q 58 [(0, .ref (ad 0)), (1, .int x1), (2, .int x2), (3, .int x3), (4, .int x4), (5, .int x5), (6, .int s0), (7, .int (0 : Int32)), (8, .int (0 : Int32))] [] m) ∧ (s0 = 0 → Q (some (.int (-2 : Int32))) m))))) : AW ad E0 μX11_sheet (d + 1) Q 38 [(0, .ref (ad 0)), (1, .int x1), (2, .int x2), (3, .int x3), (4, .int x4), (5, .int x5)] [.int s0] m := by
  refine aw_istore (L' := [(6, .int s0), (0, .ref (ad 0)), (1, .int x1), (2, .int x2), (3, .int x3), (4, .int x4), (5, .int x5)]) dX11_sheet_38 (by decide) rfl ?_
  refine aw_iload_n (j := 4) dX11_sheet_40 rfl rfl ?_
  refine aw_if_ge (tgt := 52) dX11_sheet_41 (by decide) (fun hc => ?_) (fun hc => ?_)
  · have h := h.1 hc
    refine aw_iconst (v := 0) dX11_sheet_52 (by decide) ?_
    refine aw_istore (L' := [(7, .int (0 : Int32)), (6, .int s0), (0, .ref (ad 0)), (1, .int x1), (2, .int x2), (3, .int x3), (4, .int x4), (5, .int x5)]) dX11_sheet_53 (by decide) rfl ?_
    refine aw_iconst (v := 0) dX11_sheet_55 (by decide) ?_
    refine aw_istore (L' := [(8, .int (0 : Int32)), (7, .int (0 : Int32)), (6, .int s0), (0, .ref (ad 0)), (1, .int x1), (2, .int x2), (3, .int x3), (4, .int x4), (5, .int x5)]) dX11_sheet_56 (by decide) rfl ?_
    exact aw_sub [3, 4, 5, 6, 7, 8, 2, 1, 0] rfl h
  · have h := h.2 hc
    refine aw_iload (j := 0) dX11_sheet_44 rfl ?_
    refine aw_if_ne (tgt := 52) dX11_sheet_46 (by decide) (fun hc => ?_) (fun hc => ?_)
    · have h := h.1 hc
      refine aw_iconst (v := 0) dX11_sheet_52 (by decide) ?_
      refine aw_istore (L' := [(7, .int (0 : Int32)), (6, .int s0), (0, .ref (ad 0)), (1, .int x1), (2, .int x2), (3, .int x3), (4, .int x4), (5, .int x5)]) dX11_sheet_53 (by decide) rfl ?_
      refine aw_iconst (v := 0) dX11_sheet_55 (by decide) ?_
      refine aw_istore (L' := [(8, .int (0 : Int32)), (7, .int (0 : Int32)), (6, .int s0), (0, .ref (ad 0)), (1, .int x1), (2, .int x2), (3, .int x3), (4, .int x4), (5, .int x5)]) dX11_sheet_56 (by decide) rfl ?_
      exact aw_sub [3, 4, 5, 6, 7, 8, 2, 1, 0] rfl h
    · have h := h.2 hc
      refine aw_bipush (v := -2) dX11_sheet_49 (by decide) ?_
      exact aw_ret (v := some (.int (-2 : Int32))) rfl (Or.inr (Or.inl ⟨_, .int, rfl, rfl, rfl, dX11_sheet_51⟩)) h
set_option maxRecDepth 100000 in
set_option maxHeartbeats 4000000 in
theorem g_X11_sheet_58 {ad : Nat → Nat} {d : Nat} {Q : Option Value → Wm → Prop} {m : Wm} {x1 x2 x3 x4 x5 x6 x7 x8 : Int32} (h : (((m.1 3 3) ≤ x8 → ((x6 = 0 → Q (some (.int x7)) (uI m 31 1 (0 : Int32))) ∧ (¬ x6 = 0 → Q (some (.int (-3 : Int32))) (uI m 31 1 (0 : Int32))))) ∧ (¬ (m.1 3 3) ≤ x8 → ((¬ x6 = 0 → AW ad E0 μX11_sheet (d + 1) Q 103 [(0, .ref (ad 0)), (1, .int x1), (2, .int x2), (3, .int x3), (4, .int x4), (5, .int x5), (6, .int x6), (7, .int x7), (8, .int x8)] [.int (0 : Int32)] m) ∧ (x6 = 0 → ((x8 < x3 → (Ct ad μX11_entry d [.int x2, .int (x4 + (x8 * x5))] m (fun r m1 => ∃ v2 : Int32, r = some (.int v2) ∧ (Ct ad μX11_clamp d [.int v2, .int (0 : Int32), .int (7 : Int32)] m1 (fun r m3 => ∃ v4 : Int32, r = some (.int v4) ∧ AW ad E0 μX11_sheet (d + 1) Q 103 [(0, .ref (ad 0)), (1, .int x1), (2, .int x2), (3, .int x3), (4, .int x4), (5, .int x5), (6, .int x6), (7, .int x7), (8, .int x8)] [.int v4] m3))))) ∧ (¬ x8 < x3 → AW ad E0 μX11_sheet (d + 1) Q 103 [(0, .ref (ad 0)), (1, .int x1), (2, .int x2), (3, .int x3), (4, .int x4), (5, .int x5), (6, .int x6), (7, .int x7), (8, .int x8)] [.int (0 : Int32)] m))))))) : AW ad E0 μX11_sheet (d + 1) Q 58 [(0, .ref (ad 0)), (1, .int x1), (2, .int x2), (3, .int x3), (4, .int x4), (5, .int x5), (6, .int x6), (7, .int x7), (8, .int x8)] [] m := by
  refine aw_iload (j := 8) dX11_sheet_58 rfl ?_
  refine aw_aload_n (j := 0) dX11_sheet_60 rfl rfl ?_
  refine aw_getfield (c := 6) (v := .ref (ad 3)) dX11_sheet_61 f_X11_19 ly_0 rfl rfl ?_
  refine aw_getfield (c := 0) (v := .int (m.1 3 3)) dX11_sheet_64 f_X11_155 ly_3 rfl rfl ?_
  refine aw_icmp_ge (tgt := 130) dX11_sheet_67 (by decide) (fun hc => ?_) (fun hc => ?_)
  · have h := h.1 hc
    refine aw_aload_n (j := 0) dX11_sheet_130 rfl rfl ?_
    refine aw_getfield (c := 34) (v := .ref (ad 31)) dX11_sheet_131 f_X11_43 ly_0 rfl rfl ?_
    refine aw_iconst (v := 0) dX11_sheet_134 (by decide) ?_
    refine aw_putI dX11_sheet_135 f_X11_135 cl_X2 rfl ly_31 rfl rfl rfl ?_
    refine aw_iload (j := 6) dX11_sheet_138 rfl ?_
    refine aw_if_eq (tgt := 148) dX11_sheet_140 (by decide) (fun hc => ?_) (fun hc => ?_)
    · have h := h.1 hc
      refine aw_iload (j := 7) dX11_sheet_148 rfl ?_
      exact aw_ret (v := some (.int x7)) rfl (Or.inr (Or.inl ⟨_, .int, rfl, rfl, rfl, dX11_sheet_150⟩)) h
    · have h := h.2 hc
      refine aw_bipush (v := -3) dX11_sheet_143 (by decide) ?_
      refine aw_goto (tgt := 150) dX11_sheet_145 (by decide) ?_
      exact aw_ret (v := some (.int (-3 : Int32))) rfl (Or.inr (Or.inl ⟨_, .int, rfl, rfl, rfl, dX11_sheet_150⟩)) h
  · have h := h.2 hc
    refine aw_iload (j := 6) dX11_sheet_70 rfl ?_
    refine aw_if_ne (tgt := 81) dX11_sheet_72 (by decide) (fun hc => ?_) (fun hc => ?_)
    · have h := h.1 hc
      refine aw_iconst (v := 0) dX11_sheet_81 (by decide) ?_
      refine aw_goto (tgt := 103) dX11_sheet_82 (by decide) ?_
      exact aw_sub [0, 1, 2, 3, 4, 5, 6, 7, 8] rfl h
    · have h := h.2 hc
      refine aw_iload (j := 8) dX11_sheet_75 rfl ?_
      refine aw_iload_n (j := 3) dX11_sheet_77 rfl rfl ?_
      refine aw_icmp_lt (tgt := 85) dX11_sheet_78 (by decide) (fun hc => ?_) (fun hc => ?_)
      · have h := h.1 hc
        refine aw_iload_n (j := 2) dX11_sheet_85 rfl rfl ?_
        refine aw_iload (j := 4) dX11_sheet_86 rfl ?_
        refine aw_iload (j := 8) dX11_sheet_88 rfl ?_
        refine aw_iload (j := 5) dX11_sheet_90 rfl ?_
        refine aw_imul dX11_sheet_92 ?_
        refine aw_iadd dX11_sheet_93 ?_
        refine aw_callS (rest := []) [.int x2, .int (x4 + (x8 * x5))] dX11_sheet_94 k_X11_200 rfl h (Nat.le_of_ble_eq_true rfl) (fun v m1 h => ?_)
        obtain ⟨v2, rfl, h⟩ := h
        refine aw_eq (L' := [(0, .ref (ad 0)), (1, .int x1), (2, .int x2), (3, .int x3), (4, .int x4), (5, .int x5), (6, .int x6), (7, .int x7), (8, .int x8)]) (st' := [.int v2]) (m' := m1) ?_ rfl rfl rfl
        refine aw_iconst (v := 0) dX11_sheet_97 (by decide) ?_
        refine aw_bipush (v := 7) dX11_sheet_98 (by decide) ?_
        refine aw_callS (rest := []) [.int v2, .int (0 : Int32), .int (7 : Int32)] dX11_sheet_100 k_X11_203 rfl h (Nat.le_of_ble_eq_true rfl) (fun v m3 h => ?_)
        obtain ⟨v4, rfl, h⟩ := h
        refine aw_eq (L' := [(0, .ref (ad 0)), (1, .int x1), (2, .int x2), (3, .int x3), (4, .int x4), (5, .int x5), (6, .int x6), (7, .int x7), (8, .int x8)]) (st' := [.int v4]) (m' := m3) ?_ rfl rfl rfl
        exact aw_sub [0, 1, 2, 3, 4, 5, 6, 7, 8] rfl h
      · have h := h.2 hc
        refine aw_iconst (v := 0) dX11_sheet_81 (by decide) ?_
        refine aw_goto (tgt := 103) dX11_sheet_82 (by decide) ?_
        exact aw_sub [0, 1, 2, 3, 4, 5, 6, 7, 8] rfl h
set_option maxRecDepth 100000 in
set_option maxHeartbeats 4000000 in
theorem g_X11_sheet_103 {ad : Nat → Nat} {d : Nat} {Q : Option Value → Wm → Prop} {m : Wm} {x1 x2 x3 x4 x5 x6 x7 x8 s0 : Int32} (h : (Ct ad μX8_putSkill d [.ref (ad 21), .int x8, .int x1, .int s0] m (fun r m1 => r = none ∧ AW ad E0 μX11_sheet (d + 1) Q 58 [(0, .ref (ad 0)), (1, .int x1), (2, .int x2), (3, .int x3), (4, .int x4), (5, .int x5), (6, .int x6), (7, .int (x7 + s0)), (8, .int (x8 + (1 : Int32)))] [] m1))) : AW ad E0 μX11_sheet (d + 1) Q 103 [(0, .ref (ad 0)), (1, .int x1), (2, .int x2), (3, .int x3), (4, .int x4), (5, .int x5), (6, .int x6), (7, .int x7), (8, .int x8)] [.int s0] m := by
  refine aw_istore (L' := [(9, .int s0), (0, .ref (ad 0)), (1, .int x1), (2, .int x2), (3, .int x3), (4, .int x4), (5, .int x5), (6, .int x6), (7, .int x7), (8, .int x8)]) dX11_sheet_103 (by decide) rfl ?_
  refine aw_aload_n (j := 1) dX11_sheet_105 rfl rfl ?_
  refine aw_getfield (c := 24) (v := .ref (ad 21)) dX11_sheet_106 f_X11_33 ly_0 rfl rfl ?_
  refine aw_iload (j := 9) dX11_sheet_109 rfl ?_
  refine aw_iload_n (j := 2) dX11_sheet_111 rfl rfl ?_
  refine aw_iload (j := 0) dX11_sheet_112 rfl ?_
  refine aw_callV (rest := []) [.int x8, .int x1, .int s0] dX11_sheet_114 ly_21 rfl k_X11_207 rfl h (Nat.le_of_ble_eq_true rfl) (fun v m1 h => ?_)
  obtain ⟨rfl, h⟩ := h
  refine aw_eq (L' := [(9, .int s0), (0, .ref (ad 0)), (1, .int x1), (2, .int x2), (3, .int x3), (4, .int x4), (5, .int x5), (6, .int x6), (7, .int x7), (8, .int x8)]) (st' := []) (m' := m1) ?_ rfl rfl rfl
  refine aw_iload (j := 8) dX11_sheet_117 rfl ?_
  refine aw_iload (j := 0) dX11_sheet_119 rfl ?_
  refine aw_iadd dX11_sheet_121 ?_
  refine aw_istore (L' := [(7, .int (x7 + s0)), (9, .int s0), (0, .ref (ad 0)), (1, .int x1), (2, .int x2), (3, .int x3), (4, .int x4), (5, .int x5), (6, .int x6), (8, .int x8)]) dX11_sheet_122 (by decide) rfl ?_
  refine aw_iinc (j := 9) (v := x8 + (1 : Int32)) (L' := [(8, .int (x8 + (1 : Int32))), (7, .int (x7 + s0)), (9, .int s0), (0, .ref (ad 0)), (1, .int x1), (2, .int x2), (3, .int x3), (4, .int x4), (5, .int x5), (6, .int x6)]) dX11_sheet_124 rfl rfl (by decide) rfl ?_
  refine aw_goto (tgt := 58) dX11_sheet_127 (by decide) ?_
  exact aw_sub [3, 4, 5, 6, 7, 8, 9, 1, 0] rfl h
set_option maxRecDepth 100000 in
set_option maxHeartbeats 4000000 in
theorem v_X11_entry {ad : Nat → Nat} {d : Nat} {Q : Option Value → Wm → Prop} {m : Wm} {x0 x1 : Int32} (h : ((¬ x0 = 0 → ((¬ x0 = (1 : Int32) → Q (some (.int x1)) m) ∧ (x0 = (1 : Int32) → Q (some (.int x1.toInt16.toInt32)) m))) ∧ (x0 = 0 → Q (some (.int x1.toInt8.toInt32)) m))) : Ct ad μX11_entry d [.int x0, .int x1] m Q := by
  refine Ct.of (by decide +kernel) rfl (Nat.le_of_ble_eq_true rfl) ?_
  refine aw_eq (L' := [(0, .int x0), (1, .int x1)]) ?_ rfl rfl rfl
  refine aw_iload_n (j := 0) dX11_entry_0 rfl rfl ?_
  refine aw_if_ne (tgt := 9) dX11_entry_1 (by decide) (fun hc => ?_) (fun hc => ?_)
  · have h := h.1 hc
    refine aw_iload_n (j := 0) dX11_entry_9 rfl rfl ?_
    refine aw_iconst (v := 1) dX11_entry_10 (by decide) ?_
    refine aw_icmp_ne (tgt := 19) dX11_entry_11 (by decide) (fun hc => ?_) (fun hc => ?_)
    · have h := h.1 hc
      refine aw_iload_n (j := 1) dX11_entry_19 rfl rfl ?_
      exact aw_ret (v := some (.int x1)) rfl (Or.inr (Or.inl ⟨_, .int, rfl, rfl, rfl, dX11_entry_20⟩)) h
    · have h := h.2 hc
      refine aw_iload_n (j := 1) dX11_entry_14 rfl rfl ?_
      refine aw_i2s dX11_entry_15 ?_
      refine aw_goto (tgt := 20) dX11_entry_16 (by decide) ?_
      exact aw_ret (v := some (.int x1.toInt16.toInt32)) rfl (Or.inr (Or.inl ⟨_, .int, rfl, rfl, rfl, dX11_entry_20⟩)) h
  · have h := h.2 hc
    refine aw_iload_n (j := 1) dX11_entry_4 rfl rfl ?_
    refine aw_i2b dX11_entry_5 ?_
    refine aw_goto (tgt := 20) dX11_entry_6 (by decide) ?_
    exact aw_ret (v := some (.int x1.toInt8.toInt32)) rfl (Or.inr (Or.inl ⟨_, .int, rfl, rfl, rfl, dX11_entry_20⟩)) h
set_option maxRecDepth 100000 in
set_option maxHeartbeats 4000000 in
theorem v_X11_clamp {ad : Nat → Nat} {d : Nat} {Q : Option Value → Wm → Prop} {m : Wm} {x0 x1 x2 : Int32} (h : ((x1 ≤ x0 → ((x0 ≤ x2 → Q (some (.int x0)) m) ∧ (¬ x0 ≤ x2 → Q (some (.int x2)) m))) ∧ (¬ x1 ≤ x0 → Q (some (.int x1)) m))) : Ct ad μX11_clamp d [.int x0, .int x1, .int x2] m Q := by
  refine Ct.of (by decide +kernel) rfl (Nat.le_of_ble_eq_true rfl) ?_
  refine aw_eq (L' := [(0, .int x0), (1, .int x1), (2, .int x2)]) ?_ rfl rfl rfl
  refine aw_iload_n (j := 0) dX11_clamp_0 rfl rfl ?_
  refine aw_iload_n (j := 1) dX11_clamp_1 rfl rfl ?_
  refine aw_icmp_ge (tgt := 9) dX11_clamp_2 (by decide) (fun hc => ?_) (fun hc => ?_)
  · have h := h.1 hc
    refine aw_iload_n (j := 0) dX11_clamp_9 rfl rfl ?_
    refine aw_iload_n (j := 2) dX11_clamp_10 rfl rfl ?_
    refine aw_icmp_le (tgt := 18) dX11_clamp_11 (by decide) (fun hc => ?_) (fun hc => ?_)
    · have h := h.1 hc
      refine aw_iload_n (j := 0) dX11_clamp_18 rfl rfl ?_
      exact aw_ret (v := some (.int x0)) rfl (Or.inr (Or.inl ⟨_, .int, rfl, rfl, rfl, dX11_clamp_19⟩)) h
    · have h := h.2 hc
      refine aw_iload_n (j := 2) dX11_clamp_14 rfl rfl ?_
      refine aw_goto (tgt := 19) dX11_clamp_15 (by decide) ?_
      exact aw_ret (v := some (.int x2)) rfl (Or.inr (Or.inl ⟨_, .int, rfl, rfl, rfl, dX11_clamp_19⟩)) h
  · have h := h.2 hc
    refine aw_iload_n (j := 1) dX11_clamp_5 rfl rfl ?_
    refine aw_goto (tgt := 19) dX11_clamp_6 (by decide) ?_
    exact aw_ret (v := some (.int x1)) rfl (Or.inr (Or.inl ⟨_, .int, rfl, rfl, rfl, dX11_clamp_19⟩)) h
set_option maxRecDepth 100000 in
set_option maxHeartbeats 4000000 in
theorem v_X11_ill {ad : Nat → Nat} {d : Nat} {Q : Option Value → Wm → Prop} {m : Wm} {x1 x2 : Int32} (h : (Ct ad μX1_has d [.ref (ad 3), .int x1] m (fun r m1 => ∃ v2 : Int32, r = some (.int v2) ∧ ((¬ v2 = 0 → ((x2 = 0 → Q (some (.int (1 : Int32))) (uI m1 3 5 ((m1.1 3 5) &&& (((1 : Int32) <<< (x1 &&& 31)) ^^^ (-1 : Int32))))) ∧ (¬ x2 = 0 → Q (some (.int (1 : Int32))) (uI m1 3 5 ((m1.1 3 5) ||| ((1 : Int32) <<< (x1 &&& 31))))))) ∧ (v2 = 0 → Q (some (.int (0 : Int32))) m1))))) : Ct ad μX11_ill (d + 1) [.ref (ad 0), .int x1, .int x2] m Q := by
  refine Ct.of (by decide +kernel) rfl (Nat.le_of_ble_eq_true rfl) ?_
  refine aw_eq (L' := [(0, .ref (ad 0)), (1, .int x1), (2, .int x2)]) ?_ rfl rfl rfl
  refine aw_aload_n (j := 0) dX11_ill_0 rfl rfl ?_
  refine aw_getfield (c := 6) (v := .ref (ad 3)) dX11_ill_1 f_X11_19 ly_0 rfl rfl ?_
  refine aw_iload_n (j := 1) dX11_ill_4 rfl rfl ?_
  refine aw_callV (rest := []) [.int x1] dX11_ill_5 ly_3 rfl k_X11_164 rfl h (Nat.le_of_ble_eq_true rfl) (fun v m1 h => ?_)
  obtain ⟨v2, rfl, h⟩ := h
  refine aw_eq (L' := [(0, .ref (ad 0)), (1, .int x1), (2, .int x2)]) (st' := [.int v2]) (m' := m1) ?_ rfl rfl rfl
  refine aw_if_ne (tgt := 13) dX11_ill_8 (by decide) (fun hc => ?_) (fun hc => ?_)
  · have h := h.1 hc
    refine aw_iconst (v := 1) dX11_ill_13 (by decide) ?_
    refine aw_iload_n (j := 1) dX11_ill_14 rfl rfl ?_
    refine aw_ishl dX11_ill_15 ?_
    refine aw_istore_n (L' := [(3, .int ((1 : Int32) <<< (x1 &&& 31))), (0, .ref (ad 0)), (1, .int x1), (2, .int x2)]) dX11_ill_16 rfl (by decide) rfl ?_
    refine aw_aload_n (j := 1) dX11_ill_17 rfl rfl ?_
    refine aw_getfield (c := 6) (v := .ref (ad 3)) dX11_ill_18 f_X11_19 ly_0 rfl rfl ?_
    refine aw_iload_n (j := 3) dX11_ill_21 rfl rfl ?_
    refine aw_if_eq (tgt := 37) dX11_ill_22 (by decide) (fun hc => ?_) (fun hc => ?_)
    · have h := h.1 hc
      refine aw_aload_n (j := 1) dX11_ill_37 rfl rfl ?_
      refine aw_getfield (c := 6) (v := .ref (ad 3)) dX11_ill_38 f_X11_19 ly_0 rfl rfl ?_
      refine aw_getfield (c := 0) (v := .int (m1.1 3 5)) dX11_ill_41 f_X11_211 ly_3 rfl rfl ?_
      refine aw_iload_n (j := 0) dX11_ill_44 rfl rfl ?_
      refine aw_iconst (v := -1) dX11_ill_45 (by decide) ?_
      refine aw_ixor dX11_ill_46 ?_
      refine aw_iand dX11_ill_47 ?_
      refine aw_putI dX11_ill_48 f_X11_211 cl_X1 rfl ly_3 rfl rfl rfl ?_
      refine aw_iconst (v := 1) dX11_ill_51 (by decide) ?_
      exact aw_ret (v := some (.int (1 : Int32))) rfl (Or.inr (Or.inl ⟨_, .boolean, rfl, rfl, by decide, dX11_ill_52⟩)) h
    · have h := h.2 hc
      refine aw_aload_n (j := 1) dX11_ill_25 rfl rfl ?_
      refine aw_getfield (c := 6) (v := .ref (ad 3)) dX11_ill_26 f_X11_19 ly_0 rfl rfl ?_
      refine aw_getfield (c := 0) (v := .int (m1.1 3 5)) dX11_ill_29 f_X11_211 ly_3 rfl rfl ?_
      refine aw_iload_n (j := 0) dX11_ill_32 rfl rfl ?_
      refine aw_ior dX11_ill_33 ?_
      refine aw_goto (tgt := 48) dX11_ill_34 (by decide) ?_
      refine aw_putI dX11_ill_48 f_X11_211 cl_X1 rfl ly_3 rfl rfl rfl ?_
      refine aw_iconst (v := 1) dX11_ill_51 (by decide) ?_
      exact aw_ret (v := some (.int (1 : Int32))) rfl (Or.inr (Or.inl ⟨_, .boolean, rfl, rfl, by decide, dX11_ill_52⟩)) h
  · have h := h.2 hc
    refine aw_iconst (v := 0) dX11_ill_11 (by decide) ?_
    exact aw_ret (v := some (.int (0 : Int32))) rfl (Or.inr (Or.inl ⟨_, .boolean, rfl, rfl, by decide, dX11_ill_12⟩)) h
set_option maxRecDepth 100000 in
set_option maxHeartbeats 4000000 in
theorem v_X11_swap {ad : Nat → Nat} {d : Nat} {Q : Option Value → Wm → Prop} {m : Wm} {x1 x2 : Int32} (h : (Ct ad μX1_canMeet d [.ref (ad 3), .int x1, .int x2] m (fun r m1 => ∃ v2 : Int32, r = some (.int v2) ∧ ((¬ v2 = 0 → AW ad E0 μX11_swap (d + 1) Q 16 [(0, .ref (ad 0)), (1, .int x1), (2, .int x2), (3, .int (0 : Int32))] [] m1) ∧ (v2 = 0 → Q (some (.int (0 : Int32))) m1))))) : Ct ad μX11_swap (d + 1) [.ref (ad 0), .int x1, .int x2] m Q := by
  refine Ct.of (by decide +kernel) rfl (Nat.le_of_ble_eq_true rfl) ?_
  refine aw_eq (L' := [(0, .ref (ad 0)), (1, .int x1), (2, .int x2)]) ?_ rfl rfl rfl
  refine aw_aload_n (j := 0) dX11_swap_0 rfl rfl ?_
  refine aw_getfield (c := 6) (v := .ref (ad 3)) dX11_swap_1 f_X11_19 ly_0 rfl rfl ?_
  refine aw_iload_n (j := 1) dX11_swap_4 rfl rfl ?_
  refine aw_iload_n (j := 2) dX11_swap_5 rfl rfl ?_
  refine aw_callV (rest := []) [.int x1, .int x2] dX11_swap_6 ly_3 rfl k_X11_214 rfl h (Nat.le_of_ble_eq_true rfl) (fun v m1 h => ?_)
  obtain ⟨v2, rfl, h⟩ := h
  refine aw_eq (L' := [(0, .ref (ad 0)), (1, .int x1), (2, .int x2)]) (st' := [.int v2]) (m' := m1) ?_ rfl rfl rfl
  refine aw_if_ne (tgt := 14) dX11_swap_9 (by decide) (fun hc => ?_) (fun hc => ?_)
  · have h := h.1 hc
    refine aw_iconst (v := 0) dX11_swap_14 (by decide) ?_
    refine aw_istore_n (L' := [(3, .int (0 : Int32)), (0, .ref (ad 0)), (1, .int x1), (2, .int x2)]) dX11_swap_15 rfl (by decide) rfl ?_
    exact aw_sub [1, 2, 3, 0] rfl h
  · have h := h.2 hc
    refine aw_iconst (v := 0) dX11_swap_12 (by decide) ?_
    exact aw_ret (v := some (.int (0 : Int32))) rfl (Or.inr (Or.inl ⟨_, .boolean, rfl, rfl, by decide, dX11_swap_13⟩)) h
set_option maxRecDepth 100000 in
set_option maxHeartbeats 4000000 in
theorem g_X11_swap_16 {ad : Nat → Nat} {d : Nat} {Q : Option Value → Wm → Prop} {m : Wm} {x1 x2 x3 : Int32} (h : (((4 : Int32) ≤ x3 → Q (some (.int (1 : Int32))) (uI m 31 1 (0 : Int32))) ∧ (¬ (4 : Int32) ≤ x3 → (Ct ad μX8_skillOf d [.ref (ad 21), .int x1, .int x3] m (fun r m1 => ∃ v2 : Int32, r = some (.int v2) ∧ (Ct ad μX8_skillOf d [.ref (ad 21), .int x2, .int x3] m1 (fun r m3 => ∃ v4 : Int32, r = some (.int v4) ∧ (Ct ad μX8_putSkill d [.ref (ad 21), .int x1, .int x3, .int v4] m3 (fun r m5 => r = none ∧ (Ct ad μX8_putSkill d [.ref (ad 21), .int x2, .int x3, .int v2] m5 (fun r m6 => r = none ∧ AW ad E0 μX11_swap (d + 1) Q 16 [(0, .ref (ad 0)), (1, .int x1), (2, .int x2), (3, .int (x3 + (1 : Int32)))] [] m6))))))))))) : AW ad E0 μX11_swap (d + 1) Q 16 [(0, .ref (ad 0)), (1, .int x1), (2, .int x2), (3, .int x3)] [] m := by
  refine aw_iload_n (j := 3) dX11_swap_16 rfl rfl ?_
  refine aw_iconst (v := 4) dX11_swap_17 (by decide) ?_
  refine aw_icmp_ge (tgt := 67) dX11_swap_18 (by decide) (fun hc => ?_) (fun hc => ?_)
  · have h := h.1 hc
    refine aw_aload_n (j := 0) dX11_swap_67 rfl rfl ?_
    refine aw_getfield (c := 34) (v := .ref (ad 31)) dX11_swap_68 f_X11_43 ly_0 rfl rfl ?_
    refine aw_iconst (v := 0) dX11_swap_71 (by decide) ?_
    refine aw_putI dX11_swap_72 f_X11_135 cl_X2 rfl ly_31 rfl rfl rfl ?_
    refine aw_iconst (v := 1) dX11_swap_75 (by decide) ?_
    exact aw_ret (v := some (.int (1 : Int32))) rfl (Or.inr (Or.inl ⟨_, .boolean, rfl, rfl, by decide, dX11_swap_76⟩)) h
  · have h := h.2 hc
    refine aw_aload_n (j := 0) dX11_swap_21 rfl rfl ?_
    refine aw_getfield (c := 24) (v := .ref (ad 21)) dX11_swap_22 f_X11_33 ly_0 rfl rfl ?_
    refine aw_iload_n (j := 1) dX11_swap_25 rfl rfl ?_
    refine aw_iload_n (j := 3) dX11_swap_26 rfl rfl ?_
    refine aw_callV (rest := []) [.int x1, .int x3] dX11_swap_27 ly_21 rfl k_X11_170 rfl h (Nat.le_of_ble_eq_true rfl) (fun v m1 h => ?_)
    obtain ⟨v2, rfl, h⟩ := h
    refine aw_eq (L' := [(0, .ref (ad 0)), (1, .int x1), (2, .int x2), (3, .int x3)]) (st' := [.int v2]) (m' := m1) ?_ rfl rfl rfl
    refine aw_istore (L' := [(4, .int v2), (0, .ref (ad 0)), (1, .int x1), (2, .int x2), (3, .int x3)]) dX11_swap_30 (by decide) rfl ?_
    refine aw_aload_n (j := 1) dX11_swap_32 rfl rfl ?_
    refine aw_getfield (c := 24) (v := .ref (ad 21)) dX11_swap_33 f_X11_33 ly_0 rfl rfl ?_
    refine aw_iload_n (j := 2) dX11_swap_36 rfl rfl ?_
    refine aw_iload_n (j := 4) dX11_swap_37 rfl rfl ?_
    refine aw_aload_n (j := 1) dX11_swap_38 rfl rfl ?_
    refine aw_getfield (c := 24) (v := .ref (ad 21)) dX11_swap_39 f_X11_33 ly_0 rfl rfl ?_
    refine aw_iload_n (j := 3) dX11_swap_42 rfl rfl ?_
    refine aw_iload_n (j := 4) dX11_swap_43 rfl rfl ?_
    refine aw_callV (rest := [.int x3, .int x1, .ref (ad 21)]) [.int x2, .int x3] dX11_swap_44 ly_21 rfl k_X11_170 rfl h (Nat.le_of_ble_eq_true rfl) (fun v m3 h => ?_)
    obtain ⟨v4, rfl, h⟩ := h
    refine aw_eq (L' := [(4, .int v2), (0, .ref (ad 0)), (1, .int x1), (2, .int x2), (3, .int x3)]) (st' := [.int v4, .int x3, .int x1, .ref (ad 21)]) (m' := m3) ?_ rfl rfl rfl
    refine aw_callV (rest := []) [.int x1, .int x3, .int v4] dX11_swap_47 ly_21 rfl k_X11_207 rfl h (Nat.le_of_ble_eq_true rfl) (fun v m5 h => ?_)
    obtain ⟨rfl, h⟩ := h
    refine aw_eq (L' := [(4, .int v2), (0, .ref (ad 0)), (1, .int x1), (2, .int x2), (3, .int x3)]) (st' := []) (m' := m5) ?_ rfl rfl rfl
    refine aw_aload_n (j := 1) dX11_swap_50 rfl rfl ?_
    refine aw_getfield (c := 24) (v := .ref (ad 21)) dX11_swap_51 f_X11_33 ly_0 rfl rfl ?_
    refine aw_iload_n (j := 3) dX11_swap_54 rfl rfl ?_
    refine aw_iload_n (j := 4) dX11_swap_55 rfl rfl ?_
    refine aw_iload (j := 0) dX11_swap_56 rfl ?_
    refine aw_callV (rest := []) [.int x2, .int x3, .int v2] dX11_swap_58 ly_21 rfl k_X11_207 rfl h (Nat.le_of_ble_eq_true rfl) (fun v m6 h => ?_)
    obtain ⟨rfl, h⟩ := h
    refine aw_eq (L' := [(4, .int v2), (0, .ref (ad 0)), (1, .int x1), (2, .int x2), (3, .int x3)]) (st' := []) (m' := m6) ?_ rfl rfl rfl
    refine aw_iinc (j := 4) (v := x3 + (1 : Int32)) (L' := [(3, .int (x3 + (1 : Int32))), (4, .int v2), (0, .ref (ad 0)), (1, .int x1), (2, .int x2)]) dX11_swap_61 rfl rfl (by decide) rfl ?_
    refine aw_goto (tgt := 16) dX11_swap_64 (by decide) ?_
    exact aw_sub [2, 3, 4, 0] rfl h
set_option maxRecDepth 100000 in
set_option maxHeartbeats 4000000 in
theorem v_X11_circle {ad : Nat → Nat} {d : Nat} {Q : Option Value → Wm → Prop} {m : Wm} (h : (((2 : Int32) ≤ (m.1 3 3) → (∃ r1, m.2.2 0 9 = some r1 ∧ Pl r1 ∧ (Ct ad μX3_fillEachWithEach d [.ref (ad r1), .int (m.1 3 3)] m (fun r m2 => r = none ∧ (∃ r3, (uI m2 0 11 (0 : Int32)).2.2 0 9 = some r3 ∧ Pl r3 ∧ Q (some (.int ((uI m2 0 11 (0 : Int32)).1 r3 5))) (uI m2 0 11 (0 : Int32))))))) ∧ (¬ (2 : Int32) ≤ (m.1 3 3) → Q (some (.int (-1 : Int32))) m))) : Ct ad μX11_circle (d + 1) [.ref (ad 0)] m Q := by
  refine Ct.of (by decide +kernel) rfl (Nat.le_of_ble_eq_true rfl) ?_
  refine aw_eq (L' := [(0, .ref (ad 0))]) ?_ rfl rfl rfl
  refine aw_aload_n (j := 0) dX11_circle_0 rfl rfl ?_
  refine aw_getfield (c := 6) (v := .ref (ad 3)) dX11_circle_1 f_X11_19 ly_0 rfl rfl ?_
  refine aw_getfield (c := 0) (v := .int (m.1 3 3)) dX11_circle_4 f_X11_155 ly_3 rfl rfl ?_
  refine aw_iconst (v := 2) dX11_circle_7 (by decide) ?_
  refine aw_icmp_ge (tgt := 13) dX11_circle_8 (by decide) (fun hc => ?_) (fun hc => ?_)
  · have h := h.1 hc
    refine aw_aload_n (j := 0) dX11_circle_13 rfl rfl ?_
    obtain ⟨r1, hrr1, hr1, h⟩ := h
    refine aw_getfield (c := 2) (v := .ref (ad r1)) dX11_circle_14 f_X11_56 ly_0 rfl (by show va_rf (Option.map ad (m.2.2 0 9)) = _; rw [hrr1]; rfl) ?_
    refine aw_aload_n (j := 0) dX11_circle_17 rfl rfl ?_
    refine aw_getfield (c := 6) (v := .ref (ad 3)) dX11_circle_18 f_X11_19 ly_0 rfl rfl ?_
    refine aw_getfield (c := 0) (v := .int (m.1 3 3)) dX11_circle_21 f_X11_155 ly_3 rfl rfl ?_
    refine aw_callV (rest := []) [.int (m.1 3 3)] dX11_circle_24 hr1.1 rfl k_X11_217 rfl h (Nat.le_of_ble_eq_true rfl) (fun v m2 h => ?_)
    obtain ⟨rfl, h⟩ := h
    refine aw_eq (L' := [(0, .ref (ad 0))]) (st' := []) (m' := m2) ?_ rfl rfl rfl
    refine aw_aload_n (j := 0) dX11_circle_27 rfl rfl ?_
    refine aw_iconst (v := 0) dX11_circle_28 (by decide) ?_
    refine aw_putI dX11_circle_29 f_X11_63 cl_X11 rfl ly_0 rfl rfl rfl ?_
    refine aw_aload_n (j := 0) dX11_circle_32 rfl rfl ?_
    obtain ⟨r3, hrr3, hr3, h⟩ := h
    refine aw_getfield (c := 2) (v := .ref (ad r3)) dX11_circle_33 f_X11_56 ly_0 rfl (by show va_rf (Option.map ad ((uI m2 0 11 (0 : Int32)).2.2 0 9)) = _; rw [hrr3]; rfl) ?_
    refine aw_getfield (c := 0) (v := .int ((uI m2 0 11 (0 : Int32)).1 r3 5)) dX11_circle_36 f_X11_161 hr3.1 rfl rfl ?_
    exact aw_ret (v := some (.int ((uI m2 0 11 (0 : Int32)).1 r3 5))) rfl (Or.inr (Or.inl ⟨_, .int, rfl, rfl, rfl, dX11_circle_39⟩)) h
  · have h := h.2 hc
    refine aw_iconst (v := -1) dX11_circle_11 (by decide) ?_
    exact aw_ret (v := some (.int (-1 : Int32))) rfl (Or.inr (Or.inl ⟨_, .int, rfl, rfl, rfl, dX11_circle_12⟩)) h
set_option maxRecDepth 100000 in
set_option maxHeartbeats 4000000 in
theorem v_X11_game {ad : Nat → Nat} {d : Nat} {Q : Option Value → Wm → Prop} {m : Wm} {x1 x2 x3 : Int32} (h : (Ct ad μX1_canMeet d [.ref (ad 3), .int x1, .int x2] m (fun r m1 => ∃ v2 : Int32, r = some (.int v2) ∧ ((v2 = 0 → Q (some (.int (-1 : Int32))) m1) ∧ (¬ v2 = 0 → ((x3 < 0 → Q (some (.int (-1 : Int32))) m1) ∧ (¬ x3 < 0 → ((x3 ≤ (3 : Int32) → (Ct ad μX8_copy d [.ref (ad 26), .ref (ad 21)] m1 (fun r m3 => r = none ∧ (Ct ad μX1_result d [.ref (ad 3), .ref (ad 26), .int x1, .int x2, .int x3] m3 (fun r m4 => ∃ v5 : Int32, r = some (.int v5) ∧ (Ct ad μX1_settle d [.ref (ad 3), .ref (ad 26), .int x1, .int x2, .int v5, .int (0 : Int32)] m4 (fun r m6 => r = none ∧ (Ct ad μX11_tell_ d [.ref (ad 0), .long ((m6.1 3 6).toInt64), .long ((m6.1 3 7).toInt64)] m6 (fun r m7 => r = none ∧ Q (some (.int v5)) m7))))))))) ∧ (¬ x3 ≤ (3 : Int32) → Q (some (.int (-1 : Int32))) m1))))))))) : Ct ad μX11_game (d + 1) [.ref (ad 0), .int x1, .int x2, .int x3] m Q := by
  refine Ct.of (by decide +kernel) rfl (Nat.le_of_ble_eq_true rfl) ?_
  refine aw_eq (L' := [(0, .ref (ad 0)), (1, .int x1), (2, .int x2), (3, .int x3)]) ?_ rfl rfl rfl
  refine aw_aload_n (j := 0) dX11_game_0 rfl rfl ?_
  refine aw_getfield (c := 6) (v := .ref (ad 3)) dX11_game_1 f_X11_19 ly_0 rfl rfl ?_
  refine aw_iload_n (j := 1) dX11_game_4 rfl rfl ?_
  refine aw_iload_n (j := 2) dX11_game_5 rfl rfl ?_
  refine aw_callV (rest := []) [.int x1, .int x2] dX11_game_6 ly_3 rfl k_X11_214 rfl h (Nat.le_of_ble_eq_true rfl) (fun v m1 h => ?_)
  obtain ⟨v2, rfl, h⟩ := h
  refine aw_eq (L' := [(0, .ref (ad 0)), (1, .int x1), (2, .int x2), (3, .int x3)]) (st' := [.int v2]) (m' := m1) ?_ rfl rfl rfl
  refine aw_if_eq (tgt := 21) dX11_game_9 (by decide) (fun hc => ?_) (fun hc => ?_)
  · have h := h.1 hc
    refine aw_iconst (v := -1) dX11_game_21 (by decide) ?_
    exact aw_ret (v := some (.int (-1 : Int32))) rfl (Or.inr (Or.inl ⟨_, .int, rfl, rfl, rfl, dX11_game_22⟩)) h
  · have h := h.2 hc
    refine aw_iload_n (j := 3) dX11_game_12 rfl rfl ?_
    refine aw_if_lt (tgt := 21) dX11_game_13 (by decide) (fun hc => ?_) (fun hc => ?_)
    · have h := h.1 hc
      refine aw_iconst (v := -1) dX11_game_21 (by decide) ?_
      exact aw_ret (v := some (.int (-1 : Int32))) rfl (Or.inr (Or.inl ⟨_, .int, rfl, rfl, rfl, dX11_game_22⟩)) h
    · have h := h.2 hc
      refine aw_iload_n (j := 3) dX11_game_16 rfl rfl ?_
      refine aw_iconst (v := 3) dX11_game_17 (by decide) ?_
      refine aw_icmp_le (tgt := 23) dX11_game_18 (by decide) (fun hc => ?_) (fun hc => ?_)
      · have h := h.1 hc
        refine aw_aload_n (j := 0) dX11_game_23 rfl rfl ?_
        refine aw_getfield (c := 29) (v := .ref (ad 26)) dX11_game_24 f_X11_37 ly_0 rfl rfl ?_
        refine aw_aload_n (j := 0) dX11_game_27 rfl rfl ?_
        refine aw_getfield (c := 24) (v := .ref (ad 21)) dX11_game_28 f_X11_33 ly_0 rfl rfl ?_
        refine aw_callV (rest := []) [.ref (ad 21)] dX11_game_31 ly_26 rfl k_X11_221 rfl h (Nat.le_of_ble_eq_true rfl) (fun v m3 h => ?_)
        obtain ⟨rfl, h⟩ := h
        refine aw_eq (L' := [(0, .ref (ad 0)), (1, .int x1), (2, .int x2), (3, .int x3)]) (st' := []) (m' := m3) ?_ rfl rfl rfl
        refine aw_aload_n (j := 0) dX11_game_34 rfl rfl ?_
        refine aw_getfield (c := 6) (v := .ref (ad 3)) dX11_game_35 f_X11_19 ly_0 rfl rfl ?_
        refine aw_aload_n (j := 0) dX11_game_38 rfl rfl ?_
        refine aw_getfield (c := 29) (v := .ref (ad 26)) dX11_game_39 f_X11_37 ly_0 rfl rfl ?_
        refine aw_iload_n (j := 1) dX11_game_42 rfl rfl ?_
        refine aw_iload_n (j := 2) dX11_game_43 rfl rfl ?_
        refine aw_iload_n (j := 3) dX11_game_44 rfl rfl ?_
        refine aw_callV (rest := []) [.ref (ad 26), .int x1, .int x2, .int x3] dX11_game_45 ly_3 rfl k_X11_225 rfl h (Nat.le_of_ble_eq_true rfl) (fun v m4 h => ?_)
        obtain ⟨v5, rfl, h⟩ := h
        refine aw_eq (L' := [(0, .ref (ad 0)), (1, .int x1), (2, .int x2), (3, .int x3)]) (st' := [.int v5]) (m' := m4) ?_ rfl rfl rfl
        refine aw_istore (L' := [(4, .int v5), (0, .ref (ad 0)), (1, .int x1), (2, .int x2), (3, .int x3)]) dX11_game_48 (by decide) rfl ?_
        refine aw_aload_n (j := 1) dX11_game_50 rfl rfl ?_
        refine aw_getfield (c := 6) (v := .ref (ad 3)) dX11_game_51 f_X11_19 ly_0 rfl rfl ?_
        refine aw_aload_n (j := 1) dX11_game_54 rfl rfl ?_
        refine aw_getfield (c := 29) (v := .ref (ad 26)) dX11_game_55 f_X11_37 ly_0 rfl rfl ?_
        refine aw_iload_n (j := 2) dX11_game_58 rfl rfl ?_
        refine aw_iload_n (j := 3) dX11_game_59 rfl rfl ?_
        refine aw_iload (j := 0) dX11_game_60 rfl ?_
        refine aw_iconst (v := 0) dX11_game_62 (by decide) ?_
        refine aw_callV (rest := []) [.ref (ad 26), .int x1, .int x2, .int v5, .int (0 : Int32)] dX11_game_63 ly_3 rfl k_X11_229 rfl h (Nat.le_of_ble_eq_true rfl) (fun v m6 h => ?_)
        obtain ⟨rfl, h⟩ := h
        refine aw_eq (L' := [(4, .int v5), (0, .ref (ad 0)), (1, .int x1), (2, .int x2), (3, .int x3)]) (st' := []) (m' := m6) ?_ rfl rfl rfl
        refine aw_aload_n (j := 1) dX11_game_66 rfl rfl ?_
        refine aw_aload_n (j := 1) dX11_game_67 rfl rfl ?_
        refine aw_getfield (c := 6) (v := .ref (ad 3)) dX11_game_68 f_X11_19 ly_0 rfl rfl ?_
        refine aw_getfield (c := 0) (v := .int (m6.1 3 6)) dX11_game_71 f_X11_233 ly_3 rfl rfl ?_
        refine aw_i2l dX11_game_74 ?_
        refine aw_aload_n (j := 1) dX11_game_75 rfl rfl ?_
        refine aw_getfield (c := 6) (v := .ref (ad 3)) dX11_game_76 f_X11_19 ly_0 rfl rfl ?_
        refine aw_getfield (c := 0) (v := .int (m6.1 3 7)) dX11_game_79 f_X11_236 ly_3 rfl rfl ?_
        refine aw_i2l dX11_game_82 ?_
        refine aw_callV (rest := []) [.long ((m6.1 3 6).toInt64), .long ((m6.1 3 7).toInt64)] dX11_game_83 ly_0 rfl k_X11_239 rfl h (Nat.le_of_ble_eq_true rfl) (fun v m7 h => ?_)
        obtain ⟨rfl, h⟩ := h
        refine aw_eq (L' := [(4, .int v5), (0, .ref (ad 0)), (1, .int x1), (2, .int x2), (3, .int x3)]) (st' := []) (m' := m7) ?_ rfl rfl rfl
        refine aw_iload (j := 0) dX11_game_86 rfl ?_
        exact aw_ret (v := some (.int v5)) rfl (Or.inr (Or.inl ⟨_, .int, rfl, rfl, rfl, dX11_game_88⟩)) h
      · have h := h.2 hc
        refine aw_iconst (v := -1) dX11_game_21 (by decide) ?_
        exact aw_ret (v := some (.int (-1 : Int32))) rfl (Or.inr (Or.inl ⟨_, .int, rfl, rfl, rfl, dX11_game_22⟩)) h
set_option maxRecDepth 100000 in
set_option maxHeartbeats 4000000 in
theorem v_X11_odds {ad : Nat → Nat} {d : Nat} {Q : Option Value → Wm → Prop} {m : Wm} {x1 x2 : Int32} (h : (Ct ad μX1_canMeet d [.ref (ad 3), .int x1, .int x2] m (fun r m1 => ∃ v2 : Int32, r = some (.int v2) ∧ ((v2 = 0 → Q (some (.int (-1 : Int32))) m1) ∧ (¬ v2 = 0 → (Ct ad μX1_chance d [.ref (ad 3), .ref (ad 21), .int x1, .int x2] m1 (fun r m3 => ∃ v4 : Int32, r = some (.int v4) ∧ Q (some (.int v4)) m3))))))) : Ct ad μX11_odds (d + 1) [.ref (ad 0), .int x1, .int x2] m Q := by
  refine Ct.of (by decide +kernel) rfl (Nat.le_of_ble_eq_true rfl) ?_
  refine aw_eq (L' := [(0, .ref (ad 0)), (1, .int x1), (2, .int x2)]) ?_ rfl rfl rfl
  refine aw_aload_n (j := 0) dX11_odds_0 rfl rfl ?_
  refine aw_getfield (c := 6) (v := .ref (ad 3)) dX11_odds_1 f_X11_19 ly_0 rfl rfl ?_
  refine aw_iload_n (j := 1) dX11_odds_4 rfl rfl ?_
  refine aw_iload_n (j := 2) dX11_odds_5 rfl rfl ?_
  refine aw_callV (rest := []) [.int x1, .int x2] dX11_odds_6 ly_3 rfl k_X11_214 rfl h (Nat.le_of_ble_eq_true rfl) (fun v m1 h => ?_)
  obtain ⟨v2, rfl, h⟩ := h
  refine aw_eq (L' := [(0, .ref (ad 0)), (1, .int x1), (2, .int x2)]) (st' := [.int v2]) (m' := m1) ?_ rfl rfl rfl
  refine aw_if_eq (tgt := 28) dX11_odds_9 (by decide) (fun hc => ?_) (fun hc => ?_)
  · have h := h.1 hc
    refine aw_iconst (v := -1) dX11_odds_28 (by decide) ?_
    exact aw_ret (v := some (.int (-1 : Int32))) rfl (Or.inr (Or.inl ⟨_, .int, rfl, rfl, rfl, dX11_odds_29⟩)) h
  · have h := h.2 hc
    refine aw_aload_n (j := 0) dX11_odds_12 rfl rfl ?_
    refine aw_getfield (c := 6) (v := .ref (ad 3)) dX11_odds_13 f_X11_19 ly_0 rfl rfl ?_
    refine aw_aload_n (j := 0) dX11_odds_16 rfl rfl ?_
    refine aw_getfield (c := 24) (v := .ref (ad 21)) dX11_odds_17 f_X11_33 ly_0 rfl rfl ?_
    refine aw_iload_n (j := 1) dX11_odds_20 rfl rfl ?_
    refine aw_iload_n (j := 2) dX11_odds_21 rfl rfl ?_
    refine aw_callV (rest := []) [.ref (ad 21), .int x1, .int x2] dX11_odds_22 ly_3 rfl k_X11_243 rfl h (Nat.le_of_ble_eq_true rfl) (fun v m3 h => ?_)
    obtain ⟨v4, rfl, h⟩ := h
    refine aw_eq (L' := [(0, .ref (ad 0)), (1, .int x1), (2, .int x2)]) (st' := [.int v4]) (m' := m3) ?_ rfl rfl rfl
    refine aw_goto (tgt := 29) dX11_odds_25 (by decide) ?_
    exact aw_ret (v := some (.int v4)) rfl (Or.inr (Or.inl ⟨_, .int, rfl, rfl, rfl, dX11_odds_29⟩)) h
set_option maxRecDepth 100000 in
set_option maxHeartbeats 4000000 in
theorem v_X11_play {ad : Nat → Nat} {d : Nat} {Q : Option Value → Wm → Prop} {m : Wm} {x1 x2 x3 : Int32} (h : (Ct ad μX1_canMeet d [.ref (ad 3), .int x1, .int x2] m (fun r m1 => ∃ v2 : Int32, r = some (.int v2) ∧ ((v2 = 0 → Q (some (.int (-1 : Int32))) m1) ∧ (¬ v2 = 0 → ((x3 < 0 → Q (some (.int (-1 : Int32))) m1) ∧ (¬ x3 < 0 → ((x3 ≤ (3 : Int32) → (Ct ad μX11_playNow d [.ref (ad 0), .int x1, .int x2, .int x3] m1 (fun r m3 => ∃ v4 : Int32, r = some (.int v4) ∧ (vp_in x1 8 ∧ (vp_in x2 8 ∧ (Ct ad μX11_tell_ d [.ref (ad 0), .long ((m3.1 23 x1.toNatClampNeg).toInt64), .long ((m3.1 23 x2.toNatClampNeg).toInt64)] m3 (fun r m5 => r = none ∧ Q (some (.int v4)) m5))))))) ∧ (¬ x3 ≤ (3 : Int32) → Q (some (.int (-1 : Int32))) m1))))))))) : Ct ad μX11_play (d + 1) [.ref (ad 0), .int x1, .int x2, .int x3] m Q := by
  refine Ct.of (by decide +kernel) rfl (Nat.le_of_ble_eq_true rfl) ?_
  refine aw_eq (L' := [(0, .ref (ad 0)), (1, .int x1), (2, .int x2), (3, .int x3)]) ?_ rfl rfl rfl
  refine aw_aload_n (j := 0) dX11_play_0 rfl rfl ?_
  refine aw_getfield (c := 6) (v := .ref (ad 3)) dX11_play_1 f_X11_19 ly_0 rfl rfl ?_
  refine aw_iload_n (j := 1) dX11_play_4 rfl rfl ?_
  refine aw_iload_n (j := 2) dX11_play_5 rfl rfl ?_
  refine aw_callV (rest := []) [.int x1, .int x2] dX11_play_6 ly_3 rfl k_X11_214 rfl h (Nat.le_of_ble_eq_true rfl) (fun v m1 h => ?_)
  obtain ⟨v2, rfl, h⟩ := h
  refine aw_eq (L' := [(0, .ref (ad 0)), (1, .int x1), (2, .int x2), (3, .int x3)]) (st' := [.int v2]) (m' := m1) ?_ rfl rfl rfl
  refine aw_if_eq (tgt := 21) dX11_play_9 (by decide) (fun hc => ?_) (fun hc => ?_)
  · have h := h.1 hc
    refine aw_iconst (v := -1) dX11_play_21 (by decide) ?_
    exact aw_ret (v := some (.int (-1 : Int32))) rfl (Or.inr (Or.inl ⟨_, .int, rfl, rfl, rfl, dX11_play_22⟩)) h
  · have h := h.2 hc
    refine aw_iload_n (j := 3) dX11_play_12 rfl rfl ?_
    refine aw_if_lt (tgt := 21) dX11_play_13 (by decide) (fun hc => ?_) (fun hc => ?_)
    · have h := h.1 hc
      refine aw_iconst (v := -1) dX11_play_21 (by decide) ?_
      exact aw_ret (v := some (.int (-1 : Int32))) rfl (Or.inr (Or.inl ⟨_, .int, rfl, rfl, rfl, dX11_play_22⟩)) h
    · have h := h.2 hc
      refine aw_iload_n (j := 3) dX11_play_16 rfl rfl ?_
      refine aw_iconst (v := 3) dX11_play_17 (by decide) ?_
      refine aw_icmp_le (tgt := 23) dX11_play_18 (by decide) (fun hc => ?_) (fun hc => ?_)
      · have h := h.1 hc
        refine aw_aload_n (j := 0) dX11_play_23 rfl rfl ?_
        refine aw_iload_n (j := 1) dX11_play_24 rfl rfl ?_
        refine aw_iload_n (j := 2) dX11_play_25 rfl rfl ?_
        refine aw_iload_n (j := 3) dX11_play_26 rfl rfl ?_
        refine aw_callV (rest := []) [.int x1, .int x2, .int x3] dX11_play_27 ly_0 rfl k_X11_247 rfl h (Nat.le_of_ble_eq_true rfl) (fun v m3 h => ?_)
        obtain ⟨v4, rfl, h⟩ := h
        refine aw_eq (L' := [(0, .ref (ad 0)), (1, .int x1), (2, .int x2), (3, .int x3)]) (st' := [.int v4]) (m' := m3) ?_ rfl rfl rfl
        refine aw_istore (L' := [(4, .int v4), (0, .ref (ad 0)), (1, .int x1), (2, .int x2), (3, .int x3)]) dX11_play_30 (by decide) rfl ?_
        refine aw_aload_n (j := 1) dX11_play_32 rfl rfl ?_
        refine aw_aload_n (j := 1) dX11_play_33 rfl rfl ?_
        refine aw_getfield (c := 24) (v := .ref (ad 21)) dX11_play_34 f_X11_33 ly_0 rfl rfl ?_
        refine aw_getfield (c := 26) (v := .ref (ad 23)) dX11_play_37 f_X11_181 ly_21 rfl rfl ?_
        refine aw_iload_n (j := 2) dX11_play_40 rfl rfl ?_
        obtain ⟨hi, h⟩ := h
        refine aw_iaload dX11_play_41 ly_23 hi ?_
        refine aw_i2l dX11_play_42 ?_
        refine aw_aload_n (j := 1) dX11_play_43 rfl rfl ?_
        refine aw_getfield (c := 24) (v := .ref (ad 21)) dX11_play_44 f_X11_33 ly_0 rfl rfl ?_
        refine aw_getfield (c := 26) (v := .ref (ad 23)) dX11_play_47 f_X11_181 ly_21 rfl rfl ?_
        refine aw_iload_n (j := 3) dX11_play_50 rfl rfl ?_
        obtain ⟨hi, h⟩ := h
        refine aw_iaload dX11_play_51 ly_23 hi ?_
        refine aw_i2l dX11_play_52 ?_
        refine aw_callV (rest := []) [.long ((m3.1 23 x1.toNatClampNeg).toInt64), .long ((m3.1 23 x2.toNatClampNeg).toInt64)] dX11_play_53 ly_0 rfl k_X11_239 rfl h (Nat.le_of_ble_eq_true rfl) (fun v m5 h => ?_)
        obtain ⟨rfl, h⟩ := h
        refine aw_eq (L' := [(4, .int v4), (0, .ref (ad 0)), (1, .int x1), (2, .int x2), (3, .int x3)]) (st' := []) (m' := m5) ?_ rfl rfl rfl
        refine aw_iload (j := 0) dX11_play_56 rfl ?_
        exact aw_ret (v := some (.int v4)) rfl (Or.inr (Or.inl ⟨_, .int, rfl, rfl, rfl, dX11_play_58⟩)) h
      · have h := h.2 hc
        refine aw_iconst (v := -1) dX11_play_21 (by decide) ?_
        exact aw_ret (v := some (.int (-1 : Int32))) rfl (Or.inr (Or.inl ⟨_, .int, rfl, rfl, rfl, dX11_play_22⟩)) h
set_option maxRecDepth 100000 in
set_option maxHeartbeats 4000000 in
theorem v_X11_playNow {ad : Nat → Nat} {d : Nat} {Q : Option Value → Wm → Prop} {m : Wm} {x1 x2 x3 : Int32} (h : (Ct ad μX2_save d [.ref (ad 31), .ref (ad 21)] m (fun r m1 => r = none ∧ (((m1.1 4 (4 : Int32).toNatClampNeg) ≤ 0 → AW ad E0 μX11_playNow (d + 1) Q 32 [(0, .ref (ad 0)), (1, .int x1), (2, .int x2), (3, .int x3)] [.int (0 : Int32)] m1) ∧ (¬ (m1.1 4 (4 : Int32).toNatClampNeg) ≤ 0 → ((¬ x3 = 0 → AW ad E0 μX11_playNow (d + 1) Q 32 [(0, .ref (ad 0)), (1, .int x1), (2, .int x2), (3, .int x3)] [.int (0 : Int32)] m1) ∧ (x3 = 0 → AW ad E0 μX11_playNow (d + 1) Q 32 [(0, .ref (ad 0)), (1, .int x1), (2, .int x2), (3, .int x3)] [.int (1 : Int32)] m1))))))) : Ct ad μX11_playNow (d + 1) [.ref (ad 0), .int x1, .int x2, .int x3] m Q := by
  refine Ct.of (by decide +kernel) rfl (Nat.le_of_ble_eq_true rfl) ?_
  refine aw_eq (L' := [(0, .ref (ad 0)), (1, .int x1), (2, .int x2), (3, .int x3)]) ?_ rfl rfl rfl
  refine aw_aload_n (j := 0) dX11_playNow_0 rfl rfl ?_
  refine aw_getfield (c := 34) (v := .ref (ad 31)) dX11_playNow_1 f_X11_43 ly_0 rfl rfl ?_
  refine aw_aload_n (j := 0) dX11_playNow_4 rfl rfl ?_
  refine aw_getfield (c := 24) (v := .ref (ad 21)) dX11_playNow_5 f_X11_33 ly_0 rfl rfl ?_
  refine aw_callV (rest := []) [.ref (ad 21)] dX11_playNow_8 ly_31 rfl k_X11_250 rfl h (Nat.le_of_ble_eq_true rfl) (fun v m1 h => ?_)
  obtain ⟨rfl, h⟩ := h
  refine aw_eq (L' := [(0, .ref (ad 0)), (1, .int x1), (2, .int x2), (3, .int x3)]) (st' := []) (m' := m1) ?_ rfl rfl rfl
  refine aw_aload_n (j := 0) dX11_playNow_11 rfl rfl ?_
  refine aw_getfield (c := 6) (v := .ref (ad 3)) dX11_playNow_12 f_X11_19 ly_0 rfl rfl ?_
  refine aw_getfield (c := 7) (v := .ref (ad 4)) dX11_playNow_15 f_X11_197 ly_3 rfl rfl ?_
  refine aw_iconst (v := 4) dX11_playNow_18 (by decide) ?_
  refine aw_iaload dX11_playNow_19 ly_4 (by unfold vp_in; decide) ?_
  refine aw_if_le (tgt := 31) dX11_playNow_20 (by decide) (fun hc => ?_) (fun hc => ?_)
  · have h := h.1 hc
    refine aw_iconst (v := 0) dX11_playNow_31 (by decide) ?_
    exact aw_sub [0, 1, 2, 3] rfl h
  · have h := h.2 hc
    refine aw_iload_n (j := 3) dX11_playNow_23 rfl rfl ?_
    refine aw_if_ne (tgt := 31) dX11_playNow_24 (by decide) (fun hc => ?_) (fun hc => ?_)
    · have h := h.1 hc
      refine aw_iconst (v := 0) dX11_playNow_31 (by decide) ?_
      exact aw_sub [0, 1, 2, 3] rfl h
    · have h := h.2 hc
      refine aw_iconst (v := 1) dX11_playNow_27 (by decide) ?_
      refine aw_goto (tgt := 32) dX11_playNow_28 (by decide) ?_
      exact aw_sub [0, 1, 2, 3] rfl h
set_option maxRecDepth 100000 in
set_option maxHeartbeats 4000000 in
theorem g_X11_playNow_32 {ad : Nat → Nat} {d : Nat} {Q : Option Value → Wm → Prop} {m : Wm} {x1 x2 x3 s0 : Int32} (h : ((s0 = 0 → (Ct ad μX1_result d [.ref (ad 3), .ref (ad 21), .int x1, .int x2, .int x3] m (fun r m1 => ∃ v2 : Int32, r = some (.int v2) ∧ AW ad E0 μX11_playNow (d + 1) Q 69 [(0, .ref (ad 0)), (1, .int x1), (2, .int x2), (3, .int x3)] [.int v2] m1))) ∧ (¬ s0 = 0 → (Ct ad μX1_drawnResult d [.ref (ad 3), .ref (ad 21), .int x1, .int x2] m (fun r m3 => ∃ v4 : Int32, r = some (.int v4) ∧ AW ad E0 μX11_playNow (d + 1) Q 69 [(0, .ref (ad 0)), (1, .int x1), (2, .int x2), (3, .int x3)] [.int v4] m3))))) : AW ad E0 μX11_playNow (d + 1) Q 32 [(0, .ref (ad 0)), (1, .int x1), (2, .int x2), (3, .int x3)] [.int s0] m := by
  refine aw_istore (L' := [(4, .int s0), (0, .ref (ad 0)), (1, .int x1), (2, .int x2), (3, .int x3)]) dX11_playNow_32 (by decide) rfl ?_
  refine aw_iload (j := 0) dX11_playNow_34 rfl ?_
  refine aw_if_eq (tgt := 55) dX11_playNow_36 (by decide) (fun hc => ?_) (fun hc => ?_)
  · have h := h.1 hc
    refine aw_aload_n (j := 1) dX11_playNow_55 rfl rfl ?_
    refine aw_getfield (c := 6) (v := .ref (ad 3)) dX11_playNow_56 f_X11_19 ly_0 rfl rfl ?_
    refine aw_aload_n (j := 1) dX11_playNow_59 rfl rfl ?_
    refine aw_getfield (c := 24) (v := .ref (ad 21)) dX11_playNow_60 f_X11_33 ly_0 rfl rfl ?_
    refine aw_iload_n (j := 2) dX11_playNow_63 rfl rfl ?_
    refine aw_iload_n (j := 3) dX11_playNow_64 rfl rfl ?_
    refine aw_iload_n (j := 4) dX11_playNow_65 rfl rfl ?_
    refine aw_callV (rest := []) [.ref (ad 21), .int x1, .int x2, .int x3] dX11_playNow_66 ly_3 rfl k_X11_225 rfl h (Nat.le_of_ble_eq_true rfl) (fun v m1 h => ?_)
    obtain ⟨v2, rfl, h⟩ := h
    refine aw_eq (L' := [(4, .int s0), (0, .ref (ad 0)), (1, .int x1), (2, .int x2), (3, .int x3)]) (st' := [.int v2]) (m' := m1) ?_ rfl rfl rfl
    exact aw_sub [1, 2, 3, 4] rfl h
  · have h := h.2 hc
    refine aw_aload_n (j := 1) dX11_playNow_39 rfl rfl ?_
    refine aw_getfield (c := 6) (v := .ref (ad 3)) dX11_playNow_40 f_X11_19 ly_0 rfl rfl ?_
    refine aw_aload_n (j := 1) dX11_playNow_43 rfl rfl ?_
    refine aw_getfield (c := 24) (v := .ref (ad 21)) dX11_playNow_44 f_X11_33 ly_0 rfl rfl ?_
    refine aw_iload_n (j := 2) dX11_playNow_47 rfl rfl ?_
    refine aw_iload_n (j := 3) dX11_playNow_48 rfl rfl ?_
    refine aw_callV (rest := []) [.ref (ad 21), .int x1, .int x2] dX11_playNow_49 ly_3 rfl k_X11_253 rfl h (Nat.le_of_ble_eq_true rfl) (fun v m3 h => ?_)
    obtain ⟨v4, rfl, h⟩ := h
    refine aw_eq (L' := [(4, .int s0), (0, .ref (ad 0)), (1, .int x1), (2, .int x2), (3, .int x3)]) (st' := [.int v4]) (m' := m3) ?_ rfl rfl rfl
    refine aw_goto (tgt := 69) dX11_playNow_52 (by decide) ?_
    exact aw_sub [1, 2, 3, 4] rfl h
set_option maxRecDepth 100000 in
set_option maxHeartbeats 4000000 in
theorem g_X11_playNow_69 {ad : Nat → Nat} {d : Nat} {Q : Option Value → Wm → Prop} {m : Wm} {x1 x2 x3 s0 : Int32} (h : (((x3 &&& (1 : Int32)) = 0 → AW ad E0 μX11_playNow (d + 1) Q 90 [(0, .ref (ad 0)), (1, .int x1), (2, .int x2), (3, .int x3), (5, .int s0)] [] m) ∧ (¬ (x3 &&& (1 : Int32)) = 0 → (vp_in x1 8 ∧ (vp_in x1 8 ∧ AW ad E0 μX11_playNow (d + 1) Q 90 [(0, .ref (ad 0)), (1, .int x1), (2, .int x2), (3, .int x3), (5, .int s0)] [] (uI m 25 x1.toNatClampNeg ((m.1 25 x1.toNatClampNeg) + (1 : Int32)))))))) : AW ad E0 μX11_playNow (d + 1) Q 69 [(0, .ref (ad 0)), (1, .int x1), (2, .int x2), (3, .int x3)] [.int s0] m := by
  refine aw_istore (L' := [(5, .int s0), (0, .ref (ad 0)), (1, .int x1), (2, .int x2), (3, .int x3)]) dX11_playNow_69 (by decide) rfl ?_
  refine aw_iload_n (j := 4) dX11_playNow_71 rfl rfl ?_
  refine aw_iconst (v := 1) dX11_playNow_72 (by decide) ?_
  refine aw_iand dX11_playNow_73 ?_
  refine aw_if_eq (tgt := 90) dX11_playNow_74 (by decide) (fun hc => ?_) (fun hc => ?_)
  · have h := h.1 hc
    exact aw_sub [1, 2, 3, 4, 0] rfl h
  · have h := h.2 hc
    refine aw_aload_n (j := 1) dX11_playNow_77 rfl rfl ?_
    refine aw_getfield (c := 24) (v := .ref (ad 21)) dX11_playNow_78 f_X11_33 ly_0 rfl rfl ?_
    refine aw_getfield (c := 28) (v := .ref (ad 25)) dX11_playNow_81 f_X11_190 ly_21 rfl rfl ?_
    refine aw_iload_n (j := 2) dX11_playNow_84 rfl rfl ?_
    refine aw_dup2_11 dX11_playNow_85 rfl rfl ?_
    obtain ⟨hi, h⟩ := h
    refine aw_iaload dX11_playNow_86 ly_25 hi ?_
    refine aw_iconst (v := 1) dX11_playNow_87 (by decide) ?_
    refine aw_iadd dX11_playNow_88 ?_
    obtain ⟨hi, h⟩ := h
    refine aw_iastore dX11_playNow_89 ly_25 hi ?_
    exact aw_sub [1, 2, 3, 4, 0] rfl h
set_option maxRecDepth 100000 in
set_option maxHeartbeats 4000000 in
theorem g_X11_playNow_90 {ad : Nat → Nat} {d : Nat} {Q : Option Value → Wm → Prop} {m : Wm} {x1 x2 x3 x5 : Int32} (h : (((x3 &&& (2 : Int32)) = 0 → AW ad E0 μX11_playNow (d + 1) Q 109 [(0, .ref (ad 0)), (1, .int x1), (2, .int x2), (5, .int x5)] [] m) ∧ (¬ (x3 &&& (2 : Int32)) = 0 → (vp_in x2 8 ∧ (vp_in x2 8 ∧ AW ad E0 μX11_playNow (d + 1) Q 109 [(0, .ref (ad 0)), (1, .int x1), (2, .int x2), (5, .int x5)] [] (uI m 25 x2.toNatClampNeg ((m.1 25 x2.toNatClampNeg) + (1 : Int32)))))))) : AW ad E0 μX11_playNow (d + 1) Q 90 [(0, .ref (ad 0)), (1, .int x1), (2, .int x2), (3, .int x3), (5, .int x5)] [] m := by
  refine aw_iload_n (j := 3) dX11_playNow_90 rfl rfl ?_
  refine aw_iconst (v := 2) dX11_playNow_91 (by decide) ?_
  refine aw_iand dX11_playNow_92 ?_
  refine aw_if_eq (tgt := 109) dX11_playNow_93 (by decide) (fun hc => ?_) (fun hc => ?_)
  · have h := h.1 hc
    exact aw_sub [0, 1, 2, 4] rfl h
  · have h := h.2 hc
    refine aw_aload_n (j := 0) dX11_playNow_96 rfl rfl ?_
    refine aw_getfield (c := 24) (v := .ref (ad 21)) dX11_playNow_97 f_X11_33 ly_0 rfl rfl ?_
    refine aw_getfield (c := 28) (v := .ref (ad 25)) dX11_playNow_100 f_X11_190 ly_21 rfl rfl ?_
    refine aw_iload_n (j := 2) dX11_playNow_103 rfl rfl ?_
    refine aw_dup2_11 dX11_playNow_104 rfl rfl ?_
    obtain ⟨hi, h⟩ := h
    refine aw_iaload dX11_playNow_105 ly_25 hi ?_
    refine aw_iconst (v := 1) dX11_playNow_106 (by decide) ?_
    refine aw_iadd dX11_playNow_107 ?_
    obtain ⟨hi, h⟩ := h
    refine aw_iastore dX11_playNow_108 ly_25 hi ?_
    exact aw_sub [0, 1, 2, 4] rfl h
set_option maxRecDepth 100000 in
set_option maxHeartbeats 4000000 in
theorem g_X11_playNow_109 {ad : Nat → Nat} {d : Nat} {Q : Option Value → Wm → Prop} {m : Wm} {x1 x2 x5 : Int32} (h : (Ct ad μX1_settle d [.ref (ad 3), .ref (ad 21), .int x1, .int x2, .int x5, .int (1 : Int32)] m (fun r m1 => r = none ∧ Q (some (.int x5)) m1))) : AW ad E0 μX11_playNow (d + 1) Q 109 [(0, .ref (ad 0)), (1, .int x1), (2, .int x2), (5, .int x5)] [] m := by
  refine aw_aload_n (j := 0) dX11_playNow_109 rfl rfl ?_
  refine aw_getfield (c := 6) (v := .ref (ad 3)) dX11_playNow_110 f_X11_19 ly_0 rfl rfl ?_
  refine aw_aload_n (j := 0) dX11_playNow_113 rfl rfl ?_
  refine aw_getfield (c := 24) (v := .ref (ad 21)) dX11_playNow_114 f_X11_33 ly_0 rfl rfl ?_
  refine aw_iload_n (j := 1) dX11_playNow_117 rfl rfl ?_
  refine aw_iload_n (j := 2) dX11_playNow_118 rfl rfl ?_
  refine aw_iload (j := 3) dX11_playNow_119 rfl ?_
  refine aw_iconst (v := 1) dX11_playNow_121 (by decide) ?_
  refine aw_callV (rest := []) [.ref (ad 21), .int x1, .int x2, .int x5, .int (1 : Int32)] dX11_playNow_122 ly_3 rfl k_X11_229 rfl h (Nat.le_of_ble_eq_true rfl) (fun v m1 h => ?_)
  obtain ⟨rfl, h⟩ := h
  refine aw_eq (L' := [(0, .ref (ad 0)), (1, .int x1), (2, .int x2), (5, .int x5)]) (st' := []) (m' := m1) ?_ rfl rfl rfl
  refine aw_iload (j := 3) dX11_playNow_125 rfl ?_
  exact aw_ret (v := some (.int x5)) rfl (Or.inr (Or.inl ⟨_, .int, rfl, rfl, rfl, dX11_playNow_127⟩)) h
set_option maxRecDepth 100000 in
set_option maxHeartbeats 4000000 in
theorem v_X11_undo {ad : Nat → Nat} {d : Nat} {Q : Option Value → Wm → Prop} {m : Wm} (h : (Ct ad μX2_takeBack d [.ref (ad 31), .ref (ad 21)] m (fun r m1 => ∃ v2 : Int32, r = some (.int v2) ∧ ((v2 = 0 → Q (some (.int (-1 : Int32))) m1) ∧ (¬ v2 = 0 → Q (some (.int (m1.1 31 1))) m1))))) : Ct ad μX11_undo (d + 1) [.ref (ad 0)] m Q := by
  refine Ct.of (by decide +kernel) rfl (Nat.le_of_ble_eq_true rfl) ?_
  refine aw_eq (L' := [(0, .ref (ad 0))]) ?_ rfl rfl rfl
  refine aw_aload_n (j := 0) dX11_undo_0 rfl rfl ?_
  refine aw_getfield (c := 34) (v := .ref (ad 31)) dX11_undo_1 f_X11_43 ly_0 rfl rfl ?_
  refine aw_aload_n (j := 0) dX11_undo_4 rfl rfl ?_
  refine aw_getfield (c := 24) (v := .ref (ad 21)) dX11_undo_5 f_X11_33 ly_0 rfl rfl ?_
  refine aw_callV (rest := []) [.ref (ad 21)] dX11_undo_8 ly_31 rfl k_X11_256 rfl h (Nat.le_of_ble_eq_true rfl) (fun v m1 h => ?_)
  obtain ⟨v2, rfl, h⟩ := h
  refine aw_eq (L' := [(0, .ref (ad 0))]) (st' := [.int v2]) (m' := m1) ?_ rfl rfl rfl
  refine aw_if_eq (tgt := 24) dX11_undo_11 (by decide) (fun hc => ?_) (fun hc => ?_)
  · have h := h.1 hc
    refine aw_iconst (v := -1) dX11_undo_24 (by decide) ?_
    exact aw_ret (v := some (.int (-1 : Int32))) rfl (Or.inr (Or.inl ⟨_, .int, rfl, rfl, rfl, dX11_undo_25⟩)) h
  · have h := h.2 hc
    refine aw_aload_n (j := 0) dX11_undo_14 rfl rfl ?_
    refine aw_getfield (c := 34) (v := .ref (ad 31)) dX11_undo_15 f_X11_43 ly_0 rfl rfl ?_
    refine aw_getfield (c := 0) (v := .int (m1.1 31 1)) dX11_undo_18 f_X11_135 ly_31 rfl rfl ?_
    refine aw_goto (tgt := 25) dX11_undo_21 (by decide) ?_
    exact aw_ret (v := some (.int (m1.1 31 1))) rfl (Or.inr (Or.inl ⟨_, .int, rfl, rfl, rfl, dX11_undo_25⟩)) h
set_option maxRecDepth 100000 in
set_option maxHeartbeats 4000000 in
theorem v_X11_judge {ad : Nat → Nat} {d : Nat} {Q : Option Value → Wm → Prop} {m : Wm} {x1 x2 : Int32} (h : ((x1 < 0 → Q (some (.int (-1 : Int32))) m) ∧ (¬ x1 < 0 → ((x1 ≤ (3 : Int32) → (Ct ad μX8_copy d [.ref (ad 26), .ref (ad 21)] m (fun r m1 => r = none ∧ AW ad E0 μX11_judge (d + 1) Q 28 [(0, .ref (ad 0)), (1, .int x1), (2, .int x2), (3, .int (-2 : Int32)), (4, .int (0 : Int32))] [] m1))) ∧ (¬ x1 ≤ (3 : Int32) → Q (some (.int (-1 : Int32))) m))))) : Ct ad μX11_judge (d + 1) [.ref (ad 0), .int x1, .int x2] m Q := by
  refine Ct.of (by decide +kernel) rfl (Nat.le_of_ble_eq_true rfl) ?_
  refine aw_eq (L' := [(0, .ref (ad 0)), (1, .int x1), (2, .int x2)]) ?_ rfl rfl rfl
  refine aw_iload_n (j := 1) dX11_judge_0 rfl rfl ?_
  refine aw_if_lt (tgt := 9) dX11_judge_1 (by decide) (fun hc => ?_) (fun hc => ?_)
  · have h := h.1 hc
    refine aw_iconst (v := -1) dX11_judge_9 (by decide) ?_
    exact aw_ret (v := some (.int (-1 : Int32))) rfl (Or.inr (Or.inl ⟨_, .int, rfl, rfl, rfl, dX11_judge_10⟩)) h
  · have h := h.2 hc
    refine aw_iload_n (j := 1) dX11_judge_4 rfl rfl ?_
    refine aw_iconst (v := 3) dX11_judge_5 (by decide) ?_
    refine aw_icmp_le (tgt := 11) dX11_judge_6 (by decide) (fun hc => ?_) (fun hc => ?_)
    · have h := h.1 hc
      refine aw_aload_n (j := 0) dX11_judge_11 rfl rfl ?_
      refine aw_getfield (c := 29) (v := .ref (ad 26)) dX11_judge_12 f_X11_37 ly_0 rfl rfl ?_
      refine aw_aload_n (j := 0) dX11_judge_15 rfl rfl ?_
      refine aw_getfield (c := 24) (v := .ref (ad 21)) dX11_judge_16 f_X11_33 ly_0 rfl rfl ?_
      refine aw_callV (rest := []) [.ref (ad 21)] dX11_judge_19 ly_26 rfl k_X11_221 rfl h (Nat.le_of_ble_eq_true rfl) (fun v m1 h => ?_)
      obtain ⟨rfl, h⟩ := h
      refine aw_eq (L' := [(0, .ref (ad 0)), (1, .int x1), (2, .int x2)]) (st' := []) (m' := m1) ?_ rfl rfl rfl
      refine aw_bipush (v := -2) dX11_judge_22 (by decide) ?_
      refine aw_istore_n (L' := [(3, .int (-2 : Int32)), (0, .ref (ad 0)), (1, .int x1), (2, .int x2)]) dX11_judge_24 rfl (by decide) rfl ?_
      refine aw_iconst (v := 0) dX11_judge_25 (by decide) ?_
      refine aw_istore (L' := [(4, .int (0 : Int32)), (3, .int (-2 : Int32)), (0, .ref (ad 0)), (1, .int x1), (2, .int x2)]) dX11_judge_26 (by decide) rfl ?_
      exact aw_sub [2, 3, 4, 1, 0] rfl h
    · have h := h.2 hc
      refine aw_iconst (v := -1) dX11_judge_9 (by decide) ?_
      exact aw_ret (v := some (.int (-1 : Int32))) rfl (Or.inr (Or.inl ⟨_, .int, rfl, rfl, rfl, dX11_judge_10⟩)) h
set_option maxRecDepth 100000 in
set_option maxHeartbeats 4000000 in
theorem g_X11_judge_28 {ad : Nat → Nat} {d : Nat} {Q : Option Value → Wm → Prop} {m : Wm} {x1 x2 x3 x4 : Int32} (h : ((x1 ≤ x4 → AW ad E0 μX11_judge (d + 1) Q 67 [(0, .ref (ad 0)), (3, .int x3)] [] m) ∧ (¬ x1 ≤ x4 → ((¬ x3 = (-2 : Int32) → AW ad E0 μX11_judge (d + 1) Q 67 [(0, .ref (ad 0)), (3, .int x3)] [] m) ∧ (x3 = (-2 : Int32) → (Ct ad μX11_playTold d [.ref (ad 0), .int (((x2.toUInt32 >>> (((10 : Int32) * x4).toUInt32 &&& Int32.toUInt32 31)).toInt32) &&& (1023 : Int32))] m (fun r m1 => ∃ v2 : Int32, r = some (.int v2) ∧ ((¬ v2 = 0 → AW ad E0 μX11_judge (d + 1) Q 28 [(0, .ref (ad 0)), (1, .int x1), (2, .int x2), (3, .int x3), (4, .int (x4 + (1 : Int32)))] [] m1) ∧ (v2 = 0 → AW ad E0 μX11_judge (d + 1) Q 28 [(0, .ref (ad 0)), (1, .int x1), (2, .int x2), (3, .int x4), (4, .int (x4 + (1 : Int32)))] [] m1))))))))) : AW ad E0 μX11_judge (d + 1) Q 28 [(0, .ref (ad 0)), (1, .int x1), (2, .int x2), (3, .int x3), (4, .int x4)] [] m := by
  refine aw_iload (j := 4) dX11_judge_28 rfl ?_
  refine aw_iload_n (j := 1) dX11_judge_30 rfl rfl ?_
  refine aw_icmp_ge (tgt := 67) dX11_judge_31 (by decide) (fun hc => ?_) (fun hc => ?_)
  · have h := h.1 hc
    exact aw_sub [0, 3] rfl h
  · have h := h.2 hc
    refine aw_iload_n (j := 3) dX11_judge_34 rfl rfl ?_
    refine aw_bipush (v := -2) dX11_judge_35 (by decide) ?_
    refine aw_icmp_ne (tgt := 67) dX11_judge_37 (by decide) (fun hc => ?_) (fun hc => ?_)
    · have h := h.1 hc
      exact aw_sub [0, 3] rfl h
    · have h := h.2 hc
      refine aw_aload_n (j := 0) dX11_judge_40 rfl rfl ?_
      refine aw_iload_n (j := 2) dX11_judge_41 rfl rfl ?_
      refine aw_bipush (v := 10) dX11_judge_42 (by decide) ?_
      refine aw_iload (j := 4) dX11_judge_44 rfl ?_
      refine aw_imul dX11_judge_46 ?_
      refine aw_iushr dX11_judge_47 ?_
      refine aw_sipush (v := 1023) dX11_judge_48 (by decide) ?_
      refine aw_iand dX11_judge_51 ?_
      refine aw_callV (rest := []) [.int (((x2.toUInt32 >>> (((10 : Int32) * x4).toUInt32 &&& Int32.toUInt32 31)).toInt32) &&& (1023 : Int32))] dX11_judge_52 ly_0 rfl k_X11_260 rfl h (Nat.le_of_ble_eq_true rfl) (fun v m1 h => ?_)
      obtain ⟨v2, rfl, h⟩ := h
      refine aw_eq (L' := [(0, .ref (ad 0)), (1, .int x1), (2, .int x2), (3, .int x3), (4, .int x4)]) (st' := [.int v2]) (m' := m1) ?_ rfl rfl rfl
      refine aw_if_ne (tgt := 61) dX11_judge_55 (by decide) (fun hc => ?_) (fun hc => ?_)
      · have h := h.1 hc
        refine aw_iinc (j := 4) (v := x4 + (1 : Int32)) (L' := [(4, .int (x4 + (1 : Int32))), (0, .ref (ad 0)), (1, .int x1), (2, .int x2), (3, .int x3)]) dX11_judge_61 rfl rfl (by decide) rfl ?_
        refine aw_goto (tgt := 28) dX11_judge_64 (by decide) ?_
        exact aw_sub [1, 2, 3, 4, 0] rfl h
      · have h := h.2 hc
        refine aw_iload (j := 4) dX11_judge_58 rfl ?_
        refine aw_istore_n (L' := [(3, .int x4), (0, .ref (ad 0)), (1, .int x1), (2, .int x2), (4, .int x4)]) dX11_judge_60 rfl (by decide) rfl ?_
        refine aw_iinc (j := 4) (v := x4 + (1 : Int32)) (L' := [(4, .int (x4 + (1 : Int32))), (3, .int x4), (0, .ref (ad 0)), (1, .int x1), (2, .int x2)]) dX11_judge_61 rfl rfl (by decide) rfl ?_
        refine aw_goto (tgt := 28) dX11_judge_64 (by decide) ?_
        exact aw_sub [2, 3, 4, 1, 0] rfl h
set_option maxRecDepth 100000 in
set_option maxHeartbeats 4000000 in
theorem g_X11_judge_67 {ad : Nat → Nat} {d : Nat} {Q : Option Value → Wm → Prop} {m : Wm} {x3 : Int32} (h : (Ct ad μX1_total d [.ref (ad 3), .ref (ad 26)] m (fun r m1 => ∃ v2 : Int32, r = some (.int v2) ∧ (Ct ad μX1_total d [.ref (ad 3), .ref (ad 21)] m1 (fun r m3 => ∃ v4 : Int32, r = some (.int v4) ∧ (Ct ad μX11_tell d [.ref (ad 0), .long ((v2 - v4).toInt64)] m3 (fun r m5 => r = none ∧ Q (some (.int x3)) m5))))))) : AW ad E0 μX11_judge (d + 1) Q 67 [(0, .ref (ad 0)), (3, .int x3)] [] m := by
  refine aw_aload_n (j := 0) dX11_judge_67 rfl rfl ?_
  refine aw_aload_n (j := 0) dX11_judge_68 rfl rfl ?_
  refine aw_getfield (c := 6) (v := .ref (ad 3)) dX11_judge_69 f_X11_19 ly_0 rfl rfl ?_
  refine aw_aload_n (j := 0) dX11_judge_72 rfl rfl ?_
  refine aw_getfield (c := 29) (v := .ref (ad 26)) dX11_judge_73 f_X11_37 ly_0 rfl rfl ?_
  refine aw_callV (rest := [.ref (ad 0)]) [.ref (ad 26)] dX11_judge_76 ly_3 rfl k_X11_263 rfl h (Nat.le_of_ble_eq_true rfl) (fun v m1 h => ?_)
  obtain ⟨v2, rfl, h⟩ := h
  refine aw_eq (L' := [(0, .ref (ad 0)), (3, .int x3)]) (st' := [.int v2, .ref (ad 0)]) (m' := m1) ?_ rfl rfl rfl
  refine aw_aload_n (j := 0) dX11_judge_79 rfl rfl ?_
  refine aw_getfield (c := 6) (v := .ref (ad 3)) dX11_judge_80 f_X11_19 ly_0 rfl rfl ?_
  refine aw_aload_n (j := 0) dX11_judge_83 rfl rfl ?_
  refine aw_getfield (c := 24) (v := .ref (ad 21)) dX11_judge_84 f_X11_33 ly_0 rfl rfl ?_
  refine aw_callV (rest := [.int v2, .ref (ad 0)]) [.ref (ad 21)] dX11_judge_87 ly_3 rfl k_X11_263 rfl h (Nat.le_of_ble_eq_true rfl) (fun v m3 h => ?_)
  obtain ⟨v4, rfl, h⟩ := h
  refine aw_eq (L' := [(0, .ref (ad 0)), (3, .int x3)]) (st' := [.int v4, .int v2, .ref (ad 0)]) (m' := m3) ?_ rfl rfl rfl
  refine aw_isub dX11_judge_90 ?_
  refine aw_i2l dX11_judge_91 ?_
  refine aw_callV (rest := []) [.long ((v2 - v4).toInt64)] dX11_judge_92 ly_0 rfl k_X11_267 rfl h (Nat.le_of_ble_eq_true rfl) (fun v m5 h => ?_)
  obtain ⟨rfl, h⟩ := h
  refine aw_eq (L' := [(0, .ref (ad 0)), (3, .int x3)]) (st' := []) (m' := m5) ?_ rfl rfl rfl
  refine aw_iload_n (j := 1) dX11_judge_95 rfl rfl ?_
  exact aw_ret (v := some (.int x3)) rfl (Or.inr (Or.inl ⟨_, .int, rfl, rfl, rfl, dX11_judge_96⟩)) h
set_option maxRecDepth 100000 in
set_option maxHeartbeats 4000000 in
theorem v_X11_playTold {ad : Nat → Nat} {d : Nat} {Q : Option Value → Wm → Prop} {m : Wm} {x1 : Int32} (h : (((2 : Int32) < (x1 / (100 : Int32)) → Q (some (.int (0 : Int32))) m) ∧ (¬ (2 : Int32) < (x1 / (100 : Int32)) → (((x1 - x1 / (10 : Int32) * (10 : Int32)) ≤ ((x1 / (10 : Int32)) - (x1 / (10 : Int32)) / (10 : Int32) * (10 : Int32)) → Q (some (.int (0 : Int32))) m) ∧ (¬ (x1 - x1 / (10 : Int32) * (10 : Int32)) ≤ ((x1 / (10 : Int32)) - (x1 / (10 : Int32)) / (10 : Int32) * (10 : Int32)) → (Ct ad μX1_canMeet d [.ref (ad 3), .int ((x1 / (10 : Int32)) - (x1 / (10 : Int32)) / (10 : Int32) * (10 : Int32)), .int (x1 - x1 / (10 : Int32) * (10 : Int32))] m (fun r m1 => ∃ v2 : Int32, r = some (.int v2) ∧ ((¬ v2 = 0 → (Ct ad μX1_result d [.ref (ad 3), .ref (ad 26), .int ((x1 / (10 : Int32)) - (x1 / (10 : Int32)) / (10 : Int32) * (10 : Int32)), .int (x1 - x1 / (10 : Int32) * (10 : Int32)), .int (x1 / (100 : Int32))] m1 (fun r m3 => ∃ v4 : Int32, r = some (.int v4) ∧ (Ct ad μX1_settle d [.ref (ad 3), .ref (ad 26), .int ((x1 / (10 : Int32)) - (x1 / (10 : Int32)) / (10 : Int32) * (10 : Int32)), .int (x1 - x1 / (10 : Int32) * (10 : Int32)), .int v4, .int (1 : Int32)] m3 (fun r m5 => r = none ∧ Q (some (.int (1 : Int32))) m5))))) ∧ (v2 = 0 → Q (some (.int (0 : Int32))) m1))))))))) : Ct ad μX11_playTold (d + 1) [.ref (ad 0), .int x1] m Q := by
  refine Ct.of (by decide +kernel) rfl (Nat.le_of_ble_eq_true rfl) ?_
  refine aw_eq (L' := [(0, .ref (ad 0)), (1, .int x1)]) ?_ rfl rfl rfl
  refine aw_iload_n (j := 1) dX11_playTold_0 rfl rfl ?_
  refine aw_bipush (v := 100) dX11_playTold_1 (by decide) ?_
  refine aw_idiv dX11_playTold_3 (by decide) ?_
  refine aw_istore_n (L' := [(2, .int (x1 / (100 : Int32))), (0, .ref (ad 0)), (1, .int x1)]) dX11_playTold_4 rfl (by decide) rfl ?_
  refine aw_iload_n (j := 2) dX11_playTold_5 rfl rfl ?_
  refine aw_bipush (v := 10) dX11_playTold_6 (by decide) ?_
  refine aw_idiv dX11_playTold_8 (by decide) ?_
  refine aw_bipush (v := 10) dX11_playTold_9 (by decide) ?_
  refine aw_irem dX11_playTold_11 (by decide) ?_
  refine aw_istore_n (L' := [(3, .int ((x1 / (10 : Int32)) - (x1 / (10 : Int32)) / (10 : Int32) * (10 : Int32))), (2, .int (x1 / (100 : Int32))), (0, .ref (ad 0)), (1, .int x1)]) dX11_playTold_12 rfl (by decide) rfl ?_
  refine aw_iload_n (j := 3) dX11_playTold_13 rfl rfl ?_
  refine aw_bipush (v := 10) dX11_playTold_14 (by decide) ?_
  refine aw_irem dX11_playTold_16 (by decide) ?_
  refine aw_istore (L' := [(4, .int (x1 - x1 / (10 : Int32) * (10 : Int32))), (3, .int ((x1 / (10 : Int32)) - (x1 / (10 : Int32)) / (10 : Int32) * (10 : Int32))), (2, .int (x1 / (100 : Int32))), (0, .ref (ad 0)), (1, .int x1)]) dX11_playTold_17 (by decide) rfl ?_
  refine aw_iload_n (j := 2) dX11_playTold_19 rfl rfl ?_
  refine aw_iconst (v := 2) dX11_playTold_20 (by decide) ?_
  refine aw_icmp_gt (tgt := 43) dX11_playTold_21 (by decide) (fun hc => ?_) (fun hc => ?_)
  · have h := h.1 hc
    refine aw_iconst (v := 0) dX11_playTold_43 (by decide) ?_
    exact aw_ret (v := some (.int (0 : Int32))) rfl (Or.inr (Or.inl ⟨_, .boolean, rfl, rfl, by decide, dX11_playTold_44⟩)) h
  · have h := h.2 hc
    refine aw_iload_n (j := 1) dX11_playTold_24 rfl rfl ?_
    refine aw_iload (j := 0) dX11_playTold_25 rfl ?_
    refine aw_icmp_ge (tgt := 43) dX11_playTold_27 (by decide) (fun hc => ?_) (fun hc => ?_)
    · have h := h.1 hc
      refine aw_iconst (v := 0) dX11_playTold_43 (by decide) ?_
      exact aw_ret (v := some (.int (0 : Int32))) rfl (Or.inr (Or.inl ⟨_, .boolean, rfl, rfl, by decide, dX11_playTold_44⟩)) h
    · have h := h.2 hc
      refine aw_aload_n (j := 3) dX11_playTold_30 rfl rfl ?_
      refine aw_getfield (c := 6) (v := .ref (ad 3)) dX11_playTold_31 f_X11_19 ly_0 rfl rfl ?_
      refine aw_iload_n (j := 1) dX11_playTold_34 rfl rfl ?_
      refine aw_iload (j := 0) dX11_playTold_35 rfl ?_
      refine aw_callV (rest := []) [.int ((x1 / (10 : Int32)) - (x1 / (10 : Int32)) / (10 : Int32) * (10 : Int32)), .int (x1 - x1 / (10 : Int32) * (10 : Int32))] dX11_playTold_37 ly_3 rfl k_X11_214 rfl h (Nat.le_of_ble_eq_true rfl) (fun v m1 h => ?_)
      obtain ⟨v2, rfl, h⟩ := h
      refine aw_eq (L' := [(4, .int (x1 - x1 / (10 : Int32) * (10 : Int32))), (3, .int ((x1 / (10 : Int32)) - (x1 / (10 : Int32)) / (10 : Int32) * (10 : Int32))), (2, .int (x1 / (100 : Int32))), (0, .ref (ad 0)), (1, .int x1)]) (st' := [.int v2]) (m' := m1) ?_ rfl rfl rfl
      refine aw_if_ne (tgt := 45) dX11_playTold_40 (by decide) (fun hc => ?_) (fun hc => ?_)
      · have h := h.1 hc
        refine aw_aload_n (j := 3) dX11_playTold_45 rfl rfl ?_
        refine aw_getfield (c := 6) (v := .ref (ad 3)) dX11_playTold_46 f_X11_19 ly_0 rfl rfl ?_
        refine aw_aload_n (j := 3) dX11_playTold_49 rfl rfl ?_
        refine aw_getfield (c := 29) (v := .ref (ad 26)) dX11_playTold_50 f_X11_37 ly_0 rfl rfl ?_
        refine aw_iload_n (j := 1) dX11_playTold_53 rfl rfl ?_
        refine aw_iload (j := 0) dX11_playTold_54 rfl ?_
        refine aw_aload_n (j := 3) dX11_playTold_56 rfl rfl ?_
        refine aw_getfield (c := 6) (v := .ref (ad 3)) dX11_playTold_57 f_X11_19 ly_0 rfl rfl ?_
        refine aw_aload_n (j := 3) dX11_playTold_60 rfl rfl ?_
        refine aw_getfield (c := 29) (v := .ref (ad 26)) dX11_playTold_61 f_X11_37 ly_0 rfl rfl ?_
        refine aw_iload_n (j := 1) dX11_playTold_64 rfl rfl ?_
        refine aw_iload (j := 0) dX11_playTold_65 rfl ?_
        refine aw_iload_n (j := 2) dX11_playTold_67 rfl rfl ?_
        refine aw_callV (rest := [.int (x1 - x1 / (10 : Int32) * (10 : Int32)), .int ((x1 / (10 : Int32)) - (x1 / (10 : Int32)) / (10 : Int32) * (10 : Int32)), .ref (ad 26), .ref (ad 3)]) [.ref (ad 26), .int ((x1 / (10 : Int32)) - (x1 / (10 : Int32)) / (10 : Int32) * (10 : Int32)), .int (x1 - x1 / (10 : Int32) * (10 : Int32)), .int (x1 / (100 : Int32))] dX11_playTold_68 ly_3 rfl k_X11_225 rfl h (Nat.le_of_ble_eq_true rfl) (fun v m3 h => ?_)
        obtain ⟨v4, rfl, h⟩ := h
        refine aw_eq (L' := [(4, .int (x1 - x1 / (10 : Int32) * (10 : Int32))), (3, .int ((x1 / (10 : Int32)) - (x1 / (10 : Int32)) / (10 : Int32) * (10 : Int32))), (2, .int (x1 / (100 : Int32))), (0, .ref (ad 0)), (1, .int x1)]) (st' := [.int v4, .int (x1 - x1 / (10 : Int32) * (10 : Int32)), .int ((x1 / (10 : Int32)) - (x1 / (10 : Int32)) / (10 : Int32) * (10 : Int32)), .ref (ad 26), .ref (ad 3)]) (m' := m3) ?_ rfl rfl rfl
        refine aw_iconst (v := 1) dX11_playTold_71 (by decide) ?_
        refine aw_callV (rest := []) [.ref (ad 26), .int ((x1 / (10 : Int32)) - (x1 / (10 : Int32)) / (10 : Int32) * (10 : Int32)), .int (x1 - x1 / (10 : Int32) * (10 : Int32)), .int v4, .int (1 : Int32)] dX11_playTold_72 ly_3 rfl k_X11_229 rfl h (Nat.le_of_ble_eq_true rfl) (fun v m5 h => ?_)
        obtain ⟨rfl, h⟩ := h
        refine aw_eq (L' := [(4, .int (x1 - x1 / (10 : Int32) * (10 : Int32))), (3, .int ((x1 / (10 : Int32)) - (x1 / (10 : Int32)) / (10 : Int32) * (10 : Int32))), (2, .int (x1 / (100 : Int32))), (0, .ref (ad 0)), (1, .int x1)]) (st' := []) (m' := m5) ?_ rfl rfl rfl
        refine aw_iconst (v := 1) dX11_playTold_75 (by decide) ?_
        exact aw_ret (v := some (.int (1 : Int32))) rfl (Or.inr (Or.inl ⟨_, .boolean, rfl, rfl, by decide, dX11_playTold_76⟩)) h
      · have h := h.2 hc
        refine aw_iconst (v := 0) dX11_playTold_43 (by decide) ?_
        exact aw_ret (v := some (.int (0 : Int32))) rfl (Or.inr (Or.inl ⟨_, .boolean, rfl, rfl, by decide, dX11_playTold_44⟩)) h
set_option maxRecDepth 100000 in
set_option maxHeartbeats 4000000 in
theorem v_X11_rounds {ad : Nat → Nat} {d : Nat} {Q : Option Value → Wm → Prop} {m : Wm} {x1 : Int32} (h : ((x1 < 0 → Q (some (.int (-1 : Int32))) m) ∧ (¬ x1 < 0 → (((200 : Int32) < x1 → Q (some (.int (-1 : Int32))) m) ∧ (¬ (200 : Int32) < x1 → (∃ r1, m.2.2 0 9 = some r1 ∧ Pl r1 ∧ ((¬ (m.1 r1 5) = 0 → AW ad E0 μX11_rounds (d + 1) Q 30 [(0, .ref (ad 0)), (1, .int x1), (2, .int (0 : Int32)), (3, .int (0 : Int32)), (4, .int (0 : Int32))] [] m) ∧ ((m.1 r1 5) = 0 → Q (some (.int (-1 : Int32))) m)))))))) : Ct ad μX11_rounds (d + 1) [.ref (ad 0), .int x1] m Q := by
  refine Ct.of (by decide +kernel) rfl (Nat.le_of_ble_eq_true rfl) ?_
  refine aw_eq (L' := [(0, .ref (ad 0)), (1, .int x1)]) ?_ rfl rfl rfl
  refine aw_iload_n (j := 1) dX11_rounds_0 rfl rfl ?_
  refine aw_if_lt (tgt := 21) dX11_rounds_1 (by decide) (fun hc => ?_) (fun hc => ?_)
  · have h := h.1 hc
    refine aw_iconst (v := -1) dX11_rounds_21 (by decide) ?_
    exact aw_ret (v := some (.int (-1 : Int32))) rfl (Or.inr (Or.inl ⟨_, .int, rfl, rfl, rfl, dX11_rounds_22⟩)) h
  · have h := h.2 hc
    refine aw_iload_n (j := 1) dX11_rounds_4 rfl rfl ?_
    refine aw_sipush (v := 200) dX11_rounds_5 (by decide) ?_
    refine aw_icmp_gt (tgt := 21) dX11_rounds_8 (by decide) (fun hc => ?_) (fun hc => ?_)
    · have h := h.1 hc
      refine aw_iconst (v := -1) dX11_rounds_21 (by decide) ?_
      exact aw_ret (v := some (.int (-1 : Int32))) rfl (Or.inr (Or.inl ⟨_, .int, rfl, rfl, rfl, dX11_rounds_22⟩)) h
    · have h := h.2 hc
      refine aw_aload_n (j := 0) dX11_rounds_11 rfl rfl ?_
      obtain ⟨r1, hrr1, hr1, h⟩ := h
      refine aw_getfield (c := 2) (v := .ref (ad r1)) dX11_rounds_12 f_X11_56 ly_0 rfl (by show va_rf (Option.map ad (m.2.2 0 9)) = _; rw [hrr1]; rfl) ?_
      refine aw_getfield (c := 0) (v := .int (m.1 r1 5)) dX11_rounds_15 f_X11_161 hr1.1 rfl rfl ?_
      refine aw_if_ne (tgt := 23) dX11_rounds_18 (by decide) (fun hc => ?_) (fun hc => ?_)
      · have h := h.1 hc
        refine aw_iconst (v := 0) dX11_rounds_23 (by decide) ?_
        refine aw_istore_n (L' := [(2, .int (0 : Int32)), (0, .ref (ad 0)), (1, .int x1)]) dX11_rounds_24 rfl (by decide) rfl ?_
        refine aw_iconst (v := 0) dX11_rounds_25 (by decide) ?_
        refine aw_istore_n (L' := [(3, .int (0 : Int32)), (2, .int (0 : Int32)), (0, .ref (ad 0)), (1, .int x1)]) dX11_rounds_26 rfl (by decide) rfl ?_
        refine aw_iconst (v := 0) dX11_rounds_27 (by decide) ?_
        refine aw_istore (L' := [(4, .int (0 : Int32)), (3, .int (0 : Int32)), (2, .int (0 : Int32)), (0, .ref (ad 0)), (1, .int x1)]) dX11_rounds_28 (by decide) rfl ?_
        exact aw_sub [3, 4, 2, 1, 0] rfl h
      · have h := h.2 hc
        refine aw_iconst (v := -1) dX11_rounds_21 (by decide) ?_
        exact aw_ret (v := some (.int (-1 : Int32))) rfl (Or.inr (Or.inl ⟨_, .int, rfl, rfl, rfl, dX11_rounds_22⟩)) h
set_option maxRecDepth 100000 in
set_option maxHeartbeats 4000000 in
theorem g_X11_rounds_30 {ad : Nat → Nat} {d : Nat} {Q : Option Value → Wm → Prop} {m : Wm} {x1 x2 x3 x4 : Int32} (h : ((x1 ≤ x4 → (Ct ad μX1_total d [.ref (ad 3), .ref (ad 21)] m (fun r m1 => ∃ v2 : Int32, r = some (.int v2) ∧ (Ct ad μX11_tell_ d [.ref (ad 0), .long x3.toInt64, .long v2.toInt64] m1 (fun r m3 => r = none ∧ Q (some (.int x2)) m3))))) ∧ (¬ x1 ≤ x4 → (∃ r4, m.2.2 0 9 = some r4 ∧ Pl r4 ∧ (Ct ad μX3_begin d [.ref (ad r4), .int ((m.1 0 11) + (1 : Int32))] m (fun r m5 => ∃ v6 : Int32, r = some (.int v6) ∧ (∃ r7, m5.2.2 0 9 = some r7 ∧ Pl r7 ∧ (Ct ad μX3_begin d [.ref (ad r7), .int (m5.1 0 11)] m5 (fun r m8 => ∃ v9 : Int32, r = some (.int v9) ∧ AW ad E0 μX11_rounds (d + 1) Q 64 [(0, .ref (ad 0)), (1, .int x1), (2, .int x2), (3, .int x3), (4, .int x4), (5, .int v6), (6, .int v9)] [] m8))))))))) : AW ad E0 μX11_rounds (d + 1) Q 30 [(0, .ref (ad 0)), (1, .int x1), (2, .int x2), (3, .int x3), (4, .int x4)] [] m := by
  refine aw_iload (j := 4) dX11_rounds_30 rfl ?_
  refine aw_iload_n (j := 1) dX11_rounds_32 rfl rfl ?_
  refine aw_icmp_ge (tgt := 142) dX11_rounds_33 (by decide) (fun hc => ?_) (fun hc => ?_)
  · have h := h.1 hc
    refine aw_aload_n (j := 0) dX11_rounds_142 rfl rfl ?_
    refine aw_iload_n (j := 3) dX11_rounds_143 rfl rfl ?_
    refine aw_i2l dX11_rounds_144 ?_
    refine aw_aload_n (j := 0) dX11_rounds_145 rfl rfl ?_
    refine aw_getfield (c := 6) (v := .ref (ad 3)) dX11_rounds_146 f_X11_19 ly_0 rfl rfl ?_
    refine aw_aload_n (j := 0) dX11_rounds_149 rfl rfl ?_
    refine aw_getfield (c := 24) (v := .ref (ad 21)) dX11_rounds_150 f_X11_33 ly_0 rfl rfl ?_
    refine aw_callV (rest := [.long x3.toInt64, .ref (ad 0)]) [.ref (ad 21)] dX11_rounds_153 ly_3 rfl k_X11_263 rfl h (Nat.le_of_ble_eq_true rfl) (fun v m1 h => ?_)
    obtain ⟨v2, rfl, h⟩ := h
    refine aw_eq (L' := [(0, .ref (ad 0)), (1, .int x1), (2, .int x2), (3, .int x3), (4, .int x4)]) (st' := [.int v2, .long x3.toInt64, .ref (ad 0)]) (m' := m1) ?_ rfl rfl rfl
    refine aw_i2l dX11_rounds_156 ?_
    refine aw_callV (rest := []) [.long x3.toInt64, .long v2.toInt64] dX11_rounds_157 ly_0 rfl k_X11_239 rfl h (Nat.le_of_ble_eq_true rfl) (fun v m3 h => ?_)
    obtain ⟨rfl, h⟩ := h
    refine aw_eq (L' := [(0, .ref (ad 0)), (1, .int x1), (2, .int x2), (3, .int x3), (4, .int x4)]) (st' := []) (m' := m3) ?_ rfl rfl rfl
    refine aw_iload_n (j := 2) dX11_rounds_160 rfl rfl ?_
    exact aw_ret (v := some (.int x2)) rfl (Or.inr (Or.inl ⟨_, .int, rfl, rfl, rfl, dX11_rounds_161⟩)) h
  · have h := h.2 hc
    refine aw_aload_n (j := 0) dX11_rounds_36 rfl rfl ?_
    obtain ⟨r4, hrr4, hr4, h⟩ := h
    refine aw_getfield (c := 2) (v := .ref (ad r4)) dX11_rounds_37 f_X11_56 ly_0 rfl (by show va_rf (Option.map ad (m.2.2 0 9)) = _; rw [hrr4]; rfl) ?_
    refine aw_aload_n (j := 0) dX11_rounds_40 rfl rfl ?_
    refine aw_getfield (c := 0) (v := .int (m.1 0 11)) dX11_rounds_41 f_X11_63 ly_0 rfl rfl ?_
    refine aw_iconst (v := 1) dX11_rounds_44 (by decide) ?_
    refine aw_iadd dX11_rounds_45 ?_
    refine aw_callV (rest := []) [.int ((m.1 0 11) + (1 : Int32))] dX11_rounds_46 hr4.1 rfl k_X11_270 rfl h (Nat.le_of_ble_eq_true rfl) (fun v m5 h => ?_)
    obtain ⟨v6, rfl, h⟩ := h
    refine aw_eq (L' := [(0, .ref (ad 0)), (1, .int x1), (2, .int x2), (3, .int x3), (4, .int x4)]) (st' := [.int v6]) (m' := m5) ?_ rfl rfl rfl
    refine aw_istore (L' := [(5, .int v6), (0, .ref (ad 0)), (1, .int x1), (2, .int x2), (3, .int x3), (4, .int x4)]) dX11_rounds_49 (by decide) rfl ?_
    refine aw_aload_n (j := 1) dX11_rounds_51 rfl rfl ?_
    obtain ⟨r7, hrr7, hr7, h⟩ := h
    refine aw_getfield (c := 2) (v := .ref (ad r7)) dX11_rounds_52 f_X11_56 ly_0 rfl (by show va_rf (Option.map ad (m5.2.2 0 9)) = _; rw [hrr7]; rfl) ?_
    refine aw_aload_n (j := 1) dX11_rounds_55 rfl rfl ?_
    refine aw_getfield (c := 0) (v := .int (m5.1 0 11)) dX11_rounds_56 f_X11_63 ly_0 rfl rfl ?_
    refine aw_callV (rest := []) [.int (m5.1 0 11)] dX11_rounds_59 hr7.1 rfl k_X11_270 rfl h (Nat.le_of_ble_eq_true rfl) (fun v m8 h => ?_)
    obtain ⟨v9, rfl, h⟩ := h
    refine aw_eq (L' := [(5, .int v6), (0, .ref (ad 0)), (1, .int x1), (2, .int x2), (3, .int x3), (4, .int x4)]) (st' := [.int v9]) (m' := m8) ?_ rfl rfl rfl
    refine aw_istore (L' := [(6, .int v9), (5, .int v6), (0, .ref (ad 0)), (1, .int x1), (2, .int x2), (3, .int x3), (4, .int x4)]) dX11_rounds_62 (by decide) rfl ?_
    exact aw_sub [2, 3, 4, 5, 6, 1, 0] rfl h
set_option maxRecDepth 100000 in
set_option maxHeartbeats 4000000 in
theorem g_X11_rounds_64 {ad : Nat → Nat} {d : Nat} {Q : Option Value → Wm → Prop} {m : Wm} {x1 x2 x3 x4 x5 x6 : Int32} (h : ((x5 ≤ x6 → (∃ r1, m.2.2 0 9 = some r1 ∧ Pl r1 ∧ (Ct ad μX3_after d [.ref (ad r1), .int (m.1 0 11)] m (fun r m2 => ∃ v3 : Int32, r = some (.int v3) ∧ AW ad E0 μX11_rounds (d + 1) Q 30 [(0, .ref (ad 0)), (1, .int x1), (2, .int x2), (3, .int x3), (4, .int (x4 + (1 : Int32)))] [] (uI m2 0 11 v3))))) ∧ (¬ x5 ≤ x6 → (∃ r4, m.2.2 0 9 = some r4 ∧ Pl r4 ∧ (vp_in x6 48 ∧ (∃ r5, m.2.2 0 9 = some r5 ∧ Pl r5 ∧ (vp_in x6 48 ∧ (∃ r6, m.2.2 0 9 = some r6 ∧ Pl r6 ∧ (vp_in x6 48 ∧ (Ct ad μX11_playNow d [.ref (ad 0), .int (m.1 (r4 + 1) x6.toNatClampNeg), .int (m.1 (r5 + 2) x6.toNatClampNeg), .int (m.1 (r6 + 3) x6.toNatClampNeg)] m (fun r m7 => ∃ v8 : Int32, r = some (.int v8) ∧ ((¬ v8 = (2 : Int32) → AW ad E0 μX11_rounds (d + 1) Q 64 [(0, .ref (ad 0)), (1, .int x1), (2, .int (x2 + (1 : Int32))), (3, .int x3), (4, .int x4), (5, .int x5), (6, .int (x6 + (1 : Int32)))] [] m7) ∧ (v8 = (2 : Int32) → AW ad E0 μX11_rounds (d + 1) Q 64 [(0, .ref (ad 0)), (1, .int x1), (2, .int (x2 + (1 : Int32))), (3, .int (x3 + (1 : Int32))), (4, .int x4), (5, .int x5), (6, .int (x6 + (1 : Int32)))] [] m7))))))))))))) : AW ad E0 μX11_rounds (d + 1) Q 64 [(0, .ref (ad 0)), (1, .int x1), (2, .int x2), (3, .int x3), (4, .int x4), (5, .int x5), (6, .int x6)] [] m := by
  refine aw_iload (j := 6) dX11_rounds_64 rfl ?_
  refine aw_iload (j := 5) dX11_rounds_66 rfl ?_
  refine aw_icmp_ge (tgt := 121) dX11_rounds_68 (by decide) (fun hc => ?_) (fun hc => ?_)
  · have h := h.1 hc
    refine aw_aload_n (j := 0) dX11_rounds_121 rfl rfl ?_
    refine aw_aload_n (j := 0) dX11_rounds_122 rfl rfl ?_
    obtain ⟨r1, hrr1, hr1, h⟩ := h
    refine aw_getfield (c := 2) (v := .ref (ad r1)) dX11_rounds_123 f_X11_56 ly_0 rfl (by show va_rf (Option.map ad (m.2.2 0 9)) = _; rw [hrr1]; rfl) ?_
    refine aw_aload_n (j := 0) dX11_rounds_126 rfl rfl ?_
    refine aw_getfield (c := 0) (v := .int (m.1 0 11)) dX11_rounds_127 f_X11_63 ly_0 rfl rfl ?_
    refine aw_callV (rest := [.ref (ad 0)]) [.int (m.1 0 11)] dX11_rounds_130 hr1.1 rfl k_X11_281 rfl h (Nat.le_of_ble_eq_true rfl) (fun v m2 h => ?_)
    obtain ⟨v3, rfl, h⟩ := h
    refine aw_eq (L' := [(0, .ref (ad 0)), (1, .int x1), (2, .int x2), (3, .int x3), (4, .int x4), (5, .int x5), (6, .int x6)]) (st' := [.int v3, .ref (ad 0)]) (m' := m2) ?_ rfl rfl rfl
    refine aw_putI dX11_rounds_133 f_X11_63 cl_X11 rfl ly_0 rfl rfl rfl ?_
    refine aw_iinc (j := 4) (v := x4 + (1 : Int32)) (L' := [(4, .int (x4 + (1 : Int32))), (0, .ref (ad 0)), (1, .int x1), (2, .int x2), (3, .int x3), (5, .int x5), (6, .int x6)]) dX11_rounds_136 rfl rfl (by decide) rfl ?_
    refine aw_goto (tgt := 30) dX11_rounds_139 (by decide) ?_
    exact aw_sub [1, 2, 3, 4, 0] rfl h
  · have h := h.2 hc
    refine aw_aload_n (j := 0) dX11_rounds_71 rfl rfl ?_
    refine aw_aload_n (j := 0) dX11_rounds_72 rfl rfl ?_
    obtain ⟨r4, hrr4, hr4, h⟩ := h
    refine aw_getfield (c := 2) (v := .ref (ad r4)) dX11_rounds_73 f_X11_56 ly_0 rfl (by show va_rf (Option.map ad (m.2.2 0 9)) = _; rw [hrr4]; rfl) ?_
    refine aw_getfield (c := r4 + 1 + 3) (v := .ref (ad (r4 + 1))) dX11_rounds_76 f_X11_274 hr4.1 rfl rfl ?_
    refine aw_iload (j := 6) dX11_rounds_79 rfl ?_
    obtain ⟨hi, h⟩ := h
    refine aw_iaload dX11_rounds_81 hr4.2.1 hi ?_
    refine aw_aload_n (j := 0) dX11_rounds_82 rfl rfl ?_
    obtain ⟨r5, hrr5, hr5, h⟩ := h
    refine aw_getfield (c := 2) (v := .ref (ad r5)) dX11_rounds_83 f_X11_56 ly_0 rfl (by show va_rf (Option.map ad (m.2.2 0 9)) = _; rw [hrr5]; rfl) ?_
    refine aw_getfield (c := r5 + 2 + 3) (v := .ref (ad (r5 + 2))) dX11_rounds_86 f_X11_277 hr5.1 rfl rfl ?_
    refine aw_iload (j := 6) dX11_rounds_89 rfl ?_
    obtain ⟨hi, h⟩ := h
    refine aw_iaload dX11_rounds_91 hr5.2.2.1 hi ?_
    refine aw_aload_n (j := 0) dX11_rounds_92 rfl rfl ?_
    obtain ⟨r6, hrr6, hr6, h⟩ := h
    refine aw_getfield (c := 2) (v := .ref (ad r6)) dX11_rounds_93 f_X11_56 ly_0 rfl (by show va_rf (Option.map ad (m.2.2 0 9)) = _; rw [hrr6]; rfl) ?_
    refine aw_getfield (c := r6 + 3 + 3) (v := .ref (ad (r6 + 3))) dX11_rounds_96 f_X11_280 hr6.1 rfl rfl ?_
    refine aw_iload (j := 6) dX11_rounds_99 rfl ?_
    obtain ⟨hi, h⟩ := h
    refine aw_iaload dX11_rounds_101 hr6.2.2.2.1 hi ?_
    refine aw_callV (rest := []) [.int (m.1 (r4 + 1) x6.toNatClampNeg), .int (m.1 (r5 + 2) x6.toNatClampNeg), .int (m.1 (r6 + 3) x6.toNatClampNeg)] dX11_rounds_102 ly_0 rfl k_X11_247 rfl h (Nat.le_of_ble_eq_true rfl) (fun v m7 h => ?_)
    obtain ⟨v8, rfl, h⟩ := h
    refine aw_eq (L' := [(0, .ref (ad 0)), (1, .int x1), (2, .int x2), (3, .int x3), (4, .int x4), (5, .int x5), (6, .int x6)]) (st' := [.int v8]) (m' := m7) ?_ rfl rfl rfl
    refine aw_iconst (v := 2) dX11_rounds_105 (by decide) ?_
    refine aw_icmp_ne (tgt := 112) dX11_rounds_106 (by decide) (fun hc => ?_) (fun hc => ?_)
    · have h := h.1 hc
      refine aw_iinc (j := 2) (v := x2 + (1 : Int32)) (L' := [(2, .int (x2 + (1 : Int32))), (0, .ref (ad 0)), (1, .int x1), (3, .int x3), (4, .int x4), (5, .int x5), (6, .int x6)]) dX11_rounds_112 rfl rfl (by decide) rfl ?_
      refine aw_iinc (j := 6) (v := x6 + (1 : Int32)) (L' := [(6, .int (x6 + (1 : Int32))), (2, .int (x2 + (1 : Int32))), (0, .ref (ad 0)), (1, .int x1), (3, .int x3), (4, .int x4), (5, .int x5)]) dX11_rounds_115 rfl rfl (by decide) rfl ?_
      refine aw_goto (tgt := 64) dX11_rounds_118 (by decide) ?_
      exact aw_sub [2, 3, 1, 4, 5, 6, 0] rfl h
    · have h := h.2 hc
      refine aw_iinc (j := 3) (v := x3 + (1 : Int32)) (L' := [(3, .int (x3 + (1 : Int32))), (0, .ref (ad 0)), (1, .int x1), (2, .int x2), (4, .int x4), (5, .int x5), (6, .int x6)]) dX11_rounds_109 rfl rfl (by decide) rfl ?_
      refine aw_iinc (j := 3) (v := x2 + (1 : Int32)) (L' := [(2, .int (x2 + (1 : Int32))), (3, .int (x3 + (1 : Int32))), (0, .ref (ad 0)), (1, .int x1), (4, .int x4), (5, .int x5), (6, .int x6)]) dX11_rounds_112 rfl rfl (by decide) rfl ?_
      refine aw_iinc (j := 6) (v := x6 + (1 : Int32)) (L' := [(6, .int (x6 + (1 : Int32))), (2, .int (x2 + (1 : Int32))), (3, .int (x3 + (1 : Int32))), (0, .ref (ad 0)), (1, .int x1), (4, .int x4), (5, .int x5)]) dX11_rounds_115 rfl rfl (by decide) rfl ?_
      refine aw_goto (tgt := 64) dX11_rounds_118 (by decide) ?_
      exact aw_sub [3, 4, 1, 2, 5, 6, 0] rfl h
set_option maxRecDepth 100000 in
set_option maxHeartbeats 4000000 in
theorem v_X11_beats {ad : Nat → Nat} {d : Nat} {Q : Option Value → Wm → Prop} {m : Wm} {x1 : Int32} (h : (Ct ad μX1_has d [.ref (ad 3), .int x1] m (fun r m1 => ∃ v2 : Int32, r = some (.int v2) ∧ ((¬ v2 = 0 → (Ct ad μX11_sidesWithResult d [.ref (ad 0), .int x1, .int (2 : Int32)] m1 (fun r m3 => ∃ v4 : Int32, r = some (.int v4) ∧ (Ct ad μX11_tell d [.ref (ad 0), .long v4.toInt64] m3 (fun r m5 => r = none ∧ (Ct ad μX11_sidesWithResult d [.ref (ad 0), .int x1, .int (0 : Int32)] m5 (fun r m6 => ∃ v7 : Int32, r = some (.int v7) ∧ Q (some (.int v7)) m6))))))) ∧ (v2 = 0 → Q (some (.int (-1 : Int32))) m1))))) : Ct ad μX11_beats (d + 1) [.ref (ad 0), .int x1] m Q := by
  refine Ct.of (by decide +kernel) rfl (Nat.le_of_ble_eq_true rfl) ?_
  refine aw_eq (L' := [(0, .ref (ad 0)), (1, .int x1)]) ?_ rfl rfl rfl
  refine aw_aload_n (j := 0) dX11_beats_0 rfl rfl ?_
  refine aw_getfield (c := 6) (v := .ref (ad 3)) dX11_beats_1 f_X11_19 ly_0 rfl rfl ?_
  refine aw_iload_n (j := 1) dX11_beats_4 rfl rfl ?_
  refine aw_callV (rest := []) [.int x1] dX11_beats_5 ly_3 rfl k_X11_164 rfl h (Nat.le_of_ble_eq_true rfl) (fun v m1 h => ?_)
  obtain ⟨v2, rfl, h⟩ := h
  refine aw_eq (L' := [(0, .ref (ad 0)), (1, .int x1)]) (st' := [.int v2]) (m' := m1) ?_ rfl rfl rfl
  refine aw_if_ne (tgt := 13) dX11_beats_8 (by decide) (fun hc => ?_) (fun hc => ?_)
  · have h := h.1 hc
    refine aw_aload_n (j := 0) dX11_beats_13 rfl rfl ?_
    refine aw_aload_n (j := 0) dX11_beats_14 rfl rfl ?_
    refine aw_iload_n (j := 1) dX11_beats_15 rfl rfl ?_
    refine aw_iconst (v := 2) dX11_beats_16 (by decide) ?_
    refine aw_callV (rest := [.ref (ad 0)]) [.int x1, .int (2 : Int32)] dX11_beats_17 ly_0 rfl k_X11_284 rfl h (Nat.le_of_ble_eq_true rfl) (fun v m3 h => ?_)
    obtain ⟨v4, rfl, h⟩ := h
    refine aw_eq (L' := [(0, .ref (ad 0)), (1, .int x1)]) (st' := [.int v4, .ref (ad 0)]) (m' := m3) ?_ rfl rfl rfl
    refine aw_i2l dX11_beats_20 ?_
    refine aw_callV (rest := []) [.long v4.toInt64] dX11_beats_21 ly_0 rfl k_X11_267 rfl h (Nat.le_of_ble_eq_true rfl) (fun v m5 h => ?_)
    obtain ⟨rfl, h⟩ := h
    refine aw_eq (L' := [(0, .ref (ad 0)), (1, .int x1)]) (st' := []) (m' := m5) ?_ rfl rfl rfl
    refine aw_aload_n (j := 0) dX11_beats_24 rfl rfl ?_
    refine aw_iload_n (j := 1) dX11_beats_25 rfl rfl ?_
    refine aw_iconst (v := 0) dX11_beats_26 (by decide) ?_
    refine aw_callV (rest := []) [.int x1, .int (0 : Int32)] dX11_beats_27 ly_0 rfl k_X11_284 rfl h (Nat.le_of_ble_eq_true rfl) (fun v m6 h => ?_)
    obtain ⟨v7, rfl, h⟩ := h
    refine aw_eq (L' := [(0, .ref (ad 0)), (1, .int x1)]) (st' := [.int v7]) (m' := m6) ?_ rfl rfl rfl
    exact aw_ret (v := some (.int v7)) rfl (Or.inr (Or.inl ⟨_, .int, rfl, rfl, rfl, dX11_beats_30⟩)) h
  · have h := h.2 hc
    refine aw_iconst (v := -1) dX11_beats_11 (by decide) ?_
    exact aw_ret (v := some (.int (-1 : Int32))) rfl (Or.inr (Or.inl ⟨_, .int, rfl, rfl, rfl, dX11_beats_12⟩)) h
set_option maxRecDepth 100000 in
set_option maxHeartbeats 4000000 in
theorem v_X11_sidesWithResult {ad : Nat → Nat} {d : Nat} {Q : Option Value → Wm → Prop} {m : Wm} {x1 x2 : Int32} (h : AW ad E0 μX11_sidesWithResult (d + 1) Q 5 [(0, .ref (ad 0)), (1, .int x1), (2, .int x2), (3, .int (0 : Int32)), (4, .int (0 : Int32))] [] m) : Ct ad μX11_sidesWithResult (d + 1) [.ref (ad 0), .int x1, .int x2] m Q := by
  refine Ct.of (by decide +kernel) rfl (Nat.le_of_ble_eq_true rfl) ?_
  refine aw_eq (L' := [(0, .ref (ad 0)), (1, .int x1), (2, .int x2)]) ?_ rfl rfl rfl
  refine aw_iconst (v := 0) dX11_sidesWithResult_0 (by decide) ?_
  refine aw_istore_n (L' := [(3, .int (0 : Int32)), (0, .ref (ad 0)), (1, .int x1), (2, .int x2)]) dX11_sidesWithResult_1 rfl (by decide) rfl ?_
  refine aw_iconst (v := 0) dX11_sidesWithResult_2 (by decide) ?_
  refine aw_istore (L' := [(4, .int (0 : Int32)), (3, .int (0 : Int32)), (0, .ref (ad 0)), (1, .int x1), (2, .int x2)]) dX11_sidesWithResult_3 (by decide) rfl ?_
  exact aw_sub [2, 3, 4, 1, 0] rfl h
set_option maxRecDepth 100000 in
set_option maxHeartbeats 4000000 in
theorem g_X11_sidesWithResult_5 {ad : Nat → Nat} {d : Nat} {Q : Option Value → Wm → Prop} {m : Wm} {x1 x2 x3 x4 : Int32} (h : (((m.1 3 3) ≤ x4 → Q (some (.int x3)) m) ∧ (¬ (m.1 3 3) ≤ x4 → ((x4 = x1 → AW ad E0 μX11_sidesWithResult (d + 1) Q 5 [(0, .ref (ad 0)), (1, .int x1), (2, .int x2), (3, .int x3), (4, .int (x4 + (1 : Int32)))] [] m) ∧ (¬ x4 = x1 → (Ct ad μX1_result d [.ref (ad 3), .ref (ad 21), .int x1, .int x4, .int (0 : Int32)] m (fun r m1 => ∃ v2 : Int32, r = some (.int v2) ∧ ((¬ v2 = x2 → AW ad E0 μX11_sidesWithResult (d + 1) Q 5 [(0, .ref (ad 0)), (1, .int x1), (2, .int x2), (3, .int x3), (4, .int (x4 + (1 : Int32)))] [] m1) ∧ (v2 = x2 → AW ad E0 μX11_sidesWithResult (d + 1) Q 5 [(0, .ref (ad 0)), (1, .int x1), (2, .int x2), (3, .int (x3 ||| ((1 : Int32) <<< (x4 &&& 31)))), (4, .int (x4 + (1 : Int32)))] [] m1))))))))) : AW ad E0 μX11_sidesWithResult (d + 1) Q 5 [(0, .ref (ad 0)), (1, .int x1), (2, .int x2), (3, .int x3), (4, .int x4)] [] m := by
  refine aw_iload (j := 4) dX11_sidesWithResult_5 rfl ?_
  refine aw_aload_n (j := 0) dX11_sidesWithResult_7 rfl rfl ?_
  refine aw_getfield (c := 6) (v := .ref (ad 3)) dX11_sidesWithResult_8 f_X11_19 ly_0 rfl rfl ?_
  refine aw_getfield (c := 0) (v := .int (m.1 3 3)) dX11_sidesWithResult_11 f_X11_155 ly_3 rfl rfl ?_
  refine aw_icmp_ge (tgt := 55) dX11_sidesWithResult_14 (by decide) (fun hc => ?_) (fun hc => ?_)
  · have h := h.1 hc
    refine aw_iload_n (j := 3) dX11_sidesWithResult_55 rfl rfl ?_
    exact aw_ret (v := some (.int x3)) rfl (Or.inr (Or.inl ⟨_, .int, rfl, rfl, rfl, dX11_sidesWithResult_56⟩)) h
  · have h := h.2 hc
    refine aw_iload (j := 4) dX11_sidesWithResult_17 rfl ?_
    refine aw_iload_n (j := 1) dX11_sidesWithResult_19 rfl rfl ?_
    refine aw_icmp_eq (tgt := 49) dX11_sidesWithResult_20 (by decide) (fun hc => ?_) (fun hc => ?_)
    · have h := h.1 hc
      refine aw_iinc (j := 4) (v := x4 + (1 : Int32)) (L' := [(4, .int (x4 + (1 : Int32))), (0, .ref (ad 0)), (1, .int x1), (2, .int x2), (3, .int x3)]) dX11_sidesWithResult_49 rfl rfl (by decide) rfl ?_
      refine aw_goto (tgt := 5) dX11_sidesWithResult_52 (by decide) ?_
      exact aw_sub [1, 2, 3, 4, 0] rfl h
    · have h := h.2 hc
      refine aw_aload_n (j := 0) dX11_sidesWithResult_23 rfl rfl ?_
      refine aw_getfield (c := 6) (v := .ref (ad 3)) dX11_sidesWithResult_24 f_X11_19 ly_0 rfl rfl ?_
      refine aw_aload_n (j := 0) dX11_sidesWithResult_27 rfl rfl ?_
      refine aw_getfield (c := 24) (v := .ref (ad 21)) dX11_sidesWithResult_28 f_X11_33 ly_0 rfl rfl ?_
      refine aw_iload_n (j := 1) dX11_sidesWithResult_31 rfl rfl ?_
      refine aw_iload (j := 4) dX11_sidesWithResult_32 rfl ?_
      refine aw_iconst (v := 0) dX11_sidesWithResult_34 (by decide) ?_
      refine aw_callV (rest := []) [.ref (ad 21), .int x1, .int x4, .int (0 : Int32)] dX11_sidesWithResult_35 ly_3 rfl k_X11_225 rfl h (Nat.le_of_ble_eq_true rfl) (fun v m1 h => ?_)
      obtain ⟨v2, rfl, h⟩ := h
      refine aw_eq (L' := [(0, .ref (ad 0)), (1, .int x1), (2, .int x2), (3, .int x3), (4, .int x4)]) (st' := [.int v2]) (m' := m1) ?_ rfl rfl rfl
      refine aw_iload_n (j := 2) dX11_sidesWithResult_38 rfl rfl ?_
      refine aw_icmp_ne (tgt := 49) dX11_sidesWithResult_39 (by decide) (fun hc => ?_) (fun hc => ?_)
      · have h := h.1 hc
        refine aw_iinc (j := 4) (v := x4 + (1 : Int32)) (L' := [(4, .int (x4 + (1 : Int32))), (0, .ref (ad 0)), (1, .int x1), (2, .int x2), (3, .int x3)]) dX11_sidesWithResult_49 rfl rfl (by decide) rfl ?_
        refine aw_goto (tgt := 5) dX11_sidesWithResult_52 (by decide) ?_
        exact aw_sub [1, 2, 3, 4, 0] rfl h
      · have h := h.2 hc
        refine aw_iload_n (j := 3) dX11_sidesWithResult_42 rfl rfl ?_
        refine aw_iconst (v := 1) dX11_sidesWithResult_43 (by decide) ?_
        refine aw_iload (j := 4) dX11_sidesWithResult_44 rfl ?_
        refine aw_ishl dX11_sidesWithResult_46 ?_
        refine aw_ior dX11_sidesWithResult_47 ?_
        refine aw_istore_n (L' := [(3, .int (x3 ||| ((1 : Int32) <<< (x4 &&& 31)))), (0, .ref (ad 0)), (1, .int x1), (2, .int x2), (4, .int x4)]) dX11_sidesWithResult_48 rfl (by decide) rfl ?_
        refine aw_iinc (j := 4) (v := x4 + (1 : Int32)) (L' := [(4, .int (x4 + (1 : Int32))), (3, .int (x3 ||| ((1 : Int32) <<< (x4 &&& 31)))), (0, .ref (ad 0)), (1, .int x1), (2, .int x2)]) dX11_sidesWithResult_49 rfl rfl (by decide) rfl ?_
        refine aw_goto (tgt := 5) dX11_sidesWithResult_52 (by decide) ?_
        exact aw_sub [2, 3, 4, 1, 0] rfl h
set_option maxRecDepth 100000 in
set_option maxHeartbeats 4000000 in
theorem v_X11_kings {ad : Nat → Nat} {d : Nat} {Q : Option Value → Wm → Prop} {m : Wm} (h : AW ad E0 μX11_kings (d + 1) Q 4 [(0, .ref (ad 0)), (1, .int (0 : Int32)), (2, .int (0 : Int32))] [] m) : Ct ad μX11_kings (d + 1) [.ref (ad 0)] m Q := by
  refine Ct.of (by decide +kernel) rfl (Nat.le_of_ble_eq_true rfl) ?_
  refine aw_eq (L' := [(0, .ref (ad 0))]) ?_ rfl rfl rfl
  refine aw_iconst (v := 0) dX11_kings_0 (by decide) ?_
  refine aw_istore_n (L' := [(1, .int (0 : Int32)), (0, .ref (ad 0))]) dX11_kings_1 rfl (by decide) rfl ?_
  refine aw_iconst (v := 0) dX11_kings_2 (by decide) ?_
  refine aw_istore_n (L' := [(2, .int (0 : Int32)), (1, .int (0 : Int32)), (0, .ref (ad 0))]) dX11_kings_3 rfl (by decide) rfl ?_
  exact aw_sub [2, 1, 0] rfl h
set_option maxRecDepth 100000 in
set_option maxHeartbeats 4000000 in
theorem g_X11_kings_4 {ad : Nat → Nat} {d : Nat} {Q : Option Value → Wm → Prop} {m : Wm} {x1 x2 : Int32} (h : (((m.1 3 3) ≤ x2 → AW ad E0 μX11_kings (d + 1) Q 52 [(0, .ref (ad 0)), (1, .int x1), (2, .int (0 : Int32)), (3, .int (0 : Int32))] [] m) ∧ (¬ (m.1 3 3) ≤ x2 → (Ct ad μX11_sidesWithResult d [.ref (ad 0), .int x2, .int (0 : Int32)] m (fun r m1 => ∃ v2 : Int32, r = some (.int v2) ∧ (vp_in x2 8 ∧ (vp_in x2 8 ∧ ((¬ ((uI m1 149 x2.toNatClampNeg v2).1 149 x2.toNatClampNeg) = 0 → AW ad E0 μX11_kings (d + 1) Q 4 [(0, .ref (ad 0)), (1, .int x1), (2, .int (x2 + (1 : Int32)))] [] (uI m1 149 x2.toNatClampNeg v2)) ∧ (((uI m1 149 x2.toNatClampNeg v2).1 149 x2.toNatClampNeg) = 0 → AW ad E0 μX11_kings (d + 1) Q 4 [(0, .ref (ad 0)), (1, .int (x1 ||| ((1 : Int32) <<< (x2 &&& 31)))), (2, .int (x2 + (1 : Int32)))] [] (uI m1 149 x2.toNatClampNeg v2)))))))))) : AW ad E0 μX11_kings (d + 1) Q 4 [(0, .ref (ad 0)), (1, .int x1), (2, .int x2)] [] m := by
  refine aw_iload_n (j := 2) dX11_kings_4 rfl rfl ?_
  refine aw_aload_n (j := 0) dX11_kings_5 rfl rfl ?_
  refine aw_getfield (c := 6) (v := .ref (ad 3)) dX11_kings_6 f_X11_19 ly_0 rfl rfl ?_
  refine aw_getfield (c := 0) (v := .int (m.1 3 3)) dX11_kings_9 f_X11_155 ly_3 rfl rfl ?_
  refine aw_icmp_ge (tgt := 48) dX11_kings_12 (by decide) (fun hc => ?_) (fun hc => ?_)
  · have h := h.1 hc
    refine aw_iconst (v := 0) dX11_kings_48 (by decide) ?_
    refine aw_istore_n (L' := [(2, .int (0 : Int32)), (0, .ref (ad 0)), (1, .int x1)]) dX11_kings_49 rfl (by decide) rfl ?_
    refine aw_iconst (v := 0) dX11_kings_50 (by decide) ?_
    refine aw_istore_n (L' := [(3, .int (0 : Int32)), (2, .int (0 : Int32)), (0, .ref (ad 0)), (1, .int x1)]) dX11_kings_51 rfl (by decide) rfl ?_
    exact aw_sub [2, 3, 1, 0] rfl h
  · have h := h.2 hc
    refine aw_aload_n (j := 0) dX11_kings_15 rfl rfl ?_
    refine aw_getfield (c := 152) (v := .ref (ad 149)) dX11_kings_16 f_X11_80 ly_0 rfl rfl ?_
    refine aw_iload_n (j := 2) dX11_kings_19 rfl rfl ?_
    refine aw_aload_n (j := 0) dX11_kings_20 rfl rfl ?_
    refine aw_iload_n (j := 2) dX11_kings_21 rfl rfl ?_
    refine aw_iconst (v := 0) dX11_kings_22 (by decide) ?_
    refine aw_callV (rest := [.int x2, .ref (ad 149)]) [.int x2, .int (0 : Int32)] dX11_kings_23 ly_0 rfl k_X11_284 rfl h (Nat.le_of_ble_eq_true rfl) (fun v m1 h => ?_)
    obtain ⟨v2, rfl, h⟩ := h
    refine aw_eq (L' := [(0, .ref (ad 0)), (1, .int x1), (2, .int x2)]) (st' := [.int v2, .int x2, .ref (ad 149)]) (m' := m1) ?_ rfl rfl rfl
    obtain ⟨hi, h⟩ := h
    refine aw_iastore dX11_kings_26 ly_149 hi ?_
    refine aw_aload_n (j := 0) dX11_kings_27 rfl rfl ?_
    refine aw_getfield (c := 152) (v := .ref (ad 149)) dX11_kings_28 f_X11_80 ly_0 rfl rfl ?_
    refine aw_iload_n (j := 2) dX11_kings_31 rfl rfl ?_
    obtain ⟨hi, h⟩ := h
    refine aw_iaload dX11_kings_32 ly_149 hi ?_
    refine aw_if_ne (tgt := 42) dX11_kings_33 (by decide) (fun hc => ?_) (fun hc => ?_)
    · have h := h.1 hc
      refine aw_iinc (j := 2) (v := x2 + (1 : Int32)) (L' := [(2, .int (x2 + (1 : Int32))), (0, .ref (ad 0)), (1, .int x1)]) dX11_kings_42 rfl rfl (by decide) rfl ?_
      refine aw_goto (tgt := 4) dX11_kings_45 (by decide) ?_
      exact aw_sub [1, 2, 0] rfl h
    · have h := h.2 hc
      refine aw_iload_n (j := 1) dX11_kings_36 rfl rfl ?_
      refine aw_iconst (v := 1) dX11_kings_37 (by decide) ?_
      refine aw_iload_n (j := 2) dX11_kings_38 rfl rfl ?_
      refine aw_ishl dX11_kings_39 ?_
      refine aw_ior dX11_kings_40 ?_
      refine aw_istore_n (L' := [(1, .int (x1 ||| ((1 : Int32) <<< (x2 &&& 31)))), (0, .ref (ad 0)), (2, .int x2)]) dX11_kings_41 rfl (by decide) rfl ?_
      refine aw_iinc (j := 2) (v := x2 + (1 : Int32)) (L' := [(2, .int (x2 + (1 : Int32))), (1, .int (x1 ||| ((1 : Int32) <<< (x2 &&& 31)))), (0, .ref (ad 0))]) dX11_kings_42 rfl rfl (by decide) rfl ?_
      refine aw_goto (tgt := 4) dX11_kings_45 (by decide) ?_
      exact aw_sub [2, 1, 0] rfl h
set_option maxRecDepth 100000 in
set_option maxHeartbeats 4000000 in
theorem g_X11_kings_52 {ad : Nat → Nat} {d : Nat} {Q : Option Value → Wm → Prop} {m : Wm} {x1 x2 x3 : Int32} (h : (((m.1 3 3) ≤ x3 → (Ct ad μX11_tell d [.ref (ad 0), .long x1.toInt64] m (fun r m1 => r = none ∧ Q (some (.int x2)) m1))) ∧ (¬ (m.1 3 3) ≤ x3 → (Ct ad μX11_isKing d [.ref (ad 0), .int x3] m (fun r m2 => ∃ v3 : Int32, r = some (.int v3) ∧ ((v3 = 0 → AW ad E0 μX11_kings (d + 1) Q 52 [(0, .ref (ad 0)), (1, .int x1), (2, .int x2), (3, .int (x3 + (1 : Int32)))] [] m2) ∧ (¬ v3 = 0 → AW ad E0 μX11_kings (d + 1) Q 52 [(0, .ref (ad 0)), (1, .int x1), (2, .int (x2 ||| ((1 : Int32) <<< (x3 &&& 31)))), (3, .int (x3 + (1 : Int32)))] [] m2))))))) : AW ad E0 μX11_kings (d + 1) Q 52 [(0, .ref (ad 0)), (1, .int x1), (2, .int x2), (3, .int x3)] [] m := by
  refine aw_iload_n (j := 3) dX11_kings_52 rfl rfl ?_
  refine aw_aload_n (j := 0) dX11_kings_53 rfl rfl ?_
  refine aw_getfield (c := 6) (v := .ref (ad 3)) dX11_kings_54 f_X11_19 ly_0 rfl rfl ?_
  refine aw_getfield (c := 0) (v := .int (m.1 3 3)) dX11_kings_57 f_X11_155 ly_3 rfl rfl ?_
  refine aw_icmp_ge (tgt := 83) dX11_kings_60 (by decide) (fun hc => ?_) (fun hc => ?_)
  · have h := h.1 hc
    refine aw_aload_n (j := 0) dX11_kings_83 rfl rfl ?_
    refine aw_iload_n (j := 1) dX11_kings_84 rfl rfl ?_
    refine aw_i2l dX11_kings_85 ?_
    refine aw_callV (rest := []) [.long x1.toInt64] dX11_kings_86 ly_0 rfl k_X11_267 rfl h (Nat.le_of_ble_eq_true rfl) (fun v m1 h => ?_)
    obtain ⟨rfl, h⟩ := h
    refine aw_eq (L' := [(0, .ref (ad 0)), (1, .int x1), (2, .int x2), (3, .int x3)]) (st' := []) (m' := m1) ?_ rfl rfl rfl
    refine aw_iload_n (j := 2) dX11_kings_89 rfl rfl ?_
    exact aw_ret (v := some (.int x2)) rfl (Or.inr (Or.inl ⟨_, .int, rfl, rfl, rfl, dX11_kings_90⟩)) h
  · have h := h.2 hc
    refine aw_aload_n (j := 0) dX11_kings_63 rfl rfl ?_
    refine aw_iload_n (j := 3) dX11_kings_64 rfl rfl ?_
    refine aw_callV (rest := []) [.int x3] dX11_kings_65 ly_0 rfl k_X11_287 rfl h (Nat.le_of_ble_eq_true rfl) (fun v m2 h => ?_)
    obtain ⟨v3, rfl, h⟩ := h
    refine aw_eq (L' := [(0, .ref (ad 0)), (1, .int x1), (2, .int x2), (3, .int x3)]) (st' := [.int v3]) (m' := m2) ?_ rfl rfl rfl
    refine aw_if_eq (tgt := 77) dX11_kings_68 (by decide) (fun hc => ?_) (fun hc => ?_)
    · have h := h.1 hc
      refine aw_iinc (j := 3) (v := x3 + (1 : Int32)) (L' := [(3, .int (x3 + (1 : Int32))), (0, .ref (ad 0)), (1, .int x1), (2, .int x2)]) dX11_kings_77 rfl rfl (by decide) rfl ?_
      refine aw_goto (tgt := 52) dX11_kings_80 (by decide) ?_
      exact aw_sub [1, 2, 3, 0] rfl h
    · have h := h.2 hc
      refine aw_iload_n (j := 2) dX11_kings_71 rfl rfl ?_
      refine aw_iconst (v := 1) dX11_kings_72 (by decide) ?_
      refine aw_iload_n (j := 3) dX11_kings_73 rfl rfl ?_
      refine aw_ishl dX11_kings_74 ?_
      refine aw_ior dX11_kings_75 ?_
      refine aw_istore_n (L' := [(2, .int (x2 ||| ((1 : Int32) <<< (x3 &&& 31)))), (0, .ref (ad 0)), (1, .int x1), (3, .int x3)]) dX11_kings_76 rfl (by decide) rfl ?_
      refine aw_iinc (j := 3) (v := x3 + (1 : Int32)) (L' := [(3, .int (x3 + (1 : Int32))), (2, .int (x2 ||| ((1 : Int32) <<< (x3 &&& 31)))), (0, .ref (ad 0)), (1, .int x1)]) dX11_kings_77 rfl rfl (by decide) rfl ?_
      refine aw_goto (tgt := 52) dX11_kings_80 (by decide) ?_
      exact aw_sub [2, 3, 1, 0] rfl h
set_option maxRecDepth 100000 in
set_option maxHeartbeats 4000000 in
theorem v_X11_isKing {ad : Nat → Nat} {d : Nat} {Q : Option Value → Wm → Prop} {m : Wm} {x1 : Int32} (h : (vp_in x1 8 ∧ AW ad E0 μX11_isKing d Q 13 [(0, .ref (ad 0)), (1, .int x1), (2, .int ((m.1 149 x1.toNatClampNeg) ||| ((1 : Int32) <<< (x1 &&& 31)))), (3, .int (0 : Int32))] [] m)) : Ct ad μX11_isKing d [.ref (ad 0), .int x1] m Q := by
  refine Ct.of (by decide +kernel) rfl (Nat.le_of_ble_eq_true rfl) ?_
  refine aw_eq (L' := [(0, .ref (ad 0)), (1, .int x1)]) ?_ rfl rfl rfl
  refine aw_aload_n (j := 0) dX11_isKing_0 rfl rfl ?_
  refine aw_getfield (c := 152) (v := .ref (ad 149)) dX11_isKing_1 f_X11_80 ly_0 rfl rfl ?_
  refine aw_iload_n (j := 1) dX11_isKing_4 rfl rfl ?_
  obtain ⟨hi, h⟩ := h
  refine aw_iaload dX11_isKing_5 ly_149 hi ?_
  refine aw_iconst (v := 1) dX11_isKing_6 (by decide) ?_
  refine aw_iload_n (j := 1) dX11_isKing_7 rfl rfl ?_
  refine aw_ishl dX11_isKing_8 ?_
  refine aw_ior dX11_isKing_9 ?_
  refine aw_istore_n (L' := [(2, .int ((m.1 149 x1.toNatClampNeg) ||| ((1 : Int32) <<< (x1 &&& 31)))), (0, .ref (ad 0)), (1, .int x1)]) dX11_isKing_10 rfl (by decide) rfl ?_
  refine aw_iconst (v := 0) dX11_isKing_11 (by decide) ?_
  refine aw_istore_n (L' := [(3, .int (0 : Int32)), (2, .int ((m.1 149 x1.toNatClampNeg) ||| ((1 : Int32) <<< (x1 &&& 31)))), (0, .ref (ad 0)), (1, .int x1)]) dX11_isKing_12 rfl (by decide) rfl ?_
  exact aw_sub [2, 3, 1, 0] rfl h
set_option maxRecDepth 100000 in
set_option maxHeartbeats 4000000 in
theorem g_X11_isKing_13 {ad : Nat → Nat} {d : Nat} {Q : Option Value → Wm → Prop} {m : Wm} {x1 x2 x3 : Int32} (h : (((m.1 3 3) ≤ x3 → ((¬ x2 = (((1 : Int32) <<< ((m.1 3 3) &&& 31)) - (1 : Int32)) → Q (some (.int (0 : Int32))) m) ∧ (x2 = (((1 : Int32) <<< ((m.1 3 3) &&& 31)) - (1 : Int32)) → Q (some (.int (1 : Int32))) m))) ∧ (¬ (m.1 3 3) ≤ x3 → (vp_in x1 8 ∧ (((((m.1 149 x1.toNatClampNeg) >>> (x3 &&& 31)) &&& (1 : Int32)) = 0 → AW ad E0 μX11_isKing d Q 13 [(0, .ref (ad 0)), (1, .int x1), (2, .int x2), (3, .int (x3 + (1 : Int32)))] [] m) ∧ (¬ (((m.1 149 x1.toNatClampNeg) >>> (x3 &&& 31)) &&& (1 : Int32)) = 0 → (vp_in x3 8 ∧ AW ad E0 μX11_isKing d Q 13 [(0, .ref (ad 0)), (1, .int x1), (2, .int (x2 ||| (m.1 149 x3.toNatClampNeg))), (3, .int (x3 + (1 : Int32)))] [] m))))))) : AW ad E0 μX11_isKing d Q 13 [(0, .ref (ad 0)), (1, .int x1), (2, .int x2), (3, .int x3)] [] m := by
  refine aw_iload_n (j := 3) dX11_isKing_13 rfl rfl ?_
  refine aw_aload_n (j := 0) dX11_isKing_14 rfl rfl ?_
  refine aw_getfield (c := 6) (v := .ref (ad 3)) dX11_isKing_15 f_X11_19 ly_0 rfl rfl ?_
  refine aw_getfield (c := 0) (v := .int (m.1 3 3)) dX11_isKing_18 f_X11_155 ly_3 rfl rfl ?_
  refine aw_icmp_ge (tgt := 52) dX11_isKing_21 (by decide) (fun hc => ?_) (fun hc => ?_)
  · have h := h.1 hc
    refine aw_iload_n (j := 2) dX11_isKing_52 rfl rfl ?_
    refine aw_iconst (v := 1) dX11_isKing_53 (by decide) ?_
    refine aw_aload_n (j := 0) dX11_isKing_54 rfl rfl ?_
    refine aw_getfield (c := 6) (v := .ref (ad 3)) dX11_isKing_55 f_X11_19 ly_0 rfl rfl ?_
    refine aw_getfield (c := 0) (v := .int (m.1 3 3)) dX11_isKing_58 f_X11_155 ly_3 rfl rfl ?_
    refine aw_ishl dX11_isKing_61 ?_
    refine aw_iconst (v := 1) dX11_isKing_62 (by decide) ?_
    refine aw_isub dX11_isKing_63 ?_
    refine aw_icmp_ne (tgt := 71) dX11_isKing_64 (by decide) (fun hc => ?_) (fun hc => ?_)
    · have h := h.1 hc
      refine aw_iconst (v := 0) dX11_isKing_71 (by decide) ?_
      exact aw_ret (v := some (.int (0 : Int32))) rfl (Or.inr (Or.inl ⟨_, .boolean, rfl, rfl, by decide, dX11_isKing_72⟩)) h
    · have h := h.2 hc
      refine aw_iconst (v := 1) dX11_isKing_67 (by decide) ?_
      refine aw_goto (tgt := 72) dX11_isKing_68 (by decide) ?_
      exact aw_ret (v := some (.int (1 : Int32))) rfl (Or.inr (Or.inl ⟨_, .boolean, rfl, rfl, by decide, dX11_isKing_72⟩)) h
  · have h := h.2 hc
    refine aw_aload_n (j := 0) dX11_isKing_24 rfl rfl ?_
    refine aw_getfield (c := 152) (v := .ref (ad 149)) dX11_isKing_25 f_X11_80 ly_0 rfl rfl ?_
    refine aw_iload_n (j := 1) dX11_isKing_28 rfl rfl ?_
    obtain ⟨hi, h⟩ := h
    refine aw_iaload dX11_isKing_29 ly_149 hi ?_
    refine aw_iload_n (j := 3) dX11_isKing_30 rfl rfl ?_
    refine aw_ishr dX11_isKing_31 ?_
    refine aw_iconst (v := 1) dX11_isKing_32 (by decide) ?_
    refine aw_iand dX11_isKing_33 ?_
    refine aw_if_eq (tgt := 46) dX11_isKing_34 (by decide) (fun hc => ?_) (fun hc => ?_)
    · have h := h.1 hc
      refine aw_iinc (j := 3) (v := x3 + (1 : Int32)) (L' := [(3, .int (x3 + (1 : Int32))), (0, .ref (ad 0)), (1, .int x1), (2, .int x2)]) dX11_isKing_46 rfl rfl (by decide) rfl ?_
      refine aw_goto (tgt := 13) dX11_isKing_49 (by decide) ?_
      exact aw_sub [1, 2, 3, 0] rfl h
    · have h := h.2 hc
      refine aw_iload_n (j := 2) dX11_isKing_37 rfl rfl ?_
      refine aw_aload_n (j := 0) dX11_isKing_38 rfl rfl ?_
      refine aw_getfield (c := 152) (v := .ref (ad 149)) dX11_isKing_39 f_X11_80 ly_0 rfl rfl ?_
      refine aw_iload_n (j := 3) dX11_isKing_42 rfl rfl ?_
      obtain ⟨hi, h⟩ := h
      refine aw_iaload dX11_isKing_43 ly_149 hi ?_
      refine aw_ior dX11_isKing_44 ?_
      refine aw_istore_n (L' := [(2, .int (x2 ||| (m.1 149 x3.toNatClampNeg))), (0, .ref (ad 0)), (1, .int x1), (3, .int x3)]) dX11_isKing_45 rfl (by decide) rfl ?_
      refine aw_iinc (j := 3) (v := x3 + (1 : Int32)) (L' := [(3, .int (x3 + (1 : Int32))), (2, .int (x2 ||| (m.1 149 x3.toNatClampNeg))), (0, .ref (ad 0)), (1, .int x1)]) dX11_isKing_46 rfl rfl (by decide) rfl ?_
      refine aw_goto (tgt := 13) dX11_isKing_49 (by decide) ?_
      exact aw_sub [2, 3, 1, 0] rfl h
set_option maxRecDepth 100000 in
set_option maxHeartbeats 4000000 in
theorem v_X11_master {ad : Nat → Nat} {d : Nat} {Q : Option Value → Wm → Prop} {m : Wm} {x1 : Int32} (h : (Ct ad μX1_knows d [.ref (ad 3), .int x1] m (fun r m1 => ∃ v2 : Int32, r = some (.int v2) ∧ ((¬ v2 = 0 → ((¬ (m1.1 3 3) = 0 → AW ad E0 μX11_master (d + 1) Q 34 [(0, .ref (ad 0)), (1, .int x1), (2, .int (0 : Int32)), (3, .int (7 : Int32)), (4, .int (0 : Int32))] [] m1) ∧ ((m1.1 3 3) = 0 → Q (some (.int (-2 : Int32))) m1))) ∧ (v2 = 0 → Q (some (.int (-1 : Int32))) m1))))) : Ct ad μX11_master (d + 1) [.ref (ad 0), .int x1] m Q := by
  refine Ct.of (by decide +kernel) rfl (Nat.le_of_ble_eq_true rfl) ?_
  refine aw_eq (L' := [(0, .ref (ad 0)), (1, .int x1)]) ?_ rfl rfl rfl
  refine aw_aload_n (j := 0) dX11_master_0 rfl rfl ?_
  refine aw_getfield (c := 6) (v := .ref (ad 3)) dX11_master_1 f_X11_19 ly_0 rfl rfl ?_
  refine aw_iload_n (j := 1) dX11_master_4 rfl rfl ?_
  refine aw_callV (rest := []) [.int x1] dX11_master_5 ly_3 rfl k_X11_167 rfl h (Nat.le_of_ble_eq_true rfl) (fun v m1 h => ?_)
  obtain ⟨v2, rfl, h⟩ := h
  refine aw_eq (L' := [(0, .ref (ad 0)), (1, .int x1)]) (st' := [.int v2]) (m' := m1) ?_ rfl rfl rfl
  refine aw_if_ne (tgt := 13) dX11_master_8 (by decide) (fun hc => ?_) (fun hc => ?_)
  · have h := h.1 hc
    refine aw_aload_n (j := 0) dX11_master_13 rfl rfl ?_
    refine aw_getfield (c := 6) (v := .ref (ad 3)) dX11_master_14 f_X11_19 ly_0 rfl rfl ?_
    refine aw_getfield (c := 0) (v := .int (m1.1 3 3)) dX11_master_17 f_X11_155 ly_3 rfl rfl ?_
    refine aw_if_ne (tgt := 26) dX11_master_20 (by decide) (fun hc => ?_) (fun hc => ?_)
    · have h := h.1 hc
      refine aw_iconst (v := 0) dX11_master_26 (by decide) ?_
      refine aw_istore_n (L' := [(2, .int (0 : Int32)), (0, .ref (ad 0)), (1, .int x1)]) dX11_master_27 rfl (by decide) rfl ?_
      refine aw_bipush (v := 7) dX11_master_28 (by decide) ?_
      refine aw_istore_n (L' := [(3, .int (7 : Int32)), (2, .int (0 : Int32)), (0, .ref (ad 0)), (1, .int x1)]) dX11_master_30 rfl (by decide) rfl ?_
      refine aw_iconst (v := 0) dX11_master_31 (by decide) ?_
      refine aw_istore (L' := [(4, .int (0 : Int32)), (3, .int (7 : Int32)), (2, .int (0 : Int32)), (0, .ref (ad 0)), (1, .int x1)]) dX11_master_32 (by decide) rfl ?_
      exact aw_sub [3, 4, 2, 1, 0] rfl h
    · have h := h.2 hc
      refine aw_bipush (v := -2) dX11_master_23 (by decide) ?_
      exact aw_ret (v := some (.int (-2 : Int32))) rfl (Or.inr (Or.inl ⟨_, .int, rfl, rfl, rfl, dX11_master_25⟩)) h
  · have h := h.2 hc
    refine aw_iconst (v := -1) dX11_master_11 (by decide) ?_
    exact aw_ret (v := some (.int (-1 : Int32))) rfl (Or.inr (Or.inl ⟨_, .int, rfl, rfl, rfl, dX11_master_12⟩)) h
set_option maxRecDepth 100000 in
set_option maxHeartbeats 4000000 in
theorem g_X11_master_34 {ad : Nat → Nat} {d : Nat} {Q : Option Value → Wm → Prop} {m : Wm} {x1 x2 x3 x4 : Int32} (h : (((m.1 3 3) ≤ x4 → (Ct ad μX8_skillOf d [.ref (ad 21), .int x2, .int x1] m (fun r m1 => ∃ v2 : Int32, r = some (.int v2) ∧ AW ad E0 μX11_master (d + 1) Q 105 [(0, .ref (ad 0)), (1, .int x1), (2, .int x2), (3, .int x3), (4, .int v2), (5, .int (0 : Int32)), (6, .int (0 : Int32))] [] m1))) ∧ (¬ (m.1 3 3) ≤ x4 → (Ct ad μX8_skillOf d [.ref (ad 21), .int x4, .int x1] m (fun r m3 => ∃ v4 : Int32, r = some (.int v4) ∧ (Ct ad μX8_skillOf d [.ref (ad 21), .int x2, .int x1] m3 (fun r m5 => ∃ v6 : Int32, r = some (.int v6) ∧ ((v4 ≤ v6 → AW ad E0 μX11_master (d + 1) Q 34 [(0, .ref (ad 0)), (1, .int x1), (2, .int x2), (3, .int (if v4 < x3 then v4 else x3)), (4, .int (x4 + (1 : Int32)))] [] m5) ∧ (¬ v4 ≤ v6 → AW ad E0 μX11_master (d + 1) Q 34 [(0, .ref (ad 0)), (1, .int x1), (2, .int x4), (3, .int (if v4 < x3 then v4 else x3)), (4, .int (x4 + (1 : Int32)))] [] m5))))))))) : AW ad E0 μX11_master (d + 1) Q 34 [(0, .ref (ad 0)), (1, .int x1), (2, .int x2), (3, .int x3), (4, .int x4)] [] m := by
  refine aw_iload (j := 4) dX11_master_34 rfl ?_
  refine aw_aload_n (j := 0) dX11_master_36 rfl rfl ?_
  refine aw_getfield (c := 6) (v := .ref (ad 3)) dX11_master_37 f_X11_19 ly_0 rfl rfl ?_
  refine aw_getfield (c := 0) (v := .int (m.1 3 3)) dX11_master_40 f_X11_155 ly_3 rfl rfl ?_
  refine aw_icmp_ge (tgt := 88) dX11_master_43 (by decide) (fun hc => ?_) (fun hc => ?_)
  · have h := h.1 hc
    refine aw_aload_n (j := 0) dX11_master_88 rfl rfl ?_
    refine aw_getfield (c := 24) (v := .ref (ad 21)) dX11_master_89 f_X11_33 ly_0 rfl rfl ?_
    refine aw_iload_n (j := 2) dX11_master_92 rfl rfl ?_
    refine aw_iload_n (j := 1) dX11_master_93 rfl rfl ?_
    refine aw_callV (rest := []) [.int x2, .int x1] dX11_master_94 ly_21 rfl k_X11_170 rfl h (Nat.le_of_ble_eq_true rfl) (fun v m1 h => ?_)
    obtain ⟨v2, rfl, h⟩ := h
    refine aw_eq (L' := [(0, .ref (ad 0)), (1, .int x1), (2, .int x2), (3, .int x3), (4, .int x4)]) (st' := [.int v2]) (m' := m1) ?_ rfl rfl rfl
    refine aw_istore (L' := [(4, .int v2), (0, .ref (ad 0)), (1, .int x1), (2, .int x2), (3, .int x3)]) dX11_master_97 (by decide) rfl ?_
    refine aw_iconst (v := 0) dX11_master_99 (by decide) ?_
    refine aw_istore (L' := [(5, .int (0 : Int32)), (4, .int v2), (0, .ref (ad 0)), (1, .int x1), (2, .int x2), (3, .int x3)]) dX11_master_100 (by decide) rfl ?_
    refine aw_iconst (v := 0) dX11_master_102 (by decide) ?_
    refine aw_istore (L' := [(6, .int (0 : Int32)), (5, .int (0 : Int32)), (4, .int v2), (0, .ref (ad 0)), (1, .int x1), (2, .int x2), (3, .int x3)]) dX11_master_103 (by decide) rfl ?_
    exact aw_sub [3, 4, 5, 6, 2, 1, 0] rfl h
  · have h := h.2 hc
    refine aw_aload_n (j := 0) dX11_master_46 rfl rfl ?_
    refine aw_getfield (c := 24) (v := .ref (ad 21)) dX11_master_47 f_X11_33 ly_0 rfl rfl ?_
    refine aw_iload (j := 4) dX11_master_50 rfl ?_
    refine aw_iload_n (j := 1) dX11_master_52 rfl rfl ?_
    refine aw_callV (rest := []) [.int x4, .int x1] dX11_master_53 ly_21 rfl k_X11_170 rfl h (Nat.le_of_ble_eq_true rfl) (fun v m3 h => ?_)
    obtain ⟨v4, rfl, h⟩ := h
    refine aw_eq (L' := [(0, .ref (ad 0)), (1, .int x1), (2, .int x2), (3, .int x3), (4, .int x4)]) (st' := [.int v4]) (m' := m3) ?_ rfl rfl rfl
    refine aw_istore (L' := [(5, .int v4), (0, .ref (ad 0)), (1, .int x1), (2, .int x2), (3, .int x3), (4, .int x4)]) dX11_master_56 (by decide) rfl ?_
    refine aw_iload_n (j := 4) dX11_master_58 rfl rfl ?_
    refine aw_iload (j := 0) dX11_master_59 rfl ?_
    refine aw_min dX11_master_61 k_X11_290 (Nat.le_of_ble_eq_true rfl) ?_
    refine aw_istore_n (L' := [(3, .int (if v4 < x3 then v4 else x3)), (5, .int v4), (0, .ref (ad 0)), (1, .int x1), (2, .int x2), (4, .int x4)]) dX11_master_64 rfl (by decide) rfl ?_
    refine aw_iload (j := 1) dX11_master_65 rfl ?_
    refine aw_aload_n (j := 2) dX11_master_67 rfl rfl ?_
    refine aw_getfield (c := 24) (v := .ref (ad 21)) dX11_master_68 f_X11_33 ly_0 rfl rfl ?_
    refine aw_iload_n (j := 4) dX11_master_71 rfl rfl ?_
    refine aw_iload_n (j := 3) dX11_master_72 rfl rfl ?_
    refine aw_callV (rest := [.int v4]) [.int x2, .int x1] dX11_master_73 ly_21 rfl k_X11_170 rfl h (Nat.le_of_ble_eq_true rfl) (fun v m5 h => ?_)
    obtain ⟨v6, rfl, h⟩ := h
    refine aw_eq (L' := [(3, .int (if v4 < x3 then v4 else x3)), (5, .int v4), (0, .ref (ad 0)), (1, .int x1), (2, .int x2), (4, .int x4)]) (st' := [.int v6, .int v4]) (m' := m5) ?_ rfl rfl rfl
    refine aw_icmp_le (tgt := 82) dX11_master_76 (by decide) (fun hc => ?_) (fun hc => ?_)
    · have h := h.1 hc
      refine aw_iinc (j := 5) (v := x4 + (1 : Int32)) (L' := [(4, .int (x4 + (1 : Int32))), (3, .int (if v4 < x3 then v4 else x3)), (5, .int v4), (0, .ref (ad 0)), (1, .int x1), (2, .int x2)]) dX11_master_82 rfl rfl (by decide) rfl ?_
      refine aw_goto (tgt := 34) dX11_master_85 (by decide) ?_
      exact aw_sub [3, 4, 5, 1, 0] rfl h
    · have h := h.2 hc
      refine aw_iload (j := 5) dX11_master_79 rfl ?_
      refine aw_istore_n (L' := [(2, .int x4), (3, .int (if v4 < x3 then v4 else x3)), (5, .int v4), (0, .ref (ad 0)), (1, .int x1), (4, .int x4)]) dX11_master_81 rfl (by decide) rfl ?_
      refine aw_iinc (j := 5) (v := x4 + (1 : Int32)) (L' := [(4, .int (x4 + (1 : Int32))), (2, .int x4), (3, .int (if v4 < x3 then v4 else x3)), (5, .int v4), (0, .ref (ad 0)), (1, .int x1)]) dX11_master_82 rfl rfl (by decide) rfl ?_
      refine aw_goto (tgt := 34) dX11_master_85 (by decide) ?_
      exact aw_sub [4, 5, 1, 2, 0] rfl h
set_option maxRecDepth 100000 in
set_option maxHeartbeats 4000000 in
theorem g_X11_master_105 {ad : Nat → Nat} {d : Nat} {Q : Option Value → Wm → Prop} {m : Wm} {x1 x2 x3 x4 x5 x6 : Int32} (h : (((m.1 3 3) ≤ x6 → (Ct ad μX11_tell__ d [.ref (ad 0), .long x4.toInt64, .long x5.toInt64, .long x3.toInt64] m (fun r m1 => r = none ∧ Q (some (.int x2)) m1))) ∧ (¬ (m.1 3 3) ≤ x6 → (Ct ad μX8_skillOf d [.ref (ad 21), .int x6, .int x1] m (fun r m2 => ∃ v3 : Int32, r = some (.int v3) ∧ ((¬ v3 = x4 → AW ad E0 μX11_master (d + 1) Q 105 [(0, .ref (ad 0)), (1, .int x1), (2, .int x2), (3, .int x3), (4, .int x4), (5, .int x5), (6, .int (x6 + (1 : Int32)))] [] m2) ∧ (v3 = x4 → AW ad E0 μX11_master (d + 1) Q 105 [(0, .ref (ad 0)), (1, .int x1), (2, .int x2), (3, .int x3), (4, .int x4), (5, .int (x5 ||| ((1 : Int32) <<< (x6 &&& 31)))), (6, .int (x6 + (1 : Int32)))] [] m2))))))) : AW ad E0 μX11_master (d + 1) Q 105 [(0, .ref (ad 0)), (1, .int x1), (2, .int x2), (3, .int x3), (4, .int x4), (5, .int x5), (6, .int x6)] [] m := by
  refine aw_iload (j := 6) dX11_master_105 rfl ?_
  refine aw_aload_n (j := 0) dX11_master_107 rfl rfl ?_
  refine aw_getfield (c := 6) (v := .ref (ad 3)) dX11_master_108 f_X11_19 ly_0 rfl rfl ?_
  refine aw_getfield (c := 0) (v := .int (m.1 3 3)) dX11_master_111 f_X11_155 ly_3 rfl rfl ?_
  refine aw_icmp_ge (tgt := 147) dX11_master_114 (by decide) (fun hc => ?_) (fun hc => ?_)
  · have h := h.1 hc
    refine aw_aload_n (j := 0) dX11_master_147 rfl rfl ?_
    refine aw_iload (j := 4) dX11_master_148 rfl ?_
    refine aw_i2l dX11_master_150 ?_
    refine aw_iload (j := 5) dX11_master_151 rfl ?_
    refine aw_i2l dX11_master_153 ?_
    refine aw_iload_n (j := 3) dX11_master_154 rfl rfl ?_
    refine aw_i2l dX11_master_155 ?_
    refine aw_callV (rest := []) [.long x4.toInt64, .long x5.toInt64, .long x3.toInt64] dX11_master_156 ly_0 rfl k_X11_295 rfl h (Nat.le_of_ble_eq_true rfl) (fun v m1 h => ?_)
    obtain ⟨rfl, h⟩ := h
    refine aw_eq (L' := [(0, .ref (ad 0)), (1, .int x1), (2, .int x2), (3, .int x3), (4, .int x4), (5, .int x5), (6, .int x6)]) (st' := []) (m' := m1) ?_ rfl rfl rfl
    refine aw_iload_n (j := 2) dX11_master_159 rfl rfl ?_
    exact aw_ret (v := some (.int x2)) rfl (Or.inr (Or.inl ⟨_, .int, rfl, rfl, rfl, dX11_master_160⟩)) h
  · have h := h.2 hc
    refine aw_aload_n (j := 0) dX11_master_117 rfl rfl ?_
    refine aw_getfield (c := 24) (v := .ref (ad 21)) dX11_master_118 f_X11_33 ly_0 rfl rfl ?_
    refine aw_iload (j := 6) dX11_master_121 rfl ?_
    refine aw_iload_n (j := 1) dX11_master_123 rfl rfl ?_
    refine aw_callV (rest := []) [.int x6, .int x1] dX11_master_124 ly_21 rfl k_X11_170 rfl h (Nat.le_of_ble_eq_true rfl) (fun v m2 h => ?_)
    obtain ⟨v3, rfl, h⟩ := h
    refine aw_eq (L' := [(0, .ref (ad 0)), (1, .int x1), (2, .int x2), (3, .int x3), (4, .int x4), (5, .int x5), (6, .int x6)]) (st' := [.int v3]) (m' := m2) ?_ rfl rfl rfl
    refine aw_iload (j := 4) dX11_master_127 rfl ?_
    refine aw_icmp_ne (tgt := 141) dX11_master_129 (by decide) (fun hc => ?_) (fun hc => ?_)
    · have h := h.1 hc
      refine aw_iinc (j := 6) (v := x6 + (1 : Int32)) (L' := [(6, .int (x6 + (1 : Int32))), (0, .ref (ad 0)), (1, .int x1), (2, .int x2), (3, .int x3), (4, .int x4), (5, .int x5)]) dX11_master_141 rfl rfl (by decide) rfl ?_
      refine aw_goto (tgt := 105) dX11_master_144 (by decide) ?_
      exact aw_sub [1, 2, 3, 4, 5, 6, 0] rfl h
    · have h := h.2 hc
      refine aw_iload (j := 5) dX11_master_132 rfl ?_
      refine aw_iconst (v := 1) dX11_master_134 (by decide) ?_
      refine aw_iload (j := 6) dX11_master_135 rfl ?_
      refine aw_ishl dX11_master_137 ?_
      refine aw_ior dX11_master_138 ?_
      refine aw_istore (L' := [(5, .int (x5 ||| ((1 : Int32) <<< (x6 &&& 31)))), (0, .ref (ad 0)), (1, .int x1), (2, .int x2), (3, .int x3), (4, .int x4), (6, .int x6)]) dX11_master_139 (by decide) rfl ?_
      refine aw_iinc (j := 6) (v := x6 + (1 : Int32)) (L' := [(6, .int (x6 + (1 : Int32))), (5, .int (x5 ||| ((1 : Int32) <<< (x6 &&& 31)))), (0, .ref (ad 0)), (1, .int x1), (2, .int x2), (3, .int x3), (4, .int x4)]) dX11_master_141 rfl rfl (by decide) rfl ?_
      refine aw_goto (tgt := 105) dX11_master_144 (by decide) ?_
      exact aw_sub [2, 3, 4, 5, 6, 1, 0] rfl h
set_option maxRecDepth 100000 in
set_option maxHeartbeats 4000000 in
theorem v_X11_table {ad : Nat → Nat} {d : Nat} {Q : Option Value → Wm → Prop} {m : Wm} (h : AW ad E0 μX11_table (d + 1) Q 2 [(0, .ref (ad 0)), (1, .int (0 : Int32))] [] m) : Ct ad μX11_table (d + 1) [.ref (ad 0)] m Q := by
  refine Ct.of (by decide +kernel) rfl (Nat.le_of_ble_eq_true rfl) ?_
  refine aw_eq (L' := [(0, .ref (ad 0))]) ?_ rfl rfl rfl
  refine aw_iconst (v := 0) dX11_table_0 (by decide) ?_
  refine aw_istore_n (L' := [(1, .int (0 : Int32)), (0, .ref (ad 0))]) dX11_table_1 rfl (by decide) rfl ?_
  exact aw_sub [1, 0] rfl h
set_option maxRecDepth 100000 in
set_option maxHeartbeats 4000000 in
theorem g_X11_table_2 {ad : Nat → Nat} {d : Nat} {Q : Option Value → Wm → Prop} {m : Wm} {x1 : Int32} (h : (((m.1 3 3) ≤ x1 → AW ad E0 μX11_table (d + 1) Q 39 [(0, .ref (ad 0)), (1, .int (0 : Int32))] [] m) ∧ (¬ (m.1 3 3) ≤ x1 → (Ct ad μX1_power d [.ref (ad 3), .ref (ad 21), .int x1] m (fun r m1 => ∃ v2 : Int32, r = some (.int v2) ∧ (vp_in x1 8 ∧ AW ad E0 μX11_table (d + 1) Q 2 [(0, .ref (ad 0)), (1, .int (x1 + (1 : Int32)))] [] (uI m1 149 x1.toNatClampNeg v2))))))) : AW ad E0 μX11_table (d + 1) Q 2 [(0, .ref (ad 0)), (1, .int x1)] [] m := by
  refine aw_iload_n (j := 1) dX11_table_2 rfl rfl ?_
  refine aw_aload_n (j := 0) dX11_table_3 rfl rfl ?_
  refine aw_getfield (c := 6) (v := .ref (ad 3)) dX11_table_4 f_X11_19 ly_0 rfl rfl ?_
  refine aw_getfield (c := 0) (v := .int (m.1 3 3)) dX11_table_7 f_X11_155 ly_3 rfl rfl ?_
  refine aw_icmp_ge (tgt := 37) dX11_table_10 (by decide) (fun hc => ?_) (fun hc => ?_)
  · have h := h.1 hc
    refine aw_iconst (v := 0) dX11_table_37 (by decide) ?_
    refine aw_istore_n (L' := [(1, .int (0 : Int32)), (0, .ref (ad 0))]) dX11_table_38 rfl (by decide) rfl ?_
    exact aw_sub [1, 0] rfl h
  · have h := h.2 hc
    refine aw_aload_n (j := 0) dX11_table_13 rfl rfl ?_
    refine aw_getfield (c := 152) (v := .ref (ad 149)) dX11_table_14 f_X11_80 ly_0 rfl rfl ?_
    refine aw_iload_n (j := 1) dX11_table_17 rfl rfl ?_
    refine aw_aload_n (j := 0) dX11_table_18 rfl rfl ?_
    refine aw_getfield (c := 6) (v := .ref (ad 3)) dX11_table_19 f_X11_19 ly_0 rfl rfl ?_
    refine aw_aload_n (j := 0) dX11_table_22 rfl rfl ?_
    refine aw_getfield (c := 24) (v := .ref (ad 21)) dX11_table_23 f_X11_33 ly_0 rfl rfl ?_
    refine aw_iload_n (j := 1) dX11_table_26 rfl rfl ?_
    refine aw_callV (rest := [.int x1, .ref (ad 149)]) [.ref (ad 21), .int x1] dX11_table_27 ly_3 rfl k_X11_177 rfl h (Nat.le_of_ble_eq_true rfl) (fun v m1 h => ?_)
    obtain ⟨v2, rfl, h⟩ := h
    refine aw_eq (L' := [(0, .ref (ad 0)), (1, .int x1)]) (st' := [.int v2, .int x1, .ref (ad 149)]) (m' := m1) ?_ rfl rfl rfl
    obtain ⟨hi, h⟩ := h
    refine aw_iastore dX11_table_30 ly_149 hi ?_
    refine aw_iinc (j := 1) (v := x1 + (1 : Int32)) (L' := [(1, .int (x1 + (1 : Int32))), (0, .ref (ad 0))]) dX11_table_31 rfl rfl (by decide) rfl ?_
    refine aw_goto (tgt := 2) dX11_table_34 (by decide) ?_
    exact aw_sub [1, 0] rfl h
set_option maxRecDepth 100000 in
set_option maxHeartbeats 4000000 in
theorem g_X11_table_39 {ad : Nat → Nat} {d : Nat} {Q : Option Value → Wm → Prop} {m : Wm} {x1 : Int32} (h : (((m.1 3 3) ≤ x1 → Q (some (.int ((uI m 0 18 (m.1 3 3)).1 3 3))) (uI m 0 18 (m.1 3 3))) ∧ (¬ (m.1 3 3) ≤ x1 → AW ad E0 μX11_table (d + 1) Q 54 [(0, .ref (ad 0)), (1, .int x1), (2, .int (0 : Int32)), (3, .int (0 : Int32))] [] m))) : AW ad E0 μX11_table (d + 1) Q 39 [(0, .ref (ad 0)), (1, .int x1)] [] m := by
  refine aw_iload_n (j := 1) dX11_table_39 rfl rfl ?_
  refine aw_aload_n (j := 0) dX11_table_40 rfl rfl ?_
  refine aw_getfield (c := 6) (v := .ref (ad 3)) dX11_table_41 f_X11_19 ly_0 rfl rfl ?_
  refine aw_getfield (c := 0) (v := .int (m.1 3 3)) dX11_table_44 f_X11_155 ly_3 rfl rfl ?_
  refine aw_icmp_ge (tgt := 102) dX11_table_47 (by decide) (fun hc => ?_) (fun hc => ?_)
  · have h := h.1 hc
    refine aw_aload_n (j := 0) dX11_table_102 rfl rfl ?_
    refine aw_aload_n (j := 0) dX11_table_103 rfl rfl ?_
    refine aw_getfield (c := 6) (v := .ref (ad 3)) dX11_table_104 f_X11_19 ly_0 rfl rfl ?_
    refine aw_getfield (c := 0) (v := .int (m.1 3 3)) dX11_table_107 f_X11_155 ly_3 rfl rfl ?_
    refine aw_putI dX11_table_110 f_X11_87 cl_X11 rfl ly_0 rfl rfl rfl ?_
    refine aw_aload_n (j := 0) dX11_table_113 rfl rfl ?_
    refine aw_getfield (c := 6) (v := .ref (ad 3)) dX11_table_114 f_X11_19 ly_0 rfl rfl ?_
    refine aw_getfield (c := 0) (v := .int ((uI m 0 18 (m.1 3 3)).1 3 3)) dX11_table_117 f_X11_155 ly_3 rfl rfl ?_
    exact aw_ret (v := some (.int ((uI m 0 18 (m.1 3 3)).1 3 3))) rfl (Or.inr (Or.inl ⟨_, .int, rfl, rfl, rfl, dX11_table_120⟩)) h
  · have h := h.2 hc
    refine aw_iconst (v := 0) dX11_table_50 (by decide) ?_
    refine aw_istore_n (L' := [(2, .int (0 : Int32)), (0, .ref (ad 0)), (1, .int x1)]) dX11_table_51 rfl (by decide) rfl ?_
    refine aw_iconst (v := 0) dX11_table_52 (by decide) ?_
    refine aw_istore_n (L' := [(3, .int (0 : Int32)), (2, .int (0 : Int32)), (0, .ref (ad 0)), (1, .int x1)]) dX11_table_53 rfl (by decide) rfl ?_
    exact aw_sub [2, 3, 1, 0] rfl h
set_option maxRecDepth 100000 in
set_option maxHeartbeats 4000000 in
theorem g_X11_table_54 {ad : Nat → Nat} {d : Nat} {Q : Option Value → Wm → Prop} {m : Wm} {x1 x2 x3 : Int32} (h : (((m.1 3 3) ≤ x3 → (vp_in x2 10 ∧ AW ad E0 μX11_table (d + 1) Q 39 [(0, .ref (ad 0)), (1, .int (x1 + (1 : Int32)))] [] (uL m 150 x2.toNatClampNeg x1.toInt64))) ∧ (¬ (m.1 3 3) ≤ x3 → ((x3 = x1 → AW ad E0 μX11_table (d + 1) Q 54 [(0, .ref (ad 0)), (1, .int x1), (2, .int x2), (3, .int (x3 + (1 : Int32)))] [] m) ∧ (¬ x3 = x1 → (Ct ad μX11_standsAhead d [.ref (ad 0), .int x3, .int x1] m (fun r m1 => ∃ v2 : Int32, r = some (.int v2) ∧ ((v2 = 0 → AW ad E0 μX11_table (d + 1) Q 54 [(0, .ref (ad 0)), (1, .int x1), (2, .int x2), (3, .int (x3 + (1 : Int32)))] [] m1) ∧ (¬ v2 = 0 → AW ad E0 μX11_table (d + 1) Q 54 [(0, .ref (ad 0)), (1, .int x1), (2, .int (x2 + (1 : Int32))), (3, .int (x3 + (1 : Int32)))] [] m1))))))))) : AW ad E0 μX11_table (d + 1) Q 54 [(0, .ref (ad 0)), (1, .int x1), (2, .int x2), (3, .int x3)] [] m := by
  refine aw_iload_n (j := 3) dX11_table_54 rfl rfl ?_
  refine aw_aload_n (j := 0) dX11_table_55 rfl rfl ?_
  refine aw_getfield (c := 6) (v := .ref (ad 3)) dX11_table_56 f_X11_19 ly_0 rfl rfl ?_
  refine aw_getfield (c := 0) (v := .int (m.1 3 3)) dX11_table_59 f_X11_155 ly_3 rfl rfl ?_
  refine aw_icmp_ge (tgt := 88) dX11_table_62 (by decide) (fun hc => ?_) (fun hc => ?_)
  · have h := h.1 hc
    refine aw_aload_n (j := 0) dX11_table_88 rfl rfl ?_
    refine aw_getfield (c := 153) (v := .ref (ad 150)) dX11_table_89 f_X11_83 ly_0 rfl rfl ?_
    refine aw_iload_n (j := 2) dX11_table_92 rfl rfl ?_
    refine aw_iload_n (j := 1) dX11_table_93 rfl rfl ?_
    refine aw_i2l dX11_table_94 ?_
    obtain ⟨hi, h⟩ := h
    refine aw_lastore dX11_table_95 ly_150 hi ?_
    refine aw_iinc (j := 1) (v := x1 + (1 : Int32)) (L' := [(1, .int (x1 + (1 : Int32))), (0, .ref (ad 0)), (2, .int x2), (3, .int x3)]) dX11_table_96 rfl rfl (by decide) rfl ?_
    refine aw_goto (tgt := 39) dX11_table_99 (by decide) ?_
    exact aw_sub [1, 0] rfl h
  · have h := h.2 hc
    refine aw_iload_n (j := 3) dX11_table_65 rfl rfl ?_
    refine aw_iload_n (j := 1) dX11_table_66 rfl rfl ?_
    refine aw_icmp_eq (tgt := 82) dX11_table_67 (by decide) (fun hc => ?_) (fun hc => ?_)
    · have h := h.1 hc
      refine aw_iinc (j := 3) (v := x3 + (1 : Int32)) (L' := [(3, .int (x3 + (1 : Int32))), (0, .ref (ad 0)), (1, .int x1), (2, .int x2)]) dX11_table_82 rfl rfl (by decide) rfl ?_
      refine aw_goto (tgt := 54) dX11_table_85 (by decide) ?_
      exact aw_sub [1, 2, 3, 0] rfl h
    · have h := h.2 hc
      refine aw_aload_n (j := 0) dX11_table_70 rfl rfl ?_
      refine aw_iload_n (j := 3) dX11_table_71 rfl rfl ?_
      refine aw_iload_n (j := 1) dX11_table_72 rfl rfl ?_
      refine aw_callV (rest := []) [.int x3, .int x1] dX11_table_73 ly_0 rfl k_X11_298 rfl h (Nat.le_of_ble_eq_true rfl) (fun v m1 h => ?_)
      obtain ⟨v2, rfl, h⟩ := h
      refine aw_eq (L' := [(0, .ref (ad 0)), (1, .int x1), (2, .int x2), (3, .int x3)]) (st' := [.int v2]) (m' := m1) ?_ rfl rfl rfl
      refine aw_if_eq (tgt := 82) dX11_table_76 (by decide) (fun hc => ?_) (fun hc => ?_)
      · have h := h.1 hc
        refine aw_iinc (j := 3) (v := x3 + (1 : Int32)) (L' := [(3, .int (x3 + (1 : Int32))), (0, .ref (ad 0)), (1, .int x1), (2, .int x2)]) dX11_table_82 rfl rfl (by decide) rfl ?_
        refine aw_goto (tgt := 54) dX11_table_85 (by decide) ?_
        exact aw_sub [1, 2, 3, 0] rfl h
      · have h := h.2 hc
        refine aw_iinc (j := 2) (v := x2 + (1 : Int32)) (L' := [(2, .int (x2 + (1 : Int32))), (0, .ref (ad 0)), (1, .int x1), (3, .int x3)]) dX11_table_79 rfl rfl (by decide) rfl ?_
        refine aw_iinc (j := 3) (v := x3 + (1 : Int32)) (L' := [(3, .int (x3 + (1 : Int32))), (2, .int (x2 + (1 : Int32))), (0, .ref (ad 0)), (1, .int x1)]) dX11_table_82 rfl rfl (by decide) rfl ?_
        refine aw_goto (tgt := 54) dX11_table_85 (by decide) ?_
        exact aw_sub [2, 3, 1, 0] rfl h
set_option maxRecDepth 100000 in
set_option maxHeartbeats 4000000 in
theorem v_X11_standsAhead {ad : Nat → Nat} {d : Nat} {Q : Option Value → Wm → Prop} {m : Wm} {x1 x2 : Int32} (h : (vp_in x1 8 ∧ (vp_in x2 8 ∧ (((m.1 23 x1.toNatClampNeg) = (m.1 23 x2.toNatClampNeg) → (vp_in x1 8 ∧ (vp_in x2 8 ∧ (((m.1 149 x1.toNatClampNeg) = (m.1 149 x2.toNatClampNeg) → ((x2 ≤ x1 → Q (some (.int (0 : Int32))) m) ∧ (¬ x2 ≤ x1 → Q (some (.int (1 : Int32))) m))) ∧ (¬ (m.1 149 x1.toNatClampNeg) = (m.1 149 x2.toNatClampNeg) → (vp_in x1 8 ∧ (vp_in x2 8 ∧ (((m.1 149 x1.toNatClampNeg) ≤ (m.1 149 x2.toNatClampNeg) → Q (some (.int (0 : Int32))) m) ∧ (¬ (m.1 149 x1.toNatClampNeg) ≤ (m.1 149 x2.toNatClampNeg) → Q (some (.int (1 : Int32))) m))))))))) ∧ (¬ (m.1 23 x1.toNatClampNeg) = (m.1 23 x2.toNatClampNeg) → (vp_in x1 8 ∧ (vp_in x2 8 ∧ (((m.1 23 x1.toNatClampNeg) ≤ (m.1 23 x2.toNatClampNeg) → Q (some (.int (0 : Int32))) m) ∧ (¬ (m.1 23 x1.toNatClampNeg) ≤ (m.1 23 x2.toNatClampNeg) → Q (some (.int (1 : Int32))) m))))))))) : Ct ad μX11_standsAhead d [.ref (ad 0), .int x1, .int x2] m Q := by
  refine Ct.of (by decide +kernel) rfl (Nat.le_of_ble_eq_true rfl) ?_
  refine aw_eq (L' := [(0, .ref (ad 0)), (1, .int x1), (2, .int x2)]) ?_ rfl rfl rfl
  refine aw_aload_n (j := 0) dX11_standsAhead_0 rfl rfl ?_
  refine aw_getfield (c := 24) (v := .ref (ad 21)) dX11_standsAhead_1 f_X11_33 ly_0 rfl rfl ?_
  refine aw_getfield (c := 26) (v := .ref (ad 23)) dX11_standsAhead_4 f_X11_181 ly_21 rfl rfl ?_
  refine aw_iload_n (j := 1) dX11_standsAhead_7 rfl rfl ?_
  obtain ⟨hi, h⟩ := h
  refine aw_iaload dX11_standsAhead_8 ly_23 hi ?_
  refine aw_aload_n (j := 0) dX11_standsAhead_9 rfl rfl ?_
  refine aw_getfield (c := 24) (v := .ref (ad 21)) dX11_standsAhead_10 f_X11_33 ly_0 rfl rfl ?_
  refine aw_getfield (c := 26) (v := .ref (ad 23)) dX11_standsAhead_13 f_X11_181 ly_21 rfl rfl ?_
  refine aw_iload_n (j := 2) dX11_standsAhead_16 rfl rfl ?_
  obtain ⟨hi, h⟩ := h
  refine aw_iaload dX11_standsAhead_17 ly_23 hi ?_
  refine aw_icmp_eq (tgt := 48) dX11_standsAhead_18 (by decide) (fun hc => ?_) (fun hc => ?_)
  · have h := h.1 hc
    refine aw_aload_n (j := 0) dX11_standsAhead_48 rfl rfl ?_
    refine aw_getfield (c := 152) (v := .ref (ad 149)) dX11_standsAhead_49 f_X11_80 ly_0 rfl rfl ?_
    refine aw_iload_n (j := 1) dX11_standsAhead_52 rfl rfl ?_
    obtain ⟨hi, h⟩ := h
    refine aw_iaload dX11_standsAhead_53 ly_149 hi ?_
    refine aw_aload_n (j := 0) dX11_standsAhead_54 rfl rfl ?_
    refine aw_getfield (c := 152) (v := .ref (ad 149)) dX11_standsAhead_55 f_X11_80 ly_0 rfl rfl ?_
    refine aw_iload_n (j := 2) dX11_standsAhead_58 rfl rfl ?_
    obtain ⟨hi, h⟩ := h
    refine aw_iaload dX11_standsAhead_59 ly_149 hi ?_
    refine aw_icmp_eq (tgt := 84) dX11_standsAhead_60 (by decide) (fun hc => ?_) (fun hc => ?_)
    · have h := h.1 hc
      refine aw_iload_n (j := 1) dX11_standsAhead_84 rfl rfl ?_
      refine aw_iload_n (j := 2) dX11_standsAhead_85 rfl rfl ?_
      refine aw_icmp_ge (tgt := 93) dX11_standsAhead_86 (by decide) (fun hc => ?_) (fun hc => ?_)
      · have h := h.1 hc
        refine aw_iconst (v := 0) dX11_standsAhead_93 (by decide) ?_
        exact aw_ret (v := some (.int (0 : Int32))) rfl (Or.inr (Or.inl ⟨_, .boolean, rfl, rfl, by decide, dX11_standsAhead_94⟩)) h
      · have h := h.2 hc
        refine aw_iconst (v := 1) dX11_standsAhead_89 (by decide) ?_
        refine aw_goto (tgt := 94) dX11_standsAhead_90 (by decide) ?_
        exact aw_ret (v := some (.int (1 : Int32))) rfl (Or.inr (Or.inl ⟨_, .boolean, rfl, rfl, by decide, dX11_standsAhead_94⟩)) h
    · have h := h.2 hc
      refine aw_aload_n (j := 0) dX11_standsAhead_63 rfl rfl ?_
      refine aw_getfield (c := 152) (v := .ref (ad 149)) dX11_standsAhead_64 f_X11_80 ly_0 rfl rfl ?_
      refine aw_iload_n (j := 1) dX11_standsAhead_67 rfl rfl ?_
      obtain ⟨hi, h⟩ := h
      refine aw_iaload dX11_standsAhead_68 ly_149 hi ?_
      refine aw_aload_n (j := 0) dX11_standsAhead_69 rfl rfl ?_
      refine aw_getfield (c := 152) (v := .ref (ad 149)) dX11_standsAhead_70 f_X11_80 ly_0 rfl rfl ?_
      refine aw_iload_n (j := 2) dX11_standsAhead_73 rfl rfl ?_
      obtain ⟨hi, h⟩ := h
      refine aw_iaload dX11_standsAhead_74 ly_149 hi ?_
      refine aw_icmp_le (tgt := 82) dX11_standsAhead_75 (by decide) (fun hc => ?_) (fun hc => ?_)
      · have h := h.1 hc
        refine aw_iconst (v := 0) dX11_standsAhead_82 (by decide) ?_
        exact aw_ret (v := some (.int (0 : Int32))) rfl (Or.inr (Or.inl ⟨_, .boolean, rfl, rfl, by decide, dX11_standsAhead_83⟩)) h
      · have h := h.2 hc
        refine aw_iconst (v := 1) dX11_standsAhead_78 (by decide) ?_
        refine aw_goto (tgt := 83) dX11_standsAhead_79 (by decide) ?_
        exact aw_ret (v := some (.int (1 : Int32))) rfl (Or.inr (Or.inl ⟨_, .boolean, rfl, rfl, by decide, dX11_standsAhead_83⟩)) h
  · have h := h.2 hc
    refine aw_aload_n (j := 0) dX11_standsAhead_21 rfl rfl ?_
    refine aw_getfield (c := 24) (v := .ref (ad 21)) dX11_standsAhead_22 f_X11_33 ly_0 rfl rfl ?_
    refine aw_getfield (c := 26) (v := .ref (ad 23)) dX11_standsAhead_25 f_X11_181 ly_21 rfl rfl ?_
    refine aw_iload_n (j := 1) dX11_standsAhead_28 rfl rfl ?_
    obtain ⟨hi, h⟩ := h
    refine aw_iaload dX11_standsAhead_29 ly_23 hi ?_
    refine aw_aload_n (j := 0) dX11_standsAhead_30 rfl rfl ?_
    refine aw_getfield (c := 24) (v := .ref (ad 21)) dX11_standsAhead_31 f_X11_33 ly_0 rfl rfl ?_
    refine aw_getfield (c := 26) (v := .ref (ad 23)) dX11_standsAhead_34 f_X11_181 ly_21 rfl rfl ?_
    refine aw_iload_n (j := 2) dX11_standsAhead_37 rfl rfl ?_
    obtain ⟨hi, h⟩ := h
    refine aw_iaload dX11_standsAhead_38 ly_23 hi ?_
    refine aw_icmp_le (tgt := 46) dX11_standsAhead_39 (by decide) (fun hc => ?_) (fun hc => ?_)
    · have h := h.1 hc
      refine aw_iconst (v := 0) dX11_standsAhead_46 (by decide) ?_
      exact aw_ret (v := some (.int (0 : Int32))) rfl (Or.inr (Or.inl ⟨_, .boolean, rfl, rfl, by decide, dX11_standsAhead_47⟩)) h
    · have h := h.2 hc
      refine aw_iconst (v := 1) dX11_standsAhead_42 (by decide) ?_
      refine aw_goto (tgt := 47) dX11_standsAhead_43 (by decide) ?_
      exact aw_ret (v := some (.int (1 : Int32))) rfl (Or.inr (Or.inl ⟨_, .boolean, rfl, rfl, by decide, dX11_standsAhead_47⟩)) h
set_option maxRecDepth 100000 in
set_option maxHeartbeats 4000000 in
theorem v_X11_spread {ad : Nat → Nat} {d : Nat} {Q : Option Value → Wm → Prop} {m : Wm} (h : ((¬ (m.1 3 3) = 0 → (Ct ad μX1_strongest d [.ref (ad 3), .ref (ad 21)] m (fun r m1 => ∃ v2 : Int32, r = some (.int v2) ∧ (Ct ad μX1_weakest d [.ref (ad 3), .ref (ad 21)] m1 (fun r m3 => ∃ v4 : Int32, r = some (.int v4) ∧ (Ct ad μX11_tell_ d [.ref (ad 0), .long v2.toInt64, .long v4.toInt64] m3 (fun r m5 => r = none ∧ (Ct ad μX1_power d [.ref (ad 3), .ref (ad 21), .int v2] m5 (fun r m6 => ∃ v7 : Int32, r = some (.int v7) ∧ (Ct ad μX1_power d [.ref (ad 3), .ref (ad 21), .int v4] m6 (fun r m8 => ∃ v9 : Int32, r = some (.int v9) ∧ Q (some (.int (v7 - v9))) m8))))))))))) ∧ ((m.1 3 3) = 0 → Q (some (.int (0 : Int32))) (uI m 0 18 (0 : Int32))))) : Ct ad μX11_spread (d + 1) [.ref (ad 0)] m Q := by
  refine Ct.of (by decide +kernel) rfl (Nat.le_of_ble_eq_true rfl) ?_
  refine aw_eq (L' := [(0, .ref (ad 0))]) ?_ rfl rfl rfl
  refine aw_aload_n (j := 0) dX11_spread_0 rfl rfl ?_
  refine aw_getfield (c := 6) (v := .ref (ad 3)) dX11_spread_1 f_X11_19 ly_0 rfl rfl ?_
  refine aw_getfield (c := 0) (v := .int (m.1 3 3)) dX11_spread_4 f_X11_155 ly_3 rfl rfl ?_
  refine aw_if_ne (tgt := 17) dX11_spread_7 (by decide) (fun hc => ?_) (fun hc => ?_)
  · have h := h.1 hc
    refine aw_aload_n (j := 0) dX11_spread_17 rfl rfl ?_
    refine aw_getfield (c := 6) (v := .ref (ad 3)) dX11_spread_18 f_X11_19 ly_0 rfl rfl ?_
    refine aw_aload_n (j := 0) dX11_spread_21 rfl rfl ?_
    refine aw_getfield (c := 24) (v := .ref (ad 21)) dX11_spread_22 f_X11_33 ly_0 rfl rfl ?_
    refine aw_callV (rest := []) [.ref (ad 21)] dX11_spread_25 ly_3 rfl k_X11_301 rfl h (Nat.le_of_ble_eq_true rfl) (fun v m1 h => ?_)
    obtain ⟨v2, rfl, h⟩ := h
    refine aw_eq (L' := [(0, .ref (ad 0))]) (st' := [.int v2]) (m' := m1) ?_ rfl rfl rfl
    refine aw_istore_n (L' := [(1, .int v2), (0, .ref (ad 0))]) dX11_spread_28 rfl (by decide) rfl ?_
    refine aw_aload_n (j := 1) dX11_spread_29 rfl rfl ?_
    refine aw_getfield (c := 6) (v := .ref (ad 3)) dX11_spread_30 f_X11_19 ly_0 rfl rfl ?_
    refine aw_aload_n (j := 1) dX11_spread_33 rfl rfl ?_
    refine aw_getfield (c := 24) (v := .ref (ad 21)) dX11_spread_34 f_X11_33 ly_0 rfl rfl ?_
    refine aw_callV (rest := []) [.ref (ad 21)] dX11_spread_37 ly_3 rfl k_X11_304 rfl h (Nat.le_of_ble_eq_true rfl) (fun v m3 h => ?_)
    obtain ⟨v4, rfl, h⟩ := h
    refine aw_eq (L' := [(1, .int v2), (0, .ref (ad 0))]) (st' := [.int v4]) (m' := m3) ?_ rfl rfl rfl
    refine aw_istore_n (L' := [(2, .int v4), (1, .int v2), (0, .ref (ad 0))]) dX11_spread_40 rfl (by decide) rfl ?_
    refine aw_aload_n (j := 2) dX11_spread_41 rfl rfl ?_
    refine aw_iload_n (j := 1) dX11_spread_42 rfl rfl ?_
    refine aw_i2l dX11_spread_43 ?_
    refine aw_iload_n (j := 0) dX11_spread_44 rfl rfl ?_
    refine aw_i2l dX11_spread_45 ?_
    refine aw_callV (rest := []) [.long v2.toInt64, .long v4.toInt64] dX11_spread_46 ly_0 rfl k_X11_239 rfl h (Nat.le_of_ble_eq_true rfl) (fun v m5 h => ?_)
    obtain ⟨rfl, h⟩ := h
    refine aw_eq (L' := [(2, .int v4), (1, .int v2), (0, .ref (ad 0))]) (st' := []) (m' := m5) ?_ rfl rfl rfl
    refine aw_aload_n (j := 2) dX11_spread_49 rfl rfl ?_
    refine aw_getfield (c := 6) (v := .ref (ad 3)) dX11_spread_50 f_X11_19 ly_0 rfl rfl ?_
    refine aw_aload_n (j := 2) dX11_spread_53 rfl rfl ?_
    refine aw_getfield (c := 24) (v := .ref (ad 21)) dX11_spread_54 f_X11_33 ly_0 rfl rfl ?_
    refine aw_iload_n (j := 1) dX11_spread_57 rfl rfl ?_
    refine aw_callV (rest := []) [.ref (ad 21), .int v2] dX11_spread_58 ly_3 rfl k_X11_177 rfl h (Nat.le_of_ble_eq_true rfl) (fun v m6 h => ?_)
    obtain ⟨v7, rfl, h⟩ := h
    refine aw_eq (L' := [(2, .int v4), (1, .int v2), (0, .ref (ad 0))]) (st' := [.int v7]) (m' := m6) ?_ rfl rfl rfl
    refine aw_aload_n (j := 2) dX11_spread_61 rfl rfl ?_
    refine aw_getfield (c := 6) (v := .ref (ad 3)) dX11_spread_62 f_X11_19 ly_0 rfl rfl ?_
    refine aw_aload_n (j := 2) dX11_spread_65 rfl rfl ?_
    refine aw_getfield (c := 24) (v := .ref (ad 21)) dX11_spread_66 f_X11_33 ly_0 rfl rfl ?_
    refine aw_iload_n (j := 0) dX11_spread_69 rfl rfl ?_
    refine aw_callV (rest := [.int v7]) [.ref (ad 21), .int v4] dX11_spread_70 ly_3 rfl k_X11_177 rfl h (Nat.le_of_ble_eq_true rfl) (fun v m8 h => ?_)
    obtain ⟨v9, rfl, h⟩ := h
    refine aw_eq (L' := [(2, .int v4), (1, .int v2), (0, .ref (ad 0))]) (st' := [.int v9, .int v7]) (m' := m8) ?_ rfl rfl rfl
    refine aw_isub dX11_spread_73 ?_
    exact aw_ret (v := some (.int (v7 - v9))) rfl (Or.inr (Or.inl ⟨_, .int, rfl, rfl, rfl, dX11_spread_74⟩)) h
  · have h := h.2 hc
    refine aw_aload_n (j := 0) dX11_spread_10 rfl rfl ?_
    refine aw_iconst (v := 0) dX11_spread_11 (by decide) ?_
    refine aw_putI dX11_spread_12 f_X11_87 cl_X11 rfl ly_0 rfl rfl rfl ?_
    refine aw_iconst (v := 0) dX11_spread_15 (by decide) ?_
    exact aw_ret (v := some (.int (0 : Int32))) rfl (Or.inr (Or.inl ⟨_, .int, rfl, rfl, rfl, dX11_spread_16⟩)) h
set_option maxRecDepth 100000 in
set_option maxHeartbeats 4000000 in
theorem v_X11_rest {ad : Nat → Nat} {d : Nat} {Q : Option Value → Wm → Prop} {m : Wm} (h : (∃ r1, m.2.2 0 9 = some r1 ∧ Pl r1 ∧ ((¬ (m.1 r1 5) = 0 → (∃ r2, m.2.2 0 9 = some r2 ∧ Pl r2 ∧ (Ct ad μX7_findLoop d [.ref (ad 166), .ref (ad 3), .ref (ad r2), .ref (ad 21)] m (fun r m3 => ∃ v4 : Int32, r = some (.int v4) ∧ ((¬ v4 = 0 → (Ct ad μX9_total d [.ref (ad 151), .int (m3.1 166 3)] m3 (fun r m5 => ∃ v6 : Int32, r = some (.int v6) ∧ (Ct ad μX11_tell_ d [.ref (ad 0), .long ((m3.1 166 4).toInt64), .long v6.toInt64] m5 (fun r m7 => r = none ∧ Q (some (.int (m7.1 166 3))) m7))))) ∧ (v4 = 0 → Q (some (.int (-3 : Int32))) m3)))))) ∧ ((m.1 r1 5) = 0 → Q (some (.int (-1 : Int32))) m)))) : Ct ad μX11_rest (d + 1) [.ref (ad 0)] m Q := by
  refine Ct.of (by decide +kernel) rfl (Nat.le_of_ble_eq_true rfl) ?_
  refine aw_eq (L' := [(0, .ref (ad 0))]) ?_ rfl rfl rfl
  refine aw_aload_n (j := 0) dX11_rest_0 rfl rfl ?_
  obtain ⟨r1, hrr1, hr1, h⟩ := h
  refine aw_getfield (c := 2) (v := .ref (ad r1)) dX11_rest_1 f_X11_56 ly_0 rfl (by show va_rf (Option.map ad (m.2.2 0 9)) = _; rw [hrr1]; rfl) ?_
  refine aw_getfield (c := 0) (v := .int (m.1 r1 5)) dX11_rest_4 f_X11_161 hr1.1 rfl rfl ?_
  refine aw_if_ne (tgt := 12) dX11_rest_7 (by decide) (fun hc => ?_) (fun hc => ?_)
  · have h := h.1 hc
    refine aw_aload_n (j := 0) dX11_rest_12 rfl rfl ?_
    refine aw_getfield (c := 169) (v := .ref (ad 166)) dX11_rest_13 f_X11_105 ly_0 rfl rfl ?_
    refine aw_aload_n (j := 0) dX11_rest_16 rfl rfl ?_
    refine aw_getfield (c := 6) (v := .ref (ad 3)) dX11_rest_17 f_X11_19 ly_0 rfl rfl ?_
    refine aw_aload_n (j := 0) dX11_rest_20 rfl rfl ?_
    obtain ⟨r2, hrr2, hr2, h⟩ := h
    refine aw_getfield (c := 2) (v := .ref (ad r2)) dX11_rest_21 f_X11_56 ly_0 rfl (by show va_rf (Option.map ad (m.2.2 0 9)) = _; rw [hrr2]; rfl) ?_
    refine aw_aload_n (j := 0) dX11_rest_24 rfl rfl ?_
    refine aw_getfield (c := 24) (v := .ref (ad 21)) dX11_rest_25 f_X11_33 ly_0 rfl rfl ?_
    refine aw_callV (rest := []) [.ref (ad 3), .ref (ad r2), .ref (ad 21)] dX11_rest_28 ly_166 rfl k_X11_307 rfl h (Nat.le_of_ble_eq_true rfl) (fun v m3 h => ?_)
    obtain ⟨v4, rfl, h⟩ := h
    refine aw_eq (L' := [(0, .ref (ad 0))]) (st' := [.int v4]) (m' := m3) ?_ rfl rfl rfl
    refine aw_if_ne (tgt := 37) dX11_rest_31 (by decide) (fun hc => ?_) (fun hc => ?_)
    · have h := h.1 hc
      refine aw_aload_n (j := 0) dX11_rest_37 rfl rfl ?_
      refine aw_aload_n (j := 0) dX11_rest_38 rfl rfl ?_
      refine aw_getfield (c := 169) (v := .ref (ad 166)) dX11_rest_39 f_X11_105 ly_0 rfl rfl ?_
      refine aw_getfield (c := 0) (v := .int (m3.1 166 4)) dX11_rest_42 f_X11_311 ly_166 rfl rfl ?_
      refine aw_i2l dX11_rest_45 ?_
      refine aw_aload_n (j := 0) dX11_rest_46 rfl rfl ?_
      refine aw_getfield (c := 169) (v := .ref (ad 166)) dX11_rest_47 f_X11_105 ly_0 rfl rfl ?_
      refine aw_getfield (c := 154) (v := .ref (ad 151)) dX11_rest_50 f_X11_314 ly_166 rfl rfl ?_
      refine aw_aload_n (j := 0) dX11_rest_53 rfl rfl ?_
      refine aw_getfield (c := 169) (v := .ref (ad 166)) dX11_rest_54 f_X11_105 ly_0 rfl rfl ?_
      refine aw_getfield (c := 0) (v := .int (m3.1 166 3)) dX11_rest_57 f_X11_318 ly_166 rfl rfl ?_
      refine aw_callV (rest := [.long ((m3.1 166 4).toInt64), .ref (ad 0)]) [.int (m3.1 166 3)] dX11_rest_60 ly_151 rfl k_X11_321 rfl h (Nat.le_of_ble_eq_true rfl) (fun v m5 h => ?_)
      obtain ⟨v6, rfl, h⟩ := h
      refine aw_eq (L' := [(0, .ref (ad 0))]) (st' := [.int v6, .long ((m3.1 166 4).toInt64), .ref (ad 0)]) (m' := m5) ?_ rfl rfl rfl
      refine aw_i2l dX11_rest_63 ?_
      refine aw_callV (rest := []) [.long ((m3.1 166 4).toInt64), .long v6.toInt64] dX11_rest_64 ly_0 rfl k_X11_239 rfl h (Nat.le_of_ble_eq_true rfl) (fun v m7 h => ?_)
      obtain ⟨rfl, h⟩ := h
      refine aw_eq (L' := [(0, .ref (ad 0))]) (st' := []) (m' := m7) ?_ rfl rfl rfl
      refine aw_aload_n (j := 0) dX11_rest_67 rfl rfl ?_
      refine aw_getfield (c := 169) (v := .ref (ad 166)) dX11_rest_68 f_X11_105 ly_0 rfl rfl ?_
      refine aw_getfield (c := 0) (v := .int (m7.1 166 3)) dX11_rest_71 f_X11_318 ly_166 rfl rfl ?_
      exact aw_ret (v := some (.int (m7.1 166 3))) rfl (Or.inr (Or.inl ⟨_, .int, rfl, rfl, rfl, dX11_rest_74⟩)) h
    · have h := h.2 hc
      refine aw_bipush (v := -3) dX11_rest_34 (by decide) ?_
      exact aw_ret (v := some (.int (-3 : Int32))) rfl (Or.inr (Or.inl ⟨_, .int, rfl, rfl, rfl, dX11_rest_36⟩)) h
  · have h := h.2 hc
    refine aw_iconst (v := -1) dX11_rest_10 (by decide) ?_
    exact aw_ret (v := some (.int (-1 : Int32))) rfl (Or.inr (Or.inl ⟨_, .int, rfl, rfl, rfl, dX11_rest_11⟩)) h
set_option maxRecDepth 100000 in
set_option maxHeartbeats 4000000 in
theorem v_X11_mean {ad : Nat → Nat} {d : Nat} {Q : Option Value → Wm → Prop} {m : Wm} {x1 x2 : Int32} (h : (Ct ad μX1_has d [.ref (ad 3), .int x1] m (fun r m1 => ∃ v2 : Int32, r = some (.int v2) ∧ ((v2 = 0 → Q (some (.int (-1 : Int32))) m1) ∧ (¬ v2 = 0 → (Ct ad μX1_knows d [.ref (ad 3), .int x2] m1 (fun r m3 => ∃ v4 : Int32, r = some (.int v4) ∧ ((v4 = 0 → Q (some (.int (-1 : Int32))) m3) ∧ (¬ v4 = 0 → (∃ r5, m3.2.2 0 9 = some r5 ∧ Pl r5 ∧ ((¬ (m3.1 r5 5) = 0 → (∃ r6, m3.2.2 0 9 = some r6 ∧ Pl r6 ∧ (Ct ad μX7_findLoop d [.ref (ad 166), .ref (ad 3), .ref (ad r6), .ref (ad 21)] m3 (fun r m7 => ∃ v8 : Int32, r = some (.int v8) ∧ ((¬ v8 = 0 → (Ct ad μX7_loopSum d [.ref (ad 166), .int x1, .int x2] m7 (fun r m9 => ∃ v10 : Int32, r = some (.int v10) ∧ (Ct ad μX11_tellFraction d [.ref (ad 0), .long v10.toInt64, .long ((m9.1 166 4).toInt64)] m9 (fun r m11 => r = none ∧ Q (some (.int (0 : Int32))) m11))))) ∧ (v8 = 0 → Q (some (.int (-3 : Int32))) m7)))))) ∧ ((m3.1 r5 5) = 0 → Q (some (.int (-1 : Int32))) m3)))))))))))) : Ct ad μX11_mean (d + 1) [.ref (ad 0), .int x1, .int x2] m Q := by
  refine Ct.of (by decide +kernel) rfl (Nat.le_of_ble_eq_true rfl) ?_
  refine aw_eq (L' := [(0, .ref (ad 0)), (1, .int x1), (2, .int x2)]) ?_ rfl rfl rfl
  refine aw_aload_n (j := 0) dX11_mean_0 rfl rfl ?_
  refine aw_getfield (c := 6) (v := .ref (ad 3)) dX11_mean_1 f_X11_19 ly_0 rfl rfl ?_
  refine aw_iload_n (j := 1) dX11_mean_4 rfl rfl ?_
  refine aw_callV (rest := []) [.int x1] dX11_mean_5 ly_3 rfl k_X11_164 rfl h (Nat.le_of_ble_eq_true rfl) (fun v m1 h => ?_)
  obtain ⟨v2, rfl, h⟩ := h
  refine aw_eq (L' := [(0, .ref (ad 0)), (1, .int x1), (2, .int x2)]) (st' := [.int v2]) (m' := m1) ?_ rfl rfl rfl
  refine aw_if_eq (tgt := 32) dX11_mean_8 (by decide) (fun hc => ?_) (fun hc => ?_)
  · have h := h.1 hc
    refine aw_iconst (v := -1) dX11_mean_32 (by decide) ?_
    exact aw_ret (v := some (.int (-1 : Int32))) rfl (Or.inr (Or.inl ⟨_, .int, rfl, rfl, rfl, dX11_mean_33⟩)) h
  · have h := h.2 hc
    refine aw_aload_n (j := 0) dX11_mean_11 rfl rfl ?_
    refine aw_getfield (c := 6) (v := .ref (ad 3)) dX11_mean_12 f_X11_19 ly_0 rfl rfl ?_
    refine aw_iload_n (j := 2) dX11_mean_15 rfl rfl ?_
    refine aw_callV (rest := []) [.int x2] dX11_mean_16 ly_3 rfl k_X11_167 rfl h (Nat.le_of_ble_eq_true rfl) (fun v m3 h => ?_)
    obtain ⟨v4, rfl, h⟩ := h
    refine aw_eq (L' := [(0, .ref (ad 0)), (1, .int x1), (2, .int x2)]) (st' := [.int v4]) (m' := m3) ?_ rfl rfl rfl
    refine aw_if_eq (tgt := 32) dX11_mean_19 (by decide) (fun hc => ?_) (fun hc => ?_)
    · have h := h.1 hc
      refine aw_iconst (v := -1) dX11_mean_32 (by decide) ?_
      exact aw_ret (v := some (.int (-1 : Int32))) rfl (Or.inr (Or.inl ⟨_, .int, rfl, rfl, rfl, dX11_mean_33⟩)) h
    · have h := h.2 hc
      refine aw_aload_n (j := 0) dX11_mean_22 rfl rfl ?_
      obtain ⟨r5, hrr5, hr5, h⟩ := h
      refine aw_getfield (c := 2) (v := .ref (ad r5)) dX11_mean_23 f_X11_56 ly_0 rfl (by show va_rf (Option.map ad (m3.2.2 0 9)) = _; rw [hrr5]; rfl) ?_
      refine aw_getfield (c := 0) (v := .int (m3.1 r5 5)) dX11_mean_26 f_X11_161 hr5.1 rfl rfl ?_
      refine aw_if_ne (tgt := 34) dX11_mean_29 (by decide) (fun hc => ?_) (fun hc => ?_)
      · have h := h.1 hc
        refine aw_aload_n (j := 0) dX11_mean_34 rfl rfl ?_
        refine aw_getfield (c := 169) (v := .ref (ad 166)) dX11_mean_35 f_X11_105 ly_0 rfl rfl ?_
        refine aw_aload_n (j := 0) dX11_mean_38 rfl rfl ?_
        refine aw_getfield (c := 6) (v := .ref (ad 3)) dX11_mean_39 f_X11_19 ly_0 rfl rfl ?_
        refine aw_aload_n (j := 0) dX11_mean_42 rfl rfl ?_
        obtain ⟨r6, hrr6, hr6, h⟩ := h
        refine aw_getfield (c := 2) (v := .ref (ad r6)) dX11_mean_43 f_X11_56 ly_0 rfl (by show va_rf (Option.map ad (m3.2.2 0 9)) = _; rw [hrr6]; rfl) ?_
        refine aw_aload_n (j := 0) dX11_mean_46 rfl rfl ?_
        refine aw_getfield (c := 24) (v := .ref (ad 21)) dX11_mean_47 f_X11_33 ly_0 rfl rfl ?_
        refine aw_callV (rest := []) [.ref (ad 3), .ref (ad r6), .ref (ad 21)] dX11_mean_50 ly_166 rfl k_X11_307 rfl h (Nat.le_of_ble_eq_true rfl) (fun v m7 h => ?_)
        obtain ⟨v8, rfl, h⟩ := h
        refine aw_eq (L' := [(0, .ref (ad 0)), (1, .int x1), (2, .int x2)]) (st' := [.int v8]) (m' := m7) ?_ rfl rfl rfl
        refine aw_if_ne (tgt := 59) dX11_mean_53 (by decide) (fun hc => ?_) (fun hc => ?_)
        · have h := h.1 hc
          refine aw_aload_n (j := 0) dX11_mean_59 rfl rfl ?_
          refine aw_aload_n (j := 0) dX11_mean_60 rfl rfl ?_
          refine aw_getfield (c := 169) (v := .ref (ad 166)) dX11_mean_61 f_X11_105 ly_0 rfl rfl ?_
          refine aw_iload_n (j := 1) dX11_mean_64 rfl rfl ?_
          refine aw_iload_n (j := 2) dX11_mean_65 rfl rfl ?_
          refine aw_callV (rest := [.ref (ad 0)]) [.int x1, .int x2] dX11_mean_66 ly_166 rfl k_X11_323 rfl h (Nat.le_of_ble_eq_true rfl) (fun v m9 h => ?_)
          obtain ⟨v10, rfl, h⟩ := h
          refine aw_eq (L' := [(0, .ref (ad 0)), (1, .int x1), (2, .int x2)]) (st' := [.int v10, .ref (ad 0)]) (m' := m9) ?_ rfl rfl rfl
          refine aw_i2l dX11_mean_69 ?_
          refine aw_aload_n (j := 0) dX11_mean_70 rfl rfl ?_
          refine aw_getfield (c := 169) (v := .ref (ad 166)) dX11_mean_71 f_X11_105 ly_0 rfl rfl ?_
          refine aw_getfield (c := 0) (v := .int (m9.1 166 4)) dX11_mean_74 f_X11_311 ly_166 rfl rfl ?_
          refine aw_i2l dX11_mean_77 ?_
          refine aw_callV (rest := []) [.long v10.toInt64, .long ((m9.1 166 4).toInt64)] dX11_mean_78 ly_0 rfl k_X11_326 rfl h (Nat.le_of_ble_eq_true rfl) (fun v m11 h => ?_)
          obtain ⟨rfl, h⟩ := h
          refine aw_eq (L' := [(0, .ref (ad 0)), (1, .int x1), (2, .int x2)]) (st' := []) (m' := m11) ?_ rfl rfl rfl
          refine aw_iconst (v := 0) dX11_mean_81 (by decide) ?_
          exact aw_ret (v := some (.int (0 : Int32))) rfl (Or.inr (Or.inl ⟨_, .int, rfl, rfl, rfl, dX11_mean_82⟩)) h
        · have h := h.2 hc
          refine aw_bipush (v := -3) dX11_mean_56 (by decide) ?_
          exact aw_ret (v := some (.int (-3 : Int32))) rfl (Or.inr (Or.inl ⟨_, .int, rfl, rfl, rfl, dX11_mean_58⟩)) h
      · have h := h.2 hc
        refine aw_iconst (v := -1) dX11_mean_32 (by decide) ?_
        exact aw_ret (v := some (.int (-1 : Int32))) rfl (Or.inr (Or.inl ⟨_, .int, rfl, rfl, rfl, dX11_mean_33⟩)) h
set_option maxRecDepth 100000 in
set_option maxHeartbeats 4000000 in
theorem v_X11_soon {ad : Nat → Nat} {d : Nat} {Q : Option Value → Wm → Prop} {m : Wm} {x1 x2 x3 : Int32} (h : (Ct ad μX1_has d [.ref (ad 3), .int x1] m (fun r m1 => ∃ v2 : Int32, r = some (.int v2) ∧ ((v2 = 0 → Q (some (.int (-1 : Int32))) m1) ∧ (¬ v2 = 0 → (Ct ad μX1_knows d [.ref (ad 3), .int x2] m1 (fun r m3 => ∃ v4 : Int32, r = some (.int v4) ∧ ((v4 = 0 → Q (some (.int (-1 : Int32))) m3) ∧ (¬ v4 = 0 → ((x3 < 0 → Q (some (.int (-1 : Int32))) m3) ∧ (¬ x3 < 0 → (((7 : Int32) < x3 → Q (some (.int (-1 : Int32))) m3) ∧ (¬ (7 : Int32) < x3 → (∃ r5, m3.2.2 0 9 = some r5 ∧ Pl r5 ∧ ((¬ (m3.1 r5 5) = 0 → (∃ r6, m3.2.2 0 9 = some r6 ∧ Pl r6 ∧ (Ct ad μX7_findLoop d [.ref (ad 166), .ref (ad 3), .ref (ad r6), .ref (ad 21)] m3 (fun r m7 => ∃ v8 : Int32, r = some (.int v8) ∧ (Ct ad μX9_firstWith d [.ref (ad 151), .int x1, .int x2, .int x3] m7 (fun r m9 => ∃ v10 : Int32, r = some (.int v10) ∧ ((v10 < 0 → ((v8 = 0 → Q (some (.int (-3 : Int32))) m9) ∧ (¬ v8 = 0 → Q (some (.int (-2 : Int32))) m9))) ∧ (¬ v10 < 0 → Q (some (.int v10)) m9)))))))) ∧ ((m3.1 r5 5) = 0 → Q (some (.int (-1 : Int32))) m3)))))))))))))))) : Ct ad μX11_soon (d + 1) [.ref (ad 0), .int x1, .int x2, .int x3] m Q := by
  refine Ct.of (by decide +kernel) rfl (Nat.le_of_ble_eq_true rfl) ?_
  refine aw_eq (L' := [(0, .ref (ad 0)), (1, .int x1), (2, .int x2), (3, .int x3)]) ?_ rfl rfl rfl
  refine aw_aload_n (j := 0) dX11_soon_0 rfl rfl ?_
  refine aw_getfield (c := 6) (v := .ref (ad 3)) dX11_soon_1 f_X11_19 ly_0 rfl rfl ?_
  refine aw_iload_n (j := 1) dX11_soon_4 rfl rfl ?_
  refine aw_callV (rest := []) [.int x1] dX11_soon_5 ly_3 rfl k_X11_164 rfl h (Nat.le_of_ble_eq_true rfl) (fun v m1 h => ?_)
  obtain ⟨v2, rfl, h⟩ := h
  refine aw_eq (L' := [(0, .ref (ad 0)), (1, .int x1), (2, .int x2), (3, .int x3)]) (st' := [.int v2]) (m' := m1) ?_ rfl rfl rfl
  refine aw_if_eq (tgt := 42) dX11_soon_8 (by decide) (fun hc => ?_) (fun hc => ?_)
  · have h := h.1 hc
    refine aw_iconst (v := -1) dX11_soon_42 (by decide) ?_
    exact aw_ret (v := some (.int (-1 : Int32))) rfl (Or.inr (Or.inl ⟨_, .int, rfl, rfl, rfl, dX11_soon_43⟩)) h
  · have h := h.2 hc
    refine aw_aload_n (j := 0) dX11_soon_11 rfl rfl ?_
    refine aw_getfield (c := 6) (v := .ref (ad 3)) dX11_soon_12 f_X11_19 ly_0 rfl rfl ?_
    refine aw_iload_n (j := 2) dX11_soon_15 rfl rfl ?_
    refine aw_callV (rest := []) [.int x2] dX11_soon_16 ly_3 rfl k_X11_167 rfl h (Nat.le_of_ble_eq_true rfl) (fun v m3 h => ?_)
    obtain ⟨v4, rfl, h⟩ := h
    refine aw_eq (L' := [(0, .ref (ad 0)), (1, .int x1), (2, .int x2), (3, .int x3)]) (st' := [.int v4]) (m' := m3) ?_ rfl rfl rfl
    refine aw_if_eq (tgt := 42) dX11_soon_19 (by decide) (fun hc => ?_) (fun hc => ?_)
    · have h := h.1 hc
      refine aw_iconst (v := -1) dX11_soon_42 (by decide) ?_
      exact aw_ret (v := some (.int (-1 : Int32))) rfl (Or.inr (Or.inl ⟨_, .int, rfl, rfl, rfl, dX11_soon_43⟩)) h
    · have h := h.2 hc
      refine aw_iload_n (j := 3) dX11_soon_22 rfl rfl ?_
      refine aw_if_lt (tgt := 42) dX11_soon_23 (by decide) (fun hc => ?_) (fun hc => ?_)
      · have h := h.1 hc
        refine aw_iconst (v := -1) dX11_soon_42 (by decide) ?_
        exact aw_ret (v := some (.int (-1 : Int32))) rfl (Or.inr (Or.inl ⟨_, .int, rfl, rfl, rfl, dX11_soon_43⟩)) h
      · have h := h.2 hc
        refine aw_iload_n (j := 3) dX11_soon_26 rfl rfl ?_
        refine aw_bipush (v := 7) dX11_soon_27 (by decide) ?_
        refine aw_icmp_gt (tgt := 42) dX11_soon_29 (by decide) (fun hc => ?_) (fun hc => ?_)
        · have h := h.1 hc
          refine aw_iconst (v := -1) dX11_soon_42 (by decide) ?_
          exact aw_ret (v := some (.int (-1 : Int32))) rfl (Or.inr (Or.inl ⟨_, .int, rfl, rfl, rfl, dX11_soon_43⟩)) h
        · have h := h.2 hc
          refine aw_aload_n (j := 0) dX11_soon_32 rfl rfl ?_
          obtain ⟨r5, hrr5, hr5, h⟩ := h
          refine aw_getfield (c := 2) (v := .ref (ad r5)) dX11_soon_33 f_X11_56 ly_0 rfl (by show va_rf (Option.map ad (m3.2.2 0 9)) = _; rw [hrr5]; rfl) ?_
          refine aw_getfield (c := 0) (v := .int (m3.1 r5 5)) dX11_soon_36 f_X11_161 hr5.1 rfl rfl ?_
          refine aw_if_ne (tgt := 44) dX11_soon_39 (by decide) (fun hc => ?_) (fun hc => ?_)
          · have h := h.1 hc
            refine aw_aload_n (j := 0) dX11_soon_44 rfl rfl ?_
            refine aw_getfield (c := 169) (v := .ref (ad 166)) dX11_soon_45 f_X11_105 ly_0 rfl rfl ?_
            refine aw_aload_n (j := 0) dX11_soon_48 rfl rfl ?_
            refine aw_getfield (c := 6) (v := .ref (ad 3)) dX11_soon_49 f_X11_19 ly_0 rfl rfl ?_
            refine aw_aload_n (j := 0) dX11_soon_52 rfl rfl ?_
            obtain ⟨r6, hrr6, hr6, h⟩ := h
            refine aw_getfield (c := 2) (v := .ref (ad r6)) dX11_soon_53 f_X11_56 ly_0 rfl (by show va_rf (Option.map ad (m3.2.2 0 9)) = _; rw [hrr6]; rfl) ?_
            refine aw_aload_n (j := 0) dX11_soon_56 rfl rfl ?_
            refine aw_getfield (c := 24) (v := .ref (ad 21)) dX11_soon_57 f_X11_33 ly_0 rfl rfl ?_
            refine aw_callV (rest := []) [.ref (ad 3), .ref (ad r6), .ref (ad 21)] dX11_soon_60 ly_166 rfl k_X11_307 rfl h (Nat.le_of_ble_eq_true rfl) (fun v m7 h => ?_)
            obtain ⟨v8, rfl, h⟩ := h
            refine aw_eq (L' := [(0, .ref (ad 0)), (1, .int x1), (2, .int x2), (3, .int x3)]) (st' := [.int v8]) (m' := m7) ?_ rfl rfl rfl
            refine aw_istore (L' := [(4, .int v8), (0, .ref (ad 0)), (1, .int x1), (2, .int x2), (3, .int x3)]) dX11_soon_63 (by decide) rfl ?_
            refine aw_aload_n (j := 1) dX11_soon_65 rfl rfl ?_
            refine aw_getfield (c := 169) (v := .ref (ad 166)) dX11_soon_66 f_X11_105 ly_0 rfl rfl ?_
            refine aw_getfield (c := 154) (v := .ref (ad 151)) dX11_soon_69 f_X11_314 ly_166 rfl rfl ?_
            refine aw_iload_n (j := 2) dX11_soon_72 rfl rfl ?_
            refine aw_iload_n (j := 3) dX11_soon_73 rfl rfl ?_
            refine aw_iload_n (j := 4) dX11_soon_74 rfl rfl ?_
            refine aw_callV (rest := []) [.int x1, .int x2, .int x3] dX11_soon_75 ly_151 rfl k_X11_329 rfl h (Nat.le_of_ble_eq_true rfl) (fun v m9 h => ?_)
            obtain ⟨v10, rfl, h⟩ := h
            refine aw_eq (L' := [(4, .int v8), (0, .ref (ad 0)), (1, .int x1), (2, .int x2), (3, .int x3)]) (st' := [.int v10]) (m' := m9) ?_ rfl rfl rfl
            refine aw_istore (L' := [(5, .int v10), (4, .int v8), (0, .ref (ad 0)), (1, .int x1), (2, .int x2), (3, .int x3)]) dX11_soon_78 (by decide) rfl ?_
            refine aw_iload (j := 0) dX11_soon_80 rfl ?_
            refine aw_if_lt (tgt := 90) dX11_soon_82 (by decide) (fun hc => ?_) (fun hc => ?_)
            · have h := h.1 hc
              refine aw_iload (j := 1) dX11_soon_90 rfl ?_
              refine aw_if_eq (tgt := 100) dX11_soon_92 (by decide) (fun hc => ?_) (fun hc => ?_)
              · have h := h.1 hc
                refine aw_bipush (v := -3) dX11_soon_100 (by decide) ?_
                exact aw_ret (v := some (.int (-3 : Int32))) rfl (Or.inr (Or.inl ⟨_, .int, rfl, rfl, rfl, dX11_soon_102⟩)) h
              · have h := h.2 hc
                refine aw_bipush (v := -2) dX11_soon_95 (by decide) ?_
                refine aw_goto (tgt := 102) dX11_soon_97 (by decide) ?_
                exact aw_ret (v := some (.int (-2 : Int32))) rfl (Or.inr (Or.inl ⟨_, .int, rfl, rfl, rfl, dX11_soon_102⟩)) h
            · have h := h.2 hc
              refine aw_iload (j := 0) dX11_soon_85 rfl ?_
              refine aw_goto (tgt := 102) dX11_soon_87 (by decide) ?_
              exact aw_ret (v := some (.int v10)) rfl (Or.inr (Or.inl ⟨_, .int, rfl, rfl, rfl, dX11_soon_102⟩)) h
          · have h := h.2 hc
            refine aw_iconst (v := -1) dX11_soon_42 (by decide) ?_
            exact aw_ret (v := some (.int (-1 : Int32))) rfl (Or.inr (Or.inl ⟨_, .int, rfl, rfl, rfl, dX11_soon_43⟩)) h
set_option maxRecDepth 100000 in
set_option maxHeartbeats 4000000 in
theorem v_X11_wins {ad : Nat → Nat} {d : Nat} {Q : Option Value → Wm → Prop} {m : Wm} {x1 x2 x3 : Int32} (h : (Ct ad μX1_has d [.ref (ad 3), .int x1] m (fun r m1 => ∃ v2 : Int32, r = some (.int v2) ∧ ((v2 = 0 → Q (some (.int (-1 : Int32))) m1) ∧ (¬ v2 = 0 → ((x2 < (1 : Int32) → Q (some (.int (-1 : Int32))) m1) ∧ (¬ x2 < (1 : Int32) → (((6 : Int32) < x2 → Q (some (.int (-1 : Int32))) m1) ∧ (¬ (6 : Int32) < x2 → ((x3 < 0 → Q (some (.int (-1 : Int32))) m1) ∧ (¬ x3 < 0 → ((x2 < x3 → Q (some (.int (-1 : Int32))) m1) ∧ (¬ x2 < x3 → (∃ r3, m1.2.2 0 9 = some r3 ∧ Pl r3 ∧ ((¬ (m1.1 r3 5) = 0 → AW ad E0 μX11_wins (d + 1) Q 49 [(0, .ref (ad 0)), (1, .int x1), (2, .int x2), (3, .int x3), (4, .long (0 : Int64)), (6, .int (0 : Int32))] [] m1) ∧ ((m1.1 r3 5) = 0 → Q (some (.int (-1 : Int32))) m1)))))))))))))))) : Ct ad μX11_wins (d + 1) [.ref (ad 0), .int x1, .int x2, .int x3] m Q := by
  refine Ct.of (by decide +kernel) rfl (Nat.le_of_ble_eq_true rfl) ?_
  refine aw_eq (L' := [(0, .ref (ad 0)), (1, .int x1), (2, .int x2), (3, .int x3)]) ?_ rfl rfl rfl
  refine aw_aload_n (j := 0) dX11_wins_0 rfl rfl ?_
  refine aw_getfield (c := 6) (v := .ref (ad 3)) dX11_wins_1 f_X11_19 ly_0 rfl rfl ?_
  refine aw_iload_n (j := 1) dX11_wins_4 rfl rfl ?_
  refine aw_callV (rest := []) [.int x1] dX11_wins_5 ly_3 rfl k_X11_164 rfl h (Nat.le_of_ble_eq_true rfl) (fun v m1 h => ?_)
  obtain ⟨v2, rfl, h⟩ := h
  refine aw_eq (L' := [(0, .ref (ad 0)), (1, .int x1), (2, .int x2), (3, .int x3)]) (st' := [.int v2]) (m' := m1) ?_ rfl rfl rfl
  refine aw_if_eq (tgt := 41) dX11_wins_8 (by decide) (fun hc => ?_) (fun hc => ?_)
  · have h := h.1 hc
    refine aw_iconst (v := -1) dX11_wins_41 (by decide) ?_
    exact aw_ret (v := some (.int (-1 : Int32))) rfl (Or.inr (Or.inl ⟨_, .int, rfl, rfl, rfl, dX11_wins_42⟩)) h
  · have h := h.2 hc
    refine aw_iload_n (j := 2) dX11_wins_11 rfl rfl ?_
    refine aw_iconst (v := 1) dX11_wins_12 (by decide) ?_
    refine aw_icmp_lt (tgt := 41) dX11_wins_13 (by decide) (fun hc => ?_) (fun hc => ?_)
    · have h := h.1 hc
      refine aw_iconst (v := -1) dX11_wins_41 (by decide) ?_
      exact aw_ret (v := some (.int (-1 : Int32))) rfl (Or.inr (Or.inl ⟨_, .int, rfl, rfl, rfl, dX11_wins_42⟩)) h
    · have h := h.2 hc
      refine aw_iload_n (j := 2) dX11_wins_16 rfl rfl ?_
      refine aw_bipush (v := 6) dX11_wins_17 (by decide) ?_
      refine aw_icmp_gt (tgt := 41) dX11_wins_19 (by decide) (fun hc => ?_) (fun hc => ?_)
      · have h := h.1 hc
        refine aw_iconst (v := -1) dX11_wins_41 (by decide) ?_
        exact aw_ret (v := some (.int (-1 : Int32))) rfl (Or.inr (Or.inl ⟨_, .int, rfl, rfl, rfl, dX11_wins_42⟩)) h
      · have h := h.2 hc
        refine aw_iload_n (j := 3) dX11_wins_22 rfl rfl ?_
        refine aw_if_lt (tgt := 41) dX11_wins_23 (by decide) (fun hc => ?_) (fun hc => ?_)
        · have h := h.1 hc
          refine aw_iconst (v := -1) dX11_wins_41 (by decide) ?_
          exact aw_ret (v := some (.int (-1 : Int32))) rfl (Or.inr (Or.inl ⟨_, .int, rfl, rfl, rfl, dX11_wins_42⟩)) h
        · have h := h.2 hc
          refine aw_iload_n (j := 3) dX11_wins_26 rfl rfl ?_
          refine aw_iload_n (j := 2) dX11_wins_27 rfl rfl ?_
          refine aw_icmp_gt (tgt := 41) dX11_wins_28 (by decide) (fun hc => ?_) (fun hc => ?_)
          · have h := h.1 hc
            refine aw_iconst (v := -1) dX11_wins_41 (by decide) ?_
            exact aw_ret (v := some (.int (-1 : Int32))) rfl (Or.inr (Or.inl ⟨_, .int, rfl, rfl, rfl, dX11_wins_42⟩)) h
          · have h := h.2 hc
            refine aw_aload_n (j := 0) dX11_wins_31 rfl rfl ?_
            obtain ⟨r3, hrr3, hr3, h⟩ := h
            refine aw_getfield (c := 2) (v := .ref (ad r3)) dX11_wins_32 f_X11_56 ly_0 rfl (by show va_rf (Option.map ad (m1.2.2 0 9)) = _; rw [hrr3]; rfl) ?_
            refine aw_getfield (c := 0) (v := .int (m1.1 r3 5)) dX11_wins_35 f_X11_161 hr3.1 rfl rfl ?_
            refine aw_if_ne (tgt := 43) dX11_wins_38 (by decide) (fun hc => ?_) (fun hc => ?_)
            · have h := h.1 hc
              refine aw_lconst (v := 0) dX11_wins_43 (by decide) ?_
              refine aw_lstore (L' := [(4, .long (0 : Int64)), (0, .ref (ad 0)), (1, .int x1), (2, .int x2), (3, .int x3)]) dX11_wins_44 (by decide) rfl ?_
              refine aw_iconst (v := 0) dX11_wins_46 (by decide) ?_
              refine aw_istore (L' := [(6, .int (0 : Int32)), (4, .long (0 : Int64)), (0, .ref (ad 0)), (1, .int x1), (2, .int x2), (3, .int x3)]) dX11_wins_47 (by decide) rfl ?_
              exact aw_sub [2, 3, 4, 5, 1, 0] rfl h
            · have h := h.2 hc
              refine aw_iconst (v := -1) dX11_wins_41 (by decide) ?_
              exact aw_ret (v := some (.int (-1 : Int32))) rfl (Or.inr (Or.inl ⟨_, .int, rfl, rfl, rfl, dX11_wins_42⟩)) h
set_option maxRecDepth 100000 in
set_option maxHeartbeats 4000000 in
theorem g_X11_wins_49 {ad : Nat → Nat} {d : Nat} {Q : Option Value → Wm → Prop} {m : Wm} {x1 x2 x3 x6 : Int32} {y4 : Int64} (h : ((((1 : Int32) <<< (x2 &&& 31)) ≤ x6 → (Ct ad μX11_allChances d [.int x2] m (fun r m1 => ∃ w2 : Int64, r = some (.long w2) ∧ (Ct ad μX11_tellFraction d [.ref (ad 0), .long y4, .long w2] m1 (fun r m3 => r = none ∧ Q (some (.int (0 : Int32))) m3))))) ∧ (¬ ((1 : Int32) <<< (x2 &&& 31)) ≤ x6 → (∃ r4, m.2.2 0 9 = some r4 ∧ Pl r4 ∧ (Ct ad μX7_follow d [.ref (ad 166), .ref (ad 3), .ref (ad r4), .ref (ad 21), .int x2, .int x6] m (fun r m5 => ∃ w6 : Int64, r = some (.long w6) ∧ (((lg_cmp w6 (0 : Int64)) ≤ 0 → AW ad E0 μX11_wins (d + 1) Q 49 [(0, .ref (ad 0)), (1, .int x1), (2, .int x2), (3, .int x3), (4, .long y4), (6, .int (x6 + (1 : Int32)))] [] m5) ∧ (¬ (lg_cmp w6 (0 : Int64)) ≤ 0 → (vp_in x1 8 ∧ ((¬ (m5.1 172 x1.toNatClampNeg) = x3 → AW ad E0 μX11_wins (d + 1) Q 49 [(0, .ref (ad 0)), (1, .int x1), (2, .int x2), (3, .int x3), (4, .long y4), (6, .int (x6 + (1 : Int32)))] [] m5) ∧ ((m5.1 172 x1.toNatClampNeg) = x3 → AW ad E0 μX11_wins (d + 1) Q 49 [(0, .ref (ad 0)), (1, .int x1), (2, .int x2), (3, .int x3), (4, .long (y4 + (m5.2.1 166 5))), (6, .int (x6 + (1 : Int32)))] [] m5))))))))))) : AW ad E0 μX11_wins (d + 1) Q 49 [(0, .ref (ad 0)), (1, .int x1), (2, .int x2), (3, .int x3), (4, .long y4), (6, .int x6)] [] m := by
  refine aw_iload (j := 5) dX11_wins_49 rfl ?_
  refine aw_iconst (v := 1) dX11_wins_51 (by decide) ?_
  refine aw_iload_n (j := 2) dX11_wins_52 rfl rfl ?_
  refine aw_ishl dX11_wins_53 ?_
  refine aw_icmp_ge (tgt := 115) dX11_wins_54 (by decide) (fun hc => ?_) (fun hc => ?_)
  · have h := h.1 hc
    refine aw_aload_n (j := 0) dX11_wins_115 rfl rfl ?_
    refine aw_lload (j := 4) dX11_wins_116 rfl ?_
    refine aw_iload_n (j := 2) dX11_wins_118 rfl rfl ?_
    refine aw_callS (rest := [.long y4, .ref (ad 0)]) [.int x2] dX11_wins_119 k_X11_343 rfl h (Nat.le_of_ble_eq_true rfl) (fun v m1 h => ?_)
    obtain ⟨w2, rfl, h⟩ := h
    refine aw_eq (L' := [(0, .ref (ad 0)), (1, .int x1), (2, .int x2), (3, .int x3), (4, .long y4), (6, .int x6)]) (st' := [.long w2, .long y4, .ref (ad 0)]) (m' := m1) ?_ rfl rfl rfl
    refine aw_callV (rest := []) [.long y4, .long w2] dX11_wins_122 ly_0 rfl k_X11_326 rfl h (Nat.le_of_ble_eq_true rfl) (fun v m3 h => ?_)
    obtain ⟨rfl, h⟩ := h
    refine aw_eq (L' := [(0, .ref (ad 0)), (1, .int x1), (2, .int x2), (3, .int x3), (4, .long y4), (6, .int x6)]) (st' := []) (m' := m3) ?_ rfl rfl rfl
    refine aw_iconst (v := 0) dX11_wins_125 (by decide) ?_
    exact aw_ret (v := some (.int (0 : Int32))) rfl (Or.inr (Or.inl ⟨_, .int, rfl, rfl, rfl, dX11_wins_126⟩)) h
  · have h := h.2 hc
    refine aw_aload_n (j := 0) dX11_wins_57 rfl rfl ?_
    refine aw_getfield (c := 169) (v := .ref (ad 166)) dX11_wins_58 f_X11_105 ly_0 rfl rfl ?_
    refine aw_aload_n (j := 0) dX11_wins_61 rfl rfl ?_
    refine aw_getfield (c := 6) (v := .ref (ad 3)) dX11_wins_62 f_X11_19 ly_0 rfl rfl ?_
    refine aw_aload_n (j := 0) dX11_wins_65 rfl rfl ?_
    obtain ⟨r4, hrr4, hr4, h⟩ := h
    refine aw_getfield (c := 2) (v := .ref (ad r4)) dX11_wins_66 f_X11_56 ly_0 rfl (by show va_rf (Option.map ad (m.2.2 0 9)) = _; rw [hrr4]; rfl) ?_
    refine aw_aload_n (j := 0) dX11_wins_69 rfl rfl ?_
    refine aw_getfield (c := 24) (v := .ref (ad 21)) dX11_wins_70 f_X11_33 ly_0 rfl rfl ?_
    refine aw_iload_n (j := 2) dX11_wins_73 rfl rfl ?_
    refine aw_iload (j := 5) dX11_wins_74 rfl ?_
    refine aw_callV (rest := []) [.ref (ad 3), .ref (ad r4), .ref (ad 21), .int x2, .int x6] dX11_wins_76 ly_166 rfl k_X11_332 rfl h (Nat.le_of_ble_eq_true rfl) (fun v m5 h => ?_)
    obtain ⟨w6, rfl, h⟩ := h
    refine aw_eq (L' := [(0, .ref (ad 0)), (1, .int x1), (2, .int x2), (3, .int x3), (4, .long y4), (6, .int x6)]) (st' := [.long w6]) (m' := m5) ?_ rfl rfl rfl
    refine aw_lconst (v := 0) dX11_wins_79 (by decide) ?_
    refine aw_lcmp dX11_wins_80 ?_
    refine aw_if_le (tgt := 109) dX11_wins_81 (by decide) (fun hc => ?_) (fun hc => ?_)
    · have h := h.1 hc
      refine aw_iinc (j := 5) (v := x6 + (1 : Int32)) (L' := [(6, .int (x6 + (1 : Int32))), (0, .ref (ad 0)), (1, .int x1), (2, .int x2), (3, .int x3), (4, .long y4)]) dX11_wins_109 rfl rfl (by decide) rfl ?_
      refine aw_goto (tgt := 49) dX11_wins_112 (by decide) ?_
      exact aw_sub [1, 2, 3, 4, 5, 0] rfl h
    · have h := h.2 hc
      refine aw_aload_n (j := 0) dX11_wins_84 rfl rfl ?_
      refine aw_getfield (c := 169) (v := .ref (ad 166)) dX11_wins_85 f_X11_105 ly_0 rfl rfl ?_
      refine aw_getfield (c := 175) (v := .ref (ad 172)) dX11_wins_88 f_X11_336 ly_166 rfl rfl ?_
      refine aw_iload_n (j := 1) dX11_wins_91 rfl rfl ?_
      obtain ⟨hi, h⟩ := h
      refine aw_iaload dX11_wins_92 ly_172 hi ?_
      refine aw_iload_n (j := 3) dX11_wins_93 rfl rfl ?_
      refine aw_icmp_ne (tgt := 109) dX11_wins_94 (by decide) (fun hc => ?_) (fun hc => ?_)
      · have h := h.1 hc
        refine aw_iinc (j := 5) (v := x6 + (1 : Int32)) (L' := [(6, .int (x6 + (1 : Int32))), (0, .ref (ad 0)), (1, .int x1), (2, .int x2), (3, .int x3), (4, .long y4)]) dX11_wins_109 rfl rfl (by decide) rfl ?_
        refine aw_goto (tgt := 49) dX11_wins_112 (by decide) ?_
        exact aw_sub [1, 2, 3, 4, 5, 0] rfl h
      · have h := h.2 hc
        refine aw_lload (j := 4) dX11_wins_97 rfl ?_
        refine aw_aload_n (j := 0) dX11_wins_99 rfl rfl ?_
        refine aw_getfield (c := 169) (v := .ref (ad 166)) dX11_wins_100 f_X11_105 ly_0 rfl rfl ?_
        refine aw_getfield (c := 1) (v := .long (m5.2.1 166 5)) dX11_wins_103 f_X11_339 ly_166 rfl rfl ?_
        refine aw_ladd dX11_wins_106 ?_
        refine aw_lstore (L' := [(4, .long (y4 + (m5.2.1 166 5))), (0, .ref (ad 0)), (1, .int x1), (2, .int x2), (3, .int x3), (6, .int x6)]) dX11_wins_107 (by decide) rfl ?_
        refine aw_iinc (j := 5) (v := x6 + (1 : Int32)) (L' := [(6, .int (x6 + (1 : Int32))), (4, .long (y4 + (m5.2.1 166 5))), (0, .ref (ad 0)), (1, .int x1), (2, .int x2), (3, .int x3)]) dX11_wins_109 rfl rfl (by decide) rfl ?_
        refine aw_goto (tgt := 49) dX11_wins_112 (by decide) ?_
        exact aw_sub [2, 3, 4, 5, 1, 0] rfl h
set_option maxRecDepth 100000 in
set_option maxHeartbeats 4000000 in
theorem v_X11_hopes {ad : Nat → Nat} {d : Nat} {Q : Option Value → Wm → Prop} {m : Wm} {x1 : Int32} (h : ((x1 < (1 : Int32) → Q (some (.int (-1 : Int32))) m) ∧ (¬ x1 < (1 : Int32) → (((6 : Int32) < x1 → Q (some (.int (-1 : Int32))) m) ∧ (¬ (6 : Int32) < x1 → (∃ r1, m.2.2 0 9 = some r1 ∧ Pl r1 ∧ ((¬ (m.1 r1 5) = 0 → AW ad E0 μX11_hopes (d + 1) Q 36 [(0, .ref (ad 0)), (1, .int x1), (2, .long (0 : Int64)), (4, .int (224 : Int32)), (5, .int (0 : Int32)), (6, .int (0 : Int32))] [] m) ∧ ((m.1 r1 5) = 0 → Q (some (.int (-1 : Int32))) m)))))))) : Ct ad μX11_hopes (d + 1) [.ref (ad 0), .int x1] m Q := by
  refine Ct.of (by decide +kernel) rfl (Nat.le_of_ble_eq_true rfl) ?_
  refine aw_eq (L' := [(0, .ref (ad 0)), (1, .int x1)]) ?_ rfl rfl rfl
  refine aw_iload_n (j := 1) dX11_hopes_0 rfl rfl ?_
  refine aw_iconst (v := 1) dX11_hopes_1 (by decide) ?_
  refine aw_icmp_lt (tgt := 21) dX11_hopes_2 (by decide) (fun hc => ?_) (fun hc => ?_)
  · have h := h.1 hc
    refine aw_iconst (v := -1) dX11_hopes_21 (by decide) ?_
    exact aw_ret (v := some (.int (-1 : Int32))) rfl (Or.inr (Or.inl ⟨_, .int, rfl, rfl, rfl, dX11_hopes_22⟩)) h
  · have h := h.2 hc
    refine aw_iload_n (j := 1) dX11_hopes_5 rfl rfl ?_
    refine aw_bipush (v := 6) dX11_hopes_6 (by decide) ?_
    refine aw_icmp_gt (tgt := 21) dX11_hopes_8 (by decide) (fun hc => ?_) (fun hc => ?_)
    · have h := h.1 hc
      refine aw_iconst (v := -1) dX11_hopes_21 (by decide) ?_
      exact aw_ret (v := some (.int (-1 : Int32))) rfl (Or.inr (Or.inl ⟨_, .int, rfl, rfl, rfl, dX11_hopes_22⟩)) h
    · have h := h.2 hc
      refine aw_aload_n (j := 0) dX11_hopes_11 rfl rfl ?_
      obtain ⟨r1, hrr1, hr1, h⟩ := h
      refine aw_getfield (c := 2) (v := .ref (ad r1)) dX11_hopes_12 f_X11_56 ly_0 rfl (by show va_rf (Option.map ad (m.2.2 0 9)) = _; rw [hrr1]; rfl) ?_
      refine aw_getfield (c := 0) (v := .int (m.1 r1 5)) dX11_hopes_15 f_X11_161 hr1.1 rfl rfl ?_
      refine aw_if_ne (tgt := 23) dX11_hopes_18 (by decide) (fun hc => ?_) (fun hc => ?_)
      · have h := h.1 hc
        refine aw_lconst (v := 0) dX11_hopes_23 (by decide) ?_
        refine aw_lstore_n (L' := [(2, .long (0 : Int64)), (0, .ref (ad 0)), (1, .int x1)]) dX11_hopes_24 rfl (by decide) rfl ?_
        refine aw_sipush (v := 224) dX11_hopes_25 (by decide) ?_
        refine aw_istore (L' := [(4, .int (224 : Int32)), (2, .long (0 : Int64)), (0, .ref (ad 0)), (1, .int x1)]) dX11_hopes_28 (by decide) rfl ?_
        refine aw_iconst (v := 0) dX11_hopes_30 (by decide) ?_
        refine aw_istore (L' := [(5, .int (0 : Int32)), (4, .int (224 : Int32)), (2, .long (0 : Int64)), (0, .ref (ad 0)), (1, .int x1)]) dX11_hopes_31 (by decide) rfl ?_
        refine aw_iconst (v := 0) dX11_hopes_33 (by decide) ?_
        refine aw_istore (L' := [(6, .int (0 : Int32)), (5, .int (0 : Int32)), (4, .int (224 : Int32)), (2, .long (0 : Int64)), (0, .ref (ad 0)), (1, .int x1)]) dX11_hopes_34 (by decide) rfl ?_
        exact aw_sub [4, 5, 3, 2, 1, 0] rfl h
      · have h := h.2 hc
        refine aw_iconst (v := -1) dX11_hopes_21 (by decide) ?_
        exact aw_ret (v := some (.int (-1 : Int32))) rfl (Or.inr (Or.inl ⟨_, .int, rfl, rfl, rfl, dX11_hopes_22⟩)) h
set_option maxRecDepth 100000 in
set_option maxHeartbeats 4000000 in
theorem g_X11_hopes_36 {ad : Nat → Nat} {d : Nat} {Q : Option Value → Wm → Prop} {m : Wm} {x1 x4 x5 x6 : Int32} {y2 : Int64} (h : ((((1 : Int32) <<< (x1 &&& 31)) ≤ x6 → (Ct ad μX11_allChances d [.int x1] m (fun r m1 => ∃ w2 : Int64, r = some (.long w2) ∧ (Ct ad μX11_tellFraction d [.ref (ad 0), .long y2, .long w2] m1 (fun r m3 => r = none ∧ Q (some (.int (0 : Int32))) (uI (uL (uL m3 150 (2 : Int32).toNatClampNeg x4.toInt64) 150 (3 : Int32).toNatClampNeg x5.toInt64) 0 18 (4 : Int32))))))) ∧ (¬ ((1 : Int32) <<< (x1 &&& 31)) ≤ x6 → (∃ r4, m.2.2 0 9 = some r4 ∧ Pl r4 ∧ (Ct ad μX7_follow d [.ref (ad 166), .ref (ad 3), .ref (ad r4), .ref (ad 21), .int x1, .int x6] m (fun r m5 => ∃ w6 : Int64, r = some (.long w6) ∧ (((lg_cmp w6 (0 : Int64)) ≤ 0 → AW ad E0 μX11_hopes (d + 1) Q 36 [(0, .ref (ad 0)), (1, .int x1), (2, .long y2), (4, .int x4), (5, .int x5), (6, .int (x6 + (1 : Int32)))] [] m5) ∧ (¬ (lg_cmp w6 (0 : Int64)) ≤ 0 → (Ct ad μX1_total d [.ref (ad 3), .ref (ad 167)] m5 (fun r m7 => ∃ v8 : Int32, r = some (.int v8) ∧ AW ad E0 μX11_hopes (d + 1) Q 36 [(0, .ref (ad 0)), (1, .int x1), (2, .long (y2 + ((m7.2.1 166 5) * v8.toInt64))), (4, .int (if v8 < x4 then v8 else x4)), (5, .int (if x5 < v8 then v8 else x5)), (6, .int (x6 + (1 : Int32)))] [] m7)))))))))) : AW ad E0 μX11_hopes (d + 1) Q 36 [(0, .ref (ad 0)), (1, .int x1), (2, .long y2), (4, .int x4), (5, .int x5), (6, .int x6)] [] m := by
  refine aw_iload (j := 5) dX11_hopes_36 rfl ?_
  refine aw_iconst (v := 1) dX11_hopes_38 (by decide) ?_
  refine aw_iload_n (j := 1) dX11_hopes_39 rfl rfl ?_
  refine aw_ishl dX11_hopes_40 ?_
  refine aw_icmp_ge (tgt := 125) dX11_hopes_41 (by decide) (fun hc => ?_) (fun hc => ?_)
  · have h := h.1 hc
    refine aw_aload_n (j := 0) dX11_hopes_125 rfl rfl ?_
    refine aw_lload_n (j := 2) dX11_hopes_126 rfl rfl ?_
    refine aw_iload_n (j := 1) dX11_hopes_127 rfl rfl ?_
    refine aw_callS (rest := [.long y2, .ref (ad 0)]) [.int x1] dX11_hopes_128 k_X11_343 rfl h (Nat.le_of_ble_eq_true rfl) (fun v m1 h => ?_)
    obtain ⟨w2, rfl, h⟩ := h
    refine aw_eq (L' := [(0, .ref (ad 0)), (1, .int x1), (2, .long y2), (4, .int x4), (5, .int x5), (6, .int x6)]) (st' := [.long w2, .long y2, .ref (ad 0)]) (m' := m1) ?_ rfl rfl rfl
    refine aw_callV (rest := []) [.long y2, .long w2] dX11_hopes_131 ly_0 rfl k_X11_326 rfl h (Nat.le_of_ble_eq_true rfl) (fun v m3 h => ?_)
    obtain ⟨rfl, h⟩ := h
    refine aw_eq (L' := [(0, .ref (ad 0)), (1, .int x1), (2, .long y2), (4, .int x4), (5, .int x5), (6, .int x6)]) (st' := []) (m' := m3) ?_ rfl rfl rfl
    refine aw_aload_n (j := 0) dX11_hopes_134 rfl rfl ?_
    refine aw_getfield (c := 153) (v := .ref (ad 150)) dX11_hopes_135 f_X11_83 ly_0 rfl rfl ?_
    refine aw_iconst (v := 2) dX11_hopes_138 (by decide) ?_
    refine aw_iload (j := 3) dX11_hopes_139 rfl ?_
    refine aw_i2l dX11_hopes_141 ?_
    refine aw_lastore dX11_hopes_142 ly_150 (by unfold vp_in; decide) ?_
    refine aw_aload_n (j := 0) dX11_hopes_143 rfl rfl ?_
    refine aw_getfield (c := 153) (v := .ref (ad 150)) dX11_hopes_144 f_X11_83 ly_0 rfl rfl ?_
    refine aw_iconst (v := 3) dX11_hopes_147 (by decide) ?_
    refine aw_iload (j := 4) dX11_hopes_148 rfl ?_
    refine aw_i2l dX11_hopes_150 ?_
    refine aw_lastore dX11_hopes_151 ly_150 (by unfold vp_in; decide) ?_
    refine aw_aload_n (j := 0) dX11_hopes_152 rfl rfl ?_
    refine aw_iconst (v := 4) dX11_hopes_153 (by decide) ?_
    refine aw_putI dX11_hopes_154 f_X11_87 cl_X11 rfl ly_0 rfl rfl rfl ?_
    refine aw_iconst (v := 0) dX11_hopes_157 (by decide) ?_
    exact aw_ret (v := some (.int (0 : Int32))) rfl (Or.inr (Or.inl ⟨_, .int, rfl, rfl, rfl, dX11_hopes_158⟩)) h
  · have h := h.2 hc
    refine aw_aload_n (j := 0) dX11_hopes_44 rfl rfl ?_
    refine aw_getfield (c := 169) (v := .ref (ad 166)) dX11_hopes_45 f_X11_105 ly_0 rfl rfl ?_
    refine aw_aload_n (j := 0) dX11_hopes_48 rfl rfl ?_
    refine aw_getfield (c := 6) (v := .ref (ad 3)) dX11_hopes_49 f_X11_19 ly_0 rfl rfl ?_
    refine aw_aload_n (j := 0) dX11_hopes_52 rfl rfl ?_
    obtain ⟨r4, hrr4, hr4, h⟩ := h
    refine aw_getfield (c := 2) (v := .ref (ad r4)) dX11_hopes_53 f_X11_56 ly_0 rfl (by show va_rf (Option.map ad (m.2.2 0 9)) = _; rw [hrr4]; rfl) ?_
    refine aw_aload_n (j := 0) dX11_hopes_56 rfl rfl ?_
    refine aw_getfield (c := 24) (v := .ref (ad 21)) dX11_hopes_57 f_X11_33 ly_0 rfl rfl ?_
    refine aw_iload_n (j := 1) dX11_hopes_60 rfl rfl ?_
    refine aw_iload (j := 5) dX11_hopes_61 rfl ?_
    refine aw_callV (rest := []) [.ref (ad 3), .ref (ad r4), .ref (ad 21), .int x1, .int x6] dX11_hopes_63 ly_166 rfl k_X11_332 rfl h (Nat.le_of_ble_eq_true rfl) (fun v m5 h => ?_)
    obtain ⟨w6, rfl, h⟩ := h
    refine aw_eq (L' := [(0, .ref (ad 0)), (1, .int x1), (2, .long y2), (4, .int x4), (5, .int x5), (6, .int x6)]) (st' := [.long w6]) (m' := m5) ?_ rfl rfl rfl
    refine aw_lconst (v := 0) dX11_hopes_66 (by decide) ?_
    refine aw_lcmp dX11_hopes_67 ?_
    refine aw_if_le (tgt := 119) dX11_hopes_68 (by decide) (fun hc => ?_) (fun hc => ?_)
    · have h := h.1 hc
      refine aw_iinc (j := 5) (v := x6 + (1 : Int32)) (L' := [(6, .int (x6 + (1 : Int32))), (0, .ref (ad 0)), (1, .int x1), (2, .long y2), (4, .int x4), (5, .int x5)]) dX11_hopes_119 rfl rfl (by decide) rfl ?_
      refine aw_goto (tgt := 36) dX11_hopes_122 (by decide) ?_
      exact aw_sub [1, 2, 3, 4, 5, 0] rfl h
    · have h := h.2 hc
      refine aw_aload_n (j := 0) dX11_hopes_71 rfl rfl ?_
      refine aw_getfield (c := 6) (v := .ref (ad 3)) dX11_hopes_72 f_X11_19 ly_0 rfl rfl ?_
      refine aw_aload_n (j := 0) dX11_hopes_75 rfl rfl ?_
      refine aw_getfield (c := 169) (v := .ref (ad 166)) dX11_hopes_76 f_X11_105 ly_0 rfl rfl ?_
      refine aw_getfield (c := 170) (v := .ref (ad 167)) dX11_hopes_79 f_X11_347 ly_166 rfl rfl ?_
      refine aw_callV (rest := []) [.ref (ad 167)] dX11_hopes_82 ly_3 rfl k_X11_263 rfl h (Nat.le_of_ble_eq_true rfl) (fun v m7 h => ?_)
      obtain ⟨v8, rfl, h⟩ := h
      refine aw_eq (L' := [(0, .ref (ad 0)), (1, .int x1), (2, .long y2), (4, .int x4), (5, .int x5), (6, .int x6)]) (st' := [.int v8]) (m' := m7) ?_ rfl rfl rfl
      refine aw_istore (L' := [(7, .int v8), (0, .ref (ad 0)), (1, .int x1), (2, .long y2), (4, .int x4), (5, .int x5), (6, .int x6)]) dX11_hopes_85 (by decide) rfl ?_
      refine aw_lload_n (j := 3) dX11_hopes_87 rfl rfl ?_
      refine aw_aload_n (j := 1) dX11_hopes_88 rfl rfl ?_
      refine aw_getfield (c := 169) (v := .ref (ad 166)) dX11_hopes_89 f_X11_105 ly_0 rfl rfl ?_
      refine aw_getfield (c := 1) (v := .long (m7.2.1 166 5)) dX11_hopes_92 f_X11_339 ly_166 rfl rfl ?_
      refine aw_iload (j := 0) dX11_hopes_95 rfl ?_
      refine aw_i2l dX11_hopes_97 ?_
      refine aw_lmul dX11_hopes_98 ?_
      refine aw_ladd dX11_hopes_99 ?_
      refine aw_lstore_n (L' := [(2, .long (y2 + ((m7.2.1 166 5) * v8.toInt64))), (7, .int v8), (0, .ref (ad 0)), (1, .int x1), (4, .int x4), (5, .int x5), (6, .int x6)]) dX11_hopes_100 rfl (by decide) rfl ?_
      refine aw_iload (j := 4) dX11_hopes_101 rfl ?_
      refine aw_iload (j := 1) dX11_hopes_103 rfl ?_
      refine aw_min dX11_hopes_105 k_X11_290 (Nat.le_of_ble_eq_true rfl) ?_
      refine aw_istore (L' := [(4, .int (if v8 < x4 then v8 else x4)), (2, .long (y2 + ((m7.2.1 166 5) * v8.toInt64))), (7, .int v8), (0, .ref (ad 0)), (1, .int x1), (5, .int x5), (6, .int x6)]) dX11_hopes_108 (by decide) rfl ?_
      refine aw_iload (j := 5) dX11_hopes_110 rfl ?_
      refine aw_iload (j := 2) dX11_hopes_112 rfl ?_
      refine aw_max dX11_hopes_114 k_X11_350 (Nat.le_of_ble_eq_true rfl) ?_
      refine aw_istore (L' := [(5, .int (if x5 < v8 then v8 else x5)), (4, .int (if v8 < x4 then v8 else x4)), (2, .long (y2 + ((m7.2.1 166 5) * v8.toInt64))), (7, .int v8), (0, .ref (ad 0)), (1, .int x1), (6, .int x6)]) dX11_hopes_117 (by decide) rfl ?_
      refine aw_iinc (j := 6) (v := x6 + (1 : Int32)) (L' := [(6, .int (x6 + (1 : Int32))), (5, .int (if x5 < v8 then v8 else x5)), (4, .int (if v8 < x4 then v8 else x4)), (2, .long (y2 + ((m7.2.1 166 5) * v8.toInt64))), (7, .int v8), (0, .ref (ad 0)), (1, .int x1)]) dX11_hopes_119 rfl rfl (by decide) rfl ?_
      refine aw_goto (tgt := 36) dX11_hopes_122 (by decide) ?_
      exact aw_sub [5, 6, 3, 2, 1, 0] rfl h
set_option maxRecDepth 100000 in
set_option maxHeartbeats 4000000 in
theorem v_X11_allChances {ad : Nat → Nat} {d : Nat} {Q : Option Value → Wm → Prop} {m : Wm} {x0 : Int32} (h : AW ad E0 μX11_allChances d Q 4 [(0, .int x0), (1, .long (1 : Int64)), (3, .int (0 : Int32))] [] m) : Ct ad μX11_allChances d [.int x0] m Q := by
  refine Ct.of (by decide +kernel) rfl (Nat.le_of_ble_eq_true rfl) ?_
  refine aw_eq (L' := [(0, .int x0)]) ?_ rfl rfl rfl
  refine aw_lconst (v := 1) dX11_allChances_0 (by decide) ?_
  refine aw_lstore_n (L' := [(1, .long (1 : Int64)), (0, .int x0)]) dX11_allChances_1 rfl (by decide) rfl ?_
  refine aw_iconst (v := 0) dX11_allChances_2 (by decide) ?_
  refine aw_istore_n (L' := [(3, .int (0 : Int32)), (1, .long (1 : Int64)), (0, .int x0)]) dX11_allChances_3 rfl (by decide) rfl ?_
  exact aw_sub [2, 1, 0] rfl h
set_option maxRecDepth 100000 in
set_option maxHeartbeats 4000000 in
theorem g_X11_allChances_4 {ad : Nat → Nat} {d : Nat} {Q : Option Value → Wm → Prop} {m : Wm} {x0 x3 : Int32} {y1 : Int64} (h : ((x0 ≤ x3 → Q (some (.long y1)) m) ∧ (¬ x0 ≤ x3 → AW ad E0 μX11_allChances d Q 4 [(0, .int x0), (1, .long (y1 * (100 : Int64))), (3, .int (x3 + (1 : Int32)))] [] m))) : AW ad E0 μX11_allChances d Q 4 [(0, .int x0), (1, .long y1), (3, .int x3)] [] m := by
  refine aw_iload_n (j := 2) dX11_allChances_4 rfl rfl ?_
  refine aw_iload_n (j := 0) dX11_allChances_5 rfl rfl ?_
  refine aw_icmp_ge (tgt := 21) dX11_allChances_6 (by decide) (fun hc => ?_) (fun hc => ?_)
  · have h := h.1 hc
    refine aw_lload_n (j := 1) dX11_allChances_21 rfl rfl ?_
    exact aw_ret (v := some (.long y1)) rfl (Or.inr (Or.inr ⟨_, rfl, rfl, dX11_allChances_22⟩)) h
  · have h := h.2 hc
    refine aw_lload_n (j := 1) dX11_allChances_9 rfl rfl ?_
    refine aw_ldc2 dX11_allChances_10 c_X11_353 ?_
    refine aw_lmul dX11_allChances_13 ?_
    refine aw_lstore_n (L' := [(1, .long (y1 * (100 : Int64))), (0, .int x0), (3, .int x3)]) dX11_allChances_14 rfl (by decide) rfl ?_
    refine aw_iinc (j := 2) (v := x3 + (1 : Int32)) (L' := [(3, .int (x3 + (1 : Int32))), (1, .long (y1 * (100 : Int64))), (0, .int x0)]) dX11_allChances_15 rfl rfl (by decide) rfl ?_
    refine aw_goto (tgt := 4) dX11_allChances_18 (by decide) ?_
    exact aw_sub [2, 1, 0] rfl h
set_option maxRecDepth 100000 in
set_option maxHeartbeats 4000000 in
theorem v_X11_top {ad : Nat → Nat} {d : Nat} {Q : Option Value → Wm → Prop} {m : Wm} {x1 x2 x3 : Int32} (h : (Ct ad μX1_has d [.ref (ad 3), .int x1] m (fun r m1 => ∃ v2 : Int32, r = some (.int v2) ∧ ((v2 = 0 → Q (some (.int (-1 : Int32))) m1) ∧ (¬ v2 = 0 → (Ct ad μX1_knows d [.ref (ad 3), .int x2] m1 (fun r m3 => ∃ v4 : Int32, r = some (.int v4) ∧ ((v4 = 0 → Q (some (.int (-1 : Int32))) m3) ∧ (¬ v4 = 0 → ((x3 < 0 → Q (some (.int (-1 : Int32))) m3) ∧ (¬ x3 < 0 → ((x3 ≤ (7 : Int32) → (Ct ad μX6_explore d [.ref (ad 156), .ref (ad 3), .ref (ad 21), .int (3000 : Int32)] m3 (fun r m5 => ∃ v6 : Int32, r = some (.int v6) ∧ ((¬ v6 = 0 → (Ct ad μX9_firstWith d [.ref (ad 151), .int x1, .int x2, .int x3] m5 (fun r m7 => ∃ v8 : Int32, r = some (.int v8) ∧ (Ct ad μX11_tellWayTo d [.ref (ad 0), .int v8] m7 (fun r m9 => ∃ v10 : Int32, r = some (.int v10) ∧ Q (some (.int v10)) m9))))) ∧ (v6 = 0 → Q (some (.int (-3 : Int32))) m5))))) ∧ (¬ x3 ≤ (7 : Int32) → Q (some (.int (-1 : Int32))) m3))))))))))))) : Ct ad μX11_top (d + 1) [.ref (ad 0), .int x1, .int x2, .int x3] m Q := by
  refine Ct.of (by decide +kernel) rfl (Nat.le_of_ble_eq_true rfl) ?_
  refine aw_eq (L' := [(0, .ref (ad 0)), (1, .int x1), (2, .int x2), (3, .int x3)]) ?_ rfl rfl rfl
  refine aw_aload_n (j := 0) dX11_top_0 rfl rfl ?_
  refine aw_getfield (c := 6) (v := .ref (ad 3)) dX11_top_1 f_X11_19 ly_0 rfl rfl ?_
  refine aw_iload_n (j := 1) dX11_top_4 rfl rfl ?_
  refine aw_callV (rest := []) [.int x1] dX11_top_5 ly_3 rfl k_X11_164 rfl h (Nat.le_of_ble_eq_true rfl) (fun v m1 h => ?_)
  obtain ⟨v2, rfl, h⟩ := h
  refine aw_eq (L' := [(0, .ref (ad 0)), (1, .int x1), (2, .int x2), (3, .int x3)]) (st' := [.int v2]) (m' := m1) ?_ rfl rfl rfl
  refine aw_if_eq (tgt := 32) dX11_top_8 (by decide) (fun hc => ?_) (fun hc => ?_)
  · have h := h.1 hc
    refine aw_iconst (v := -1) dX11_top_32 (by decide) ?_
    exact aw_ret (v := some (.int (-1 : Int32))) rfl (Or.inr (Or.inl ⟨_, .int, rfl, rfl, rfl, dX11_top_33⟩)) h
  · have h := h.2 hc
    refine aw_aload_n (j := 0) dX11_top_11 rfl rfl ?_
    refine aw_getfield (c := 6) (v := .ref (ad 3)) dX11_top_12 f_X11_19 ly_0 rfl rfl ?_
    refine aw_iload_n (j := 2) dX11_top_15 rfl rfl ?_
    refine aw_callV (rest := []) [.int x2] dX11_top_16 ly_3 rfl k_X11_167 rfl h (Nat.le_of_ble_eq_true rfl) (fun v m3 h => ?_)
    obtain ⟨v4, rfl, h⟩ := h
    refine aw_eq (L' := [(0, .ref (ad 0)), (1, .int x1), (2, .int x2), (3, .int x3)]) (st' := [.int v4]) (m' := m3) ?_ rfl rfl rfl
    refine aw_if_eq (tgt := 32) dX11_top_19 (by decide) (fun hc => ?_) (fun hc => ?_)
    · have h := h.1 hc
      refine aw_iconst (v := -1) dX11_top_32 (by decide) ?_
      exact aw_ret (v := some (.int (-1 : Int32))) rfl (Or.inr (Or.inl ⟨_, .int, rfl, rfl, rfl, dX11_top_33⟩)) h
    · have h := h.2 hc
      refine aw_iload_n (j := 3) dX11_top_22 rfl rfl ?_
      refine aw_if_lt (tgt := 32) dX11_top_23 (by decide) (fun hc => ?_) (fun hc => ?_)
      · have h := h.1 hc
        refine aw_iconst (v := -1) dX11_top_32 (by decide) ?_
        exact aw_ret (v := some (.int (-1 : Int32))) rfl (Or.inr (Or.inl ⟨_, .int, rfl, rfl, rfl, dX11_top_33⟩)) h
      · have h := h.2 hc
        refine aw_iload_n (j := 3) dX11_top_26 rfl rfl ?_
        refine aw_bipush (v := 7) dX11_top_27 (by decide) ?_
        refine aw_icmp_le (tgt := 34) dX11_top_29 (by decide) (fun hc => ?_) (fun hc => ?_)
        · have h := h.1 hc
          refine aw_aload_n (j := 0) dX11_top_34 rfl rfl ?_
          refine aw_getfield (c := 159) (v := .ref (ad 156)) dX11_top_35 f_X11_98 ly_0 rfl rfl ?_
          refine aw_aload_n (j := 0) dX11_top_38 rfl rfl ?_
          refine aw_getfield (c := 6) (v := .ref (ad 3)) dX11_top_39 f_X11_19 ly_0 rfl rfl ?_
          refine aw_aload_n (j := 0) dX11_top_42 rfl rfl ?_
          refine aw_getfield (c := 24) (v := .ref (ad 21)) dX11_top_43 f_X11_33 ly_0 rfl rfl ?_
          refine aw_sipush (v := 3000) dX11_top_46 (by decide) ?_
          refine aw_callV (rest := []) [.ref (ad 3), .ref (ad 21), .int (3000 : Int32)] dX11_top_49 ly_156 rfl k_X11_355 rfl h (Nat.le_of_ble_eq_true rfl) (fun v m5 h => ?_)
          obtain ⟨v6, rfl, h⟩ := h
          refine aw_eq (L' := [(0, .ref (ad 0)), (1, .int x1), (2, .int x2), (3, .int x3)]) (st' := [.int v6]) (m' := m5) ?_ rfl rfl rfl
          refine aw_if_ne (tgt := 58) dX11_top_52 (by decide) (fun hc => ?_) (fun hc => ?_)
          · have h := h.1 hc
            refine aw_aload_n (j := 0) dX11_top_58 rfl rfl ?_
            refine aw_aload_n (j := 0) dX11_top_59 rfl rfl ?_
            refine aw_getfield (c := 159) (v := .ref (ad 156)) dX11_top_60 f_X11_98 ly_0 rfl rfl ?_
            refine aw_getfield (c := 154) (v := .ref (ad 151)) dX11_top_63 f_X11_359 ly_156 rfl rfl ?_
            refine aw_iload_n (j := 1) dX11_top_66 rfl rfl ?_
            refine aw_iload_n (j := 2) dX11_top_67 rfl rfl ?_
            refine aw_iload_n (j := 3) dX11_top_68 rfl rfl ?_
            refine aw_callV (rest := [.ref (ad 0)]) [.int x1, .int x2, .int x3] dX11_top_69 ly_151 rfl k_X11_329 rfl h (Nat.le_of_ble_eq_true rfl) (fun v m7 h => ?_)
            obtain ⟨v8, rfl, h⟩ := h
            refine aw_eq (L' := [(0, .ref (ad 0)), (1, .int x1), (2, .int x2), (3, .int x3)]) (st' := [.int v8, .ref (ad 0)]) (m' := m7) ?_ rfl rfl rfl
            refine aw_callV (rest := []) [.int v8] dX11_top_72 ly_0 rfl k_X11_360 rfl h (Nat.le_of_ble_eq_true rfl) (fun v m9 h => ?_)
            obtain ⟨v10, rfl, h⟩ := h
            refine aw_eq (L' := [(0, .ref (ad 0)), (1, .int x1), (2, .int x2), (3, .int x3)]) (st' := [.int v10]) (m' := m9) ?_ rfl rfl rfl
            exact aw_ret (v := some (.int v10)) rfl (Or.inr (Or.inl ⟨_, .int, rfl, rfl, rfl, dX11_top_75⟩)) h
          · have h := h.2 hc
            refine aw_bipush (v := -3) dX11_top_55 (by decide) ?_
            exact aw_ret (v := some (.int (-3 : Int32))) rfl (Or.inr (Or.inl ⟨_, .int, rfl, rfl, rfl, dX11_top_57⟩)) h
        · have h := h.2 hc
          refine aw_iconst (v := -1) dX11_top_32 (by decide) ?_
          exact aw_ret (v := some (.int (-1 : Int32))) rfl (Or.inr (Or.inl ⟨_, .int, rfl, rfl, rfl, dX11_top_33⟩)) h
set_option maxRecDepth 100000 in
set_option maxHeartbeats 4000000 in
theorem v_X11_quick {ad : Nat → Nat} {d : Nat} {Q : Option Value → Wm → Prop} {m : Wm} {x1 : Int32} (h : (Ct ad μX6_explore d [.ref (ad 156), .ref (ad 3), .ref (ad 21), .int (3000 : Int32)] m (fun r m1 => ∃ v2 : Int32, r = some (.int v2) ∧ ((¬ v2 = 0 → (Ct ad μX6_firstStrong d [.ref (ad 156), .ref (ad 3), .int x1] m1 (fun r m3 => ∃ v4 : Int32, r = some (.int v4) ∧ (Ct ad μX11_tellWayTo d [.ref (ad 0), .int v4] m3 (fun r m5 => ∃ v6 : Int32, r = some (.int v6) ∧ Q (some (.int v6)) m5))))) ∧ (v2 = 0 → Q (some (.int (-3 : Int32))) m1))))) : Ct ad μX11_quick (d + 1) [.ref (ad 0), .int x1] m Q := by
  refine Ct.of (by decide +kernel) rfl (Nat.le_of_ble_eq_true rfl) ?_
  refine aw_eq (L' := [(0, .ref (ad 0)), (1, .int x1)]) ?_ rfl rfl rfl
  refine aw_aload_n (j := 0) dX11_quick_0 rfl rfl ?_
  refine aw_getfield (c := 159) (v := .ref (ad 156)) dX11_quick_1 f_X11_98 ly_0 rfl rfl ?_
  refine aw_aload_n (j := 0) dX11_quick_4 rfl rfl ?_
  refine aw_getfield (c := 6) (v := .ref (ad 3)) dX11_quick_5 f_X11_19 ly_0 rfl rfl ?_
  refine aw_aload_n (j := 0) dX11_quick_8 rfl rfl ?_
  refine aw_getfield (c := 24) (v := .ref (ad 21)) dX11_quick_9 f_X11_33 ly_0 rfl rfl ?_
  refine aw_sipush (v := 3000) dX11_quick_12 (by decide) ?_
  refine aw_callV (rest := []) [.ref (ad 3), .ref (ad 21), .int (3000 : Int32)] dX11_quick_15 ly_156 rfl k_X11_355 rfl h (Nat.le_of_ble_eq_true rfl) (fun v m1 h => ?_)
  obtain ⟨v2, rfl, h⟩ := h
  refine aw_eq (L' := [(0, .ref (ad 0)), (1, .int x1)]) (st' := [.int v2]) (m' := m1) ?_ rfl rfl rfl
  refine aw_if_ne (tgt := 24) dX11_quick_18 (by decide) (fun hc => ?_) (fun hc => ?_)
  · have h := h.1 hc
    refine aw_aload_n (j := 0) dX11_quick_24 rfl rfl ?_
    refine aw_aload_n (j := 0) dX11_quick_25 rfl rfl ?_
    refine aw_getfield (c := 159) (v := .ref (ad 156)) dX11_quick_26 f_X11_98 ly_0 rfl rfl ?_
    refine aw_aload_n (j := 0) dX11_quick_29 rfl rfl ?_
    refine aw_getfield (c := 6) (v := .ref (ad 3)) dX11_quick_30 f_X11_19 ly_0 rfl rfl ?_
    refine aw_iload_n (j := 1) dX11_quick_33 rfl rfl ?_
    refine aw_callV (rest := [.ref (ad 0)]) [.ref (ad 3), .int x1] dX11_quick_34 ly_156 rfl k_X11_363 rfl h (Nat.le_of_ble_eq_true rfl) (fun v m3 h => ?_)
    obtain ⟨v4, rfl, h⟩ := h
    refine aw_eq (L' := [(0, .ref (ad 0)), (1, .int x1)]) (st' := [.int v4, .ref (ad 0)]) (m' := m3) ?_ rfl rfl rfl
    refine aw_callV (rest := []) [.int v4] dX11_quick_37 ly_0 rfl k_X11_360 rfl h (Nat.le_of_ble_eq_true rfl) (fun v m5 h => ?_)
    obtain ⟨v6, rfl, h⟩ := h
    refine aw_eq (L' := [(0, .ref (ad 0)), (1, .int x1)]) (st' := [.int v6]) (m' := m5) ?_ rfl rfl rfl
    exact aw_ret (v := some (.int v6)) rfl (Or.inr (Or.inl ⟨_, .int, rfl, rfl, rfl, dX11_quick_40⟩)) h
  · have h := h.2 hc
    refine aw_bipush (v := -3) dX11_quick_21 (by decide) ?_
    exact aw_ret (v := some (.int (-3 : Int32))) rfl (Or.inr (Or.inl ⟨_, .int, rfl, rfl, rfl, dX11_quick_23⟩)) h
set_option maxRecDepth 100000 in
set_option maxHeartbeats 4000000 in
theorem v_X11_tellWayTo {ad : Nat → Nat} {d : Nat} {Q : Option Value → Wm → Prop} {m : Wm} {x1 : Int32} (h : ((0 ≤ x1 → (Ct ad μX6_fillWay d [.ref (ad 156), .int x1, .ref (ad 150)] m (fun r m1 => r = none ∧ (vp_in x1 3000 ∧ (vp_in x1 3000 ∧ Q (some (.int ((uI m1 0 18 (if (10 : Int32) < (m1.1 165 x1.toNatClampNeg) then (10 : Int32) else (m1.1 165 x1.toNatClampNeg))).1 165 x1.toNatClampNeg))) (uI m1 0 18 (if (10 : Int32) < (m1.1 165 x1.toNatClampNeg) then (10 : Int32) else (m1.1 165 x1.toNatClampNeg)))))))) ∧ (¬ 0 ≤ x1 → Q (some (.int (-2 : Int32))) m))) : Ct ad μX11_tellWayTo (d + 1) [.ref (ad 0), .int x1] m Q := by
  refine Ct.of (by decide +kernel) rfl (Nat.le_of_ble_eq_true rfl) ?_
  refine aw_eq (L' := [(0, .ref (ad 0)), (1, .int x1)]) ?_ rfl rfl rfl
  refine aw_iload_n (j := 1) dX11_tellWayTo_0 rfl rfl ?_
  refine aw_if_ge (tgt := 7) dX11_tellWayTo_1 (by decide) (fun hc => ?_) (fun hc => ?_)
  · have h := h.1 hc
    refine aw_aload_n (j := 0) dX11_tellWayTo_7 rfl rfl ?_
    refine aw_getfield (c := 159) (v := .ref (ad 156)) dX11_tellWayTo_8 f_X11_98 ly_0 rfl rfl ?_
    refine aw_iload_n (j := 1) dX11_tellWayTo_11 rfl rfl ?_
    refine aw_aload_n (j := 0) dX11_tellWayTo_12 rfl rfl ?_
    refine aw_getfield (c := 153) (v := .ref (ad 150)) dX11_tellWayTo_13 f_X11_83 ly_0 rfl rfl ?_
    refine aw_callV (rest := []) [.int x1, .ref (ad 150)] dX11_tellWayTo_16 ly_156 rfl k_X11_367 rfl h (Nat.le_of_ble_eq_true rfl) (fun v m1 h => ?_)
    obtain ⟨rfl, h⟩ := h
    refine aw_eq (L' := [(0, .ref (ad 0)), (1, .int x1)]) (st' := []) (m' := m1) ?_ rfl rfl rfl
    refine aw_aload_n (j := 0) dX11_tellWayTo_19 rfl rfl ?_
    refine aw_aload_n (j := 0) dX11_tellWayTo_20 rfl rfl ?_
    refine aw_getfield (c := 159) (v := .ref (ad 156)) dX11_tellWayTo_21 f_X11_98 ly_0 rfl rfl ?_
    refine aw_getfield (c := 168) (v := .ref (ad 165)) dX11_tellWayTo_24 f_X11_371 ly_156 rfl rfl ?_
    refine aw_iload_n (j := 1) dX11_tellWayTo_27 rfl rfl ?_
    obtain ⟨hi, h⟩ := h
    refine aw_iaload dX11_tellWayTo_28 ly_165 hi ?_
    refine aw_aload_n (j := 0) dX11_tellWayTo_29 rfl rfl ?_
    refine aw_getfield (c := 153) (v := .ref (ad 150)) dX11_tellWayTo_30 f_X11_83 ly_0 rfl rfl ?_
    refine aw_alen4 (v := (10 : Int32)) dX11_tellWayTo_33 ly_150 (by decide) ?_
    refine aw_min dX11_tellWayTo_34 k_X11_290 (Nat.le_of_ble_eq_true rfl) ?_
    refine aw_putI dX11_tellWayTo_37 f_X11_87 cl_X11 rfl ly_0 rfl rfl rfl ?_
    refine aw_aload_n (j := 0) dX11_tellWayTo_40 rfl rfl ?_
    refine aw_getfield (c := 159) (v := .ref (ad 156)) dX11_tellWayTo_41 f_X11_98 ly_0 rfl rfl ?_
    refine aw_getfield (c := 168) (v := .ref (ad 165)) dX11_tellWayTo_44 f_X11_371 ly_156 rfl rfl ?_
    refine aw_iload_n (j := 1) dX11_tellWayTo_47 rfl rfl ?_
    obtain ⟨hi, h⟩ := h
    refine aw_iaload dX11_tellWayTo_48 ly_165 hi ?_
    exact aw_ret (v := some (.int ((uI m1 0 18 (if (10 : Int32) < (m1.1 165 x1.toNatClampNeg) then (10 : Int32) else (m1.1 165 x1.toNatClampNeg))).1 165 x1.toNatClampNeg))) rfl (Or.inr (Or.inl ⟨_, .int, rfl, rfl, rfl, dX11_tellWayTo_49⟩)) h
  · have h := h.2 hc
    refine aw_bipush (v := -2) dX11_tellWayTo_4 (by decide) ?_
    exact aw_ret (v := some (.int (-2 : Int32))) rfl (Or.inr (Or.inl ⟨_, .int, rfl, rfl, rfl, dX11_tellWayTo_6⟩)) h
set_option maxRecDepth 100000 in
set_option maxHeartbeats 4000000 in
theorem v_X11_best {ad : Nat → Nat} {d : Nat} {Q : Option Value → Wm → Prop} {m : Wm} {x1 x2 : Int32} (h : (Ct ad μX1_has d [.ref (ad 3), .int x1] m (fun r m1 => ∃ v2 : Int32, r = some (.int v2) ∧ ((v2 = 0 → Q (some (.int (-1 : Int32))) m1) ∧ (¬ v2 = 0 → ((x2 < 0 → Q (some (.int (-1 : Int32))) m1) ∧ (¬ x2 < 0 → ((x2 ≤ (9 : Int32) → (Ct ad μX6_explore d [.ref (ad 156), .ref (ad 3), .ref (ad 21), .int x2] m1 (fun r m3 => ∃ v4 : Int32, r = some (.int v4) ∧ ((¬ v4 = 0 → (Ct ad μX6_greatestPower d [.ref (ad 156), .ref (ad 3), .int x1] m3 (fun r m5 => ∃ v6 : Int32, r = some (.int v6) ∧ (vp_in (m5.1 156 6) 3000 ∧ (Ct ad μX11_tell d [.ref (ad 0), .long ((m5.1 165 (m5.1 156 6).toNatClampNeg).toInt64)] m5 (fun r m7 => r = none ∧ Q (some (.int v6)) m7)))))) ∧ (v4 = 0 → Q (some (.int (-3 : Int32))) m3))))) ∧ (¬ x2 ≤ (9 : Int32) → Q (some (.int (-1 : Int32))) m1))))))))) : Ct ad μX11_best (d + 1) [.ref (ad 0), .int x1, .int x2] m Q := by
  refine Ct.of (by decide +kernel) rfl (Nat.le_of_ble_eq_true rfl) ?_
  refine aw_eq (L' := [(0, .ref (ad 0)), (1, .int x1), (2, .int x2)]) ?_ rfl rfl rfl
  refine aw_aload_n (j := 0) dX11_best_0 rfl rfl ?_
  refine aw_getfield (c := 6) (v := .ref (ad 3)) dX11_best_1 f_X11_19 ly_0 rfl rfl ?_
  refine aw_iload_n (j := 1) dX11_best_4 rfl rfl ?_
  refine aw_callV (rest := []) [.int x1] dX11_best_5 ly_3 rfl k_X11_164 rfl h (Nat.le_of_ble_eq_true rfl) (fun v m1 h => ?_)
  obtain ⟨v2, rfl, h⟩ := h
  refine aw_eq (L' := [(0, .ref (ad 0)), (1, .int x1), (2, .int x2)]) (st' := [.int v2]) (m' := m1) ?_ rfl rfl rfl
  refine aw_if_eq (tgt := 21) dX11_best_8 (by decide) (fun hc => ?_) (fun hc => ?_)
  · have h := h.1 hc
    refine aw_iconst (v := -1) dX11_best_21 (by decide) ?_
    exact aw_ret (v := some (.int (-1 : Int32))) rfl (Or.inr (Or.inl ⟨_, .int, rfl, rfl, rfl, dX11_best_22⟩)) h
  · have h := h.2 hc
    refine aw_iload_n (j := 2) dX11_best_11 rfl rfl ?_
    refine aw_if_lt (tgt := 21) dX11_best_12 (by decide) (fun hc => ?_) (fun hc => ?_)
    · have h := h.1 hc
      refine aw_iconst (v := -1) dX11_best_21 (by decide) ?_
      exact aw_ret (v := some (.int (-1 : Int32))) rfl (Or.inr (Or.inl ⟨_, .int, rfl, rfl, rfl, dX11_best_22⟩)) h
    · have h := h.2 hc
      refine aw_iload_n (j := 2) dX11_best_15 rfl rfl ?_
      refine aw_bipush (v := 9) dX11_best_16 (by decide) ?_
      refine aw_icmp_le (tgt := 23) dX11_best_18 (by decide) (fun hc => ?_) (fun hc => ?_)
      · have h := h.1 hc
        refine aw_aload_n (j := 0) dX11_best_23 rfl rfl ?_
        refine aw_getfield (c := 159) (v := .ref (ad 156)) dX11_best_24 f_X11_98 ly_0 rfl rfl ?_
        refine aw_aload_n (j := 0) dX11_best_27 rfl rfl ?_
        refine aw_getfield (c := 6) (v := .ref (ad 3)) dX11_best_28 f_X11_19 ly_0 rfl rfl ?_
        refine aw_aload_n (j := 0) dX11_best_31 rfl rfl ?_
        refine aw_getfield (c := 24) (v := .ref (ad 21)) dX11_best_32 f_X11_33 ly_0 rfl rfl ?_
        refine aw_iload_n (j := 2) dX11_best_35 rfl rfl ?_
        refine aw_callV (rest := []) [.ref (ad 3), .ref (ad 21), .int x2] dX11_best_36 ly_156 rfl k_X11_355 rfl h (Nat.le_of_ble_eq_true rfl) (fun v m3 h => ?_)
        obtain ⟨v4, rfl, h⟩ := h
        refine aw_eq (L' := [(0, .ref (ad 0)), (1, .int x1), (2, .int x2)]) (st' := [.int v4]) (m' := m3) ?_ rfl rfl rfl
        refine aw_if_ne (tgt := 45) dX11_best_39 (by decide) (fun hc => ?_) (fun hc => ?_)
        · have h := h.1 hc
          refine aw_aload_n (j := 0) dX11_best_45 rfl rfl ?_
          refine aw_getfield (c := 159) (v := .ref (ad 156)) dX11_best_46 f_X11_98 ly_0 rfl rfl ?_
          refine aw_aload_n (j := 0) dX11_best_49 rfl rfl ?_
          refine aw_getfield (c := 6) (v := .ref (ad 3)) dX11_best_50 f_X11_19 ly_0 rfl rfl ?_
          refine aw_iload_n (j := 1) dX11_best_53 rfl rfl ?_
          refine aw_callV (rest := []) [.ref (ad 3), .int x1] dX11_best_54 ly_156 rfl k_X11_374 rfl h (Nat.le_of_ble_eq_true rfl) (fun v m5 h => ?_)
          obtain ⟨v6, rfl, h⟩ := h
          refine aw_eq (L' := [(0, .ref (ad 0)), (1, .int x1), (2, .int x2)]) (st' := [.int v6]) (m' := m5) ?_ rfl rfl rfl
          refine aw_istore_n (L' := [(3, .int v6), (0, .ref (ad 0)), (1, .int x1), (2, .int x2)]) dX11_best_57 rfl (by decide) rfl ?_
          refine aw_aload_n (j := 1) dX11_best_58 rfl rfl ?_
          refine aw_aload_n (j := 1) dX11_best_59 rfl rfl ?_
          refine aw_getfield (c := 159) (v := .ref (ad 156)) dX11_best_60 f_X11_98 ly_0 rfl rfl ?_
          refine aw_getfield (c := 168) (v := .ref (ad 165)) dX11_best_63 f_X11_371 ly_156 rfl rfl ?_
          refine aw_aload_n (j := 1) dX11_best_66 rfl rfl ?_
          refine aw_getfield (c := 159) (v := .ref (ad 156)) dX11_best_67 f_X11_98 ly_0 rfl rfl ?_
          refine aw_getfield (c := 0) (v := .int (m5.1 156 6)) dX11_best_70 f_X11_377 ly_156 rfl rfl ?_
          obtain ⟨hi, h⟩ := h
          refine aw_iaload dX11_best_73 ly_165 hi ?_
          refine aw_i2l dX11_best_74 ?_
          refine aw_callV (rest := []) [.long ((m5.1 165 (m5.1 156 6).toNatClampNeg).toInt64)] dX11_best_75 ly_0 rfl k_X11_267 rfl h (Nat.le_of_ble_eq_true rfl) (fun v m7 h => ?_)
          obtain ⟨rfl, h⟩ := h
          refine aw_eq (L' := [(3, .int v6), (0, .ref (ad 0)), (1, .int x1), (2, .int x2)]) (st' := []) (m' := m7) ?_ rfl rfl rfl
          refine aw_iload_n (j := 0) dX11_best_78 rfl rfl ?_
          exact aw_ret (v := some (.int v6)) rfl (Or.inr (Or.inl ⟨_, .int, rfl, rfl, rfl, dX11_best_79⟩)) h
        · have h := h.2 hc
          refine aw_bipush (v := -3) dX11_best_42 (by decide) ?_
          exact aw_ret (v := some (.int (-3 : Int32))) rfl (Or.inr (Or.inl ⟨_, .int, rfl, rfl, rfl, dX11_best_44⟩)) h
      · have h := h.2 hc
        refine aw_iconst (v := -1) dX11_best_21 (by decide) ?_
        exact aw_ret (v := some (.int (-1 : Int32))) rfl (Or.inr (Or.inl ⟨_, .int, rfl, rfl, rfl, dX11_best_22⟩)) h
set_option maxRecDepth 100000 in
set_option maxHeartbeats 4000000 in
theorem v_X11_even {ad : Nat → Nat} {d : Nat} {Q : Option Value → Wm → Prop} {m : Wm} {x1 : Int32} (h : ((x1 < 0 → Q (some (.int (-1 : Int32))) m) ∧ (¬ x1 < 0 → (((9 : Int32) < x1 → Q (some (.int (-1 : Int32))) m) ∧ (¬ (9 : Int32) < x1 → ((¬ (m.1 3 3) = 0 → (Ct ad μX6_explore d [.ref (ad 156), .ref (ad 3), .ref (ad 21), .int x1] m (fun r m1 => ∃ v2 : Int32, r = some (.int v2) ∧ ((¬ v2 = 0 → (Ct ad μX6_leastGap d [.ref (ad 156), .ref (ad 3)] m1 (fun r m3 => ∃ v4 : Int32, r = some (.int v4) ∧ (vp_in (m3.1 156 6) 3000 ∧ (Ct ad μX11_tell d [.ref (ad 0), .long ((m3.1 165 (m3.1 156 6).toNatClampNeg).toInt64)] m3 (fun r m5 => r = none ∧ Q (some (.int v4)) m5)))))) ∧ (v2 = 0 → Q (some (.int (-3 : Int32))) m1))))) ∧ ((m.1 3 3) = 0 → Q (some (.int (-1 : Int32))) m))))))) : Ct ad μX11_even (d + 1) [.ref (ad 0), .int x1] m Q := by
  refine Ct.of (by decide +kernel) rfl (Nat.le_of_ble_eq_true rfl) ?_
  refine aw_eq (L' := [(0, .ref (ad 0)), (1, .int x1)]) ?_ rfl rfl rfl
  refine aw_iload_n (j := 1) dX11_even_0 rfl rfl ?_
  refine aw_if_lt (tgt := 20) dX11_even_1 (by decide) (fun hc => ?_) (fun hc => ?_)
  · have h := h.1 hc
    refine aw_iconst (v := -1) dX11_even_20 (by decide) ?_
    exact aw_ret (v := some (.int (-1 : Int32))) rfl (Or.inr (Or.inl ⟨_, .int, rfl, rfl, rfl, dX11_even_21⟩)) h
  · have h := h.2 hc
    refine aw_iload_n (j := 1) dX11_even_4 rfl rfl ?_
    refine aw_bipush (v := 9) dX11_even_5 (by decide) ?_
    refine aw_icmp_gt (tgt := 20) dX11_even_7 (by decide) (fun hc => ?_) (fun hc => ?_)
    · have h := h.1 hc
      refine aw_iconst (v := -1) dX11_even_20 (by decide) ?_
      exact aw_ret (v := some (.int (-1 : Int32))) rfl (Or.inr (Or.inl ⟨_, .int, rfl, rfl, rfl, dX11_even_21⟩)) h
    · have h := h.2 hc
      refine aw_aload_n (j := 0) dX11_even_10 rfl rfl ?_
      refine aw_getfield (c := 6) (v := .ref (ad 3)) dX11_even_11 f_X11_19 ly_0 rfl rfl ?_
      refine aw_getfield (c := 0) (v := .int (m.1 3 3)) dX11_even_14 f_X11_155 ly_3 rfl rfl ?_
      refine aw_if_ne (tgt := 22) dX11_even_17 (by decide) (fun hc => ?_) (fun hc => ?_)
      · have h := h.1 hc
        refine aw_aload_n (j := 0) dX11_even_22 rfl rfl ?_
        refine aw_getfield (c := 159) (v := .ref (ad 156)) dX11_even_23 f_X11_98 ly_0 rfl rfl ?_
        refine aw_aload_n (j := 0) dX11_even_26 rfl rfl ?_
        refine aw_getfield (c := 6) (v := .ref (ad 3)) dX11_even_27 f_X11_19 ly_0 rfl rfl ?_
        refine aw_aload_n (j := 0) dX11_even_30 rfl rfl ?_
        refine aw_getfield (c := 24) (v := .ref (ad 21)) dX11_even_31 f_X11_33 ly_0 rfl rfl ?_
        refine aw_iload_n (j := 1) dX11_even_34 rfl rfl ?_
        refine aw_callV (rest := []) [.ref (ad 3), .ref (ad 21), .int x1] dX11_even_35 ly_156 rfl k_X11_355 rfl h (Nat.le_of_ble_eq_true rfl) (fun v m1 h => ?_)
        obtain ⟨v2, rfl, h⟩ := h
        refine aw_eq (L' := [(0, .ref (ad 0)), (1, .int x1)]) (st' := [.int v2]) (m' := m1) ?_ rfl rfl rfl
        refine aw_if_ne (tgt := 44) dX11_even_38 (by decide) (fun hc => ?_) (fun hc => ?_)
        · have h := h.1 hc
          refine aw_aload_n (j := 0) dX11_even_44 rfl rfl ?_
          refine aw_getfield (c := 159) (v := .ref (ad 156)) dX11_even_45 f_X11_98 ly_0 rfl rfl ?_
          refine aw_aload_n (j := 0) dX11_even_48 rfl rfl ?_
          refine aw_getfield (c := 6) (v := .ref (ad 3)) dX11_even_49 f_X11_19 ly_0 rfl rfl ?_
          refine aw_callV (rest := []) [.ref (ad 3)] dX11_even_52 ly_156 rfl k_X11_380 rfl h (Nat.le_of_ble_eq_true rfl) (fun v m3 h => ?_)
          obtain ⟨v4, rfl, h⟩ := h
          refine aw_eq (L' := [(0, .ref (ad 0)), (1, .int x1)]) (st' := [.int v4]) (m' := m3) ?_ rfl rfl rfl
          refine aw_istore_n (L' := [(2, .int v4), (0, .ref (ad 0)), (1, .int x1)]) dX11_even_55 rfl (by decide) rfl ?_
          refine aw_aload_n (j := 1) dX11_even_56 rfl rfl ?_
          refine aw_aload_n (j := 1) dX11_even_57 rfl rfl ?_
          refine aw_getfield (c := 159) (v := .ref (ad 156)) dX11_even_58 f_X11_98 ly_0 rfl rfl ?_
          refine aw_getfield (c := 168) (v := .ref (ad 165)) dX11_even_61 f_X11_371 ly_156 rfl rfl ?_
          refine aw_aload_n (j := 1) dX11_even_64 rfl rfl ?_
          refine aw_getfield (c := 159) (v := .ref (ad 156)) dX11_even_65 f_X11_98 ly_0 rfl rfl ?_
          refine aw_getfield (c := 0) (v := .int (m3.1 156 6)) dX11_even_68 f_X11_377 ly_156 rfl rfl ?_
          obtain ⟨hi, h⟩ := h
          refine aw_iaload dX11_even_71 ly_165 hi ?_
          refine aw_i2l dX11_even_72 ?_
          refine aw_callV (rest := []) [.long ((m3.1 165 (m3.1 156 6).toNatClampNeg).toInt64)] dX11_even_73 ly_0 rfl k_X11_267 rfl h (Nat.le_of_ble_eq_true rfl) (fun v m5 h => ?_)
          obtain ⟨rfl, h⟩ := h
          refine aw_eq (L' := [(2, .int v4), (0, .ref (ad 0)), (1, .int x1)]) (st' := []) (m' := m5) ?_ rfl rfl rfl
          refine aw_iload_n (j := 0) dX11_even_76 rfl rfl ?_
          exact aw_ret (v := some (.int v4)) rfl (Or.inr (Or.inl ⟨_, .int, rfl, rfl, rfl, dX11_even_77⟩)) h
        · have h := h.2 hc
          refine aw_bipush (v := -3) dX11_even_41 (by decide) ?_
          exact aw_ret (v := some (.int (-3 : Int32))) rfl (Or.inr (Or.inl ⟨_, .int, rfl, rfl, rfl, dX11_even_43⟩)) h
      · have h := h.2 hc
        refine aw_iconst (v := -1) dX11_even_20 (by decide) ?_
        exact aw_ret (v := some (.int (-1 : Int32))) rfl (Or.inr (Or.inl ⟨_, .int, rfl, rfl, rfl, dX11_even_21⟩)) h
set_option maxRecDepth 100000 in
set_option maxHeartbeats 4000000 in
theorem v_X11_all {ad : Nat → Nat} {d : Nat} {Q : Option Value → Wm → Prop} {m : Wm} (h : (Ct ad μX6_explore d [.ref (ad 156), .ref (ad 3), .ref (ad 21), .int (3000 : Int32)] m (fun r m1 => ∃ v2 : Int32, r = some (.int v2) ∧ ((¬ v2 = 0 → AW ad E0 μX11_all (d + 1) Q 35 [(0, .ref (ad 0)), (1, .int (0 : Int32)), (2, .int (224 : Int32)), (3, .int (0 : Int32)), (4, .int (0 : Int32))] [] m1) ∧ (v2 = 0 → Q (some (.int (-3 : Int32))) m1))))) : Ct ad μX11_all (d + 1) [.ref (ad 0)] m Q := by
  refine Ct.of (by decide +kernel) rfl (Nat.le_of_ble_eq_true rfl) ?_
  refine aw_eq (L' := [(0, .ref (ad 0))]) ?_ rfl rfl rfl
  refine aw_aload_n (j := 0) dX11_all_0 rfl rfl ?_
  refine aw_getfield (c := 159) (v := .ref (ad 156)) dX11_all_1 f_X11_98 ly_0 rfl rfl ?_
  refine aw_aload_n (j := 0) dX11_all_4 rfl rfl ?_
  refine aw_getfield (c := 6) (v := .ref (ad 3)) dX11_all_5 f_X11_19 ly_0 rfl rfl ?_
  refine aw_aload_n (j := 0) dX11_all_8 rfl rfl ?_
  refine aw_getfield (c := 24) (v := .ref (ad 21)) dX11_all_9 f_X11_33 ly_0 rfl rfl ?_
  refine aw_sipush (v := 3000) dX11_all_12 (by decide) ?_
  refine aw_callV (rest := []) [.ref (ad 3), .ref (ad 21), .int (3000 : Int32)] dX11_all_15 ly_156 rfl k_X11_355 rfl h (Nat.le_of_ble_eq_true rfl) (fun v m1 h => ?_)
  obtain ⟨v2, rfl, h⟩ := h
  refine aw_eq (L' := [(0, .ref (ad 0))]) (st' := [.int v2]) (m' := m1) ?_ rfl rfl rfl
  refine aw_if_ne (tgt := 24) dX11_all_18 (by decide) (fun hc => ?_) (fun hc => ?_)
  · have h := h.1 hc
    refine aw_iconst (v := 0) dX11_all_24 (by decide) ?_
    refine aw_istore_n (L' := [(1, .int (0 : Int32)), (0, .ref (ad 0))]) dX11_all_25 rfl (by decide) rfl ?_
    refine aw_sipush (v := 224) dX11_all_26 (by decide) ?_
    refine aw_istore_n (L' := [(2, .int (224 : Int32)), (1, .int (0 : Int32)), (0, .ref (ad 0))]) dX11_all_29 rfl (by decide) rfl ?_
    refine aw_iconst (v := 0) dX11_all_30 (by decide) ?_
    refine aw_istore_n (L' := [(3, .int (0 : Int32)), (2, .int (224 : Int32)), (1, .int (0 : Int32)), (0, .ref (ad 0))]) dX11_all_31 rfl (by decide) rfl ?_
    refine aw_iconst (v := 0) dX11_all_32 (by decide) ?_
    refine aw_istore (L' := [(4, .int (0 : Int32)), (3, .int (0 : Int32)), (2, .int (224 : Int32)), (1, .int (0 : Int32)), (0, .ref (ad 0))]) dX11_all_33 (by decide) rfl ?_
    exact aw_sub [4, 3, 2, 1, 0] rfl h
  · have h := h.2 hc
    refine aw_bipush (v := -3) dX11_all_21 (by decide) ?_
    exact aw_ret (v := some (.int (-3 : Int32))) rfl (Or.inr (Or.inl ⟨_, .int, rfl, rfl, rfl, dX11_all_23⟩)) h
set_option maxRecDepth 100000 in
set_option maxHeartbeats 4000000 in
theorem g_X11_all_35 {ad : Nat → Nat} {d : Nat} {Q : Option Value → Wm → Prop} {m : Wm} {x1 x2 x3 x4 : Int32} (h : (((m.1 151 4) ≤ x4 → (Ct ad μX11_tell__ d [.ref (ad 0), .long x1.toInt64, .long x2.toInt64, .long x3.toInt64] m (fun r m1 => r = none ∧ Q (some (.int (m1.1 151 4))) m1))) ∧ (¬ (m.1 151 4) ≤ x4 → (Ct ad μX9_total d [.ref (ad 151), .int x4] m (fun r m2 => ∃ v3 : Int32, r = some (.int v3) ∧ (vp_in x4 3000 ∧ AW ad E0 μX11_all (d + 1) Q 35 [(0, .ref (ad 0)), (1, .int (if x1 < v3 then v3 else x1)), (2, .int (if v3 < x2 then v3 else x2)), (3, .int (if x3 < (m2.1 165 x4.toNatClampNeg) then (m2.1 165 x4.toNatClampNeg) else x3)), (4, .int (x4 + (1 : Int32)))] [] m2)))))) : AW ad E0 μX11_all (d + 1) Q 35 [(0, .ref (ad 0)), (1, .int x1), (2, .int x2), (3, .int x3), (4, .int x4)] [] m := by
  refine aw_iload (j := 4) dX11_all_35 rfl ?_
  refine aw_aload_n (j := 0) dX11_all_37 rfl rfl ?_
  refine aw_getfield (c := 159) (v := .ref (ad 156)) dX11_all_38 f_X11_98 ly_0 rfl rfl ?_
  refine aw_getfield (c := 154) (v := .ref (ad 151)) dX11_all_41 f_X11_359 ly_156 rfl rfl ?_
  refine aw_getfield (c := 0) (v := .int (m.1 151 4)) dX11_all_44 f_X11_384 ly_151 rfl rfl ?_
  refine aw_icmp_ge (tgt := 99) dX11_all_47 (by decide) (fun hc => ?_) (fun hc => ?_)
  · have h := h.1 hc
    refine aw_aload_n (j := 0) dX11_all_99 rfl rfl ?_
    refine aw_iload_n (j := 1) dX11_all_100 rfl rfl ?_
    refine aw_i2l dX11_all_101 ?_
    refine aw_iload_n (j := 2) dX11_all_102 rfl rfl ?_
    refine aw_i2l dX11_all_103 ?_
    refine aw_iload_n (j := 3) dX11_all_104 rfl rfl ?_
    refine aw_i2l dX11_all_105 ?_
    refine aw_callV (rest := []) [.long x1.toInt64, .long x2.toInt64, .long x3.toInt64] dX11_all_106 ly_0 rfl k_X11_295 rfl h (Nat.le_of_ble_eq_true rfl) (fun v m1 h => ?_)
    obtain ⟨rfl, h⟩ := h
    refine aw_eq (L' := [(0, .ref (ad 0)), (1, .int x1), (2, .int x2), (3, .int x3), (4, .int x4)]) (st' := []) (m' := m1) ?_ rfl rfl rfl
    refine aw_aload_n (j := 0) dX11_all_109 rfl rfl ?_
    refine aw_getfield (c := 159) (v := .ref (ad 156)) dX11_all_110 f_X11_98 ly_0 rfl rfl ?_
    refine aw_getfield (c := 154) (v := .ref (ad 151)) dX11_all_113 f_X11_359 ly_156 rfl rfl ?_
    refine aw_getfield (c := 0) (v := .int (m1.1 151 4)) dX11_all_116 f_X11_384 ly_151 rfl rfl ?_
    exact aw_ret (v := some (.int (m1.1 151 4))) rfl (Or.inr (Or.inl ⟨_, .int, rfl, rfl, rfl, dX11_all_119⟩)) h
  · have h := h.2 hc
    refine aw_aload_n (j := 0) dX11_all_50 rfl rfl ?_
    refine aw_getfield (c := 159) (v := .ref (ad 156)) dX11_all_51 f_X11_98 ly_0 rfl rfl ?_
    refine aw_getfield (c := 154) (v := .ref (ad 151)) dX11_all_54 f_X11_359 ly_156 rfl rfl ?_
    refine aw_iload (j := 4) dX11_all_57 rfl ?_
    refine aw_callV (rest := []) [.int x4] dX11_all_59 ly_151 rfl k_X11_321 rfl h (Nat.le_of_ble_eq_true rfl) (fun v m2 h => ?_)
    obtain ⟨v3, rfl, h⟩ := h
    refine aw_eq (L' := [(0, .ref (ad 0)), (1, .int x1), (2, .int x2), (3, .int x3), (4, .int x4)]) (st' := [.int v3]) (m' := m2) ?_ rfl rfl rfl
    refine aw_istore (L' := [(5, .int v3), (0, .ref (ad 0)), (1, .int x1), (2, .int x2), (3, .int x3), (4, .int x4)]) dX11_all_62 (by decide) rfl ?_
    refine aw_iload_n (j := 2) dX11_all_64 rfl rfl ?_
    refine aw_iload (j := 0) dX11_all_65 rfl ?_
    refine aw_max dX11_all_67 k_X11_350 (Nat.le_of_ble_eq_true rfl) ?_
    refine aw_istore_n (L' := [(1, .int (if x1 < v3 then v3 else x1)), (5, .int v3), (0, .ref (ad 0)), (2, .int x2), (3, .int x3), (4, .int x4)]) dX11_all_70 rfl (by decide) rfl ?_
    refine aw_iload_n (j := 3) dX11_all_71 rfl rfl ?_
    refine aw_iload (j := 1) dX11_all_72 rfl ?_
    refine aw_min dX11_all_74 k_X11_290 (Nat.le_of_ble_eq_true rfl) ?_
    refine aw_istore_n (L' := [(2, .int (if v3 < x2 then v3 else x2)), (1, .int (if x1 < v3 then v3 else x1)), (5, .int v3), (0, .ref (ad 0)), (3, .int x3), (4, .int x4)]) dX11_all_77 rfl (by decide) rfl ?_
    refine aw_iload_n (j := 4) dX11_all_78 rfl rfl ?_
    refine aw_aload_n (j := 3) dX11_all_79 rfl rfl ?_
    refine aw_getfield (c := 159) (v := .ref (ad 156)) dX11_all_80 f_X11_98 ly_0 rfl rfl ?_
    refine aw_getfield (c := 168) (v := .ref (ad 165)) dX11_all_83 f_X11_371 ly_156 rfl rfl ?_
    refine aw_iload (j := 5) dX11_all_86 rfl ?_
    obtain ⟨hi, h⟩ := h
    refine aw_iaload dX11_all_88 ly_165 hi ?_
    refine aw_max dX11_all_89 k_X11_350 (Nat.le_of_ble_eq_true rfl) ?_
    refine aw_istore_n (L' := [(3, .int (if x3 < (m2.1 165 x4.toNatClampNeg) then (m2.1 165 x4.toNatClampNeg) else x3)), (2, .int (if v3 < x2 then v3 else x2)), (1, .int (if x1 < v3 then v3 else x1)), (5, .int v3), (0, .ref (ad 0)), (4, .int x4)]) dX11_all_92 rfl (by decide) rfl ?_
    refine aw_iinc (j := 5) (v := x4 + (1 : Int32)) (L' := [(4, .int (x4 + (1 : Int32))), (3, .int (if x3 < (m2.1 165 x4.toNatClampNeg) then (m2.1 165 x4.toNatClampNeg) else x3)), (2, .int (if v3 < x2 then v3 else x2)), (1, .int (if x1 < v3 then v3 else x1)), (5, .int v3), (0, .ref (ad 0))]) dX11_all_93 rfl rfl (by decide) rfl ?_
    refine aw_goto (tgt := 35) dX11_all_96 (by decide) ?_
    exact aw_sub [5, 3, 2, 1, 0] rfl h
set_option maxRecDepth 100000 in
set_option maxHeartbeats 4000000 in
theorem v_X11_next {ad : Nat → Nat} {d : Nat} {Q : Option Value → Wm → Prop} {m : Wm} {x1 : Int32} (h : (Ct ad μX1_has d [.ref (ad 3), .int x1] m (fun r m1 => ∃ v2 : Int32, r = some (.int v2) ∧ ((¬ v2 = 0 → (((2 : Int32) ≤ (m1.1 3 3) → (Ct ad μX8_copy d [.ref (ad 26), .ref (ad 21)] m1 (fun r m3 => r = none ∧ AW ad E0 μX11_next (d + 1) Q 45 [(0, .ref (ad 0)), (1, .int x1), (2, .int (-1 : Int32)), (3, .int (0 : Int32)), (4, .int (0 : Int32))] [] m3))) ∧ (¬ (2 : Int32) ≤ (m1.1 3 3) → Q (some (.int (-2 : Int32))) m1))) ∧ (v2 = 0 → Q (some (.int (-1 : Int32))) m1))))) : Ct ad μX11_next (d + 1) [.ref (ad 0), .int x1] m Q := by
  refine Ct.of (by decide +kernel) rfl (Nat.le_of_ble_eq_true rfl) ?_
  refine aw_eq (L' := [(0, .ref (ad 0)), (1, .int x1)]) ?_ rfl rfl rfl
  refine aw_aload_n (j := 0) dX11_next_0 rfl rfl ?_
  refine aw_getfield (c := 6) (v := .ref (ad 3)) dX11_next_1 f_X11_19 ly_0 rfl rfl ?_
  refine aw_iload_n (j := 1) dX11_next_4 rfl rfl ?_
  refine aw_callV (rest := []) [.int x1] dX11_next_5 ly_3 rfl k_X11_164 rfl h (Nat.le_of_ble_eq_true rfl) (fun v m1 h => ?_)
  obtain ⟨v2, rfl, h⟩ := h
  refine aw_eq (L' := [(0, .ref (ad 0)), (1, .int x1)]) (st' := [.int v2]) (m' := m1) ?_ rfl rfl rfl
  refine aw_if_ne (tgt := 13) dX11_next_8 (by decide) (fun hc => ?_) (fun hc => ?_)
  · have h := h.1 hc
    refine aw_aload_n (j := 0) dX11_next_13 rfl rfl ?_
    refine aw_getfield (c := 6) (v := .ref (ad 3)) dX11_next_14 f_X11_19 ly_0 rfl rfl ?_
    refine aw_getfield (c := 0) (v := .int (m1.1 3 3)) dX11_next_17 f_X11_155 ly_3 rfl rfl ?_
    refine aw_iconst (v := 2) dX11_next_20 (by decide) ?_
    refine aw_icmp_ge (tgt := 27) dX11_next_21 (by decide) (fun hc => ?_) (fun hc => ?_)
    · have h := h.1 hc
      refine aw_aload_n (j := 0) dX11_next_27 rfl rfl ?_
      refine aw_getfield (c := 29) (v := .ref (ad 26)) dX11_next_28 f_X11_37 ly_0 rfl rfl ?_
      refine aw_aload_n (j := 0) dX11_next_31 rfl rfl ?_
      refine aw_getfield (c := 24) (v := .ref (ad 21)) dX11_next_32 f_X11_33 ly_0 rfl rfl ?_
      refine aw_callV (rest := []) [.ref (ad 21)] dX11_next_35 ly_26 rfl k_X11_221 rfl h (Nat.le_of_ble_eq_true rfl) (fun v m3 h => ?_)
      obtain ⟨rfl, h⟩ := h
      refine aw_eq (L' := [(0, .ref (ad 0)), (1, .int x1)]) (st' := []) (m' := m3) ?_ rfl rfl rfl
      refine aw_iconst (v := -1) dX11_next_38 (by decide) ?_
      refine aw_istore_n (L' := [(2, .int (-1 : Int32)), (0, .ref (ad 0)), (1, .int x1)]) dX11_next_39 rfl (by decide) rfl ?_
      refine aw_iconst (v := 0) dX11_next_40 (by decide) ?_
      refine aw_istore_n (L' := [(3, .int (0 : Int32)), (2, .int (-1 : Int32)), (0, .ref (ad 0)), (1, .int x1)]) dX11_next_41 rfl (by decide) rfl ?_
      refine aw_iconst (v := 0) dX11_next_42 (by decide) ?_
      refine aw_istore (L' := [(4, .int (0 : Int32)), (3, .int (0 : Int32)), (2, .int (-1 : Int32)), (0, .ref (ad 0)), (1, .int x1)]) dX11_next_43 (by decide) rfl ?_
      exact aw_sub [3, 4, 2, 1, 0] rfl h
    · have h := h.2 hc
      refine aw_bipush (v := -2) dX11_next_24 (by decide) ?_
      exact aw_ret (v := some (.int (-2 : Int32))) rfl (Or.inr (Or.inl ⟨_, .int, rfl, rfl, rfl, dX11_next_26⟩)) h
  · have h := h.2 hc
    refine aw_iconst (v := -1) dX11_next_11 (by decide) ?_
    exact aw_ret (v := some (.int (-1 : Int32))) rfl (Or.inr (Or.inl ⟨_, .int, rfl, rfl, rfl, dX11_next_12⟩)) h
set_option maxRecDepth 100000 in
set_option maxHeartbeats 4000000 in
theorem g_X11_next_45 {ad : Nat → Nat} {d : Nat} {Q : Option Value → Wm → Prop} {m : Wm} {x1 x2 x3 x4 : Int32} (h : (((3 : Int32) ≤ x4 → (Ct ad μX11_tell d [.ref (ad 0), .long x3.toInt64] m (fun r m1 => r = none ∧ Q (some (.int x2)) m1))) ∧ (¬ (3 : Int32) ≤ x4 → AW ad E0 μX11_next (d + 1) Q 54 [(0, .ref (ad 0)), (1, .int x1), (2, .int x2), (3, .int x3), (4, .int x4), (5, .int (0 : Int32))] [] m))) : AW ad E0 μX11_next (d + 1) Q 45 [(0, .ref (ad 0)), (1, .int x1), (2, .int x2), (3, .int x3), (4, .int x4)] [] m := by
  refine aw_iload (j := 4) dX11_next_45 rfl ?_
  refine aw_iconst (v := 3) dX11_next_47 (by decide) ?_
  refine aw_icmp_ge (tgt := 144) dX11_next_48 (by decide) (fun hc => ?_) (fun hc => ?_)
  · have h := h.1 hc
    refine aw_aload_n (j := 0) dX11_next_144 rfl rfl ?_
    refine aw_iload_n (j := 3) dX11_next_145 rfl rfl ?_
    refine aw_i2l dX11_next_146 ?_
    refine aw_callV (rest := []) [.long x3.toInt64] dX11_next_147 ly_0 rfl k_X11_267 rfl h (Nat.le_of_ble_eq_true rfl) (fun v m1 h => ?_)
    obtain ⟨rfl, h⟩ := h
    refine aw_eq (L' := [(0, .ref (ad 0)), (1, .int x1), (2, .int x2), (3, .int x3), (4, .int x4)]) (st' := []) (m' := m1) ?_ rfl rfl rfl
    refine aw_iload_n (j := 2) dX11_next_150 rfl rfl ?_
    exact aw_ret (v := some (.int x2)) rfl (Or.inr (Or.inl ⟨_, .int, rfl, rfl, rfl, dX11_next_151⟩)) h
  · have h := h.2 hc
    refine aw_iconst (v := 0) dX11_next_51 (by decide) ?_
    refine aw_istore (L' := [(5, .int (0 : Int32)), (0, .ref (ad 0)), (1, .int x1), (2, .int x2), (3, .int x3), (4, .int x4)]) dX11_next_52 (by decide) rfl ?_
    exact aw_sub [1, 2, 3, 4, 5, 0] rfl h
set_option maxRecDepth 100000 in
set_option maxHeartbeats 4000000 in
theorem g_X11_next_54 {ad : Nat → Nat} {d : Nat} {Q : Option Value → Wm → Prop} {m : Wm} {x1 x2 x3 x4 x5 : Int32} (h : (((m.1 3 3) ≤ x5 → AW ad E0 μX11_next (d + 1) Q 45 [(0, .ref (ad 0)), (1, .int x1), (2, .int x2), (3, .int x3), (4, .int (x4 + (1 : Int32)))] [] m) ∧ (¬ (m.1 3 3) ≤ x5 → AW ad E0 μX11_next (d + 1) Q 72 [(0, .ref (ad 0)), (1, .int x1), (2, .int x2), (3, .int x3), (4, .int x4), (5, .int x5), (6, .int (x5 + (1 : Int32)))] [] m))) : AW ad E0 μX11_next (d + 1) Q 54 [(0, .ref (ad 0)), (1, .int x1), (2, .int x2), (3, .int x3), (4, .int x4), (5, .int x5)] [] m := by
  refine aw_iload (j := 5) dX11_next_54 rfl ?_
  refine aw_aload_n (j := 0) dX11_next_56 rfl rfl ?_
  refine aw_getfield (c := 6) (v := .ref (ad 3)) dX11_next_57 f_X11_19 ly_0 rfl rfl ?_
  refine aw_getfield (c := 0) (v := .int (m.1 3 3)) dX11_next_60 f_X11_155 ly_3 rfl rfl ?_
  refine aw_icmp_ge (tgt := 138) dX11_next_63 (by decide) (fun hc => ?_) (fun hc => ?_)
  · have h := h.1 hc
    refine aw_iinc (j := 4) (v := x4 + (1 : Int32)) (L' := [(4, .int (x4 + (1 : Int32))), (0, .ref (ad 0)), (1, .int x1), (2, .int x2), (3, .int x3), (5, .int x5)]) dX11_next_138 rfl rfl (by decide) rfl ?_
    refine aw_goto (tgt := 45) dX11_next_141 (by decide) ?_
    exact aw_sub [1, 2, 3, 4, 0] rfl h
  · have h := h.2 hc
    refine aw_iload (j := 5) dX11_next_66 rfl ?_
    refine aw_iconst (v := 1) dX11_next_68 (by decide) ?_
    refine aw_iadd dX11_next_69 ?_
    refine aw_istore (L' := [(6, .int (x5 + (1 : Int32))), (0, .ref (ad 0)), (1, .int x1), (2, .int x2), (3, .int x3), (4, .int x4), (5, .int x5)]) dX11_next_70 (by decide) rfl ?_
    exact aw_sub [1, 2, 3, 4, 5, 6, 0] rfl h
set_option maxRecDepth 100000 in
set_option maxHeartbeats 4000000 in
theorem g_X11_next_72 {ad : Nat → Nat} {d : Nat} {Q : Option Value → Wm → Prop} {m : Wm} {x1 x2 x3 x4 x5 x6 : Int32} (h : (((m.1 3 3) ≤ x6 → AW ad E0 μX11_next (d + 1) Q 54 [(0, .ref (ad 0)), (1, .int x1), (2, .int x2), (3, .int x3), (4, .int x4), (5, .int (x5 + (1 : Int32)))] [] m) ∧ (¬ (m.1 3 3) ≤ x6 → (Ct ad μX11_powerAfter d [.ref (ad 0), .int x1, .int x5, .int x6, .int x4] m (fun r m1 => ∃ v2 : Int32, r = some (.int v2) ∧ ((x2 = (-1 : Int32) → AW ad E0 μX11_next (d + 1) Q 108 [(0, .ref (ad 0)), (1, .int x1), (4, .int x4), (5, .int x5), (6, .int x6), (7, .int v2)] [] m1) ∧ (¬ x2 = (-1 : Int32) → ((v2 ≤ x3 → AW ad E0 μX11_next (d + 1) Q 72 [(0, .ref (ad 0)), (1, .int x1), (2, .int x2), (3, .int x3), (4, .int x4), (5, .int x5), (6, .int (x6 + (1 : Int32)))] [] m1) ∧ (¬ v2 ≤ x3 → AW ad E0 μX11_next (d + 1) Q 108 [(0, .ref (ad 0)), (1, .int x1), (4, .int x4), (5, .int x5), (6, .int x6), (7, .int v2)] [] m1))))))))) : AW ad E0 μX11_next (d + 1) Q 72 [(0, .ref (ad 0)), (1, .int x1), (2, .int x2), (3, .int x3), (4, .int x4), (5, .int x5), (6, .int x6)] [] m := by
  refine aw_iload (j := 6) dX11_next_72 rfl ?_
  refine aw_aload_n (j := 0) dX11_next_74 rfl rfl ?_
  refine aw_getfield (c := 6) (v := .ref (ad 3)) dX11_next_75 f_X11_19 ly_0 rfl rfl ?_
  refine aw_getfield (c := 0) (v := .int (m.1 3 3)) dX11_next_78 f_X11_155 ly_3 rfl rfl ?_
  refine aw_icmp_ge (tgt := 132) dX11_next_81 (by decide) (fun hc => ?_) (fun hc => ?_)
  · have h := h.1 hc
    refine aw_iinc (j := 5) (v := x5 + (1 : Int32)) (L' := [(5, .int (x5 + (1 : Int32))), (0, .ref (ad 0)), (1, .int x1), (2, .int x2), (3, .int x3), (4, .int x4), (6, .int x6)]) dX11_next_132 rfl rfl (by decide) rfl ?_
    refine aw_goto (tgt := 54) dX11_next_135 (by decide) ?_
    exact aw_sub [1, 2, 3, 4, 5, 0] rfl h
  · have h := h.2 hc
    refine aw_aload_n (j := 0) dX11_next_84 rfl rfl ?_
    refine aw_iload_n (j := 1) dX11_next_85 rfl rfl ?_
    refine aw_iload (j := 5) dX11_next_86 rfl ?_
    refine aw_iload (j := 6) dX11_next_88 rfl ?_
    refine aw_iload (j := 4) dX11_next_90 rfl ?_
    refine aw_callV (rest := []) [.int x1, .int x5, .int x6, .int x4] dX11_next_92 ly_0 rfl k_X11_385 rfl h (Nat.le_of_ble_eq_true rfl) (fun v m1 h => ?_)
    obtain ⟨v2, rfl, h⟩ := h
    refine aw_eq (L' := [(0, .ref (ad 0)), (1, .int x1), (2, .int x2), (3, .int x3), (4, .int x4), (5, .int x5), (6, .int x6)]) (st' := [.int v2]) (m' := m1) ?_ rfl rfl rfl
    refine aw_istore (L' := [(7, .int v2), (0, .ref (ad 0)), (1, .int x1), (2, .int x2), (3, .int x3), (4, .int x4), (5, .int x5), (6, .int x6)]) dX11_next_95 (by decide) rfl ?_
    refine aw_iload_n (j := 3) dX11_next_97 rfl rfl ?_
    refine aw_iconst (v := -1) dX11_next_98 (by decide) ?_
    refine aw_icmp_eq (tgt := 108) dX11_next_99 (by decide) (fun hc => ?_) (fun hc => ?_)
    · have h := h.1 hc
      exact aw_sub [1, 2, 5, 6, 7, 0] rfl h
    · have h := h.2 hc
      refine aw_iload (j := 0) dX11_next_102 rfl ?_
      refine aw_iload_n (j := 4) dX11_next_104 rfl rfl ?_
      refine aw_icmp_le (tgt := 126) dX11_next_105 (by decide) (fun hc => ?_) (fun hc => ?_)
      · have h := h.1 hc
        refine aw_iinc (j := 7) (v := x6 + (1 : Int32)) (L' := [(6, .int (x6 + (1 : Int32))), (7, .int v2), (0, .ref (ad 0)), (1, .int x1), (2, .int x2), (3, .int x3), (4, .int x4), (5, .int x5)]) dX11_next_126 rfl rfl (by decide) rfl ?_
        refine aw_goto (tgt := 72) dX11_next_129 (by decide) ?_
        exact aw_sub [2, 3, 4, 5, 6, 7, 0] rfl h
      · have h := h.2 hc
        exact aw_sub [1, 2, 5, 6, 7, 0] rfl h
set_option maxRecDepth 100000 in
set_option maxHeartbeats 4000000 in
theorem g_X11_next_108 {ad : Nat → Nat} {d : Nat} {Q : Option Value → Wm → Prop} {m : Wm} {x1 x4 x5 x6 x7 : Int32} (h : AW ad E0 μX11_next (d + 1) Q 72 [(0, .ref (ad 0)), (1, .int x1), (2, .int ((((100 : Int32) * x4) + ((10 : Int32) * x5)) + x6)), (3, .int x7), (4, .int x4), (5, .int x5), (6, .int (x6 + (1 : Int32)))] [] m) : AW ad E0 μX11_next (d + 1) Q 108 [(0, .ref (ad 0)), (1, .int x1), (4, .int x4), (5, .int x5), (6, .int x6), (7, .int x7)] [] m := by
  refine aw_bipush (v := 100) dX11_next_108 (by decide) ?_
  refine aw_iload (j := 2) dX11_next_110 rfl ?_
  refine aw_imul dX11_next_112 ?_
  refine aw_bipush (v := 10) dX11_next_113 (by decide) ?_
  refine aw_iload (j := 3) dX11_next_115 rfl ?_
  refine aw_imul dX11_next_117 ?_
  refine aw_iadd dX11_next_118 ?_
  refine aw_iload (j := 4) dX11_next_119 rfl ?_
  refine aw_iadd dX11_next_121 ?_
  refine aw_istore_n (L' := [(2, .int ((((100 : Int32) * x4) + ((10 : Int32) * x5)) + x6)), (0, .ref (ad 0)), (1, .int x1), (4, .int x4), (5, .int x5), (6, .int x6), (7, .int x7)]) dX11_next_122 rfl (by decide) rfl ?_
  refine aw_iload (j := 6) dX11_next_123 rfl ?_
  refine aw_istore_n (L' := [(3, .int x7), (2, .int ((((100 : Int32) * x4) + ((10 : Int32) * x5)) + x6)), (0, .ref (ad 0)), (1, .int x1), (4, .int x4), (5, .int x5), (6, .int x6), (7, .int x7)]) dX11_next_125 rfl (by decide) rfl ?_
  refine aw_iinc (j := 6) (v := x6 + (1 : Int32)) (L' := [(6, .int (x6 + (1 : Int32))), (3, .int x7), (2, .int ((((100 : Int32) * x4) + ((10 : Int32) * x5)) + x6)), (0, .ref (ad 0)), (1, .int x1), (4, .int x4), (5, .int x5), (7, .int x7)]) dX11_next_126 rfl rfl (by decide) rfl ?_
  refine aw_goto (tgt := 72) dX11_next_129 (by decide) ?_
  exact aw_sub [3, 4, 2, 1, 5, 6, 0] rfl h
set_option maxRecDepth 100000 in
set_option maxHeartbeats 4000000 in
theorem v_X11_powerAfter {ad : Nat → Nat} {d : Nat} {Q : Option Value → Wm → Prop} {m : Wm} {x1 x2 x3 x4 : Int32} (h : (Ct ad μX1_result d [.ref (ad 3), .ref (ad 26), .int x2, .int x3, .int x4] m (fun r m1 => ∃ v2 : Int32, r = some (.int v2) ∧ (Ct ad μX1_settle d [.ref (ad 3), .ref (ad 26), .int x2, .int x3, .int v2, .int (0 : Int32)] m1 (fun r m3 => r = none ∧ (Ct ad μX1_power d [.ref (ad 3), .ref (ad 26), .int x1] m3 (fun r m4 => ∃ v5 : Int32, r = some (.int v5) ∧ (Ct ad μX8_copySkills d [.ref (ad 26), .ref (ad 21), .int x2] m4 (fun r m6 => r = none ∧ (Ct ad μX8_copySkills d [.ref (ad 26), .ref (ad 21), .int x3] m6 (fun r m7 => r = none ∧ Q (some (.int v5)) m7))))))))))) : Ct ad μX11_powerAfter (d + 1) [.ref (ad 0), .int x1, .int x2, .int x3, .int x4] m Q := by
  refine Ct.of (by decide +kernel) rfl (Nat.le_of_ble_eq_true rfl) ?_
  refine aw_eq (L' := [(0, .ref (ad 0)), (1, .int x1), (2, .int x2), (3, .int x3), (4, .int x4)]) ?_ rfl rfl rfl
  refine aw_aload_n (j := 0) dX11_powerAfter_0 rfl rfl ?_
  refine aw_getfield (c := 6) (v := .ref (ad 3)) dX11_powerAfter_1 f_X11_19 ly_0 rfl rfl ?_
  refine aw_aload_n (j := 0) dX11_powerAfter_4 rfl rfl ?_
  refine aw_getfield (c := 29) (v := .ref (ad 26)) dX11_powerAfter_5 f_X11_37 ly_0 rfl rfl ?_
  refine aw_iload_n (j := 2) dX11_powerAfter_8 rfl rfl ?_
  refine aw_iload_n (j := 3) dX11_powerAfter_9 rfl rfl ?_
  refine aw_aload_n (j := 0) dX11_powerAfter_10 rfl rfl ?_
  refine aw_getfield (c := 6) (v := .ref (ad 3)) dX11_powerAfter_11 f_X11_19 ly_0 rfl rfl ?_
  refine aw_aload_n (j := 0) dX11_powerAfter_14 rfl rfl ?_
  refine aw_getfield (c := 29) (v := .ref (ad 26)) dX11_powerAfter_15 f_X11_37 ly_0 rfl rfl ?_
  refine aw_iload_n (j := 2) dX11_powerAfter_18 rfl rfl ?_
  refine aw_iload_n (j := 3) dX11_powerAfter_19 rfl rfl ?_
  refine aw_iload (j := 4) dX11_powerAfter_20 rfl ?_
  refine aw_callV (rest := [.int x3, .int x2, .ref (ad 26), .ref (ad 3)]) [.ref (ad 26), .int x2, .int x3, .int x4] dX11_powerAfter_22 ly_3 rfl k_X11_225 rfl h (Nat.le_of_ble_eq_true rfl) (fun v m1 h => ?_)
  obtain ⟨v2, rfl, h⟩ := h
  refine aw_eq (L' := [(0, .ref (ad 0)), (1, .int x1), (2, .int x2), (3, .int x3), (4, .int x4)]) (st' := [.int v2, .int x3, .int x2, .ref (ad 26), .ref (ad 3)]) (m' := m1) ?_ rfl rfl rfl
  refine aw_iconst (v := 0) dX11_powerAfter_25 (by decide) ?_
  refine aw_callV (rest := []) [.ref (ad 26), .int x2, .int x3, .int v2, .int (0 : Int32)] dX11_powerAfter_26 ly_3 rfl k_X11_229 rfl h (Nat.le_of_ble_eq_true rfl) (fun v m3 h => ?_)
  obtain ⟨rfl, h⟩ := h
  refine aw_eq (L' := [(0, .ref (ad 0)), (1, .int x1), (2, .int x2), (3, .int x3), (4, .int x4)]) (st' := []) (m' := m3) ?_ rfl rfl rfl
  refine aw_aload_n (j := 0) dX11_powerAfter_29 rfl rfl ?_
  refine aw_getfield (c := 6) (v := .ref (ad 3)) dX11_powerAfter_30 f_X11_19 ly_0 rfl rfl ?_
  refine aw_aload_n (j := 0) dX11_powerAfter_33 rfl rfl ?_
  refine aw_getfield (c := 29) (v := .ref (ad 26)) dX11_powerAfter_34 f_X11_37 ly_0 rfl rfl ?_
  refine aw_iload_n (j := 1) dX11_powerAfter_37 rfl rfl ?_
  refine aw_callV (rest := []) [.ref (ad 26), .int x1] dX11_powerAfter_38 ly_3 rfl k_X11_177 rfl h (Nat.le_of_ble_eq_true rfl) (fun v m4 h => ?_)
  obtain ⟨v5, rfl, h⟩ := h
  refine aw_eq (L' := [(0, .ref (ad 0)), (1, .int x1), (2, .int x2), (3, .int x3), (4, .int x4)]) (st' := [.int v5]) (m' := m4) ?_ rfl rfl rfl
  refine aw_istore (L' := [(5, .int v5), (0, .ref (ad 0)), (1, .int x1), (2, .int x2), (3, .int x3), (4, .int x4)]) dX11_powerAfter_41 (by decide) rfl ?_
  refine aw_aload_n (j := 1) dX11_powerAfter_43 rfl rfl ?_
  refine aw_getfield (c := 29) (v := .ref (ad 26)) dX11_powerAfter_44 f_X11_37 ly_0 rfl rfl ?_
  refine aw_aload_n (j := 1) dX11_powerAfter_47 rfl rfl ?_
  refine aw_getfield (c := 24) (v := .ref (ad 21)) dX11_powerAfter_48 f_X11_33 ly_0 rfl rfl ?_
  refine aw_iload_n (j := 3) dX11_powerAfter_51 rfl rfl ?_
  refine aw_callV (rest := []) [.ref (ad 21), .int x2] dX11_powerAfter_52 ly_26 rfl k_X11_389 rfl h (Nat.le_of_ble_eq_true rfl) (fun v m6 h => ?_)
  obtain ⟨rfl, h⟩ := h
  refine aw_eq (L' := [(5, .int v5), (0, .ref (ad 0)), (1, .int x1), (2, .int x2), (3, .int x3), (4, .int x4)]) (st' := []) (m' := m6) ?_ rfl rfl rfl
  refine aw_aload_n (j := 1) dX11_powerAfter_55 rfl rfl ?_
  refine aw_getfield (c := 29) (v := .ref (ad 26)) dX11_powerAfter_56 f_X11_37 ly_0 rfl rfl ?_
  refine aw_aload_n (j := 1) dX11_powerAfter_59 rfl rfl ?_
  refine aw_getfield (c := 24) (v := .ref (ad 21)) dX11_powerAfter_60 f_X11_33 ly_0 rfl rfl ?_
  refine aw_iload_n (j := 4) dX11_powerAfter_63 rfl rfl ?_
  refine aw_callV (rest := []) [.ref (ad 21), .int x3] dX11_powerAfter_64 ly_26 rfl k_X11_389 rfl h (Nat.le_of_ble_eq_true rfl) (fun v m7 h => ?_)
  obtain ⟨rfl, h⟩ := h
  refine aw_eq (L' := [(5, .int v5), (0, .ref (ad 0)), (1, .int x1), (2, .int x2), (3, .int x3), (4, .int x4)]) (st' := []) (m' := m7) ?_ rfl rfl rfl
  refine aw_iload (j := 0) dX11_powerAfter_67 rfl ?_
  exact aw_ret (v := some (.int v5)) rfl (Or.inr (Or.inl ⟨_, .int, rfl, rfl, rfl, dX11_powerAfter_69⟩)) h
set_option maxRecDepth 100000 in
set_option maxHeartbeats 4000000 in
theorem v_X11_seen {ad : Nat → Nat} {d : Nat} {Q : Option Value → Wm → Prop} {m : Wm} {x1 x2 x3 : Int32} (h : (Ct ad μX1_canMeet d [.ref (ad 3), .int x1, .int x2] m (fun r m1 => ∃ v2 : Int32, r = some (.int v2) ∧ ((v2 = 0 → Q (some (.int (-1 : Int32))) m1) ∧ (¬ v2 = 0 → ((x3 < 0 → Q (some (.int (-1 : Int32))) m1) ∧ (¬ x3 < 0 → (((2 : Int32) < x3 → Q (some (.int (-1 : Int32))) m1) ∧ (¬ (2 : Int32) < x3 → (((m1.1 0 15) < (12 : Int32) → (vp_in (m1.1 0 15) 12 ∧ (vp_in ((uI m1 146 (m1.1 0 15).toNatClampNeg x1).1 0 15) 12 ∧ (vp_in ((uI (uI m1 146 (m1.1 0 15).toNatClampNeg x1) 147 ((uI m1 146 (m1.1 0 15).toNatClampNeg x1).1 0 15).toNatClampNeg x2).1 0 15) 12 ∧ Q (some (.int ((uI (uI (uI (uI m1 146 (m1.1 0 15).toNatClampNeg x1) 147 ((uI m1 146 (m1.1 0 15).toNatClampNeg x1).1 0 15).toNatClampNeg x2) 148 ((uI (uI m1 146 (m1.1 0 15).toNatClampNeg x1) 147 ((uI m1 146 (m1.1 0 15).toNatClampNeg x1).1 0 15).toNatClampNeg x2).1 0 15).toNatClampNeg x3) 0 15 (((uI (uI (uI m1 146 (m1.1 0 15).toNatClampNeg x1) 147 ((uI m1 146 (m1.1 0 15).toNatClampNeg x1).1 0 15).toNatClampNeg x2) 148 ((uI (uI m1 146 (m1.1 0 15).toNatClampNeg x1) 147 ((uI m1 146 (m1.1 0 15).toNatClampNeg x1).1 0 15).toNatClampNeg x2).1 0 15).toNatClampNeg x3).1 0 15) + (1 : Int32))).1 0 15))) (uI (uI (uI (uI m1 146 (m1.1 0 15).toNatClampNeg x1) 147 ((uI m1 146 (m1.1 0 15).toNatClampNeg x1).1 0 15).toNatClampNeg x2) 148 ((uI (uI m1 146 (m1.1 0 15).toNatClampNeg x1) 147 ((uI m1 146 (m1.1 0 15).toNatClampNeg x1).1 0 15).toNatClampNeg x2).1 0 15).toNatClampNeg x3) 0 15 (((uI (uI (uI m1 146 (m1.1 0 15).toNatClampNeg x1) 147 ((uI m1 146 (m1.1 0 15).toNatClampNeg x1).1 0 15).toNatClampNeg x2) 148 ((uI (uI m1 146 (m1.1 0 15).toNatClampNeg x1) 147 ((uI m1 146 (m1.1 0 15).toNatClampNeg x1).1 0 15).toNatClampNeg x2).1 0 15).toNatClampNeg x3).1 0 15) + (1 : Int32))))))) ∧ (¬ (m1.1 0 15) < (12 : Int32) → Q (some (.int (-1 : Int32))) m1))))))))))) : Ct ad μX11_seen (d + 1) [.ref (ad 0), .int x1, .int x2, .int x3] m Q := by
  refine Ct.of (by decide +kernel) rfl (Nat.le_of_ble_eq_true rfl) ?_
  refine aw_eq (L' := [(0, .ref (ad 0)), (1, .int x1), (2, .int x2), (3, .int x3)]) ?_ rfl rfl rfl
  refine aw_aload_n (j := 0) dX11_seen_0 rfl rfl ?_
  refine aw_getfield (c := 6) (v := .ref (ad 3)) dX11_seen_1 f_X11_19 ly_0 rfl rfl ?_
  refine aw_iload_n (j := 1) dX11_seen_4 rfl rfl ?_
  refine aw_iload_n (j := 2) dX11_seen_5 rfl rfl ?_
  refine aw_callV (rest := []) [.int x1, .int x2] dX11_seen_6 ly_3 rfl k_X11_214 rfl h (Nat.le_of_ble_eq_true rfl) (fun v m1 h => ?_)
  obtain ⟨v2, rfl, h⟩ := h
  refine aw_eq (L' := [(0, .ref (ad 0)), (1, .int x1), (2, .int x2), (3, .int x3)]) (st' := [.int v2]) (m' := m1) ?_ rfl rfl rfl
  refine aw_if_eq (tgt := 30) dX11_seen_9 (by decide) (fun hc => ?_) (fun hc => ?_)
  · have h := h.1 hc
    refine aw_iconst (v := -1) dX11_seen_30 (by decide) ?_
    exact aw_ret (v := some (.int (-1 : Int32))) rfl (Or.inr (Or.inl ⟨_, .int, rfl, rfl, rfl, dX11_seen_31⟩)) h
  · have h := h.2 hc
    refine aw_iload_n (j := 3) dX11_seen_12 rfl rfl ?_
    refine aw_if_lt (tgt := 30) dX11_seen_13 (by decide) (fun hc => ?_) (fun hc => ?_)
    · have h := h.1 hc
      refine aw_iconst (v := -1) dX11_seen_30 (by decide) ?_
      exact aw_ret (v := some (.int (-1 : Int32))) rfl (Or.inr (Or.inl ⟨_, .int, rfl, rfl, rfl, dX11_seen_31⟩)) h
    · have h := h.2 hc
      refine aw_iload_n (j := 3) dX11_seen_16 rfl rfl ?_
      refine aw_iconst (v := 2) dX11_seen_17 (by decide) ?_
      refine aw_icmp_gt (tgt := 30) dX11_seen_18 (by decide) (fun hc => ?_) (fun hc => ?_)
      · have h := h.1 hc
        refine aw_iconst (v := -1) dX11_seen_30 (by decide) ?_
        exact aw_ret (v := some (.int (-1 : Int32))) rfl (Or.inr (Or.inl ⟨_, .int, rfl, rfl, rfl, dX11_seen_31⟩)) h
      · have h := h.2 hc
        refine aw_aload_n (j := 0) dX11_seen_21 rfl rfl ?_
        refine aw_getfield (c := 0) (v := .int (m1.1 0 15)) dX11_seen_22 f_X11_77 ly_0 rfl rfl ?_
        refine aw_bipush (v := 12) dX11_seen_25 (by decide) ?_
        refine aw_icmp_lt (tgt := 32) dX11_seen_27 (by decide) (fun hc => ?_) (fun hc => ?_)
        · have h := h.1 hc
          refine aw_aload_n (j := 0) dX11_seen_32 rfl rfl ?_
          refine aw_getfield (c := 149) (v := .ref (ad 146)) dX11_seen_33 f_X11_67 ly_0 rfl rfl ?_
          refine aw_aload_n (j := 0) dX11_seen_36 rfl rfl ?_
          refine aw_getfield (c := 0) (v := .int (m1.1 0 15)) dX11_seen_37 f_X11_77 ly_0 rfl rfl ?_
          refine aw_iload_n (j := 1) dX11_seen_40 rfl rfl ?_
          obtain ⟨hi, h⟩ := h
          refine aw_iastore dX11_seen_41 ly_146 hi ?_
          refine aw_aload_n (j := 0) dX11_seen_42 rfl rfl ?_
          refine aw_getfield (c := 150) (v := .ref (ad 147)) dX11_seen_43 f_X11_71 ly_0 rfl rfl ?_
          refine aw_aload_n (j := 0) dX11_seen_46 rfl rfl ?_
          refine aw_getfield (c := 0) (v := .int ((uI m1 146 (m1.1 0 15).toNatClampNeg x1).1 0 15)) dX11_seen_47 f_X11_77 ly_0 rfl rfl ?_
          refine aw_iload_n (j := 2) dX11_seen_50 rfl rfl ?_
          obtain ⟨hi, h⟩ := h
          refine aw_iastore dX11_seen_51 ly_147 hi ?_
          refine aw_aload_n (j := 0) dX11_seen_52 rfl rfl ?_
          refine aw_getfield (c := 151) (v := .ref (ad 148)) dX11_seen_53 f_X11_74 ly_0 rfl rfl ?_
          refine aw_aload_n (j := 0) dX11_seen_56 rfl rfl ?_
          refine aw_getfield (c := 0) (v := .int ((uI (uI m1 146 (m1.1 0 15).toNatClampNeg x1) 147 ((uI m1 146 (m1.1 0 15).toNatClampNeg x1).1 0 15).toNatClampNeg x2).1 0 15)) dX11_seen_57 f_X11_77 ly_0 rfl rfl ?_
          refine aw_iload_n (j := 3) dX11_seen_60 rfl rfl ?_
          obtain ⟨hi, h⟩ := h
          refine aw_iastore dX11_seen_61 ly_148 hi ?_
          refine aw_aload_n (j := 0) dX11_seen_62 rfl rfl ?_
          refine aw_dup dX11_seen_63 rfl ?_
          refine aw_getfield (c := 0) (v := .int ((uI (uI (uI m1 146 (m1.1 0 15).toNatClampNeg x1) 147 ((uI m1 146 (m1.1 0 15).toNatClampNeg x1).1 0 15).toNatClampNeg x2) 148 ((uI (uI m1 146 (m1.1 0 15).toNatClampNeg x1) 147 ((uI m1 146 (m1.1 0 15).toNatClampNeg x1).1 0 15).toNatClampNeg x2).1 0 15).toNatClampNeg x3).1 0 15)) dX11_seen_64 f_X11_77 ly_0 rfl rfl ?_
          refine aw_iconst (v := 1) dX11_seen_67 (by decide) ?_
          refine aw_iadd dX11_seen_68 ?_
          refine aw_putI dX11_seen_69 f_X11_77 cl_X11 rfl ly_0 rfl rfl rfl ?_
          refine aw_aload_n (j := 0) dX11_seen_72 rfl rfl ?_
          refine aw_getfield (c := 0) (v := .int ((uI (uI (uI (uI m1 146 (m1.1 0 15).toNatClampNeg x1) 147 ((uI m1 146 (m1.1 0 15).toNatClampNeg x1).1 0 15).toNatClampNeg x2) 148 ((uI (uI m1 146 (m1.1 0 15).toNatClampNeg x1) 147 ((uI m1 146 (m1.1 0 15).toNatClampNeg x1).1 0 15).toNatClampNeg x2).1 0 15).toNatClampNeg x3) 0 15 (((uI (uI (uI m1 146 (m1.1 0 15).toNatClampNeg x1) 147 ((uI m1 146 (m1.1 0 15).toNatClampNeg x1).1 0 15).toNatClampNeg x2) 148 ((uI (uI m1 146 (m1.1 0 15).toNatClampNeg x1) 147 ((uI m1 146 (m1.1 0 15).toNatClampNeg x1).1 0 15).toNatClampNeg x2).1 0 15).toNatClampNeg x3).1 0 15) + (1 : Int32))).1 0 15)) dX11_seen_73 f_X11_77 ly_0 rfl rfl ?_
          exact aw_ret (v := some (.int ((uI (uI (uI (uI m1 146 (m1.1 0 15).toNatClampNeg x1) 147 ((uI m1 146 (m1.1 0 15).toNatClampNeg x1).1 0 15).toNatClampNeg x2) 148 ((uI (uI m1 146 (m1.1 0 15).toNatClampNeg x1) 147 ((uI m1 146 (m1.1 0 15).toNatClampNeg x1).1 0 15).toNatClampNeg x2).1 0 15).toNatClampNeg x3) 0 15 (((uI (uI (uI m1 146 (m1.1 0 15).toNatClampNeg x1) 147 ((uI m1 146 (m1.1 0 15).toNatClampNeg x1).1 0 15).toNatClampNeg x2) 148 ((uI (uI m1 146 (m1.1 0 15).toNatClampNeg x1) 147 ((uI m1 146 (m1.1 0 15).toNatClampNeg x1).1 0 15).toNatClampNeg x2).1 0 15).toNatClampNeg x3).1 0 15) + (1 : Int32))).1 0 15))) rfl (Or.inr (Or.inl ⟨_, .int, rfl, rfl, rfl, dX11_seen_76⟩)) h
        · have h := h.2 hc
          refine aw_iconst (v := -1) dX11_seen_30 (by decide) ?_
          exact aw_ret (v := some (.int (-1 : Int32))) rfl (Or.inr (Or.inl ⟨_, .int, rfl, rfl, rfl, dX11_seen_31⟩)) h
set_option maxRecDepth 100000 in
set_option maxHeartbeats 4000000 in
theorem v_X11_found {ad : Nat → Nat} {d : Nat} {Q : Option Value → Wm → Prop} {m : Wm} (h : AW ad E0 μX11_found (d + 1) Q 2 [(0, .ref (ad 0)), (1, .int (0 : Int32))] [] m) : Ct ad μX11_found (d + 1) [.ref (ad 0)] m Q := by
  refine Ct.of (by decide +kernel) rfl (Nat.le_of_ble_eq_true rfl) ?_
  refine aw_eq (L' := [(0, .ref (ad 0))]) ?_ rfl rfl rfl
  refine aw_iconst (v := 0) dX11_found_0 (by decide) ?_
  refine aw_istore_n (L' := [(1, .int (0 : Int32)), (0, .ref (ad 0))]) dX11_found_1 rfl (by decide) rfl ?_
  exact aw_sub [1, 0] rfl h
set_option maxRecDepth 100000 in
set_option maxHeartbeats 4000000 in
theorem g_X11_found_2 {ad : Nat → Nat} {d : Nat} {Q : Option Value → Wm → Prop} {m : Wm} {x1 : Int32} (h : (((8 : Int32) ≤ x1 → AW ad E0 μX11_found (d + 1) Q 25 [(0, .ref (ad 0)), (1, .int (0 : Int32)), (2, .int (0 : Int32))] [] m) ∧ (¬ (8 : Int32) ≤ x1 → (vp_in x1 8 ∧ AW ad E0 μX11_found (d + 1) Q 2 [(0, .ref (ad 0)), (1, .int (x1 + (1 : Int32)))] [] (uI m 149 x1.toNatClampNeg (0 : Int32)))))) : AW ad E0 μX11_found (d + 1) Q 2 [(0, .ref (ad 0)), (1, .int x1)] [] m := by
  refine aw_iload_n (j := 1) dX11_found_2 rfl rfl ?_
  refine aw_bipush (v := 8) dX11_found_3 (by decide) ?_
  refine aw_icmp_ge (tgt := 21) dX11_found_5 (by decide) (fun hc => ?_) (fun hc => ?_)
  · have h := h.1 hc
    refine aw_iconst (v := 0) dX11_found_21 (by decide) ?_
    refine aw_istore_n (L' := [(1, .int (0 : Int32)), (0, .ref (ad 0))]) dX11_found_22 rfl (by decide) rfl ?_
    refine aw_iconst (v := 0) dX11_found_23 (by decide) ?_
    refine aw_istore_n (L' := [(2, .int (0 : Int32)), (1, .int (0 : Int32)), (0, .ref (ad 0))]) dX11_found_24 rfl (by decide) rfl ?_
    exact aw_sub [2, 1, 0] rfl h
  · have h := h.2 hc
    refine aw_aload_n (j := 0) dX11_found_8 rfl rfl ?_
    refine aw_getfield (c := 152) (v := .ref (ad 149)) dX11_found_9 f_X11_80 ly_0 rfl rfl ?_
    refine aw_iload_n (j := 1) dX11_found_12 rfl rfl ?_
    refine aw_iconst (v := 0) dX11_found_13 (by decide) ?_
    obtain ⟨hi, h⟩ := h
    refine aw_iastore dX11_found_14 ly_149 hi ?_
    refine aw_iinc (j := 1) (v := x1 + (1 : Int32)) (L' := [(1, .int (x1 + (1 : Int32))), (0, .ref (ad 0))]) dX11_found_15 rfl rfl (by decide) rfl ?_
    refine aw_goto (tgt := 2) dX11_found_18 (by decide) ?_
    exact aw_sub [1, 0] rfl h
set_option maxRecDepth 100000 in
set_option maxHeartbeats 4000000 in
theorem g_X11_found_25 {ad : Nat → Nat} {d : Nat} {Q : Option Value → Wm → Prop} {m : Wm} {x1 x2 : Int32} (h : (((m.1 0 15) ≤ x2 → AW ad E0 μX11_found (d + 1) Q 87 [(0, .ref (ad 0)), (1, .int x1), (2, .int (0 : Int32)), (3, .int (0 : Int32))] [] m) ∧ (¬ (m.1 0 15) ≤ x2 → (vp_in x2 12 ∧ (vp_in x2 12 ∧ (Ct ad μX1_result d [.ref (ad 3), .ref (ad 21), .int (m.1 146 x2.toNatClampNeg), .int (m.1 147 x2.toNatClampNeg), .int (0 : Int32)] m (fun r m1 => ∃ v2 : Int32, r = some (.int v2) ∧ (vp_in x2 12 ∧ ((v2 = (m1.1 148 x2.toNatClampNeg) → AW ad E0 μX11_found (d + 1) Q 25 [(0, .ref (ad 0)), (1, .int x1), (2, .int (x2 + (1 : Int32)))] [] m1) ∧ (¬ v2 = (m1.1 148 x2.toNatClampNeg) → (Ct ad μX11_countThrowers d [.ref (ad 0), .int x2] m1 (fun r m3 => r = none ∧ AW ad E0 μX11_found (d + 1) Q 25 [(0, .ref (ad 0)), (1, .int (x1 ||| ((1 : Int32) <<< (x2 &&& 31)))), (2, .int (x2 + (1 : Int32)))] [] m3)))))))))))) : AW ad E0 μX11_found (d + 1) Q 25 [(0, .ref (ad 0)), (1, .int x1), (2, .int x2)] [] m := by
  refine aw_iload_n (j := 2) dX11_found_25 rfl rfl ?_
  refine aw_aload_n (j := 0) dX11_found_26 rfl rfl ?_
  refine aw_getfield (c := 0) (v := .int (m.1 0 15)) dX11_found_27 f_X11_77 ly_0 rfl rfl ?_
  refine aw_icmp_ge (tgt := 83) dX11_found_30 (by decide) (fun hc => ?_) (fun hc => ?_)
  · have h := h.1 hc
    refine aw_iconst (v := 0) dX11_found_83 (by decide) ?_
    refine aw_istore_n (L' := [(2, .int (0 : Int32)), (0, .ref (ad 0)), (1, .int x1)]) dX11_found_84 rfl (by decide) rfl ?_
    refine aw_iconst (v := 0) dX11_found_85 (by decide) ?_
    refine aw_istore_n (L' := [(3, .int (0 : Int32)), (2, .int (0 : Int32)), (0, .ref (ad 0)), (1, .int x1)]) dX11_found_86 rfl (by decide) rfl ?_
    exact aw_sub [2, 3, 1, 0] rfl h
  · have h := h.2 hc
    refine aw_aload_n (j := 0) dX11_found_33 rfl rfl ?_
    refine aw_getfield (c := 6) (v := .ref (ad 3)) dX11_found_34 f_X11_19 ly_0 rfl rfl ?_
    refine aw_aload_n (j := 0) dX11_found_37 rfl rfl ?_
    refine aw_getfield (c := 24) (v := .ref (ad 21)) dX11_found_38 f_X11_33 ly_0 rfl rfl ?_
    refine aw_aload_n (j := 0) dX11_found_41 rfl rfl ?_
    refine aw_getfield (c := 149) (v := .ref (ad 146)) dX11_found_42 f_X11_67 ly_0 rfl rfl ?_
    refine aw_iload_n (j := 2) dX11_found_45 rfl rfl ?_
    obtain ⟨hi, h⟩ := h
    refine aw_iaload dX11_found_46 ly_146 hi ?_
    refine aw_aload_n (j := 0) dX11_found_47 rfl rfl ?_
    refine aw_getfield (c := 150) (v := .ref (ad 147)) dX11_found_48 f_X11_71 ly_0 rfl rfl ?_
    refine aw_iload_n (j := 2) dX11_found_51 rfl rfl ?_
    obtain ⟨hi, h⟩ := h
    refine aw_iaload dX11_found_52 ly_147 hi ?_
    refine aw_iconst (v := 0) dX11_found_53 (by decide) ?_
    refine aw_callV (rest := []) [.ref (ad 21), .int (m.1 146 x2.toNatClampNeg), .int (m.1 147 x2.toNatClampNeg), .int (0 : Int32)] dX11_found_54 ly_3 rfl k_X11_225 rfl h (Nat.le_of_ble_eq_true rfl) (fun v m1 h => ?_)
    obtain ⟨v2, rfl, h⟩ := h
    refine aw_eq (L' := [(0, .ref (ad 0)), (1, .int x1), (2, .int x2)]) (st' := [.int v2]) (m' := m1) ?_ rfl rfl rfl
    refine aw_aload_n (j := 0) dX11_found_57 rfl rfl ?_
    refine aw_getfield (c := 151) (v := .ref (ad 148)) dX11_found_58 f_X11_74 ly_0 rfl rfl ?_
    refine aw_iload_n (j := 2) dX11_found_61 rfl rfl ?_
    obtain ⟨hi, h⟩ := h
    refine aw_iaload dX11_found_62 ly_148 hi ?_
    refine aw_icmp_eq (tgt := 77) dX11_found_63 (by decide) (fun hc => ?_) (fun hc => ?_)
    · have h := h.1 hc
      refine aw_iinc (j := 2) (v := x2 + (1 : Int32)) (L' := [(2, .int (x2 + (1 : Int32))), (0, .ref (ad 0)), (1, .int x1)]) dX11_found_77 rfl rfl (by decide) rfl ?_
      refine aw_goto (tgt := 25) dX11_found_80 (by decide) ?_
      exact aw_sub [1, 2, 0] rfl h
    · have h := h.2 hc
      refine aw_iload_n (j := 1) dX11_found_66 rfl rfl ?_
      refine aw_iconst (v := 1) dX11_found_67 (by decide) ?_
      refine aw_iload_n (j := 2) dX11_found_68 rfl rfl ?_
      refine aw_ishl dX11_found_69 ?_
      refine aw_ior dX11_found_70 ?_
      refine aw_istore_n (L' := [(1, .int (x1 ||| ((1 : Int32) <<< (x2 &&& 31)))), (0, .ref (ad 0)), (2, .int x2)]) dX11_found_71 rfl (by decide) rfl ?_
      refine aw_aload_n (j := 1) dX11_found_72 rfl rfl ?_
      refine aw_iload_n (j := 2) dX11_found_73 rfl rfl ?_
      refine aw_callV (rest := []) [.int x2] dX11_found_74 ly_0 rfl k_X11_393 rfl h (Nat.le_of_ble_eq_true rfl) (fun v m3 h => ?_)
      obtain ⟨rfl, h⟩ := h
      refine aw_eq (L' := [(1, .int (x1 ||| ((1 : Int32) <<< (x2 &&& 31)))), (0, .ref (ad 0)), (2, .int x2)]) (st' := []) (m' := m3) ?_ rfl rfl rfl
      refine aw_iinc (j := 2) (v := x2 + (1 : Int32)) (L' := [(2, .int (x2 + (1 : Int32))), (1, .int (x1 ||| ((1 : Int32) <<< (x2 &&& 31)))), (0, .ref (ad 0))]) dX11_found_77 rfl rfl (by decide) rfl ?_
      refine aw_goto (tgt := 25) dX11_found_80 (by decide) ?_
      exact aw_sub [2, 1, 0] rfl h
set_option maxRecDepth 100000 in
set_option maxHeartbeats 4000000 in
theorem g_X11_found_87 {ad : Nat → Nat} {d : Nat} {Q : Option Value → Wm → Prop} {m : Wm} {x1 x2 x3 : Int32} (h : (((m.1 3 3) ≤ x3 → (Ct ad μJ6_bitCount d [.int x1] m (fun r m1 => ∃ v2 : Int32, r = some (.int v2) ∧ ((¬ x1 = 0 → AW ad E0 μX11_found (d + 1) Q 139 [(0, .ref (ad 0)), (1, .int x1), (2, .int x2)] [.long x2.toInt64, .long v2.toInt64, .ref (ad 0)] m1) ∧ (x1 = 0 → AW ad E0 μX11_found (d + 1) Q 139 [(0, .ref (ad 0)), (1, .int x1), (2, .int x2)] [.long (-1 : Int64), .long v2.toInt64, .ref (ad 0)] m1))))) ∧ (¬ (m.1 3 3) ≤ x3 → (vp_in x3 8 ∧ (vp_in x2 8 ∧ (((m.1 149 x3.toNatClampNeg) ≤ (m.1 149 x2.toNatClampNeg) → AW ad E0 μX11_found (d + 1) Q 87 [(0, .ref (ad 0)), (1, .int x1), (2, .int x2), (3, .int (x3 + (1 : Int32)))] [] m) ∧ (¬ (m.1 149 x3.toNatClampNeg) ≤ (m.1 149 x2.toNatClampNeg) → AW ad E0 μX11_found (d + 1) Q 87 [(0, .ref (ad 0)), (1, .int x1), (2, .int x3), (3, .int (x3 + (1 : Int32)))] [] m))))))) : AW ad E0 μX11_found (d + 1) Q 87 [(0, .ref (ad 0)), (1, .int x1), (2, .int x2), (3, .int x3)] [] m := by
  refine aw_iload_n (j := 3) dX11_found_87 rfl rfl ?_
  refine aw_aload_n (j := 0) dX11_found_88 rfl rfl ?_
  refine aw_getfield (c := 6) (v := .ref (ad 3)) dX11_found_89 f_X11_19 ly_0 rfl rfl ?_
  refine aw_getfield (c := 0) (v := .int (m.1 3 3)) dX11_found_92 f_X11_155 ly_3 rfl rfl ?_
  refine aw_icmp_ge (tgt := 121) dX11_found_95 (by decide) (fun hc => ?_) (fun hc => ?_)
  · have h := h.1 hc
    refine aw_aload_n (j := 0) dX11_found_121 rfl rfl ?_
    refine aw_iload_n (j := 1) dX11_found_122 rfl rfl ?_
    refine aw_callS (rest := [.ref (ad 0)]) [.int x1] dX11_found_123 k_X11_396 rfl h (Nat.le_of_ble_eq_true rfl) (fun v m1 h => ?_)
    obtain ⟨v2, rfl, h⟩ := h
    refine aw_eq (L' := [(0, .ref (ad 0)), (1, .int x1), (2, .int x2), (3, .int x3)]) (st' := [.int v2, .ref (ad 0)]) (m' := m1) ?_ rfl rfl rfl
    refine aw_i2l dX11_found_126 ?_
    refine aw_iload_n (j := 1) dX11_found_127 rfl rfl ?_
    refine aw_if_ne (tgt := 137) dX11_found_128 (by decide) (fun hc => ?_) (fun hc => ?_)
    · have h := h.1 hc
      refine aw_iload_n (j := 2) dX11_found_137 rfl rfl ?_
      refine aw_i2l dX11_found_138 ?_
      exact aw_sub [0, 1, 2] rfl h
    · have h := h.2 hc
      refine aw_ldc2 dX11_found_131 c_X11_401 ?_
      refine aw_goto (tgt := 139) dX11_found_134 (by decide) ?_
      exact aw_sub [0, 1, 2] rfl h
  · have h := h.2 hc
    refine aw_aload_n (j := 0) dX11_found_98 rfl rfl ?_
    refine aw_getfield (c := 152) (v := .ref (ad 149)) dX11_found_99 f_X11_80 ly_0 rfl rfl ?_
    refine aw_iload_n (j := 3) dX11_found_102 rfl rfl ?_
    obtain ⟨hi, h⟩ := h
    refine aw_iaload dX11_found_103 ly_149 hi ?_
    refine aw_aload_n (j := 0) dX11_found_104 rfl rfl ?_
    refine aw_getfield (c := 152) (v := .ref (ad 149)) dX11_found_105 f_X11_80 ly_0 rfl rfl ?_
    refine aw_iload_n (j := 2) dX11_found_108 rfl rfl ?_
    obtain ⟨hi, h⟩ := h
    refine aw_iaload dX11_found_109 ly_149 hi ?_
    refine aw_icmp_le (tgt := 115) dX11_found_110 (by decide) (fun hc => ?_) (fun hc => ?_)
    · have h := h.1 hc
      refine aw_iinc (j := 3) (v := x3 + (1 : Int32)) (L' := [(3, .int (x3 + (1 : Int32))), (0, .ref (ad 0)), (1, .int x1), (2, .int x2)]) dX11_found_115 rfl rfl (by decide) rfl ?_
      refine aw_goto (tgt := 87) dX11_found_118 (by decide) ?_
      exact aw_sub [1, 2, 3, 0] rfl h
    · have h := h.2 hc
      refine aw_iload_n (j := 3) dX11_found_113 rfl rfl ?_
      refine aw_istore_n (L' := [(2, .int x3), (0, .ref (ad 0)), (1, .int x1), (3, .int x3)]) dX11_found_114 rfl (by decide) rfl ?_
      refine aw_iinc (j := 3) (v := x3 + (1 : Int32)) (L' := [(3, .int (x3 + (1 : Int32))), (2, .int x3), (0, .ref (ad 0)), (1, .int x1)]) dX11_found_115 rfl rfl (by decide) rfl ?_
      refine aw_goto (tgt := 87) dX11_found_118 (by decide) ?_
      exact aw_sub [2, 3, 1, 0] rfl h
set_option maxRecDepth 100000 in
set_option maxHeartbeats 4000000 in
theorem g_X11_found_139 {ad : Nat → Nat} {d : Nat} {Q : Option Value → Wm → Prop} {m : Wm} {x1 x2 : Int32} {z0 z1 : Int64} (h : (vp_in x2 8 ∧ (Ct ad μX11_tell__ d [.ref (ad 0), .long z1, .long z0, .long ((m.1 149 x2.toNatClampNeg).toInt64)] m (fun r m1 => r = none ∧ Q (some (.int x1)) m1)))) : AW ad E0 μX11_found (d + 1) Q 139 [(0, .ref (ad 0)), (1, .int x1), (2, .int x2)] [.long z0, .long z1, .ref (ad 0)] m := by
  refine aw_aload_n (j := 0) dX11_found_139 rfl rfl ?_
  refine aw_getfield (c := 152) (v := .ref (ad 149)) dX11_found_140 f_X11_80 ly_0 rfl rfl ?_
  refine aw_iload_n (j := 2) dX11_found_143 rfl rfl ?_
  obtain ⟨hi, h⟩ := h
  refine aw_iaload dX11_found_144 ly_149 hi ?_
  refine aw_i2l dX11_found_145 ?_
  refine aw_callV (rest := []) [.long z1, .long z0, .long ((m.1 149 x2.toNatClampNeg).toInt64)] dX11_found_146 ly_0 rfl k_X11_295 rfl h (Nat.le_of_ble_eq_true rfl) (fun v m1 h => ?_)
  obtain ⟨rfl, h⟩ := h
  refine aw_eq (L' := [(0, .ref (ad 0)), (1, .int x1), (2, .int x2)]) (st' := []) (m' := m1) ?_ rfl rfl rfl
  refine aw_iload_n (j := 1) dX11_found_149 rfl rfl ?_
  exact aw_ret (v := some (.int x1)) rfl (Or.inr (Or.inl ⟨_, .int, rfl, rfl, rfl, dX11_found_150⟩)) h
set_option maxRecDepth 100000 in
set_option maxHeartbeats 4000000 in
theorem v_X11_countThrowers {ad : Nat → Nat} {d : Nat} {Q : Option Value → Wm → Prop} {m : Wm} {x1 : Int32} (h : (vp_in x1 12 ∧ (((m.1 148 x1.toNatClampNeg) = 0 → AW ad E0 μX11_countThrowers d Q 24 [(0, .ref (ad 0)), (1, .int x1)] [] m) ∧ (¬ (m.1 148 x1.toNatClampNeg) = 0 → (vp_in x1 12 ∧ (vp_in (m.1 146 x1.toNatClampNeg) 8 ∧ (vp_in (m.1 146 x1.toNatClampNeg) 8 ∧ AW ad E0 μX11_countThrowers d Q 24 [(0, .ref (ad 0)), (1, .int x1)] [] (uI m 149 (m.1 146 x1.toNatClampNeg).toNatClampNeg ((m.1 149 (m.1 146 x1.toNatClampNeg).toNatClampNeg) + (1 : Int32)))))))))) : Ct ad μX11_countThrowers d [.ref (ad 0), .int x1] m Q := by
  refine Ct.of (by decide +kernel) rfl (Nat.le_of_ble_eq_true rfl) ?_
  refine aw_eq (L' := [(0, .ref (ad 0)), (1, .int x1)]) ?_ rfl rfl rfl
  refine aw_aload_n (j := 0) dX11_countThrowers_0 rfl rfl ?_
  refine aw_getfield (c := 151) (v := .ref (ad 148)) dX11_countThrowers_1 f_X11_74 ly_0 rfl rfl ?_
  refine aw_iload_n (j := 1) dX11_countThrowers_4 rfl rfl ?_
  obtain ⟨hi, h⟩ := h
  refine aw_iaload dX11_countThrowers_5 ly_148 hi ?_
  refine aw_if_eq (tgt := 24) dX11_countThrowers_6 (by decide) (fun hc => ?_) (fun hc => ?_)
  · have h := h.1 hc
    exact aw_sub [0, 1] rfl h
  · have h := h.2 hc
    refine aw_aload_n (j := 0) dX11_countThrowers_9 rfl rfl ?_
    refine aw_getfield (c := 152) (v := .ref (ad 149)) dX11_countThrowers_10 f_X11_80 ly_0 rfl rfl ?_
    refine aw_aload_n (j := 0) dX11_countThrowers_13 rfl rfl ?_
    refine aw_getfield (c := 149) (v := .ref (ad 146)) dX11_countThrowers_14 f_X11_67 ly_0 rfl rfl ?_
    refine aw_iload_n (j := 1) dX11_countThrowers_17 rfl rfl ?_
    obtain ⟨hi, h⟩ := h
    refine aw_iaload dX11_countThrowers_18 ly_146 hi ?_
    refine aw_dup2_11 dX11_countThrowers_19 rfl rfl ?_
    obtain ⟨hi, h⟩ := h
    refine aw_iaload dX11_countThrowers_20 ly_149 hi ?_
    refine aw_iconst (v := 1) dX11_countThrowers_21 (by decide) ?_
    refine aw_iadd dX11_countThrowers_22 ?_
    obtain ⟨hi, h⟩ := h
    refine aw_iastore dX11_countThrowers_23 ly_149 hi ?_
    exact aw_sub [0, 1] rfl h
set_option maxRecDepth 100000 in
set_option maxHeartbeats 4000000 in
theorem g_X11_countThrowers_24 {ad : Nat → Nat} {d : Nat} {Q : Option Value → Wm → Prop} {m : Wm} {x1 : Int32} (h : (vp_in x1 12 ∧ (((m.1 148 x1.toNatClampNeg) = (1 : Int32) → Q none m) ∧ (¬ (m.1 148 x1.toNatClampNeg) = (1 : Int32) → (vp_in x1 12 ∧ (vp_in (m.1 147 x1.toNatClampNeg) 8 ∧ (vp_in (m.1 147 x1.toNatClampNeg) 8 ∧ Q none (uI m 149 (m.1 147 x1.toNatClampNeg).toNatClampNeg ((m.1 149 (m.1 147 x1.toNatClampNeg).toNatClampNeg) + (1 : Int32)))))))))) : AW ad E0 μX11_countThrowers d Q 24 [(0, .ref (ad 0)), (1, .int x1)] [] m := by
  refine aw_aload_n (j := 0) dX11_countThrowers_24 rfl rfl ?_
  refine aw_getfield (c := 151) (v := .ref (ad 148)) dX11_countThrowers_25 f_X11_74 ly_0 rfl rfl ?_
  refine aw_iload_n (j := 1) dX11_countThrowers_28 rfl rfl ?_
  obtain ⟨hi, h⟩ := h
  refine aw_iaload dX11_countThrowers_29 ly_148 hi ?_
  refine aw_iconst (v := 1) dX11_countThrowers_30 (by decide) ?_
  refine aw_icmp_eq (tgt := 49) dX11_countThrowers_31 (by decide) (fun hc => ?_) (fun hc => ?_)
  · have h := h.1 hc
    exact aw_ret (v := none) rfl (Or.inl ⟨rfl, rfl, dX11_countThrowers_49⟩) h
  · have h := h.2 hc
    refine aw_aload_n (j := 0) dX11_countThrowers_34 rfl rfl ?_
    refine aw_getfield (c := 152) (v := .ref (ad 149)) dX11_countThrowers_35 f_X11_80 ly_0 rfl rfl ?_
    refine aw_aload_n (j := 0) dX11_countThrowers_38 rfl rfl ?_
    refine aw_getfield (c := 150) (v := .ref (ad 147)) dX11_countThrowers_39 f_X11_71 ly_0 rfl rfl ?_
    refine aw_iload_n (j := 1) dX11_countThrowers_42 rfl rfl ?_
    obtain ⟨hi, h⟩ := h
    refine aw_iaload dX11_countThrowers_43 ly_147 hi ?_
    refine aw_dup2_11 dX11_countThrowers_44 rfl rfl ?_
    obtain ⟨hi, h⟩ := h
    refine aw_iaload dX11_countThrowers_45 ly_149 hi ?_
    refine aw_iconst (v := 1) dX11_countThrowers_46 (by decide) ?_
    refine aw_iadd dX11_countThrowers_47 ?_
    obtain ⟨hi, h⟩ := h
    refine aw_iastore dX11_countThrowers_48 ly_149 hi ?_
    exact aw_ret (v := none) rfl (Or.inl ⟨rfl, rfl, dX11_countThrowers_49⟩) h
set_option maxRecDepth 100000 in
set_option maxHeartbeats 4000000 in
theorem v_X11_prize {ad : Nat → Nat} {d : Nat} {Q : Option Value → Wm → Prop} {m : Wm} (h : ((¬ (m.1 3 3) = 0 → AW ad E0 μX11_prize (d + 1) Q 19 [(0, .ref (ad 0)), (1, .int (0 : Int32)), (2, .int (0 : Int32)), (3, .int (0 : Int32))] [] m) ∧ ((m.1 3 3) = 0 → Q (some (.int (-2 : Int32))) m))) : Ct ad μX11_prize (d + 1) [.ref (ad 0)] m Q := by
  refine Ct.of (by decide +kernel) rfl (Nat.le_of_ble_eq_true rfl) ?_
  refine aw_eq (L' := [(0, .ref (ad 0))]) ?_ rfl rfl rfl
  refine aw_aload_n (j := 0) dX11_prize_0 rfl rfl ?_
  refine aw_getfield (c := 6) (v := .ref (ad 3)) dX11_prize_1 f_X11_19 ly_0 rfl rfl ?_
  refine aw_getfield (c := 0) (v := .int (m.1 3 3)) dX11_prize_4 f_X11_155 ly_3 rfl rfl ?_
  refine aw_if_ne (tgt := 13) dX11_prize_7 (by decide) (fun hc => ?_) (fun hc => ?_)
  · have h := h.1 hc
    refine aw_iconst (v := 0) dX11_prize_13 (by decide) ?_
    refine aw_istore_n (L' := [(1, .int (0 : Int32)), (0, .ref (ad 0))]) dX11_prize_14 rfl (by decide) rfl ?_
    refine aw_iconst (v := 0) dX11_prize_15 (by decide) ?_
    refine aw_istore_n (L' := [(2, .int (0 : Int32)), (1, .int (0 : Int32)), (0, .ref (ad 0))]) dX11_prize_16 rfl (by decide) rfl ?_
    refine aw_iconst (v := 0) dX11_prize_17 (by decide) ?_
    refine aw_istore_n (L' := [(3, .int (0 : Int32)), (2, .int (0 : Int32)), (1, .int (0 : Int32)), (0, .ref (ad 0))]) dX11_prize_18 rfl (by decide) rfl ?_
    exact aw_sub [3, 2, 1, 0] rfl h
  · have h := h.2 hc
    refine aw_bipush (v := -2) dX11_prize_10 (by decide) ?_
    exact aw_ret (v := some (.int (-2 : Int32))) rfl (Or.inr (Or.inl ⟨_, .int, rfl, rfl, rfl, dX11_prize_12⟩)) h
set_option maxRecDepth 100000 in
set_option maxHeartbeats 4000000 in
theorem g_X11_prize_19 {ad : Nat → Nat} {d : Nat} {Q : Option Value → Wm → Prop} {m : Wm} {x1 x2 x3 : Int32} (h : (((m.1 3 3) ≤ x3 → (vp_in x1 8 ∧ (Ct ad μX11_tell_ d [.ref (ad 0), .long ((m.1 24 x1.toNatClampNeg).toInt64), .long x2.toInt64] m (fun r m1 => r = none ∧ Q (some (.int x1)) m1)))) ∧ (¬ (m.1 3 3) ≤ x3 → (vp_in x3 8 ∧ (vp_in x3 8 ∧ (vp_in x1 8 ∧ (((m.1 24 x3.toNatClampNeg) ≤ (m.1 24 x1.toNatClampNeg) → AW ad E0 μX11_prize (d + 1) Q 19 [(0, .ref (ad 0)), (1, .int x1), (2, .int (x2 + (m.1 24 x3.toNatClampNeg))), (3, .int (x3 + (1 : Int32)))] [] m) ∧ (¬ (m.1 24 x3.toNatClampNeg) ≤ (m.1 24 x1.toNatClampNeg) → AW ad E0 μX11_prize (d + 1) Q 19 [(0, .ref (ad 0)), (1, .int x3), (2, .int (x2 + (m.1 24 x3.toNatClampNeg))), (3, .int (x3 + (1 : Int32)))] [] m)))))))) : AW ad E0 μX11_prize (d + 1) Q 19 [(0, .ref (ad 0)), (1, .int x1), (2, .int x2), (3, .int x3)] [] m := by
  refine aw_iload_n (j := 3) dX11_prize_19 rfl rfl ?_
  refine aw_aload_n (j := 0) dX11_prize_20 rfl rfl ?_
  refine aw_getfield (c := 6) (v := .ref (ad 3)) dX11_prize_21 f_X11_19 ly_0 rfl rfl ?_
  refine aw_getfield (c := 0) (v := .int (m.1 3 3)) dX11_prize_24 f_X11_155 ly_3 rfl rfl ?_
  refine aw_icmp_ge (tgt := 71) dX11_prize_27 (by decide) (fun hc => ?_) (fun hc => ?_)
  · have h := h.1 hc
    refine aw_aload_n (j := 0) dX11_prize_71 rfl rfl ?_
    refine aw_aload_n (j := 0) dX11_prize_72 rfl rfl ?_
    refine aw_getfield (c := 24) (v := .ref (ad 21)) dX11_prize_73 f_X11_33 ly_0 rfl rfl ?_
    refine aw_getfield (c := 27) (v := .ref (ad 24)) dX11_prize_76 f_X11_184 ly_21 rfl rfl ?_
    refine aw_iload_n (j := 1) dX11_prize_79 rfl rfl ?_
    obtain ⟨hi, h⟩ := h
    refine aw_iaload dX11_prize_80 ly_24 hi ?_
    refine aw_i2l dX11_prize_81 ?_
    refine aw_iload_n (j := 2) dX11_prize_82 rfl rfl ?_
    refine aw_i2l dX11_prize_83 ?_
    refine aw_callV (rest := []) [.long ((m.1 24 x1.toNatClampNeg).toInt64), .long x2.toInt64] dX11_prize_84 ly_0 rfl k_X11_239 rfl h (Nat.le_of_ble_eq_true rfl) (fun v m1 h => ?_)
    obtain ⟨rfl, h⟩ := h
    refine aw_eq (L' := [(0, .ref (ad 0)), (1, .int x1), (2, .int x2), (3, .int x3)]) (st' := []) (m' := m1) ?_ rfl rfl rfl
    refine aw_iload_n (j := 1) dX11_prize_87 rfl rfl ?_
    exact aw_ret (v := some (.int x1)) rfl (Or.inr (Or.inl ⟨_, .int, rfl, rfl, rfl, dX11_prize_88⟩)) h
  · have h := h.2 hc
    refine aw_iload_n (j := 2) dX11_prize_30 rfl rfl ?_
    refine aw_aload_n (j := 0) dX11_prize_31 rfl rfl ?_
    refine aw_getfield (c := 24) (v := .ref (ad 21)) dX11_prize_32 f_X11_33 ly_0 rfl rfl ?_
    refine aw_getfield (c := 27) (v := .ref (ad 24)) dX11_prize_35 f_X11_184 ly_21 rfl rfl ?_
    refine aw_iload_n (j := 3) dX11_prize_38 rfl rfl ?_
    obtain ⟨hi, h⟩ := h
    refine aw_iaload dX11_prize_39 ly_24 hi ?_
    refine aw_iadd dX11_prize_40 ?_
    refine aw_istore_n (L' := [(2, .int (x2 + (m.1 24 x3.toNatClampNeg))), (0, .ref (ad 0)), (1, .int x1), (3, .int x3)]) dX11_prize_41 rfl (by decide) rfl ?_
    refine aw_aload_n (j := 1) dX11_prize_42 rfl rfl ?_
    refine aw_getfield (c := 24) (v := .ref (ad 21)) dX11_prize_43 f_X11_33 ly_0 rfl rfl ?_
    refine aw_getfield (c := 27) (v := .ref (ad 24)) dX11_prize_46 f_X11_184 ly_21 rfl rfl ?_
    refine aw_iload_n (j := 3) dX11_prize_49 rfl rfl ?_
    obtain ⟨hi, h⟩ := h
    refine aw_iaload dX11_prize_50 ly_24 hi ?_
    refine aw_aload_n (j := 1) dX11_prize_51 rfl rfl ?_
    refine aw_getfield (c := 24) (v := .ref (ad 21)) dX11_prize_52 f_X11_33 ly_0 rfl rfl ?_
    refine aw_getfield (c := 27) (v := .ref (ad 24)) dX11_prize_55 f_X11_184 ly_21 rfl rfl ?_
    refine aw_iload_n (j := 2) dX11_prize_58 rfl rfl ?_
    obtain ⟨hi, h⟩ := h
    refine aw_iaload dX11_prize_59 ly_24 hi ?_
    refine aw_icmp_le (tgt := 65) dX11_prize_60 (by decide) (fun hc => ?_) (fun hc => ?_)
    · have h := h.1 hc
      refine aw_iinc (j := 3) (v := x3 + (1 : Int32)) (L' := [(3, .int (x3 + (1 : Int32))), (2, .int (x2 + (m.1 24 x3.toNatClampNeg))), (0, .ref (ad 0)), (1, .int x1)]) dX11_prize_65 rfl rfl (by decide) rfl ?_
      refine aw_goto (tgt := 19) dX11_prize_68 (by decide) ?_
      exact aw_sub [2, 3, 1, 0] rfl h
    · have h := h.2 hc
      refine aw_iload_n (j := 3) dX11_prize_63 rfl rfl ?_
      refine aw_istore_n (L' := [(1, .int x3), (2, .int (x2 + (m.1 24 x3.toNatClampNeg))), (0, .ref (ad 0)), (3, .int x3)]) dX11_prize_64 rfl (by decide) rfl ?_
      refine aw_iinc (j := 3) (v := x3 + (1 : Int32)) (L' := [(3, .int (x3 + (1 : Int32))), (1, .int x3), (2, .int (x2 + (m.1 24 x3.toNatClampNeg))), (0, .ref (ad 0))]) dX11_prize_65 rfl rfl (by decide) rfl ?_
      refine aw_goto (tgt := 19) dX11_prize_68 (by decide) ?_
      exact aw_sub [3, 1, 2, 0] rfl h
set_option maxRecDepth 100000 in
set_option maxHeartbeats 4000000 in
theorem v_X11_pays {ad : Nat → Nat} {d : Nat} {Q : Option Value → Wm → Prop} {m : Wm} {x1 x2 : Int32} (h : (Ct ad μX1_has d [.ref (ad 3), .int x1] m (fun r m1 => ∃ v2 : Int32, r = some (.int v2) ∧ ((v2 = 0 → Q (some (.int (-1 : Int32))) m1) ∧ (¬ v2 = 0 → ((x2 < 0 → Q (some (.int (-1 : Int32))) m1) ∧ (¬ x2 < 0 → (((50 : Int32) < x2 → Q (some (.int (-1 : Int32))) m1) ∧ (¬ (50 : Int32) < x2 → (∃ r3, m1.2.2 0 9 = some r3 ∧ Pl r3 ∧ ((¬ (m1.1 r3 5) = 0 → (Ct ad μX11_playAhead d [.ref (ad 0), .int x2] m1 (fun r m4 => r = none ∧ (vp_in x1 8 ∧ (Ct ad μX11_playAhead d [.ref (ad 0), .int x2] (uI m4 3 5 ((m4.1 3 5) ^^^ ((1 : Int32) <<< (x1 &&& 31)))) (fun r m5 => r = none ∧ (vp_in x1 8 ∧ (Ct ad μX11_tell_ d [.ref (ad 0), .long ((m4.1 28 x1.toNatClampNeg).toInt64), .long (((uI m5 3 5 ((m5.1 3 5) ^^^ ((1 : Int32) <<< (x1 &&& 31)))).1 28 x1.toNatClampNeg).toInt64)] (uI m5 3 5 ((m5.1 3 5) ^^^ ((1 : Int32) <<< (x1 &&& 31)))) (fun r m6 => r = none ∧ (vp_in x1 8 ∧ Q (some (.int ((m4.1 28 x1.toNatClampNeg) - (m6.1 28 x1.toNatClampNeg)))) m6)))))))))) ∧ ((m1.1 r3 5) = 0 → Q (some (.int (-1 : Int32))) m1)))))))))))) : Ct ad μX11_pays (d + 1) [.ref (ad 0), .int x1, .int x2] m Q := by
  refine Ct.of (by decide +kernel) rfl (Nat.le_of_ble_eq_true rfl) ?_
  refine aw_eq (L' := [(0, .ref (ad 0)), (1, .int x1), (2, .int x2)]) ?_ rfl rfl rfl
  refine aw_aload_n (j := 0) dX11_pays_0 rfl rfl ?_
  refine aw_getfield (c := 6) (v := .ref (ad 3)) dX11_pays_1 f_X11_19 ly_0 rfl rfl ?_
  refine aw_iload_n (j := 1) dX11_pays_4 rfl rfl ?_
  refine aw_callV (rest := []) [.int x1] dX11_pays_5 ly_3 rfl k_X11_164 rfl h (Nat.le_of_ble_eq_true rfl) (fun v m1 h => ?_)
  obtain ⟨v2, rfl, h⟩ := h
  refine aw_eq (L' := [(0, .ref (ad 0)), (1, .int x1), (2, .int x2)]) (st' := [.int v2]) (m' := m1) ?_ rfl rfl rfl
  refine aw_if_eq (tgt := 31) dX11_pays_8 (by decide) (fun hc => ?_) (fun hc => ?_)
  · have h := h.1 hc
    refine aw_iconst (v := -1) dX11_pays_31 (by decide) ?_
    exact aw_ret (v := some (.int (-1 : Int32))) rfl (Or.inr (Or.inl ⟨_, .int, rfl, rfl, rfl, dX11_pays_32⟩)) h
  · have h := h.2 hc
    refine aw_iload_n (j := 2) dX11_pays_11 rfl rfl ?_
    refine aw_if_lt (tgt := 31) dX11_pays_12 (by decide) (fun hc => ?_) (fun hc => ?_)
    · have h := h.1 hc
      refine aw_iconst (v := -1) dX11_pays_31 (by decide) ?_
      exact aw_ret (v := some (.int (-1 : Int32))) rfl (Or.inr (Or.inl ⟨_, .int, rfl, rfl, rfl, dX11_pays_32⟩)) h
    · have h := h.2 hc
      refine aw_iload_n (j := 2) dX11_pays_15 rfl rfl ?_
      refine aw_bipush (v := 50) dX11_pays_16 (by decide) ?_
      refine aw_icmp_gt (tgt := 31) dX11_pays_18 (by decide) (fun hc => ?_) (fun hc => ?_)
      · have h := h.1 hc
        refine aw_iconst (v := -1) dX11_pays_31 (by decide) ?_
        exact aw_ret (v := some (.int (-1 : Int32))) rfl (Or.inr (Or.inl ⟨_, .int, rfl, rfl, rfl, dX11_pays_32⟩)) h
      · have h := h.2 hc
        refine aw_aload_n (j := 0) dX11_pays_21 rfl rfl ?_
        obtain ⟨r3, hrr3, hr3, h⟩ := h
        refine aw_getfield (c := 2) (v := .ref (ad r3)) dX11_pays_22 f_X11_56 ly_0 rfl (by show va_rf (Option.map ad (m1.2.2 0 9)) = _; rw [hrr3]; rfl) ?_
        refine aw_getfield (c := 0) (v := .int (m1.1 r3 5)) dX11_pays_25 f_X11_161 hr3.1 rfl rfl ?_
        refine aw_if_ne (tgt := 33) dX11_pays_28 (by decide) (fun hc => ?_) (fun hc => ?_)
        · have h := h.1 hc
          refine aw_aload_n (j := 0) dX11_pays_33 rfl rfl ?_
          refine aw_iload_n (j := 2) dX11_pays_34 rfl rfl ?_
          refine aw_callV (rest := []) [.int x2] dX11_pays_35 ly_0 rfl k_X11_403 rfl h (Nat.le_of_ble_eq_true rfl) (fun v m4 h => ?_)
          obtain ⟨rfl, h⟩ := h
          refine aw_eq (L' := [(0, .ref (ad 0)), (1, .int x1), (2, .int x2)]) (st' := []) (m' := m4) ?_ rfl rfl rfl
          refine aw_aload_n (j := 0) dX11_pays_38 rfl rfl ?_
          refine aw_getfield (c := 29) (v := .ref (ad 26)) dX11_pays_39 f_X11_37 ly_0 rfl rfl ?_
          refine aw_getfield (c := 31) (v := .ref (ad 28)) dX11_pays_42 f_X11_181 ly_26 rfl rfl ?_
          refine aw_iload_n (j := 1) dX11_pays_45 rfl rfl ?_
          obtain ⟨hi, h⟩ := h
          refine aw_iaload dX11_pays_46 ly_28 hi ?_
          refine aw_istore_n (L' := [(3, .int (m4.1 28 x1.toNatClampNeg)), (0, .ref (ad 0)), (1, .int x1), (2, .int x2)]) dX11_pays_47 rfl (by decide) rfl ?_
          refine aw_aload_n (j := 1) dX11_pays_48 rfl rfl ?_
          refine aw_getfield (c := 6) (v := .ref (ad 3)) dX11_pays_49 f_X11_19 ly_0 rfl rfl ?_
          refine aw_dup dX11_pays_52 rfl ?_
          refine aw_getfield (c := 0) (v := .int (m4.1 3 5)) dX11_pays_53 f_X11_211 ly_3 rfl rfl ?_
          refine aw_iconst (v := 1) dX11_pays_56 (by decide) ?_
          refine aw_iload_n (j := 2) dX11_pays_57 rfl rfl ?_
          refine aw_ishl dX11_pays_58 ?_
          refine aw_ixor dX11_pays_59 ?_
          refine aw_putI dX11_pays_60 f_X11_211 cl_X1 rfl ly_3 rfl rfl rfl ?_
          refine aw_aload_n (j := 1) dX11_pays_63 rfl rfl ?_
          refine aw_iload_n (j := 3) dX11_pays_64 rfl rfl ?_
          refine aw_callV (rest := []) [.int x2] dX11_pays_65 ly_0 rfl k_X11_403 rfl h (Nat.le_of_ble_eq_true rfl) (fun v m5 h => ?_)
          obtain ⟨rfl, h⟩ := h
          refine aw_eq (L' := [(3, .int (m4.1 28 x1.toNatClampNeg)), (0, .ref (ad 0)), (1, .int x1), (2, .int x2)]) (st' := []) (m' := m5) ?_ rfl rfl rfl
          refine aw_aload_n (j := 1) dX11_pays_68 rfl rfl ?_
          refine aw_getfield (c := 6) (v := .ref (ad 3)) dX11_pays_69 f_X11_19 ly_0 rfl rfl ?_
          refine aw_dup dX11_pays_72 rfl ?_
          refine aw_getfield (c := 0) (v := .int (m5.1 3 5)) dX11_pays_73 f_X11_211 ly_3 rfl rfl ?_
          refine aw_iconst (v := 1) dX11_pays_76 (by decide) ?_
          refine aw_iload_n (j := 2) dX11_pays_77 rfl rfl ?_
          refine aw_ishl dX11_pays_78 ?_
          refine aw_ixor dX11_pays_79 ?_
          refine aw_putI dX11_pays_80 f_X11_211 cl_X1 rfl ly_3 rfl rfl rfl ?_
          refine aw_aload_n (j := 1) dX11_pays_83 rfl rfl ?_
          refine aw_iload_n (j := 0) dX11_pays_84 rfl rfl ?_
          refine aw_i2l dX11_pays_85 ?_
          refine aw_aload_n (j := 1) dX11_pays_86 rfl rfl ?_
          refine aw_getfield (c := 29) (v := .ref (ad 26)) dX11_pays_87 f_X11_37 ly_0 rfl rfl ?_
          refine aw_getfield (c := 31) (v := .ref (ad 28)) dX11_pays_90 f_X11_181 ly_26 rfl rfl ?_
          refine aw_iload_n (j := 2) dX11_pays_93 rfl rfl ?_
          obtain ⟨hi, h⟩ := h
          refine aw_iaload dX11_pays_94 ly_28 hi ?_
          refine aw_i2l dX11_pays_95 ?_
          refine aw_callV (rest := []) [.long ((m4.1 28 x1.toNatClampNeg).toInt64), .long (((uI m5 3 5 ((m5.1 3 5) ^^^ ((1 : Int32) <<< (x1 &&& 31)))).1 28 x1.toNatClampNeg).toInt64)] dX11_pays_96 ly_0 rfl k_X11_239 rfl h (Nat.le_of_ble_eq_true rfl) (fun v m6 h => ?_)
          obtain ⟨rfl, h⟩ := h
          refine aw_eq (L' := [(3, .int (m4.1 28 x1.toNatClampNeg)), (0, .ref (ad 0)), (1, .int x1), (2, .int x2)]) (st' := []) (m' := m6) ?_ rfl rfl rfl
          refine aw_iload_n (j := 0) dX11_pays_99 rfl rfl ?_
          refine aw_aload_n (j := 1) dX11_pays_100 rfl rfl ?_
          refine aw_getfield (c := 29) (v := .ref (ad 26)) dX11_pays_101 f_X11_37 ly_0 rfl rfl ?_
          refine aw_getfield (c := 31) (v := .ref (ad 28)) dX11_pays_104 f_X11_181 ly_26 rfl rfl ?_
          refine aw_iload_n (j := 2) dX11_pays_107 rfl rfl ?_
          obtain ⟨hi, h⟩ := h
          refine aw_iaload dX11_pays_108 ly_28 hi ?_
          refine aw_isub dX11_pays_109 ?_
          exact aw_ret (v := some (.int ((m4.1 28 x1.toNatClampNeg) - (m6.1 28 x1.toNatClampNeg)))) rfl (Or.inr (Or.inl ⟨_, .int, rfl, rfl, rfl, dX11_pays_110⟩)) h
        · have h := h.2 hc
          refine aw_iconst (v := -1) dX11_pays_31 (by decide) ?_
          exact aw_ret (v := some (.int (-1 : Int32))) rfl (Or.inr (Or.inl ⟨_, .int, rfl, rfl, rfl, dX11_pays_32⟩)) h
set_option maxRecDepth 100000 in
set_option maxHeartbeats 4000000 in
theorem v_X11_laws {ad : Nat → Nat} {d : Nat} {Q : Option Value → Wm → Prop} {m : Wm} {x1 : Int32} (h : ((x1 < 0 → Q (some (.int (-1 : Int32))) m) ∧ (¬ x1 < 0 → (((50 : Int32) < x1 → Q (some (.int (-1 : Int32))) m) ∧ (¬ (50 : Int32) < x1 → (∃ r1, m.2.2 0 9 = some r1 ∧ Pl r1 ∧ ((¬ (m.1 r1 5) = 0 → AW ad E0 μX11_laws (d + 1) Q 37 [(0, .ref (ad 0)), (1, .int x1), (2, .int (m.1 4 (0 : Int32).toNatClampNeg)), (3, .int (0 : Int32)), (4, .int (0 : Int32))] [] m) ∧ ((m.1 r1 5) = 0 → Q (some (.int (-1 : Int32))) m)))))))) : Ct ad μX11_laws (d + 1) [.ref (ad 0), .int x1] m Q := by
  refine Ct.of (by decide +kernel) rfl (Nat.le_of_ble_eq_true rfl) ?_
  refine aw_eq (L' := [(0, .ref (ad 0)), (1, .int x1)]) ?_ rfl rfl rfl
  refine aw_iload_n (j := 1) dX11_laws_0 rfl rfl ?_
  refine aw_if_lt (tgt := 20) dX11_laws_1 (by decide) (fun hc => ?_) (fun hc => ?_)
  · have h := h.1 hc
    refine aw_iconst (v := -1) dX11_laws_20 (by decide) ?_
    exact aw_ret (v := some (.int (-1 : Int32))) rfl (Or.inr (Or.inl ⟨_, .int, rfl, rfl, rfl, dX11_laws_21⟩)) h
  · have h := h.2 hc
    refine aw_iload_n (j := 1) dX11_laws_4 rfl rfl ?_
    refine aw_bipush (v := 50) dX11_laws_5 (by decide) ?_
    refine aw_icmp_gt (tgt := 20) dX11_laws_7 (by decide) (fun hc => ?_) (fun hc => ?_)
    · have h := h.1 hc
      refine aw_iconst (v := -1) dX11_laws_20 (by decide) ?_
      exact aw_ret (v := some (.int (-1 : Int32))) rfl (Or.inr (Or.inl ⟨_, .int, rfl, rfl, rfl, dX11_laws_21⟩)) h
    · have h := h.2 hc
      refine aw_aload_n (j := 0) dX11_laws_10 rfl rfl ?_
      obtain ⟨r1, hrr1, hr1, h⟩ := h
      refine aw_getfield (c := 2) (v := .ref (ad r1)) dX11_laws_11 f_X11_56 ly_0 rfl (by show va_rf (Option.map ad (m.2.2 0 9)) = _; rw [hrr1]; rfl) ?_
      refine aw_getfield (c := 0) (v := .int (m.1 r1 5)) dX11_laws_14 f_X11_161 hr1.1 rfl rfl ?_
      refine aw_if_ne (tgt := 22) dX11_laws_17 (by decide) (fun hc => ?_) (fun hc => ?_)
      · have h := h.1 hc
        refine aw_aload_n (j := 0) dX11_laws_22 rfl rfl ?_
        refine aw_getfield (c := 6) (v := .ref (ad 3)) dX11_laws_23 f_X11_19 ly_0 rfl rfl ?_
        refine aw_getfield (c := 7) (v := .ref (ad 4)) dX11_laws_26 f_X11_197 ly_3 rfl rfl ?_
        refine aw_iconst (v := 0) dX11_laws_29 (by decide) ?_
        refine aw_iaload dX11_laws_30 ly_4 (by unfold vp_in; decide) ?_
        refine aw_istore_n (L' := [(2, .int (m.1 4 (0 : Int32).toNatClampNeg)), (0, .ref (ad 0)), (1, .int x1)]) dX11_laws_31 rfl (by decide) rfl ?_
        refine aw_iconst (v := 0) dX11_laws_32 (by decide) ?_
        refine aw_istore_n (L' := [(3, .int (0 : Int32)), (2, .int (m.1 4 (0 : Int32).toNatClampNeg)), (0, .ref (ad 0)), (1, .int x1)]) dX11_laws_33 rfl (by decide) rfl ?_
        refine aw_iconst (v := 0) dX11_laws_34 (by decide) ?_
        refine aw_istore (L' := [(4, .int (0 : Int32)), (3, .int (0 : Int32)), (2, .int (m.1 4 (0 : Int32).toNatClampNeg)), (0, .ref (ad 0)), (1, .int x1)]) dX11_laws_35 (by decide) rfl ?_
        exact aw_sub [3, 4, 2, 1, 0] rfl h
      · have h := h.2 hc
        refine aw_iconst (v := -1) dX11_laws_20 (by decide) ?_
        exact aw_ret (v := some (.int (-1 : Int32))) rfl (Or.inr (Or.inl ⟨_, .int, rfl, rfl, rfl, dX11_laws_21⟩)) h
set_option maxRecDepth 100000 in
set_option maxHeartbeats 4000000 in
theorem g_X11_laws_37 {ad : Nat → Nat} {d : Nat} {Q : Option Value → Wm → Prop} {m : Wm} {x1 x2 x3 x4 : Int32} (h : (((4 : Int32) ≤ x4 → Q (some (.int x3)) (uI (uI m 4 (0 : Int32).toNatClampNeg x2) 0 18 (4 : Int32))) ∧ (¬ (4 : Int32) ≤ x4 → (Ct ad μX11_playAhead d [.ref (ad 0), .int x1] (uI m 4 (0 : Int32).toNatClampNeg x4) (fun r m1 => r = none ∧ (Ct ad μX1_total d [.ref (ad 3), .ref (ad 26)] m1 (fun r m2 => ∃ v3 : Int32, r = some (.int v3) ∧ (vp_in x4 10 ∧ (vp_in x4 10 ∧ (vp_in x3 10 ∧ (((lg_cmp ((uL m2 150 x4.toNatClampNeg v3.toInt64).2.1 150 x4.toNatClampNeg) ((uL m2 150 x4.toNatClampNeg v3.toInt64).2.1 150 x3.toNatClampNeg)) ≤ 0 → AW ad E0 μX11_laws (d + 1) Q 37 [(0, .ref (ad 0)), (1, .int x1), (2, .int x2), (3, .int x3), (4, .int (x4 + (1 : Int32)))] [] (uL m2 150 x4.toNatClampNeg v3.toInt64)) ∧ (¬ (lg_cmp ((uL m2 150 x4.toNatClampNeg v3.toInt64).2.1 150 x4.toNatClampNeg) ((uL m2 150 x4.toNatClampNeg v3.toInt64).2.1 150 x3.toNatClampNeg)) ≤ 0 → AW ad E0 μX11_laws (d + 1) Q 37 [(0, .ref (ad 0)), (1, .int x1), (2, .int x2), (3, .int x4), (4, .int (x4 + (1 : Int32)))] [] (uL m2 150 x4.toNatClampNeg v3.toInt64))))))))))))) : AW ad E0 μX11_laws (d + 1) Q 37 [(0, .ref (ad 0)), (1, .int x1), (2, .int x2), (3, .int x3), (4, .int x4)] [] m := by
  refine aw_iload (j := 4) dX11_laws_37 rfl ?_
  refine aw_iconst (v := 4) dX11_laws_39 (by decide) ?_
  refine aw_icmp_ge (tgt := 104) dX11_laws_40 (by decide) (fun hc => ?_) (fun hc => ?_)
  · have h := h.1 hc
    refine aw_aload_n (j := 0) dX11_laws_104 rfl rfl ?_
    refine aw_getfield (c := 6) (v := .ref (ad 3)) dX11_laws_105 f_X11_19 ly_0 rfl rfl ?_
    refine aw_getfield (c := 7) (v := .ref (ad 4)) dX11_laws_108 f_X11_197 ly_3 rfl rfl ?_
    refine aw_iconst (v := 0) dX11_laws_111 (by decide) ?_
    refine aw_iload_n (j := 2) dX11_laws_112 rfl rfl ?_
    refine aw_iastore dX11_laws_113 ly_4 (by unfold vp_in; decide) ?_
    refine aw_aload_n (j := 0) dX11_laws_114 rfl rfl ?_
    refine aw_iconst (v := 4) dX11_laws_115 (by decide) ?_
    refine aw_putI dX11_laws_116 f_X11_87 cl_X11 rfl ly_0 rfl rfl rfl ?_
    refine aw_iload_n (j := 3) dX11_laws_119 rfl rfl ?_
    exact aw_ret (v := some (.int x3)) rfl (Or.inr (Or.inl ⟨_, .int, rfl, rfl, rfl, dX11_laws_120⟩)) h
  · have h := h.2 hc
    refine aw_aload_n (j := 0) dX11_laws_43 rfl rfl ?_
    refine aw_getfield (c := 6) (v := .ref (ad 3)) dX11_laws_44 f_X11_19 ly_0 rfl rfl ?_
    refine aw_getfield (c := 7) (v := .ref (ad 4)) dX11_laws_47 f_X11_197 ly_3 rfl rfl ?_
    refine aw_iconst (v := 0) dX11_laws_50 (by decide) ?_
    refine aw_iload (j := 4) dX11_laws_51 rfl ?_
    refine aw_iastore dX11_laws_53 ly_4 (by unfold vp_in; decide) ?_
    refine aw_aload_n (j := 0) dX11_laws_54 rfl rfl ?_
    refine aw_iload_n (j := 1) dX11_laws_55 rfl rfl ?_
    refine aw_callV (rest := []) [.int x1] dX11_laws_56 ly_0 rfl k_X11_403 rfl h (Nat.le_of_ble_eq_true rfl) (fun v m1 h => ?_)
    obtain ⟨rfl, h⟩ := h
    refine aw_eq (L' := [(0, .ref (ad 0)), (1, .int x1), (2, .int x2), (3, .int x3), (4, .int x4)]) (st' := []) (m' := m1) ?_ rfl rfl rfl
    refine aw_aload_n (j := 0) dX11_laws_59 rfl rfl ?_
    refine aw_getfield (c := 153) (v := .ref (ad 150)) dX11_laws_60 f_X11_83 ly_0 rfl rfl ?_
    refine aw_iload (j := 4) dX11_laws_63 rfl ?_
    refine aw_aload_n (j := 0) dX11_laws_65 rfl rfl ?_
    refine aw_getfield (c := 6) (v := .ref (ad 3)) dX11_laws_66 f_X11_19 ly_0 rfl rfl ?_
    refine aw_aload_n (j := 0) dX11_laws_69 rfl rfl ?_
    refine aw_getfield (c := 29) (v := .ref (ad 26)) dX11_laws_70 f_X11_37 ly_0 rfl rfl ?_
    refine aw_callV (rest := [.int x4, .ref (ad 150)]) [.ref (ad 26)] dX11_laws_73 ly_3 rfl k_X11_263 rfl h (Nat.le_of_ble_eq_true rfl) (fun v m2 h => ?_)
    obtain ⟨v3, rfl, h⟩ := h
    refine aw_eq (L' := [(0, .ref (ad 0)), (1, .int x1), (2, .int x2), (3, .int x3), (4, .int x4)]) (st' := [.int v3, .int x4, .ref (ad 150)]) (m' := m2) ?_ rfl rfl rfl
    refine aw_i2l dX11_laws_76 ?_
    obtain ⟨hi, h⟩ := h
    refine aw_lastore dX11_laws_77 ly_150 hi ?_
    refine aw_aload_n (j := 0) dX11_laws_78 rfl rfl ?_
    refine aw_getfield (c := 153) (v := .ref (ad 150)) dX11_laws_79 f_X11_83 ly_0 rfl rfl ?_
    refine aw_iload (j := 4) dX11_laws_82 rfl ?_
    obtain ⟨hi, h⟩ := h
    refine aw_laload dX11_laws_84 ly_150 hi ?_
    refine aw_aload_n (j := 0) dX11_laws_85 rfl rfl ?_
    refine aw_getfield (c := 153) (v := .ref (ad 150)) dX11_laws_86 f_X11_83 ly_0 rfl rfl ?_
    refine aw_iload_n (j := 3) dX11_laws_89 rfl rfl ?_
    obtain ⟨hi, h⟩ := h
    refine aw_laload dX11_laws_90 ly_150 hi ?_
    refine aw_lcmp dX11_laws_91 ?_
    refine aw_if_le (tgt := 98) dX11_laws_92 (by decide) (fun hc => ?_) (fun hc => ?_)
    · have h := h.1 hc
      refine aw_iinc (j := 4) (v := x4 + (1 : Int32)) (L' := [(4, .int (x4 + (1 : Int32))), (0, .ref (ad 0)), (1, .int x1), (2, .int x2), (3, .int x3)]) dX11_laws_98 rfl rfl (by decide) rfl ?_
      refine aw_goto (tgt := 37) dX11_laws_101 (by decide) ?_
      exact aw_sub [1, 2, 3, 4, 0] rfl h
    · have h := h.2 hc
      refine aw_iload (j := 4) dX11_laws_95 rfl ?_
      refine aw_istore_n (L' := [(3, .int x4), (0, .ref (ad 0)), (1, .int x1), (2, .int x2), (4, .int x4)]) dX11_laws_97 rfl (by decide) rfl ?_
      refine aw_iinc (j := 4) (v := x4 + (1 : Int32)) (L' := [(4, .int (x4 + (1 : Int32))), (3, .int x4), (0, .ref (ad 0)), (1, .int x1), (2, .int x2)]) dX11_laws_98 rfl rfl (by decide) rfl ?_
      refine aw_goto (tgt := 37) dX11_laws_101 (by decide) ?_
      exact aw_sub [2, 3, 4, 1, 0] rfl h
set_option maxRecDepth 100000 in
set_option maxHeartbeats 4000000 in
theorem v_X11_playAhead {ad : Nat → Nat} {d : Nat} {Q : Option Value → Wm → Prop} {m : Wm} {x1 : Int32} (h : (Ct ad μX8_copy d [.ref (ad 26), .ref (ad 21)] m (fun r m1 => r = none ∧ AW ad E0 μX11_playAhead (d + 1) Q 18 [(0, .ref (ad 0)), (1, .int x1), (2, .int (m1.1 0 11)), (3, .int (0 : Int32))] [] m1))) : Ct ad μX11_playAhead (d + 1) [.ref (ad 0), .int x1] m Q := by
  refine Ct.of (by decide +kernel) rfl (Nat.le_of_ble_eq_true rfl) ?_
  refine aw_eq (L' := [(0, .ref (ad 0)), (1, .int x1)]) ?_ rfl rfl rfl
  refine aw_aload_n (j := 0) dX11_playAhead_0 rfl rfl ?_
  refine aw_getfield (c := 29) (v := .ref (ad 26)) dX11_playAhead_1 f_X11_37 ly_0 rfl rfl ?_
  refine aw_aload_n (j := 0) dX11_playAhead_4 rfl rfl ?_
  refine aw_getfield (c := 24) (v := .ref (ad 21)) dX11_playAhead_5 f_X11_33 ly_0 rfl rfl ?_
  refine aw_callV (rest := []) [.ref (ad 21)] dX11_playAhead_8 ly_26 rfl k_X11_221 rfl h (Nat.le_of_ble_eq_true rfl) (fun v m1 h => ?_)
  obtain ⟨rfl, h⟩ := h
  refine aw_eq (L' := [(0, .ref (ad 0)), (1, .int x1)]) (st' := []) (m' := m1) ?_ rfl rfl rfl
  refine aw_aload_n (j := 0) dX11_playAhead_11 rfl rfl ?_
  refine aw_getfield (c := 0) (v := .int (m1.1 0 11)) dX11_playAhead_12 f_X11_63 ly_0 rfl rfl ?_
  refine aw_istore_n (L' := [(2, .int (m1.1 0 11)), (0, .ref (ad 0)), (1, .int x1)]) dX11_playAhead_15 rfl (by decide) rfl ?_
  refine aw_iconst (v := 0) dX11_playAhead_16 (by decide) ?_
  refine aw_istore_n (L' := [(3, .int (0 : Int32)), (2, .int (m1.1 0 11)), (0, .ref (ad 0)), (1, .int x1)]) dX11_playAhead_17 rfl (by decide) rfl ?_
  exact aw_sub [2, 3, 1, 0] rfl h
set_option maxRecDepth 100000 in
set_option maxHeartbeats 4000000 in
theorem g_X11_playAhead_18 {ad : Nat → Nat} {d : Nat} {Q : Option Value → Wm → Prop} {m : Wm} {x1 x2 x3 : Int32} (h : ((x1 ≤ x3 → Q none m) ∧ (¬ x1 ≤ x3 → (∃ r1, m.2.2 0 9 = some r1 ∧ Pl r1 ∧ (Ct ad μX3_begin d [.ref (ad r1), .int (x2 + (1 : Int32))] m (fun r m2 => ∃ v3 : Int32, r = some (.int v3) ∧ (∃ r4, m2.2.2 0 9 = some r4 ∧ Pl r4 ∧ (Ct ad μX3_begin d [.ref (ad r4), .int x2] m2 (fun r m5 => ∃ v6 : Int32, r = some (.int v6) ∧ AW ad E0 μX11_playAhead (d + 1) Q 45 [(0, .ref (ad 0)), (1, .int x1), (2, .int x2), (3, .int x3), (4, .int v3), (5, .int v6)] [] m5))))))))) : AW ad E0 μX11_playAhead (d + 1) Q 18 [(0, .ref (ad 0)), (1, .int x1), (2, .int x2), (3, .int x3)] [] m := by
  refine aw_iload_n (j := 3) dX11_playAhead_18 rfl rfl ?_
  refine aw_iload_n (j := 1) dX11_playAhead_19 rfl rfl ?_
  refine aw_icmp_ge (tgt := 150) dX11_playAhead_20 (by decide) (fun hc => ?_) (fun hc => ?_)
  · have h := h.1 hc
    exact aw_ret (v := none) rfl (Or.inl ⟨rfl, rfl, dX11_playAhead_150⟩) h
  · have h := h.2 hc
    refine aw_aload_n (j := 0) dX11_playAhead_23 rfl rfl ?_
    obtain ⟨r1, hrr1, hr1, h⟩ := h
    refine aw_getfield (c := 2) (v := .ref (ad r1)) dX11_playAhead_24 f_X11_56 ly_0 rfl (by show va_rf (Option.map ad (m.2.2 0 9)) = _; rw [hrr1]; rfl) ?_
    refine aw_iload_n (j := 2) dX11_playAhead_27 rfl rfl ?_
    refine aw_iconst (v := 1) dX11_playAhead_28 (by decide) ?_
    refine aw_iadd dX11_playAhead_29 ?_
    refine aw_callV (rest := []) [.int (x2 + (1 : Int32))] dX11_playAhead_30 hr1.1 rfl k_X11_270 rfl h (Nat.le_of_ble_eq_true rfl) (fun v m2 h => ?_)
    obtain ⟨v3, rfl, h⟩ := h
    refine aw_eq (L' := [(0, .ref (ad 0)), (1, .int x1), (2, .int x2), (3, .int x3)]) (st' := [.int v3]) (m' := m2) ?_ rfl rfl rfl
    refine aw_istore (L' := [(4, .int v3), (0, .ref (ad 0)), (1, .int x1), (2, .int x2), (3, .int x3)]) dX11_playAhead_33 (by decide) rfl ?_
    refine aw_aload_n (j := 1) dX11_playAhead_35 rfl rfl ?_
    obtain ⟨r4, hrr4, hr4, h⟩ := h
    refine aw_getfield (c := 2) (v := .ref (ad r4)) dX11_playAhead_36 f_X11_56 ly_0 rfl (by show va_rf (Option.map ad (m2.2.2 0 9)) = _; rw [hrr4]; rfl) ?_
    refine aw_iload_n (j := 3) dX11_playAhead_39 rfl rfl ?_
    refine aw_callV (rest := []) [.int x2] dX11_playAhead_40 hr4.1 rfl k_X11_270 rfl h (Nat.le_of_ble_eq_true rfl) (fun v m5 h => ?_)
    obtain ⟨v6, rfl, h⟩ := h
    refine aw_eq (L' := [(4, .int v3), (0, .ref (ad 0)), (1, .int x1), (2, .int x2), (3, .int x3)]) (st' := [.int v6]) (m' := m5) ?_ rfl rfl rfl
    refine aw_istore (L' := [(5, .int v6), (4, .int v3), (0, .ref (ad 0)), (1, .int x1), (2, .int x2), (3, .int x3)]) dX11_playAhead_43 (by decide) rfl ?_
    exact aw_sub [2, 3, 4, 5, 1, 0] rfl h
set_option maxRecDepth 100000 in
set_option maxHeartbeats 4000000 in
theorem g_X11_playAhead_45 {ad : Nat → Nat} {d : Nat} {Q : Option Value → Wm → Prop} {m : Wm} {x1 x2 x3 x4 x5 : Int32} (h : ((x4 ≤ x5 → (∃ r1, m.2.2 0 9 = some r1 ∧ Pl r1 ∧ (Ct ad μX3_after d [.ref (ad r1), .int x2] m (fun r m2 => ∃ v3 : Int32, r = some (.int v3) ∧ AW ad E0 μX11_playAhead (d + 1) Q 18 [(0, .ref (ad 0)), (1, .int x1), (2, .int v3), (3, .int (x3 + (1 : Int32)))] [] m2)))) ∧ (¬ x4 ≤ x5 → (∃ r4, m.2.2 0 9 = some r4 ∧ Pl r4 ∧ (vp_in x5 48 ∧ (∃ r5, m.2.2 0 9 = some r5 ∧ Pl r5 ∧ (vp_in x5 48 ∧ (∃ r6, m.2.2 0 9 = some r6 ∧ Pl r6 ∧ (vp_in x5 48 ∧ (Ct ad μX1_result d [.ref (ad 3), .ref (ad 26), .int (m.1 (r4 + 1) x5.toNatClampNeg), .int (m.1 (r5 + 2) x5.toNatClampNeg), .int (m.1 (r6 + 3) x5.toNatClampNeg)] m (fun r m7 => ∃ v8 : Int32, r = some (.int v8) ∧ (∃ r9, m7.2.2 0 9 = some r9 ∧ Pl r9 ∧ (vp_in x5 48 ∧ (∃ r10, m7.2.2 0 9 = some r10 ∧ Pl r10 ∧ (vp_in x5 48 ∧ (Ct ad μX1_settle d [.ref (ad 3), .ref (ad 26), .int (m7.1 (r9 + 1) x5.toNatClampNeg), .int (m7.1 (r10 + 2) x5.toNatClampNeg), .int v8, .int (1 : Int32)] m7 (fun r m11 => r = none ∧ AW ad E0 μX11_playAhead (d + 1) Q 45 [(0, .ref (ad 0)), (1, .int x1), (2, .int x2), (3, .int x3), (4, .int x4), (5, .int (x5 + (1 : Int32)))] [] m11))))))))))))))))) : AW ad E0 μX11_playAhead (d + 1) Q 45 [(0, .ref (ad 0)), (1, .int x1), (2, .int x2), (3, .int x3), (4, .int x4), (5, .int x5)] [] m := by
  refine aw_iload (j := 5) dX11_playAhead_45 rfl ?_
  refine aw_iload (j := 4) dX11_playAhead_47 rfl ?_
  refine aw_icmp_ge (tgt := 135) dX11_playAhead_49 (by decide) (fun hc => ?_) (fun hc => ?_)
  · have h := h.1 hc
    refine aw_aload_n (j := 0) dX11_playAhead_135 rfl rfl ?_
    obtain ⟨r1, hrr1, hr1, h⟩ := h
    refine aw_getfield (c := 2) (v := .ref (ad r1)) dX11_playAhead_136 f_X11_56 ly_0 rfl (by show va_rf (Option.map ad (m.2.2 0 9)) = _; rw [hrr1]; rfl) ?_
    refine aw_iload_n (j := 2) dX11_playAhead_139 rfl rfl ?_
    refine aw_callV (rest := []) [.int x2] dX11_playAhead_140 hr1.1 rfl k_X11_281 rfl h (Nat.le_of_ble_eq_true rfl) (fun v m2 h => ?_)
    obtain ⟨v3, rfl, h⟩ := h
    refine aw_eq (L' := [(0, .ref (ad 0)), (1, .int x1), (2, .int x2), (3, .int x3), (4, .int x4), (5, .int x5)]) (st' := [.int v3]) (m' := m2) ?_ rfl rfl rfl
    refine aw_istore_n (L' := [(2, .int v3), (0, .ref (ad 0)), (1, .int x1), (3, .int x3), (4, .int x4), (5, .int x5)]) dX11_playAhead_143 rfl (by decide) rfl ?_
    refine aw_iinc (j := 3) (v := x3 + (1 : Int32)) (L' := [(3, .int (x3 + (1 : Int32))), (2, .int v3), (0, .ref (ad 0)), (1, .int x1), (4, .int x4), (5, .int x5)]) dX11_playAhead_144 rfl rfl (by decide) rfl ?_
    refine aw_goto (tgt := 18) dX11_playAhead_147 (by decide) ?_
    exact aw_sub [2, 3, 1, 0] rfl h
  · have h := h.2 hc
    refine aw_aload_n (j := 0) dX11_playAhead_52 rfl rfl ?_
    refine aw_getfield (c := 6) (v := .ref (ad 3)) dX11_playAhead_53 f_X11_19 ly_0 rfl rfl ?_
    refine aw_aload_n (j := 0) dX11_playAhead_56 rfl rfl ?_
    refine aw_getfield (c := 29) (v := .ref (ad 26)) dX11_playAhead_57 f_X11_37 ly_0 rfl rfl ?_
    refine aw_aload_n (j := 0) dX11_playAhead_60 rfl rfl ?_
    obtain ⟨r4, hrr4, hr4, h⟩ := h
    refine aw_getfield (c := 2) (v := .ref (ad r4)) dX11_playAhead_61 f_X11_56 ly_0 rfl (by show va_rf (Option.map ad (m.2.2 0 9)) = _; rw [hrr4]; rfl) ?_
    refine aw_getfield (c := r4 + 1 + 3) (v := .ref (ad (r4 + 1))) dX11_playAhead_64 f_X11_274 hr4.1 rfl rfl ?_
    refine aw_iload (j := 5) dX11_playAhead_67 rfl ?_
    obtain ⟨hi, h⟩ := h
    refine aw_iaload dX11_playAhead_69 hr4.2.1 hi ?_
    refine aw_aload_n (j := 0) dX11_playAhead_70 rfl rfl ?_
    obtain ⟨r5, hrr5, hr5, h⟩ := h
    refine aw_getfield (c := 2) (v := .ref (ad r5)) dX11_playAhead_71 f_X11_56 ly_0 rfl (by show va_rf (Option.map ad (m.2.2 0 9)) = _; rw [hrr5]; rfl) ?_
    refine aw_getfield (c := r5 + 2 + 3) (v := .ref (ad (r5 + 2))) dX11_playAhead_74 f_X11_277 hr5.1 rfl rfl ?_
    refine aw_iload (j := 5) dX11_playAhead_77 rfl ?_
    obtain ⟨hi, h⟩ := h
    refine aw_iaload dX11_playAhead_79 hr5.2.2.1 hi ?_
    refine aw_aload_n (j := 0) dX11_playAhead_80 rfl rfl ?_
    obtain ⟨r6, hrr6, hr6, h⟩ := h
    refine aw_getfield (c := 2) (v := .ref (ad r6)) dX11_playAhead_81 f_X11_56 ly_0 rfl (by show va_rf (Option.map ad (m.2.2 0 9)) = _; rw [hrr6]; rfl) ?_
    refine aw_getfield (c := r6 + 3 + 3) (v := .ref (ad (r6 + 3))) dX11_playAhead_84 f_X11_280 hr6.1 rfl rfl ?_
    refine aw_iload (j := 5) dX11_playAhead_87 rfl ?_
    obtain ⟨hi, h⟩ := h
    refine aw_iaload dX11_playAhead_89 hr6.2.2.2.1 hi ?_
    refine aw_callV (rest := []) [.ref (ad 26), .int (m.1 (r4 + 1) x5.toNatClampNeg), .int (m.1 (r5 + 2) x5.toNatClampNeg), .int (m.1 (r6 + 3) x5.toNatClampNeg)] dX11_playAhead_90 ly_3 rfl k_X11_225 rfl h (Nat.le_of_ble_eq_true rfl) (fun v m7 h => ?_)
    obtain ⟨v8, rfl, h⟩ := h
    refine aw_eq (L' := [(0, .ref (ad 0)), (1, .int x1), (2, .int x2), (3, .int x3), (4, .int x4), (5, .int x5)]) (st' := [.int v8]) (m' := m7) ?_ rfl rfl rfl
    refine aw_istore (L' := [(6, .int v8), (0, .ref (ad 0)), (1, .int x1), (2, .int x2), (3, .int x3), (4, .int x4), (5, .int x5)]) dX11_playAhead_93 (by decide) rfl ?_
    refine aw_aload_n (j := 1) dX11_playAhead_95 rfl rfl ?_
    refine aw_getfield (c := 6) (v := .ref (ad 3)) dX11_playAhead_96 f_X11_19 ly_0 rfl rfl ?_
    refine aw_aload_n (j := 1) dX11_playAhead_99 rfl rfl ?_
    refine aw_getfield (c := 29) (v := .ref (ad 26)) dX11_playAhead_100 f_X11_37 ly_0 rfl rfl ?_
    refine aw_aload_n (j := 1) dX11_playAhead_103 rfl rfl ?_
    obtain ⟨r9, hrr9, hr9, h⟩ := h
    refine aw_getfield (c := 2) (v := .ref (ad r9)) dX11_playAhead_104 f_X11_56 ly_0 rfl (by show va_rf (Option.map ad (m7.2.2 0 9)) = _; rw [hrr9]; rfl) ?_
    refine aw_getfield (c := r9 + 1 + 3) (v := .ref (ad (r9 + 1))) dX11_playAhead_107 f_X11_274 hr9.1 rfl rfl ?_
    refine aw_iload (j := 6) dX11_playAhead_110 rfl ?_
    obtain ⟨hi, h⟩ := h
    refine aw_iaload dX11_playAhead_112 hr9.2.1 hi ?_
    refine aw_aload_n (j := 1) dX11_playAhead_113 rfl rfl ?_
    obtain ⟨r10, hrr10, hr10, h⟩ := h
    refine aw_getfield (c := 2) (v := .ref (ad r10)) dX11_playAhead_114 f_X11_56 ly_0 rfl (by show va_rf (Option.map ad (m7.2.2 0 9)) = _; rw [hrr10]; rfl) ?_
    refine aw_getfield (c := r10 + 2 + 3) (v := .ref (ad (r10 + 2))) dX11_playAhead_117 f_X11_277 hr10.1 rfl rfl ?_
    refine aw_iload (j := 6) dX11_playAhead_120 rfl ?_
    obtain ⟨hi, h⟩ := h
    refine aw_iaload dX11_playAhead_122 hr10.2.2.1 hi ?_
    refine aw_iload (j := 0) dX11_playAhead_123 rfl ?_
    refine aw_iconst (v := 1) dX11_playAhead_125 (by decide) ?_
    refine aw_callV (rest := []) [.ref (ad 26), .int (m7.1 (r9 + 1) x5.toNatClampNeg), .int (m7.1 (r10 + 2) x5.toNatClampNeg), .int v8, .int (1 : Int32)] dX11_playAhead_126 ly_3 rfl k_X11_229 rfl h (Nat.le_of_ble_eq_true rfl) (fun v m11 h => ?_)
    obtain ⟨rfl, h⟩ := h
    refine aw_eq (L' := [(6, .int v8), (0, .ref (ad 0)), (1, .int x1), (2, .int x2), (3, .int x3), (4, .int x4), (5, .int x5)]) (st' := []) (m' := m11) ?_ rfl rfl rfl
    refine aw_iinc (j := 6) (v := x5 + (1 : Int32)) (L' := [(5, .int (x5 + (1 : Int32))), (6, .int v8), (0, .ref (ad 0)), (1, .int x1), (2, .int x2), (3, .int x3), (4, .int x4)]) dX11_playAhead_129 rfl rfl (by decide) rfl ?_
    refine aw_goto (tgt := 45) dX11_playAhead_132 (by decide) ?_
    exact aw_sub [2, 3, 4, 5, 6, 0] rfl h
set_option maxRecDepth 100000 in
set_option maxHeartbeats 4000000 in
theorem v_X11_seed {ad : Nat → Nat} {d : Nat} {Q : Option Value → Wm → Prop} {m : Wm} {x1 : Int32} (h : Q (some (.int (m.1 21 4))) (uI m 21 4 x1)) : Ct ad μX11_seed d [.ref (ad 0), .int x1] m Q := by
  refine Ct.of (by decide +kernel) rfl (Nat.le_of_ble_eq_true rfl) ?_
  refine aw_eq (L' := [(0, .ref (ad 0)), (1, .int x1)]) ?_ rfl rfl rfl
  refine aw_aload_n (j := 0) dX11_seed_0 rfl rfl ?_
  refine aw_getfield (c := 24) (v := .ref (ad 21)) dX11_seed_1 f_X11_33 ly_0 rfl rfl ?_
  refine aw_getfield (c := 0) (v := .int (m.1 21 4)) dX11_seed_4 f_X11_406 ly_21 rfl rfl ?_
  refine aw_istore_n (L' := [(2, .int (m.1 21 4)), (0, .ref (ad 0)), (1, .int x1)]) dX11_seed_7 rfl (by decide) rfl ?_
  refine aw_aload_n (j := 1) dX11_seed_8 rfl rfl ?_
  refine aw_getfield (c := 24) (v := .ref (ad 21)) dX11_seed_9 f_X11_33 ly_0 rfl rfl ?_
  refine aw_iload_n (j := 2) dX11_seed_12 rfl rfl ?_
  refine aw_putI dX11_seed_13 f_X11_406 cl_X8 rfl ly_21 rfl rfl rfl ?_
  refine aw_iload_n (j := 0) dX11_seed_16 rfl rfl ?_
  exact aw_ret (v := some (.int (m.1 21 4))) rfl (Or.inr (Or.inl ⟨_, .int, rfl, rfl, rfl, dX11_seed_17⟩)) h
set_option maxRecDepth 100000 in
set_option maxHeartbeats 4000000 in
theorem v_X11_keep {ad : Nat → Nat} {d : Nat} {Q : Option Value → Wm → Prop} {m : Wm} {x1 : Int32} (h : ((x1 < 0 → Q (some (.int (0 : Int32))) m) ∧ (¬ x1 < 0 → ((x1 < (2 : Int32) → (vp_in x1 2 ∧ (∃ r1, m.2.2 133 x1.toNatClampNeg = some r1 ∧ Ke r1 ∧ (Ct ad μX0_store d [.ref (ad r1), .ref (ad 3), .ref (ad 21), .int (m.1 0 11)] m (fun r m2 => r = none ∧ Q (some (.int (1 : Int32))) m2))))) ∧ (¬ x1 < (2 : Int32) → Q (some (.int (0 : Int32))) m))))) : Ct ad μX11_keep (d + 1) [.ref (ad 0), .int x1] m Q := by
  refine Ct.of (by decide +kernel) rfl (Nat.le_of_ble_eq_true rfl) ?_
  refine aw_eq (L' := [(0, .ref (ad 0)), (1, .int x1)]) ?_ rfl rfl rfl
  refine aw_iload_n (j := 1) dX11_keep_0 rfl rfl ?_
  refine aw_if_lt (tgt := 13) dX11_keep_1 (by decide) (fun hc => ?_) (fun hc => ?_)
  · have h := h.1 hc
    refine aw_iconst (v := 0) dX11_keep_13 (by decide) ?_
    exact aw_ret (v := some (.int (0 : Int32))) rfl (Or.inr (Or.inl ⟨_, .boolean, rfl, rfl, by decide, dX11_keep_14⟩)) h
  · have h := h.2 hc
    refine aw_iload_n (j := 1) dX11_keep_4 rfl rfl ?_
    refine aw_aload_n (j := 0) dX11_keep_5 rfl rfl ?_
    refine aw_getfield (c := 136) (v := .ref (ad 133)) dX11_keep_6 f_X11_49 ly_0 rfl rfl ?_
    refine aw_alen5 (v := (2 : Int32)) dX11_keep_9 ly_133 (by decide) ?_
    refine aw_icmp_lt (tgt := 15) dX11_keep_10 (by decide) (fun hc => ?_) (fun hc => ?_)
    · have h := h.1 hc
      refine aw_aload_n (j := 0) dX11_keep_15 rfl rfl ?_
      refine aw_getfield (c := 136) (v := .ref (ad 133)) dX11_keep_16 f_X11_49 ly_0 rfl rfl ?_
      refine aw_iload_n (j := 1) dX11_keep_19 rfl rfl ?_
      obtain ⟨hi, h⟩ := h
      obtain ⟨r1, hrr1, hr1, h⟩ := h
      refine aw_aaload5 dX11_keep_20 ly_133 hi hrr1 ?_
      refine aw_aload_n (j := 0) dX11_keep_21 rfl rfl ?_
      refine aw_getfield (c := 6) (v := .ref (ad 3)) dX11_keep_22 f_X11_19 ly_0 rfl rfl ?_
      refine aw_aload_n (j := 0) dX11_keep_25 rfl rfl ?_
      refine aw_getfield (c := 24) (v := .ref (ad 21)) dX11_keep_26 f_X11_33 ly_0 rfl rfl ?_
      refine aw_aload_n (j := 0) dX11_keep_29 rfl rfl ?_
      refine aw_getfield (c := 0) (v := .int (m.1 0 11)) dX11_keep_30 f_X11_63 ly_0 rfl rfl ?_
      refine aw_callV (rest := []) [.ref (ad 3), .ref (ad 21), .int (m.1 0 11)] dX11_keep_33 hr1.1 rfl k_X11_409 rfl h (Nat.le_of_ble_eq_true rfl) (fun v m2 h => ?_)
      obtain ⟨rfl, h⟩ := h
      refine aw_eq (L' := [(0, .ref (ad 0)), (1, .int x1)]) (st' := []) (m' := m2) ?_ rfl rfl rfl
      refine aw_iconst (v := 1) dX11_keep_36 (by decide) ?_
      exact aw_ret (v := some (.int (1 : Int32))) rfl (Or.inr (Or.inl ⟨_, .boolean, rfl, rfl, by decide, dX11_keep_37⟩)) h
    · have h := h.2 hc
      refine aw_iconst (v := 0) dX11_keep_13 (by decide) ?_
      exact aw_ret (v := some (.int (0 : Int32))) rfl (Or.inr (Or.inl ⟨_, .boolean, rfl, rfl, by decide, dX11_keep_14⟩)) h
set_option maxRecDepth 100000 in
set_option maxHeartbeats 4000000 in
theorem v_X11_again {ad : Nat → Nat} {d : Nat} {Q : Option Value → Wm → Prop} {m : Wm} {x1 : Int32} (h : ((x1 < 0 → Q (some (.int (0 : Int32))) m) ∧ (¬ x1 < 0 → (((2 : Int32) ≤ x1 → Q (some (.int (0 : Int32))) m) ∧ (¬ (2 : Int32) ≤ x1 → (vp_in x1 2 ∧ (∃ r1, m.2.2 133 x1.toNatClampNeg = some r1 ∧ Ke r1 ∧ ((¬ (m.1 r1 4) = 0 → (vp_in x1 2 ∧ (∃ r2, m.2.2 133 x1.toNatClampNeg = some r2 ∧ Ke r2 ∧ (Ct ad μX0_restore d [.ref (ad r2), .ref (ad 3), .ref (ad 21)] m (fun r m3 => r = none ∧ (∃ r4, m3.2.2 0 9 = some r4 ∧ Pl r4 ∧ (((m3.1 r4 5) ≤ 0 → AW ad E0 μX11_again (d + 1) Q 76 [(0, .ref (ad 0))] [.int (0 : Int32), .ref (ad 0)] m3) ∧ (¬ (m3.1 r4 5) ≤ 0 → (vp_in x1 2 ∧ (∃ r5, m3.2.2 133 x1.toNatClampNeg = some r5 ∧ Ke r5 ∧ (∃ r6, m3.2.2 0 9 = some r6 ∧ Pl r6 ∧ (¬ m3.1 r6 5 = 0 ∧ AW ad E0 μX11_again (d + 1) Q 76 [(0, .ref (ad 0))] [.int ((m3.1 r5 3) - (m3.1 r5 3) / (m3.1 r6 5) * (m3.1 r6 5)), .ref (ad 0)] m3)))))))))))) ∧ ((m.1 r1 4) = 0 → Q (some (.int (0 : Int32))) m))))))))) : Ct ad μX11_again (d + 1) [.ref (ad 0), .int x1] m Q := by
  refine Ct.of (by decide +kernel) rfl (Nat.le_of_ble_eq_true rfl) ?_
  refine aw_eq (L' := [(0, .ref (ad 0)), (1, .int x1)]) ?_ rfl rfl rfl
  refine aw_iload_n (j := 1) dX11_again_0 rfl rfl ?_
  refine aw_if_lt (tgt := 25) dX11_again_1 (by decide) (fun hc => ?_) (fun hc => ?_)
  · have h := h.1 hc
    refine aw_iconst (v := 0) dX11_again_25 (by decide) ?_
    exact aw_ret (v := some (.int (0 : Int32))) rfl (Or.inr (Or.inl ⟨_, .boolean, rfl, rfl, by decide, dX11_again_26⟩)) h
  · have h := h.2 hc
    refine aw_iload_n (j := 1) dX11_again_4 rfl rfl ?_
    refine aw_aload_n (j := 0) dX11_again_5 rfl rfl ?_
    refine aw_getfield (c := 136) (v := .ref (ad 133)) dX11_again_6 f_X11_49 ly_0 rfl rfl ?_
    refine aw_alen5 (v := (2 : Int32)) dX11_again_9 ly_133 (by decide) ?_
    refine aw_icmp_ge (tgt := 25) dX11_again_10 (by decide) (fun hc => ?_) (fun hc => ?_)
    · have h := h.1 hc
      refine aw_iconst (v := 0) dX11_again_25 (by decide) ?_
      exact aw_ret (v := some (.int (0 : Int32))) rfl (Or.inr (Or.inl ⟨_, .boolean, rfl, rfl, by decide, dX11_again_26⟩)) h
    · have h := h.2 hc
      refine aw_aload_n (j := 0) dX11_again_13 rfl rfl ?_
      refine aw_getfield (c := 136) (v := .ref (ad 133)) dX11_again_14 f_X11_49 ly_0 rfl rfl ?_
      refine aw_iload_n (j := 1) dX11_again_17 rfl rfl ?_
      obtain ⟨hi, h⟩ := h
      obtain ⟨r1, hrr1, hr1, h⟩ := h
      refine aw_aaload5 dX11_again_18 ly_133 hi hrr1 ?_
      refine aw_getfield (c := 0) (v := .int (m.1 r1 4)) dX11_again_19 f_X11_136 hr1.1 rfl rfl ?_
      refine aw_if_ne (tgt := 27) dX11_again_22 (by decide) (fun hc => ?_) (fun hc => ?_)
      · have h := h.1 hc
        refine aw_aload_n (j := 0) dX11_again_27 rfl rfl ?_
        refine aw_getfield (c := 136) (v := .ref (ad 133)) dX11_again_28 f_X11_49 ly_0 rfl rfl ?_
        refine aw_iload_n (j := 1) dX11_again_31 rfl rfl ?_
        obtain ⟨hi, h⟩ := h
        obtain ⟨r2, hrr2, hr2, h⟩ := h
        refine aw_aaload5 dX11_again_32 ly_133 hi hrr2 ?_
        refine aw_aload_n (j := 0) dX11_again_33 rfl rfl ?_
        refine aw_getfield (c := 6) (v := .ref (ad 3)) dX11_again_34 f_X11_19 ly_0 rfl rfl ?_
        refine aw_aload_n (j := 0) dX11_again_37 rfl rfl ?_
        refine aw_getfield (c := 24) (v := .ref (ad 21)) dX11_again_38 f_X11_33 ly_0 rfl rfl ?_
        refine aw_callV (rest := []) [.ref (ad 3), .ref (ad 21)] dX11_again_41 hr2.1 rfl k_X11_413 rfl h (Nat.le_of_ble_eq_true rfl) (fun v m3 h => ?_)
        obtain ⟨rfl, h⟩ := h
        refine aw_eq (L' := [(0, .ref (ad 0)), (1, .int x1)]) (st' := []) (m' := m3) ?_ rfl rfl rfl
        refine aw_aload_n (j := 0) dX11_again_44 rfl rfl ?_
        refine aw_aload_n (j := 0) dX11_again_45 rfl rfl ?_
        obtain ⟨r4, hrr4, hr4, h⟩ := h
        refine aw_getfield (c := 2) (v := .ref (ad r4)) dX11_again_46 f_X11_56 ly_0 rfl (by show va_rf (Option.map ad (m3.2.2 0 9)) = _; rw [hrr4]; rfl) ?_
        refine aw_getfield (c := 0) (v := .int (m3.1 r4 5)) dX11_again_49 f_X11_161 hr4.1 rfl rfl ?_
        refine aw_if_le (tgt := 75) dX11_again_52 (by decide) (fun hc => ?_) (fun hc => ?_)
        · have h := h.1 hc
          refine aw_iconst (v := 0) dX11_again_75 (by decide) ?_
          exact aw_sub [0] rfl h
        · have h := h.2 hc
          refine aw_aload_n (j := 0) dX11_again_55 rfl rfl ?_
          refine aw_getfield (c := 136) (v := .ref (ad 133)) dX11_again_56 f_X11_49 ly_0 rfl rfl ?_
          refine aw_iload_n (j := 1) dX11_again_59 rfl rfl ?_
          obtain ⟨hi, h⟩ := h
          obtain ⟨r5, hrr5, hr5, h⟩ := h
          refine aw_aaload5 dX11_again_60 ly_133 hi hrr5 ?_
          refine aw_getfield (c := 0) (v := .int (m3.1 r5 3)) dX11_again_61 f_X11_416 hr5.1 rfl rfl ?_
          refine aw_aload_n (j := 0) dX11_again_64 rfl rfl ?_
          obtain ⟨r6, hrr6, hr6, h⟩ := h
          refine aw_getfield (c := 2) (v := .ref (ad r6)) dX11_again_65 f_X11_56 ly_0 rfl (by show va_rf (Option.map ad (m3.2.2 0 9)) = _; rw [hrr6]; rfl) ?_
          refine aw_getfield (c := 0) (v := .int (m3.1 r6 5)) dX11_again_68 f_X11_161 hr6.1 rfl rfl ?_
          obtain ⟨hz, h⟩ := h
          refine aw_irem dX11_again_71 hz ?_
          refine aw_goto (tgt := 76) dX11_again_72 (by decide) ?_
          exact aw_sub [0] rfl h
      · have h := h.2 hc
        refine aw_iconst (v := 0) dX11_again_25 (by decide) ?_
        exact aw_ret (v := some (.int (0 : Int32))) rfl (Or.inr (Or.inl ⟨_, .boolean, rfl, rfl, by decide, dX11_again_26⟩)) h
set_option maxRecDepth 100000 in
set_option maxHeartbeats 4000000 in
theorem g_X11_again_76 {ad : Nat → Nat} {d : Nat} {Q : Option Value → Wm → Prop} {m : Wm} {s0 : Int32} (h : Q (some (.int (1 : Int32))) (uI (uI m 0 11 s0) 31 1 (0 : Int32))) : AW ad E0 μX11_again (d + 1) Q 76 [(0, .ref (ad 0))] [.int s0, .ref (ad 0)] m := by
  refine aw_putI dX11_again_76 f_X11_63 cl_X11 rfl ly_0 rfl rfl rfl ?_
  refine aw_aload_n (j := 0) dX11_again_79 rfl rfl ?_
  refine aw_getfield (c := 34) (v := .ref (ad 31)) dX11_again_80 f_X11_43 ly_0 rfl rfl ?_
  refine aw_iconst (v := 0) dX11_again_83 (by decide) ?_
  refine aw_putI dX11_again_84 f_X11_135 cl_X2 rfl ly_31 rfl rfl rfl ?_
  refine aw_iconst (v := 1) dX11_again_87 (by decide) ?_
  exact aw_ret (v := some (.int (1 : Int32))) rfl (Or.inr (Or.inl ⟨_, .boolean, rfl, rfl, by decide, dX11_again_88⟩)) h
set_option maxRecDepth 100000 in
set_option maxHeartbeats 4000000 in
theorem v_X11_count {ad : Nat → Nat} {d : Nat} {Q : Option Value → Wm → Prop} {m : Wm} {x1 : Int32} (h : ((x1 = 0 → Q (some (.int (m.1 3 3))) m) ∧ (x1 = 1 → Q (some (.int (m.1 3 4))) m) ∧ (x1 = 2 → (∃ r1, m.2.2 0 9 = some r1 ∧ Pl r1 ∧ Q (some (.int (m.1 r1 5))) m)) ∧ (x1 = 3 → Q (some (.int (m.1 0 11))) m) ∧ (x1 = 4 → Q (some (.int (m.1 31 1))) m) ∧ (x1 = 5 → Q (some (.int (m.1 0 15))) m) ∧ (x1 = 6 → Q (some (.int (m.1 0 18))) m) ∧ (x1 = 7 → Q (some (.int (m.1 1 1))) m) ∧ (x1 = 8 → (∃ r2, m.2.2 0 9 = some r2 ∧ Pl r2 ∧ Q (some (.int (m.1 r2 6))) m)) ∧ (¬ x1 = 0 → ¬ x1 = 1 → ¬ x1 = 2 → ¬ x1 = 3 → ¬ x1 = 4 → ¬ x1 = 5 → ¬ x1 = 6 → ¬ x1 = 7 → ¬ x1 = 8 → Q (some (.int (-1 : Int32))) m))) : Ct ad μX11_count d [.ref (ad 0), .int x1] m Q := by
  refine Ct.of (by decide +kernel) rfl (Nat.le_of_ble_eq_true rfl) ?_
  refine aw_eq (L' := [(0, .ref (ad 0)), (1, .int x1)]) ?_ rfl rfl rfl
  refine aw_iload_n (j := 1) dX11_count_0 rfl rfl ?_
  by_cases c0 : x1 = 0
  · have h := h.1 c0
    refine aw_tswIn (tgt := 52) dX11_count_1 c0 (by decide) (by decide) (by first | rfl | decide) (by decide) ?_
    refine aw_aload_n (j := 0) dX11_count_52 rfl rfl ?_
    refine aw_getfield (c := 6) (v := .ref (ad 3)) dX11_count_53 f_X11_19 ly_0 rfl rfl ?_
    refine aw_getfield (c := 0) (v := .int (m.1 3 3)) dX11_count_56 f_X11_155 ly_3 rfl rfl ?_
    exact aw_ret (v := some (.int (m.1 3 3))) rfl (Or.inr (Or.inl ⟨_, .int, rfl, rfl, rfl, dX11_count_59⟩)) h
  by_cases c1 : x1 = 1
  · have h := h.2.1 c1
    refine aw_tswIn (tgt := 60) dX11_count_1 c1 (by decide) (by decide) (by first | rfl | decide) (by decide) ?_
    refine aw_aload_n (j := 0) dX11_count_60 rfl rfl ?_
    refine aw_getfield (c := 6) (v := .ref (ad 3)) dX11_count_61 f_X11_19 ly_0 rfl rfl ?_
    refine aw_getfield (c := 0) (v := .int (m.1 3 4)) dX11_count_64 f_X11_419 ly_3 rfl rfl ?_
    exact aw_ret (v := some (.int (m.1 3 4))) rfl (Or.inr (Or.inl ⟨_, .int, rfl, rfl, rfl, dX11_count_67⟩)) h
  by_cases c2 : x1 = 2
  · have h := h.2.2.1 c2
    refine aw_tswIn (tgt := 68) dX11_count_1 c2 (by decide) (by decide) (by first | rfl | decide) (by decide) ?_
    refine aw_aload_n (j := 0) dX11_count_68 rfl rfl ?_
    obtain ⟨r1, hrr1, hr1, h⟩ := h
    refine aw_getfield (c := 2) (v := .ref (ad r1)) dX11_count_69 f_X11_56 ly_0 rfl (by show va_rf (Option.map ad (m.2.2 0 9)) = _; rw [hrr1]; rfl) ?_
    refine aw_getfield (c := 0) (v := .int (m.1 r1 5)) dX11_count_72 f_X11_161 hr1.1 rfl rfl ?_
    exact aw_ret (v := some (.int (m.1 r1 5))) rfl (Or.inr (Or.inl ⟨_, .int, rfl, rfl, rfl, dX11_count_75⟩)) h
  by_cases c3 : x1 = 3
  · have h := h.2.2.2.1 c3
    refine aw_tswIn (tgt := 76) dX11_count_1 c3 (by decide) (by decide) (by first | rfl | decide) (by decide) ?_
    refine aw_aload_n (j := 0) dX11_count_76 rfl rfl ?_
    refine aw_getfield (c := 0) (v := .int (m.1 0 11)) dX11_count_77 f_X11_63 ly_0 rfl rfl ?_
    exact aw_ret (v := some (.int (m.1 0 11))) rfl (Or.inr (Or.inl ⟨_, .int, rfl, rfl, rfl, dX11_count_80⟩)) h
  by_cases c4 : x1 = 4
  · have h := h.2.2.2.2.1 c4
    refine aw_tswIn (tgt := 81) dX11_count_1 c4 (by decide) (by decide) (by first | rfl | decide) (by decide) ?_
    refine aw_aload_n (j := 0) dX11_count_81 rfl rfl ?_
    refine aw_getfield (c := 34) (v := .ref (ad 31)) dX11_count_82 f_X11_43 ly_0 rfl rfl ?_
    refine aw_getfield (c := 0) (v := .int (m.1 31 1)) dX11_count_85 f_X11_135 ly_31 rfl rfl ?_
    exact aw_ret (v := some (.int (m.1 31 1))) rfl (Or.inr (Or.inl ⟨_, .int, rfl, rfl, rfl, dX11_count_88⟩)) h
  by_cases c5 : x1 = 5
  · have h := h.2.2.2.2.2.1 c5
    refine aw_tswIn (tgt := 89) dX11_count_1 c5 (by decide) (by decide) (by first | rfl | decide) (by decide) ?_
    refine aw_aload_n (j := 0) dX11_count_89 rfl rfl ?_
    refine aw_getfield (c := 0) (v := .int (m.1 0 15)) dX11_count_90 f_X11_77 ly_0 rfl rfl ?_
    exact aw_ret (v := some (.int (m.1 0 15))) rfl (Or.inr (Or.inl ⟨_, .int, rfl, rfl, rfl, dX11_count_93⟩)) h
  by_cases c6 : x1 = 6
  · have h := h.2.2.2.2.2.2.1 c6
    refine aw_tswIn (tgt := 94) dX11_count_1 c6 (by decide) (by decide) (by first | rfl | decide) (by decide) ?_
    refine aw_aload_n (j := 0) dX11_count_94 rfl rfl ?_
    refine aw_getfield (c := 0) (v := .int (m.1 0 18)) dX11_count_95 f_X11_87 ly_0 rfl rfl ?_
    exact aw_ret (v := some (.int (m.1 0 18))) rfl (Or.inr (Or.inl ⟨_, .int, rfl, rfl, rfl, dX11_count_98⟩)) h
  by_cases c7 : x1 = 7
  · have h := h.2.2.2.2.2.2.2.1 c7
    refine aw_tswIn (tgt := 99) dX11_count_1 c7 (by decide) (by decide) (by first | rfl | decide) (by decide) ?_
    refine aw_aload_n (j := 0) dX11_count_99 rfl rfl ?_
    refine aw_getfield (c := 4) (v := .ref (ad 1)) dX11_count_100 f_X11_12 ly_0 rfl rfl ?_
    refine aw_getfield (c := 0) (v := .int (m.1 1 1)) dX11_count_103 f_X11_114 ly_1 rfl rfl ?_
    exact aw_ret (v := some (.int (m.1 1 1))) rfl (Or.inr (Or.inl ⟨_, .int, rfl, rfl, rfl, dX11_count_106⟩)) h
  by_cases c8 : x1 = 8
  · have h := h.2.2.2.2.2.2.2.2.1 c8
    refine aw_tswIn (tgt := 107) dX11_count_1 c8 (by decide) (by decide) (by first | rfl | decide) (by decide) ?_
    refine aw_aload_n (j := 0) dX11_count_107 rfl rfl ?_
    obtain ⟨r2, hrr2, hr2, h⟩ := h
    refine aw_getfield (c := 2) (v := .ref (ad r2)) dX11_count_108 f_X11_56 ly_0 rfl (by show va_rf (Option.map ad (m.2.2 0 9)) = _; rw [hrr2]; rfl) ?_
    refine aw_getfield (c := 0) (v := .int (m.1 r2 6)) dX11_count_111 f_X11_422 hr2.1 rfl rfl ?_
    exact aw_ret (v := some (.int (m.1 r2 6))) rfl (Or.inr (Or.inl ⟨_, .int, rfl, rfl, rfl, dX11_count_114⟩)) h
  have h := h.2.2.2.2.2.2.2.2.2 c0 c1 c2 c3 c4 c5 c6 c7 c8
  refine aw_tswOut (tgt := 115) dX11_count_1 (by have e0 := i32_ne (n := 0) c0 (by decide); have e1 := i32_ne (n := 1) c1 (by decide); have e2 := i32_ne (n := 2) c2 (by decide); have e3 := i32_ne (n := 3) c3 (by decide); have e4 := i32_ne (n := 4) c4 (by decide); have e5 := i32_ne (n := 5) c5 (by decide); have e6 := i32_ne (n := 6) c6 (by decide); have e7 := i32_ne (n := 7) c7 (by decide); have e8 := i32_ne (n := 8) c8 (by decide); omega) (by decide) ?_
  refine aw_iconst (v := -1) dX11_count_115 (by decide) ?_
  exact aw_ret (v := some (.int (-1 : Int32))) rfl (Or.inr (Or.inl ⟨_, .int, rfl, rfl, rfl, dX11_count_116⟩)) h
set_option maxRecDepth 100000 in
set_option maxHeartbeats 4000000 in
theorem v_X11_tell {ad : Nat → Nat} {d : Nat} {Q : Option Value → Wm → Prop} {m : Wm} {y1 : Int64} (h : Q none (uI (uL m 150 (0 : Int32).toNatClampNeg y1) 0 18 (1 : Int32))) : Ct ad μX11_tell d [.ref (ad 0), .long y1] m Q := by
  refine Ct.of (by decide +kernel) rfl (Nat.le_of_ble_eq_true rfl) ?_
  refine aw_eq (L' := [(0, .ref (ad 0)), (1, .long y1)]) ?_ rfl rfl rfl
  refine aw_aload_n (j := 0) dX11_tell_0 rfl rfl ?_
  refine aw_getfield (c := 153) (v := .ref (ad 150)) dX11_tell_1 f_X11_83 ly_0 rfl rfl ?_
  refine aw_iconst (v := 0) dX11_tell_4 (by decide) ?_
  refine aw_lload_n (j := 1) dX11_tell_5 rfl rfl ?_
  refine aw_lastore dX11_tell_6 ly_150 (by unfold vp_in; decide) ?_
  refine aw_aload_n (j := 0) dX11_tell_7 rfl rfl ?_
  refine aw_iconst (v := 1) dX11_tell_8 (by decide) ?_
  refine aw_putI dX11_tell_9 f_X11_87 cl_X11 rfl ly_0 rfl rfl rfl ?_
  exact aw_ret (v := none) rfl (Or.inl ⟨rfl, rfl, dX11_tell_12⟩) h
set_option maxRecDepth 100000 in
set_option maxHeartbeats 4000000 in
theorem v_X11_tell_ {ad : Nat → Nat} {d : Nat} {Q : Option Value → Wm → Prop} {m : Wm} {y1 y3 : Int64} (h : Q none (uI (uL (uL m 150 (0 : Int32).toNatClampNeg y1) 150 (1 : Int32).toNatClampNeg y3) 0 18 (2 : Int32))) : Ct ad μX11_tell_ d [.ref (ad 0), .long y1, .long y3] m Q := by
  refine Ct.of (by decide +kernel) rfl (Nat.le_of_ble_eq_true rfl) ?_
  refine aw_eq (L' := [(0, .ref (ad 0)), (1, .long y1), (3, .long y3)]) ?_ rfl rfl rfl
  refine aw_aload_n (j := 0) dX11_tell__0 rfl rfl ?_
  refine aw_getfield (c := 153) (v := .ref (ad 150)) dX11_tell__1 f_X11_83 ly_0 rfl rfl ?_
  refine aw_iconst (v := 0) dX11_tell__4 (by decide) ?_
  refine aw_lload_n (j := 1) dX11_tell__5 rfl rfl ?_
  refine aw_lastore dX11_tell__6 ly_150 (by unfold vp_in; decide) ?_
  refine aw_aload_n (j := 0) dX11_tell__7 rfl rfl ?_
  refine aw_getfield (c := 153) (v := .ref (ad 150)) dX11_tell__8 f_X11_83 ly_0 rfl rfl ?_
  refine aw_iconst (v := 1) dX11_tell__11 (by decide) ?_
  refine aw_lload_n (j := 2) dX11_tell__12 rfl rfl ?_
  refine aw_lastore dX11_tell__13 ly_150 (by unfold vp_in; decide) ?_
  refine aw_aload_n (j := 0) dX11_tell__14 rfl rfl ?_
  refine aw_iconst (v := 2) dX11_tell__15 (by decide) ?_
  refine aw_putI dX11_tell__16 f_X11_87 cl_X11 rfl ly_0 rfl rfl rfl ?_
  exact aw_ret (v := none) rfl (Or.inl ⟨rfl, rfl, dX11_tell__19⟩) h
set_option maxRecDepth 100000 in
set_option maxHeartbeats 4000000 in
theorem v_X11_tell__ {ad : Nat → Nat} {d : Nat} {Q : Option Value → Wm → Prop} {m : Wm} {y1 y3 y5 : Int64} (h : Q none (uI (uL (uL (uL m 150 (0 : Int32).toNatClampNeg y1) 150 (1 : Int32).toNatClampNeg y3) 150 (2 : Int32).toNatClampNeg y5) 0 18 (3 : Int32))) : Ct ad μX11_tell__ d [.ref (ad 0), .long y1, .long y3, .long y5] m Q := by
  refine Ct.of (by decide +kernel) rfl (Nat.le_of_ble_eq_true rfl) ?_
  refine aw_eq (L' := [(0, .ref (ad 0)), (1, .long y1), (3, .long y3), (5, .long y5)]) ?_ rfl rfl rfl
  refine aw_aload_n (j := 0) dX11_tell___0 rfl rfl ?_
  refine aw_getfield (c := 153) (v := .ref (ad 150)) dX11_tell___1 f_X11_83 ly_0 rfl rfl ?_
  refine aw_iconst (v := 0) dX11_tell___4 (by decide) ?_
  refine aw_lload_n (j := 1) dX11_tell___5 rfl rfl ?_
  refine aw_lastore dX11_tell___6 ly_150 (by unfold vp_in; decide) ?_
  refine aw_aload_n (j := 0) dX11_tell___7 rfl rfl ?_
  refine aw_getfield (c := 153) (v := .ref (ad 150)) dX11_tell___8 f_X11_83 ly_0 rfl rfl ?_
  refine aw_iconst (v := 1) dX11_tell___11 (by decide) ?_
  refine aw_lload_n (j := 2) dX11_tell___12 rfl rfl ?_
  refine aw_lastore dX11_tell___13 ly_150 (by unfold vp_in; decide) ?_
  refine aw_aload_n (j := 0) dX11_tell___14 rfl rfl ?_
  refine aw_getfield (c := 153) (v := .ref (ad 150)) dX11_tell___15 f_X11_83 ly_0 rfl rfl ?_
  refine aw_iconst (v := 2) dX11_tell___18 (by decide) ?_
  refine aw_lload (j := 3) dX11_tell___19 rfl ?_
  refine aw_lastore dX11_tell___21 ly_150 (by unfold vp_in; decide) ?_
  refine aw_aload_n (j := 0) dX11_tell___22 rfl rfl ?_
  refine aw_iconst (v := 3) dX11_tell___23 (by decide) ?_
  refine aw_putI dX11_tell___24 f_X11_87 cl_X11 rfl ly_0 rfl rfl rfl ?_
  exact aw_ret (v := none) rfl (Or.inl ⟨rfl, rfl, dX11_tell___27⟩) h
set_option maxRecDepth 100000 in
set_option maxHeartbeats 4000000 in
theorem v_X11_tellFraction {ad : Nat → Nat} {d : Nat} {Q : Option Value → Wm → Prop} {m : Wm} {y1 y3 : Int64} (h : AW ad E0 μX11_tellFraction (d + 1) Q 9 [(0, .ref (ad 0)), (1, .long y1), (3, .long y3), (5, .long y1), (7, .long y3), (9, .int (0 : Int32))] [] m) : Ct ad μX11_tellFraction (d + 1) [.ref (ad 0), .long y1, .long y3] m Q := by
  refine Ct.of (by decide +kernel) rfl (Nat.le_of_ble_eq_true rfl) ?_
  refine aw_eq (L' := [(0, .ref (ad 0)), (1, .long y1), (3, .long y3)]) ?_ rfl rfl rfl
  refine aw_lload_n (j := 1) dX11_tellFraction_0 rfl rfl ?_
  refine aw_lstore (L' := [(5, .long y1), (0, .ref (ad 0)), (1, .long y1), (3, .long y3)]) dX11_tellFraction_1 (by decide) rfl ?_
  refine aw_lload_n (j := 3) dX11_tellFraction_3 rfl rfl ?_
  refine aw_lstore (L' := [(7, .long y3), (5, .long y1), (0, .ref (ad 0)), (1, .long y1), (3, .long y3)]) dX11_tellFraction_4 (by decide) rfl ?_
  refine aw_iconst (v := 0) dX11_tellFraction_6 (by decide) ?_
  refine aw_istore (L' := [(9, .int (0 : Int32)), (7, .long y3), (5, .long y1), (0, .ref (ad 0)), (1, .long y1), (3, .long y3)]) dX11_tellFraction_7 (by decide) rfl ?_
  exact aw_sub [3, 4, 5, 2, 1, 0] rfl h
set_option maxRecDepth 100000 in
set_option maxHeartbeats 4000000 in
theorem g_X11_tellFraction_9 {ad : Nat → Nat} {d : Nat} {Q : Option Value → Wm → Prop} {m : Wm} {x9 : Int32} {y1 y3 y5 y7 : Int64} (h : (((200 : Int32) ≤ x9 → AW ad E0 μX11_tellFraction (d + 1) Q 45 [(0, .ref (ad 0)), (1, .long y1), (3, .long y3), (5, .long y5)] [] m) ∧ (¬ (200 : Int32) ≤ x9 → (((lg_cmp y7 (0 : Int64)) = 0 → AW ad E0 μX11_tellFraction (d + 1) Q 45 [(0, .ref (ad 0)), (1, .long y1), (3, .long y3), (5, .long y5)] [] m) ∧ (¬ (lg_cmp y7 (0 : Int64)) = 0 → (¬ y7 = 0 ∧ AW ad E0 μX11_tellFraction (d + 1) Q 9 [(0, .ref (ad 0)), (1, .long y1), (3, .long y3), (5, .long y7), (7, .long (y5 - y5 / y7 * y7)), (9, .int (x9 + (1 : Int32)))] [] m)))))) : AW ad E0 μX11_tellFraction (d + 1) Q 9 [(0, .ref (ad 0)), (1, .long y1), (3, .long y3), (5, .long y5), (7, .long y7), (9, .int x9)] [] m := by
  refine aw_iload (j := 5) dX11_tellFraction_9 rfl ?_
  refine aw_sipush (v := 200) dX11_tellFraction_11 (by decide) ?_
  refine aw_icmp_ge (tgt := 45) dX11_tellFraction_14 (by decide) (fun hc => ?_) (fun hc => ?_)
  · have h := h.1 hc
    exact aw_sub [0, 1, 2, 3] rfl h
  · have h := h.2 hc
    refine aw_lload (j := 4) dX11_tellFraction_17 rfl ?_
    refine aw_lconst (v := 0) dX11_tellFraction_19 (by decide) ?_
    refine aw_lcmp dX11_tellFraction_20 ?_
    refine aw_if_eq (tgt := 45) dX11_tellFraction_21 (by decide) (fun hc => ?_) (fun hc => ?_)
    · have h := h.1 hc
      exact aw_sub [0, 1, 2, 3] rfl h
    · have h := h.2 hc
      refine aw_lload (j := 3) dX11_tellFraction_24 rfl ?_
      refine aw_lload (j := 4) dX11_tellFraction_26 rfl ?_
      obtain ⟨hz, h⟩ := h
      refine aw_lrem dX11_tellFraction_28 hz ?_
      refine aw_lstore (L' := [(10, .long (y5 - y5 / y7 * y7)), (0, .ref (ad 0)), (1, .long y1), (3, .long y3), (5, .long y5), (7, .long y7), (9, .int x9)]) dX11_tellFraction_29 (by decide) rfl ?_
      refine aw_lload (j := 5) dX11_tellFraction_31 rfl ?_
      refine aw_lstore (L' := [(5, .long y7), (10, .long (y5 - y5 / y7 * y7)), (0, .ref (ad 0)), (1, .long y1), (3, .long y3), (7, .long y7), (9, .int x9)]) dX11_tellFraction_33 (by decide) rfl ?_
      refine aw_lload (j := 1) dX11_tellFraction_35 rfl ?_
      refine aw_lstore (L' := [(7, .long (y5 - y5 / y7 * y7)), (5, .long y7), (10, .long (y5 - y5 / y7 * y7)), (0, .ref (ad 0)), (1, .long y1), (3, .long y3), (9, .int x9)]) dX11_tellFraction_37 (by decide) rfl ?_
      refine aw_iinc (j := 6) (v := x9 + (1 : Int32)) (L' := [(9, .int (x9 + (1 : Int32))), (7, .long (y5 - y5 / y7 * y7)), (5, .long y7), (10, .long (y5 - y5 / y7 * y7)), (0, .ref (ad 0)), (1, .long y1), (3, .long y3)]) dX11_tellFraction_39 rfl rfl (by decide) rfl ?_
      refine aw_goto (tgt := 9) dX11_tellFraction_42 (by decide) ?_
      exact aw_sub [4, 5, 6, 2, 1, 0] rfl h
set_option maxRecDepth 100000 in
set_option maxHeartbeats 4000000 in
theorem g_X11_tellFraction_45 {ad : Nat → Nat} {d : Nat} {Q : Option Value → Wm → Prop} {m : Wm} {y1 y3 y5 : Int64} (h : ((¬ (lg_cmp y5 (0 : Int64)) = 0 → (¬ y5 = 0 ∧ (¬ y5 = 0 ∧ (Ct ad μX11_tell_ d [.ref (ad 0), .long (y1 / y5), .long (y3 / y5)] m (fun r m1 => r = none ∧ Q none m1))))) ∧ ((lg_cmp y5 (0 : Int64)) = 0 → (Ct ad μX11_tell_ d [.ref (ad 0), .long y1, .long y3] m (fun r m2 => r = none ∧ Q none m2))))) : AW ad E0 μX11_tellFraction (d + 1) Q 45 [(0, .ref (ad 0)), (1, .long y1), (3, .long y3), (5, .long y5)] [] m := by
  refine aw_lload (j := 3) dX11_tellFraction_45 rfl ?_
  refine aw_lconst (v := 0) dX11_tellFraction_47 (by decide) ?_
  refine aw_lcmp dX11_tellFraction_48 ?_
  refine aw_if_ne (tgt := 61) dX11_tellFraction_49 (by decide) (fun hc => ?_) (fun hc => ?_)
  · have h := h.1 hc
    refine aw_aload_n (j := 0) dX11_tellFraction_61 rfl rfl ?_
    refine aw_lload_n (j := 1) dX11_tellFraction_62 rfl rfl ?_
    refine aw_lload (j := 3) dX11_tellFraction_63 rfl ?_
    obtain ⟨hz, h⟩ := h
    refine aw_ldiv dX11_tellFraction_65 hz ?_
    refine aw_lload_n (j := 2) dX11_tellFraction_66 rfl rfl ?_
    refine aw_lload (j := 3) dX11_tellFraction_67 rfl ?_
    obtain ⟨hz, h⟩ := h
    refine aw_ldiv dX11_tellFraction_69 hz ?_
    refine aw_callV (rest := []) [.long (y1 / y5), .long (y3 / y5)] dX11_tellFraction_70 ly_0 rfl k_X11_239 rfl h (Nat.le_of_ble_eq_true rfl) (fun v m1 h => ?_)
    obtain ⟨rfl, h⟩ := h
    refine aw_eq (L' := [(0, .ref (ad 0)), (1, .long y1), (3, .long y3), (5, .long y5)]) (st' := []) (m' := m1) ?_ rfl rfl rfl
    exact aw_ret (v := none) rfl (Or.inl ⟨rfl, rfl, dX11_tellFraction_73⟩) h
  · have h := h.2 hc
    refine aw_aload_n (j := 0) dX11_tellFraction_52 rfl rfl ?_
    refine aw_lload_n (j := 1) dX11_tellFraction_53 rfl rfl ?_
    refine aw_lload_n (j := 2) dX11_tellFraction_54 rfl rfl ?_
    refine aw_callV (rest := []) [.long y1, .long y3] dX11_tellFraction_55 ly_0 rfl k_X11_239 rfl h (Nat.le_of_ble_eq_true rfl) (fun v m2 h => ?_)
    obtain ⟨rfl, h⟩ := h
    refine aw_eq (L' := [(0, .ref (ad 0)), (1, .long y1), (3, .long y3), (5, .long y5)]) (st' := []) (m' := m2) ?_ rfl rfl rfl
    refine aw_goto (tgt := 73) dX11_tellFraction_58 (by decide) ?_
    exact aw_ret (v := none) rfl (Or.inl ⟨rfl, rfl, dX11_tellFraction_73⟩) h
