section
def K_X2 (m : Wm) : Wm := (uR (K_X8 (zm (uR (K_X8 (zm (uR (K_X8 (zm (uR (K_X8 (zm (uR (K_X8 (zm (uR (K_X8 (zm (uR (K_X8 (zm (uR (K_X8 (zm (uR (K_X8 (zm (uR (K_X8 (zm (uR (K_X8 (zm (uR (K_X8 (zm (uR (K_X8 (zm (uR (K_X8 (zm (uR (K_X8 (zm (uR (K_X8 (zm (uR (K_X8 (zm (uR (K_X8 (zm (uR (K_X8 (zm (uR (K_X8 (zm (uI (uI (uR (zm m 32) 31 0 (some 32)) 31 1 (0)) 31 2 (0)) 33) 33 34) 32 (0 : Int32).toNatClampNeg (some 33)) 38) 38 39) 32 (1 : Int32).toNatClampNeg (some 38)) 43) 43 44) 32 (2 : Int32).toNatClampNeg (some 43)) 48) 48 49) 32 (3 : Int32).toNatClampNeg (some 48)) 53) 53 54) 32 (4 : Int32).toNatClampNeg (some 53)) 58) 58 59) 32 (5 : Int32).toNatClampNeg (some 58)) 63) 63 64) 32 (6 : Int32).toNatClampNeg (some 63)) 68) 68 69) 32 (7 : Int32).toNatClampNeg (some 68)) 73) 73 74) 32 (8 : Int32).toNatClampNeg (some 73)) 78) 78 79) 32 (9 : Int32).toNatClampNeg (some 78)) 83) 83 84) 32 (10 : Int32).toNatClampNeg (some 83)) 88) 88 89) 32 (11 : Int32).toNatClampNeg (some 88)) 93) 93 94) 32 (12 : Int32).toNatClampNeg (some 93)) 98) 98 99) 32 (13 : Int32).toNatClampNeg (some 98)) 103) 103 104) 32 (14 : Int32).toNatClampNeg (some 103)) 108) 108 109) 32 (15 : Int32).toNatClampNeg (some 108)) 113) 113 114) 32 (16 : Int32).toNatClampNeg (some 113)) 118) 118 119) 32 (17 : Int32).toNatClampNeg (some 118)) 123) 123 124) 32 (18 : Int32).toNatClampNeg (some 123)) 128) 128 129) 32 (19 : Int32).toNatClampNeg (some 128))
def N_X2 (lay : List Ent) : List Ent := (ps (ps (ps (ps (ps (ps (ps (ps (ps (ps (ps (ps (ps (ps (ps (ps (ps (ps (ps (ps (ps (ps (ps (ps (ps (ps (ps (ps (ps (ps (ps (ps (ps (ps (ps (ps (ps (ps (ps (ps (ps (ps (ps (ps (ps (ps (ps (ps (ps (ps (ps (ps (ps (ps (ps (ps (ps (ps (ps (ps (ps (ps (ps (ps (ps (ps (ps (ps (ps (ps (ps (ps (ps (ps (ps (ps (ps (ps (ps (ps (ps (ps (ps (ps (ps (ps (ps (ps (ps (ps (ps (ps (ps (ps (ps (ps (ps (ps (ps (ps (ps lay (.inr (6, 20))) (.inl (8, [2, 2, 2, 2, 0]))) (.inr (0, 32))) (.inr (0, 8))) (.inr (0, 8))) (.inr (0, 8))) (.inl (8, [2, 2, 2, 2, 0]))) (.inr (0, 32))) (.inr (0, 8))) (.inr (0, 8))) (.inr (0, 8))) (.inl (8, [2, 2, 2, 2, 0]))) (.inr (0, 32))) (.inr (0, 8))) (.inr (0, 8))) (.inr (0, 8))) (.inl (8, [2, 2, 2, 2, 0]))) (.inr (0, 32))) (.inr (0, 8))) (.inr (0, 8))) (.inr (0, 8))) (.inl (8, [2, 2, 2, 2, 0]))) (.inr (0, 32))) (.inr (0, 8))) (.inr (0, 8))) (.inr (0, 8))) (.inl (8, [2, 2, 2, 2, 0]))) (.inr (0, 32))) (.inr (0, 8))) (.inr (0, 8))) (.inr (0, 8))) (.inl (8, [2, 2, 2, 2, 0]))) (.inr (0, 32))) (.inr (0, 8))) (.inr (0, 8))) (.inr (0, 8))) (.inl (8, [2, 2, 2, 2, 0]))) (.inr (0, 32))) (.inr (0, 8))) (.inr (0, 8))) (.inr (0, 8))) (.inl (8, [2, 2, 2, 2, 0]))) (.inr (0, 32))) (.inr (0, 8))) (.inr (0, 8))) (.inr (0, 8))) (.inl (8, [2, 2, 2, 2, 0]))) (.inr (0, 32))) (.inr (0, 8))) (.inr (0, 8))) (.inr (0, 8))) (.inl (8, [2, 2, 2, 2, 0]))) (.inr (0, 32))) (.inr (0, 8))) (.inr (0, 8))) (.inr (0, 8))) (.inl (8, [2, 2, 2, 2, 0]))) (.inr (0, 32))) (.inr (0, 8))) (.inr (0, 8))) (.inr (0, 8))) (.inl (8, [2, 2, 2, 2, 0]))) (.inr (0, 32))) (.inr (0, 8))) (.inr (0, 8))) (.inr (0, 8))) (.inl (8, [2, 2, 2, 2, 0]))) (.inr (0, 32))) (.inr (0, 8))) (.inr (0, 8))) (.inr (0, 8))) (.inl (8, [2, 2, 2, 2, 0]))) (.inr (0, 32))) (.inr (0, 8))) (.inr (0, 8))) (.inr (0, 8))) (.inl (8, [2, 2, 2, 2, 0]))) (.inr (0, 32))) (.inr (0, 8))) (.inr (0, 8))) (.inr (0, 8))) (.inl (8, [2, 2, 2, 2, 0]))) (.inr (0, 32))) (.inr (0, 8))) (.inr (0, 8))) (.inr (0, 8))) (.inl (8, [2, 2, 2, 2, 0]))) (.inr (0, 32))) (.inr (0, 8))) (.inr (0, 8))) (.inr (0, 8))) (.inl (8, [2, 2, 2, 2, 0]))) (.inr (0, 32))) (.inr (0, 8))) (.inr (0, 8))) (.inr (0, 8))) (.inl (8, [2, 2, 2, 2, 0]))) (.inr (0, 32))) (.inr (0, 8))) (.inr (0, 8))) (.inr (0, 8)))
set_option maxRecDepth 100000 in
set_option maxHeartbeats 40000000 in
theorem n_X2 {bs d : Nat} {lay : List Ent} {m : Wm} (hn : lay.length = 32) (hb : lay[31]? = some (.inl (2, [2, 0, 0]))) : CtK bs lay ((ps (ps (ps (ps (ps (ps (ps (ps (ps (ps (ps (ps (ps (ps (ps (ps (ps (ps (ps (ps (ps (ps (ps (ps (ps (ps (ps (ps (ps (ps (ps (ps (ps (ps (ps (ps (ps (ps (ps (ps (ps (ps (ps (ps (ps (ps (ps (ps (ps (ps (ps (ps (ps (ps (ps (ps (ps (ps (ps (ps (ps (ps (ps (ps (ps (ps (ps (ps (ps (ps (ps (ps (ps (ps (ps (ps (ps (ps (ps (ps (ps (ps (ps (ps (ps (ps (ps (ps (ps (ps (ps (ps (ps (ps (ps (ps (ps (ps (ps (ps (ps lay (.inr (6, 20))) (.inl (8, [2, 2, 2, 2, 0]))) (.inr (0, 32))) (.inr (0, 8))) (.inr (0, 8))) (.inr (0, 8))) (.inl (8, [2, 2, 2, 2, 0]))) (.inr (0, 32))) (.inr (0, 8))) (.inr (0, 8))) (.inr (0, 8))) (.inl (8, [2, 2, 2, 2, 0]))) (.inr (0, 32))) (.inr (0, 8))) (.inr (0, 8))) (.inr (0, 8))) (.inl (8, [2, 2, 2, 2, 0]))) (.inr (0, 32))) (.inr (0, 8))) (.inr (0, 8))) (.inr (0, 8))) (.inl (8, [2, 2, 2, 2, 0]))) (.inr (0, 32))) (.inr (0, 8))) (.inr (0, 8))) (.inr (0, 8))) (.inl (8, [2, 2, 2, 2, 0]))) (.inr (0, 32))) (.inr (0, 8))) (.inr (0, 8))) (.inr (0, 8))) (.inl (8, [2, 2, 2, 2, 0]))) (.inr (0, 32))) (.inr (0, 8))) (.inr (0, 8))) (.inr (0, 8))) (.inl (8, [2, 2, 2, 2, 0]))) (.inr (0, 32))) (.inr (0, 8))) (.inr (0, 8))) (.inr (0, 8))) (.inl (8, [2, 2, 2, 2, 0]))) (.inr (0, 32))) (.inr (0, 8))) (.inr (0, 8))) (.inr (0, 8))) (.inl (8, [2, 2, 2, 2, 0]))) (.inr (0, 32))) (.inr (0, 8))) (.inr (0, 8))) (.inr (0, 8))) (.inl (8, [2, 2, 2, 2, 0]))) (.inr (0, 32))) (.inr (0, 8))) (.inr (0, 8))) (.inr (0, 8))) (.inl (8, [2, 2, 2, 2, 0]))) (.inr (0, 32))) (.inr (0, 8))) (.inr (0, 8))) (.inr (0, 8))) (.inl (8, [2, 2, 2, 2, 0]))) (.inr (0, 32))) (.inr (0, 8))) (.inr (0, 8))) (.inr (0, 8))) (.inl (8, [2, 2, 2, 2, 0]))) (.inr (0, 32))) (.inr (0, 8))) (.inr (0, 8))) (.inr (0, 8))) (.inl (8, [2, 2, 2, 2, 0]))) (.inr (0, 32))) (.inr (0, 8))) (.inr (0, 8))) (.inr (0, 8))) (.inl (8, [2, 2, 2, 2, 0]))) (.inr (0, 32))) (.inr (0, 8))) (.inr (0, 8))) (.inr (0, 8))) (.inl (8, [2, 2, 2, 2, 0]))) (.inr (0, 32))) (.inr (0, 8))) (.inr (0, 8))) (.inr (0, 8))) (.inl (8, [2, 2, 2, 2, 0]))) (.inr (0, 32))) (.inr (0, 8))) (.inr (0, 8))) (.inr (0, 8))) (.inl (8, [2, 2, 2, 2, 0]))) (.inr (0, 32))) (.inr (0, 8))) (.inr (0, 8))) (.inr (0, 8))) (.inl (8, [2, 2, 2, 2, 0]))) (.inr (0, 32))) (.inr (0, 8))) (.inr (0, 8))) (.inr (0, 8)))) μX2_init (d + 2) 101 1240 [.ref (adb bs 31)] m (K_X2 m) := by
  refine CtK.of (n := 32) (by decide +kernel) rfl rfl hn (Nat.le_of_ble_eq_true rfl) ?_
  unfold K_X2
  refine aw_eq (L' := [(0, .ref (adb bs 31))]) ?_ rfl rfl rfl
  refine aw_aload_n (j := 0) dX2_init_0 rfl rfl ?_
  refine aw_objInit dX2_init_1 ob_X2_1 (Nat.le_of_ble_eq_true rfl) ?_
  refine aw_aload_n (j := 0) dX2_init_4 rfl rfl ?_
  refine aw_bipush (v := 20) dX2_init_5 (by decide) ?_
  refine aw_newq6 (n := 32) (kc := 100) (ks := 1220) (N := 20) dX2_init_7 hn w_300 (by decide) (by decide +kernel) (by decide +kernel) ?_
  refine aw_putFR (x := 32) dX2_init_10 f_X2_11 cl_X2 rfl rfl rfl (at_old hb) rfl rfl rfl ?_
  refine aw_aload_n (j := 0) dX2_init_13 rfl rfl ?_
  refine aw_iconst (v := 0) dX2_init_14 (by decide) ?_
  refine aw_putI dX2_init_15 f_X2_15 cl_X2 rfl (at_old hb) rfl (by decide) (by decide) ?_
  refine aw_aload_n (j := 0) dX2_init_18 rfl rfl ?_
  refine aw_iconst (v := 0) dX2_init_19 (by decide) ?_
  refine aw_putI dX2_init_20 f_X2_19 cl_X2 rfl (at_old hb) rfl (by decide) (by decide) ?_
  refine aw_iconst (v := 0) dX2_init_23 (by decide) ?_
  refine aw_istore_n (L' := [(1, .int (0)), (0, .ref (adb bs 31))]) dX2_init_24 rfl (by decide) rfl ?_
  refine aw_iload_n (j := 0) dX2_init_25 rfl rfl ?_
  refine aw_bipush (v := 20) dX2_init_26 (by decide) ?_
  refine aw_icmp_ge (tgt := 50) dX2_init_28 (by decide) (fun hc => absurd hc (by decide)) (fun _ => ?_)
  refine aw_aload_n (j := 1) dX2_init_31 rfl rfl ?_
  refine aw_getfield (c := 2) (v := .ref (adb bs 32)) dX2_init_32 f_X2_11 (at_old hb) rfl rfl ?_
  refine aw_iload_n (j := 0) dX2_init_35 rfl rfl ?_
  refine aw_new (n := 33) (kc := 99) (ks := 1215) (N := 5) dX2_init_36 (len_push hn) nw_X2_9 ?_
  refine aw_dup dX2_init_39 rfl ?_
  refine aw_callIN (n := 34) (kc := 95) (ks := 1159) (kc' := 4) (ks' := 56) (rest := [.ref (adb bs 33), .int (0), .ref (adb bs 32)]) [] dX2_init_40 (len_push (len_push hn)) (by omega) (len_push (len_push (len_push (len_push (len_push (len_push hn)))))) ki_X2_22 rfl (n_X8 (hn := (len_push (len_push hn))) (hb := (at_new (len_push hn)))) (Nat.le_of_ble_eq_true rfl) ?_
  refine aw_aastore6 dX2_init_43 (at_old (at_old (at_old (at_old (at_old (at_new hn)))))) (at_old (at_old (at_old (at_old (at_new (len_push hn)))))) (by unfold vp_in; decide) ?_
  refine aw_iinc (j := 0) (v := 1) (L' := [(1, .int (1)), (0, .ref (adb bs 31))]) dX2_init_44 rfl (by decide) (by decide) rfl ?_
  refine aw_goto (tgt := 25) dX2_init_47 (by decide) ?_
  have hn0 : ((ps (ps (ps (ps (ps (ps lay (.inr (6, 20))) (.inl (8, [2, 2, 2, 2, 0]))) (.inr (0, 32))) (.inr (0, 8))) (.inr (0, 8))) (.inr (0, 8)))).length = 38 := (len_push (len_push (len_push (len_push (len_push (len_push hn))))))
  have he0_31 : ((ps (ps (ps (ps (ps (ps lay (.inr (6, 20))) (.inl (8, [2, 2, 2, 2, 0]))) (.inr (0, 32))) (.inr (0, 8))) (.inr (0, 8))) (.inr (0, 8))))[31]? = some (.inl (2, [2, 0, 0])) := (at_old (at_old (at_old (at_old (at_old (at_old hb))))))
  have he0_32 : ((ps (ps (ps (ps (ps (ps lay (.inr (6, 20))) (.inl (8, [2, 2, 2, 2, 0]))) (.inr (0, 32))) (.inr (0, 8))) (.inr (0, 8))) (.inr (0, 8))))[32]? = some (.inr (6, 20)) := (at_old (at_old (at_old (at_old (at_old (at_new hn))))))
  have hm0_0 : (uR (K_X8 (zm (uI (uI (uR (zm m 32) 31 0 (some 32)) 31 1 (0)) 31 2 (0)) 33) 33 34) 32 (0 : Int32).toNatClampNeg (some 33)).2.2 31 0 = some 32 := rfl
  generalize (ps (ps (ps (ps (ps (ps lay (.inr (6, 20))) (.inl (8, [2, 2, 2, 2, 0]))) (.inr (0, 32))) (.inr (0, 8))) (.inr (0, 8))) (.inr (0, 8))) = lay0 at hn0 he0_31 he0_32 ⊢
  generalize uR (K_X8 (zm (uI (uI (uR (zm m 32) 31 0 (some 32)) 31 1 (0)) 31 2 (0)) 33) 33 34) 32 (0 : Int32).toNatClampNeg (some 33) = m_0 at hm0_0 ⊢
  refine aw_iload_n (j := 0) dX2_init_25 rfl rfl ?_
  refine aw_bipush (v := 20) dX2_init_26 (by decide) ?_
  refine aw_icmp_ge (tgt := 50) dX2_init_28 (by decide) (fun hc => absurd hc (by decide)) (fun _ => ?_)
  refine aw_aload_n (j := 1) dX2_init_31 rfl rfl ?_
  refine aw_getfield (c := 2) (v := .ref (adb bs 32)) dX2_init_32 f_X2_11 he0_31 rfl (by show va_rf (Option.map (adb bs) (m_0.2.2 31 0)) = _; rw [show (m_0).2.2 31 0 = some 32 from hm0_0]; rfl) ?_
  refine aw_iload_n (j := 0) dX2_init_35 rfl rfl ?_
  refine aw_new (n := 38) (kc := 94) (ks := 1154) (N := 5) dX2_init_36 hn0 nw_X2_9 ?_
  refine aw_dup dX2_init_39 rfl ?_
  refine aw_callIN (n := 39) (kc := 90) (ks := 1098) (kc' := 4) (ks' := 56) (rest := [.ref (adb bs 38), .int (1), .ref (adb bs 32)]) [] dX2_init_40 (len_push hn0) (by omega) (len_push (len_push (len_push (len_push (len_push hn0))))) ki_X2_22 rfl (n_X8 (hn := (len_push hn0)) (hb := (at_new hn0))) (Nat.le_of_ble_eq_true rfl) ?_
  refine aw_aastore6 dX2_init_43 (at_old (at_old (at_old (at_old (at_old he0_32))))) (at_old (at_old (at_old (at_old (at_new hn0))))) (by unfold vp_in; decide) ?_
  refine aw_iinc (j := 0) (v := 2) (L' := [(1, .int (2)), (0, .ref (adb bs 31))]) dX2_init_44 rfl (by decide) (by decide) rfl ?_
  refine aw_goto (tgt := 25) dX2_init_47 (by decide) ?_
  have hn1 : ((ps (ps (ps (ps (ps lay0 (.inl (8, [2, 2, 2, 2, 0]))) (.inr (0, 32))) (.inr (0, 8))) (.inr (0, 8))) (.inr (0, 8)))).length = 43 := (len_push (len_push (len_push (len_push (len_push hn0)))))
  have he1_31 : ((ps (ps (ps (ps (ps lay0 (.inl (8, [2, 2, 2, 2, 0]))) (.inr (0, 32))) (.inr (0, 8))) (.inr (0, 8))) (.inr (0, 8))))[31]? = some (.inl (2, [2, 0, 0])) := (at_old (at_old (at_old (at_old (at_old he0_31)))))
  have he1_32 : ((ps (ps (ps (ps (ps lay0 (.inl (8, [2, 2, 2, 2, 0]))) (.inr (0, 32))) (.inr (0, 8))) (.inr (0, 8))) (.inr (0, 8))))[32]? = some (.inr (6, 20)) := (at_old (at_old (at_old (at_old (at_old he0_32)))))
  have hm1_0 : (uR (K_X8 (zm m_0 38) 38 39) 32 (1 : Int32).toNatClampNeg (some 38)).2.2 31 0 = some 32 := hm0_0
  generalize (ps (ps (ps (ps (ps lay0 (.inl (8, [2, 2, 2, 2, 0]))) (.inr (0, 32))) (.inr (0, 8))) (.inr (0, 8))) (.inr (0, 8))) = lay1 at hn1 he1_31 he1_32 ⊢
  generalize uR (K_X8 (zm m_0 38) 38 39) 32 (1 : Int32).toNatClampNeg (some 38) = m_1 at hm1_0 ⊢
  refine aw_iload_n (j := 0) dX2_init_25 rfl rfl ?_
  refine aw_bipush (v := 20) dX2_init_26 (by decide) ?_
  refine aw_icmp_ge (tgt := 50) dX2_init_28 (by decide) (fun hc => absurd hc (by decide)) (fun _ => ?_)
  refine aw_aload_n (j := 1) dX2_init_31 rfl rfl ?_
  refine aw_getfield (c := 2) (v := .ref (adb bs 32)) dX2_init_32 f_X2_11 he1_31 rfl (by show va_rf (Option.map (adb bs) (m_1.2.2 31 0)) = _; rw [show (m_1).2.2 31 0 = some 32 from hm1_0]; rfl) ?_
  refine aw_iload_n (j := 0) dX2_init_35 rfl rfl ?_
  refine aw_new (n := 43) (kc := 89) (ks := 1093) (N := 5) dX2_init_36 hn1 nw_X2_9 ?_
  refine aw_dup dX2_init_39 rfl ?_
  refine aw_callIN (n := 44) (kc := 85) (ks := 1037) (kc' := 4) (ks' := 56) (rest := [.ref (adb bs 43), .int (2), .ref (adb bs 32)]) [] dX2_init_40 (len_push hn1) (by omega) (len_push (len_push (len_push (len_push (len_push hn1))))) ki_X2_22 rfl (n_X8 (hn := (len_push hn1)) (hb := (at_new hn1))) (Nat.le_of_ble_eq_true rfl) ?_
  refine aw_aastore6 dX2_init_43 (at_old (at_old (at_old (at_old (at_old he1_32))))) (at_old (at_old (at_old (at_old (at_new hn1))))) (by unfold vp_in; decide) ?_
  refine aw_iinc (j := 0) (v := 3) (L' := [(1, .int (3)), (0, .ref (adb bs 31))]) dX2_init_44 rfl (by decide) (by decide) rfl ?_
  refine aw_goto (tgt := 25) dX2_init_47 (by decide) ?_
  have hn2 : ((ps (ps (ps (ps (ps lay1 (.inl (8, [2, 2, 2, 2, 0]))) (.inr (0, 32))) (.inr (0, 8))) (.inr (0, 8))) (.inr (0, 8)))).length = 48 := (len_push (len_push (len_push (len_push (len_push hn1)))))
  have he2_31 : ((ps (ps (ps (ps (ps lay1 (.inl (8, [2, 2, 2, 2, 0]))) (.inr (0, 32))) (.inr (0, 8))) (.inr (0, 8))) (.inr (0, 8))))[31]? = some (.inl (2, [2, 0, 0])) := (at_old (at_old (at_old (at_old (at_old he1_31)))))
  have he2_32 : ((ps (ps (ps (ps (ps lay1 (.inl (8, [2, 2, 2, 2, 0]))) (.inr (0, 32))) (.inr (0, 8))) (.inr (0, 8))) (.inr (0, 8))))[32]? = some (.inr (6, 20)) := (at_old (at_old (at_old (at_old (at_old he1_32)))))
  have hm2_0 : (uR (K_X8 (zm m_1 43) 43 44) 32 (2 : Int32).toNatClampNeg (some 43)).2.2 31 0 = some 32 := hm1_0
  generalize (ps (ps (ps (ps (ps lay1 (.inl (8, [2, 2, 2, 2, 0]))) (.inr (0, 32))) (.inr (0, 8))) (.inr (0, 8))) (.inr (0, 8))) = lay2 at hn2 he2_31 he2_32 ⊢
  generalize uR (K_X8 (zm m_1 43) 43 44) 32 (2 : Int32).toNatClampNeg (some 43) = m_2 at hm2_0 ⊢
  refine aw_iload_n (j := 0) dX2_init_25 rfl rfl ?_
  refine aw_bipush (v := 20) dX2_init_26 (by decide) ?_
  refine aw_icmp_ge (tgt := 50) dX2_init_28 (by decide) (fun hc => absurd hc (by decide)) (fun _ => ?_)
  refine aw_aload_n (j := 1) dX2_init_31 rfl rfl ?_
  refine aw_getfield (c := 2) (v := .ref (adb bs 32)) dX2_init_32 f_X2_11 he2_31 rfl (by show va_rf (Option.map (adb bs) (m_2.2.2 31 0)) = _; rw [show (m_2).2.2 31 0 = some 32 from hm2_0]; rfl) ?_
  refine aw_iload_n (j := 0) dX2_init_35 rfl rfl ?_
  refine aw_new (n := 48) (kc := 84) (ks := 1032) (N := 5) dX2_init_36 hn2 nw_X2_9 ?_
  refine aw_dup dX2_init_39 rfl ?_
  refine aw_callIN (n := 49) (kc := 80) (ks := 976) (kc' := 4) (ks' := 56) (rest := [.ref (adb bs 48), .int (3), .ref (adb bs 32)]) [] dX2_init_40 (len_push hn2) (by omega) (len_push (len_push (len_push (len_push (len_push hn2))))) ki_X2_22 rfl (n_X8 (hn := (len_push hn2)) (hb := (at_new hn2))) (Nat.le_of_ble_eq_true rfl) ?_
  refine aw_aastore6 dX2_init_43 (at_old (at_old (at_old (at_old (at_old he2_32))))) (at_old (at_old (at_old (at_old (at_new hn2))))) (by unfold vp_in; decide) ?_
  refine aw_iinc (j := 0) (v := 4) (L' := [(1, .int (4)), (0, .ref (adb bs 31))]) dX2_init_44 rfl (by decide) (by decide) rfl ?_
  refine aw_goto (tgt := 25) dX2_init_47 (by decide) ?_
  have hn3 : ((ps (ps (ps (ps (ps lay2 (.inl (8, [2, 2, 2, 2, 0]))) (.inr (0, 32))) (.inr (0, 8))) (.inr (0, 8))) (.inr (0, 8)))).length = 53 := (len_push (len_push (len_push (len_push (len_push hn2)))))
  have he3_31 : ((ps (ps (ps (ps (ps lay2 (.inl (8, [2, 2, 2, 2, 0]))) (.inr (0, 32))) (.inr (0, 8))) (.inr (0, 8))) (.inr (0, 8))))[31]? = some (.inl (2, [2, 0, 0])) := (at_old (at_old (at_old (at_old (at_old he2_31)))))
  have he3_32 : ((ps (ps (ps (ps (ps lay2 (.inl (8, [2, 2, 2, 2, 0]))) (.inr (0, 32))) (.inr (0, 8))) (.inr (0, 8))) (.inr (0, 8))))[32]? = some (.inr (6, 20)) := (at_old (at_old (at_old (at_old (at_old he2_32)))))
  have hm3_0 : (uR (K_X8 (zm m_2 48) 48 49) 32 (3 : Int32).toNatClampNeg (some 48)).2.2 31 0 = some 32 := hm2_0
  generalize (ps (ps (ps (ps (ps lay2 (.inl (8, [2, 2, 2, 2, 0]))) (.inr (0, 32))) (.inr (0, 8))) (.inr (0, 8))) (.inr (0, 8))) = lay3 at hn3 he3_31 he3_32 ⊢
  generalize uR (K_X8 (zm m_2 48) 48 49) 32 (3 : Int32).toNatClampNeg (some 48) = m_3 at hm3_0 ⊢
  refine aw_iload_n (j := 0) dX2_init_25 rfl rfl ?_
  refine aw_bipush (v := 20) dX2_init_26 (by decide) ?_
  refine aw_icmp_ge (tgt := 50) dX2_init_28 (by decide) (fun hc => absurd hc (by decide)) (fun _ => ?_)
  refine aw_aload_n (j := 1) dX2_init_31 rfl rfl ?_
  refine aw_getfield (c := 2) (v := .ref (adb bs 32)) dX2_init_32 f_X2_11 he3_31 rfl (by show va_rf (Option.map (adb bs) (m_3.2.2 31 0)) = _; rw [show (m_3).2.2 31 0 = some 32 from hm3_0]; rfl) ?_
  refine aw_iload_n (j := 0) dX2_init_35 rfl rfl ?_
  refine aw_new (n := 53) (kc := 79) (ks := 971) (N := 5) dX2_init_36 hn3 nw_X2_9 ?_
  refine aw_dup dX2_init_39 rfl ?_
  refine aw_callIN (n := 54) (kc := 75) (ks := 915) (kc' := 4) (ks' := 56) (rest := [.ref (adb bs 53), .int (4), .ref (adb bs 32)]) [] dX2_init_40 (len_push hn3) (by omega) (len_push (len_push (len_push (len_push (len_push hn3))))) ki_X2_22 rfl (n_X8 (hn := (len_push hn3)) (hb := (at_new hn3))) (Nat.le_of_ble_eq_true rfl) ?_
  refine aw_aastore6 dX2_init_43 (at_old (at_old (at_old (at_old (at_old he3_32))))) (at_old (at_old (at_old (at_old (at_new hn3))))) (by unfold vp_in; decide) ?_
  refine aw_iinc (j := 0) (v := 5) (L' := [(1, .int (5)), (0, .ref (adb bs 31))]) dX2_init_44 rfl (by decide) (by decide) rfl ?_
  refine aw_goto (tgt := 25) dX2_init_47 (by decide) ?_
  have hn4 : ((ps (ps (ps (ps (ps lay3 (.inl (8, [2, 2, 2, 2, 0]))) (.inr (0, 32))) (.inr (0, 8))) (.inr (0, 8))) (.inr (0, 8)))).length = 58 := (len_push (len_push (len_push (len_push (len_push hn3)))))
  have he4_31 : ((ps (ps (ps (ps (ps lay3 (.inl (8, [2, 2, 2, 2, 0]))) (.inr (0, 32))) (.inr (0, 8))) (.inr (0, 8))) (.inr (0, 8))))[31]? = some (.inl (2, [2, 0, 0])) := (at_old (at_old (at_old (at_old (at_old he3_31)))))
  have he4_32 : ((ps (ps (ps (ps (ps lay3 (.inl (8, [2, 2, 2, 2, 0]))) (.inr (0, 32))) (.inr (0, 8))) (.inr (0, 8))) (.inr (0, 8))))[32]? = some (.inr (6, 20)) := (at_old (at_old (at_old (at_old (at_old he3_32)))))
  have hm4_0 : (uR (K_X8 (zm m_3 53) 53 54) 32 (4 : Int32).toNatClampNeg (some 53)).2.2 31 0 = some 32 := hm3_0
  generalize (ps (ps (ps (ps (ps lay3 (.inl (8, [2, 2, 2, 2, 0]))) (.inr (0, 32))) (.inr (0, 8))) (.inr (0, 8))) (.inr (0, 8))) = lay4 at hn4 he4_31 he4_32 ⊢
  generalize uR (K_X8 (zm m_3 53) 53 54) 32 (4 : Int32).toNatClampNeg (some 53) = m_4 at hm4_0 ⊢
  refine aw_iload_n (j := 0) dX2_init_25 rfl rfl ?_
  refine aw_bipush (v := 20) dX2_init_26 (by decide) ?_
  refine aw_icmp_ge (tgt := 50) dX2_init_28 (by decide) (fun hc => absurd hc (by decide)) (fun _ => ?_)
  refine aw_aload_n (j := 1) dX2_init_31 rfl rfl ?_
  refine aw_getfield (c := 2) (v := .ref (adb bs 32)) dX2_init_32 f_X2_11 he4_31 rfl (by show va_rf (Option.map (adb bs) (m_4.2.2 31 0)) = _; rw [show (m_4).2.2 31 0 = some 32 from hm4_0]; rfl) ?_
  refine aw_iload_n (j := 0) dX2_init_35 rfl rfl ?_
  refine aw_new (n := 58) (kc := 74) (ks := 910) (N := 5) dX2_init_36 hn4 nw_X2_9 ?_
  refine aw_dup dX2_init_39 rfl ?_
  refine aw_callIN (n := 59) (kc := 70) (ks := 854) (kc' := 4) (ks' := 56) (rest := [.ref (adb bs 58), .int (5), .ref (adb bs 32)]) [] dX2_init_40 (len_push hn4) (by omega) (len_push (len_push (len_push (len_push (len_push hn4))))) ki_X2_22 rfl (n_X8 (hn := (len_push hn4)) (hb := (at_new hn4))) (Nat.le_of_ble_eq_true rfl) ?_
  refine aw_aastore6 dX2_init_43 (at_old (at_old (at_old (at_old (at_old he4_32))))) (at_old (at_old (at_old (at_old (at_new hn4))))) (by unfold vp_in; decide) ?_
  refine aw_iinc (j := 0) (v := 6) (L' := [(1, .int (6)), (0, .ref (adb bs 31))]) dX2_init_44 rfl (by decide) (by decide) rfl ?_
  refine aw_goto (tgt := 25) dX2_init_47 (by decide) ?_
  have hn5 : ((ps (ps (ps (ps (ps lay4 (.inl (8, [2, 2, 2, 2, 0]))) (.inr (0, 32))) (.inr (0, 8))) (.inr (0, 8))) (.inr (0, 8)))).length = 63 := (len_push (len_push (len_push (len_push (len_push hn4)))))
  have he5_31 : ((ps (ps (ps (ps (ps lay4 (.inl (8, [2, 2, 2, 2, 0]))) (.inr (0, 32))) (.inr (0, 8))) (.inr (0, 8))) (.inr (0, 8))))[31]? = some (.inl (2, [2, 0, 0])) := (at_old (at_old (at_old (at_old (at_old he4_31)))))
  have he5_32 : ((ps (ps (ps (ps (ps lay4 (.inl (8, [2, 2, 2, 2, 0]))) (.inr (0, 32))) (.inr (0, 8))) (.inr (0, 8))) (.inr (0, 8))))[32]? = some (.inr (6, 20)) := (at_old (at_old (at_old (at_old (at_old he4_32)))))
  have hm5_0 : (uR (K_X8 (zm m_4 58) 58 59) 32 (5 : Int32).toNatClampNeg (some 58)).2.2 31 0 = some 32 := hm4_0
  generalize (ps (ps (ps (ps (ps lay4 (.inl (8, [2, 2, 2, 2, 0]))) (.inr (0, 32))) (.inr (0, 8))) (.inr (0, 8))) (.inr (0, 8))) = lay5 at hn5 he5_31 he5_32 ⊢
  generalize uR (K_X8 (zm m_4 58) 58 59) 32 (5 : Int32).toNatClampNeg (some 58) = m_5 at hm5_0 ⊢
  refine aw_iload_n (j := 0) dX2_init_25 rfl rfl ?_
  refine aw_bipush (v := 20) dX2_init_26 (by decide) ?_
  refine aw_icmp_ge (tgt := 50) dX2_init_28 (by decide) (fun hc => absurd hc (by decide)) (fun _ => ?_)
  refine aw_aload_n (j := 1) dX2_init_31 rfl rfl ?_
  refine aw_getfield (c := 2) (v := .ref (adb bs 32)) dX2_init_32 f_X2_11 he5_31 rfl (by show va_rf (Option.map (adb bs) (m_5.2.2 31 0)) = _; rw [show (m_5).2.2 31 0 = some 32 from hm5_0]; rfl) ?_
  refine aw_iload_n (j := 0) dX2_init_35 rfl rfl ?_
  refine aw_new (n := 63) (kc := 69) (ks := 849) (N := 5) dX2_init_36 hn5 nw_X2_9 ?_
  refine aw_dup dX2_init_39 rfl ?_
  refine aw_callIN (n := 64) (kc := 65) (ks := 793) (kc' := 4) (ks' := 56) (rest := [.ref (adb bs 63), .int (6), .ref (adb bs 32)]) [] dX2_init_40 (len_push hn5) (by omega) (len_push (len_push (len_push (len_push (len_push hn5))))) ki_X2_22 rfl (n_X8 (hn := (len_push hn5)) (hb := (at_new hn5))) (Nat.le_of_ble_eq_true rfl) ?_
  refine aw_aastore6 dX2_init_43 (at_old (at_old (at_old (at_old (at_old he5_32))))) (at_old (at_old (at_old (at_old (at_new hn5))))) (by unfold vp_in; decide) ?_
  refine aw_iinc (j := 0) (v := 7) (L' := [(1, .int (7)), (0, .ref (adb bs 31))]) dX2_init_44 rfl (by decide) (by decide) rfl ?_
  refine aw_goto (tgt := 25) dX2_init_47 (by decide) ?_
  have hn6 : ((ps (ps (ps (ps (ps lay5 (.inl (8, [2, 2, 2, 2, 0]))) (.inr (0, 32))) (.inr (0, 8))) (.inr (0, 8))) (.inr (0, 8)))).length = 68 := (len_push (len_push (len_push (len_push (len_push hn5)))))
  have he6_31 : ((ps (ps (ps (ps (ps lay5 (.inl (8, [2, 2, 2, 2, 0]))) (.inr (0, 32))) (.inr (0, 8))) (.inr (0, 8))) (.inr (0, 8))))[31]? = some (.inl (2, [2, 0, 0])) := (at_old (at_old (at_old (at_old (at_old he5_31)))))
  have he6_32 : ((ps (ps (ps (ps (ps lay5 (.inl (8, [2, 2, 2, 2, 0]))) (.inr (0, 32))) (.inr (0, 8))) (.inr (0, 8))) (.inr (0, 8))))[32]? = some (.inr (6, 20)) := (at_old (at_old (at_old (at_old (at_old he5_32)))))
  have hm6_0 : (uR (K_X8 (zm m_5 63) 63 64) 32 (6 : Int32).toNatClampNeg (some 63)).2.2 31 0 = some 32 := hm5_0
  generalize (ps (ps (ps (ps (ps lay5 (.inl (8, [2, 2, 2, 2, 0]))) (.inr (0, 32))) (.inr (0, 8))) (.inr (0, 8))) (.inr (0, 8))) = lay6 at hn6 he6_31 he6_32 ⊢
  generalize uR (K_X8 (zm m_5 63) 63 64) 32 (6 : Int32).toNatClampNeg (some 63) = m_6 at hm6_0 ⊢
  refine aw_iload_n (j := 0) dX2_init_25 rfl rfl ?_
  refine aw_bipush (v := 20) dX2_init_26 (by decide) ?_
  refine aw_icmp_ge (tgt := 50) dX2_init_28 (by decide) (fun hc => absurd hc (by decide)) (fun _ => ?_)
  refine aw_aload_n (j := 1) dX2_init_31 rfl rfl ?_
  refine aw_getfield (c := 2) (v := .ref (adb bs 32)) dX2_init_32 f_X2_11 he6_31 rfl (by show va_rf (Option.map (adb bs) (m_6.2.2 31 0)) = _; rw [show (m_6).2.2 31 0 = some 32 from hm6_0]; rfl) ?_
  refine aw_iload_n (j := 0) dX2_init_35 rfl rfl ?_
  refine aw_new (n := 68) (kc := 64) (ks := 788) (N := 5) dX2_init_36 hn6 nw_X2_9 ?_
  refine aw_dup dX2_init_39 rfl ?_
  refine aw_callIN (n := 69) (kc := 60) (ks := 732) (kc' := 4) (ks' := 56) (rest := [.ref (adb bs 68), .int (7), .ref (adb bs 32)]) [] dX2_init_40 (len_push hn6) (by omega) (len_push (len_push (len_push (len_push (len_push hn6))))) ki_X2_22 rfl (n_X8 (hn := (len_push hn6)) (hb := (at_new hn6))) (Nat.le_of_ble_eq_true rfl) ?_
  refine aw_aastore6 dX2_init_43 (at_old (at_old (at_old (at_old (at_old he6_32))))) (at_old (at_old (at_old (at_old (at_new hn6))))) (by unfold vp_in; decide) ?_
  refine aw_iinc (j := 0) (v := 8) (L' := [(1, .int (8)), (0, .ref (adb bs 31))]) dX2_init_44 rfl (by decide) (by decide) rfl ?_
  refine aw_goto (tgt := 25) dX2_init_47 (by decide) ?_
  have hn7 : ((ps (ps (ps (ps (ps lay6 (.inl (8, [2, 2, 2, 2, 0]))) (.inr (0, 32))) (.inr (0, 8))) (.inr (0, 8))) (.inr (0, 8)))).length = 73 := (len_push (len_push (len_push (len_push (len_push hn6)))))
  have he7_31 : ((ps (ps (ps (ps (ps lay6 (.inl (8, [2, 2, 2, 2, 0]))) (.inr (0, 32))) (.inr (0, 8))) (.inr (0, 8))) (.inr (0, 8))))[31]? = some (.inl (2, [2, 0, 0])) := (at_old (at_old (at_old (at_old (at_old he6_31)))))
  have he7_32 : ((ps (ps (ps (ps (ps lay6 (.inl (8, [2, 2, 2, 2, 0]))) (.inr (0, 32))) (.inr (0, 8))) (.inr (0, 8))) (.inr (0, 8))))[32]? = some (.inr (6, 20)) := (at_old (at_old (at_old (at_old (at_old he6_32)))))
  have hm7_0 : (uR (K_X8 (zm m_6 68) 68 69) 32 (7 : Int32).toNatClampNeg (some 68)).2.2 31 0 = some 32 := hm6_0
  generalize (ps (ps (ps (ps (ps lay6 (.inl (8, [2, 2, 2, 2, 0]))) (.inr (0, 32))) (.inr (0, 8))) (.inr (0, 8))) (.inr (0, 8))) = lay7 at hn7 he7_31 he7_32 ⊢
  generalize uR (K_X8 (zm m_6 68) 68 69) 32 (7 : Int32).toNatClampNeg (some 68) = m_7 at hm7_0 ⊢
  refine aw_iload_n (j := 0) dX2_init_25 rfl rfl ?_
  refine aw_bipush (v := 20) dX2_init_26 (by decide) ?_
  refine aw_icmp_ge (tgt := 50) dX2_init_28 (by decide) (fun hc => absurd hc (by decide)) (fun _ => ?_)
  refine aw_aload_n (j := 1) dX2_init_31 rfl rfl ?_
  refine aw_getfield (c := 2) (v := .ref (adb bs 32)) dX2_init_32 f_X2_11 he7_31 rfl (by show va_rf (Option.map (adb bs) (m_7.2.2 31 0)) = _; rw [show (m_7).2.2 31 0 = some 32 from hm7_0]; rfl) ?_
  refine aw_iload_n (j := 0) dX2_init_35 rfl rfl ?_
  refine aw_new (n := 73) (kc := 59) (ks := 727) (N := 5) dX2_init_36 hn7 nw_X2_9 ?_
  refine aw_dup dX2_init_39 rfl ?_
  refine aw_callIN (n := 74) (kc := 55) (ks := 671) (kc' := 4) (ks' := 56) (rest := [.ref (adb bs 73), .int (8), .ref (adb bs 32)]) [] dX2_init_40 (len_push hn7) (by omega) (len_push (len_push (len_push (len_push (len_push hn7))))) ki_X2_22 rfl (n_X8 (hn := (len_push hn7)) (hb := (at_new hn7))) (Nat.le_of_ble_eq_true rfl) ?_
  refine aw_aastore6 dX2_init_43 (at_old (at_old (at_old (at_old (at_old he7_32))))) (at_old (at_old (at_old (at_old (at_new hn7))))) (by unfold vp_in; decide) ?_
  refine aw_iinc (j := 0) (v := 9) (L' := [(1, .int (9)), (0, .ref (adb bs 31))]) dX2_init_44 rfl (by decide) (by decide) rfl ?_
  refine aw_goto (tgt := 25) dX2_init_47 (by decide) ?_
  have hn8 : ((ps (ps (ps (ps (ps lay7 (.inl (8, [2, 2, 2, 2, 0]))) (.inr (0, 32))) (.inr (0, 8))) (.inr (0, 8))) (.inr (0, 8)))).length = 78 := (len_push (len_push (len_push (len_push (len_push hn7)))))
  have he8_31 : ((ps (ps (ps (ps (ps lay7 (.inl (8, [2, 2, 2, 2, 0]))) (.inr (0, 32))) (.inr (0, 8))) (.inr (0, 8))) (.inr (0, 8))))[31]? = some (.inl (2, [2, 0, 0])) := (at_old (at_old (at_old (at_old (at_old he7_31)))))
  have he8_32 : ((ps (ps (ps (ps (ps lay7 (.inl (8, [2, 2, 2, 2, 0]))) (.inr (0, 32))) (.inr (0, 8))) (.inr (0, 8))) (.inr (0, 8))))[32]? = some (.inr (6, 20)) := (at_old (at_old (at_old (at_old (at_old he7_32)))))
  have hm8_0 : (uR (K_X8 (zm m_7 73) 73 74) 32 (8 : Int32).toNatClampNeg (some 73)).2.2 31 0 = some 32 := hm7_0
  generalize (ps (ps (ps (ps (ps lay7 (.inl (8, [2, 2, 2, 2, 0]))) (.inr (0, 32))) (.inr (0, 8))) (.inr (0, 8))) (.inr (0, 8))) = lay8 at hn8 he8_31 he8_32 ⊢
  generalize uR (K_X8 (zm m_7 73) 73 74) 32 (8 : Int32).toNatClampNeg (some 73) = m_8 at hm8_0 ⊢
  refine aw_iload_n (j := 0) dX2_init_25 rfl rfl ?_
  refine aw_bipush (v := 20) dX2_init_26 (by decide) ?_
  refine aw_icmp_ge (tgt := 50) dX2_init_28 (by decide) (fun hc => absurd hc (by decide)) (fun _ => ?_)
  refine aw_aload_n (j := 1) dX2_init_31 rfl rfl ?_
  refine aw_getfield (c := 2) (v := .ref (adb bs 32)) dX2_init_32 f_X2_11 he8_31 rfl (by show va_rf (Option.map (adb bs) (m_8.2.2 31 0)) = _; rw [show (m_8).2.2 31 0 = some 32 from hm8_0]; rfl) ?_
  refine aw_iload_n (j := 0) dX2_init_35 rfl rfl ?_
  refine aw_new (n := 78) (kc := 54) (ks := 666) (N := 5) dX2_init_36 hn8 nw_X2_9 ?_
  refine aw_dup dX2_init_39 rfl ?_
  refine aw_callIN (n := 79) (kc := 50) (ks := 610) (kc' := 4) (ks' := 56) (rest := [.ref (adb bs 78), .int (9), .ref (adb bs 32)]) [] dX2_init_40 (len_push hn8) (by omega) (len_push (len_push (len_push (len_push (len_push hn8))))) ki_X2_22 rfl (n_X8 (hn := (len_push hn8)) (hb := (at_new hn8))) (Nat.le_of_ble_eq_true rfl) ?_
  refine aw_aastore6 dX2_init_43 (at_old (at_old (at_old (at_old (at_old he8_32))))) (at_old (at_old (at_old (at_old (at_new hn8))))) (by unfold vp_in; decide) ?_
  refine aw_iinc (j := 0) (v := 10) (L' := [(1, .int (10)), (0, .ref (adb bs 31))]) dX2_init_44 rfl (by decide) (by decide) rfl ?_
  refine aw_goto (tgt := 25) dX2_init_47 (by decide) ?_
  have hn9 : ((ps (ps (ps (ps (ps lay8 (.inl (8, [2, 2, 2, 2, 0]))) (.inr (0, 32))) (.inr (0, 8))) (.inr (0, 8))) (.inr (0, 8)))).length = 83 := (len_push (len_push (len_push (len_push (len_push hn8)))))
  have he9_31 : ((ps (ps (ps (ps (ps lay8 (.inl (8, [2, 2, 2, 2, 0]))) (.inr (0, 32))) (.inr (0, 8))) (.inr (0, 8))) (.inr (0, 8))))[31]? = some (.inl (2, [2, 0, 0])) := (at_old (at_old (at_old (at_old (at_old he8_31)))))
  have he9_32 : ((ps (ps (ps (ps (ps lay8 (.inl (8, [2, 2, 2, 2, 0]))) (.inr (0, 32))) (.inr (0, 8))) (.inr (0, 8))) (.inr (0, 8))))[32]? = some (.inr (6, 20)) := (at_old (at_old (at_old (at_old (at_old he8_32)))))
  have hm9_0 : (uR (K_X8 (zm m_8 78) 78 79) 32 (9 : Int32).toNatClampNeg (some 78)).2.2 31 0 = some 32 := hm8_0
  generalize (ps (ps (ps (ps (ps lay8 (.inl (8, [2, 2, 2, 2, 0]))) (.inr (0, 32))) (.inr (0, 8))) (.inr (0, 8))) (.inr (0, 8))) = lay9 at hn9 he9_31 he9_32 ⊢
  generalize uR (K_X8 (zm m_8 78) 78 79) 32 (9 : Int32).toNatClampNeg (some 78) = m_9 at hm9_0 ⊢
  refine aw_iload_n (j := 0) dX2_init_25 rfl rfl ?_
  refine aw_bipush (v := 20) dX2_init_26 (by decide) ?_
  refine aw_icmp_ge (tgt := 50) dX2_init_28 (by decide) (fun hc => absurd hc (by decide)) (fun _ => ?_)
  refine aw_aload_n (j := 1) dX2_init_31 rfl rfl ?_
  refine aw_getfield (c := 2) (v := .ref (adb bs 32)) dX2_init_32 f_X2_11 he9_31 rfl (by show va_rf (Option.map (adb bs) (m_9.2.2 31 0)) = _; rw [show (m_9).2.2 31 0 = some 32 from hm9_0]; rfl) ?_
  refine aw_iload_n (j := 0) dX2_init_35 rfl rfl ?_
  refine aw_new (n := 83) (kc := 49) (ks := 605) (N := 5) dX2_init_36 hn9 nw_X2_9 ?_
  refine aw_dup dX2_init_39 rfl ?_
  refine aw_callIN (n := 84) (kc := 45) (ks := 549) (kc' := 4) (ks' := 56) (rest := [.ref (adb bs 83), .int (10), .ref (adb bs 32)]) [] dX2_init_40 (len_push hn9) (by omega) (len_push (len_push (len_push (len_push (len_push hn9))))) ki_X2_22 rfl (n_X8 (hn := (len_push hn9)) (hb := (at_new hn9))) (Nat.le_of_ble_eq_true rfl) ?_
  refine aw_aastore6 dX2_init_43 (at_old (at_old (at_old (at_old (at_old he9_32))))) (at_old (at_old (at_old (at_old (at_new hn9))))) (by unfold vp_in; decide) ?_
  refine aw_iinc (j := 0) (v := 11) (L' := [(1, .int (11)), (0, .ref (adb bs 31))]) dX2_init_44 rfl (by decide) (by decide) rfl ?_
  refine aw_goto (tgt := 25) dX2_init_47 (by decide) ?_
  have hn10 : ((ps (ps (ps (ps (ps lay9 (.inl (8, [2, 2, 2, 2, 0]))) (.inr (0, 32))) (.inr (0, 8))) (.inr (0, 8))) (.inr (0, 8)))).length = 88 := (len_push (len_push (len_push (len_push (len_push hn9)))))
  have he10_31 : ((ps (ps (ps (ps (ps lay9 (.inl (8, [2, 2, 2, 2, 0]))) (.inr (0, 32))) (.inr (0, 8))) (.inr (0, 8))) (.inr (0, 8))))[31]? = some (.inl (2, [2, 0, 0])) := (at_old (at_old (at_old (at_old (at_old he9_31)))))
  have he10_32 : ((ps (ps (ps (ps (ps lay9 (.inl (8, [2, 2, 2, 2, 0]))) (.inr (0, 32))) (.inr (0, 8))) (.inr (0, 8))) (.inr (0, 8))))[32]? = some (.inr (6, 20)) := (at_old (at_old (at_old (at_old (at_old he9_32)))))
  have hm10_0 : (uR (K_X8 (zm m_9 83) 83 84) 32 (10 : Int32).toNatClampNeg (some 83)).2.2 31 0 = some 32 := hm9_0
  generalize (ps (ps (ps (ps (ps lay9 (.inl (8, [2, 2, 2, 2, 0]))) (.inr (0, 32))) (.inr (0, 8))) (.inr (0, 8))) (.inr (0, 8))) = lay10 at hn10 he10_31 he10_32 ⊢
  generalize uR (K_X8 (zm m_9 83) 83 84) 32 (10 : Int32).toNatClampNeg (some 83) = m_10 at hm10_0 ⊢
  refine aw_iload_n (j := 0) dX2_init_25 rfl rfl ?_
  refine aw_bipush (v := 20) dX2_init_26 (by decide) ?_
  refine aw_icmp_ge (tgt := 50) dX2_init_28 (by decide) (fun hc => absurd hc (by decide)) (fun _ => ?_)
  refine aw_aload_n (j := 1) dX2_init_31 rfl rfl ?_
  refine aw_getfield (c := 2) (v := .ref (adb bs 32)) dX2_init_32 f_X2_11 he10_31 rfl (by show va_rf (Option.map (adb bs) (m_10.2.2 31 0)) = _; rw [show (m_10).2.2 31 0 = some 32 from hm10_0]; rfl) ?_
  refine aw_iload_n (j := 0) dX2_init_35 rfl rfl ?_
  refine aw_new (n := 88) (kc := 44) (ks := 544) (N := 5) dX2_init_36 hn10 nw_X2_9 ?_
  refine aw_dup dX2_init_39 rfl ?_
  refine aw_callIN (n := 89) (kc := 40) (ks := 488) (kc' := 4) (ks' := 56) (rest := [.ref (adb bs 88), .int (11), .ref (adb bs 32)]) [] dX2_init_40 (len_push hn10) (by omega) (len_push (len_push (len_push (len_push (len_push hn10))))) ki_X2_22 rfl (n_X8 (hn := (len_push hn10)) (hb := (at_new hn10))) (Nat.le_of_ble_eq_true rfl) ?_
  refine aw_aastore6 dX2_init_43 (at_old (at_old (at_old (at_old (at_old he10_32))))) (at_old (at_old (at_old (at_old (at_new hn10))))) (by unfold vp_in; decide) ?_
  refine aw_iinc (j := 0) (v := 12) (L' := [(1, .int (12)), (0, .ref (adb bs 31))]) dX2_init_44 rfl (by decide) (by decide) rfl ?_
  refine aw_goto (tgt := 25) dX2_init_47 (by decide) ?_
  have hn11 : ((ps (ps (ps (ps (ps lay10 (.inl (8, [2, 2, 2, 2, 0]))) (.inr (0, 32))) (.inr (0, 8))) (.inr (0, 8))) (.inr (0, 8)))).length = 93 := (len_push (len_push (len_push (len_push (len_push hn10)))))
  have he11_31 : ((ps (ps (ps (ps (ps lay10 (.inl (8, [2, 2, 2, 2, 0]))) (.inr (0, 32))) (.inr (0, 8))) (.inr (0, 8))) (.inr (0, 8))))[31]? = some (.inl (2, [2, 0, 0])) := (at_old (at_old (at_old (at_old (at_old he10_31)))))
  have he11_32 : ((ps (ps (ps (ps (ps lay10 (.inl (8, [2, 2, 2, 2, 0]))) (.inr (0, 32))) (.inr (0, 8))) (.inr (0, 8))) (.inr (0, 8))))[32]? = some (.inr (6, 20)) := (at_old (at_old (at_old (at_old (at_old he10_32)))))
  have hm11_0 : (uR (K_X8 (zm m_10 88) 88 89) 32 (11 : Int32).toNatClampNeg (some 88)).2.2 31 0 = some 32 := hm10_0
  generalize (ps (ps (ps (ps (ps lay10 (.inl (8, [2, 2, 2, 2, 0]))) (.inr (0, 32))) (.inr (0, 8))) (.inr (0, 8))) (.inr (0, 8))) = lay11 at hn11 he11_31 he11_32 ⊢
  generalize uR (K_X8 (zm m_10 88) 88 89) 32 (11 : Int32).toNatClampNeg (some 88) = m_11 at hm11_0 ⊢
  refine aw_iload_n (j := 0) dX2_init_25 rfl rfl ?_
  refine aw_bipush (v := 20) dX2_init_26 (by decide) ?_
  refine aw_icmp_ge (tgt := 50) dX2_init_28 (by decide) (fun hc => absurd hc (by decide)) (fun _ => ?_)
  refine aw_aload_n (j := 1) dX2_init_31 rfl rfl ?_
  refine aw_getfield (c := 2) (v := .ref (adb bs 32)) dX2_init_32 f_X2_11 he11_31 rfl (by show va_rf (Option.map (adb bs) (m_11.2.2 31 0)) = _; rw [show (m_11).2.2 31 0 = some 32 from hm11_0]; rfl) ?_
  refine aw_iload_n (j := 0) dX2_init_35 rfl rfl ?_
  refine aw_new (n := 93) (kc := 39) (ks := 483) (N := 5) dX2_init_36 hn11 nw_X2_9 ?_
  refine aw_dup dX2_init_39 rfl ?_
  refine aw_callIN (n := 94) (kc := 35) (ks := 427) (kc' := 4) (ks' := 56) (rest := [.ref (adb bs 93), .int (12), .ref (adb bs 32)]) [] dX2_init_40 (len_push hn11) (by omega) (len_push (len_push (len_push (len_push (len_push hn11))))) ki_X2_22 rfl (n_X8 (hn := (len_push hn11)) (hb := (at_new hn11))) (Nat.le_of_ble_eq_true rfl) ?_
  refine aw_aastore6 dX2_init_43 (at_old (at_old (at_old (at_old (at_old he11_32))))) (at_old (at_old (at_old (at_old (at_new hn11))))) (by unfold vp_in; decide) ?_
  refine aw_iinc (j := 0) (v := 13) (L' := [(1, .int (13)), (0, .ref (adb bs 31))]) dX2_init_44 rfl (by decide) (by decide) rfl ?_
  refine aw_goto (tgt := 25) dX2_init_47 (by decide) ?_
  have hn12 : ((ps (ps (ps (ps (ps lay11 (.inl (8, [2, 2, 2, 2, 0]))) (.inr (0, 32))) (.inr (0, 8))) (.inr (0, 8))) (.inr (0, 8)))).length = 98 := (len_push (len_push (len_push (len_push (len_push hn11)))))
  have he12_31 : ((ps (ps (ps (ps (ps lay11 (.inl (8, [2, 2, 2, 2, 0]))) (.inr (0, 32))) (.inr (0, 8))) (.inr (0, 8))) (.inr (0, 8))))[31]? = some (.inl (2, [2, 0, 0])) := (at_old (at_old (at_old (at_old (at_old he11_31)))))
  have he12_32 : ((ps (ps (ps (ps (ps lay11 (.inl (8, [2, 2, 2, 2, 0]))) (.inr (0, 32))) (.inr (0, 8))) (.inr (0, 8))) (.inr (0, 8))))[32]? = some (.inr (6, 20)) := (at_old (at_old (at_old (at_old (at_old he11_32)))))
  have hm12_0 : (uR (K_X8 (zm m_11 93) 93 94) 32 (12 : Int32).toNatClampNeg (some 93)).2.2 31 0 = some 32 := hm11_0
  generalize (ps (ps (ps (ps (ps lay11 (.inl (8, [2, 2, 2, 2, 0]))) (.inr (0, 32))) (.inr (0, 8))) (.inr (0, 8))) (.inr (0, 8))) = lay12 at hn12 he12_31 he12_32 ⊢
  generalize uR (K_X8 (zm m_11 93) 93 94) 32 (12 : Int32).toNatClampNeg (some 93) = m_12 at hm12_0 ⊢
  refine aw_iload_n (j := 0) dX2_init_25 rfl rfl ?_
  refine aw_bipush (v := 20) dX2_init_26 (by decide) ?_
  refine aw_icmp_ge (tgt := 50) dX2_init_28 (by decide) (fun hc => absurd hc (by decide)) (fun _ => ?_)
  refine aw_aload_n (j := 1) dX2_init_31 rfl rfl ?_
  refine aw_getfield (c := 2) (v := .ref (adb bs 32)) dX2_init_32 f_X2_11 he12_31 rfl (by show va_rf (Option.map (adb bs) (m_12.2.2 31 0)) = _; rw [show (m_12).2.2 31 0 = some 32 from hm12_0]; rfl) ?_
  refine aw_iload_n (j := 0) dX2_init_35 rfl rfl ?_
  refine aw_new (n := 98) (kc := 34) (ks := 422) (N := 5) dX2_init_36 hn12 nw_X2_9 ?_
  refine aw_dup dX2_init_39 rfl ?_
  refine aw_callIN (n := 99) (kc := 30) (ks := 366) (kc' := 4) (ks' := 56) (rest := [.ref (adb bs 98), .int (13), .ref (adb bs 32)]) [] dX2_init_40 (len_push hn12) (by omega) (len_push (len_push (len_push (len_push (len_push hn12))))) ki_X2_22 rfl (n_X8 (hn := (len_push hn12)) (hb := (at_new hn12))) (Nat.le_of_ble_eq_true rfl) ?_
  refine aw_aastore6 dX2_init_43 (at_old (at_old (at_old (at_old (at_old he12_32))))) (at_old (at_old (at_old (at_old (at_new hn12))))) (by unfold vp_in; decide) ?_
  refine aw_iinc (j := 0) (v := 14) (L' := [(1, .int (14)), (0, .ref (adb bs 31))]) dX2_init_44 rfl (by decide) (by decide) rfl ?_
  refine aw_goto (tgt := 25) dX2_init_47 (by decide) ?_
  have hn13 : ((ps (ps (ps (ps (ps lay12 (.inl (8, [2, 2, 2, 2, 0]))) (.inr (0, 32))) (.inr (0, 8))) (.inr (0, 8))) (.inr (0, 8)))).length = 103 := (len_push (len_push (len_push (len_push (len_push hn12)))))
  have he13_31 : ((ps (ps (ps (ps (ps lay12 (.inl (8, [2, 2, 2, 2, 0]))) (.inr (0, 32))) (.inr (0, 8))) (.inr (0, 8))) (.inr (0, 8))))[31]? = some (.inl (2, [2, 0, 0])) := (at_old (at_old (at_old (at_old (at_old he12_31)))))
  have he13_32 : ((ps (ps (ps (ps (ps lay12 (.inl (8, [2, 2, 2, 2, 0]))) (.inr (0, 32))) (.inr (0, 8))) (.inr (0, 8))) (.inr (0, 8))))[32]? = some (.inr (6, 20)) := (at_old (at_old (at_old (at_old (at_old he12_32)))))
  have hm13_0 : (uR (K_X8 (zm m_12 98) 98 99) 32 (13 : Int32).toNatClampNeg (some 98)).2.2 31 0 = some 32 := hm12_0
  generalize (ps (ps (ps (ps (ps lay12 (.inl (8, [2, 2, 2, 2, 0]))) (.inr (0, 32))) (.inr (0, 8))) (.inr (0, 8))) (.inr (0, 8))) = lay13 at hn13 he13_31 he13_32 ⊢
  generalize uR (K_X8 (zm m_12 98) 98 99) 32 (13 : Int32).toNatClampNeg (some 98) = m_13 at hm13_0 ⊢
  refine aw_iload_n (j := 0) dX2_init_25 rfl rfl ?_
  refine aw_bipush (v := 20) dX2_init_26 (by decide) ?_
  refine aw_icmp_ge (tgt := 50) dX2_init_28 (by decide) (fun hc => absurd hc (by decide)) (fun _ => ?_)
  refine aw_aload_n (j := 1) dX2_init_31 rfl rfl ?_
  refine aw_getfield (c := 2) (v := .ref (adb bs 32)) dX2_init_32 f_X2_11 he13_31 rfl (by show va_rf (Option.map (adb bs) (m_13.2.2 31 0)) = _; rw [show (m_13).2.2 31 0 = some 32 from hm13_0]; rfl) ?_
  refine aw_iload_n (j := 0) dX2_init_35 rfl rfl ?_
  refine aw_new (n := 103) (kc := 29) (ks := 361) (N := 5) dX2_init_36 hn13 nw_X2_9 ?_
  refine aw_dup dX2_init_39 rfl ?_
  refine aw_callIN (n := 104) (kc := 25) (ks := 305) (kc' := 4) (ks' := 56) (rest := [.ref (adb bs 103), .int (14), .ref (adb bs 32)]) [] dX2_init_40 (len_push hn13) (by omega) (len_push (len_push (len_push (len_push (len_push hn13))))) ki_X2_22 rfl (n_X8 (hn := (len_push hn13)) (hb := (at_new hn13))) (Nat.le_of_ble_eq_true rfl) ?_
  refine aw_aastore6 dX2_init_43 (at_old (at_old (at_old (at_old (at_old he13_32))))) (at_old (at_old (at_old (at_old (at_new hn13))))) (by unfold vp_in; decide) ?_
  refine aw_iinc (j := 0) (v := 15) (L' := [(1, .int (15)), (0, .ref (adb bs 31))]) dX2_init_44 rfl (by decide) (by decide) rfl ?_
  refine aw_goto (tgt := 25) dX2_init_47 (by decide) ?_
  have hn14 : ((ps (ps (ps (ps (ps lay13 (.inl (8, [2, 2, 2, 2, 0]))) (.inr (0, 32))) (.inr (0, 8))) (.inr (0, 8))) (.inr (0, 8)))).length = 108 := (len_push (len_push (len_push (len_push (len_push hn13)))))
  have he14_31 : ((ps (ps (ps (ps (ps lay13 (.inl (8, [2, 2, 2, 2, 0]))) (.inr (0, 32))) (.inr (0, 8))) (.inr (0, 8))) (.inr (0, 8))))[31]? = some (.inl (2, [2, 0, 0])) := (at_old (at_old (at_old (at_old (at_old he13_31)))))
  have he14_32 : ((ps (ps (ps (ps (ps lay13 (.inl (8, [2, 2, 2, 2, 0]))) (.inr (0, 32))) (.inr (0, 8))) (.inr (0, 8))) (.inr (0, 8))))[32]? = some (.inr (6, 20)) := (at_old (at_old (at_old (at_old (at_old he13_32)))))
  have hm14_0 : (uR (K_X8 (zm m_13 103) 103 104) 32 (14 : Int32).toNatClampNeg (some 103)).2.2 31 0 = some 32 := hm13_0
  generalize (ps (ps (ps (ps (ps lay13 (.inl (8, [2, 2, 2, 2, 0]))) (.inr (0, 32))) (.inr (0, 8))) (.inr (0, 8))) (.inr (0, 8))) = lay14 at hn14 he14_31 he14_32 ⊢
  generalize uR (K_X8 (zm m_13 103) 103 104) 32 (14 : Int32).toNatClampNeg (some 103) = m_14 at hm14_0 ⊢
  refine aw_iload_n (j := 0) dX2_init_25 rfl rfl ?_
  refine aw_bipush (v := 20) dX2_init_26 (by decide) ?_
  refine aw_icmp_ge (tgt := 50) dX2_init_28 (by decide) (fun hc => absurd hc (by decide)) (fun _ => ?_)
  refine aw_aload_n (j := 1) dX2_init_31 rfl rfl ?_
  refine aw_getfield (c := 2) (v := .ref (adb bs 32)) dX2_init_32 f_X2_11 he14_31 rfl (by show va_rf (Option.map (adb bs) (m_14.2.2 31 0)) = _; rw [show (m_14).2.2 31 0 = some 32 from hm14_0]; rfl) ?_
  refine aw_iload_n (j := 0) dX2_init_35 rfl rfl ?_
  refine aw_new (n := 108) (kc := 24) (ks := 300) (N := 5) dX2_init_36 hn14 nw_X2_9 ?_
  refine aw_dup dX2_init_39 rfl ?_
  refine aw_callIN (n := 109) (kc := 20) (ks := 244) (kc' := 4) (ks' := 56) (rest := [.ref (adb bs 108), .int (15), .ref (adb bs 32)]) [] dX2_init_40 (len_push hn14) (by omega) (len_push (len_push (len_push (len_push (len_push hn14))))) ki_X2_22 rfl (n_X8 (hn := (len_push hn14)) (hb := (at_new hn14))) (Nat.le_of_ble_eq_true rfl) ?_
  refine aw_aastore6 dX2_init_43 (at_old (at_old (at_old (at_old (at_old he14_32))))) (at_old (at_old (at_old (at_old (at_new hn14))))) (by unfold vp_in; decide) ?_
  refine aw_iinc (j := 0) (v := 16) (L' := [(1, .int (16)), (0, .ref (adb bs 31))]) dX2_init_44 rfl (by decide) (by decide) rfl ?_
  refine aw_goto (tgt := 25) dX2_init_47 (by decide) ?_
  have hn15 : ((ps (ps (ps (ps (ps lay14 (.inl (8, [2, 2, 2, 2, 0]))) (.inr (0, 32))) (.inr (0, 8))) (.inr (0, 8))) (.inr (0, 8)))).length = 113 := (len_push (len_push (len_push (len_push (len_push hn14)))))
  have he15_31 : ((ps (ps (ps (ps (ps lay14 (.inl (8, [2, 2, 2, 2, 0]))) (.inr (0, 32))) (.inr (0, 8))) (.inr (0, 8))) (.inr (0, 8))))[31]? = some (.inl (2, [2, 0, 0])) := (at_old (at_old (at_old (at_old (at_old he14_31)))))
  have he15_32 : ((ps (ps (ps (ps (ps lay14 (.inl (8, [2, 2, 2, 2, 0]))) (.inr (0, 32))) (.inr (0, 8))) (.inr (0, 8))) (.inr (0, 8))))[32]? = some (.inr (6, 20)) := (at_old (at_old (at_old (at_old (at_old he14_32)))))
  have hm15_0 : (uR (K_X8 (zm m_14 108) 108 109) 32 (15 : Int32).toNatClampNeg (some 108)).2.2 31 0 = some 32 := hm14_0
  generalize (ps (ps (ps (ps (ps lay14 (.inl (8, [2, 2, 2, 2, 0]))) (.inr (0, 32))) (.inr (0, 8))) (.inr (0, 8))) (.inr (0, 8))) = lay15 at hn15 he15_31 he15_32 ⊢
  generalize uR (K_X8 (zm m_14 108) 108 109) 32 (15 : Int32).toNatClampNeg (some 108) = m_15 at hm15_0 ⊢
  refine aw_iload_n (j := 0) dX2_init_25 rfl rfl ?_
  refine aw_bipush (v := 20) dX2_init_26 (by decide) ?_
  refine aw_icmp_ge (tgt := 50) dX2_init_28 (by decide) (fun hc => absurd hc (by decide)) (fun _ => ?_)
  refine aw_aload_n (j := 1) dX2_init_31 rfl rfl ?_
  refine aw_getfield (c := 2) (v := .ref (adb bs 32)) dX2_init_32 f_X2_11 he15_31 rfl (by show va_rf (Option.map (adb bs) (m_15.2.2 31 0)) = _; rw [show (m_15).2.2 31 0 = some 32 from hm15_0]; rfl) ?_
  refine aw_iload_n (j := 0) dX2_init_35 rfl rfl ?_
  refine aw_new (n := 113) (kc := 19) (ks := 239) (N := 5) dX2_init_36 hn15 nw_X2_9 ?_
  refine aw_dup dX2_init_39 rfl ?_
  refine aw_callIN (n := 114) (kc := 15) (ks := 183) (kc' := 4) (ks' := 56) (rest := [.ref (adb bs 113), .int (16), .ref (adb bs 32)]) [] dX2_init_40 (len_push hn15) (by omega) (len_push (len_push (len_push (len_push (len_push hn15))))) ki_X2_22 rfl (n_X8 (hn := (len_push hn15)) (hb := (at_new hn15))) (Nat.le_of_ble_eq_true rfl) ?_
  refine aw_aastore6 dX2_init_43 (at_old (at_old (at_old (at_old (at_old he15_32))))) (at_old (at_old (at_old (at_old (at_new hn15))))) (by unfold vp_in; decide) ?_
  refine aw_iinc (j := 0) (v := 17) (L' := [(1, .int (17)), (0, .ref (adb bs 31))]) dX2_init_44 rfl (by decide) (by decide) rfl ?_
  refine aw_goto (tgt := 25) dX2_init_47 (by decide) ?_
  have hn16 : ((ps (ps (ps (ps (ps lay15 (.inl (8, [2, 2, 2, 2, 0]))) (.inr (0, 32))) (.inr (0, 8))) (.inr (0, 8))) (.inr (0, 8)))).length = 118 := (len_push (len_push (len_push (len_push (len_push hn15)))))
  have he16_31 : ((ps (ps (ps (ps (ps lay15 (.inl (8, [2, 2, 2, 2, 0]))) (.inr (0, 32))) (.inr (0, 8))) (.inr (0, 8))) (.inr (0, 8))))[31]? = some (.inl (2, [2, 0, 0])) := (at_old (at_old (at_old (at_old (at_old he15_31)))))
  have he16_32 : ((ps (ps (ps (ps (ps lay15 (.inl (8, [2, 2, 2, 2, 0]))) (.inr (0, 32))) (.inr (0, 8))) (.inr (0, 8))) (.inr (0, 8))))[32]? = some (.inr (6, 20)) := (at_old (at_old (at_old (at_old (at_old he15_32)))))
  have hm16_0 : (uR (K_X8 (zm m_15 113) 113 114) 32 (16 : Int32).toNatClampNeg (some 113)).2.2 31 0 = some 32 := hm15_0
  generalize (ps (ps (ps (ps (ps lay15 (.inl (8, [2, 2, 2, 2, 0]))) (.inr (0, 32))) (.inr (0, 8))) (.inr (0, 8))) (.inr (0, 8))) = lay16 at hn16 he16_31 he16_32 ⊢
  generalize uR (K_X8 (zm m_15 113) 113 114) 32 (16 : Int32).toNatClampNeg (some 113) = m_16 at hm16_0 ⊢
  refine aw_iload_n (j := 0) dX2_init_25 rfl rfl ?_
  refine aw_bipush (v := 20) dX2_init_26 (by decide) ?_
  refine aw_icmp_ge (tgt := 50) dX2_init_28 (by decide) (fun hc => absurd hc (by decide)) (fun _ => ?_)
  refine aw_aload_n (j := 1) dX2_init_31 rfl rfl ?_
  refine aw_getfield (c := 2) (v := .ref (adb bs 32)) dX2_init_32 f_X2_11 he16_31 rfl (by show va_rf (Option.map (adb bs) (m_16.2.2 31 0)) = _; rw [show (m_16).2.2 31 0 = some 32 from hm16_0]; rfl) ?_
  refine aw_iload_n (j := 0) dX2_init_35 rfl rfl ?_
  refine aw_new (n := 118) (kc := 14) (ks := 178) (N := 5) dX2_init_36 hn16 nw_X2_9 ?_
  refine aw_dup dX2_init_39 rfl ?_
  refine aw_callIN (n := 119) (kc := 10) (ks := 122) (kc' := 4) (ks' := 56) (rest := [.ref (adb bs 118), .int (17), .ref (adb bs 32)]) [] dX2_init_40 (len_push hn16) (by omega) (len_push (len_push (len_push (len_push (len_push hn16))))) ki_X2_22 rfl (n_X8 (hn := (len_push hn16)) (hb := (at_new hn16))) (Nat.le_of_ble_eq_true rfl) ?_
  refine aw_aastore6 dX2_init_43 (at_old (at_old (at_old (at_old (at_old he16_32))))) (at_old (at_old (at_old (at_old (at_new hn16))))) (by unfold vp_in; decide) ?_
  refine aw_iinc (j := 0) (v := 18) (L' := [(1, .int (18)), (0, .ref (adb bs 31))]) dX2_init_44 rfl (by decide) (by decide) rfl ?_
  refine aw_goto (tgt := 25) dX2_init_47 (by decide) ?_
  have hn17 : ((ps (ps (ps (ps (ps lay16 (.inl (8, [2, 2, 2, 2, 0]))) (.inr (0, 32))) (.inr (0, 8))) (.inr (0, 8))) (.inr (0, 8)))).length = 123 := (len_push (len_push (len_push (len_push (len_push hn16)))))
  have he17_31 : ((ps (ps (ps (ps (ps lay16 (.inl (8, [2, 2, 2, 2, 0]))) (.inr (0, 32))) (.inr (0, 8))) (.inr (0, 8))) (.inr (0, 8))))[31]? = some (.inl (2, [2, 0, 0])) := (at_old (at_old (at_old (at_old (at_old he16_31)))))
  have he17_32 : ((ps (ps (ps (ps (ps lay16 (.inl (8, [2, 2, 2, 2, 0]))) (.inr (0, 32))) (.inr (0, 8))) (.inr (0, 8))) (.inr (0, 8))))[32]? = some (.inr (6, 20)) := (at_old (at_old (at_old (at_old (at_old he16_32)))))
  have hm17_0 : (uR (K_X8 (zm m_16 118) 118 119) 32 (17 : Int32).toNatClampNeg (some 118)).2.2 31 0 = some 32 := hm16_0
  generalize (ps (ps (ps (ps (ps lay16 (.inl (8, [2, 2, 2, 2, 0]))) (.inr (0, 32))) (.inr (0, 8))) (.inr (0, 8))) (.inr (0, 8))) = lay17 at hn17 he17_31 he17_32 ⊢
  generalize uR (K_X8 (zm m_16 118) 118 119) 32 (17 : Int32).toNatClampNeg (some 118) = m_17 at hm17_0 ⊢
  refine aw_iload_n (j := 0) dX2_init_25 rfl rfl ?_
  refine aw_bipush (v := 20) dX2_init_26 (by decide) ?_
  refine aw_icmp_ge (tgt := 50) dX2_init_28 (by decide) (fun hc => absurd hc (by decide)) (fun _ => ?_)
  refine aw_aload_n (j := 1) dX2_init_31 rfl rfl ?_
  refine aw_getfield (c := 2) (v := .ref (adb bs 32)) dX2_init_32 f_X2_11 he17_31 rfl (by show va_rf (Option.map (adb bs) (m_17.2.2 31 0)) = _; rw [show (m_17).2.2 31 0 = some 32 from hm17_0]; rfl) ?_
  refine aw_iload_n (j := 0) dX2_init_35 rfl rfl ?_
  refine aw_new (n := 123) (kc := 9) (ks := 117) (N := 5) dX2_init_36 hn17 nw_X2_9 ?_
  refine aw_dup dX2_init_39 rfl ?_
  refine aw_callIN (n := 124) (kc := 5) (ks := 61) (kc' := 4) (ks' := 56) (rest := [.ref (adb bs 123), .int (18), .ref (adb bs 32)]) [] dX2_init_40 (len_push hn17) (by omega) (len_push (len_push (len_push (len_push (len_push hn17))))) ki_X2_22 rfl (n_X8 (hn := (len_push hn17)) (hb := (at_new hn17))) (Nat.le_of_ble_eq_true rfl) ?_
  refine aw_aastore6 dX2_init_43 (at_old (at_old (at_old (at_old (at_old he17_32))))) (at_old (at_old (at_old (at_old (at_new hn17))))) (by unfold vp_in; decide) ?_
  refine aw_iinc (j := 0) (v := 19) (L' := [(1, .int (19)), (0, .ref (adb bs 31))]) dX2_init_44 rfl (by decide) (by decide) rfl ?_
  refine aw_goto (tgt := 25) dX2_init_47 (by decide) ?_
  have hn18 : ((ps (ps (ps (ps (ps lay17 (.inl (8, [2, 2, 2, 2, 0]))) (.inr (0, 32))) (.inr (0, 8))) (.inr (0, 8))) (.inr (0, 8)))).length = 128 := (len_push (len_push (len_push (len_push (len_push hn17)))))
  have he18_31 : ((ps (ps (ps (ps (ps lay17 (.inl (8, [2, 2, 2, 2, 0]))) (.inr (0, 32))) (.inr (0, 8))) (.inr (0, 8))) (.inr (0, 8))))[31]? = some (.inl (2, [2, 0, 0])) := (at_old (at_old (at_old (at_old (at_old he17_31)))))
  have he18_32 : ((ps (ps (ps (ps (ps lay17 (.inl (8, [2, 2, 2, 2, 0]))) (.inr (0, 32))) (.inr (0, 8))) (.inr (0, 8))) (.inr (0, 8))))[32]? = some (.inr (6, 20)) := (at_old (at_old (at_old (at_old (at_old he17_32)))))
  have hm18_0 : (uR (K_X8 (zm m_17 123) 123 124) 32 (18 : Int32).toNatClampNeg (some 123)).2.2 31 0 = some 32 := hm17_0
  generalize (ps (ps (ps (ps (ps lay17 (.inl (8, [2, 2, 2, 2, 0]))) (.inr (0, 32))) (.inr (0, 8))) (.inr (0, 8))) (.inr (0, 8))) = lay18 at hn18 he18_31 he18_32 ⊢
  generalize uR (K_X8 (zm m_17 123) 123 124) 32 (18 : Int32).toNatClampNeg (some 123) = m_18 at hm18_0 ⊢
  refine aw_iload_n (j := 0) dX2_init_25 rfl rfl ?_
  refine aw_bipush (v := 20) dX2_init_26 (by decide) ?_
  refine aw_icmp_ge (tgt := 50) dX2_init_28 (by decide) (fun hc => absurd hc (by decide)) (fun _ => ?_)
  refine aw_aload_n (j := 1) dX2_init_31 rfl rfl ?_
  refine aw_getfield (c := 2) (v := .ref (adb bs 32)) dX2_init_32 f_X2_11 he18_31 rfl (by show va_rf (Option.map (adb bs) (m_18.2.2 31 0)) = _; rw [show (m_18).2.2 31 0 = some 32 from hm18_0]; rfl) ?_
  refine aw_iload_n (j := 0) dX2_init_35 rfl rfl ?_
  refine aw_new (n := 128) (kc := 4) (ks := 56) (N := 5) dX2_init_36 hn18 nw_X2_9 ?_
  refine aw_dup dX2_init_39 rfl ?_
  refine aw_callIN (n := 129) (kc := 0) (ks := 0) (kc' := 4) (ks' := 56) (rest := [.ref (adb bs 128), .int (19), .ref (adb bs 32)]) [] dX2_init_40 (len_push hn18) (by omega) (len_push (len_push (len_push (len_push (len_push hn18))))) ki_X2_22 rfl (n_X8 (hn := (len_push hn18)) (hb := (at_new hn18))) (Nat.le_of_ble_eq_true rfl) ?_
  refine aw_aastore6 dX2_init_43 (at_old (at_old (at_old (at_old (at_old he18_32))))) (at_old (at_old (at_old (at_old (at_new hn18))))) (by unfold vp_in; decide) ?_
  refine aw_iinc (j := 0) (v := 20) (L' := [(1, .int (20)), (0, .ref (adb bs 31))]) dX2_init_44 rfl (by decide) (by decide) rfl ?_
  refine aw_goto (tgt := 25) dX2_init_47 (by decide) ?_
  have hn19 : ((ps (ps (ps (ps (ps lay18 (.inl (8, [2, 2, 2, 2, 0]))) (.inr (0, 32))) (.inr (0, 8))) (.inr (0, 8))) (.inr (0, 8)))).length = 133 := (len_push (len_push (len_push (len_push (len_push hn18)))))
  have he19_31 : ((ps (ps (ps (ps (ps lay18 (.inl (8, [2, 2, 2, 2, 0]))) (.inr (0, 32))) (.inr (0, 8))) (.inr (0, 8))) (.inr (0, 8))))[31]? = some (.inl (2, [2, 0, 0])) := (at_old (at_old (at_old (at_old (at_old he18_31)))))
  have he19_32 : ((ps (ps (ps (ps (ps lay18 (.inl (8, [2, 2, 2, 2, 0]))) (.inr (0, 32))) (.inr (0, 8))) (.inr (0, 8))) (.inr (0, 8))))[32]? = some (.inr (6, 20)) := (at_old (at_old (at_old (at_old (at_old he18_32)))))
  have hm19_0 : (uR (K_X8 (zm m_18 128) 128 129) 32 (19 : Int32).toNatClampNeg (some 128)).2.2 31 0 = some 32 := hm18_0
  generalize (ps (ps (ps (ps (ps lay18 (.inl (8, [2, 2, 2, 2, 0]))) (.inr (0, 32))) (.inr (0, 8))) (.inr (0, 8))) (.inr (0, 8))) = lay19 at hn19 he19_31 he19_32 ⊢
  generalize uR (K_X8 (zm m_18 128) 128 129) 32 (19 : Int32).toNatClampNeg (some 128) = m_19 at hm19_0 ⊢
  refine aw_iload_n (j := 0) dX2_init_25 rfl rfl ?_
  refine aw_bipush (v := 20) dX2_init_26 (by decide) ?_
  refine aw_icmp_ge (tgt := 50) dX2_init_28 (by decide) (fun _ => ?_) (fun hc => absurd (by decide) hc)
  exact aw_ret (v := none) rfl (Or.inl ⟨rfl, rfl, dX2_init_50⟩) ⟨rfl, rfl⟩
end
section
def K_X11 (m : Wm) : Wm := (uR (K_X0 (zm (uR (K_X0 (zm (uR (K_X7 (zm (uR (K_X6 (zm (K_X9 (zm (uI (uR (zm (uR (zm (uI (uR (zm (uR (zm (uR (zm (uI (uR (K_X3 (zm (uR (K_X3 (zm (uR (zm (uR (K_X2 (zm (uR (K_X8 (zm (uR (K_X8 (zm (uR (K_X4 (zm (uR (K_X1 (zm (uR (K_X10 (zm m 1) 1 2) 0 0 (some 1)) 3) 3 4) 0 1 (some 3)) 15) 15 16) 0 2 (some 15)) 21) 21 22) 0 3 (some 21)) 26) 26 27) 0 4 (some 26)) 31)) 0 5 (some 31)) 133) 0 6 (some 133)) 134) 134 135) 0 9 (some 134)) 140) 140 141) 0 10 (some 140)) 0 11 (0)) 146) 0 12 (some 146)) 147) 0 13 (some 147)) 148) 0 14 (some 148)) 0 15 (0)) 149) 0 16 (some 149)) 150) 0 17 (some 150)) 0 18 (0)) 151) 151 152) 156) 156 157 151) 0 7 (some 156)) 166) 166 167 151) 0 8 (some 166)) 173) 173 174) 133 (0 : Int32).toNatClampNeg (some 173)) 180) 180 181) 133 (1 : Int32).toNatClampNeg (some 180))
def N_X11 (lay : List Ent) : List Ent := (ps (ps (ps (ps (ps (ps (ps (ps (ps (ps (ps (ps (ps (ps (ps (ps (ps (ps (ps (ps (ps (ps (ps (ps (ps (ps (ps (ps (ps (ps (ps (ps (ps (ps (ps (ps (ps (ps (ps (ps (ps (ps (ps (ps (ps (ps (ps (ps (ps (ps (ps (ps (ps (ps (ps (ps (ps (ps (ps (ps (ps (ps (ps (ps (ps (ps (ps (ps (ps (ps (ps (ps (ps (ps (ps (ps (ps (ps (ps (ps (ps (ps (ps (ps (ps (ps (ps (ps (ps (ps (ps (ps (ps (ps (ps (ps (ps (ps (ps (ps (ps (ps (ps (ps (ps (ps (ps (ps (ps (ps (ps (ps (ps (ps (ps (ps (ps (ps (ps (ps (ps (ps (ps (ps (ps (ps (ps (ps (ps (ps (ps (ps (ps (ps (ps (ps (ps (ps (ps (ps (ps (ps (ps (ps (ps (ps (ps (ps (ps (ps (ps (ps (ps (ps (ps (ps (ps (ps (ps (ps (ps (ps (ps (ps (ps (ps (ps (ps (ps (ps (ps (ps (ps (ps (ps (ps (ps (ps (ps (ps (ps (ps (ps (ps (ps (ps lay (.inl (10, [2, 0]))) (.inr (2, 80))) (.inl (1, [2, 2, 2, 0, 0, 0, 0, 0]))) (.inr (0, 5))) (.inl (5, [2, 2, 2, 2, 0, 0, 0, 0, 0]))) (.inr (0, 40))) (.inr (0, 40))) (.inr (0, 40))) (.inr (3, 5))) (.inl (5, [2, 2, 2, 2, 0, 0, 0, 0, 0]))) (.inr (0, 40))) (.inr (0, 40))) (.inr (0, 40))) (.inr (3, 5))) (.inl (4, [2, 0, 0, 0, 0, 0, 0, 0]))) (.inl (8, [2, 2, 2, 2, 0]))) (.inr (0, 32))) (.inr (0, 8))) (.inr (0, 8))) (.inr (0, 8))) (.inl (8, [2, 2, 2, 2, 0]))) (.inr (0, 32))) (.inr (0, 8))) (.inr (0, 8))) (.inr (0, 8))) (.inl (8, [2, 2, 2, 2, 0]))) (.inr (0, 32))) (.inr (0, 8))) (.inr (0, 8))) (.inr (0, 8))) (.inl (2, [2, 0, 0]))) (.inr (6, 20))) (.inl (8, [2, 2, 2, 2, 0]))) (.inr (0, 32))) (.inr (0, 8))) (.inr (0, 8))) (.inr (0, 8))) (.inl (8, [2, 2, 2, 2, 0]))) (.inr (0, 32))) (.inr (0, 8))) (.inr (0, 8))) (.inr (0, 8))) (.inl (8, [2, 2, 2, 2, 0]))) (.inr (0, 32))) (.inr (0, 8))) (.inr (0, 8))) (.inr (0, 8))) (.inl (8, [2, 2, 2, 2, 0]))) (.inr (0, 32))) (.inr (0, 8))) (.inr (0, 8))) (.inr (0, 8))) (.inl (8, [2, 2, 2, 2, 0]))) (.inr (0, 32))) (.inr (0, 8))) (.inr (0, 8))) (.inr (0, 8))) (.inl (8, [2, 2, 2, 2, 0]))) (.inr (0, 32))) (.inr (0, 8))) (.inr (0, 8))) (.inr (0, 8))) (.inl (8, [2, 2, 2, 2, 0]))) (.inr (0, 32))) (.inr (0, 8))) (.inr (0, 8))) (.inr (0, 8))) (.inl (8, [2, 2, 2, 2, 0]))) (.inr (0, 32))) (.inr (0, 8))) (.inr (0, 8))) (.inr (0, 8))) (.inl (8, [2, 2, 2, 2, 0]))) (.inr (0, 32))) (.inr (0, 8))) (.inr (0, 8))) (.inr (0, 8))) (.inl (8, [2, 2, 2, 2, 0]))) (.inr (0, 32))) (.inr (0, 8))) (.inr (0, 8))) (.inr (0, 8))) (.inl (8, [2, 2, 2, 2, 0]))) (.inr (0, 32))) (.inr (0, 8))) (.inr (0, 8))) (.inr (0, 8))) (.inl (8, [2, 2, 2, 2, 0]))) (.inr (0, 32))) (.inr (0, 8))) (.inr (0, 8))) (.inr (0, 8))) (.inl (8, [2, 2, 2, 2, 0]))) (.inr (0, 32))) (.inr (0, 8))) (.inr (0, 8))) (.inr (0, 8))) (.inl (8, [2, 2, 2, 2, 0]))) (.inr (0, 32))) (.inr (0, 8))) (.inr (0, 8))) (.inr (0, 8))) (.inl (8, [2, 2, 2, 2, 0]))) (.inr (0, 32))) (.inr (0, 8))) (.inr (0, 8))) (.inr (0, 8))) (.inl (8, [2, 2, 2, 2, 0]))) (.inr (0, 32))) (.inr (0, 8))) (.inr (0, 8))) (.inr (0, 8))) (.inl (8, [2, 2, 2, 2, 0]))) (.inr (0, 32))) (.inr (0, 8))) (.inr (0, 8))) (.inr (0, 8))) (.inl (8, [2, 2, 2, 2, 0]))) (.inr (0, 32))) (.inr (0, 8))) (.inr (0, 8))) (.inr (0, 8))) (.inl (8, [2, 2, 2, 2, 0]))) (.inr (0, 32))) (.inr (0, 8))) (.inr (0, 8))) (.inr (0, 8))) (.inl (8, [2, 2, 2, 2, 0]))) (.inr (0, 32))) (.inr (0, 8))) (.inr (0, 8))) (.inr (0, 8))) (.inr (5, 2))) (.inl (3, [2, 2, 2, 2, 2, 0, 0, 0, 0]))) (.inr (0, 48))) (.inr (0, 48))) (.inr (0, 48))) (.inr (0, 13))) (.inr (0, 8))) (.inl (3, [2, 2, 2, 2, 2, 0, 0, 0, 0]))) (.inr (0, 48))) (.inr (0, 48))) (.inr (0, 48))) (.inr (0, 13))) (.inr (0, 8))) (.inr (0, 12))) (.inr (0, 12))) (.inr (0, 12))) (.inr (0, 8))) (.inr (4, 10))) (.inl (9, [2, 2, 2, 2, 0, 0]))) (.inr (4, 3000))) (.inr (4, 3000))) (.inr (0, 8192))) (.inr (0, 3000))) (.inl (6, [2, 2, 2, 2, 2, 2, 0]))) (.inl (8, [2, 2, 2, 2, 0]))) (.inr (0, 32))) (.inr (0, 8))) (.inr (0, 8))) (.inr (0, 8))) (.inr (0, 8))) (.inr (0, 3000))) (.inr (0, 3000))) (.inr (0, 3000))) (.inl (7, [2, 2, 2, 0, 0, 1]))) (.inl (8, [2, 2, 2, 2, 0]))) (.inr (0, 32))) (.inr (0, 8))) (.inr (0, 8))) (.inr (0, 8))) (.inr (0, 8))) (.inl (0, [2, 2, 0, 0, 0]))) (.inl (8, [2, 2, 2, 2, 0]))) (.inr (0, 32))) (.inr (0, 8))) (.inr (0, 8))) (.inr (0, 8))) (.inr (0, 5))) (.inl (0, [2, 2, 0, 0, 0]))) (.inl (8, [2, 2, 2, 2, 0]))) (.inr (0, 32))) (.inr (0, 8))) (.inr (0, 8))) (.inr (0, 8))) (.inr (0, 5)))
set_option maxRecDepth 100000 in
set_option maxHeartbeats 40000000 in
theorem n_X11 {bs d : Nat} {lay : List Ent} {m : Wm} (hn : lay.length = 1) (hb : lay[0]? = some (.inl (11, [2, 2, 2, 2, 2, 2, 2, 2, 2, 2, 2, 0, 2, 2, 2, 0, 2, 2, 0]))) : CtK bs lay ((ps (ps (ps (ps (ps (ps (ps (ps (ps (ps (ps (ps (ps (ps (ps (ps (ps (ps (ps (ps (ps (ps (ps (ps (ps (ps (ps (ps (ps (ps (ps (ps (ps (ps (ps (ps (ps (ps (ps (ps (ps (ps (ps (ps (ps (ps (ps (ps (ps (ps (ps (ps (ps (ps (ps (ps (ps (ps (ps (ps (ps (ps (ps (ps (ps (ps (ps (ps (ps (ps (ps (ps (ps (ps (ps (ps (ps (ps (ps (ps (ps (ps (ps (ps (ps (ps (ps (ps (ps (ps (ps (ps (ps (ps (ps (ps (ps (ps (ps (ps (ps (ps (ps (ps (ps (ps (ps (ps (ps (ps (ps (ps (ps (ps (ps (ps (ps (ps (ps (ps (ps (ps (ps (ps (ps (ps (ps (ps (ps (ps (ps (ps (ps (ps (ps (ps (ps (ps (ps (ps (ps (ps (ps (ps (ps (ps (ps (ps (ps (ps (ps (ps (ps (ps (ps (ps (ps (ps (ps (ps (ps (ps (ps (ps (ps (ps (ps (ps (ps (ps (ps (ps (ps (ps (ps (ps (ps (ps (ps (ps (ps (ps (ps (ps (ps (ps lay (.inl (10, [2, 0]))) (.inr (2, 80))) (.inl (1, [2, 2, 2, 0, 0, 0, 0, 0]))) (.inr (0, 5))) (.inl (5, [2, 2, 2, 2, 0, 0, 0, 0, 0]))) (.inr (0, 40))) (.inr (0, 40))) (.inr (0, 40))) (.inr (3, 5))) (.inl (5, [2, 2, 2, 2, 0, 0, 0, 0, 0]))) (.inr (0, 40))) (.inr (0, 40))) (.inr (0, 40))) (.inr (3, 5))) (.inl (4, [2, 0, 0, 0, 0, 0, 0, 0]))) (.inl (8, [2, 2, 2, 2, 0]))) (.inr (0, 32))) (.inr (0, 8))) (.inr (0, 8))) (.inr (0, 8))) (.inl (8, [2, 2, 2, 2, 0]))) (.inr (0, 32))) (.inr (0, 8))) (.inr (0, 8))) (.inr (0, 8))) (.inl (8, [2, 2, 2, 2, 0]))) (.inr (0, 32))) (.inr (0, 8))) (.inr (0, 8))) (.inr (0, 8))) (.inl (2, [2, 0, 0]))) (.inr (6, 20))) (.inl (8, [2, 2, 2, 2, 0]))) (.inr (0, 32))) (.inr (0, 8))) (.inr (0, 8))) (.inr (0, 8))) (.inl (8, [2, 2, 2, 2, 0]))) (.inr (0, 32))) (.inr (0, 8))) (.inr (0, 8))) (.inr (0, 8))) (.inl (8, [2, 2, 2, 2, 0]))) (.inr (0, 32))) (.inr (0, 8))) (.inr (0, 8))) (.inr (0, 8))) (.inl (8, [2, 2, 2, 2, 0]))) (.inr (0, 32))) (.inr (0, 8))) (.inr (0, 8))) (.inr (0, 8))) (.inl (8, [2, 2, 2, 2, 0]))) (.inr (0, 32))) (.inr (0, 8))) (.inr (0, 8))) (.inr (0, 8))) (.inl (8, [2, 2, 2, 2, 0]))) (.inr (0, 32))) (.inr (0, 8))) (.inr (0, 8))) (.inr (0, 8))) (.inl (8, [2, 2, 2, 2, 0]))) (.inr (0, 32))) (.inr (0, 8))) (.inr (0, 8))) (.inr (0, 8))) (.inl (8, [2, 2, 2, 2, 0]))) (.inr (0, 32))) (.inr (0, 8))) (.inr (0, 8))) (.inr (0, 8))) (.inl (8, [2, 2, 2, 2, 0]))) (.inr (0, 32))) (.inr (0, 8))) (.inr (0, 8))) (.inr (0, 8))) (.inl (8, [2, 2, 2, 2, 0]))) (.inr (0, 32))) (.inr (0, 8))) (.inr (0, 8))) (.inr (0, 8))) (.inl (8, [2, 2, 2, 2, 0]))) (.inr (0, 32))) (.inr (0, 8))) (.inr (0, 8))) (.inr (0, 8))) (.inl (8, [2, 2, 2, 2, 0]))) (.inr (0, 32))) (.inr (0, 8))) (.inr (0, 8))) (.inr (0, 8))) (.inl (8, [2, 2, 2, 2, 0]))) (.inr (0, 32))) (.inr (0, 8))) (.inr (0, 8))) (.inr (0, 8))) (.inl (8, [2, 2, 2, 2, 0]))) (.inr (0, 32))) (.inr (0, 8))) (.inr (0, 8))) (.inr (0, 8))) (.inl (8, [2, 2, 2, 2, 0]))) (.inr (0, 32))) (.inr (0, 8))) (.inr (0, 8))) (.inr (0, 8))) (.inl (8, [2, 2, 2, 2, 0]))) (.inr (0, 32))) (.inr (0, 8))) (.inr (0, 8))) (.inr (0, 8))) (.inl (8, [2, 2, 2, 2, 0]))) (.inr (0, 32))) (.inr (0, 8))) (.inr (0, 8))) (.inr (0, 8))) (.inl (8, [2, 2, 2, 2, 0]))) (.inr (0, 32))) (.inr (0, 8))) (.inr (0, 8))) (.inr (0, 8))) (.inl (8, [2, 2, 2, 2, 0]))) (.inr (0, 32))) (.inr (0, 8))) (.inr (0, 8))) (.inr (0, 8))) (.inl (8, [2, 2, 2, 2, 0]))) (.inr (0, 32))) (.inr (0, 8))) (.inr (0, 8))) (.inr (0, 8))) (.inr (5, 2))) (.inl (3, [2, 2, 2, 2, 2, 0, 0, 0, 0]))) (.inr (0, 48))) (.inr (0, 48))) (.inr (0, 48))) (.inr (0, 13))) (.inr (0, 8))) (.inl (3, [2, 2, 2, 2, 2, 0, 0, 0, 0]))) (.inr (0, 48))) (.inr (0, 48))) (.inr (0, 48))) (.inr (0, 13))) (.inr (0, 8))) (.inr (0, 12))) (.inr (0, 12))) (.inr (0, 12))) (.inr (0, 8))) (.inr (4, 10))) (.inl (9, [2, 2, 2, 2, 0, 0]))) (.inr (4, 3000))) (.inr (4, 3000))) (.inr (0, 8192))) (.inr (0, 3000))) (.inl (6, [2, 2, 2, 2, 2, 2, 0]))) (.inl (8, [2, 2, 2, 2, 0]))) (.inr (0, 32))) (.inr (0, 8))) (.inr (0, 8))) (.inr (0, 8))) (.inr (0, 8))) (.inr (0, 3000))) (.inr (0, 3000))) (.inr (0, 3000))) (.inl (7, [2, 2, 2, 0, 0, 1]))) (.inl (8, [2, 2, 2, 2, 0]))) (.inr (0, 32))) (.inr (0, 8))) (.inr (0, 8))) (.inr (0, 8))) (.inr (0, 8))) (.inl (0, [2, 2, 0, 0, 0]))) (.inl (8, [2, 2, 2, 2, 0]))) (.inr (0, 32))) (.inr (0, 8))) (.inr (0, 8))) (.inr (0, 8))) (.inr (0, 5))) (.inl (0, [2, 2, 0, 0, 0]))) (.inl (8, [2, 2, 2, 2, 0]))) (.inr (0, 32))) (.inr (0, 8))) (.inr (0, 8))) (.inr (0, 8))) (.inr (0, 5)))) μX11_init (d + 3) 186 28692 [.ref (adb bs 0)] m (K_X11 m) := by
  refine CtK.of (n := 1) (by decide +kernel) rfl rfl hn (Nat.le_of_ble_eq_true rfl) ?_
  unfold K_X11
  refine aw_eq (L' := [(0, .ref (adb bs 0))]) ?_ rfl rfl rfl
  refine aw_aload_n (j := 0) dX11_init_0 rfl rfl ?_
  refine aw_objInit dX11_init_1 ob_X11_3 (Nat.le_of_ble_eq_true rfl) ?_
  refine aw_aload_n (j := 0) dX11_init_4 rfl rfl ?_
  refine aw_new (n := 1) (kc := 185) (ks := 28690) (N := 2) dX11_init_5 hn nw_X11_9 ?_
  refine aw_dup dX11_init_8 rfl ?_
  refine aw_callIN (n := 2) (kc := 184) (ks := 28610) (kc' := 1) (ks' := 80) (rest := [.ref (adb bs 1), .ref (adb bs 0)]) [] dX11_init_9 (len_push hn) (by omega) (len_push (len_push hn)) ki_X11_11 rfl (n_X10 (hn := (len_push hn)) (hb := (at_new hn))) (Nat.le_of_ble_eq_true rfl) ?_
  have hn0 : ((ps (ps lay (.inl (10, [2, 0]))) (.inr (2, 80)))).length = 3 := (len_push (len_push hn))
  have he0_0 : ((ps (ps lay (.inl (10, [2, 0]))) (.inr (2, 80))))[0]? = some (.inl (11, [2, 2, 2, 2, 2, 2, 2, 2, 2, 2, 2, 0, 2, 2, 2, 0, 2, 2, 0])) := (at_old (at_old hb))
  have he0_1 : ((ps (ps lay (.inl (10, [2, 0]))) (.inr (2, 80))))[1]? = some (.inl (10, [2, 0])) := (at_old (at_new hn))
  generalize (ps (ps lay (.inl (10, [2, 0]))) (.inr (2, 80))) = lay0 at hn0 he0_0 he0_1 ⊢
  generalize K_X10 (zm m 1) 1 2 = m_0 at ⊢
  refine aw_putFR (x := 1) dX11_init_12 f_X11_12 cl_X11 rfl rfl rfl he0_0 rfl rfl rfl ?_
  refine aw_aload_n (j := 0) dX11_init_15 rfl rfl ?_
  refine aw_new (n := 3) (kc := 183) (ks := 28602) (N := 8) dX11_init_16 hn0 nw_X11_16 ?_
  refine aw_dup dX11_init_19 rfl ?_
  refine aw_callIN (n := 4) (kc := 172) (ks := 28329) (kc' := 11) (ks' := 273) (rest := [.ref (adb bs 3), .ref (adb bs 0)]) [] dX11_init_20 (len_push hn0) (by omega) (len_push (len_push (len_push (len_push (len_push (len_push (len_push (len_push (len_push (len_push (len_push (len_push hn0)))))))))))) ki_X11_18 rfl (n_X1 (hn := (len_push hn0)) (hb := (at_new hn0))) (Nat.le_of_ble_eq_true rfl) ?_
  have hn1 : ((ps (ps (ps (ps (ps (ps (ps (ps (ps (ps (ps (ps lay0 (.inl (1, [2, 2, 2, 0, 0, 0, 0, 0]))) (.inr (0, 5))) (.inl (5, [2, 2, 2, 2, 0, 0, 0, 0, 0]))) (.inr (0, 40))) (.inr (0, 40))) (.inr (0, 40))) (.inr (3, 5))) (.inl (5, [2, 2, 2, 2, 0, 0, 0, 0, 0]))) (.inr (0, 40))) (.inr (0, 40))) (.inr (0, 40))) (.inr (3, 5)))).length = 15 := (len_push (len_push (len_push (len_push (len_push (len_push (len_push (len_push (len_push (len_push (len_push (len_push hn0))))))))))))
  have he1_0 : ((ps (ps (ps (ps (ps (ps (ps (ps (ps (ps (ps (ps lay0 (.inl (1, [2, 2, 2, 0, 0, 0, 0, 0]))) (.inr (0, 5))) (.inl (5, [2, 2, 2, 2, 0, 0, 0, 0, 0]))) (.inr (0, 40))) (.inr (0, 40))) (.inr (0, 40))) (.inr (3, 5))) (.inl (5, [2, 2, 2, 2, 0, 0, 0, 0, 0]))) (.inr (0, 40))) (.inr (0, 40))) (.inr (0, 40))) (.inr (3, 5))))[0]? = some (.inl (11, [2, 2, 2, 2, 2, 2, 2, 2, 2, 2, 2, 0, 2, 2, 2, 0, 2, 2, 0])) := (at_old (at_old (at_old (at_old (at_old (at_old (at_old (at_old (at_old (at_old (at_old (at_old he0_0))))))))))))
  have he1_3 : ((ps (ps (ps (ps (ps (ps (ps (ps (ps (ps (ps (ps lay0 (.inl (1, [2, 2, 2, 0, 0, 0, 0, 0]))) (.inr (0, 5))) (.inl (5, [2, 2, 2, 2, 0, 0, 0, 0, 0]))) (.inr (0, 40))) (.inr (0, 40))) (.inr (0, 40))) (.inr (3, 5))) (.inl (5, [2, 2, 2, 2, 0, 0, 0, 0, 0]))) (.inr (0, 40))) (.inr (0, 40))) (.inr (0, 40))) (.inr (3, 5))))[3]? = some (.inl (1, [2, 2, 2, 0, 0, 0, 0, 0])) := (at_old (at_old (at_old (at_old (at_old (at_old (at_old (at_old (at_old (at_old (at_old (at_new hn0))))))))))))
  generalize (ps (ps (ps (ps (ps (ps (ps (ps (ps (ps (ps (ps lay0 (.inl (1, [2, 2, 2, 0, 0, 0, 0, 0]))) (.inr (0, 5))) (.inl (5, [2, 2, 2, 2, 0, 0, 0, 0, 0]))) (.inr (0, 40))) (.inr (0, 40))) (.inr (0, 40))) (.inr (3, 5))) (.inl (5, [2, 2, 2, 2, 0, 0, 0, 0, 0]))) (.inr (0, 40))) (.inr (0, 40))) (.inr (0, 40))) (.inr (3, 5))) = lay1 at hn1 he1_0 he1_3 ⊢
  generalize K_X1 (zm (uR m_0 0 0 (some 1)) 3) 3 4 = m_1 at ⊢
  refine aw_putFR (x := 3) dX11_init_23 f_X11_19 cl_X11 rfl rfl rfl he1_0 rfl rfl rfl ?_
  refine aw_aload_n (j := 0) dX11_init_26 rfl rfl ?_
  refine aw_new (n := 15) (kc := 171) (ks := 28321) (N := 8) dX11_init_27 hn1 nw_X11_23 ?_
  refine aw_dup dX11_init_30 rfl ?_
  refine aw_callIN (n := 16) (kc := 166) (ks := 28260) (kc' := 5) (ks' := 61) (rest := [.ref (adb bs 15), .ref (adb bs 0)]) [] dX11_init_31 (len_push hn1) (by omega) (len_push (len_push (len_push (len_push (len_push (len_push hn1)))))) ki_X11_25 rfl (n_X4 (hn := (len_push hn1)) (hb := (at_new hn1))) (Nat.le_of_ble_eq_true rfl) ?_
  have hn2 : ((ps (ps (ps (ps (ps (ps lay1 (.inl (4, [2, 0, 0, 0, 0, 0, 0, 0]))) (.inl (8, [2, 2, 2, 2, 0]))) (.inr (0, 32))) (.inr (0, 8))) (.inr (0, 8))) (.inr (0, 8)))).length = 21 := (len_push (len_push (len_push (len_push (len_push (len_push hn1))))))
  have he2_0 : ((ps (ps (ps (ps (ps (ps lay1 (.inl (4, [2, 0, 0, 0, 0, 0, 0, 0]))) (.inl (8, [2, 2, 2, 2, 0]))) (.inr (0, 32))) (.inr (0, 8))) (.inr (0, 8))) (.inr (0, 8))))[0]? = some (.inl (11, [2, 2, 2, 2, 2, 2, 2, 2, 2, 2, 2, 0, 2, 2, 2, 0, 2, 2, 0])) := (at_old (at_old (at_old (at_old (at_old (at_old he1_0))))))
  have he2_15 : ((ps (ps (ps (ps (ps (ps lay1 (.inl (4, [2, 0, 0, 0, 0, 0, 0, 0]))) (.inl (8, [2, 2, 2, 2, 0]))) (.inr (0, 32))) (.inr (0, 8))) (.inr (0, 8))) (.inr (0, 8))))[15]? = some (.inl (4, [2, 0, 0, 0, 0, 0, 0, 0])) := (at_old (at_old (at_old (at_old (at_old (at_new hn1))))))
  generalize (ps (ps (ps (ps (ps (ps lay1 (.inl (4, [2, 0, 0, 0, 0, 0, 0, 0]))) (.inl (8, [2, 2, 2, 2, 0]))) (.inr (0, 32))) (.inr (0, 8))) (.inr (0, 8))) (.inr (0, 8))) = lay2 at hn2 he2_0 he2_15 ⊢
  generalize K_X4 (zm (uR m_1 0 1 (some 3)) 15) 15 16 = m_2 at ⊢
  refine aw_putFR (x := 15) dX11_init_34 f_X11_26 cl_X11 rfl rfl rfl he2_0 rfl rfl rfl ?_
  refine aw_aload_n (j := 0) dX11_init_37 rfl rfl ?_
  refine aw_new (n := 21) (kc := 165) (ks := 28255) (N := 5) dX11_init_38 hn2 nw_X11_30 ?_
  refine aw_dup dX11_init_41 rfl ?_
  refine aw_callIN (n := 22) (kc := 161) (ks := 28199) (kc' := 4) (ks' := 56) (rest := [.ref (adb bs 21), .ref (adb bs 0)]) [] dX11_init_42 (len_push hn2) (by omega) (len_push (len_push (len_push (len_push (len_push hn2))))) ki_X11_32 rfl (n_X8 (hn := (len_push hn2)) (hb := (at_new hn2))) (Nat.le_of_ble_eq_true rfl) ?_
  have hn3 : ((ps (ps (ps (ps (ps lay2 (.inl (8, [2, 2, 2, 2, 0]))) (.inr (0, 32))) (.inr (0, 8))) (.inr (0, 8))) (.inr (0, 8)))).length = 26 := (len_push (len_push (len_push (len_push (len_push hn2)))))
  have he3_0 : ((ps (ps (ps (ps (ps lay2 (.inl (8, [2, 2, 2, 2, 0]))) (.inr (0, 32))) (.inr (0, 8))) (.inr (0, 8))) (.inr (0, 8))))[0]? = some (.inl (11, [2, 2, 2, 2, 2, 2, 2, 2, 2, 2, 2, 0, 2, 2, 2, 0, 2, 2, 0])) := (at_old (at_old (at_old (at_old (at_old he2_0)))))
  have he3_21 : ((ps (ps (ps (ps (ps lay2 (.inl (8, [2, 2, 2, 2, 0]))) (.inr (0, 32))) (.inr (0, 8))) (.inr (0, 8))) (.inr (0, 8))))[21]? = some (.inl (8, [2, 2, 2, 2, 0])) := (at_old (at_old (at_old (at_old (at_new hn2)))))
  generalize (ps (ps (ps (ps (ps lay2 (.inl (8, [2, 2, 2, 2, 0]))) (.inr (0, 32))) (.inr (0, 8))) (.inr (0, 8))) (.inr (0, 8))) = lay3 at hn3 he3_0 he3_21 ⊢
  generalize K_X8 (zm (uR m_2 0 2 (some 15)) 21) 21 22 = m_3 at ⊢
  refine aw_putFR (x := 21) dX11_init_45 f_X11_33 cl_X11 rfl rfl rfl he3_0 rfl rfl rfl ?_
  refine aw_aload_n (j := 0) dX11_init_48 rfl rfl ?_
  refine aw_new (n := 26) (kc := 160) (ks := 28194) (N := 5) dX11_init_49 hn3 nw_X11_30 ?_
  refine aw_dup dX11_init_52 rfl ?_
  refine aw_callIN (n := 27) (kc := 156) (ks := 28138) (kc' := 4) (ks' := 56) (rest := [.ref (adb bs 26), .ref (adb bs 0)]) [] dX11_init_53 (len_push hn3) (by omega) (len_push (len_push (len_push (len_push (len_push hn3))))) ki_X11_32 rfl (n_X8 (hn := (len_push hn3)) (hb := (at_new hn3))) (Nat.le_of_ble_eq_true rfl) ?_
  have hn4 : ((ps (ps (ps (ps (ps lay3 (.inl (8, [2, 2, 2, 2, 0]))) (.inr (0, 32))) (.inr (0, 8))) (.inr (0, 8))) (.inr (0, 8)))).length = 31 := (len_push (len_push (len_push (len_push (len_push hn3)))))
  have he4_0 : ((ps (ps (ps (ps (ps lay3 (.inl (8, [2, 2, 2, 2, 0]))) (.inr (0, 32))) (.inr (0, 8))) (.inr (0, 8))) (.inr (0, 8))))[0]? = some (.inl (11, [2, 2, 2, 2, 2, 2, 2, 2, 2, 2, 2, 0, 2, 2, 2, 0, 2, 2, 0])) := (at_old (at_old (at_old (at_old (at_old he3_0)))))
  have he4_26 : ((ps (ps (ps (ps (ps lay3 (.inl (8, [2, 2, 2, 2, 0]))) (.inr (0, 32))) (.inr (0, 8))) (.inr (0, 8))) (.inr (0, 8))))[26]? = some (.inl (8, [2, 2, 2, 2, 0])) := (at_old (at_old (at_old (at_old (at_new hn3)))))
  generalize (ps (ps (ps (ps (ps lay3 (.inl (8, [2, 2, 2, 2, 0]))) (.inr (0, 32))) (.inr (0, 8))) (.inr (0, 8))) (.inr (0, 8))) = lay4 at hn4 he4_0 he4_26 ⊢
  generalize K_X8 (zm (uR m_3 0 3 (some 21)) 26) 26 27 = m_4 at ⊢
  refine aw_putFR (x := 26) dX11_init_56 f_X11_37 cl_X11 rfl rfl rfl he4_0 rfl rfl rfl ?_
  refine aw_aload_n (j := 0) dX11_init_59 rfl rfl ?_
  refine aw_new (n := 31) (kc := 155) (ks := 28135) (N := 3) dX11_init_60 hn4 nw_X11_40 ?_
  refine aw_dup dX11_init_63 rfl ?_
  refine aw_callI (n := 32) (kc := 54) (ks := 26895) (kc' := 101) (ks' := 1240) (rest := [.ref (adb bs 31), .ref (adb bs 0)]) [] dX11_init_64 (len_push hn4) (by omega) (len_push (len_push (len_push (len_push (len_push (len_push (len_push (len_push (len_push (len_push (len_push (len_push (len_push (len_push (len_push (len_push (len_push (len_push (len_push (len_push (len_push (len_push (len_push (len_push (len_push (len_push (len_push (len_push (len_push (len_push (len_push (len_push (len_push (len_push (len_push (len_push (len_push (len_push (len_push (len_push (len_push (len_push (len_push (len_push (len_push (len_push (len_push (len_push (len_push (len_push (len_push (len_push (len_push (len_push (len_push (len_push (len_push (len_push (len_push (len_push (len_push (len_push (len_push (len_push (len_push (len_push (len_push (len_push (len_push (len_push (len_push (len_push (len_push (len_push (len_push (len_push (len_push (len_push (len_push (len_push (len_push (len_push (len_push (len_push (len_push (len_push (len_push (len_push (len_push (len_push (len_push (len_push (len_push (len_push (len_push (len_push (len_push (len_push (len_push (len_push (len_push (len_push hn4)))))))))))))))))))))))))))))))))))))))))))))))))))))))))))))))))))))))))))))))))))))))))))))))))))))) ki_X11_42 rfl (n_X2 (hn := (len_push hn4)) (hb := (at_new hn4))) (Nat.le_of_ble_eq_true rfl) ?_
  have hn5 : ((ps (ps (ps (ps (ps (ps (ps (ps (ps (ps (ps (ps (ps (ps (ps (ps (ps (ps (ps (ps (ps (ps (ps (ps (ps (ps (ps (ps (ps (ps (ps (ps (ps (ps (ps (ps (ps (ps (ps (ps (ps (ps (ps (ps (ps (ps (ps (ps (ps (ps (ps (ps (ps (ps (ps (ps (ps (ps (ps (ps (ps (ps (ps (ps (ps (ps (ps (ps (ps (ps (ps (ps (ps (ps (ps (ps (ps (ps (ps (ps (ps (ps (ps (ps (ps (ps (ps (ps (ps (ps (ps (ps (ps (ps (ps (ps (ps (ps (ps (ps (ps (ps lay4 (.inl (2, [2, 0, 0]))) (.inr (6, 20))) (.inl (8, [2, 2, 2, 2, 0]))) (.inr (0, 32))) (.inr (0, 8))) (.inr (0, 8))) (.inr (0, 8))) (.inl (8, [2, 2, 2, 2, 0]))) (.inr (0, 32))) (.inr (0, 8))) (.inr (0, 8))) (.inr (0, 8))) (.inl (8, [2, 2, 2, 2, 0]))) (.inr (0, 32))) (.inr (0, 8))) (.inr (0, 8))) (.inr (0, 8))) (.inl (8, [2, 2, 2, 2, 0]))) (.inr (0, 32))) (.inr (0, 8))) (.inr (0, 8))) (.inr (0, 8))) (.inl (8, [2, 2, 2, 2, 0]))) (.inr (0, 32))) (.inr (0, 8))) (.inr (0, 8))) (.inr (0, 8))) (.inl (8, [2, 2, 2, 2, 0]))) (.inr (0, 32))) (.inr (0, 8))) (.inr (0, 8))) (.inr (0, 8))) (.inl (8, [2, 2, 2, 2, 0]))) (.inr (0, 32))) (.inr (0, 8))) (.inr (0, 8))) (.inr (0, 8))) (.inl (8, [2, 2, 2, 2, 0]))) (.inr (0, 32))) (.inr (0, 8))) (.inr (0, 8))) (.inr (0, 8))) (.inl (8, [2, 2, 2, 2, 0]))) (.inr (0, 32))) (.inr (0, 8))) (.inr (0, 8))) (.inr (0, 8))) (.inl (8, [2, 2, 2, 2, 0]))) (.inr (0, 32))) (.inr (0, 8))) (.inr (0, 8))) (.inr (0, 8))) (.inl (8, [2, 2, 2, 2, 0]))) (.inr (0, 32))) (.inr (0, 8))) (.inr (0, 8))) (.inr (0, 8))) (.inl (8, [2, 2, 2, 2, 0]))) (.inr (0, 32))) (.inr (0, 8))) (.inr (0, 8))) (.inr (0, 8))) (.inl (8, [2, 2, 2, 2, 0]))) (.inr (0, 32))) (.inr (0, 8))) (.inr (0, 8))) (.inr (0, 8))) (.inl (8, [2, 2, 2, 2, 0]))) (.inr (0, 32))) (.inr (0, 8))) (.inr (0, 8))) (.inr (0, 8))) (.inl (8, [2, 2, 2, 2, 0]))) (.inr (0, 32))) (.inr (0, 8))) (.inr (0, 8))) (.inr (0, 8))) (.inl (8, [2, 2, 2, 2, 0]))) (.inr (0, 32))) (.inr (0, 8))) (.inr (0, 8))) (.inr (0, 8))) (.inl (8, [2, 2, 2, 2, 0]))) (.inr (0, 32))) (.inr (0, 8))) (.inr (0, 8))) (.inr (0, 8))) (.inl (8, [2, 2, 2, 2, 0]))) (.inr (0, 32))) (.inr (0, 8))) (.inr (0, 8))) (.inr (0, 8))) (.inl (8, [2, 2, 2, 2, 0]))) (.inr (0, 32))) (.inr (0, 8))) (.inr (0, 8))) (.inr (0, 8))) (.inl (8, [2, 2, 2, 2, 0]))) (.inr (0, 32))) (.inr (0, 8))) (.inr (0, 8))) (.inr (0, 8)))).length = 133 := (len_push (len_push (len_push (len_push (len_push (len_push (len_push (len_push (len_push (len_push (len_push (len_push (len_push (len_push (len_push (len_push (len_push (len_push (len_push (len_push (len_push (len_push (len_push (len_push (len_push (len_push (len_push (len_push (len_push (len_push (len_push (len_push (len_push (len_push (len_push (len_push (len_push (len_push (len_push (len_push (len_push (len_push (len_push (len_push (len_push (len_push (len_push (len_push (len_push (len_push (len_push (len_push (len_push (len_push (len_push (len_push (len_push (len_push (len_push (len_push (len_push (len_push (len_push (len_push (len_push (len_push (len_push (len_push (len_push (len_push (len_push (len_push (len_push (len_push (len_push (len_push (len_push (len_push (len_push (len_push (len_push (len_push (len_push (len_push (len_push (len_push (len_push (len_push (len_push (len_push (len_push (len_push (len_push (len_push (len_push (len_push (len_push (len_push (len_push (len_push (len_push (len_push hn4))))))))))))))))))))))))))))))))))))))))))))))))))))))))))))))))))))))))))))))))))))))))))))))))))))))
  have he5_0 : ((ps (ps (ps (ps (ps (ps (ps (ps (ps (ps (ps (ps (ps (ps (ps (ps (ps (ps (ps (ps (ps (ps (ps (ps (ps (ps (ps (ps (ps (ps (ps (ps (ps (ps (ps (ps (ps (ps (ps (ps (ps (ps (ps (ps (ps (ps (ps (ps (ps (ps (ps (ps (ps (ps (ps (ps (ps (ps (ps (ps (ps (ps (ps (ps (ps (ps (ps (ps (ps (ps (ps (ps (ps (ps (ps (ps (ps (ps (ps (ps (ps (ps (ps (ps (ps (ps (ps (ps (ps (ps (ps (ps (ps (ps (ps (ps (ps (ps (ps (ps (ps (ps lay4 (.inl (2, [2, 0, 0]))) (.inr (6, 20))) (.inl (8, [2, 2, 2, 2, 0]))) (.inr (0, 32))) (.inr (0, 8))) (.inr (0, 8))) (.inr (0, 8))) (.inl (8, [2, 2, 2, 2, 0]))) (.inr (0, 32))) (.inr (0, 8))) (.inr (0, 8))) (.inr (0, 8))) (.inl (8, [2, 2, 2, 2, 0]))) (.inr (0, 32))) (.inr (0, 8))) (.inr (0, 8))) (.inr (0, 8))) (.inl (8, [2, 2, 2, 2, 0]))) (.inr (0, 32))) (.inr (0, 8))) (.inr (0, 8))) (.inr (0, 8))) (.inl (8, [2, 2, 2, 2, 0]))) (.inr (0, 32))) (.inr (0, 8))) (.inr (0, 8))) (.inr (0, 8))) (.inl (8, [2, 2, 2, 2, 0]))) (.inr (0, 32))) (.inr (0, 8))) (.inr (0, 8))) (.inr (0, 8))) (.inl (8, [2, 2, 2, 2, 0]))) (.inr (0, 32))) (.inr (0, 8))) (.inr (0, 8))) (.inr (0, 8))) (.inl (8, [2, 2, 2, 2, 0]))) (.inr (0, 32))) (.inr (0, 8))) (.inr (0, 8))) (.inr (0, 8))) (.inl (8, [2, 2, 2, 2, 0]))) (.inr (0, 32))) (.inr (0, 8))) (.inr (0, 8))) (.inr (0, 8))) (.inl (8, [2, 2, 2, 2, 0]))) (.inr (0, 32))) (.inr (0, 8))) (.inr (0, 8))) (.inr (0, 8))) (.inl (8, [2, 2, 2, 2, 0]))) (.inr (0, 32))) (.inr (0, 8))) (.inr (0, 8))) (.inr (0, 8))) (.inl (8, [2, 2, 2, 2, 0]))) (.inr (0, 32))) (.inr (0, 8))) (.inr (0, 8))) (.inr (0, 8))) (.inl (8, [2, 2, 2, 2, 0]))) (.inr (0, 32))) (.inr (0, 8))) (.inr (0, 8))) (.inr (0, 8))) (.inl (8, [2, 2, 2, 2, 0]))) (.inr (0, 32))) (.inr (0, 8))) (.inr (0, 8))) (.inr (0, 8))) (.inl (8, [2, 2, 2, 2, 0]))) (.inr (0, 32))) (.inr (0, 8))) (.inr (0, 8))) (.inr (0, 8))) (.inl (8, [2, 2, 2, 2, 0]))) (.inr (0, 32))) (.inr (0, 8))) (.inr (0, 8))) (.inr (0, 8))) (.inl (8, [2, 2, 2, 2, 0]))) (.inr (0, 32))) (.inr (0, 8))) (.inr (0, 8))) (.inr (0, 8))) (.inl (8, [2, 2, 2, 2, 0]))) (.inr (0, 32))) (.inr (0, 8))) (.inr (0, 8))) (.inr (0, 8))) (.inl (8, [2, 2, 2, 2, 0]))) (.inr (0, 32))) (.inr (0, 8))) (.inr (0, 8))) (.inr (0, 8))) (.inl (8, [2, 2, 2, 2, 0]))) (.inr (0, 32))) (.inr (0, 8))) (.inr (0, 8))) (.inr (0, 8))))[0]? = some (.inl (11, [2, 2, 2, 2, 2, 2, 2, 2, 2, 2, 2, 0, 2, 2, 2, 0, 2, 2, 0])) := (at_old (at_old (at_old (at_old (at_old (at_old (at_old (at_old (at_old (at_old (at_old (at_old (at_old (at_old (at_old (at_old (at_old (at_old (at_old (at_old (at_old (at_old (at_old (at_old (at_old (at_old (at_old (at_old (at_old (at_old (at_old (at_old (at_old (at_old (at_old (at_old (at_old (at_old (at_old (at_old (at_old (at_old (at_old (at_old (at_old (at_old (at_old (at_old (at_old (at_old (at_old (at_old (at_old (at_old (at_old (at_old (at_old (at_old (at_old (at_old (at_old (at_old (at_old (at_old (at_old (at_old (at_old (at_old (at_old (at_old (at_old (at_old (at_old (at_old (at_old (at_old (at_old (at_old (at_old (at_old (at_old (at_old (at_old (at_old (at_old (at_old (at_old (at_old (at_old (at_old (at_old (at_old (at_old (at_old (at_old (at_old (at_old (at_old (at_old (at_old (at_old (at_old he4_0))))))))))))))))))))))))))))))))))))))))))))))))))))))))))))))))))))))))))))))))))))))))))))))))))))))
  have he5_31 : ((ps (ps (ps (ps (ps (ps (ps (ps (ps (ps (ps (ps (ps (ps (ps (ps (ps (ps (ps (ps (ps (ps (ps (ps (ps (ps (ps (ps (ps (ps (ps (ps (ps (ps (ps (ps (ps (ps (ps (ps (ps (ps (ps (ps (ps (ps (ps (ps (ps (ps (ps (ps (ps (ps (ps (ps (ps (ps (ps (ps (ps (ps (ps (ps (ps (ps (ps (ps (ps (ps (ps (ps (ps (ps (ps (ps (ps (ps (ps (ps (ps (ps (ps (ps (ps (ps (ps (ps (ps (ps (ps (ps (ps (ps (ps (ps (ps (ps (ps (ps (ps (ps lay4 (.inl (2, [2, 0, 0]))) (.inr (6, 20))) (.inl (8, [2, 2, 2, 2, 0]))) (.inr (0, 32))) (.inr (0, 8))) (.inr (0, 8))) (.inr (0, 8))) (.inl (8, [2, 2, 2, 2, 0]))) (.inr (0, 32))) (.inr (0, 8))) (.inr (0, 8))) (.inr (0, 8))) (.inl (8, [2, 2, 2, 2, 0]))) (.inr (0, 32))) (.inr (0, 8))) (.inr (0, 8))) (.inr (0, 8))) (.inl (8, [2, 2, 2, 2, 0]))) (.inr (0, 32))) (.inr (0, 8))) (.inr (0, 8))) (.inr (0, 8))) (.inl (8, [2, 2, 2, 2, 0]))) (.inr (0, 32))) (.inr (0, 8))) (.inr (0, 8))) (.inr (0, 8))) (.inl (8, [2, 2, 2, 2, 0]))) (.inr (0, 32))) (.inr (0, 8))) (.inr (0, 8))) (.inr (0, 8))) (.inl (8, [2, 2, 2, 2, 0]))) (.inr (0, 32))) (.inr (0, 8))) (.inr (0, 8))) (.inr (0, 8))) (.inl (8, [2, 2, 2, 2, 0]))) (.inr (0, 32))) (.inr (0, 8))) (.inr (0, 8))) (.inr (0, 8))) (.inl (8, [2, 2, 2, 2, 0]))) (.inr (0, 32))) (.inr (0, 8))) (.inr (0, 8))) (.inr (0, 8))) (.inl (8, [2, 2, 2, 2, 0]))) (.inr (0, 32))) (.inr (0, 8))) (.inr (0, 8))) (.inr (0, 8))) (.inl (8, [2, 2, 2, 2, 0]))) (.inr (0, 32))) (.inr (0, 8))) (.inr (0, 8))) (.inr (0, 8))) (.inl (8, [2, 2, 2, 2, 0]))) (.inr (0, 32))) (.inr (0, 8))) (.inr (0, 8))) (.inr (0, 8))) (.inl (8, [2, 2, 2, 2, 0]))) (.inr (0, 32))) (.inr (0, 8))) (.inr (0, 8))) (.inr (0, 8))) (.inl (8, [2, 2, 2, 2, 0]))) (.inr (0, 32))) (.inr (0, 8))) (.inr (0, 8))) (.inr (0, 8))) (.inl (8, [2, 2, 2, 2, 0]))) (.inr (0, 32))) (.inr (0, 8))) (.inr (0, 8))) (.inr (0, 8))) (.inl (8, [2, 2, 2, 2, 0]))) (.inr (0, 32))) (.inr (0, 8))) (.inr (0, 8))) (.inr (0, 8))) (.inl (8, [2, 2, 2, 2, 0]))) (.inr (0, 32))) (.inr (0, 8))) (.inr (0, 8))) (.inr (0, 8))) (.inl (8, [2, 2, 2, 2, 0]))) (.inr (0, 32))) (.inr (0, 8))) (.inr (0, 8))) (.inr (0, 8))) (.inl (8, [2, 2, 2, 2, 0]))) (.inr (0, 32))) (.inr (0, 8))) (.inr (0, 8))) (.inr (0, 8))) (.inl (8, [2, 2, 2, 2, 0]))) (.inr (0, 32))) (.inr (0, 8))) (.inr (0, 8))) (.inr (0, 8))))[31]? = some (.inl (2, [2, 0, 0])) := (at_old (at_old (at_old (at_old (at_old (at_old (at_old (at_old (at_old (at_old (at_old (at_old (at_old (at_old (at_old (at_old (at_old (at_old (at_old (at_old (at_old (at_old (at_old (at_old (at_old (at_old (at_old (at_old (at_old (at_old (at_old (at_old (at_old (at_old (at_old (at_old (at_old (at_old (at_old (at_old (at_old (at_old (at_old (at_old (at_old (at_old (at_old (at_old (at_old (at_old (at_old (at_old (at_old (at_old (at_old (at_old (at_old (at_old (at_old (at_old (at_old (at_old (at_old (at_old (at_old (at_old (at_old (at_old (at_old (at_old (at_old (at_old (at_old (at_old (at_old (at_old (at_old (at_old (at_old (at_old (at_old (at_old (at_old (at_old (at_old (at_old (at_old (at_old (at_old (at_old (at_old (at_old (at_old (at_old (at_old (at_old (at_old (at_old (at_old (at_old (at_old (at_new hn4))))))))))))))))))))))))))))))))))))))))))))))))))))))))))))))))))))))))))))))))))))))))))))))))))))))
  generalize (ps (ps (ps (ps (ps (ps (ps (ps (ps (ps (ps (ps (ps (ps (ps (ps (ps (ps (ps (ps (ps (ps (ps (ps (ps (ps (ps (ps (ps (ps (ps (ps (ps (ps (ps (ps (ps (ps (ps (ps (ps (ps (ps (ps (ps (ps (ps (ps (ps (ps (ps (ps (ps (ps (ps (ps (ps (ps (ps (ps (ps (ps (ps (ps (ps (ps (ps (ps (ps (ps (ps (ps (ps (ps (ps (ps (ps (ps (ps (ps (ps (ps (ps (ps (ps (ps (ps (ps (ps (ps (ps (ps (ps (ps (ps (ps (ps (ps (ps (ps (ps (ps lay4 (.inl (2, [2, 0, 0]))) (.inr (6, 20))) (.inl (8, [2, 2, 2, 2, 0]))) (.inr (0, 32))) (.inr (0, 8))) (.inr (0, 8))) (.inr (0, 8))) (.inl (8, [2, 2, 2, 2, 0]))) (.inr (0, 32))) (.inr (0, 8))) (.inr (0, 8))) (.inr (0, 8))) (.inl (8, [2, 2, 2, 2, 0]))) (.inr (0, 32))) (.inr (0, 8))) (.inr (0, 8))) (.inr (0, 8))) (.inl (8, [2, 2, 2, 2, 0]))) (.inr (0, 32))) (.inr (0, 8))) (.inr (0, 8))) (.inr (0, 8))) (.inl (8, [2, 2, 2, 2, 0]))) (.inr (0, 32))) (.inr (0, 8))) (.inr (0, 8))) (.inr (0, 8))) (.inl (8, [2, 2, 2, 2, 0]))) (.inr (0, 32))) (.inr (0, 8))) (.inr (0, 8))) (.inr (0, 8))) (.inl (8, [2, 2, 2, 2, 0]))) (.inr (0, 32))) (.inr (0, 8))) (.inr (0, 8))) (.inr (0, 8))) (.inl (8, [2, 2, 2, 2, 0]))) (.inr (0, 32))) (.inr (0, 8))) (.inr (0, 8))) (.inr (0, 8))) (.inl (8, [2, 2, 2, 2, 0]))) (.inr (0, 32))) (.inr (0, 8))) (.inr (0, 8))) (.inr (0, 8))) (.inl (8, [2, 2, 2, 2, 0]))) (.inr (0, 32))) (.inr (0, 8))) (.inr (0, 8))) (.inr (0, 8))) (.inl (8, [2, 2, 2, 2, 0]))) (.inr (0, 32))) (.inr (0, 8))) (.inr (0, 8))) (.inr (0, 8))) (.inl (8, [2, 2, 2, 2, 0]))) (.inr (0, 32))) (.inr (0, 8))) (.inr (0, 8))) (.inr (0, 8))) (.inl (8, [2, 2, 2, 2, 0]))) (.inr (0, 32))) (.inr (0, 8))) (.inr (0, 8))) (.inr (0, 8))) (.inl (8, [2, 2, 2, 2, 0]))) (.inr (0, 32))) (.inr (0, 8))) (.inr (0, 8))) (.inr (0, 8))) (.inl (8, [2, 2, 2, 2, 0]))) (.inr (0, 32))) (.inr (0, 8))) (.inr (0, 8))) (.inr (0, 8))) (.inl (8, [2, 2, 2, 2, 0]))) (.inr (0, 32))) (.inr (0, 8))) (.inr (0, 8))) (.inr (0, 8))) (.inl (8, [2, 2, 2, 2, 0]))) (.inr (0, 32))) (.inr (0, 8))) (.inr (0, 8))) (.inr (0, 8))) (.inl (8, [2, 2, 2, 2, 0]))) (.inr (0, 32))) (.inr (0, 8))) (.inr (0, 8))) (.inr (0, 8))) (.inl (8, [2, 2, 2, 2, 0]))) (.inr (0, 32))) (.inr (0, 8))) (.inr (0, 8))) (.inr (0, 8))) (.inl (8, [2, 2, 2, 2, 0]))) (.inr (0, 32))) (.inr (0, 8))) (.inr (0, 8))) (.inr (0, 8))) = lay5 at hn5 he5_0 he5_31 ⊢
  generalize K_X2 (zm (uR m_4 0 4 (some 26)) 31) = m_5 at ⊢
  refine aw_putFR (x := 31) dX11_init_67 f_X11_43 cl_X11 rfl rfl rfl he5_0 rfl rfl rfl ?_
  refine aw_aload_n (j := 0) dX11_init_70 rfl rfl ?_
  refine aw_iconst (v := 2) dX11_init_71 (by decide) ?_
  refine aw_newq5 (n := 133) (kc := 53) (ks := 26893) (N := 2) dX11_init_72 hn5 w_314 (by decide) (by decide +kernel) (by decide +kernel) ?_
  refine aw_putFR (x := 133) dX11_init_75 f_X11_49 cl_X11 rfl rfl rfl (at_old he5_0) rfl rfl rfl ?_
  refine aw_aload_n (j := 0) dX11_init_78 rfl rfl ?_
  refine aw_new (n := 134) (kc := 52) (ks := 26884) (N := 9) dX11_init_79 (len_push hn5) nw_X11_53 ?_
  refine aw_dup dX11_init_82 rfl ?_
  refine aw_callIN (n := 135) (kc := 47) (ks := 26719) (kc' := 5) (ks' := 165) (rest := [.ref (adb bs 134), .ref (adb bs 0)]) [] dX11_init_83 (len_push (len_push hn5)) (by omega) (len_push (len_push (len_push (len_push (len_push (len_push (len_push hn5))))))) ki_X11_55 rfl (n_X3 (hn := (len_push (len_push hn5))) (hb := (at_new (len_push hn5)))) (Nat.le_of_ble_eq_true rfl) ?_
  have hn6 : ((ps (ps (ps (ps (ps (ps (ps lay5 (.inr (5, 2))) (.inl (3, [2, 2, 2, 2, 2, 0, 0, 0, 0]))) (.inr (0, 48))) (.inr (0, 48))) (.inr (0, 48))) (.inr (0, 13))) (.inr (0, 8)))).length = 140 := (len_push (len_push (len_push (len_push (len_push (len_push (len_push hn5)))))))
  have he6_0 : ((ps (ps (ps (ps (ps (ps (ps lay5 (.inr (5, 2))) (.inl (3, [2, 2, 2, 2, 2, 0, 0, 0, 0]))) (.inr (0, 48))) (.inr (0, 48))) (.inr (0, 48))) (.inr (0, 13))) (.inr (0, 8))))[0]? = some (.inl (11, [2, 2, 2, 2, 2, 2, 2, 2, 2, 2, 2, 0, 2, 2, 2, 0, 2, 2, 0])) := (at_old (at_old (at_old (at_old (at_old (at_old (at_old he5_0)))))))
  have he6_134 : ((ps (ps (ps (ps (ps (ps (ps lay5 (.inr (5, 2))) (.inl (3, [2, 2, 2, 2, 2, 0, 0, 0, 0]))) (.inr (0, 48))) (.inr (0, 48))) (.inr (0, 48))) (.inr (0, 13))) (.inr (0, 8))))[134]? = some (.inl (3, [2, 2, 2, 2, 2, 0, 0, 0, 0])) := (at_old (at_old (at_old (at_old (at_old (at_new (len_push hn5)))))))
  have he6_133 : ((ps (ps (ps (ps (ps (ps (ps lay5 (.inr (5, 2))) (.inl (3, [2, 2, 2, 2, 2, 0, 0, 0, 0]))) (.inr (0, 48))) (.inr (0, 48))) (.inr (0, 48))) (.inr (0, 13))) (.inr (0, 8))))[133]? = some (.inr (5, 2)) := (at_old (at_old (at_old (at_old (at_old (at_old (at_new hn5)))))))
  have hm6_6 : (K_X3 (zm (uR (zm (uR m_5 0 5 (some 31)) 133) 0 6 (some 133)) 134) 134 135).2.2 0 6 = some 133 := rfl
  generalize (ps (ps (ps (ps (ps (ps (ps lay5 (.inr (5, 2))) (.inl (3, [2, 2, 2, 2, 2, 0, 0, 0, 0]))) (.inr (0, 48))) (.inr (0, 48))) (.inr (0, 48))) (.inr (0, 13))) (.inr (0, 8))) = lay6 at hn6 he6_0 he6_134 he6_133 ⊢
  generalize K_X3 (zm (uR (zm (uR m_5 0 5 (some 31)) 133) 0 6 (some 133)) 134) 134 135 = m_6 at hm6_6 ⊢
  refine aw_putR (x := 134) dX11_init_86 f_X11_56 cl_X11 rfl he6_0 rfl rfl rfl ?_
  refine aw_aload_n (j := 0) dX11_init_89 rfl rfl ?_
  refine aw_new (n := 140) (kc := 46) (ks := 26710) (N := 9) dX11_init_90 hn6 nw_X11_53 ?_
  refine aw_dup dX11_init_93 rfl ?_
  refine aw_callIN (n := 141) (kc := 41) (ks := 26545) (kc' := 5) (ks' := 165) (rest := [.ref (adb bs 140), .ref (adb bs 0)]) [] dX11_init_94 (len_push hn6) (by omega) (len_push (len_push (len_push (len_push (len_push (len_push hn6)))))) ki_X11_55 rfl (n_X3 (hn := (len_push hn6)) (hb := (at_new hn6))) (Nat.le_of_ble_eq_true rfl) ?_
  have hn7 : ((ps (ps (ps (ps (ps (ps lay6 (.inl (3, [2, 2, 2, 2, 2, 0, 0, 0, 0]))) (.inr (0, 48))) (.inr (0, 48))) (.inr (0, 48))) (.inr (0, 13))) (.inr (0, 8)))).length = 146 := (len_push (len_push (len_push (len_push (len_push (len_push hn6))))))
  have he7_0 : ((ps (ps (ps (ps (ps (ps lay6 (.inl (3, [2, 2, 2, 2, 2, 0, 0, 0, 0]))) (.inr (0, 48))) (.inr (0, 48))) (.inr (0, 48))) (.inr (0, 13))) (.inr (0, 8))))[0]? = some (.inl (11, [2, 2, 2, 2, 2, 2, 2, 2, 2, 2, 2, 0, 2, 2, 2, 0, 2, 2, 0])) := (at_old (at_old (at_old (at_old (at_old (at_old he6_0))))))
  have he7_140 : ((ps (ps (ps (ps (ps (ps lay6 (.inl (3, [2, 2, 2, 2, 2, 0, 0, 0, 0]))) (.inr (0, 48))) (.inr (0, 48))) (.inr (0, 48))) (.inr (0, 13))) (.inr (0, 8))))[140]? = some (.inl (3, [2, 2, 2, 2, 2, 0, 0, 0, 0])) := (at_old (at_old (at_old (at_old (at_old (at_new hn6))))))
  have he7_133 : ((ps (ps (ps (ps (ps (ps lay6 (.inl (3, [2, 2, 2, 2, 2, 0, 0, 0, 0]))) (.inr (0, 48))) (.inr (0, 48))) (.inr (0, 48))) (.inr (0, 13))) (.inr (0, 8))))[133]? = some (.inr (5, 2)) := (at_old (at_old (at_old (at_old (at_old (at_old he6_133))))))
  have hm7_6 : (K_X3 (zm (uR m_6 0 9 (some 134)) 140) 140 141).2.2 0 6 = some 133 := hm6_6
  generalize (ps (ps (ps (ps (ps (ps lay6 (.inl (3, [2, 2, 2, 2, 2, 0, 0, 0, 0]))) (.inr (0, 48))) (.inr (0, 48))) (.inr (0, 48))) (.inr (0, 13))) (.inr (0, 8))) = lay7 at hn7 he7_0 he7_140 he7_133 ⊢
  generalize K_X3 (zm (uR m_6 0 9 (some 134)) 140) 140 141 = m_7 at hm7_6 ⊢
  refine aw_putR (x := 140) dX11_init_97 f_X11_60 cl_X11 rfl he7_0 rfl rfl rfl ?_
  refine aw_aload_n (j := 0) dX11_init_100 rfl rfl ?_
  refine aw_iconst (v := 0) dX11_init_101 (by decide) ?_
  refine aw_putI dX11_init_102 f_X11_63 cl_X11 rfl he7_0 rfl (by decide) (by decide) ?_
  refine aw_aload_n (j := 0) dX11_init_105 rfl rfl ?_
  refine aw_bipush (v := 12) dX11_init_106 (by decide) ?_
  refine aw_newa0 (n := 146) (kc := 40) (ks := 26533) (N := 12) dX11_init_108 hn7 ar_0 (by decide) (by decide +kernel) (by decide +kernel) ?_
  refine aw_putFR (x := 146) dX11_init_110 f_X11_67 cl_X11 rfl rfl rfl (at_old he7_0) rfl rfl rfl ?_
  refine aw_aload_n (j := 0) dX11_init_113 rfl rfl ?_
  refine aw_bipush (v := 12) dX11_init_114 (by decide) ?_
  refine aw_newa0 (n := 147) (kc := 39) (ks := 26521) (N := 12) dX11_init_116 (len_push hn7) ar_0 (by decide) (by decide +kernel) (by decide +kernel) ?_
  refine aw_putFR (x := 147) dX11_init_118 f_X11_71 cl_X11 rfl rfl rfl (at_old (at_old he7_0)) rfl rfl rfl ?_
  refine aw_aload_n (j := 0) dX11_init_121 rfl rfl ?_
  refine aw_bipush (v := 12) dX11_init_122 (by decide) ?_
  refine aw_newa0 (n := 148) (kc := 38) (ks := 26509) (N := 12) dX11_init_124 (len_push (len_push hn7)) ar_0 (by decide) (by decide +kernel) (by decide +kernel) ?_
  refine aw_putFR (x := 148) dX11_init_126 f_X11_74 cl_X11 rfl rfl rfl (at_old (at_old (at_old he7_0))) rfl rfl rfl ?_
  refine aw_aload_n (j := 0) dX11_init_129 rfl rfl ?_
  refine aw_iconst (v := 0) dX11_init_130 (by decide) ?_
  refine aw_putI dX11_init_131 f_X11_77 cl_X11 rfl (at_old (at_old (at_old he7_0))) rfl (by decide) (by decide) ?_
  refine aw_aload_n (j := 0) dX11_init_134 rfl rfl ?_
  refine aw_bipush (v := 8) dX11_init_135 (by decide) ?_
  refine aw_newa0 (n := 149) (kc := 37) (ks := 26501) (N := 8) dX11_init_137 (len_push (len_push (len_push hn7))) ar_0 (by decide) (by decide +kernel) (by decide +kernel) ?_
  refine aw_putFR (x := 149) dX11_init_139 f_X11_80 cl_X11 rfl rfl rfl (at_old (at_old (at_old (at_old he7_0)))) rfl rfl rfl ?_
  refine aw_aload_n (j := 0) dX11_init_142 rfl rfl ?_
  refine aw_bipush (v := 10) dX11_init_143 (by decide) ?_
  refine aw_newa4 (n := 150) (kc := 36) (ks := 26491) (N := 10) dX11_init_145 (len_push (len_push (len_push (len_push hn7)))) ar_4 (by decide) (by decide +kernel) (by decide +kernel) ?_
  refine aw_putFR (x := 150) dX11_init_147 f_X11_83 cl_X11 rfl rfl rfl (at_old (at_old (at_old (at_old (at_old he7_0))))) rfl rfl rfl ?_
  refine aw_aload_n (j := 0) dX11_init_150 rfl rfl ?_
  refine aw_iconst (v := 0) dX11_init_151 (by decide) ?_
  refine aw_putI dX11_init_152 f_X11_87 cl_X11 rfl (at_old (at_old (at_old (at_old (at_old he7_0))))) rfl (by decide) (by decide) ?_
  refine aw_new (n := 151) (kc := 35) (ks := 26485) (N := 6) dX11_init_155 (len_push (len_push (len_push (len_push (len_push hn7))))) nw_X11_90 ?_
  refine aw_dup dX11_init_158 rfl ?_
  refine aw_callIN (n := 152) (kc := 31) (ks := 9293) (kc' := 4) (ks' := 17192) (rest := [.ref (adb bs 151)]) [] dX11_init_159 (len_push (len_push (len_push (len_push (len_push (len_push hn7)))))) (by omega) (len_push (len_push (len_push (len_push (len_push (len_push (len_push (len_push (len_push (len_push hn7)))))))))) ki_X11_92 rfl (n_X9 (hn := (len_push (len_push (len_push (len_push (len_push (len_push hn7))))))) (hb := (at_new (len_push (len_push (len_push (len_push (len_push hn7)))))))) (Nat.le_of_ble_eq_true rfl) ?_
  have hn8 : ((ps (ps (ps (ps (ps (ps (ps (ps (ps (ps lay7 (.inr (0, 12))) (.inr (0, 12))) (.inr (0, 12))) (.inr (0, 8))) (.inr (4, 10))) (.inl (9, [2, 2, 2, 2, 0, 0]))) (.inr (4, 3000))) (.inr (4, 3000))) (.inr (0, 8192))) (.inr (0, 3000)))).length = 156 := (len_push (len_push (len_push (len_push (len_push (len_push (len_push (len_push (len_push (len_push hn7))))))))))
  have he8_0 : ((ps (ps (ps (ps (ps (ps (ps (ps (ps (ps lay7 (.inr (0, 12))) (.inr (0, 12))) (.inr (0, 12))) (.inr (0, 8))) (.inr (4, 10))) (.inl (9, [2, 2, 2, 2, 0, 0]))) (.inr (4, 3000))) (.inr (4, 3000))) (.inr (0, 8192))) (.inr (0, 3000))))[0]? = some (.inl (11, [2, 2, 2, 2, 2, 2, 2, 2, 2, 2, 2, 0, 2, 2, 2, 0, 2, 2, 0])) := (at_old (at_old (at_old (at_old (at_old (at_old (at_old (at_old (at_old (at_old he7_0))))))))))
  have he8_151 : ((ps (ps (ps (ps (ps (ps (ps (ps (ps (ps lay7 (.inr (0, 12))) (.inr (0, 12))) (.inr (0, 12))) (.inr (0, 8))) (.inr (4, 10))) (.inl (9, [2, 2, 2, 2, 0, 0]))) (.inr (4, 3000))) (.inr (4, 3000))) (.inr (0, 8192))) (.inr (0, 3000))))[151]? = some (.inl (9, [2, 2, 2, 2, 0, 0])) := (at_old (at_old (at_old (at_old (at_new (len_push (len_push (len_push (len_push (len_push hn7))))))))))
  have he8_133 : ((ps (ps (ps (ps (ps (ps (ps (ps (ps (ps lay7 (.inr (0, 12))) (.inr (0, 12))) (.inr (0, 12))) (.inr (0, 8))) (.inr (4, 10))) (.inl (9, [2, 2, 2, 2, 0, 0]))) (.inr (4, 3000))) (.inr (4, 3000))) (.inr (0, 8192))) (.inr (0, 3000))))[133]? = some (.inr (5, 2)) := (at_old (at_old (at_old (at_old (at_old (at_old (at_old (at_old (at_old (at_old he7_133))))))))))
  have hm8_6 : (K_X9 (zm (uI (uR (zm (uR (zm (uI (uR (zm (uR (zm (uR (zm (uI (uR m_7 0 10 (some 140)) 0 11 (0)) 146) 0 12 (some 146)) 147) 0 13 (some 147)) 148) 0 14 (some 148)) 0 15 (0)) 149) 0 16 (some 149)) 150) 0 17 (some 150)) 0 18 (0)) 151) 151 152).2.2 0 6 = some 133 := hm7_6
  generalize (ps (ps (ps (ps (ps (ps (ps (ps (ps (ps lay7 (.inr (0, 12))) (.inr (0, 12))) (.inr (0, 12))) (.inr (0, 8))) (.inr (4, 10))) (.inl (9, [2, 2, 2, 2, 0, 0]))) (.inr (4, 3000))) (.inr (4, 3000))) (.inr (0, 8192))) (.inr (0, 3000))) = lay8 at hn8 he8_0 he8_151 he8_133 ⊢
  generalize K_X9 (zm (uI (uR (zm (uR (zm (uI (uR (zm (uR (zm (uR (zm (uI (uR m_7 0 10 (some 140)) 0 11 (0)) 146) 0 12 (some 146)) 147) 0 13 (some 147)) 148) 0 14 (some 148)) 0 15 (0)) 149) 0 16 (some 149)) 150) 0 17 (some 150)) 0 18 (0)) 151) 151 152 = m_8 at hm8_6 ⊢
  refine aw_astore_n (L' := [(1, .ref (adb bs 151)), (0, .ref (adb bs 0))]) dX11_init_162 rfl (by decide) rfl ?_
  refine aw_aload_n (j := 1) dX11_init_163 rfl rfl ?_
  refine aw_new (n := 156) (kc := 30) (ks := 9286) (N := 7) dX11_init_164 hn8 nw_X11_93 ?_
  refine aw_dup dX11_init_167 rfl ?_
  refine aw_aload_n (j := 0) dX11_init_168 rfl rfl ?_
  refine aw_callI (n := 157) (kc := 21) (ks := 217) (kc' := 9) (ks' := 9069) (rest := [.ref (adb bs 156), .ref (adb bs 0)]) [.ref (adb bs 151)] dX11_init_169 (len_push hn8) (by omega) (len_push (len_push (len_push (len_push (len_push (len_push (len_push (len_push (len_push (len_push hn8)))))))))) ki_X11_95 rfl (n_X6 (hn := (len_push hn8)) (hb := (at_new hn8)) (ha1 := (at_old he8_151))) (Nat.le_of_ble_eq_true rfl) ?_
  have hn9 : ((ps (ps (ps (ps (ps (ps (ps (ps (ps (ps lay8 (.inl (6, [2, 2, 2, 2, 2, 2, 0]))) (.inl (8, [2, 2, 2, 2, 0]))) (.inr (0, 32))) (.inr (0, 8))) (.inr (0, 8))) (.inr (0, 8))) (.inr (0, 8))) (.inr (0, 3000))) (.inr (0, 3000))) (.inr (0, 3000)))).length = 166 := (len_push (len_push (len_push (len_push (len_push (len_push (len_push (len_push (len_push (len_push hn8))))))))))
  have he9_0 : ((ps (ps (ps (ps (ps (ps (ps (ps (ps (ps lay8 (.inl (6, [2, 2, 2, 2, 2, 2, 0]))) (.inl (8, [2, 2, 2, 2, 0]))) (.inr (0, 32))) (.inr (0, 8))) (.inr (0, 8))) (.inr (0, 8))) (.inr (0, 8))) (.inr (0, 3000))) (.inr (0, 3000))) (.inr (0, 3000))))[0]? = some (.inl (11, [2, 2, 2, 2, 2, 2, 2, 2, 2, 2, 2, 0, 2, 2, 2, 0, 2, 2, 0])) := (at_old (at_old (at_old (at_old (at_old (at_old (at_old (at_old (at_old (at_old he8_0))))))))))
  have he9_151 : ((ps (ps (ps (ps (ps (ps (ps (ps (ps (ps lay8 (.inl (6, [2, 2, 2, 2, 2, 2, 0]))) (.inl (8, [2, 2, 2, 2, 0]))) (.inr (0, 32))) (.inr (0, 8))) (.inr (0, 8))) (.inr (0, 8))) (.inr (0, 8))) (.inr (0, 3000))) (.inr (0, 3000))) (.inr (0, 3000))))[151]? = some (.inl (9, [2, 2, 2, 2, 0, 0])) := (at_old (at_old (at_old (at_old (at_old (at_old (at_old (at_old (at_old (at_old he8_151))))))))))
  have he9_156 : ((ps (ps (ps (ps (ps (ps (ps (ps (ps (ps lay8 (.inl (6, [2, 2, 2, 2, 2, 2, 0]))) (.inl (8, [2, 2, 2, 2, 0]))) (.inr (0, 32))) (.inr (0, 8))) (.inr (0, 8))) (.inr (0, 8))) (.inr (0, 8))) (.inr (0, 3000))) (.inr (0, 3000))) (.inr (0, 3000))))[156]? = some (.inl (6, [2, 2, 2, 2, 2, 2, 0])) := (at_old (at_old (at_old (at_old (at_old (at_old (at_old (at_old (at_old (at_new hn8))))))))))
  have he9_133 : ((ps (ps (ps (ps (ps (ps (ps (ps (ps (ps lay8 (.inl (6, [2, 2, 2, 2, 2, 2, 0]))) (.inl (8, [2, 2, 2, 2, 0]))) (.inr (0, 32))) (.inr (0, 8))) (.inr (0, 8))) (.inr (0, 8))) (.inr (0, 8))) (.inr (0, 3000))) (.inr (0, 3000))) (.inr (0, 3000))))[133]? = some (.inr (5, 2)) := (at_old (at_old (at_old (at_old (at_old (at_old (at_old (at_old (at_old (at_old he8_133))))))))))
  have hm9_6 : (K_X6 (zm m_8 156) 156 157 151).2.2 0 6 = some 133 := hm8_6
  generalize (ps (ps (ps (ps (ps (ps (ps (ps (ps (ps lay8 (.inl (6, [2, 2, 2, 2, 2, 2, 0]))) (.inl (8, [2, 2, 2, 2, 0]))) (.inr (0, 32))) (.inr (0, 8))) (.inr (0, 8))) (.inr (0, 8))) (.inr (0, 8))) (.inr (0, 3000))) (.inr (0, 3000))) (.inr (0, 3000))) = lay9 at hn9 he9_0 he9_151 he9_156 he9_133 ⊢
  generalize K_X6 (zm m_8 156) 156 157 151 = m_9 at hm9_6 ⊢
  refine aw_putFR (x := 156) dX11_init_172 f_X11_98 cl_X11 rfl rfl rfl he9_0 rfl rfl rfl ?_
  refine aw_aload_n (j := 1) dX11_init_175 rfl rfl ?_
  refine aw_new (n := 166) (kc := 20) (ks := 211) (N := 6) dX11_init_176 hn9 nw_X11_102 ?_
  refine aw_dup dX11_init_179 rfl ?_
  refine aw_aload_n (j := 0) dX11_init_180 rfl rfl ?_
  refine aw_callI (n := 167) (kc := 14) (ks := 142) (kc' := 6) (ks' := 69) (rest := [.ref (adb bs 166), .ref (adb bs 0)]) [.ref (adb bs 151)] dX11_init_181 (len_push hn9) (by omega) (len_push (len_push (len_push (len_push (len_push (len_push (len_push hn9))))))) ki_X11_104 rfl (n_X7 (hn := (len_push hn9)) (hb := (at_new hn9)) (ha1 := (at_old he9_151))) (Nat.le_of_ble_eq_true rfl) ?_
  have hn10 : ((ps (ps (ps (ps (ps (ps (ps lay9 (.inl (7, [2, 2, 2, 0, 0, 1]))) (.inl (8, [2, 2, 2, 2, 0]))) (.inr (0, 32))) (.inr (0, 8))) (.inr (0, 8))) (.inr (0, 8))) (.inr (0, 8)))).length = 173 := (len_push (len_push (len_push (len_push (len_push (len_push (len_push hn9)))))))
  have he10_0 : ((ps (ps (ps (ps (ps (ps (ps lay9 (.inl (7, [2, 2, 2, 0, 0, 1]))) (.inl (8, [2, 2, 2, 2, 0]))) (.inr (0, 32))) (.inr (0, 8))) (.inr (0, 8))) (.inr (0, 8))) (.inr (0, 8))))[0]? = some (.inl (11, [2, 2, 2, 2, 2, 2, 2, 2, 2, 2, 2, 0, 2, 2, 2, 0, 2, 2, 0])) := (at_old (at_old (at_old (at_old (at_old (at_old (at_old he9_0)))))))
  have he10_151 : ((ps (ps (ps (ps (ps (ps (ps lay9 (.inl (7, [2, 2, 2, 0, 0, 1]))) (.inl (8, [2, 2, 2, 2, 0]))) (.inr (0, 32))) (.inr (0, 8))) (.inr (0, 8))) (.inr (0, 8))) (.inr (0, 8))))[151]? = some (.inl (9, [2, 2, 2, 2, 0, 0])) := (at_old (at_old (at_old (at_old (at_old (at_old (at_old he9_151)))))))
  have he10_166 : ((ps (ps (ps (ps (ps (ps (ps lay9 (.inl (7, [2, 2, 2, 0, 0, 1]))) (.inl (8, [2, 2, 2, 2, 0]))) (.inr (0, 32))) (.inr (0, 8))) (.inr (0, 8))) (.inr (0, 8))) (.inr (0, 8))))[166]? = some (.inl (7, [2, 2, 2, 0, 0, 1])) := (at_old (at_old (at_old (at_old (at_old (at_old (at_new hn9)))))))
  have he10_133 : ((ps (ps (ps (ps (ps (ps (ps lay9 (.inl (7, [2, 2, 2, 0, 0, 1]))) (.inl (8, [2, 2, 2, 2, 0]))) (.inr (0, 32))) (.inr (0, 8))) (.inr (0, 8))) (.inr (0, 8))) (.inr (0, 8))))[133]? = some (.inr (5, 2)) := (at_old (at_old (at_old (at_old (at_old (at_old (at_old he9_133)))))))
  have hm10_6 : (K_X7 (zm (uR m_9 0 7 (some 156)) 166) 166 167 151).2.2 0 6 = some 133 := hm9_6
  generalize (ps (ps (ps (ps (ps (ps (ps lay9 (.inl (7, [2, 2, 2, 0, 0, 1]))) (.inl (8, [2, 2, 2, 2, 0]))) (.inr (0, 32))) (.inr (0, 8))) (.inr (0, 8))) (.inr (0, 8))) (.inr (0, 8))) = lay10 at hn10 he10_0 he10_151 he10_166 he10_133 ⊢
  generalize K_X7 (zm (uR m_9 0 7 (some 156)) 166) 166 167 151 = m_10 at hm10_6 ⊢
  refine aw_putFR (x := 166) dX11_init_184 f_X11_105 cl_X11 rfl rfl rfl he10_0 rfl rfl rfl ?_
  refine aw_iconst (v := 0) dX11_init_187 (by decide) ?_
  refine aw_istore_n (L' := [(2, .int (0)), (1, .ref (adb bs 151)), (0, .ref (adb bs 0))]) dX11_init_188 rfl (by decide) rfl ?_
  refine aw_iload_n (j := 0) dX11_init_189 rfl rfl ?_
  refine aw_aload_n (j := 2) dX11_init_190 rfl rfl ?_
  refine aw_getfield (c := 2) (v := .ref (adb bs 133)) dX11_init_191 f_X11_49 he10_0 rfl (by show va_rf (Option.map (adb bs) ((uR m_10 0 8 (some 166)).2.2 0 6)) = _; rw [show (uR m_10 0 8 (some 166)).2.2 0 6 = some 133 from hm10_6]; rfl) ?_
  refine aw_alen5 (v := 2) dX11_init_194 he10_133 (by decide) ?_
  refine aw_icmp_ge (tgt := 217) dX11_init_195 (by decide) (fun hc => absurd hc (by decide)) (fun _ => ?_)
  refine aw_aload_n (j := 2) dX11_init_198 rfl rfl ?_
  refine aw_getfield (c := 2) (v := .ref (adb bs 133)) dX11_init_199 f_X11_49 he10_0 rfl (by show va_rf (Option.map (adb bs) ((uR m_10 0 8 (some 166)).2.2 0 6)) = _; rw [show (uR m_10 0 8 (some 166)).2.2 0 6 = some 133 from hm10_6]; rfl) ?_
  refine aw_iload_n (j := 0) dX11_init_202 rfl rfl ?_
  refine aw_new (n := 173) (kc := 13) (ks := 137) (N := 5) dX11_init_203 hn10 nw_X11_47 ?_
  refine aw_dup dX11_init_206 rfl ?_
  refine aw_callIN (n := 174) (kc := 7) (ks := 71) (kc' := 6) (ks' := 66) (rest := [.ref (adb bs 173), .int (0), .ref (adb bs 133)]) [] dX11_init_207 (len_push hn10) (by omega) (len_push (len_push (len_push (len_push (len_push (len_push (len_push hn10))))))) ki_X11_109 rfl (n_X0 (hn := (len_push hn10)) (hb := (at_new hn10))) (Nat.le_of_ble_eq_true rfl) ?_
  have hn11 : ((ps (ps (ps (ps (ps (ps (ps lay10 (.inl (0, [2, 2, 0, 0, 0]))) (.inl (8, [2, 2, 2, 2, 0]))) (.inr (0, 32))) (.inr (0, 8))) (.inr (0, 8))) (.inr (0, 8))) (.inr (0, 5)))).length = 180 := (len_push (len_push (len_push (len_push (len_push (len_push (len_push hn10)))))))
  have he11_0 : ((ps (ps (ps (ps (ps (ps (ps lay10 (.inl (0, [2, 2, 0, 0, 0]))) (.inl (8, [2, 2, 2, 2, 0]))) (.inr (0, 32))) (.inr (0, 8))) (.inr (0, 8))) (.inr (0, 8))) (.inr (0, 5))))[0]? = some (.inl (11, [2, 2, 2, 2, 2, 2, 2, 2, 2, 2, 2, 0, 2, 2, 2, 0, 2, 2, 0])) := (at_old (at_old (at_old (at_old (at_old (at_old (at_old he10_0)))))))
  have he11_151 : ((ps (ps (ps (ps (ps (ps (ps lay10 (.inl (0, [2, 2, 0, 0, 0]))) (.inl (8, [2, 2, 2, 2, 0]))) (.inr (0, 32))) (.inr (0, 8))) (.inr (0, 8))) (.inr (0, 8))) (.inr (0, 5))))[151]? = some (.inl (9, [2, 2, 2, 2, 0, 0])) := (at_old (at_old (at_old (at_old (at_old (at_old (at_old he10_151)))))))
  have he11_173 : ((ps (ps (ps (ps (ps (ps (ps lay10 (.inl (0, [2, 2, 0, 0, 0]))) (.inl (8, [2, 2, 2, 2, 0]))) (.inr (0, 32))) (.inr (0, 8))) (.inr (0, 8))) (.inr (0, 8))) (.inr (0, 5))))[173]? = some (.inl (0, [2, 2, 0, 0, 0])) := (at_old (at_old (at_old (at_old (at_old (at_old (at_new hn10)))))))
  have he11_133 : ((ps (ps (ps (ps (ps (ps (ps lay10 (.inl (0, [2, 2, 0, 0, 0]))) (.inl (8, [2, 2, 2, 2, 0]))) (.inr (0, 32))) (.inr (0, 8))) (.inr (0, 8))) (.inr (0, 8))) (.inr (0, 5))))[133]? = some (.inr (5, 2)) := (at_old (at_old (at_old (at_old (at_old (at_old (at_old he10_133)))))))
  have hm11_6 : (K_X0 (zm (uR m_10 0 8 (some 166)) 173) 173 174).2.2 0 6 = some 133 := hm10_6
  generalize (ps (ps (ps (ps (ps (ps (ps lay10 (.inl (0, [2, 2, 0, 0, 0]))) (.inl (8, [2, 2, 2, 2, 0]))) (.inr (0, 32))) (.inr (0, 8))) (.inr (0, 8))) (.inr (0, 8))) (.inr (0, 5))) = lay11 at hn11 he11_0 he11_151 he11_173 he11_133 ⊢
  generalize K_X0 (zm (uR m_10 0 8 (some 166)) 173) 173 174 = m_11 at hm11_6 ⊢
  refine aw_aastore5 dX11_init_210 he11_133 he11_173 (by unfold vp_in; decide) ?_
  refine aw_iinc (j := 0) (v := 1) (L' := [(2, .int (1)), (1, .ref (adb bs 151)), (0, .ref (adb bs 0))]) dX11_init_211 rfl (by decide) (by decide) rfl ?_
  refine aw_goto (tgt := 189) dX11_init_214 (by decide) ?_
  have hn12 : (lay11).length = 180 := hn11
  have he12_0 : (lay11)[0]? = some (.inl (11, [2, 2, 2, 2, 2, 2, 2, 2, 2, 2, 2, 0, 2, 2, 2, 0, 2, 2, 0])) := he11_0
  have he12_151 : (lay11)[151]? = some (.inl (9, [2, 2, 2, 2, 0, 0])) := he11_151
  have he12_133 : (lay11)[133]? = some (.inr (5, 2)) := he11_133
  have hm12_6 : (uR m_11 133 (0 : Int32).toNatClampNeg (some 173)).2.2 0 6 = some 133 := hm11_6
  generalize lay11 = lay12 at hn12 he12_0 he12_151 he12_133 ⊢
  generalize uR m_11 133 (0 : Int32).toNatClampNeg (some 173) = m_12 at hm12_6 ⊢
  refine aw_iload_n (j := 0) dX11_init_189 rfl rfl ?_
  refine aw_aload_n (j := 2) dX11_init_190 rfl rfl ?_
  refine aw_getfield (c := 2) (v := .ref (adb bs 133)) dX11_init_191 f_X11_49 he12_0 rfl (by show va_rf (Option.map (adb bs) (m_12.2.2 0 6)) = _; rw [show (m_12).2.2 0 6 = some 133 from hm12_6]; rfl) ?_
  refine aw_alen5 (v := 2) dX11_init_194 he12_133 (by decide) ?_
  refine aw_icmp_ge (tgt := 217) dX11_init_195 (by decide) (fun hc => absurd hc (by decide)) (fun _ => ?_)
  refine aw_aload_n (j := 2) dX11_init_198 rfl rfl ?_
  refine aw_getfield (c := 2) (v := .ref (adb bs 133)) dX11_init_199 f_X11_49 he12_0 rfl (by show va_rf (Option.map (adb bs) (m_12.2.2 0 6)) = _; rw [show (m_12).2.2 0 6 = some 133 from hm12_6]; rfl) ?_
  refine aw_iload_n (j := 0) dX11_init_202 rfl rfl ?_
  refine aw_new (n := 180) (kc := 6) (ks := 66) (N := 5) dX11_init_203 hn12 nw_X11_47 ?_
  refine aw_dup dX11_init_206 rfl ?_
  refine aw_callIN (n := 181) (kc := 0) (ks := 0) (kc' := 6) (ks' := 66) (rest := [.ref (adb bs 180), .int (1), .ref (adb bs 133)]) [] dX11_init_207 (len_push hn12) (by omega) (len_push (len_push (len_push (len_push (len_push (len_push (len_push hn12))))))) ki_X11_109 rfl (n_X0 (hn := (len_push hn12)) (hb := (at_new hn12))) (Nat.le_of_ble_eq_true rfl) ?_
  have hn13 : ((ps (ps (ps (ps (ps (ps (ps lay12 (.inl (0, [2, 2, 0, 0, 0]))) (.inl (8, [2, 2, 2, 2, 0]))) (.inr (0, 32))) (.inr (0, 8))) (.inr (0, 8))) (.inr (0, 8))) (.inr (0, 5)))).length = 187 := (len_push (len_push (len_push (len_push (len_push (len_push (len_push hn12)))))))
  have he13_0 : ((ps (ps (ps (ps (ps (ps (ps lay12 (.inl (0, [2, 2, 0, 0, 0]))) (.inl (8, [2, 2, 2, 2, 0]))) (.inr (0, 32))) (.inr (0, 8))) (.inr (0, 8))) (.inr (0, 8))) (.inr (0, 5))))[0]? = some (.inl (11, [2, 2, 2, 2, 2, 2, 2, 2, 2, 2, 2, 0, 2, 2, 2, 0, 2, 2, 0])) := (at_old (at_old (at_old (at_old (at_old (at_old (at_old he12_0)))))))
  have he13_151 : ((ps (ps (ps (ps (ps (ps (ps lay12 (.inl (0, [2, 2, 0, 0, 0]))) (.inl (8, [2, 2, 2, 2, 0]))) (.inr (0, 32))) (.inr (0, 8))) (.inr (0, 8))) (.inr (0, 8))) (.inr (0, 5))))[151]? = some (.inl (9, [2, 2, 2, 2, 0, 0])) := (at_old (at_old (at_old (at_old (at_old (at_old (at_old he12_151)))))))
  have he13_180 : ((ps (ps (ps (ps (ps (ps (ps lay12 (.inl (0, [2, 2, 0, 0, 0]))) (.inl (8, [2, 2, 2, 2, 0]))) (.inr (0, 32))) (.inr (0, 8))) (.inr (0, 8))) (.inr (0, 8))) (.inr (0, 5))))[180]? = some (.inl (0, [2, 2, 0, 0, 0])) := (at_old (at_old (at_old (at_old (at_old (at_old (at_new hn12)))))))
  have he13_133 : ((ps (ps (ps (ps (ps (ps (ps lay12 (.inl (0, [2, 2, 0, 0, 0]))) (.inl (8, [2, 2, 2, 2, 0]))) (.inr (0, 32))) (.inr (0, 8))) (.inr (0, 8))) (.inr (0, 8))) (.inr (0, 5))))[133]? = some (.inr (5, 2)) := (at_old (at_old (at_old (at_old (at_old (at_old (at_old he12_133)))))))
  have hm13_6 : (K_X0 (zm m_12 180) 180 181).2.2 0 6 = some 133 := hm12_6
  generalize (ps (ps (ps (ps (ps (ps (ps lay12 (.inl (0, [2, 2, 0, 0, 0]))) (.inl (8, [2, 2, 2, 2, 0]))) (.inr (0, 32))) (.inr (0, 8))) (.inr (0, 8))) (.inr (0, 8))) (.inr (0, 5))) = lay13 at hn13 he13_0 he13_151 he13_180 he13_133 ⊢
  generalize K_X0 (zm m_12 180) 180 181 = m_13 at hm13_6 ⊢
  refine aw_aastore5 dX11_init_210 he13_133 he13_180 (by unfold vp_in; decide) ?_
  refine aw_iinc (j := 0) (v := 2) (L' := [(2, .int (2)), (1, .ref (adb bs 151)), (0, .ref (adb bs 0))]) dX11_init_211 rfl (by decide) (by decide) rfl ?_
  refine aw_goto (tgt := 189) dX11_init_214 (by decide) ?_
  have hn14 : (lay13).length = 187 := hn13
  have he14_0 : (lay13)[0]? = some (.inl (11, [2, 2, 2, 2, 2, 2, 2, 2, 2, 2, 2, 0, 2, 2, 2, 0, 2, 2, 0])) := he13_0
  have he14_151 : (lay13)[151]? = some (.inl (9, [2, 2, 2, 2, 0, 0])) := he13_151
  have he14_133 : (lay13)[133]? = some (.inr (5, 2)) := he13_133
  have hm14_6 : (uR m_13 133 (1 : Int32).toNatClampNeg (some 180)).2.2 0 6 = some 133 := hm13_6
  generalize lay13 = lay14 at hn14 he14_0 he14_151 he14_133 ⊢
  generalize uR m_13 133 (1 : Int32).toNatClampNeg (some 180) = m_14 at hm14_6 ⊢
  refine aw_iload_n (j := 0) dX11_init_189 rfl rfl ?_
  refine aw_aload_n (j := 2) dX11_init_190 rfl rfl ?_
  refine aw_getfield (c := 2) (v := .ref (adb bs 133)) dX11_init_191 f_X11_49 he14_0 rfl (by show va_rf (Option.map (adb bs) (m_14.2.2 0 6)) = _; rw [show (m_14).2.2 0 6 = some 133 from hm14_6]; rfl) ?_
  refine aw_alen5 (v := 2) dX11_init_194 he14_133 (by decide) ?_
  refine aw_icmp_ge (tgt := 217) dX11_init_195 (by decide) (fun _ => ?_) (fun hc => absurd (by decide) hc)
  exact aw_ret (v := none) rfl (Or.inl ⟨rfl, rfl, dX11_init_217⟩) ⟨rfl, rfl⟩
end
section
/-! ===== BEGIN words of one list among another's, by their places ===== -/
theorem goodIn_r {big : List Cond} (ws : List Cond) (ps : List Nat) (hp : ws = ps.filterMap (fun i => big[i]?)) (h : ws.all goodWord = true) : GoodIn big ws := by
  intro w hw
  have h1 := List.all_eq_true.mp h w hw
  rw [hp] at hw
  obtain ⟨i, -, hi⟩ := List.mem_filterMap.mp hw
  have hm : w ∈ big := by first | exact List.mem_of_getElem? hi | exact List.getElem?_mem hi
  exact ⟨hm, good_of_word h1⟩
theorem goodIn_app {big a b : List Cond} (ha : GoodIn big a) (hb : GoodIn big b) : GoodIn big (a ++ b) := fun w h => (List.mem_append.mp h).elim (ha w) (hb w)
theorem goodIn_ca {big a b : List Cond} {c : Cond} (ha : GoodIn big (c :: a)) (hb : GoodIn big b) : GoodIn big (c :: (a ++ b)) := fun w h => (List.mem_cons.mp h).elim (fun e => ha w (List.mem_cons.mpr (Or.inl e))) (fun h => (List.mem_append.mp h).elim (fun h => ha w (List.mem_cons.mpr (Or.inr h))) (hb w))
theorem goodIn_sub {big ws : List Cond} (hm : ∀ w ∈ ws, w ∈ big) (h : ws.all goodWord = true) : GoodIn big ws := fun w hw => ⟨hm w hw, good_of_word (List.all_eq_true.mp h w hw)⟩
/-! ===== END ===== -/
/-! ===== BEGIN exceptions that leave a method, and their catching by the caller (launches without stack traces) ===== -/
section VXA
/-! The laws vx_back, vx_callV, vx_callS, vx_callSW, vx_throw0, vx_throwS follow proofs of the library, with one case more: JvmDerived/Free/Laws.lean (Back.of_free), Shelf42/LK1.lean (callV, callS), Shelf/KitTraced.lean (throwNew0V, throwNewS). -/
/-- where a method has thrown q: the class by its name, the cell, what was written, the world -/
def vx_T (XC : String → State → State → Prop) (st : State) (q : Addr) (t : State) (mc ms : Nat) (free : Addr → Prop) : Prop :=
  ∃ (E : String) (ce : Cell) (L : List Loc), XC E st t ∧ t.heap[q]? = some ce ∧ ce.vm = .none ∧ st.vm.findClass E = some ce.cls ∧ st.WarmedH t.vm ∧ st.sameButNew ({ t with vm := st.vm } : State) L mc ms ∧ ∀ z ∈ L, free z.base
def vx_Q (Qc : Array Value → State → Outcome → State → Prop) (XC : String → State → State → Prop) (mc ms : Nat) (free : Addr → Prop) : Array Value → State → Outcome → State → Prop := fun a st o t =>
  (Qc a st o t ∧ ∃ L, FrameEnd st o t L mc ms ∧ ∀ q ∈ L, free q.base) ∨ ∃ q, o = .threw q ∧ vx_T XC st q t mc ms free
/-- a callee that returns or throws -/
def vx_Met (l : Launch) (y : MethodName) (ws : List Cond) (rm : Room) (Pc : Array Value → State → Prop) (Qc : Array Value → State → Outcome → State → Prop) (XC : String → State → State → Prop) (mc ms : Nat) (free : Addr → Prop) : Prop :=
  MetFree l y (headSpec ws rm) Pc (fun _ _ _ _ _ => True) (vx_Q Qc XC mc ms free)
def vx_Post (XC : String → State → State → Prop) (mc ms : Nat) (free : Addr → Prop) : Pt → Array Value → Addr → Pt → Prop := fun A a q B =>
  ∃ (g : JFrame) (mk : MethodId) (t : State) (L : List Loc) (E : String) (ce : Cell), B.U.heap = t.heap ∧ B.U.vm = t.vm ∧ XC E (A.U.calling g mk a) t ∧ t.heap[q]? = some ce ∧ ce.vm = .none ∧ A.U.vm.findClass E = some ce.cls ∧ B.locs = A.locs ++ L ∧ (∀ z ∈ L, free z.base) ∧ B.cells = A.cells + mc ∧ B.slots = A.slots + ms
def vx_Back (l : Launch) (R : Room) (p : Program) (e : Env) (below : List Frame) (s : State) (sargs : Array Value) (y : MethodName) (len W9 : Nat)
    (Pre : Pt → Array Value → Prop) (Post : Pt → Array Value → Option Value → Pt → Prop) (PostX : Pt → Array Value → Addr → Pt → Prop) : Prop :=
  ∀ (m : MethodId) (meth : Method) (c : Code) (A : Pt) (g : JFrame) (ig : Instr) (mk : MethodId) (a : Array Value),
    Stand p l e R s m sargs below meth c A.U A.locs A.cells A.slots → g.method = m → g.locals.size = c.maxLocals → decode c.code g.pc = .ok (ig, len) →
    2 * g.monitorRoom + (g.stack.map fun v => v.category).sum ≤ W9 → A.U.methodNamed? y = some mk → Pre A a →
    (∃ (v : Option Value) (B : Pt), Stand p l e R s m sargs below meth c B.U B.locs B.cells B.slots ∧ Post A a v B ∧
      Steps p.tables e below (doInvoke e (A.U.setTop g) [] mk a).1 (B.U.setTop { g with pc := g.pc + len, stack := v.toList ++ g.stack })) ∨
    (∃ (q : Addr) (B : Pt), Stand p l e R s m sargs below meth c B.U B.locs B.cells B.slots ∧ PostX A a q B ∧
      Steps p.tables e below (doInvoke e (A.U.setTop g) [] mk a).1 ((B.U.setTop g).pushFrame (.throwing q)))
section Payer
variable {l : Launch} {R : Room} {p : Program} {e : Env} {below : List Frame} {s : State} {sargs : Array Value} {y : MethodName} {len W9 : Nat}
theorem vx_back {ws : List Cond} {rm : Room} {Pc : Array Value → State → Prop} {Qc : Array Value → State → Outcome → State → Prop} {XC : String → State → State → Prop} {mc ms : Nat} {free : Addr → Prop} {bytes : ByteArray} {maxL : Nat} {ret : Option FieldType}
    (hM : vx_Met l y ws rm Pc Qc XC mc ms free) (hblind : FrameBlind Pc) (hrc : rm.cells = mc) (hrs : rm.slots = ms)
    (hframes : rm.frames + 1 ≤ R.frames) (hlocals : W9 + (maxL + 11) + rm.locals ≤ R.locals)
    (hws : ∀ w ∈ ws, ∀ a' U, s.WarmedH U.vm → w.before a' U = true) (hcode : Cond.code y bytes maxL ret ∈ ws) (hinit : ∀ a' U, s.WarmedH U.vm → (Cond.initialized y.cls).before a' U = true) :
    vx_Back l R p e below s sargs y len W9 (PreOf R mc ms Pc) (PostOf Qc mc ms free) (vx_Post XC mc ms free) := by
  intro m meth c A g ig mk a X hg hsize hdg hW hn hp
  have h1 : (headSpec ws rm).pre.before a A.U = true := atoms_intro fun w hw => hws w hw _ _ X.warmed
  have h2 : (Cond.code y bytes maxL ret).before a A.U = true := hws _ hcode _ _ X.warmed
  have h3 : (Cond.initialized y.cls).before a A.U = true := hinit _ _ X.warmed
  have h4 : A.cells + (headSpec ws rm).room.cells ≤ R.cells := by rw [show (headSpec ws rm).room.cells = mc from hrc]; exact hp.1
  have h5 : A.slots + (headSpec ws rm).room.slots ≤ R.slots := by rw [show (headSpec ws rm).room.slots = ms from hrs]; exact hp.2.1
  have hPc : Pc a (A.U.calling g mk a) := hblind _ _ _ _ hp.2.2
  obtain ⟨U, Ls, c0, s0⟩ := A
  dsimp only [Pt.U, Pt.locs, Pt.cells, Pt.slots] at h1 h2 h3 h4 h5 X hn hPc ⊢
  obtain ⟨methY, cY, hmY, hcY, -, hlY, -, -, -, -⟩ := Cond.code_spec hn h2
  obtain ⟨kY, hkY, -⟩ := className_of_methodNamed hn
  have hinitY : kY.init = .initialized := Cond.initialized_spec (findClass_of_methodNamed hn) hkY h3
  have h : At U g.method c below := by rw [hg]; exact X.here
  have hlocals9 : W9 + (maxL + 11) + (headSpec ws rm).room.locals ≤ R.locals := hlocals
  have happ : (headSpec ws rm).appliesLoose y e.platform (U.calling g mk a) = true :=
    Spec.appliesLoose_calling (g := g) h hdg hn hkY hinitY
      (X.room_calling (g := g) (R' := (headSpec ws rm).room) hsize hmY hcY hframes (by rw [hlY]; omega) h4 h5) h1
  obtain ⟨mid, hmid⟩ := h.above
  have hfr : (U.setTop g).frames = (.java g :: mid) ++ below := by rw [State.frames_setTop' g h.top, hmid]; rfl
  obtain ⟨o, s₂, hsteps, -, hend, hq⟩ := Steps.callFree hM p X.admits X.cas X.clock (acts := []) hfr happ hPc trivial
  have hq' : vx_Q Qc XC mc ms free a (U.calling g mk a) o s₂ := hq
  rw [State.frames_setTop' g h.top] at hend
  obtain ⟨g₀, hg0⟩ := Option.isSome_iff_exists.mp h.top
  obtain ⟨r, hr⟩ := State.topJava?_eq_some.mp hg0
  have hr' : (({ U with heap := s₂.heap, slotsUsed := s₂.slotsUsed } : State).setVm s₂.vm).frames = .java g₀ :: r := hr
  rcases hq' with ⟨hqc, L, hfe, hL⟩ | ⟨q, rfl, E, ce, L, hx, hce, hcv, hcl, hW₂, hsm, hL⟩
  · obtain ⟨⟨v, rfl⟩, hW₂, e2, q2, q3, q4, q5, q6⟩ := id hfe
    have e3 : s₂ = ({ (U.calling g mk a).setFrames s₂.frames with heap := s₂.heap, slotsUsed := s₂.slotsUsed } : State).setVm s₂.vm := by
      have : s₂ = ({ s₂ with vm := (U.calling g mk a).vm } : State).setVm s₂.vm := rfl
      rw [e2] at this
      exact this
    obtain ⟨c₂, i₂, len₂, hc₂, hd₂, hf₂⟩ := hend
    have hW' : U.WarmedH s₂.vm := hW₂
    have hcc : c₂ = c := by
      have h1 : s₂.code? g.method = U.code? g.method := by
        rw [State.code?_eq, State.code?_eq, hW'.alike.method?]
      exact Option.some.inj (hc₂.symm.trans (h1.trans h.code))
    subst hcc
    have hlen : len₂ = len := by rw [hdg] at hd₂; cases hd₂; rfl
    subst hlen
    have hs₂ : s₂ = (({ U with heap := s₂.heap, slotsUsed := s₂.slotsUsed } : State).setVm s₂.vm).setTop { g with pc := g.pc + len₂, stack := v.toList ++ g.stack } := by
      refine e3.trans ?_
      rw [hf₂, State.calling_eq h.top, State.setFrames_setFrames, State.setTop_of_frames _ hr', hr]
      rfl
    have hsame : U.sameButNew ({ U with heap := s₂.heap, slotsUsed := s₂.slotsUsed } : State) L mc ms := by
      refine ⟨?_, q2, q3, q4, q5, q6⟩
      obtain ⟨t, ht, -⟩ := State.frames_cons hr
      show ({ U with heap := s₂.heap, slotsUsed := s₂.slotsUsed } : State) = { U.setFrames U.frames with heap := s₂.heap, slotsUsed := s₂.slotsUsed }
      rw [State.setFrames_self ht]
    subst hg
    refine Or.inl ⟨v, ⟨(({ U with heap := s₂.heap, slotsUsed := s₂.slotsUsed } : State).setVm s₂.vm), Ls ++ L, c0 + mc, s0 + ms⟩,
      ⟨X.admits, X.cas, X.clock, X.frames, X.room, X.hears, X.method, X.code, (X.here.setHeapUsed s₂.heap s₂.slotsUsed).setVm hW'.alike, X.tail, State.WarmedH.trans X.warmed hW', X.limits, X.bytes, X.same.trans (hsame.setVm s.vm)⟩,
      ⟨g, mk, s₂, L, rfl, rfl, hqc, rfl, hL, rfl, rfl⟩, ?_⟩
    show Steps p.tables e below _ ((({ U with heap := s₂.heap, slotsUsed := s₂.slotsUsed } : State).setVm s₂.vm).setTop { g with pc := g.pc + len₂, stack := v.toList ++ g.stack })
    rw [← hs₂]
    exact hsteps
  · obtain ⟨e2, q2, q3, q4, q5, q6⟩ := id hsm
    have e3 : s₂ = ({ (U.calling g mk a).setFrames s₂.frames with heap := s₂.heap, slotsUsed := s₂.slotsUsed } : State).setVm s₂.vm := by
      have : s₂ = ({ s₂ with vm := (U.calling g mk a).vm } : State).setVm s₂.vm := rfl
      rw [e2] at this
      exact this
    have hf₂ : s₂.frames = .throwing q :: .java g :: U.frames.tail := hend
    have hW' : U.WarmedH s₂.vm := hW₂
    have hs₂ : s₂ = ((({ U with heap := s₂.heap, slotsUsed := s₂.slotsUsed } : State).setVm s₂.vm).setTop g).pushFrame (.throwing q) := by
      refine e3.trans ?_
      rw [hf₂, State.calling_eq h.top, State.setFrames_setFrames, State.pushFrame, State.frames_setTop _ hr', State.setTop_of_frames _ hr', State.setFrames_setFrames, hr]
      rfl
    have hsame : U.sameButNew ({ U with heap := s₂.heap, slotsUsed := s₂.slotsUsed } : State) L mc ms := by
      refine ⟨?_, q2, q3, q4, q5, q6⟩
      obtain ⟨t, ht, -⟩ := State.frames_cons hr
      show ({ U with heap := s₂.heap, slotsUsed := s₂.slotsUsed } : State) = { U.setFrames U.frames with heap := s₂.heap, slotsUsed := s₂.slotsUsed }
      rw [State.setFrames_self ht]
    subst hg
    refine Or.inr ⟨q, ⟨(({ U with heap := s₂.heap, slotsUsed := s₂.slotsUsed } : State).setVm s₂.vm), Ls ++ L, c0 + mc, s0 + ms⟩,
      ⟨X.admits, X.cas, X.clock, X.frames, X.room, X.hears, X.method, X.code, (X.here.setHeapUsed s₂.heap s₂.slotsUsed).setVm hW'.alike, X.tail, State.WarmedH.trans X.warmed hW', X.limits, X.bytes, X.same.trans (hsame.setVm s.vm)⟩,
      ⟨g, mk, s₂, L, E, ce, rfl, rfl, hx, hce, hcv, hcl, rfl, hL, rfl, rfl⟩, ?_⟩
    show Steps p.tables e below _ (((({ U with heap := s₂.heap, slotsUsed := s₂.slotsUsed } : State).setVm s₂.vm).setTop g).pushFrame (.throwing q))
    rw [← hs₂]
    exact hsteps
end Payer
section Calls
variable {p : Program} {l : Launch} {e : Env} {R : Room} {s : State} {m : MethodId} {args : Array Value} {below : List Frame} {meth : Method} {c : Code} {T : State} {locs : List Loc} {cells slots : Nat}
theorem vx_callV (X : Stand p l e R s m args below meth c T locs cells slots) (hexec : p.tables.exec = Jvm.exec) {own C : String} {index : Nat} {y : MethodName} {bytes : ByteArray} {maxL : Nat} {ret : Option FieldType}
    (hown : s.vm.findClass own = some m.cls) (hlink : (Cond.methodLink own index y).before args s = true) (hinst : (Cond.instanceMethod y).before args s = true) (hsel : (Cond.selects C y y).before args s = true)
    (hcode : (Cond.code y bytes maxL ret).before args s = true) (hy : y.cls ≠ "java/lang/invoke/MethodHandle" ∧ y.cls ≠ "java/lang/invoke/VarHandle")
    {W9 : Nat} {Pre : Pt → Array Value → Prop} {Post : Pt → Array Value → Option Value → Pt → Prop} {PostX : Pt → Array Value → Addr → Pt → Prop} (hK : vx_Back l R p e below s args y 3 W9 Pre Post PostX)
    {b : Addr} {cellB : Cell} (hcell : T.heap[b]? = some cellB) (hobj : cellB.vm.isStatics = false) (hcls : s.vm.findClass C = some cellB.cls)
    {g : JFrame} (hg : g.method = m) (hsize : g.locals.size = c.maxLocals) {argsL rest : List Value} (hlen : ∀ sig, parseMethodDescriptor y.desc = some sig → argsL.length = sig.parameters.length)
    (hstack : g.stack = argsL.reverse ++ .ref b :: rest) (hW : 2 * g.monitorRoom + (rest.map fun v => v.category).sum ≤ W9) (hdg : decode c.code g.pc = .ok (.invokevirtual index, 3))
    (hpre : ∀ vm₁, s.WarmedH vm₁ → Pre ⟨T.setVm vm₁, locs, cells, slots⟩ (Value.ref b :: argsL).toArray) :
    (∃ (v : Option Value) (vm₁ : Vm) (B : Pt), s.WarmedH vm₁ ∧ Stand p l e R s m args below meth c B.U B.locs B.cells B.slots ∧ Post ⟨T.setVm vm₁, locs, cells, slots⟩ (Value.ref b :: argsL).toArray v B ∧
      ∀ target, Steps p.tables e below (B.U.setTop { g with pc := g.pc + 3, stack := v.toList ++ rest }) target → Steps p.tables e below (T.setTop g) target) ∨
    (∃ (q : Addr) (vm₁ : Vm) (B : Pt), s.WarmedH vm₁ ∧ Stand p l e R s m args below meth c B.U B.locs B.cells B.slots ∧ PostX ⟨T.setVm vm₁, locs, cells, slots⟩ (Value.ref b :: argsL).toArray q B ∧
      Steps p.tables e below (T.setTop g) ((B.U.setTop { g with stack := rest }).pushFrame (.throwing q))) := by
  obtain ⟨mk, methM, hnamed, hmethM, hstM, habM⟩ := Cond.instanceMethod_spec hinst
  obtain ⟨methM', cM, hmethM', -, -, -, -, -, -, hsigM⟩ := Cond.code_spec hnamed hcode
  cases hmethM.symm.trans hmethM'
  obtain ⟨c2, r2, m2, q1, q2, q3, q4, kP, hkP, hkPi⟩ := Cond.selects_spec hsel
  cases hcls.symm.trans q1
  cases (State.methodFound?_of_named hnamed hy).symm.trans q2
  cases hnamed.symm.trans q3
  have hselP : selectMethod e.platform s.vm cellB.cls mk = .method mk := by rw [Launch.admits_selectMethod X.admits]; exact q4
  obtain ⟨vm₁, X₁, hstep₁⟩ := X.invokevirtual hexec hown hlink hnamed hmethM hstM hkP hkPi hy (a := b) (cell := cellB) hcell
    (fun z h => by rw [h] at hobj; cases hobj) hselP hmethM habM hkP hkPi (g := g) hg (argsL := argsL) (rest := rest) (hlen _ hsigM) hstack hdg
  rcases hK m meth c ⟨T.setVm vm₁, locs, cells, slots⟩ { g with stack := rest } (.invokevirtual index) mk (Value.ref b :: argsL).toArray X₁ hg hsize hdg hW (X₁.named hnamed) (hpre vm₁ X₁.warmed) with ⟨v, B, X', hpost, hsteps⟩ | ⟨q, B, X', hpost, hsteps⟩
  · exact Or.inl ⟨v, vm₁, B, X₁.warmed, X', hpost, fun target h => hstep₁ _ fun acts => by rw [doInvoke_state]; exact hsteps.trans h⟩
  · exact Or.inr ⟨q, vm₁, B, X₁.warmed, X', hpost, hstep₁ _ fun acts => by rw [doInvoke_state]; exact hsteps⟩
theorem vx_callS (X : Stand p l e R s m args below meth c T locs cells slots) (hexec : p.tables.exec = Jvm.exec) {own : String} {index : Nat} {y : MethodName} {bytes : ByteArray} {maxL : Nat} {ret : Option FieldType}
    (hown : s.vm.findClass own = some m.cls) (hlink : (Cond.methodLink own index y).before args s = true) (hstat : (Cond.static y).before args s = true) (hinit : (Cond.initialized y.cls).before args s = true)
    (hcode : (Cond.code y bytes maxL ret).before args s = true) (hy : y.cls ≠ "java/lang/invoke/MethodHandle" ∧ y.cls ≠ "java/lang/invoke/VarHandle")
    {W9 : Nat} {Pre : Pt → Array Value → Prop} {Post : Pt → Array Value → Option Value → Pt → Prop} {PostX : Pt → Array Value → Addr → Pt → Prop} (hK : vx_Back l R p e below s args y 3 W9 Pre Post PostX)
    {g : JFrame} (hg : g.method = m) (hsize : g.locals.size = c.maxLocals) {argsL rest : List Value} (hlen : ∀ sig, parseMethodDescriptor y.desc = some sig → argsL.length = sig.parameters.length)
    (hstack : g.stack = argsL.reverse ++ rest) (hW : 2 * g.monitorRoom + (rest.map fun v => v.category).sum ≤ W9) (hdg : decode c.code g.pc = .ok (.invokestatic index, 3))
    (hpre : ∀ vm₁, s.WarmedH vm₁ → Pre ⟨T.setVm vm₁, locs, cells, slots⟩ argsL.toArray) :
    (∃ (v : Option Value) (vm₁ : Vm) (B : Pt), s.WarmedH vm₁ ∧ Stand p l e R s m args below meth c B.U B.locs B.cells B.slots ∧ Post ⟨T.setVm vm₁, locs, cells, slots⟩ argsL.toArray v B ∧
      ∀ target, Steps p.tables e below (B.U.setTop { g with pc := g.pc + 3, stack := v.toList ++ rest }) target → Steps p.tables e below (T.setTop g) target) ∨
    (∃ (q : Addr) (vm₁ : Vm) (B : Pt), s.WarmedH vm₁ ∧ Stand p l e R s m args below meth c B.U B.locs B.cells B.slots ∧ PostX ⟨T.setVm vm₁, locs, cells, slots⟩ argsL.toArray q B ∧
      Steps p.tables e below (T.setTop g) ((B.U.setTop { g with stack := rest }).pushFrame (.throwing q))) := by
  obtain ⟨mk, hnamed⟩ := Cond.code_named hcode
  obtain ⟨methM, cM, hmethM, -, -, -, -, -, -, hsigM⟩ := Cond.code_spec hnamed hcode
  have hstatic : methM.isStatic = true := Cond.static_spec hnamed hmethM hstat
  obtain ⟨kP, hkP, -⟩ := className_of_methodNamed hnamed
  have hinitP : kP.init = .initialized := Cond.initialized_spec (findClass_of_methodNamed hnamed) hkP hinit
  obtain ⟨vm₁, X₁, hstep₁⟩ := X.invokestatic hexec hown hlink hnamed hmethM hstatic hkP hinitP hy (g := g) hg (argsL := argsL) (rest := rest) (hlen _ hsigM) hstack hdg
  rcases hK m meth c ⟨T.setVm vm₁, locs, cells, slots⟩ { g with stack := rest } (.invokestatic index) mk argsL.toArray X₁ hg hsize hdg hW (X₁.named hnamed) (hpre vm₁ X₁.warmed) with ⟨v, B, X', hpost, hsteps⟩ | ⟨q, B, X', hpost, hsteps⟩
  · exact Or.inl ⟨v, vm₁, B, X₁.warmed, X', hpost, fun target h => hstep₁ _ fun acts => by rw [doInvoke_state]; exact hsteps.trans h⟩
  · exact Or.inr ⟨q, vm₁, B, X₁.warmed, X', hpost, hstep₁ _ fun acts => by rw [doInvoke_state]; exact hsteps⟩
end Calls
theorem vx_cls {s : State} {T : State} {vm₁ : Vm} {E : String} {k : ClassId} (hW : s.WarmedH vm₁) (h : (T.setVm vm₁).vm.findClass E = some k) : s.vm.findClass E = some k := by
  have h1 : vm₁.findClass E = some k := h
  rw [hW.alike.findClass] at h1
  exact h1
/-- the method's frame g, with q thrown over it -/
def vx_W (p : Program) (l : Launch) (e : Env) (R : Room) (s : State) (m : MethodId) (args : Array Value) (below : List Frame) (meth : Method) (c : Code) (H : Heap) (locs : List Loc) (cells slots : Nat) (Q : State → Prop) (g : JFrame) (q : Addr) : Prop :=
  ∀ T : State, T.heap = H → Stand p l e R s m args below meth c T locs cells slots → ∃ t, Steps p.tables e below ((T.setTop g).pushFrame (.throwing q)) t ∧ Q t
def vx_Run (p : Program) (l : Launch) (e : Env) (R : Room) (s : State) (m : MethodId) (args : Array Value) (below : List Frame) (meth : Method) (c : Code) (H : Heap) (locs : List Loc) (cells slots mc ms : Nat) (g : JFrame) (rest : List Value) (Qa : State → Outcome → State → Prop) (XC : String → State → State → Prop) (free : Addr → Prop) : Prop :=
  ∀ T : State, T.heap = H → Stand p l e R s m args below meth c T locs cells slots →
    (∃ (v : Option Value) (st₀ t T' : State) (L : List Loc), st₀.heap = H ∧ Stand p l e R s m args below meth c T' (locs ++ L) (cells + mc) (slots + ms) ∧ (∀ q ∈ L, free q.base) ∧ T'.heap = t.heap ∧ T'.vm = t.vm ∧ Qa st₀ (.returned v) t ∧
      Goes p e below T g T' { g with pc := g.pc + 3, stack := v.toList ++ rest }) ∨
    (∃ (q : Addr) (st₀ t T' : State) (L : List Loc) (E : String) (ce : Cell), st₀.heap = H ∧ Stand p l e R s m args below meth c T' (locs ++ L) (cells + mc) (slots + ms) ∧ (∀ z ∈ L, free z.base) ∧ T'.heap = t.heap ∧ T'.vm = t.vm ∧ XC E st₀ t ∧ t.heap[q]? = some ce ∧ ce.vm = .none ∧ s.vm.findClass E = some ce.cls ∧
      Steps p.tables e below (T.setTop g) ((T'.setTop { g with stack := rest }).pushFrame (.throwing q)))
def vx_X {S : Type} (px : S → Prop) (B : String → S → State → Prop) (A : Nat → Prop) : String → State → State → Prop := fun E st t => ∃ u : S, px u ∧ B E u t ∧ va_F A st t
section Runs
variable {p : Program} {l : Launch} {e : Env} {R : Room} {s : State} {m : MethodId} {args : Array Value} {below : List Frame} {meth : Method} {c : Code} {H : Heap} {locs : List Loc} {cells slots : Nat}
variable {y : MethodName} {bytes cc : ByteArray} {maxL nL mc ms n index : Nat} {ret : Option FieldType} {ws : List Cond} {rm : Room} {Pc : Array Value → State → Prop} {Qc : Array Value → State → Outcome → State → Prop} {XC : String → State → State → Prop} {free : Addr → Prop} {Ts : List Cond} {own C : String} {b : Addr} {As rest : List Value} {g : JFrame}
theorem vx_callBack (cb : CallB R s args own index y bytes maxL ret ws rm mc ms n) (hM : vx_Met l y ws rm Pc Qc XC mc ms free) (hbl : FrameBlind Pc) : vx_Back l R p e below s args y 3 8 (PreOf R mc ms Pc) (PostOf Qc mc ms free) (vx_Post XC mc ms free) := by
  obtain ⟨hrc, hrs, hfr, hlo, hws, hcw, -, hini, -⟩ := cb
  exact vx_back (bytes := bytes) (maxL := maxL) (ret := ret) hM hbl hrc hrs hfr hlo hws hcw (fun a' U hW => word_at hW (Or.inl (by first | rfl | simp [Cond.onTables, Cond.keeps, Cond.steady])) hini)
theorem vx_runV (S : CallFix p m c cc nL s args Ts own) (hM : vx_Met l y ws rm Pc Qc XC mc ms free) (cw : CallW R s args own C index y bytes maxL ret ws rm mc ms n) (hp : PreV s H C b Pc As)
    (hg : g.method = m) (hn : As.length = n) (hsize : g.locals.size = nL) (hstack : g.stack = As.reverse ++ .ref b :: rest) (hW : 2 * g.monitorRoom + (rest.map fun v => v.category).sum ≤ 8) (hdg : decode cc g.pc = .ok (.invokevirtual index, 3)) (hf : cells + mc ≤ R.cells ∧ slots + ms ≤ R.slots) :
    vx_Run p l e R s m args below meth c H locs cells slots mc ms g rest (Qc (Value.ref b :: As).toArray) XC free := by
  have hK : vx_Back l R p e below s args y 3 8 (PreOf R mc ms Pc) (PostOf Qc mc ms free) (vx_Post XC mc ms free) := vx_callBack cw.1 hM hp.1
  obtain ⟨⟨-, -, -, -, -, -, hcode, -, hy, hlen, hl⟩, hin, hse⟩ := cw
  obtain ⟨hx, hb, hml, ho, -⟩ := S
  obtain ⟨-, ⟨cellB, hcB, hoB, hclB⟩, hPc⟩ := hp
  intro T hT X
  rcases vx_callV X hx (C := C) (bytes := bytes) (maxL := maxL) (ret := ret) ho hl hin hse hcode hy hK (by rw [hT]; exact hcB) hoB hclB hg (hsize.trans hml.symm) (argsL := As) (rest := rest) (fun sig h => hn.trans (hlen sig h)) hstack hW (by rw [hb]; exact hdg)
    (fun vm₁ hW₁ => ⟨hf.1, hf.2, hPc (T.setVm vm₁) hT hW₁⟩) with ⟨v, vm₁, ⟨U', l2, c2, s2⟩, hW₁, X', ⟨g', mk, t, L, e1, e2, hq, h1, hL, h2, h3⟩, st⟩ | ⟨q, vm₁, ⟨U', l2, c2, s2⟩, hW₁, X', ⟨g', mk, t, L, E, ce, e1, e2, hq, hce, hcv, hcl, h1, hL, h2, h3⟩, st⟩
  · dsimp only [Pt.U, Pt.locs, Pt.cells, Pt.slots] at X' e1 e2 h1 h2 h3 st
    subst h1; subst h2; subst h3
    exact Or.inl ⟨v, (T.setVm vm₁).calling g' mk (Value.ref b :: As).toArray, t, U', L, hT, X', hL, e1, e2, hq, st⟩
  · dsimp only [Pt.U, Pt.locs, Pt.cells, Pt.slots] at X' e1 e2 h1 h2 h3 st hcl
    subst h1; subst h2; subst h3
    exact Or.inr ⟨q, (T.setVm vm₁).calling g' mk (Value.ref b :: As).toArray, t, U', L, E, ce, hT, X', hL, e1, e2, hq, hce, hcv, vx_cls hW₁ hcl, st⟩
theorem vx_runS (S : CallFix p m c cc nL s args Ts own) (hM : vx_Met l y ws rm Pc Qc XC mc ms free) (cw : CallB R s args own index y bytes maxL ret ws rm mc ms n ∧ (Cond.static y).before args s = true) (hp : PreS s H Pc As)
    (hg : g.method = m) (hn : As.length = n) (hsize : g.locals.size = nL) (hstack : g.stack = As.reverse ++ rest) (hW : 2 * g.monitorRoom + (rest.map fun v => v.category).sum ≤ 8) (hdg : decode cc g.pc = .ok (.invokestatic index, 3)) (hf : cells + mc ≤ R.cells ∧ slots + ms ≤ R.slots) :
    vx_Run p l e R s m args below meth c H locs cells slots mc ms g rest (Qc As.toArray) XC free := by
  have hK : vx_Back l R p e below s args y 3 8 (PreOf R mc ms Pc) (PostOf Qc mc ms free) (vx_Post XC mc ms free) := vx_callBack cw.1 hM hp.1
  obtain ⟨⟨-, -, -, -, -, -, hcode, hini, hy, hlen, hl⟩, hstt⟩ := cw
  obtain ⟨hx, hb, hml, ho, -⟩ := S
  intro T hT X
  rcases vx_callS X hx (bytes := bytes) (maxL := maxL) (ret := ret) ho hl hstt hini hcode hy hK hg (hsize.trans hml.symm) (argsL := As) (rest := rest) (fun sig h => hn.trans (hlen sig h)) hstack hW (by rw [hb]; exact hdg)
    (fun vm₁ hW₁ => ⟨hf.1, hf.2, hp.2 (T.setVm vm₁) hT hW₁⟩) with ⟨v, vm₁, ⟨U', l2, c2, s2⟩, hW₁, X', ⟨g', mk, t, L, e1, e2, hq, h1, hL, h2, h3⟩, st⟩ | ⟨q, vm₁, ⟨U', l2, c2, s2⟩, hW₁, X', ⟨g', mk, t, L, E, ce, e1, e2, hq, hce, hcv, hcl, h1, hL, h2, h3⟩, st⟩
  · dsimp only [Pt.U, Pt.locs, Pt.cells, Pt.slots] at X' e1 e2 h1 h2 h3 st
    subst h1; subst h2; subst h3
    exact Or.inl ⟨v, (T.setVm vm₁).calling g' mk As.toArray, t, U', L, hT, X', hL, e1, e2, hq, st⟩
  · dsimp only [Pt.U, Pt.locs, Pt.cells, Pt.slots] at X' e1 e2 h1 h2 h3 st hcl
    subst h1; subst h2; subst h3
    exact Or.inr ⟨q, (T.setVm vm₁).calling g' mk As.toArray, t, U', L, E, ce, hT, X', hL, e1, e2, hq, hce, hcv, vx_cls hW₁ hcl, st⟩
end Runs
section Rows
variable {p : Program} {l : Launch} {e : Env} {R : Room} {s : State} {m : MethodId} {args : Array Value} {below : List Frame} {meth : Method} {c : Code} {H : Heap} {locs : List Loc} {cells slots : Nat} {Q : State → Prop}
variable {mc ms : Nat} {free : Addr → Prop} {A0 A1 : Nat → Prop} {H0 : Heap} {a : Array Value} {pc : Nat} {ls : Array Slot} {st0 rest : List Value}
theorem vx_keep {st₀ t T' : State} {L : List Loc} (h0 : st₀.heap = H) (e1 : T'.heap = t.heap) (hS : va_S A0 H0 H locs) (hA : ∀ q, q < H.size → A1 q → A0 q) (hf : ∀ q, free q → A0 q) (hL : ∀ q ∈ L, free q.base) (hF : va_F A1 st₀ t) :
    H.size ≤ T'.heap.size ∧ (∀ q : Nat, q < H.size → ¬ A1 q → T'.heap[q]? = H[q]?) ∧ va_S A0 H0 T'.heap (locs ++ L) := by
  obtain ⟨hz, hk⟩ := hF
  rw [h0] at hz hk
  exact ⟨by rw [e1]; exact hz, fun q h1 h2 => by rw [e1]; exact hk q h1 h2,
    ⟨Nat.le_trans hS.1 (by rw [e1]; exact hz), fun q h1 h2 => by rw [e1, hk q (Nat.lt_of_lt_of_le h1 hS.1) (fun z => h2 (hA q (Nat.lt_of_lt_of_le h1 hS.1) z))]; exact hS.2.1 q h1 h2, fun q hq => by
      rcases List.mem_append.mp hq with h | h
      · exact hS.2.2 q h
      · exact hf _ (hL q h)⟩⟩
theorem vx_calli {S SX : Type} {post : Int32 → S → Prop} {px : SX → Prop} {B : S → State → Prop} {BX : String → SX → State → Prop} {AX : Nat → Prop} (hr : vx_Run p l e R s m args below meth c H locs cells slots mc ms (F0 m pc ls st0) rest (va_Qi post B A1 a) (vx_X px BX AX) free) (hS : va_S A0 H0 H locs) (hA : ∀ q, q < H.size → A1 q → A0 q) (hf : ∀ q, free q → A0 q) (hAX : ∀ q, q < H.size → AX q → A0 q)
    (kx : ∀ (E : String) (ce : Cell) (q9 : Addr) (u : SX) (t : State) (H1 : Heap) (locs1 : List Loc), t.heap = H1 → s.vm.Alike t.vm → px u → BX E u t → H.size ≤ H1.size → (∀ q : Nat, q < H.size → ¬ AX q → H1[q]? = H[q]?) → va_S A0 H0 H1 locs1 → H1[q9]? = some ce → ce.vm = .none → s.vm.findClass E = some ce.cls → vx_W p l e R s m args below meth c H1 locs1 (cells + mc) (slots + ms) Q (F0 m pc ls rest) q9)
    (kk : ∀ (r : Int32) (u : S) (t : State) (H1 : Heap) (locs1 : List Loc), t.heap = H1 → s.vm.Alike t.vm → post r u → B u t → H.size ≤ H1.size → (∀ q : Nat, q < H.size → ¬ A1 q → H1[q]? = H[q]?) → va_S A0 H0 H1 locs1 → W p l e R s m args below meth c H1 locs1 (cells + mc) (slots + ms) Q (F0 m (pc + 3) ls (.int r :: rest))) : W p l e R s m args below meth c H locs cells slots Q (F0 m pc ls st0) := by
  intro T hT X
  rcases hr T hT X with ⟨v, st₀, t, T', L, h0, X', hL, e1, e2, ⟨⟨r, u, hv, hp, hb⟩, hF⟩, st⟩ | ⟨q, st₀, t, T', L, E, ce, h0, X', hL, e1, e2, ⟨u, hp, hb, hF⟩, hce, hcv, hcl, st⟩
  · cases hv
    obtain ⟨k1, k2, k3⟩ := vx_keep h0 e1 hS hA hf hL hF
    obtain ⟨t2, a1, b1⟩ := kk r u t T'.heap (locs ++ L) e1.symm (by rw [← e2]; exact X'.warmed.alike) hp hb k1 k2 k3 T' rfl X'
    exact ⟨t2, st t2 a1, b1⟩
  · obtain ⟨k1, k2, k3⟩ := vx_keep h0 e1 hS hAX hf hL hF
    obtain ⟨t2, a1, b1⟩ := kx E ce q u t T'.heap (locs ++ L) e1.symm (by rw [← e2]; exact X'.warmed.alike) hp hb k1 k2 k3 (by rw [e1]; exact hce) hcv hcl T' rfl X'
    exact ⟨t2, st.trans a1, b1⟩
theorem vx_calll {S SX : Type} {post : Int64 → S → Prop} {px : SX → Prop} {B : S → State → Prop} {BX : String → SX → State → Prop} {AX : Nat → Prop} (hr : vx_Run p l e R s m args below meth c H locs cells slots mc ms (F0 m pc ls st0) rest (va_Ql post B A1 a) (vx_X px BX AX) free) (hS : va_S A0 H0 H locs) (hA : ∀ q, q < H.size → A1 q → A0 q) (hf : ∀ q, free q → A0 q) (hAX : ∀ q, q < H.size → AX q → A0 q)
    (kx : ∀ (E : String) (ce : Cell) (q9 : Addr) (u : SX) (t : State) (H1 : Heap) (locs1 : List Loc), t.heap = H1 → s.vm.Alike t.vm → px u → BX E u t → H.size ≤ H1.size → (∀ q : Nat, q < H.size → ¬ AX q → H1[q]? = H[q]?) → va_S A0 H0 H1 locs1 → H1[q9]? = some ce → ce.vm = .none → s.vm.findClass E = some ce.cls → vx_W p l e R s m args below meth c H1 locs1 (cells + mc) (slots + ms) Q (F0 m pc ls rest) q9)
    (kk : ∀ (r : Int64) (u : S) (t : State) (H1 : Heap) (locs1 : List Loc), t.heap = H1 → s.vm.Alike t.vm → post r u → B u t → H.size ≤ H1.size → (∀ q : Nat, q < H.size → ¬ A1 q → H1[q]? = H[q]?) → va_S A0 H0 H1 locs1 → W p l e R s m args below meth c H1 locs1 (cells + mc) (slots + ms) Q (F0 m (pc + 3) ls (.long r :: rest))) : W p l e R s m args below meth c H locs cells slots Q (F0 m pc ls st0) := by
  intro T hT X
  rcases hr T hT X with ⟨v, st₀, t, T', L, h0, X', hL, e1, e2, ⟨⟨r, u, hv, hp, hb⟩, hF⟩, st⟩ | ⟨q, st₀, t, T', L, E, ce, h0, X', hL, e1, e2, ⟨u, hp, hb, hF⟩, hce, hcv, hcl, st⟩
  · cases hv
    obtain ⟨k1, k2, k3⟩ := vx_keep h0 e1 hS hA hf hL hF
    obtain ⟨t2, a1, b1⟩ := kk r u t T'.heap (locs ++ L) e1.symm (by rw [← e2]; exact X'.warmed.alike) hp hb k1 k2 k3 T' rfl X'
    exact ⟨t2, st t2 a1, b1⟩
  · obtain ⟨k1, k2, k3⟩ := vx_keep h0 e1 hS hAX hf hL hF
    obtain ⟨t2, a1, b1⟩ := kx E ce q u t T'.heap (locs ++ L) e1.symm (by rw [← e2]; exact X'.warmed.alike) hp hb k1 k2 k3 (by rw [e1]; exact hce) hcv hcl T' rfl X'
    exact ⟨t2, st.trans a1, b1⟩
theorem vx_callf {S SX : Type} {post : UInt32 → S → Prop} {px : SX → Prop} {B : S → State → Prop} {BX : String → SX → State → Prop} {AX : Nat → Prop} (hr : vx_Run p l e R s m args below meth c H locs cells slots mc ms (F0 m pc ls st0) rest (va_Qf post B A1 a) (vx_X px BX AX) free) (hS : va_S A0 H0 H locs) (hA : ∀ q, q < H.size → A1 q → A0 q) (hf : ∀ q, free q → A0 q) (hAX : ∀ q, q < H.size → AX q → A0 q)
    (kx : ∀ (E : String) (ce : Cell) (q9 : Addr) (u : SX) (t : State) (H1 : Heap) (locs1 : List Loc), t.heap = H1 → s.vm.Alike t.vm → px u → BX E u t → H.size ≤ H1.size → (∀ q : Nat, q < H.size → ¬ AX q → H1[q]? = H[q]?) → va_S A0 H0 H1 locs1 → H1[q9]? = some ce → ce.vm = .none → s.vm.findClass E = some ce.cls → vx_W p l e R s m args below meth c H1 locs1 (cells + mc) (slots + ms) Q (F0 m pc ls rest) q9)
    (kk : ∀ (r : UInt32) (u : S) (t : State) (H1 : Heap) (locs1 : List Loc), t.heap = H1 → s.vm.Alike t.vm → post r u → B u t → H.size ≤ H1.size → (∀ q : Nat, q < H.size → ¬ A1 q → H1[q]? = H[q]?) → va_S A0 H0 H1 locs1 → W p l e R s m args below meth c H1 locs1 (cells + mc) (slots + ms) Q (F0 m (pc + 3) ls (.float r :: rest))) : W p l e R s m args below meth c H locs cells slots Q (F0 m pc ls st0) := by
  intro T hT X
  rcases hr T hT X with ⟨v, st₀, t, T', L, h0, X', hL, e1, e2, ⟨⟨r, u, hv, hp, hb⟩, hF⟩, st⟩ | ⟨q, st₀, t, T', L, E, ce, h0, X', hL, e1, e2, ⟨u, hp, hb, hF⟩, hce, hcv, hcl, st⟩
  · cases hv
    obtain ⟨k1, k2, k3⟩ := vx_keep h0 e1 hS hA hf hL hF
    obtain ⟨t2, a1, b1⟩ := kk r u t T'.heap (locs ++ L) e1.symm (by rw [← e2]; exact X'.warmed.alike) hp hb k1 k2 k3 T' rfl X'
    exact ⟨t2, st t2 a1, b1⟩
  · obtain ⟨k1, k2, k3⟩ := vx_keep h0 e1 hS hAX hf hL hF
    obtain ⟨t2, a1, b1⟩ := kx E ce q u t T'.heap (locs ++ L) e1.symm (by rw [← e2]; exact X'.warmed.alike) hp hb k1 k2 k3 (by rw [e1]; exact hce) hcv hcl T' rfl X'
    exact ⟨t2, st.trans a1, b1⟩
theorem vx_calld {S SX : Type} {post : UInt64 → S → Prop} {px : SX → Prop} {B : S → State → Prop} {BX : String → SX → State → Prop} {AX : Nat → Prop} (hr : vx_Run p l e R s m args below meth c H locs cells slots mc ms (F0 m pc ls st0) rest (va_Qd post B A1 a) (vx_X px BX AX) free) (hS : va_S A0 H0 H locs) (hA : ∀ q, q < H.size → A1 q → A0 q) (hf : ∀ q, free q → A0 q) (hAX : ∀ q, q < H.size → AX q → A0 q)
    (kx : ∀ (E : String) (ce : Cell) (q9 : Addr) (u : SX) (t : State) (H1 : Heap) (locs1 : List Loc), t.heap = H1 → s.vm.Alike t.vm → px u → BX E u t → H.size ≤ H1.size → (∀ q : Nat, q < H.size → ¬ AX q → H1[q]? = H[q]?) → va_S A0 H0 H1 locs1 → H1[q9]? = some ce → ce.vm = .none → s.vm.findClass E = some ce.cls → vx_W p l e R s m args below meth c H1 locs1 (cells + mc) (slots + ms) Q (F0 m pc ls rest) q9)
    (kk : ∀ (r : UInt64) (u : S) (t : State) (H1 : Heap) (locs1 : List Loc), t.heap = H1 → s.vm.Alike t.vm → post r u → B u t → H.size ≤ H1.size → (∀ q : Nat, q < H.size → ¬ A1 q → H1[q]? = H[q]?) → va_S A0 H0 H1 locs1 → W p l e R s m args below meth c H1 locs1 (cells + mc) (slots + ms) Q (F0 m (pc + 3) ls (.double r :: rest))) : W p l e R s m args below meth c H locs cells slots Q (F0 m pc ls st0) := by
  intro T hT X
  rcases hr T hT X with ⟨v, st₀, t, T', L, h0, X', hL, e1, e2, ⟨⟨r, u, hv, hp, hb⟩, hF⟩, st⟩ | ⟨q, st₀, t, T', L, E, ce, h0, X', hL, e1, e2, ⟨u, hp, hb, hF⟩, hce, hcv, hcl, st⟩
  · cases hv
    obtain ⟨k1, k2, k3⟩ := vx_keep h0 e1 hS hA hf hL hF
    obtain ⟨t2, a1, b1⟩ := kk r u t T'.heap (locs ++ L) e1.symm (by rw [← e2]; exact X'.warmed.alike) hp hb k1 k2 k3 T' rfl X'
    exact ⟨t2, st t2 a1, b1⟩
  · obtain ⟨k1, k2, k3⟩ := vx_keep h0 e1 hS hAX hf hL hF
    obtain ⟨t2, a1, b1⟩ := kx E ce q u t T'.heap (locs ++ L) e1.symm (by rw [← e2]; exact X'.warmed.alike) hp hb k1 k2 k3 (by rw [e1]; exact hce) hcv hcl T' rfl X'
    exact ⟨t2, st.trans a1, b1⟩
theorem vx_callv {S SX : Type} {post : S → Prop} {px : SX → Prop} {B : S → State → Prop} {BX : String → SX → State → Prop} {AX : Nat → Prop} (hr : vx_Run p l e R s m args below meth c H locs cells slots mc ms (F0 m pc ls st0) rest (va_Qv post B A1 a) (vx_X px BX AX) free) (hS : va_S A0 H0 H locs) (hA : ∀ q, q < H.size → A1 q → A0 q) (hf : ∀ q, free q → A0 q) (hAX : ∀ q, q < H.size → AX q → A0 q)
    (kx : ∀ (E : String) (ce : Cell) (q9 : Addr) (u : SX) (t : State) (H1 : Heap) (locs1 : List Loc), t.heap = H1 → s.vm.Alike t.vm → px u → BX E u t → H.size ≤ H1.size → (∀ q : Nat, q < H.size → ¬ AX q → H1[q]? = H[q]?) → va_S A0 H0 H1 locs1 → H1[q9]? = some ce → ce.vm = .none → s.vm.findClass E = some ce.cls → vx_W p l e R s m args below meth c H1 locs1 (cells + mc) (slots + ms) Q (F0 m pc ls rest) q9)
    (kk : ∀ (u : S) (t : State) (H1 : Heap) (locs1 : List Loc), t.heap = H1 → s.vm.Alike t.vm → post u → B u t → H.size ≤ H1.size → (∀ q : Nat, q < H.size → ¬ A1 q → H1[q]? = H[q]?) → va_S A0 H0 H1 locs1 → W p l e R s m args below meth c H1 locs1 (cells + mc) (slots + ms) Q (F0 m (pc + 3) ls (rest))) : W p l e R s m args below meth c H locs cells slots Q (F0 m pc ls st0) := by
  intro T hT X
  rcases hr T hT X with ⟨v, st₀, t, T', L, h0, X', hL, e1, e2, ⟨⟨u, hv, hp, hb⟩, hF⟩, st⟩ | ⟨q, st₀, t, T', L, E, ce, h0, X', hL, e1, e2, ⟨u, hp, hb, hF⟩, hce, hcv, hcl, st⟩
  · cases hv
    obtain ⟨k1, k2, k3⟩ := vx_keep h0 e1 hS hA hf hL hF
    obtain ⟨t2, a1, b1⟩ := kk u t T'.heap (locs ++ L) e1.symm (by rw [← e2]; exact X'.warmed.alike) hp hb k1 k2 k3 T' rfl X'
    exact ⟨t2, st t2 a1, b1⟩
  · obtain ⟨k1, k2, k3⟩ := vx_keep h0 e1 hS hAX hf hL hF
    obtain ⟨t2, a1, b1⟩ := kx E ce q u t T'.heap (locs ++ L) e1.symm (by rw [← e2]; exact X'.warmed.alike) hp hb k1 k2 k3 (by rw [e1]; exact hce) hcv hcl T' rfl X'
    exact ⟨t2, st.trans a1, b1⟩
/-- caught by the row x of this method's table; the rows ahead don't take it -/
theorem vx_catch {own name : String} {E : String} {ce : Cell} {q : Addr} (hown : s.vm.findClass own = some m.cls) (pre : List ExceptionTableEntry) (x : ExceptionTableEntry) (suf : List ExceptionTableEntry) (hsplit : c.exceptionTable.toList = pre ++ x :: suf)
    (hpass : ∀ z ∈ pre, covers z pc = false ∨ (z.catchType ≠ 0 ∧ ∃ nm : String, (Cond.classLink own z.catchType nm).before args s = true ∧ va_Nc E nm s)) (hx : covers x pc = true) (h0 : x.catchType ≠ 0)
    (hlink : (Cond.classLink own x.catchType name).before args s = true) (hcast : (Cond.castable E name).before args s = true) (hcell : H[q]? = some ce) (hv : ce.vm = .none) (hcl : s.vm.findClass E = some ce.cls)
    (kk : W p l e R s m args below meth c H locs cells slots Q (F0 m x.handlerPc ls [.ref q])) : vx_W p l e R s m args below meth c H locs cells slots Q (F0 m pc ls rest) q := by
  intro T hT X
  have hpl : e.platform.magicAccessors = ({} : Platform).magicAccessors := by rw [X.admits.platform]
  obtain ⟨c3, c4, hc3, hc4, hasg⟩ := Cond.castable_spec hcast
  cases Option.some.inj (hc3.symm.trans hcl)
  obtain ⟨c5, hc5, hcl5⟩ := Cond.classLink_spec hown hlink e.platform hpl
  cases Option.some.inj (hc4.symm.trans hc5)
  obtain ⟨vm', X', st⟩ := X.thenCaughtThrough q (g := F0 m pc ls rest) rfl (Steps.refl _) (by rw [hT]; exact hcell) (by rw [hv]; rfl) (by obtain ⟨k9, h9, -⟩ := Vm.findClass_spec hcl; exact ⟨k9, h9⟩) pre x suf hsplit
    (fun z hz => by
      rcases hpass z hz with h | ⟨hz0, nm, hl1, hn1⟩
      · exact Or.inl h
      · obtain ⟨c6, hc6, hcl6⟩ := Cond.classLink_spec hown hl1 e.platform hpl
        obtain ⟨a8, b8, h1, h2, h3⟩ := hn1
        cases Option.some.inj (h1.symm.trans hcl)
        cases Option.some.inj (h2.symm.trans hc6)
        exact Or.inr ⟨hz0, _, hcl6, h3⟩) hx (Or.inr ⟨h0, c4, hcl5, hasg⟩)
  obtain ⟨t, a1, b1⟩ := kk (T.setVm vm') hT X'
  exact ⟨t, st.trans a1, b1⟩
end Rows
section Ends
variable {p : Program} {l : Launch} {e : Env} {R : Room} {s : State} {m : MethodId} {args : Array Value} {below : List Frame} {meth : Method} {c : Code} {H : Heap} {locs : List Loc} {cells slots : Nat} {Q : State → Prop}
variable {mc ms : Nat} {free : Addr → Prop} {A0 A1 : Nat → Prop} {H0 : Heap} {a : Array Value} {ls : Array Slot} {st0 rest : List Value}
variable {Qc : Array Value → State → Outcome → State → Prop} {XC : String → State → State → Prop}
/-- what a body that may throw owes at its end -/
def vx_MQ (below : List Frame) (Qc : Array Value → State → Outcome → State → Prop) (XC : String → State → State → Prop) (a : Array Value) (s : State) (mc ms : Nat) (free : Addr → Prop) : State → Prop := fun t =>
  ∃ o, t.status = .running ∧ Ended t below o ∧ vx_Q Qc XC mc ms free a s o t
theorem vx_ret {g : JFrame} {mc ms : Nat} (k : W p l e R s m args below meth c H locs cells slots (MQ below Qc args s mc ms free) g) : W p l e R s m args below meth c H locs cells slots (vx_MQ below Qc XC args s mc ms free) g := by
  intro T hT X
  obtain ⟨t, a1, o, b1, b2, b3, b4⟩ := k T hT X
  exact ⟨t, a1, o, b1, b2, Or.inl ⟨b3, b4⟩⟩
/-- not caught here: it goes on to the caller -/
theorem vx_widen {g : JFrame} {q : Addr} {k n : Nat} (h1 : cells ≤ k) (h2 : slots ≤ n) (kk : vx_W p l e R s m args below meth c H locs k n Q g q) : vx_W p l e R s m args below meth c H locs cells slots Q g q := fun T hT X => kk T hT (stand_widen X h1 h2)
theorem vx_out {pc : Nat} {E : String} {ce : Cell} {q : Addr} {mc ms : Nat} (hout : ∀ x ∈ c.exceptionTable.toList, covers x pc = false) (hlocks : meth.locks = false) (hcell : H[q]? = some ce) (hv : ce.vm = .none) (hcl : s.vm.findClass E = some ce.cls)
    (hx : ∀ t : State, t.heap = H → s.vm.Alike t.vm → XC E s t) (hf : ∀ z ∈ locs, free z.base) (hc : cells ≤ mc) (hs : slots ≤ ms) :
    vx_W p l e R s m args below meth c H locs cells slots (vx_MQ below Qc XC args s mc ms free) (F0 m pc ls rest) q := by
  intro T hT X
  obtain ⟨st1, hrun, hend, hW, hsm⟩ := X.leaveThrown q (g := F0 m pc ls rest) rfl rfl rfl hout hlocks
  have hcell9 : (T.setFrames (.throwing q :: below)).heap[q]? = some ce := by
    show T.heap[q]? = some ce
    rw [hT]; exact hcell
  exact ⟨_, st1, .threw q, hrun, hend, Or.inr ⟨q, rfl, E, ce, locs, hx _ hT hW.alike, hcell9, hv, hcl, hW, hsm.mono hc hs, hf⟩⟩
theorem vx_frame {U : State} {k n : Nat} (h : s.sameButNew ({ U with vm := s.vm } : State) locs k n) : s.heap.size ≤ U.heap.size ∧ ∀ q : Nat, q < s.heap.size → (∀ z ∈ locs, z.base ≠ q) → U.heap[q]? = s.heap[q]? := by
  obtain ⟨-, h2, -, -, -, h6⟩ := h
  refine ⟨h2, fun q hq hz => ?_⟩
  obtain ⟨c9, e1, e2, e3, e4⟩ := h6 q _ (Array.getElem?_eq_getElem hq)
  have hs : c9.slots = (s.heap[q]).slots := Array.ext_getElem? fun i => e4 i fun hm => hz _ hm rfl
  have h9 : c9 = s.heap[q] := by
    rw [hs] at e2
    exact e2
  have e5 : U.heap[q]? = some c9 := e1
  rw [e5, h9, Array.getElem?_eq_getElem hq]
/-- the words of a throw but the four that speak of the heap -/
def vx_no (w : Cond) : Bool := decide (w ≠ .isRef (.static Bundle.tN "UNASSIGNED_STACK" Bundle.steD)) && decide (w ≠ .isRef (.static Bundle.tN "SUPPRESSED_SENTINEL" Bundle.listD)) && decide (w ≠ .laysStatic Bundle.tN "UNASSIGNED_STACK" Bundle.steD) && decide (w ≠ .laysStatic Bundle.tN "SUPPRESSED_SENTINEL" Bundle.listD)
def vx_at0 (own : String) (ic : Nat) (X : String) (names : List String) : List Cond := (Bundle.ownAtoms0 own ic X names).filter vx_no
def vx_atS (own : String) (ic : Nat) (X : String) (names : List String) : List Cond := (Bundle.ownAtoms own ic X names).filter vx_no
/-- a word that the tables alone decide, or a good one -/
def vx_ot (w : Cond) : Bool := w.onTables || goodWord w
theorem vx_ot_at {args a' : Array Value} {s U : State} {w : Cond} (hW : s.WarmedH U.vm) (hvm : s.vm = U.vm) (hg : vx_ot w = true) (h : w.before args s = true) : w.before a' U = true := by
  simp only [vx_ot, Bool.or_eq_true] at hg
  rcases hg with hg | hg
  · exact va_tabs hg hvm h
  · exact word_at hW (good_of_word hg) h
/-- a list's words: the good ones out of the method's own list, the others by premises of their own -/
theorem vx_hat {args : Array Value} {s : State} {L B : List Cond} (h1 : ∀ w ∈ L.filter goodWord, w.before args s = true) (h2 : ∀ w ∈ L.filter (fun w => !goodWord w), w ∈ B) (h3 : ∀ w ∈ B, w.before args s = true) : ∀ w ∈ L, w.before args s = true := by
  intro w hw
  by_cases g : goodWord w = true
  · exact h1 w (List.mem_filter.mpr ⟨hw, g⟩)
  · refine h3 w (h2 w (List.mem_filter.mpr ⟨hw, ?_⟩))
    show (!goodWord w) = true
    cases hgw : goodWord w
    · rfl
    · exact absurd hgw g
theorem vx_c {args : Array Value} {s : State} {w : Cond} {B : List Cond} (h : w.before args s = true) (t : ∀ w ∈ B, w.before args s = true) : ∀ w' ∈ w :: B, w'.before args s = true := fun w' h' => (List.mem_cons.mp h').elim (fun e => by rw [e]; exact h) (t w')
theorem vx_n {args : Array Value} {s : State} : ∀ w ∈ ([] : List Cond), w.before args s = true := fun _ h => nomatch h
theorem vx_own {args : Array Value} {s : State} {L : List Cond} (h1 : ∀ w ∈ L.filter vx_no, w.before args s = true)
    (hU : (Cond.isRef (.static Bundle.tN "UNASSIGNED_STACK" Bundle.steD)).before args s = true) (hN : (Cond.isRef (.static Bundle.tN "SUPPRESSED_SENTINEL" Bundle.listD)).before args s = true)
    (lU : (Cond.laysStatic Bundle.tN "UNASSIGNED_STACK" Bundle.steD).before args s = true) (lN : (Cond.laysStatic Bundle.tN "SUPPRESSED_SENTINEL" Bundle.listD).before args s = true) : ∀ w ∈ L, w.before args s = true := by
  intro w hw
  by_cases e1 : w = .isRef (.static Bundle.tN "UNASSIGNED_STACK" Bundle.steD)
  · rw [e1]; exact hU
  · by_cases e2 : w = .isRef (.static Bundle.tN "SUPPRESSED_SENTINEL" Bundle.listD)
    · rw [e2]; exact hN
    · by_cases e3 : w = .laysStatic Bundle.tN "UNASSIGNED_STACK" Bundle.steD
      · rw [e3]; exact lU
      · by_cases e4 : w = .laysStatic Bundle.tN "SUPPRESSED_SENTINEL" Bundle.listD
        · rw [e4]; exact lN
        · exact h1 w (List.mem_filter.mpr ⟨hw, by unfold vx_no; rw [decide_eq_true e1, decide_eq_true e2, decide_eq_true e3, decide_eq_true e4]; rfl⟩)
/-- where a static field lies, its class's statics cell in H -/
def vx_L (C n d : String) (A : Nat → Prop) (U : State) (H : Heap) : Prop := ∃ (c : ClassId) (k : Class) (i : Nat) (f : Field) (a : Nat) (cell : Cell), U.vm.findClass C = some c ∧ U.fieldFound? C n d = some (c, k, i, f) ∧ f.isStatic = true ∧ k.statics = some a ∧ H[a]? = some cell ∧ cell.vm.isStatics = true ∧ cell.cls = c ∧ f.slot < cell.slots.size ∧ k.staticTypes[f.slot]? = some f.type ∧ ¬ A a
theorem vx_L.moved {C n d : String} {A : Nat → Prop} {u U : State} {H : Heap} (hvm : u.vm.Alike U.vm) (h : vx_L C n d A u H) : vx_L C n d A U H := by
  obtain ⟨c, k, i, f, a, cell, h1, h2, h3, h4, h5, h6, h7, h8, h9, h10⟩ := h
  obtain ⟨k', hi', he⟩ := State.fieldFound?_setVm hvm h2
  exact ⟨c, k', i, f, a, cell, by rw [hvm.findClass]; exact h1, hi', h3, by rw [he]; exact h4, h5, h6, h7, h8, by rw [he]; exact h9, h10⟩
theorem vx_L.kept {C n d : String} {A : Nat → Prop} {U : State} {H H1 : Heap} (h : vx_L C n d A U H) (hq : ∀ a : Nat, a < H.size → ¬ A a → H1[a]? = H[a]?) : vx_L C n d A U H1 := by
  obtain ⟨c, k, i, f, a, cell, h1, h2, h3, h4, h5, h6, h7, h8, h9, h10⟩ := h
  exact ⟨c, k, i, f, a, cell, h1, h2, h3, h4, by rw [hq a (Array.getElem?_eq_some_iff.mp h5).1 h10]; exact h5, h6, h7, h8, h9, h10⟩
theorem vx_L.narrow {C n d : String} {A B : Nat → Prop} {U : State} {H : Heap} (h : vx_L C n d A U H) (hAB : ∀ q, B q → A q) : vx_L C n d B U H := by
  obtain ⟨c, k, i, f, a, cell, h1, h2, h3, h4, h5, h6, h7, h8, h9, h10⟩ := h
  exact ⟨c, k, i, f, a, cell, h1, h2, h3, h4, h5, h6, h7, h8, h9, fun z => h10 (hAB _ z)⟩
theorem vx_L.word {C n d : String} {A : Nat → Prop} {s : State} {args : Array Value} (h : vx_L C n d A s s.heap) : (Cond.laysStatic C n d).before args s = true := by
  obtain ⟨c, k, i, f, a, cell, h1, h2, h3, h4, h5, h6, h7, h8, h9, -⟩ := h
  show (Cond.laysStatic C n d).holds args s none s [] = true
  exact Cond.laysStatic_of h1 h2 h3 h4 h5 h6 h7 h8 h9
/-- .. and what it holds: null or some reference -/
def vx_Zq (C n d : String) (A : Nat → Prop) (U : State) (H : Heap) : Prop := va_Zq C n d A U H ∧ vx_L C n d A U H
theorem vx_Zq.moved {C n d : String} {A : Nat → Prop} {u U : State} {H : Heap} (hvm : u.vm.Alike U.vm) (h : vx_Zq C n d A u H) : vx_Zq C n d A U H := ⟨va_Zq.moved hvm h.1, vx_L.moved hvm h.2⟩
theorem vx_Zq.kept {C n d : String} {A : Nat → Prop} {U : State} {H H1 : Heap} (h : vx_Zq C n d A U H) (hq : ∀ a : Nat, a < H.size → ¬ A a → H1[a]? = H[a]?) : vx_Zq C n d A U H1 := ⟨va_Zq.kept h.1 hq, vx_L.kept h.2 hq⟩
theorem vx_Zq.narrow {C n d : String} {A B : Nat → Prop} {U : State} {H : Heap} (h : vx_Zq C n d A U H) (hAB : ∀ q, B q → A q) : vx_Zq C n d B U H := ⟨va_Zq.narrow h.1 hAB, vx_L.narrow h.2 hAB⟩
theorem vx_Zqof {args : Array Value} {s : State} {C n d : String} {A : Nat → Prop} (hl : (Cond.laysStatic C n d).before args s = true) (hini : (Cond.initialized C).before args s = true) (h : (Cond.isRef (.static C n d)).before args s = true) (hA : ∀ a : Nat, a < s.heap.size → ¬ A a) : vx_Zq C n d A s s.heap := by
  refine ⟨va_Zqof hl hini h hA, ?_⟩
  obtain ⟨c, k, i, f, a, cell, h1, h2, h3, h4, h5, h6, h7, h8, h9⟩ := Cond.laysStatic_spec hl
  exact ⟨c, k, i, f, a, cell, h1, h2, h3, h4, h5, h6, h7, h8, h9, hA a (Array.getElem?_eq_some_iff.mp h5).1⟩
theorem vx_isRef {C n d : String} {v : Value} {A : Nat → Prop} {s : State} {args : Array Value} (h : va_Z C n d v A s s.heap) (hv : v.isRef = true) : (Cond.isRef (.static C n d)).before args s = true := by
  obtain ⟨cf, kf, fi, f, a, cell, h1, h2, h3, h4, h5, h6, h7, -⟩ := h
  have he : (Term.static C n d).eval args s none [] s = some v := by
    simp [Term.eval, State.fieldNamed?, h1, h2, h4, h5, h6, h7]
  simp only [Cond.before, Cond.holds, Cond.value, he]
  cases v <;> simp_all [Value.isRef]
theorem vx_isRefq {C n d : String} {A : Nat → Prop} {s : State} {args : Array Value} (h : va_Zq C n d A s s.heap) : (Cond.isRef (.static C n d)).before args s = true := by
  rcases h with h | ⟨t, h⟩
  · exact vx_isRef h rfl
  · exact vx_isRef h rfl
/-- the same frame, seen from here: as if the method were called anew in this heap -/
theorem vx_rebase {T : State} (X : Stand p l e R s m args below meth c T locs cells slots) {R' : Room} (hf : R'.frames ≤ R.frames) (hl : R'.locals ≤ R.locals) (hc : cells + R'.cells ≤ R.cells) (hs : slots + R'.slots ≤ R.slots) :
    Stand p l e R' ((T.setVm s.vm).setFrames (.invoking m args :: below)) m args below meth c T [] 0 0 := by
  have htop : (T.setVm s.vm).topJava?.isSome := X.here.top
  have hF : ((T.setVm s.vm).setFrames (.invoking m args :: below)).frames = .invoking m args :: below := State.frames_setFrames _ (State.cur_lt_of_top htop)
  obtain ⟨g₀, hg0⟩ := Option.isSome_iff_exists.mp htop
  obtain ⟨r, hr⟩ := State.topJava?_eq_some.mp hg0
  have hl9 : e.platform.stackLimits (T.setVm s.vm).me = e.platform.stackLimits s.me := X.limits
  have hb9 : (T.setVm s.vm).me.stackBytes = s.me.stackBytes := X.bytes
  refine ⟨X.admits, X.cas, X.clock, hF, ?_, X.hears, X.method, X.code, X.here, X.tail, X.warmed, ?_, ?_, ?_⟩
  · have h := X.room
    have hU : ((T.setVm s.vm).setFrames (.invoking m args :: below)).localsInUse = s.localsInUse := by
      rw [State.localsInUse_invoking hF (meth := meth) (c := c) X.method X.code, State.localsInUse_invoking X.frames X.method X.code]
    simp only [State.hasRoom, Bool.and_eq_true, decide_eq_true_eq] at h ⊢
    obtain ⟨⟨⟨⟨h1, h2, h3, h4, h5, h6⟩, h7⟩, h8⟩, h9⟩ := h
    rw [X.frames, List.length_cons] at h2 h3
    have q1 := X.heapSize
    have q2 := X.used
    simp only [hF, hU, List.length_cons, State.stackLimits_setFrames, State.stackBytes_setFrames, hl9, hb9]
    refine ⟨⟨⟨⟨by omega, by omega, by omega, by omega, by omega, h6⟩, ?_⟩, ?_⟩, X.book⟩
    · show T.heap.size + R'.cells ≤ e.platform.maxCells
      omega
    · show T.slotsUsed + R'.slots ≤ e.platform.maxSlots
      omega
  · rw [State.stackLimits_setFrames]; rfl
  · rw [State.stackBytes_setFrames]; rfl
  · refine ⟨?_, Nat.le_refl _, Nat.le_refl _, ?_, ?_, fun a c9 h9 => ⟨c9, h9, rfl, rfl, fun _ _ => rfl⟩⟩
    · obtain ⟨t, ht, -⟩ := State.frames_cons hr
      show T.setVm s.vm = { ((T.setVm s.vm).setFrames (.invoking m args :: below)).setFrames (T.setVm s.vm).frames with heap := T.heap, slotsUsed := T.slotsUsed }
      rw [State.setFrames_setFrames, State.setFrames_self ht]
      rfl
    · show T.slotsUsed = T.slotsUsed + ((T.heap.toList.drop T.heap.size).map (·.slots.size)).sum
      rw [List.drop_eq_nil_of_le (Nat.le_of_eq Array.length_toList)]
      rfl
    · show ((T.heap.toList.drop T.heap.size).map (·.slots.size)).sum ≤ 0
      rw [List.drop_eq_nil_of_le (Nat.le_of_eq Array.length_toList)]
      exact Nat.le_refl _
/-- 'throw new E()': new; dup; invokespecial; athrow -/
theorem vx_throw0 {cc : ByteArray} {pc : Nat} (hexec : p.tables.exec = Jvm.exec) (hb : c.code = cc) (hl : l.stackTraces = false) {own cls : String} {names : List String} {ik ic mc ms : Nat} {A : Nat → Prop}
    (hown : s.vm.findClass own = some m.cls) (hcls : Bundle.fit cls = true) (hnames : ∀ n ∈ names, Bundle.fit n = true)
    (hk : (Cond.classLink own ik cls).before args s = true) (hini : (Cond.initialized cls).before args s = true) (hat : ∀ w ∈ vx_at0 own ic cls names, w.before args s = true)
    (hgood : ∀ w ∈ Cond.classLink own ik cls :: Cond.initialized cls :: vx_at0 own ic cls names, vx_ot w = true)
    (hU : vx_Zq Bundle.tN "UNASSIGNED_STACK" Bundle.steD A s s.heap) (hN : vx_Zq Bundle.tN "SUPPRESSED_SENTINEL" Bundle.listD A s s.heap) (hS : va_S A s.heap H locs) (hsize : ls.size = c.maxLocals)
    (d0 : decode cc pc = .ok (.new ik, 3)) (d3 : decode cc (pc + 3) = .ok (.dup, 1)) (d4 : decode cc (pc + 4) = .ok (.invokespecial ic, 3)) (d7 : decode cc (pc + 7) = .ok (.athrow, 1))
    (hout : ∀ x ∈ c.exceptionTable.toList, covers x (pc + 7) = false)
    (hRframes : names.length + 3 < R.frames) (hRlocals : (rest.map fun v => v.category).sum + (13 * (names.length + 1) + 42) ≤ R.locals) (hRcells : cells + 1 ≤ R.cells) (hRslots : slots + 6 ≤ R.slots) (hlocks : meth.locks = false)
    (hx : ∀ t : State, s.vm.Alike t.vm → H.size ≤ t.heap.size → (∀ q : Nat, q < H.size → t.heap[q]? = H[q]?) → XC cls s t)
    (hf : ∀ z ∈ locs, free z.base) (hc : cells + 1 ≤ mc) (hs : slots + 6 ≤ ms) :
    W p l e R s m args below meth c H locs cells slots (vx_MQ below Qc XC args s mc ms free) (F0 m pc ls rest) := by
  intro T hT X
  have htr : e.platform.stackTraces = false := (show e.platform.stackTraces = l.stackTraces by rw [X.admits.platform]).trans hl
  have Y := vx_rebase X (R' := { frames := R.frames, locals := R.locals, cells := 1, slots := 6 }) (Nat.le_refl _) (Nat.le_refl _) hRcells hRslots
  obtain ⟨s', hA⟩ : ∃ z, z = (T.setVm s.vm).setFrames (.invoking m args :: below) := ⟨_, rfl⟩
  rw [← hA] at Y
  have hvm : s'.vm = s.vm := by rw [hA]; rfl
  have hhp : s'.heap = H := by rw [hA]; exact hT
  have hW0 : s.WarmedH s'.vm := by rw [hvm]; exact State.WarmedH.refl s
  have hat' : ∀ w ∈ vx_at0 own ic cls names, w.before args s' = true := fun w hw => vx_ot_at hW0 hvm.symm (hgood w (List.mem_cons_of_mem _ (List.mem_cons_of_mem _ hw))) (hat w hw)
  have hk' : (Cond.classLink own ik cls).before args s' = true := vx_ot_at hW0 hvm.symm (hgood _ List.mem_cons_self) hk
  have hini' : (Cond.initialized cls).before args s' = true := vx_ot_at hW0 hvm.symm (hgood _ (List.mem_cons_of_mem _ List.mem_cons_self)) hini
  have hU' : vx_Zq Bundle.tN "UNASSIGNED_STACK" Bundle.steD A s' s'.heap := by rw [hhp]; exact vx_Zq.moved hW0.alike (hU.kept hS.2.1)
  have hN' : vx_Zq Bundle.tN "SUPPRESSED_SENTINEL" Bundle.listD A s' s'.heap := by rw [hhp]; exact vx_Zq.moved hW0.alike (hN.kept hS.2.1)
  have h : ∀ w ∈ Bundle.ownAtoms0 own ic cls names, w.before args s' = true := vx_own hat' (vx_isRefq hU'.1) (vx_isRefq hN'.1) hU'.2.word hN'.2.word
  have hown' : s'.vm.findClass own = some m.cls := by rw [hvm]; exact hown
  have hins : (Cond.instantiable cls 6).before args s' = true := h _ (by simp [Bundle.ownAtoms0])
  obtain ⟨vm₁, cX, kX, hfX, hkX, -, -, X₁, st1⟩ := Y.newCold hexec (own := own) (C := cls) (index := ik) (n := 6) hown' hk' hins hini'
    (g := F0 m pc ls rest) rfl (by rw [hb]; exact d0) (Nat.le_refl _) (Nat.le_refl _)
  generalize hT1 : (T.setVm vm₁).pushCell { cls := cX, slots := kX.instanceTypes.map defaultValue, vm := .none } = T1 at X₁ st1
  have hcat : (Value.ref T.heap.size).category = 1 := rfl
  have hcellA : T1.heap[T.heap.size]? = some (freshCell cX kX) := by rw [← hT1]; exact State.heap_pushCell_size _ _
  have d3' : decode c.code (pc + 3) = .ok (.dup, 1) := by rw [hb]; exact d3
  obtain ⟨U, hsteps, hrun, hend, hW, hsame, ce, hce, hO⟩ := X₁.ctorThrow0 hexec htr (own := own) (cls := cls) (names := names) (ic := ic) hown' hcls hnames h (fun x hx => nomatch hx) hfX hkX hcellA (by rw [hhp, hT]; exact Nat.le_refl _)
    (g := { method := m, pc := pc + 4, locals := ls, stack := .ref T.heap.size :: .ref T.heap.size :: rest, locked := none }) rfl hsize rfl rfl (rest := rest) rfl
    (by rw [hb]; exact d4) (by rw [hb]; exact d7) hout hRframes (by simp only [List.map_cons, List.sum_cons, hcat]; omega) hlocks
  obtain ⟨f1, f2⟩ := vx_frame hsame
  rw [hhp] at f1 f2
  have hWs : s.WarmedH U.vm := State.WarmedH.trans hW0 hW
  have hcl : s.vm.findClass cls = some ce.cls := by
    have h9 := hO.cls
    rw [hvm] at h9
    exact h9
  have hall : s.sameButNew ({ U with vm := s.vm } : State) locs mc ms := by
    subst hA
    obtain ⟨e1, e2⟩ := hsame
    rw [State.setFrames_setFrames] at e1
    have h2 : (T.setVm s.vm).sameButNew ({ U with vm := s.vm } : State) [] (0 + 1) (0 + 6) := ⟨e1, e2⟩
    have h3 := X.same.trans h2
    rw [List.append_nil] at h3
    exact h3.mono hc hs
  refine ⟨U, ?_, .threw T.heap.size, hrun, hend, Or.inr ⟨T.heap.size, rfl, cls, ce, locs, hx U hWs.alike f1 (fun q hq => f2 q hq (fun z hz => nomatch hz)), hce, hO.vm, hcl, hWs, hall, hf⟩⟩
  refine st1 _ ?_
  show Steps p.tables e below (T1.setTop { method := m, pc := pc + 3, locals := ls, stack := .ref T.heap.size :: rest, locked := none }) _
  jvm_step X₁.here [X₁.here.top, hexec, d3', Value.category]
  exact hsteps
/-- 'throw new E("text")': new; dup; ldc; invokespecial; athrow -/
theorem vx_throwS {cc : ByteArray} {pc : Nat} (hexec : p.tables.exec = Jvm.exec) (hb : c.code = cc) (hl : l.stackTraces = false) {own cls text : String} {names : List String} {ik is ic mc ms sa : Nat} {A : Nat → Prop}
    (hown : s.vm.findClass own = some m.cls) (hcls : Bundle.fit cls = true) (hnames : ∀ n ∈ names, Bundle.fit n = true)
    (hk : (Cond.classLink own ik cls).before args s = true) (hini : (Cond.initialized cls).before args s = true) (hstr : vk_R own is text sa s) (hat : ∀ w ∈ vx_atS own ic cls names, w.before args s = true)
    (hgood : ∀ w ∈ Cond.classLink own ik cls :: Cond.initialized cls :: vx_atS own ic cls names, vx_ot w = true)
    (hU : vx_Zq Bundle.tN "UNASSIGNED_STACK" Bundle.steD A s s.heap) (hN : vx_Zq Bundle.tN "SUPPRESSED_SENTINEL" Bundle.listD A s s.heap) (hS : va_S A s.heap H locs) (hsize : ls.size = c.maxLocals)
    (d0 : decode cc pc = .ok (.new ik, 3)) (d3 : decode cc (pc + 3) = .ok (.dup, 1)) (d4 : decode cc (pc + 4) = .ok (.ldc is, 2)) (d6 : decode cc (pc + 6) = .ok (.invokespecial ic, 3)) (d9 : decode cc (pc + 9) = .ok (.athrow, 1))
    (hout : ∀ x ∈ c.exceptionTable.toList, covers x (pc + 9) = false)
    (hRframes : names.length + 3 < R.frames) (hRlocals : (rest.map fun v => v.category).sum + (13 * (names.length + 1) + 43) ≤ R.locals) (hRcells : cells + 1 ≤ R.cells) (hRslots : slots + 6 ≤ R.slots) (hlocks : meth.locks = false)
    (hx : ∀ t : State, s.vm.Alike t.vm → H.size ≤ t.heap.size → (∀ q : Nat, q < H.size → t.heap[q]? = H[q]?) → XC cls s t)
    (hf : ∀ z ∈ locs, free z.base) (hc : cells + 1 ≤ mc) (hs : slots + 6 ≤ ms) :
    W p l e R s m args below meth c H locs cells slots (vx_MQ below Qc XC args s mc ms free) (F0 m pc ls rest) := by
  intro T hT X
  have htr : e.platform.stackTraces = false := (show e.platform.stackTraces = l.stackTraces by rw [X.admits.platform]).trans hl
  have Y := vx_rebase X (R' := { frames := R.frames, locals := R.locals, cells := 1, slots := 6 }) (Nat.le_refl _) (Nat.le_refl _) hRcells hRslots
  obtain ⟨s', hA⟩ : ∃ z, z = (T.setVm s.vm).setFrames (.invoking m args :: below) := ⟨_, rfl⟩
  rw [← hA] at Y
  have hvm : s'.vm = s.vm := by rw [hA]; rfl
  have hhp : s'.heap = H := by rw [hA]; exact hT
  have hW0 : s.WarmedH s'.vm := by rw [hvm]; exact State.WarmedH.refl s
  have hat' : ∀ w ∈ vx_atS own ic cls names, w.before args s' = true := fun w hw => vx_ot_at hW0 hvm.symm (hgood w (List.mem_cons_of_mem _ (List.mem_cons_of_mem _ hw))) (hat w hw)
  have hk' : (Cond.classLink own ik cls).before args s' = true := vx_ot_at hW0 hvm.symm (hgood _ List.mem_cons_self) hk
  have hini' : (Cond.initialized cls).before args s' = true := vx_ot_at hW0 hvm.symm (hgood _ (List.mem_cons_of_mem _ List.mem_cons_self)) hini
  have hU' : vx_Zq Bundle.tN "UNASSIGNED_STACK" Bundle.steD A s' s'.heap := by rw [hhp]; exact vx_Zq.moved hW0.alike (hU.kept hS.2.1)
  have hN' : vx_Zq Bundle.tN "SUPPRESSED_SENTINEL" Bundle.listD A s' s'.heap := by rw [hhp]; exact vx_Zq.moved hW0.alike (hN.kept hS.2.1)
  have h : ∀ w ∈ Bundle.ownAtoms own ic cls names, w.before args s' = true := vx_own hat' (vx_isRefq hU'.1) (vx_isRefq hN'.1) hU'.2.word hN'.2.word
  have hown' : s'.vm.findClass own = some m.cls := by rw [hvm]; exact hown
  have hins : (Cond.instantiable cls 6).before args s' = true := h _ (by simp [Bundle.ownAtoms])
  obtain ⟨vm₁, cX, kX, hfX, hkX, -, -, X₁, st1⟩ := Y.newCold hexec (own := own) (C := cls) (index := ik) (n := 6) hown' hk' hins hini'
    (g := F0 m pc ls rest) rfl (by rw [hb]; exact d0) (Nat.le_refl _) (Nat.le_refl _)
  generalize hT1 : (T.setVm vm₁).pushCell { cls := cX, slots := kX.instanceTypes.map defaultValue, vm := .none } = T1 at X₁ st1
  have hcat : (Value.ref T.heap.size).category = 1 := rfl
  have hcellA : T1.heap[T.heap.size]? = some (freshCell cX kX) := by rw [← hT1]; exact State.heap_pushCell_size _ _
  have d3' : decode c.code (pc + 3) = .ok (.dup, 1) := by rw [hb]; exact d3
  have d4' : decode c.code (pc + 4) = .ok (.ldc is, 2) := by rw [hb]; exact d4
  have hstr' : vk_R own is text sa s' := vk_R.warm hW0 hstr
  obtain ⟨U, hsteps, hrun, hend, hW, hsame, ce, hce, hO⟩ := X₁.ctorThrowS hexec htr (own := own) (cls := cls) (names := names) (ic := ic) hown' hcls hnames h (fun x hx => nomatch hx) hfX hkX hcellA (by rw [hhp, hT]; exact Nat.le_refl _) (msg := .ref sa) rfl
    (g := { method := m, pc := pc + 6, locals := ls, stack := .ref sa :: .ref T.heap.size :: .ref T.heap.size :: rest, locked := none }) rfl hsize rfl rfl (rest := rest) rfl
    (by rw [hb]; exact d6) (by rw [hb]; exact d9) hout hRframes (by simp only [List.map_cons, List.sum_cons, hcat]; omega) hlocks
  obtain ⟨f1, f2⟩ := vx_frame hsame
  rw [hhp] at f1 f2
  have hWs : s.WarmedH U.vm := State.WarmedH.trans hW0 hW
  have hcl : s.vm.findClass cls = some ce.cls := by
    have h9 := hO.cls
    rw [hvm] at h9
    exact h9
  have hall : s.sameButNew ({ U with vm := s.vm } : State) locs mc ms := by
    subst hA
    obtain ⟨e1, e2⟩ := hsame
    rw [State.setFrames_setFrames] at e1
    have h2 : (T.setVm s.vm).sameButNew ({ U with vm := s.vm } : State) [] (0 + 1) (0 + 6) := ⟨e1, e2⟩
    have h3 := X.same.trans h2
    rw [List.append_nil] at h3
    exact h3.mono hc hs
  refine ⟨U, ?_, .threw T.heap.size, hrun, hend, Or.inr ⟨T.heap.size, rfl, cls, ce, locs, hx U hWs.alike f1 (fun q hq => f2 q hq (fun z hz => nomatch hz)), hce, hO.vm, hcl, hWs, hall, hf⟩⟩
  refine st1 _ ?_
  show Steps p.tables e below (T1.setTop { method := m, pc := pc + 3, locals := ls, stack := .ref T.heap.size :: rest, locked := none }) _
  jvm_step X₁.here [X₁.here.top, hexec, d3', Value.category]
  exact X₁.ldcString hexec (own := own) (text := text) (index := is) (a := sa) hown' hstr'.1 hstr'.2
    (g := { method := m, pc := pc + 4, locals := ls, stack := .ref T.heap.size :: .ref T.heap.size :: rest, locked := none }) rfl d4' _ hsteps
/-- 'throw new E("text")', the text by a wide index -/
theorem vx_throwSW {cc : ByteArray} {pc : Nat} (hexec : p.tables.exec = Jvm.exec) (hb : c.code = cc) (hl : l.stackTraces = false) {own cls text : String} {names : List String} {ik is ic mc ms sa : Nat} {A : Nat → Prop}
    (hown : s.vm.findClass own = some m.cls) (hcls : Bundle.fit cls = true) (hnames : ∀ n ∈ names, Bundle.fit n = true)
    (hk : (Cond.classLink own ik cls).before args s = true) (hini : (Cond.initialized cls).before args s = true) (hstr : vk_R own is text sa s) (hat : ∀ w ∈ vx_atS own ic cls names, w.before args s = true)
    (hgood : ∀ w ∈ Cond.classLink own ik cls :: Cond.initialized cls :: vx_atS own ic cls names, vx_ot w = true)
    (hU : vx_Zq Bundle.tN "UNASSIGNED_STACK" Bundle.steD A s s.heap) (hN : vx_Zq Bundle.tN "SUPPRESSED_SENTINEL" Bundle.listD A s s.heap) (hS : va_S A s.heap H locs) (hsize : ls.size = c.maxLocals)
    (d0 : decode cc pc = .ok (.new ik, 3)) (d3 : decode cc (pc + 3) = .ok (.dup, 1)) (d4 : decode cc (pc + 4) = .ok (.ldc_w is, 3)) (d7 : decode cc (pc + 7) = .ok (.invokespecial ic, 3)) (d10 : decode cc (pc + 10) = .ok (.athrow, 1))
    (hout : ∀ x ∈ c.exceptionTable.toList, covers x (pc + 10) = false)
    (hRframes : names.length + 3 < R.frames) (hRlocals : (rest.map fun v => v.category).sum + (13 * (names.length + 1) + 43) ≤ R.locals) (hRcells : cells + 1 ≤ R.cells) (hRslots : slots + 6 ≤ R.slots) (hlocks : meth.locks = false)
    (hx : ∀ t : State, s.vm.Alike t.vm → H.size ≤ t.heap.size → (∀ q : Nat, q < H.size → t.heap[q]? = H[q]?) → XC cls s t)
    (hf : ∀ z ∈ locs, free z.base) (hc : cells + 1 ≤ mc) (hs : slots + 6 ≤ ms) :
    W p l e R s m args below meth c H locs cells slots (vx_MQ below Qc XC args s mc ms free) (F0 m pc ls rest) := by
  intro T hT X
  have htr : e.platform.stackTraces = false := (show e.platform.stackTraces = l.stackTraces by rw [X.admits.platform]).trans hl
  have Y := vx_rebase X (R' := { frames := R.frames, locals := R.locals, cells := 1, slots := 6 }) (Nat.le_refl _) (Nat.le_refl _) hRcells hRslots
  obtain ⟨s', hA⟩ : ∃ z, z = (T.setVm s.vm).setFrames (.invoking m args :: below) := ⟨_, rfl⟩
  rw [← hA] at Y
  have hvm : s'.vm = s.vm := by rw [hA]; rfl
  have hhp : s'.heap = H := by rw [hA]; exact hT
  have hW0 : s.WarmedH s'.vm := by rw [hvm]; exact State.WarmedH.refl s
  have hat' : ∀ w ∈ vx_atS own ic cls names, w.before args s' = true := fun w hw => vx_ot_at hW0 hvm.symm (hgood w (List.mem_cons_of_mem _ (List.mem_cons_of_mem _ hw))) (hat w hw)
  have hk' : (Cond.classLink own ik cls).before args s' = true := vx_ot_at hW0 hvm.symm (hgood _ List.mem_cons_self) hk
  have hini' : (Cond.initialized cls).before args s' = true := vx_ot_at hW0 hvm.symm (hgood _ (List.mem_cons_of_mem _ List.mem_cons_self)) hini
  have hU' : vx_Zq Bundle.tN "UNASSIGNED_STACK" Bundle.steD A s' s'.heap := by rw [hhp]; exact vx_Zq.moved hW0.alike (hU.kept hS.2.1)
  have hN' : vx_Zq Bundle.tN "SUPPRESSED_SENTINEL" Bundle.listD A s' s'.heap := by rw [hhp]; exact vx_Zq.moved hW0.alike (hN.kept hS.2.1)
  have h : ∀ w ∈ Bundle.ownAtoms own ic cls names, w.before args s' = true := vx_own hat' (vx_isRefq hU'.1) (vx_isRefq hN'.1) hU'.2.word hN'.2.word
  have hown' : s'.vm.findClass own = some m.cls := by rw [hvm]; exact hown
  have hins : (Cond.instantiable cls 6).before args s' = true := h _ (by simp [Bundle.ownAtoms])
  obtain ⟨vm₁, cX, kX, hfX, hkX, -, -, X₁, st1⟩ := Y.newCold hexec (own := own) (C := cls) (index := ik) (n := 6) hown' hk' hins hini'
    (g := F0 m pc ls rest) rfl (by rw [hb]; exact d0) (Nat.le_refl _) (Nat.le_refl _)
  generalize hT1 : (T.setVm vm₁).pushCell { cls := cX, slots := kX.instanceTypes.map defaultValue, vm := .none } = T1 at X₁ st1
  have hcat : (Value.ref T.heap.size).category = 1 := rfl
  have hcellA : T1.heap[T.heap.size]? = some (freshCell cX kX) := by rw [← hT1]; exact State.heap_pushCell_size _ _
  have d3' : decode c.code (pc + 3) = .ok (.dup, 1) := by rw [hb]; exact d3
  have d4' : decode c.code (pc + 4) = .ok (.ldc_w is, 3) := by rw [hb]; exact d4
  have hstr' : vk_R own is text sa s' := vk_R.warm hW0 hstr
  obtain ⟨U, hsteps, hrun, hend, hW, hsame, ce, hce, hO⟩ := X₁.ctorThrowS hexec htr (own := own) (cls := cls) (names := names) (ic := ic) hown' hcls hnames h (fun x hx => nomatch hx) hfX hkX hcellA (by rw [hhp, hT]; exact Nat.le_refl _) (msg := .ref sa) rfl
    (g := { method := m, pc := pc + 7, locals := ls, stack := .ref sa :: .ref T.heap.size :: .ref T.heap.size :: rest, locked := none }) rfl hsize rfl rfl (rest := rest) rfl
    (by rw [hb]; exact d7) (by rw [hb]; exact d10) hout hRframes (by simp only [List.map_cons, List.sum_cons, hcat]; omega) hlocks
  obtain ⟨f1, f2⟩ := vx_frame hsame
  rw [hhp] at f1 f2
  have hWs : s.WarmedH U.vm := State.WarmedH.trans hW0 hW
  have hcl : s.vm.findClass cls = some ce.cls := by
    have h9 := hO.cls
    rw [hvm] at h9
    exact h9
  have hall : s.sameButNew ({ U with vm := s.vm } : State) locs mc ms := by
    subst hA
    obtain ⟨e1, e2⟩ := hsame
    rw [State.setFrames_setFrames] at e1
    have h2 : (T.setVm s.vm).sameButNew ({ U with vm := s.vm } : State) [] (0 + 1) (0 + 6) := ⟨e1, e2⟩
    have h3 := X.same.trans h2
    rw [List.append_nil] at h3
    exact h3.mono hc hs
  refine ⟨U, ?_, .threw T.heap.size, hrun, hend, Or.inr ⟨T.heap.size, rfl, cls, ce, locs, hx U hWs.alike f1 (fun q hq => f2 q hq (fun z hz => nomatch hz)), hce, hO.vm, hcl, hWs, hall, hf⟩⟩
  refine st1 _ ?_
  show Steps p.tables e below (T1.setTop { method := m, pc := pc + 3, locals := ls, stack := .ref T.heap.size :: rest, locked := none }) _
  jvm_step X₁.here [X₁.here.top, hexec, d3', Value.category]
  exact X₁.ldcStringW hexec (own := own) (text := text) (index := is) (a := sa) hown' hstr'.1 hstr'.2
    (g := { method := m, pc := pc + 4, locals := ls, stack := .ref T.heap.size :: .ref T.heap.size :: rest, locked := none }) rfl d4' _ hsteps
end Ends
section Bodies
variable {l : Launch}
theorem vx_ofW {y : MethodName} {ws ws' : List Cond} {rm : Room} {Pc : Array Value → State → Prop} {Qc : Array Value → State → Outcome → State → Prop} {XC : String → State → State → Prop} {mc ms : Nat} {free : Addr → Prop} {cc : ByteArray} {maxL : Nat} {ret : Option FieldType}
    (hy : plainName y.cls = true) (hw : ws = Cond.code y cc maxL ret :: ws')
    (body : ∀ p e s m args below meth c s₁, BodyLoose p l y (headSpec ws rm) cc maxL ret e s m args below meth c s₁ → c.maxLocals = maxL → (∀ x ∈ c.exceptionTable.toList, False) → Pc args s →
      W p l e (headSpec ws rm).room s m args below meth c s.heap [] 0 0 (vx_MQ below Qc XC args s mc ms free) (entryFrame m args maxL)) : vx_Met l y ws rm Pc Qc XC mc ms free := by
  refine MetFree.of_bodyS (code := cc) (maxLocals := maxL) (ret := ret) hy ?_ ?_
  · intro args s m h hn
    obtain ⟨meth, c, h1, h2, h3, h4, h5, h6, -, -⟩ := Cond.code_spec hn (atoms_spec (ws := ws) h _ (by rw [hw]; exact List.mem_cons_self))
    exact ⟨meth, c, h1, h2, h3, h4, h5, h6⟩
  · intro p e s m args below meth c s₁ B hml hP _
    have hh0 : s₁.heap = s.heap := by rw [B.state]; rfl
    have ht : ∀ x ∈ c.exceptionTable.toList, False := by
      obtain ⟨meth9, c9, h1, h2, -, -, -, -, h7, -⟩ := Cond.code_spec B.named (atoms_spec (ws := ws) B.pre _ (by rw [hw]; exact List.mem_cons_self))
      cases Option.some.inj (h1.symm.trans B.method)
      cases Option.some.inj (h2.symm.trans (Stand.of_body B).code)
      intro x hx
      rw [Array.isEmpty_iff.mp h7] at hx
      cases hx
    obtain ⟨t, a1, o, b1, b2, b3⟩ := body p e s m args below meth c s₁ B hml ht hP s₁ hh0 (Stand.of_body B)
    exact ⟨t, o, a1, b1, b2, b3⟩
/-- the table of a body with handlers -/
theorem vx_table {p : Program} {x y : MethodName} {S : Spec} {cc bytes : ByteArray} {maxL maxL' : Nat} {ret ret' : Option FieldType} {e : Env} {s s₁ : State} {m : MethodId} {args : Array Value} {below : List Frame} {meth : Method} {c : Code} {hh : List (Nat × Nat × Nat × Nat)}
    (B : BodyLoose p l y S cc maxL ret e s m args below meth c s₁) (h : (Cond.codeWith y bytes maxL' ret' hh).before args s = true) : c.exceptionTable.toList = tableOf hh := by
  obtain ⟨m9, meth9, c9, hn9, h1, h2, -, -, h6, -⟩ := Cond.codeWith_spec h
  cases Option.some.inj (hn9.symm.trans B.named)
  cases Option.some.inj (h1.symm.trans B.method)
  cases Option.some.inj (h2.symm.trans (Stand.of_body B).code)
  rw [← h6, table_eq]
end Bodies
end VXA
/-! ===== END ===== -/
/-! ===== BEGIN a static call of a method with an exception table ===== -/
section VXS
variable {p : Program} {l : Launch} {e : Env} {R : Room} {s : State} {m : MethodId} {args : Array Value} {below : List Frame} {meth : Method} {c : Code} {T : State} {H : Heap} {locs : List Loc} {cells slots : Nat}
abbrev vx_CSW (R : Room) (s : State) (args : Array Value) (own : String) (index : Nat) (y : MethodName) (bytes : ByteArray) (maxL : Nat) (ret : Option FieldType) (hh : List (Nat × Nat × Nat × Nat)) (ws : List Cond) (rm : Room) (mc ms n : Nat) : Prop :=
  (rm.cells = mc ∧ rm.slots = ms ∧ rm.frames + 1 ≤ R.frames ∧ 8 + (maxL + 11) + rm.locals ≤ R.locals ∧ (∀ w ∈ ws, ∀ (a' : Array Value) (U : State), s.WarmedH U.vm → w.before a' U = true) ∧ Cond.codeWith y bytes maxL ret hh ∈ ws) ∧
  (Cond.codeWith y bytes maxL ret hh).before args s = true ∧ (Cond.initialized y.cls).before args s = true ∧ (y.cls ≠ "java/lang/invoke/MethodHandle" ∧ y.cls ≠ "java/lang/invoke/VarHandle") ∧
  (∀ sig, parseMethodDescriptor y.desc = some sig → n = sig.parameters.length) ∧ (Cond.methodLink own index y).before args s = true ∧ (Cond.static y).before args s = true
theorem vx_cwSW {own : String} {index maxL mc ms : Nat} {y : MethodName} {bytes : ByteArray} {ret : Option FieldType} {hh : List (Nat × Nat × Nat × Nat)} {Ts ws ws' : List Cond} {rm : Room} (n : Nat) (ht : ∀ w ∈ Ts, w.before args s = true) (hT : GoodIn Ts (va_wsS own index y ws)) (hw : ws = Cond.codeWith y bytes maxL ret hh :: ws') (hrc : rm.cells = mc) (hrs : rm.slots = ms)
    (hd : y.cls ≠ "java/lang/invoke/MethodHandle" ∧ y.cls ≠ "java/lang/invoke/VarHandle" ∧ (parseMethodDescriptor y.desc).map (fun d => d.parameters.length) = some n) (hR : rm.frames + 1 ≤ R.frames ∧ 8 + (maxL + 11) + rm.locals ≤ R.locals) :
    vx_CSW R s args own index y bytes maxL ret hh ws rm mc ms n := by
  have ok : ∀ w ∈ va_wsS own index y ws, w.before args s = true := fun w h => ht w (hT w h).1
  have hG : GoodIn Ts ws := fun w h => hT w (by unfold va_wsS; exact List.mem_append_right _ h)
  have hc : Cond.codeWith y bytes maxL ret hh ∈ ws := by rw [hw]; exact List.mem_cons_self
  refine ⟨⟨hrc, hrs, hR.1, hR.2, pay_in ht hG, hc⟩, ht _ (hG _ hc).1, ok _ (by simp [va_wsS]), ⟨hd.1, hd.2.1⟩, fun sig h => ?_, ok _ (by simp [va_wsS]), ok _ (by simp [va_wsS])⟩
  have h2 := hd.2.2
  rw [h] at h2
  exact (Option.some.inj h2).symm
theorem vx_callSW (X : Stand p l e R s m args below meth c T locs cells slots) (hexec : p.tables.exec = Jvm.exec) {own : String} {index : Nat} {y : MethodName} {bytes : ByteArray} {maxL : Nat} {ret : Option FieldType} {hh : List (Nat × Nat × Nat × Nat)}
    (hown : s.vm.findClass own = some m.cls) (hlink : (Cond.methodLink own index y).before args s = true) (hstat : (Cond.static y).before args s = true) (hinit : (Cond.initialized y.cls).before args s = true)
    (hcode : (Cond.codeWith y bytes maxL ret hh).before args s = true) (hy : y.cls ≠ "java/lang/invoke/MethodHandle" ∧ y.cls ≠ "java/lang/invoke/VarHandle")
    {W9 : Nat} {Pre : Pt → Array Value → Prop} {Post : Pt → Array Value → Option Value → Pt → Prop} (hK : Back l R p e below s args y 3 W9 Pre Post)
    {g : JFrame} (hg : g.method = m) (hsize : g.locals.size = c.maxLocals) {argsL rest : List Value} (hlen : ∀ sig, parseMethodDescriptor y.desc = some sig → argsL.length = sig.parameters.length)
    (hstack : g.stack = argsL.reverse ++ rest) (hW : 2 * g.monitorRoom + (rest.map fun v => v.category).sum ≤ W9) (hdg : decode c.code g.pc = .ok (.invokestatic index, 3))
    (hpre : ∀ vm₁, s.WarmedH vm₁ → Pre ⟨T.setVm vm₁, locs, cells, slots⟩ argsL.toArray) :
    ∃ (v : Option Value) (vm₁ : Vm) (B : Pt), s.WarmedH vm₁ ∧ Stand p l e R s m args below meth c B.U B.locs B.cells B.slots ∧ Post ⟨T.setVm vm₁, locs, cells, slots⟩ argsL.toArray v B ∧
      ∀ target, Steps p.tables e below (B.U.setTop { g with pc := g.pc + 3, stack := v.toList ++ rest }) target → Steps p.tables e below (T.setTop g) target := by
  obtain ⟨mk, methM, cM, hnamed, hmethM, -, -, -, -, -, -, hsigM⟩ := Cond.codeWith_spec hcode
  have hstatic : methM.isStatic = true := Cond.static_spec hnamed hmethM hstat
  obtain ⟨kP, hkP, -⟩ := className_of_methodNamed hnamed
  have hinitP : kP.init = .initialized := Cond.initialized_spec (findClass_of_methodNamed hnamed) hkP hinit
  obtain ⟨vm₁, X₁, hstep₁⟩ := X.invokestatic hexec hown hlink hnamed hmethM hstatic hkP hinitP hy (g := g) hg (argsL := argsL) (rest := rest) (hlen _ hsigM) hstack hdg
  obtain ⟨v, B, X', hpost, hsteps⟩ := hK m meth c ⟨T.setVm vm₁, locs, cells, slots⟩ { g with stack := rest } (.invokestatic index) mk argsL.toArray X₁ hg hsize hdg hW (X₁.named hnamed) (hpre vm₁ X₁.warmed)
  exact ⟨v, vm₁, B, X₁.warmed, X', hpost, fun target h => hstep₁ _ fun acts => by rw [doInvoke_state]; exact hsteps.trans h⟩
theorem vx_runSW {y : MethodName} {bytes cc : ByteArray} {maxL nL mc ms n index : Nat} {ret : Option FieldType} {hh : List (Nat × Nat × Nat × Nat)} {ws : List Cond} {rm : Room} {Pc : Array Value → State → Prop} {Qc : Array Value → State → Outcome → State → Prop} {free : Addr → Prop} {Ts : List Cond} {own : String} {As rest : List Value} {g : JFrame}
    (S : CallFix p m c cc nL s args Ts own) (hM : Met l y ws rm Pc Qc mc ms free) (cw : vx_CSW R s args own index y bytes maxL ret hh ws rm mc ms n) (hp : PreS s H Pc As)
    (hg : g.method = m) (hn : As.length = n) (hsize : g.locals.size = nL) (hstack : g.stack = As.reverse ++ rest) (hW : 2 * g.monitorRoom + (rest.map fun v => v.category).sum ≤ 8) (hdg : decode cc g.pc = .ok (.invokestatic index, 3)) (hf : cells + mc ≤ R.cells ∧ slots + ms ≤ R.slots) :
    va_Run p l e R s m args below meth c H locs cells slots mc ms g rest (Qc As.toArray) (free) := by
  obtain ⟨⟨hrc, hrs, hfr, hlo, hws, hcw⟩, hcode, hini, hy, hlen, hl, hstt⟩ := cw
  have hK : Back l R p e below s args y 3 8 (PreOf R mc ms Pc) (PostOf Qc mc ms free) := va_backW (hh := hh) (bytes := bytes) (maxL := maxL) (ret := ret) hM hp.1 hrc hrs hfr hlo hws hcw (fun a' U hW => word_at hW (Or.inl (by first | rfl | simp [Cond.onTables, Cond.keeps, Cond.steady])) hini)
  obtain ⟨hx, hb, hml, ho, -⟩ := S
  intro T hT X
  obtain ⟨v, vm₁, ⟨U', l2, c2, s2⟩, hW₁, X', ⟨g', mk, t, L, e1, e2, hq, h1, hL, h2, h3⟩, st⟩ := vx_callSW X hx (hh := hh) (bytes := bytes) (maxL := maxL) (ret := ret) ho hl hstt hini hcode hy hK hg (hsize.trans hml.symm) (argsL := As) (rest := rest) (fun sig h => hn.trans (hlen sig h)) hstack hW (by rw [hb]; exact hdg)
    (fun vm₁ hW₁ => ⟨hf.1, hf.2, hp.2 (T.setVm vm₁) hT hW₁⟩)
  dsimp only [Pt.U, Pt.locs, Pt.cells, Pt.slots] at X' e1 e2 h1 h2 h3 st
  subst h1; subst h2; subst h3
  exact ⟨v, (T.setVm vm₁).calling g' mk As.toArray, t, U', L, hT, X', hL, e1, e2, hq, st⟩
/-- not caught here, past rows that name other classes: it goes on to the caller -/
theorem vx_outP {p : Program} {l : Launch} {e : Env} {R : Room} {s : State} {m : MethodId} {args : Array Value} {below : List Frame} {meth : Method} {c : Code} {H : Heap} {locs : List Loc} {cells slots : Nat} {free : Addr → Prop} {ls : Array Slot} {rest : List Value} {Qc : Array Value → State → Outcome → State → Prop} {XC : String → State → State → Prop}
    {pc : Nat} {own E : String} {ce : Cell} {q : Addr} {mc ms : Nat} (hown : s.vm.findClass own = some m.cls) (hlocks : meth.locks = false)
    (hpass : ∀ z ∈ c.exceptionTable.toList, covers z pc = false ∨ (z.catchType ≠ 0 ∧ ∃ nm : String, (Cond.classLink own z.catchType nm).before args s = true ∧ va_Nc E nm s)) (hcell : H[q]? = some ce) (hv : ce.vm = .none) (hcl : s.vm.findClass E = some ce.cls)
    (hx : ∀ t : State, t.heap = H → s.vm.Alike t.vm → XC E s t) (hf : ∀ z ∈ locs, free z.base) (hc : cells ≤ mc) (hs : slots ≤ ms) :
    vx_W p l e R s m args below meth c H locs cells slots (vx_MQ below Qc XC args s mc ms free) (F0 m pc ls rest) q := by
  intro T hT X
  have hpl : e.platform.magicAccessors = ({} : Platform).magicAccessors := by rw [X.admits.platform]
  obtain ⟨vm', hW', X', st⟩ := X.outThrough hlocks q (g := F0 m pc ls rest) rfl rfl rfl (cell := ce) (by rw [hT]; exact hcell) (by rw [hv]; rfl)
    (by obtain ⟨k9, h9, -⟩ := Vm.findClass_spec hcl; exact ⟨k9, h9⟩) (fun z hz => by
      rcases hpass z hz with h | ⟨hz0, nm, hl1, hn1⟩
      · exact Or.inl h
      · obtain ⟨c6, hc6, hcl6⟩ := Cond.classLink_spec hown hl1 e.platform hpl
        obtain ⟨a8, b8, h1, h2, h3⟩ := hn1
        cases Option.some.inj (h1.symm.trans hcl)
        cases Option.some.inj (h2.symm.trans hc6)
        exact Or.inr ⟨hz0, _, hcl6, h3⟩)
  obtain ⟨g₀, hfr⟩ := X'.frames_eq
  have hcell9 : ((T.setVm vm').setFrames (.throwing q :: below)).heap[q]? = some ce := by
    show T.heap[q]? = some ce
    rw [hT]; exact hcell
  have hend : Ended ((T.setVm vm').setFrames (.throwing q :: below)) below (.threw q) := State.frames_setFrames _ (State.cur_lt_of_frames hfr)
  refine ⟨(T.setVm vm').setFrames (.throwing q :: below), ?_, .threw q, X'.here.running, hend, Or.inr ⟨q, rfl, E, ce, locs, hx _ hT (X'.ends _).1.alike, hcell9, hv, hcl, (X'.ends _).1, (X'.ends _).2.mono hc hs, hf⟩⟩
  rw [X.pushThrowing_eq]
  exact st
/-- a thing of a world lies in the heap -/
theorem vx_lt {D : va_G} {cl : List vw_C} {ws : va_W} {H1 : Heap} (h : va_P D cl ws H1) {k : Nat} {q : Nat × va_E} (hk : ws[k]? = some q) : q.1 < H1.size := (h k q hk).lt
end VXS
/-! ===== END ===== -/
/-! WHAT IS THROWN: of(), row() of the class, and the law's own two that catch it -/
def NSE : String := "java/util/NoSuchElementException"
/-- the words that a throw stands on -/
def XWs : List Cond := Cond.castable NSE NSE :: vx_at0 RX11 176 NSE ["java/lang/RuntimeException", "java/lang/Exception"]
theorem xt1 {w : Cond} (h : w ∈ tables_1_1) : w ∈ lw_tbl := show w ∈ k2_sels lw_privs ++ tables_1 from List.mem_append_right _ (mt1 h)
theorem xt5 {w : Cond} (h : w ∈ tables_1_5) : w ∈ lw_tbl := show w ∈ k2_sels lw_privs ++ tables_1 from List.mem_append_right _ (mt5 h)
theorem xm_c : Cond.castable NSE NSE ∈ lw_tbl := xt5 (mq_mem (n := 132) rfl)
theorem xm_0 : Cond.initialized "java/lang/Throwable" ∈ lw_tbl := xt1 (mq_mem (n := 16) rfl)
theorem xm_1 : Cond.superclass "java/lang/Throwable" "java/lang/Object" ∈ lw_tbl := xt5 (mq_mem (n := 152) rfl)
theorem xm_2 : Cond.instanceMethod (⟨"java/lang/Throwable", "fillInStackTrace", "()Ljava/lang/Throwable;"⟩ : MethodName) ∈ lw_tbl := xt5 (mq_mem (n := 161) rfl)
theorem xm_3 : Cond.codeSync (⟨"java/lang/Throwable", "fillInStackTrace", "()Ljava/lang/Throwable;"⟩ : MethodName) LibCode.Throwable.Fill.code 1 (some (.object Bundle.tN)) ∈ lw_tbl := xt5 (mq_mem (n := 163) rfl)
theorem xm_4 : Cond.instanceMethod (⟨"java/lang/Throwable", "fillInStackTrace", "(I)Ljava/lang/Throwable;"⟩ : MethodName) ∈ lw_tbl := xt5 (mq_mem (n := 166) rfl)
theorem xm_5 : Cond.native (⟨"java/lang/Throwable", "fillInStackTrace", "(I)Ljava/lang/Throwable;"⟩ : MethodName) ∈ lw_tbl := xt5 (mq_mem (n := 168) rfl)
theorem xm_6 : Cond.instanceMethod (⟨"java/lang/Throwable", "<init>", "()V"⟩ : MethodName) ∈ lw_tbl := xt5 (mq_mem (n := 153) rfl)
theorem xm_7 : Cond.code (⟨"java/lang/Throwable", "<init>", "()V"⟩ : MethodName) LibCode.Throwable.Init0.code 1 none ∈ lw_tbl := xt5 (mq_mem (n := 154) rfl)
theorem xm_8 : Cond.instanceMethod (⟨"java/lang/Object", "<init>", "()V"⟩ : MethodName) ∈ lw_tbl := xt1 (mq_mem (n := 27) rfl)
theorem xm_9 : Cond.code (⟨"java/lang/Object", "<init>", "()V"⟩ : MethodName) ⟨#[0xb1]⟩ 1 none ∈ lw_tbl := xt1 (mq_mem (n := 28) rfl)
theorem xm_10 : Cond.methodLink "java/lang/Throwable" 1 (⟨"java/lang/Object", "<init>", "()V"⟩ : MethodName) ∈ lw_tbl := xt5 (mq_mem (n := 155) rfl)
theorem xm_11 : Cond.methodLink "java/lang/Throwable" 27 (⟨"java/lang/Throwable", "fillInStackTrace", "()Ljava/lang/Throwable;"⟩ : MethodName) ∈ lw_tbl := xt5 (mq_mem (n := 160) rfl)
theorem xm_12 : Cond.methodLink "java/lang/Throwable" 202 (⟨"java/lang/Throwable", "fillInStackTrace", "(I)Ljava/lang/Throwable;"⟩ : MethodName) ∈ lw_tbl := xt5 (mq_mem (n := 164) rfl)
theorem xm_13 : Cond.fieldLink "java/lang/Throwable" 7 "java/lang/Throwable" "cause" "Ljava/lang/Throwable;" ∈ lw_tbl := xt5 (mq_mem (n := 180) rfl)
theorem xm_14 : Cond.lays "java/lang/Throwable" "java/lang/Throwable" "cause" "Ljava/lang/Throwable;" ∈ lw_tbl := xt5 (mq_mem (n := 142) rfl)
theorem xm_15 : Cond.fieldLink "java/lang/Throwable" 17 "java/lang/Throwable" "stackTrace" "[Ljava/lang/StackTraceElement;" ∈ lw_tbl := xt5 (mq_mem (n := 181) rfl)
theorem xm_16 : Cond.lays "java/lang/Throwable" "java/lang/Throwable" "stackTrace" "[Ljava/lang/StackTraceElement;" ∈ lw_tbl := xt5 (mq_mem (n := 144) rfl)
theorem xm_17 : Cond.fieldLink "java/lang/Throwable" 24 "java/lang/Throwable" "suppressedExceptions" "Ljava/util/List;" ∈ lw_tbl := xt5 (mq_mem (n := 182) rfl)
theorem xm_18 : Cond.lays "java/lang/Throwable" "java/lang/Throwable" "suppressedExceptions" "Ljava/util/List;" ∈ lw_tbl := xt5 (mq_mem (n := 146) rfl)
theorem xm_19 : Cond.fieldLink "java/lang/Throwable" 13 "java/lang/Throwable" "UNASSIGNED_STACK" "[Ljava/lang/StackTraceElement;" ∈ lw_tbl := xt5 (mq_mem (n := 156) rfl)
theorem xm_20 : Cond.laysStatic "java/lang/Throwable" "UNASSIGNED_STACK" "[Ljava/lang/StackTraceElement;" ∈ lw_tbl := xt5 (mq_mem (n := 157) rfl)
theorem xm_21 : Cond.fieldLink "java/lang/Throwable" 20 "java/lang/Throwable" "SUPPRESSED_SENTINEL" "Ljava/util/List;" ∈ lw_tbl := xt5 (mq_mem (n := 158) rfl)
theorem xm_22 : Cond.laysStatic "java/lang/Throwable" "SUPPRESSED_SENTINEL" "Ljava/util/List;" ∈ lw_tbl := xt5 (mq_mem (n := 159) rfl)
theorem xm_23 : Cond.lays "java/lang/Throwable" "java/lang/Throwable" "detailMessage" "Ljava/lang/String;" ∈ lw_tbl := xt5 (mq_mem (n := 148) rfl)
theorem xm_24 : Cond.instanceMethod (⟨"java/util/NoSuchElementException", "<init>", "()V"⟩ : MethodName) ∈ lw_tbl := xt5 (mq_mem (n := 170) rfl)
theorem xm_25 : Cond.code (⟨"java/util/NoSuchElementException", "<init>", "()V"⟩ : MethodName) Bundle.five 1 none ∈ lw_tbl := xt5 (mq_mem (n := 171) rfl)
theorem xm_26 : Cond.methodLink "java/util/NoSuchElementException" 1 (⟨"java/lang/RuntimeException", "<init>", "()V"⟩ : MethodName) ∈ lw_tbl := xt5 (mq_mem (n := 172) rfl)
theorem xm_27 : Cond.instanceMethod (⟨"java/lang/RuntimeException", "<init>", "()V"⟩ : MethodName) ∈ lw_tbl := xt5 (mq_mem (n := 173) rfl)
theorem xm_28 : Cond.declares (⟨"java/lang/RuntimeException", "<init>", "()V"⟩ : MethodName) ∈ lw_tbl := xt5 (mq_mem (n := 133) rfl)
theorem xm_29 : Cond.instanceMethod (⟨"java/lang/RuntimeException", "<init>", "()V"⟩ : MethodName) ∈ lw_tbl := xt5 (mq_mem (n := 173) rfl)
theorem xm_30 : Cond.code (⟨"java/lang/RuntimeException", "<init>", "()V"⟩ : MethodName) Bundle.five 1 none ∈ lw_tbl := xt5 (mq_mem (n := 174) rfl)
theorem xm_31 : Cond.methodLink "java/lang/RuntimeException" 1 (⟨"java/lang/Exception", "<init>", "()V"⟩ : MethodName) ∈ lw_tbl := xt5 (mq_mem (n := 175) rfl)
theorem xm_32 : Cond.instanceMethod (⟨"java/lang/Exception", "<init>", "()V"⟩ : MethodName) ∈ lw_tbl := xt5 (mq_mem (n := 176) rfl)
theorem xm_33 : Cond.declares (⟨"java/lang/Exception", "<init>", "()V"⟩ : MethodName) ∈ lw_tbl := xt5 (mq_mem (n := 135) rfl)
theorem xm_34 : Cond.instanceMethod (⟨"java/lang/Exception", "<init>", "()V"⟩ : MethodName) ∈ lw_tbl := xt5 (mq_mem (n := 176) rfl)
theorem xm_35 : Cond.code (⟨"java/lang/Exception", "<init>", "()V"⟩ : MethodName) Bundle.five 1 none ∈ lw_tbl := xt5 (mq_mem (n := 177) rfl)
theorem xm_36 : Cond.methodLink "java/lang/Exception" 1 (⟨"java/lang/Throwable", "<init>", "()V"⟩ : MethodName) ∈ lw_tbl := xt5 (mq_mem (n := 178) rfl)
theorem xm_37 : Cond.instanceMethod (⟨"java/lang/Throwable", "<init>", "()V"⟩ : MethodName) ∈ lw_tbl := xt5 (mq_mem (n := 153) rfl)
theorem xm_38 : Cond.declares (⟨"java/lang/Throwable", "<init>", "()V"⟩ : MethodName) ∈ lw_tbl := xt5 (mq_mem (n := 137) rfl)
theorem xm_39 : Cond.methodLink "WinnerTeaches" 176 (⟨"java/util/NoSuchElementException", "<init>", "()V"⟩ : MethodName) ∈ lw_tbl := xt5 (mq_mem (n := 169) rfl)
theorem xm_40 : Cond.instantiable "java/util/NoSuchElementException" 6 ∈ lw_tbl := xt5 (mq_mem (n := 131) rfl)
theorem xm_41 : Cond.castable "java/util/NoSuchElementException" "java/util/NoSuchElementException" ∈ lw_tbl := xt5 (mq_mem (n := 132) rfl)
theorem xm_42 : Cond.selects "java/util/NoSuchElementException" (⟨"java/lang/Throwable", "fillInStackTrace", "(I)Ljava/lang/Throwable;"⟩ : MethodName) (⟨"java/lang/Throwable", "fillInStackTrace", "(I)Ljava/lang/Throwable;"⟩ : MethodName) ∈ lw_tbl := xt5 (mq_mem (n := 139) rfl)
theorem xm_43 : Cond.selects "java/util/NoSuchElementException" (⟨"java/lang/Throwable", "fillInStackTrace", "()Ljava/lang/Throwable;"⟩ : MethodName) (⟨"java/lang/Throwable", "fillInStackTrace", "()Ljava/lang/Throwable;"⟩ : MethodName) ∈ lw_tbl := xt5 (mq_mem (n := 140) rfl)
theorem xm_44 : Cond.lays "java/util/NoSuchElementException" "java/lang/Throwable" "cause" "Ljava/lang/Throwable;" ∈ lw_tbl := xt5 (mq_mem (n := 141) rfl)
theorem xm_45 : Cond.lays "java/util/NoSuchElementException" "java/lang/Throwable" "stackTrace" "[Ljava/lang/StackTraceElement;" ∈ lw_tbl := xt5 (mq_mem (n := 143) rfl)
theorem xm_46 : Cond.lays "java/util/NoSuchElementException" "java/lang/Throwable" "suppressedExceptions" "Ljava/util/List;" ∈ lw_tbl := xt5 (mq_mem (n := 145) rfl)
theorem xm_47 : Cond.lays "java/util/NoSuchElementException" "java/lang/Throwable" "detailMessage" "Ljava/lang/String;" ∈ lw_tbl := xt5 (mq_mem (n := 147) rfl)
theorem xm_50 : Cond.fieldLink "java/lang/Throwable" 198 "java/lang/Throwable" "backtrace" "Ljava/lang/Object;" ∈ lw_tbl := xt5 (mq_mem (n := 151) rfl)
theorem xm_51 : Cond.lays "java/lang/Throwable" "java/lang/Throwable" "backtrace" "Ljava/lang/Object;" ∈ lw_tbl := xt5 (mq_mem (n := 150) rfl)
theorem xm_52 : Cond.lays "java/util/NoSuchElementException" "java/lang/Throwable" "backtrace" "Ljava/lang/Object;" ∈ lw_tbl := xt5 (mq_mem (n := 149) rfl)
theorem xw_all : ∀ w ∈ Bundle.ownAtoms0 RX11 176 NSE ["java/lang/RuntimeException", "java/lang/Exception"], vx_no w = true → w ∈ lw_tbl := show ∀ w ∈ [Cond.initialized "java/lang/Throwable", Cond.superclass "java/lang/Throwable" "java/lang/Object", Cond.instanceMethod (⟨"java/lang/Throwable", "fillInStackTrace", "()Ljava/lang/Throwable;"⟩ : MethodName), Cond.codeSync (⟨"java/lang/Throwable", "fillInStackTrace", "()Ljava/lang/Throwable;"⟩ : MethodName) LibCode.Throwable.Fill.code 1 (some (.object Bundle.tN)), Cond.instanceMethod (⟨"java/lang/Throwable", "fillInStackTrace", "(I)Ljava/lang/Throwable;"⟩ : MethodName), Cond.native (⟨"java/lang/Throwable", "fillInStackTrace", "(I)Ljava/lang/Throwable;"⟩ : MethodName), Cond.instanceMethod (⟨"java/lang/Throwable", "<init>", "()V"⟩ : MethodName), Cond.code (⟨"java/lang/Throwable", "<init>", "()V"⟩ : MethodName) LibCode.Throwable.Init0.code 1 none, Cond.instanceMethod (⟨"java/lang/Object", "<init>", "()V"⟩ : MethodName), Cond.code (⟨"java/lang/Object", "<init>", "()V"⟩ : MethodName) ⟨#[0xb1]⟩ 1 none, Cond.methodLink "java/lang/Throwable" 1 (⟨"java/lang/Object", "<init>", "()V"⟩ : MethodName), Cond.methodLink "java/lang/Throwable" 27 (⟨"java/lang/Throwable", "fillInStackTrace", "()Ljava/lang/Throwable;"⟩ : MethodName), Cond.methodLink "java/lang/Throwable" 202 (⟨"java/lang/Throwable", "fillInStackTrace", "(I)Ljava/lang/Throwable;"⟩ : MethodName), Cond.fieldLink "java/lang/Throwable" 7 "java/lang/Throwable" "cause" "Ljava/lang/Throwable;", Cond.lays "java/lang/Throwable" "java/lang/Throwable" "cause" "Ljava/lang/Throwable;", Cond.fieldLink "java/lang/Throwable" 17 "java/lang/Throwable" "stackTrace" "[Ljava/lang/StackTraceElement;", Cond.lays "java/lang/Throwable" "java/lang/Throwable" "stackTrace" "[Ljava/lang/StackTraceElement;", Cond.fieldLink "java/lang/Throwable" 24 "java/lang/Throwable" "suppressedExceptions" "Ljava/util/List;", Cond.lays "java/lang/Throwable" "java/lang/Throwable" "suppressedExceptions" "Ljava/util/List;", Cond.fieldLink "java/lang/Throwable" 13 "java/lang/Throwable" "UNASSIGNED_STACK" "[Ljava/lang/StackTraceElement;", Cond.laysStatic "java/lang/Throwable" "UNASSIGNED_STACK" "[Ljava/lang/StackTraceElement;", Cond.fieldLink "java/lang/Throwable" 20 "java/lang/Throwable" "SUPPRESSED_SENTINEL" "Ljava/util/List;", Cond.laysStatic "java/lang/Throwable" "SUPPRESSED_SENTINEL" "Ljava/util/List;", Cond.lays "java/lang/Throwable" "java/lang/Throwable" "detailMessage" "Ljava/lang/String;", Cond.instanceMethod (⟨"java/util/NoSuchElementException", "<init>", "()V"⟩ : MethodName), Cond.code (⟨"java/util/NoSuchElementException", "<init>", "()V"⟩ : MethodName) Bundle.five 1 none, Cond.methodLink "java/util/NoSuchElementException" 1 (⟨"java/lang/RuntimeException", "<init>", "()V"⟩ : MethodName), Cond.instanceMethod (⟨"java/lang/RuntimeException", "<init>", "()V"⟩ : MethodName), Cond.declares (⟨"java/lang/RuntimeException", "<init>", "()V"⟩ : MethodName), Cond.instanceMethod (⟨"java/lang/RuntimeException", "<init>", "()V"⟩ : MethodName), Cond.code (⟨"java/lang/RuntimeException", "<init>", "()V"⟩ : MethodName) Bundle.five 1 none, Cond.methodLink "java/lang/RuntimeException" 1 (⟨"java/lang/Exception", "<init>", "()V"⟩ : MethodName), Cond.instanceMethod (⟨"java/lang/Exception", "<init>", "()V"⟩ : MethodName), Cond.declares (⟨"java/lang/Exception", "<init>", "()V"⟩ : MethodName), Cond.instanceMethod (⟨"java/lang/Exception", "<init>", "()V"⟩ : MethodName), Cond.code (⟨"java/lang/Exception", "<init>", "()V"⟩ : MethodName) Bundle.five 1 none, Cond.methodLink "java/lang/Exception" 1 (⟨"java/lang/Throwable", "<init>", "()V"⟩ : MethodName), Cond.instanceMethod (⟨"java/lang/Throwable", "<init>", "()V"⟩ : MethodName), Cond.declares (⟨"java/lang/Throwable", "<init>", "()V"⟩ : MethodName), Cond.methodLink "WinnerTeaches" 176 (⟨"java/util/NoSuchElementException", "<init>", "()V"⟩ : MethodName), Cond.instantiable "java/util/NoSuchElementException" 6, Cond.castable "java/util/NoSuchElementException" "java/util/NoSuchElementException", Cond.selects "java/util/NoSuchElementException" (⟨"java/lang/Throwable", "fillInStackTrace", "(I)Ljava/lang/Throwable;"⟩ : MethodName) (⟨"java/lang/Throwable", "fillInStackTrace", "(I)Ljava/lang/Throwable;"⟩ : MethodName), Cond.selects "java/util/NoSuchElementException" (⟨"java/lang/Throwable", "fillInStackTrace", "()Ljava/lang/Throwable;"⟩ : MethodName) (⟨"java/lang/Throwable", "fillInStackTrace", "()Ljava/lang/Throwable;"⟩ : MethodName), Cond.lays "java/util/NoSuchElementException" "java/lang/Throwable" "cause" "Ljava/lang/Throwable;", Cond.lays "java/util/NoSuchElementException" "java/lang/Throwable" "stackTrace" "[Ljava/lang/StackTraceElement;", Cond.lays "java/util/NoSuchElementException" "java/lang/Throwable" "suppressedExceptions" "Ljava/util/List;", Cond.lays "java/util/NoSuchElementException" "java/lang/Throwable" "detailMessage" "Ljava/lang/String;", Cond.isRef (.static Bundle.tN "UNASSIGNED_STACK" Bundle.steD), Cond.isRef (.static Bundle.tN "SUPPRESSED_SENTINEL" Bundle.listD), Cond.fieldLink "java/lang/Throwable" 198 "java/lang/Throwable" "backtrace" "Ljava/lang/Object;", Cond.lays "java/lang/Throwable" "java/lang/Throwable" "backtrace" "Ljava/lang/Object;", Cond.lays "java/util/NoSuchElementException" "java/lang/Throwable" "backtrace" "Ljava/lang/Object;"], vx_no w = true → w ∈ lw_tbl from List.forall_mem_cons.mpr ⟨fun h => xm_0, List.forall_mem_cons.mpr ⟨fun h => xm_1, List.forall_mem_cons.mpr ⟨fun h => xm_2, List.forall_mem_cons.mpr ⟨fun h => xm_3, List.forall_mem_cons.mpr ⟨fun h => xm_4, List.forall_mem_cons.mpr ⟨fun h => xm_5, List.forall_mem_cons.mpr ⟨fun h => xm_6, List.forall_mem_cons.mpr ⟨fun h => xm_7, List.forall_mem_cons.mpr ⟨fun h => xm_8, List.forall_mem_cons.mpr ⟨fun h => xm_9, List.forall_mem_cons.mpr ⟨fun h => xm_10, List.forall_mem_cons.mpr ⟨fun h => xm_11, List.forall_mem_cons.mpr ⟨fun h => xm_12, List.forall_mem_cons.mpr ⟨fun h => xm_13, List.forall_mem_cons.mpr ⟨fun h => xm_14, List.forall_mem_cons.mpr ⟨fun h => xm_15, List.forall_mem_cons.mpr ⟨fun h => xm_16, List.forall_mem_cons.mpr ⟨fun h => xm_17, List.forall_mem_cons.mpr ⟨fun h => xm_18, List.forall_mem_cons.mpr ⟨fun h => xm_19, List.forall_mem_cons.mpr ⟨fun h => xm_20, List.forall_mem_cons.mpr ⟨fun h => xm_21, List.forall_mem_cons.mpr ⟨fun h => xm_22, List.forall_mem_cons.mpr ⟨fun h => xm_23, List.forall_mem_cons.mpr ⟨fun h => xm_24, List.forall_mem_cons.mpr ⟨fun h => xm_25, List.forall_mem_cons.mpr ⟨fun h => xm_26, List.forall_mem_cons.mpr ⟨fun h => xm_27, List.forall_mem_cons.mpr ⟨fun h => xm_28, List.forall_mem_cons.mpr ⟨fun h => xm_29, List.forall_mem_cons.mpr ⟨fun h => xm_30, List.forall_mem_cons.mpr ⟨fun h => xm_31, List.forall_mem_cons.mpr ⟨fun h => xm_32, List.forall_mem_cons.mpr ⟨fun h => xm_33, List.forall_mem_cons.mpr ⟨fun h => xm_34, List.forall_mem_cons.mpr ⟨fun h => xm_35, List.forall_mem_cons.mpr ⟨fun h => xm_36, List.forall_mem_cons.mpr ⟨fun h => xm_37, List.forall_mem_cons.mpr ⟨fun h => xm_38, List.forall_mem_cons.mpr ⟨fun h => xm_39, List.forall_mem_cons.mpr ⟨fun h => xm_40, List.forall_mem_cons.mpr ⟨fun h => xm_41, List.forall_mem_cons.mpr ⟨fun h => xm_42, List.forall_mem_cons.mpr ⟨fun h => xm_43, List.forall_mem_cons.mpr ⟨fun h => xm_44, List.forall_mem_cons.mpr ⟨fun h => xm_45, List.forall_mem_cons.mpr ⟨fun h => xm_46, List.forall_mem_cons.mpr ⟨fun h => xm_47, List.forall_mem_cons.mpr ⟨fun h => absurd h (by decide +kernel), List.forall_mem_cons.mpr ⟨fun h => absurd h (by decide +kernel), List.forall_mem_cons.mpr ⟨fun h => xm_50, List.forall_mem_cons.mpr ⟨fun h => xm_51, List.forall_mem_cons.mpr ⟨fun h => xm_52, fun _ h => nomatch h⟩⟩⟩⟩⟩⟩⟩⟩⟩⟩⟩⟩⟩⟩⟩⟩⟩⟩⟩⟩⟩⟩⟩⟩⟩⟩⟩⟩⟩⟩⟩⟩⟩⟩⟩⟩⟩⟩⟩⟩⟩⟩⟩⟩⟩⟩⟩⟩⟩⟩⟩⟩⟩
theorem XWs_in : ∀ w ∈ XWs, w ∈ lw_tbl := List.forall_mem_cons.mpr ⟨xm_c, fun w h => xw_all w (List.mem_filter.mp h).1 (List.mem_filter.mp h).2⟩
theorem XWs_ok : XWs.all (fun w => w.onTables && w.keepsFace) = true := by decide +kernel
def XT (U : State) (A : Nat → Prop) : Prop := (∀ w ∈ XWs, w.before #[] U = true) ∧ vx_Zq Bundle.tN "UNASSIGNED_STACK" Bundle.steD A U U.heap ∧ vx_Zq Bundle.tN "SUPPRESSED_SENTINEL" Bundle.listD A U U.heap
theorem XW_at {U : State} {args : Array Value} (h : ∀ w ∈ XWs, w.before #[] U = true) {w : Cond} (hw : w ∈ XWs) : w.before args U = true := by
  have h1 := List.all_eq_true.mp XWs_ok w hw
  simp only [Bool.and_eq_true] at h1
  exact va_tabs h1.1 rfl (h w hw)
theorem XW_same {s U : State} (hv : s.vm = U.vm) (h : ∀ w ∈ XWs, w.before #[] s = true) : ∀ w ∈ XWs, w.before #[] U = true := by
  intro w hw
  have h1 := List.all_eq_true.mp XWs_ok w hw
  simp only [Bool.and_eq_true] at h1
  exact va_tabs h1.1 hv (h w hw)
theorem XW_warm {s U : State} (hW : s.WarmedH U.vm) (h : ∀ w ∈ XWs, w.before #[] s = true) : ∀ w ∈ XWs, w.before #[] U = true := by
  intro w hw
  have h1 := List.all_eq_true.mp XWs_ok w hw
  simp only [Bool.and_eq_true] at h1
  have h2 := Cond.before_shiftedFace (State.Shifted.of_warmed hW) w h1.2 (h w hw)
  exact va_tabs h1.1 (rfl : (s.setVm U.vm).vm = U.vm) h2
theorem XT.go {s U : State} {A B : Nat → Prop} {locs : List Loc} {H : Heap} (hW : s.WarmedH U.vm) (h : XT s A) (hS : va_S A s.heap H locs) (hU : U.heap = H) (hBA : ∀ q, B q → A q) : XT U B := by
  refine ⟨XW_warm hW h.1, ?_, ?_⟩
  · rw [hU]; exact (vx_Zq.moved hW.alike (h.2.1.kept hS.2.1)).narrow hBA
  · rw [hU]; exact (vx_Zq.moved hW.alike (h.2.2.kept hS.2.1)).narrow hBA
/-- as the law's start has it -/
def ThrowAt (μ : MI) (pc : Nat) : Prop := decode μ.2.1 pc = .ok (.new 174, 3) ∧ decode μ.2.1 (pc + 3) = .ok (.dup, 1) ∧ decode μ.2.1 (pc + 4) = .ok (.invokespecial 176, 3) ∧ decode μ.2.1 (pc + 7) = .ok (.athrow, 1)
/-- a method that may throw: where it comes to a throw the world has Qx -/
abbrev ET (ad : Nat → Nat) (μ : MI) (Qx : Wm → Prop) : EB := (fun p l e R s mt args below meth c cs sl G cA A Qz => ∀ (m' : Wm) (H' : Heap) (locs' : List Loc) (pc' : Nat) (ls' : Array Slot), Qx m' → va_P G vwCl (cellsOf LAY ad cA m') H' → va_D A (cellsOf LAY ad cA m') → va_S A s.heap H' locs' → ls'.size = c.maxLocals → ThrowAt μ pc' → W p l e R s mt args below meth c H' locs' cs sl Qz (F0 mt pc' ls' []), 1, 6, LAY)
theorem aw_throw {ad : Nat → Nat} {μ : MI} {d : Nat} {Q : Option Value → Wm → Prop} {Qx : Wm → Prop} {pc : Nat} {L : List (Nat × Value)} {m : Wm} (hq : Qx m) (ht : ThrowAt μ pc) : AWl LAY ad (ET ad μ Qx) μ d Q pc L [] m :=
  fun p l e R s mt args below meth c H locs cs sl G cA A ls Qz C hP hD hS hl => C.2.2.2.1.1 m H locs pc ls hq hP hD hS (hl.1.trans C.1.2.2.1.symm) ht
def QX (ad : Nat → Nat) (G : va_G) (cA : Nat → ClassId) (Qx : Wm → Prop) (A : Nat → Prop) : String → State → State → Prop := fun E st t => E = NSE ∧ (∃ m', Qx m' ∧ va_P G vwCl (cellsOf LAY ad cA m') t.heap) ∧ va_F A st t
def CtX (ad : Nat → Nat) (μ : MI) (d : Nat) (args : List Value) (m : Wm) (Q : Option Value → Wm → Prop) (Qx : Wm → Prop) : Prop :=
  ∀ (l : Launch) (G : va_G) (cA : Nat → ClassId) (sz : Nat), l.stackTraces = false → vx_Met l μ.1 (.code μ.1 μ.2.1 μ.2.2.1 μ.2.2.2.2 :: TW) (rmk d 1 6) (va_Pc args (fun U => PCt LAY ad G cA m sz U ∧ XT U (va_A (cellsOf LAY ad cA m) sz))) (QC LAY ad G cA Q (va_A (cellsOf LAY ad cA m) sz)) (QX ad G cA Qx (va_A (cellsOf LAY ad cA m) sz)) 1 6 (va_A (cellsOf LAY ad cA m) sz)
theorem vx_good : ∀ w ∈ Cond.classLink RX11 174 NSE :: Cond.initialized NSE :: vx_at0 RX11 176 NSE ["java/lang/RuntimeException", "java/lang/Exception"], vx_ot w = true := by decide +kernel
theorem wx_1 : Cond.classLink RX11 174 NSE ∈ TW := tc5 (mq_mem (n := 130) rfl) (by decide +kernel)
theorem wx_2 : Cond.initialized NSE ∈ TW := tc1 (mq_mem (n := 19) rfl) (by decide +kernel)
theorem CtX.of {ad : Nat → Nat} {μ : MI} {d : Nat} {args : List Value} {m : Wm} {Q : Option Value → Wm → Prop} {Qx : Wm → Prop} (hd : 6 ≤ d) (hy : plainName μ.1.cls = true) (ho : μ.2.2.2.1 = μ.1.cls) (ho2 : μ.2.2.2.1 = RX11) (hn : (lg_sl args).length ≤ μ.2.2.1) (h : AWl LAY ad (ET ad μ Qx) μ d Q 0 (lv_args 0 args) [] m) : CtX ad μ d args m Q Qx := by
  intro l G cA sz hl0
  refine vx_ofW (cc := μ.2.1) (maxL := μ.2.2.1) (ret := μ.2.2.2.2) hy rfl ?_
  intro p e s m' args' below meth c s₁ B hml hnt hv
  obtain ⟨rfl, ⟨hsz, hP, hK, hD0, hN⟩, hX⟩ := hv
  subst hsz
  have hts := atoms_spec (ws := .code μ.1 μ.2.1 μ.2.2.1 μ.2.2.2.2 :: TW) B.pre
  have hts2 : ∀ w ∈ TW, w.before args.toArray s = true := fun w hw => hts w (List.mem_cons_of_mem _ hw)
  have hown : s.vm.findClass μ.2.2.2.1 = some m'.cls := by rw [ho]; exact findClass_of_methodNamed B.named
  rw [lg_entry_eq]
  refine h p l e _ s m' _ below meth c s.heap [] 0 0 G cA (va_A (cellsOf LAY ad cA m) s.heap.size) _ _ ⟨⟨B.exec, B.bytes, hml, hown, hts2⟩, hK, fun q hq => Or.inr hq, ⟨?_, fun h => ((name_of_methodNamed B.named B.method).1).trans h, hN⟩, ⟨Nat.le_refl _, Nat.le_refl _, Nat.le_refl _, Nat.le_refl _⟩, ?_⟩ hP hD0.self va_S.rf (lv_entry args hn)
  · intro w H' locs' pc' ls' hq hP' hD' hS' hls ht
    obtain ⟨d0, d3, d4, d7⟩ := ht
    refine vx_throw0 (A := va_A (cellsOf LAY ad cA m) s.heap.size) (own := RX11) (cls := NSE) (names := ["java/lang/RuntimeException", "java/lang/Exception"]) (ik := 174) (ic := 176) B.exec B.bytes hl0 (ho2 ▸ hown) (by decide +kernel) (by decide +kernel) (hts2 _ wx_1) (hts2 _ wx_2) (fun w hw => XW_at hX.1 (List.mem_cons_of_mem _ hw)) vx_good hX.2.1 hX.2.2 hS' hls d0 d3 d4 d7 (fun x hx => (hnt x hx).elim) ?_ ?_ (Nat.le_refl _) (Nat.le_refl _) B.notSynchronized ?_ hS'.2.2 (Nat.le_refl _) (Nat.le_refl _)
    · show 2 + 3 < d; omega
    · show 0 + (13 * (2 + 1) + 42) ≤ 41 * d; omega
    · intro t ht1 ht2 ht3
      refine ⟨rfl, ⟨w, hq, fun k q hk => (hP' k q hk).kept (ht3 q.1 (hP' k q hk).lt)⟩, Nat.le_trans hS'.1 ht2, fun q hq1 hq2 => ?_⟩
      rw [ht3 q (Nat.lt_of_lt_of_le hq1 hS'.1)]
      exact hS'.2.1 q hq1 hq2
  · intro v w H' locs' pc' ls' cs' sl' hr hc1 hc2 hq hP' hD' hS'
    refine vx_ret ?_
    refine W.widen (k := 1) (n := 6) hc1 hc2 ?_
    rcases hr with ⟨rfl, hret, hd⟩ | ⟨x, ty, rfl, hret, hnw, hd⟩ | ⟨x, rfl, hret, hd⟩
    · exact W.vret B.exec B.bytes (B.returns.trans hret) (fun t ht hW => ⟨⟨none, w, rfl, hq, by rw [ht]; exact hP'⟩, hS'.F ht⟩) hS'.2.2 hd B.notSynchronized
    · exact W.zret B.exec B.bytes (B.returns.trans hret) hnw (fun t ht hW => ⟨⟨_, w, rfl, hq, by rw [ht]; exact hP'⟩, hS'.F ht⟩) hS'.2.2 hd B.notSynchronized
    · exact W.lret B.exec B.bytes (B.returns.trans hret) (fun t ht hW => ⟨⟨_, w, rfl, hq, by rw [ht]; exact hP'⟩, hS'.F ht⟩) hS'.2.2 hd B.notSynchronized
/-- a method that catches: its table, and the words of a throw -/
abbrev EH (hh : List (Nat × Nat × Nat × Nat)) (kc ks : Nat) : EB := (fun _ l _ _ s _ _ _ _ c _ _ _ _ A _ => l.stackTraces = false ∧ c.exceptionTable.toList = tableOf hh ∧ XT s A, kc, ks, LAY)
/-- a contract that may leave kc new cells of ks slots behind, which no one holds -/
def Ctg (ad : Nat → Nat) (μ : MI) (hh : List (Nat × Nat × Nat × Nat)) (d kc ks : Nat) (args : List Value) (m : Wm) (Q : Option Value → Wm → Prop) : Prop :=
  ∀ (l : Launch) (G : va_G) (cA : Nat → ClassId) (sz : Nat), l.stackTraces = false → Met l μ.1 (.codeWith μ.1 μ.2.1 μ.2.2.1 μ.2.2.2.2 hh :: TW) (rmk d kc ks) (va_Pc args (fun U => PCt LAY ad G cA m sz U ∧ XT U (va_A (cellsOf LAY ad cA m) sz))) (QC LAY ad G cA Q (va_A (cellsOf LAY ad cA m) sz)) kc ks (va_A (cellsOf LAY ad cA m) sz)
theorem Ctg.of {ad : Nat → Nat} {μ : MI} {hh : List (Nat × Nat × Nat × Nat)} {d kc ks : Nat} {args : List Value} {m : Wm} {Q : Option Value → Wm → Prop} (hy : plainName μ.1.cls = true) (ho : μ.2.2.2.1 = μ.1.cls) (hn : (lg_sl args).length ≤ μ.2.2.1) (h : AWl LAY ad (EH hh kc ks) μ d Q 0 (lv_args 0 args) [] m) : Ctg ad μ hh d kc ks args m Q := by
  intro l G cA sz hl0
  refine va_MetW (cc := μ.2.1) (maxL := μ.2.2.1) (ret := μ.2.2.2.2) (hh := hh) hy rfl ?_
  intro p e s m' args' below meth c s₁ B hml hv
  obtain ⟨rfl, ⟨hsz, hP, hK, hD0, hN⟩, hX⟩ := hv
  subst hsz
  have hts := atoms_spec (ws := .codeWith μ.1 μ.2.1 μ.2.2.1 μ.2.2.2.2 hh :: TW) B.pre
  have htb := vx_table (y := μ.1) (x := μ.1) B (hts _ List.mem_cons_self)
  rw [lg_entry_eq]
  refine h p l e _ s m' _ below meth c s.heap [] 0 0 G cA (va_A (cellsOf LAY ad cA m) s.heap.size) _ _ ⟨⟨B.exec, B.bytes, hml, by rw [ho]; exact findClass_of_methodNamed B.named, fun w hw => hts w (List.mem_cons_of_mem _ hw)⟩, hK, fun q hq => Or.inr hq, ⟨⟨hl0, htb, hX⟩, fun h => ((name_of_methodNamed B.named B.method).1).trans h, hN⟩, ⟨Nat.le_refl _, Nat.le_refl _, by show 0 + kc ≤ kc; omega, by show 0 + ks ≤ ks; omega⟩, ?_⟩ hP hD0.self va_S.rf (lv_entry args hn)
  intro v w H' locs' pc' ls' cs' sl' hr hc1 hc2 hq hP' hD' hS'
  refine W.widen (k := kc) (n := ks) hc1 hc2 ?_
  rcases hr with ⟨rfl, hret, hd⟩ | ⟨x, ty, rfl, hret, hnw, hd⟩ | ⟨x, rfl, hret, hd⟩
  · exact W.vret B.exec B.bytes (B.returns.trans hret) (fun t ht hW => ⟨⟨none, w, rfl, hq, by rw [ht]; exact hP'⟩, hS'.F ht⟩) hS'.2.2 hd B.notSynchronized
  · exact W.zret B.exec B.bytes (B.returns.trans hret) hnw (fun t ht hW => ⟨⟨_, w, rfl, hq, by rw [ht]; exact hP'⟩, hS'.F ht⟩) hS'.2.2 hd B.notSynchronized
  · exact W.lret B.exec B.bytes (B.returns.trans hret) (fun t ht hW => ⟨⟨_, w, rfl, hq, by rw [ht]; exact hP'⟩, hS'.F ht⟩) hS'.2.2 hd B.notSynchronized
theorem aw_callVX {ad : Nat → Nat} {hh : List (Nat × Nat × Nat × Nat)} {μ μ' : MI} {d idx ci b : Nat} {cs' : List Nat} {C' : String} {T : u_T} {N : Nat} {Q Q' : Option Value → Wm → Prop} {Qx' : Wm → Prop} {pc : Nat} {L : List (Nat × Value)} {rest st : List Value} {m : Wm} (As : List Value) (hd : decode μ.2.1 pc = .ok (.invokevirtual idx, 3)) (he : LAY[b]? = some (.inl (ci, cs'))) (hc : vwCl[ci]? = some (C', T, N)) (cw : CallV μ.2.2.2.1 idx C' μ' As.length) (hst : st = As.reverse ++ .ref (ad b) :: rest) (hM : CtX ad μ' d (.ref (ad b) :: As) m Q' Qx') (hW : (rest.map fun v => v.category).sum ≤ 8)
    (x : ExceptionTableEntry) (htb : tableOf hh = [x]) (hcv : covers x pc = true) (hx0 : x.catchType ≠ 0) (hcl : Cond.classLink μ.2.2.2.1 x.catchType NSE ∈ TW)
    (k : ∀ v m', Q' v m' → AWl LAY ad (EH hh 0 0) μ (d + 1) Q (pc + 3) L (v.toList ++ rest) m') (kx : ∀ m' q, Qx' m' → AWl LAY ad (EH hh 0 0) μ (d + 1) Q x.handlerPc L [.ref q] m') : AWl LAY ad (EH hh 1 6) μ (d + 1) Q pc L st m := by
  subst hst
  intro p l e R s mt args below meth c H locs cs sl G cA A ls Qz C hP hD hS hl
  obtain ⟨w1, w2, w3, w4, w5, w6, w7⟩ := cw
  have hts := C.1.2.2.2.2
  obtain ⟨hr1, hr2, hr3, hr4⟩ := C.2.2.2.2.1
  have hr3 : cs + 1 ≤ R.cells := hr3
  have hr4 : sl + 6 ≤ R.slots := hr4
  obtain ⟨⟨hl0, htb0, hX⟩, hnm, hnw⟩ := C.2.2.2.1
  have hA := C.2.2.1
  have hAA : ∀ q, va_A (cellsOf LAY ad cA m) H.size q → A q := by
    intro q hq
    rcases hq with ⟨k, x, hq⟩ | hq
    · exact hD.2 k (q, x) hq
    · exact hA q (Nat.le_trans hS.1 hq)
  have hr := vx_runV (e := e) (l := l) (below := below) (meth := meth) (locs := locs) (cells := cs) (slots := sl) (g := F0 mt pc ls (As.reverse ++ .ref (ad b) :: rest)) (As := As) (rest := rest) (n := As.length) C.1 (hM l G cA H.size hl0) ⟨callB_of (R := R) As.length hts (good_tbl w5) rfl rfl rfl (hts _ w4) (hts _ w1) w6 ⟨hr1, by show 8 + (μ'.2.2.1 + 11) + 41 * d ≤ R.locals; omega⟩, hts _ w2, hts _ w3⟩ ⟨fun a U g mk q => ⟨q.1, PCt.blind a U g mk ⟨q.1, q.2.1⟩ |>.2, XW_same (s := U) (U := U.calling g mk a) rfl q.2.2.1, vx_Zq.moved (u := U) (U := U.calling g mk a) (Vm.Alike.refl U.vm) q.2.2.2.1, vx_Zq.moved (u := U) (U := U.calling g mk a) (Vm.Alike.refl U.vm) q.2.2.2.2⟩, va_recv C.2.1 hP hc (ob_at he), fun U hU hW' => ⟨rfl, ⟨by rw [hU], by rw [hU]; exact hP, va_K.moved hW'.alike C.2.1, hD.weaken (fun _ _ _ _ => trivial), NWs.warm hW' hnw⟩, hX.go hW' hS hU hAA⟩⟩ rfl rfl hl.1 rfl (lv_room hW) hd ⟨hr3, hr4⟩
  intro T0 hT0 X0'
  rcases hr T0 hT0 X0' with ⟨v, st₀, t, T', L', h0, X', hL, e1, e2, ⟨⟨v', m', hv, hq, hp⟩, hF⟩, st⟩ | ⟨q, st₀, t, T', L', E, ce, h0, X', hL, e1, e2, ⟨hE, ⟨m', hq, hp⟩, hF⟩, hce, hcv', hcl', st⟩
  · cases hv
    obtain ⟨k1, k2, k3⟩ := vx_keep h0 e1 hS (fun q _ h => hAA q h) hAA hL hF
    obtain ⟨t2, a1, b1⟩ := k v m' hq p l e R s mt args below meth c T'.heap (locs ++ L') (cs + 1) (sl + 6) G cA A ls Qz ⟨C.1, C.2.1, C.2.2.1, ⟨⟨hl0, htb0, hX⟩, hnm, hnw⟩, ⟨hr1, hr2, hr3, hr4⟩, C.2.2.2.2.2⟩ (by rw [e1]; exact hp) (cells_D hD) k3 hl T' rfl X'
    exact ⟨t2, st t2 a1, b1⟩
  · obtain ⟨k1, k2, k3⟩ := vx_keep h0 e1 hS (fun q _ h => hAA q h) hAA hL hF
    subst hE
    obtain ⟨t2, a1, b1⟩ := vx_catch (pc := pc) (ls := ls) (rest := rest) (Q := Qz) C.1.2.2.2.1 [] x [] (by rw [htb0, htb]; rfl) (fun z hz => by cases hz) hcv hx0 (hts _ hcl) (XW_at hX.1 List.mem_cons_self) (H := T'.heap) (by rw [e1]; exact hce) hcv' hcl' (kx m' q hq p l e R s mt args below meth c T'.heap (locs ++ L') (cs + 1) (sl + 6) G cA A ls Qz ⟨C.1, C.2.1, C.2.2.1, ⟨⟨hl0, htb0, hX⟩, hnm, hnw⟩, ⟨hr1, hr2, hr3, hr4⟩, C.2.2.2.2.2⟩ (by rw [e1]; exact hp) (cells_D hD) k3 hl) T' rfl X'
    exact ⟨t2, st.trans a1, b1⟩
abbrev hL_of : List (Nat × Nat × Nat × Nat) := [(0, 10, 13, 13)]
abbrev hL_row : List (Nat × Nat × Nat × Nat) := [(0, 8, 11, 13)]
theorem wx_3 : Cond.classLink RL 13 NSE ∈ TW := tw (by decide +kernel) (by decide +kernel)
set_option maxRecDepth 100000 in
set_option maxHeartbeats 4000000 in
theorem ctg_of {ad : Nat → Nat} {d : Nat} {m : Wm} {x1 x2 : Int32} {Q Q1 : Option Value → Wm → Prop} {Qx : Wm → Prop} (hx : CtX ad μX11_of d [.ref (ad 0), .int x1, .int x2] m Q1 Qx) (h1 : ∀ r m1, Q1 r m1 → ∃ v : Int32, r = some (.int v) ∧ Q (some (.int 0)) (uL m1 217 (0 : Int32).toNatClampNeg v.toInt64)) (h2 : ∀ m1, Qx m1 → Q (some (.int 1)) m1) : Ctg ad μL_of hL_of (d + 1) 1 6 [.ref (ad 0), .int x1, .int x2, .ref (ad 217)] m Q := by
  refine Ctg.of (by decide +kernel) rfl (Nat.le_of_ble_eq_true rfl) ?_
  refine aw_eq (L' := [(0, .ref (ad 0)), (1, .int x1), (2, .int x2), (3, .ref (ad 217))]) ?_ rfl rfl rfl
  refine aw_aload_n (j := 3) dL_of_0 rfl rfl ?_
  refine aw_iconst (v := 0) dL_of_1 (by decide) ?_
  refine aw_aload_n (j := 0) dL_of_2 rfl rfl ?_
  refine aw_iload_n (j := 1) dL_of_3 rfl rfl ?_
  refine aw_iload_n (j := 2) dL_of_4 rfl rfl ?_
  refine aw_callVX (rest := [.int 0, .ref (ad 217)]) [.int x1, .int x2] dL_of_5 ly_0 rfl k_L_7 rfl hx (Nat.le_of_ble_eq_true rfl) ⟨0, 10, 13, 13⟩ rfl (by decide) (by decide) wx_3 (fun r m1 hq => ?_) (fun m1 q hq => ?_)
  · obtain ⟨v, rfl, h⟩ := h1 r m1 hq
    refine aw_eq (L' := [(0, .ref (ad 0)), (1, .int x1), (2, .int x2), (3, .ref (ad 217))]) (st' := [.int v, .int 0, .ref (ad 217)]) (m' := m1) ?_ rfl rfl rfl
    refine aw_i2l dL_of_8 ?_
    refine aw_lastore dL_of_9 ly_217 (by unfold vp_in; decide) ?_
    refine aw_goto (tgt := 17) dL_of_10 (by decide) ?_
    refine aw_iconst (v := 0) dL_of_17 (by decide) ?_
    exact aw_ret (v := some (.int 0)) rfl (Or.inr (Or.inl ⟨_, .int, rfl, rfl, rfl, dL_of_18⟩)) h
  · have h := h2 m1 hq
    refine aw_astore (i := 4) (L' := [(4, .ref q), (0, .ref (ad 0)), (1, .int x1), (2, .int x2), (3, .ref (ad 217))]) dL_of_13 (by decide) rfl ?_
    refine aw_iconst (v := 1) dL_of_15 (by decide) ?_
    exact aw_ret (v := some (.int 1)) rfl (Or.inr (Or.inl ⟨_, .int, rfl, rfl, rfl, dL_of_16⟩)) h
set_option maxRecDepth 100000 in
set_option maxHeartbeats 4000000 in
theorem ctg_row {ad : Nat → Nat} {d : Nat} {m : Wm} {x1 : Int32} {Q Q1 : Option Value → Wm → Prop} {Qx : Wm → Prop} (hx : CtX ad μX11_row d [.ref (ad 0), .int x1] m Q1 Qx) (h1 : ∀ r m1, Q1 r m1 → ∃ v : Int64, r = some (.long v) ∧ Q (some (.int 0)) (uL m1 217 (0 : Int32).toNatClampNeg v)) (h2 : ∀ m1, Qx m1 → Q (some (.int 1)) m1) : Ctg ad μL_row hL_row (d + 1) 1 6 [.ref (ad 0), .int x1, .ref (ad 217)] m Q := by
  refine Ctg.of (by decide +kernel) rfl (Nat.le_of_ble_eq_true rfl) ?_
  refine aw_eq (L' := [(0, .ref (ad 0)), (1, .int x1), (2, .ref (ad 217))]) ?_ rfl rfl rfl
  refine aw_aload_n (j := 2) dL_row_0 rfl rfl ?_
  refine aw_iconst (v := 0) dL_row_1 (by decide) ?_
  refine aw_aload_n (j := 0) dL_row_2 rfl rfl ?_
  refine aw_iload_n (j := 1) dL_row_3 rfl rfl ?_
  refine aw_callVX (rest := [.int 0, .ref (ad 217)]) [.int x1] dL_row_4 ly_0 rfl k_L_15 rfl hx (Nat.le_of_ble_eq_true rfl) ⟨0, 8, 11, 13⟩ rfl (by decide) (by decide) wx_3 (fun r m1 hq => ?_) (fun m1 q hq => ?_)
  · obtain ⟨v, rfl, h⟩ := h1 r m1 hq
    refine aw_eq (L' := [(0, .ref (ad 0)), (1, .int x1), (2, .ref (ad 217))]) (st' := [.long v, .int 0, .ref (ad 217)]) (m' := m1) ?_ rfl rfl rfl
    refine aw_lastore dL_row_7 ly_217 (by unfold vp_in; decide) ?_
    refine aw_goto (tgt := 14) dL_row_8 (by decide) ?_
    refine aw_iconst (v := 0) dL_row_14 (by decide) ?_
    exact aw_ret (v := some (.int 0)) rfl (Or.inr (Or.inl ⟨_, .int, rfl, rfl, rfl, dL_row_15⟩)) h
  · have h := h2 m1 hq
    refine aw_astore_n (i := 3) (L' := [(3, .ref q), (0, .ref (ad 0)), (1, .int x1), (2, .ref (ad 217))]) dL_row_11 rfl (by decide) rfl ?_
    refine aw_iconst (v := 1) dL_row_12 (by decide) ?_
    exact aw_ret (v := some (.int 1)) rfl (Or.inr (Or.inl ⟨_, .int, rfl, rfl, rfl, dL_row_13⟩)) h

set_option maxRecDepth 100000 in
set_option maxHeartbeats 4000000 in
theorem v_X11_of {ad : Nat → Nat} {d : Nat} {Q : Option Value → Wm → Prop} {Qx : Wm → Prop} {m : Wm} {x1 x2 : Int32} (h : (Ct ad μX1_has (d + 5) [.ref (ad 3), .int x1] m (fun r m1 => ∃ v2 : Int32, r = some (.int v2) ∧ ((¬ v2 = 0 → ((x2 = 0 → (Ct ad μX1_power (d + 5) [.ref (ad 3), .ref (ad 21), .int x1] m1 (fun r m3 => ∃ v4 : Int32, r = some (.int v4) ∧ Q (some (.int v4)) m3))) ∧ (x2 = 1 → (vp_in x1 8 ∧ Q (some (.int (m1.1 23 x1.toNatClampNeg))) m1)) ∧ (x2 = 2 → (vp_in x1 8 ∧ Q (some (.int (m1.1 24 x1.toNatClampNeg))) m1)) ∧ (x2 = 3 → (Ct ad μX1_isIll (d + 5) [.ref (ad 3), .int x1] m1 (fun r m5 => ∃ v6 : Int32, r = some (.int v6) ∧ ((v6 = 0 → Q (some (.int (0 : Int32))) m5) ∧ (¬ v6 = 0 → Q (some (.int (1 : Int32))) m5))))) ∧ (x2 = 4 → (vp_in x1 8 ∧ Q (some (.int (m1.1 25 x1.toNatClampNeg))) m1)) ∧ (¬ x2 = 0 → ¬ x2 = 1 → ¬ x2 = 2 → ¬ x2 = 3 → ¬ x2 = 4 → Qx m1))) ∧ (v2 = 0 → Qx m1))))) : CtX ad μX11_of (d + 6) [.ref (ad 0), .int x1, .int x2] m Q Qx := by
  refine CtX.of (by omega) (by decide +kernel) rfl rfl (Nat.le_of_ble_eq_true rfl) ?_
  refine aw_eq (L' := [(0, .ref (ad 0)), (1, .int x1), (2, .int x2)]) ?_ rfl rfl rfl
  refine aw_aload_n (j := 0) dX11_of_0 rfl rfl ?_
  refine aw_getfield (c := 6) (v := .ref (ad 3)) dX11_of_1 f_X11_19 ly_0 rfl rfl ?_
  refine aw_iload_n (j := 1) dX11_of_4 rfl rfl ?_
  refine aw_callV (rest := []) [.int x1] dX11_of_5 ly_3 rfl k_X11_164 rfl h (Nat.le_of_ble_eq_true rfl) (fun v m1 h => ?_)
  obtain ⟨v2, rfl, h⟩ := h
  refine aw_eq (L' := [(0, .ref (ad 0)), (1, .int x1), (2, .int x2)]) (st' := [.int v2]) (m' := m1) ?_ rfl rfl rfl
  refine aw_if_ne (tgt := 19) dX11_of_8 (by decide) (fun hc => ?_) (fun hc => ?_)
  · have h := h.1 hc
    refine aw_iload_n (j := 2) dX11_of_19 rfl rfl ?_
    by_cases c0 : x2 = 0
    · have h := h.1 c0
      refine aw_tswIn (tgt := 56) dX11_of_20 c0 (by decide) (by decide) (by first | rfl | decide) (by decide) ?_
      refine aw_aload_n (j := 0) dX11_of_56 rfl rfl ?_
      refine aw_getfield (c := 6) (v := .ref (ad 3)) dX11_of_57 f_X11_19 ly_0 rfl rfl ?_
      refine aw_aload_n (j := 0) dX11_of_60 rfl rfl ?_
      refine aw_getfield (c := 24) (v := .ref (ad 21)) dX11_of_61 f_X11_33 ly_0 rfl rfl ?_
      refine aw_iload_n (j := 1) dX11_of_64 rfl rfl ?_
      refine aw_callV (rest := []) [.ref (ad 21), .int x1] dX11_of_65 ly_3 rfl k_X11_177 rfl h (Nat.le_of_ble_eq_true rfl) (fun v m3 h => ?_)
      obtain ⟨v4, rfl, h⟩ := h
      refine aw_eq (L' := [(0, .ref (ad 0)), (1, .int x1), (2, .int x2)]) (st' := [.int v4]) (m' := m3) ?_ rfl rfl rfl
      exact aw_ret (v := some (.int v4)) rfl (Or.inr (Or.inl ⟨_, .int, rfl, rfl, rfl, dX11_of_68⟩)) h
    by_cases c1 : x2 = 1
    · have h := h.2.1 c1
      refine aw_tswIn (tgt := 69) dX11_of_20 c1 (by decide) (by decide) (by first | rfl | decide) (by decide) ?_
      refine aw_aload_n (j := 0) dX11_of_69 rfl rfl ?_
      refine aw_getfield (c := 24) (v := .ref (ad 21)) dX11_of_70 f_X11_33 ly_0 rfl rfl ?_
      refine aw_getfield (c := 26) (v := .ref (ad 23)) dX11_of_73 f_X11_181 ly_21 rfl rfl ?_
      refine aw_iload_n (j := 1) dX11_of_76 rfl rfl ?_
      obtain ⟨hi, h⟩ := h
      refine aw_iaload dX11_of_77 ly_23 hi ?_
      exact aw_ret (v := some (.int (m1.1 23 x1.toNatClampNeg))) rfl (Or.inr (Or.inl ⟨_, .int, rfl, rfl, rfl, dX11_of_78⟩)) h
    by_cases c2 : x2 = 2
    · have h := h.2.2.1 c2
      refine aw_tswIn (tgt := 79) dX11_of_20 c2 (by decide) (by decide) (by first | rfl | decide) (by decide) ?_
      refine aw_aload_n (j := 0) dX11_of_79 rfl rfl ?_
      refine aw_getfield (c := 24) (v := .ref (ad 21)) dX11_of_80 f_X11_33 ly_0 rfl rfl ?_
      refine aw_getfield (c := 27) (v := .ref (ad 24)) dX11_of_83 f_X11_184 ly_21 rfl rfl ?_
      refine aw_iload_n (j := 1) dX11_of_86 rfl rfl ?_
      obtain ⟨hi, h⟩ := h
      refine aw_iaload dX11_of_87 ly_24 hi ?_
      exact aw_ret (v := some (.int (m1.1 24 x1.toNatClampNeg))) rfl (Or.inr (Or.inl ⟨_, .int, rfl, rfl, rfl, dX11_of_88⟩)) h
    by_cases c3 : x2 = 3
    · have h := h.2.2.2.1 c3
      refine aw_tswIn (tgt := 89) dX11_of_20 c3 (by decide) (by decide) (by first | rfl | decide) (by decide) ?_
      refine aw_aload_n (j := 0) dX11_of_89 rfl rfl ?_
      refine aw_getfield (c := 6) (v := .ref (ad 3)) dX11_of_90 f_X11_19 ly_0 rfl rfl ?_
      refine aw_iload_n (j := 1) dX11_of_93 rfl rfl ?_
      refine aw_callV (rest := []) [.int x1] dX11_of_94 ly_3 rfl k_X11_187 rfl h (Nat.le_of_ble_eq_true rfl) (fun v m5 h => ?_)
      obtain ⟨v6, rfl, h⟩ := h
      refine aw_eq (L' := [(0, .ref (ad 0)), (1, .int x1), (2, .int x2)]) (st' := [.int v6]) (m' := m5) ?_ rfl rfl rfl
      refine aw_if_eq (tgt := 104) dX11_of_97 (by decide) (fun hc => ?_) (fun hc => ?_)
      · have h := h.1 hc
        refine aw_iconst (v := 0) dX11_of_104 (by decide) ?_
        exact aw_ret (v := some (.int (0 : Int32))) rfl (Or.inr (Or.inl ⟨_, .int, rfl, rfl, rfl, dX11_of_105⟩)) h
      · have h := h.2 hc
        refine aw_iconst (v := 1) dX11_of_100 (by decide) ?_
        refine aw_goto (tgt := 105) dX11_of_101 (by decide) ?_
        exact aw_ret (v := some (.int (1 : Int32))) rfl (Or.inr (Or.inl ⟨_, .int, rfl, rfl, rfl, dX11_of_105⟩)) h
    by_cases c4 : x2 = 4
    · have h := h.2.2.2.2.1 c4
      refine aw_tswIn (tgt := 106) dX11_of_20 c4 (by decide) (by decide) (by first | rfl | decide) (by decide) ?_
      refine aw_aload_n (j := 0) dX11_of_106 rfl rfl ?_
      refine aw_getfield (c := 24) (v := .ref (ad 21)) dX11_of_107 f_X11_33 ly_0 rfl rfl ?_
      refine aw_getfield (c := 28) (v := .ref (ad 25)) dX11_of_110 f_X11_190 ly_21 rfl rfl ?_
      refine aw_iload_n (j := 1) dX11_of_113 rfl rfl ?_
      obtain ⟨hi, h⟩ := h
      refine aw_iaload dX11_of_114 ly_25 hi ?_
      exact aw_ret (v := some (.int (m1.1 25 x1.toNatClampNeg))) rfl (Or.inr (Or.inl ⟨_, .int, rfl, rfl, rfl, dX11_of_115⟩)) h
    have h := h.2.2.2.2.2 c0 c1 c2 c3 c4
    refine aw_tswOut (tgt := 116) dX11_of_20 (by have e0 := i32_ne (n := 0) c0 (by decide); have e1 := i32_ne (n := 1) c1 (by decide); have e2 := i32_ne (n := 2) c2 (by decide); have e3 := i32_ne (n := 3) c3 (by decide); have e4 := i32_ne (n := 4) c4 (by decide); omega) (by decide) ?_
    exact aw_throw h ⟨dX11_of_116, dX11_of_119, dX11_of_120, dX11_of_123⟩
  · have h := h.2 hc
    exact aw_throw h ⟨dX11_of_11, dX11_of_14, dX11_of_15, dX11_of_18⟩
set_option maxRecDepth 100000 in
set_option maxHeartbeats 4000000 in
theorem v_X11_row {ad : Nat → Nat} {d : Nat} {Q : Option Value → Wm → Prop} {Qx : Wm → Prop} {m : Wm} {x1 : Int32} (h : ((x1 < 0 → Qx m) ∧ (¬ x1 < 0 → ((x1 < (m.1 0 18) → (vp_in x1 10 ∧ Q (some (.long (m.2.1 150 x1.toNatClampNeg))) m)) ∧ (¬ x1 < (m.1 0 18) → Qx m))))) : CtX ad μX11_row (d + 6) [.ref (ad 0), .int x1] m Q Qx := by
  refine CtX.of (by omega) (by decide +kernel) rfl rfl (Nat.le_of_ble_eq_true rfl) ?_
  refine aw_eq (L' := [(0, .ref (ad 0)), (1, .int x1)]) ?_ rfl rfl rfl
  refine aw_iload_n (j := 1) dX11_row_0 rfl rfl ?_
  refine aw_if_lt (tgt := 12) dX11_row_1 (by decide) (fun hc => ?_) (fun hc => ?_)
  · have h := h.1 hc
    exact aw_throw h ⟨dX11_row_12, dX11_row_15, dX11_row_16, dX11_row_19⟩
  · have h := h.2 hc
    refine aw_iload_n (j := 1) dX11_row_4 rfl rfl ?_
    refine aw_aload_n (j := 0) dX11_row_5 rfl rfl ?_
    refine aw_getfield (c := 0) (v := .int (m.1 0 18)) dX11_row_6 f_X11_87 ly_0 rfl rfl ?_
    refine aw_icmp_lt (tgt := 20) dX11_row_9 (by decide) (fun hc => ?_) (fun hc => ?_)
    · have h := h.1 hc
      refine aw_aload_n (j := 0) dX11_row_20 rfl rfl ?_
      refine aw_getfield (c := 153) (v := .ref (ad 150)) dX11_row_21 f_X11_83 ly_0 rfl rfl ?_
      refine aw_iload_n (j := 1) dX11_row_24 rfl rfl ?_
      obtain ⟨hi, h⟩ := h
      refine aw_laload dX11_row_25 ly_150 hi ?_
      exact aw_ret (v := some (.long (m.2.1 150 x1.toNatClampNeg))) rfl (Or.inr (Or.inr ⟨_, rfl, rfl, dX11_row_26⟩)) h
    · have h := h.2 hc
      exact aw_throw h ⟨dX11_row_12, dX11_row_15, dX11_row_16, dX11_row_19⟩
end
