def K_X12 (m : Wm) (b n : Nat) : Wm := uR (zm (uR (zm (uR (zm (uR (zm (uR (zm (uR (zm (uR (zm (uR (zm (uR (zm (uR (zm (uR (zm (uR (zm (uR (zm (uR (zm (uR (zm (uR (zm (uI (uR (zm (uR (zm (uR (zm (uR (zm (uR (zm (uR (zm (uR (zm (uI (uR (uI (uI (uI (uI (uI (zm (uR (zm (uR (zm (uR (zm (uR (zm (uR (zm (uI m b 0 (2)) n) b 2 (some n)) (n + 1)) b 3 (some (n + 1))) (n + 2)) b 4 (some (n + 2))) (n + 3)) b 5 (some (n + 3))) (n + 4)) b 6 (some (n + 4))) (n + 5)) (n + 5) (0 : Int32).toNatClampNeg (0)) (n + 5) (1 : Int32).toNatClampNeg (1)) (n + 5) (2 : Int32).toNatClampNeg (1)) (n + 5) (3 : Int32).toNatClampNeg (0)) (n + 5) (4 : Int32).toNatClampNeg (0)) b 7 (some (n + 5))) b 8 (1)) (n + 6)) b 9 (some (n + 6))) (n + 7)) b 13 (some (n + 7))) (n + 8)) b 15 (some (n + 8))) (n + 9)) b 23 (some (n + 9))) (n + 10)) b 24 (some (n + 10))) (n + 11)) b 25 (some (n + 11))) (n + 12)) b 26 (some (n + 12))) b 28 (-1)) (n + 13)) b 29 (some (n + 13))) (n + 14)) b 31 (some (n + 14))) (n + 15)) b 36 (some (n + 15))) (n + 16)) b 37 (some (n + 16))) (n + 17)) b 38 (some (n + 17))) (n + 18)) b 39 (some (n + 18))) (n + 19)) b 40 (some (n + 19))) (n + 20)) b 41 (some (n + 20))) (n + 21)) b 42 (some (n + 21))) (n + 22)) b 44 (some (n + 22))) (n + 23)) b 47 (some (n + 23))) (n + 24)) b 50 (some (n + 24))) (n + 25)) b 51 (some (n + 25))) (n + 26)) b 54 (some (n + 26))) (n + 27)) b 55 (some (n + 27))) (n + 28)) b 56 (some (n + 28))
def N_X12 (lay : List Ent) : List Ent := (ps (ps (ps (ps (ps (ps (ps (ps (ps (ps (ps (ps (ps (ps (ps (ps (ps (ps (ps (ps (ps (ps (ps (ps (ps (ps (ps (ps (ps lay (.inr (0, 32))) (.inr (3, 8))) (.inr (0, 8))) (.inr (0, 8))) (.inr (0, 8))) (.inr (0, 5))) (.inr (0, 160))) (.inr (1, 80))) (.inr (4, 16))) (.inr (0, 32))) (.inr (3, 8))) (.inr (0, 160))) (.inr (1, 40))) (.inr (0, 1140))) (.inr (0, 57))) (.inr (0, 9))) (.inr (0, 57))) (.inr (4, 3000))) (.inr (4, 3000))) (.inr (0, 3000))) (.inr (0, 3000))) (.inr (0, 3000))) (.inr (0, 8192))) (.inr (0, 399))) (.inr (0, 3000))) (.inr (0, 36))) (.inr (0, 142))) (.inr (3, 2))) (.inr (0, 2)))
set_option maxRecDepth 100000 in
set_option maxHeartbeats 40000000 in
theorem n_X12 {bs d : Nat} {lay : List Ent} {m : Wm} {b n : Nat} (hn : lay.length = n) (hb : lay[b]? = some (.inl (12, [0, 0, 2, 2, 2, 2, 2, 2, 0, 2, 0, 0, 0, 2, 0, 2, 0, 0, 2, 0, 0, 0, 0, 2, 2, 2, 2, 0, 0, 2, 0, 2, 0, 0, 0, 0, 2, 2, 2, 2, 2, 2, 2, 0, 2, 0, 0, 2, 0, 0, 2, 2, 0, 0, 2, 2, 2]))) : CtK bs lay ((ps (ps (ps (ps (ps (ps (ps (ps (ps (ps (ps (ps (ps (ps (ps (ps (ps (ps (ps (ps (ps (ps (ps (ps (ps (ps (ps (ps (ps lay (.inr (0, 32))) (.inr (3, 8))) (.inr (0, 8))) (.inr (0, 8))) (.inr (0, 8))) (.inr (0, 5))) (.inr (0, 160))) (.inr (1, 80))) (.inr (4, 16))) (.inr (0, 32))) (.inr (3, 8))) (.inr (0, 160))) (.inr (1, 40))) (.inr (0, 1140))) (.inr (0, 57))) (.inr (0, 9))) (.inr (0, 57))) (.inr (4, 3000))) (.inr (4, 3000))) (.inr (0, 3000))) (.inr (0, 3000))) (.inr (0, 3000))) (.inr (0, 8192))) (.inr (0, 399))) (.inr (0, 3000))) (.inr (0, 36))) (.inr (0, 142))) (.inr (3, 2))) (.inr (0, 2)))) μX12_init (d + 1) 29 28601 [.ref (adb bs b)] m (K_X12 m b n) := by
  refine CtK.of (n := n) (by decide +kernel) rfl rfl hn (Nat.le_of_ble_eq_true rfl) ?_
  refine aw_eq (L' := [(0, .ref (adb bs b))]) ?_ rfl rfl rfl
  refine aw_aload_n (j := 0) dX12_init_0 rfl rfl ?_
  refine aw_objInit dX12_init_1 ob_X12_3 (Nat.le_of_ble_eq_true rfl) ?_
  refine aw_aload_n (j := 0) dX12_init_4 rfl rfl ?_
  refine aw_iconst (v := 2) dX12_init_5 (by decide) ?_
  refine aw_putI dX12_init_6 f_X12_9 cl_X12 rfl hb rfl (by decide) (by decide) ?_
  refine aw_aload_n (j := 0) dX12_init_9 rfl rfl ?_
  refine aw_bipush (v := 32) dX12_init_10 (by decide) ?_
  refine aw_newa0 (n := n) (kc := 28) (ks := 28569) (N := 32) dX12_init_12 hn ar_0 (by decide) (by decide +kernel) (by decide +kernel) ?_
  refine aw_putFR (x := n) dX12_init_14 f_X12_13 cl_X12 rfl rfl rfl (at_old hb) rfl rfl rfl ?_
  refine aw_aload_n (j := 0) dX12_init_17 rfl rfl ?_
  refine aw_bipush (v := 8) dX12_init_18 (by decide) ?_
  refine aw_newa3 (n := n + 1) (kc := 27) (ks := 28561) (N := 8) dX12_init_20 (len_push hn) ar_3 (by decide) (by decide +kernel) (by decide +kernel) ?_
  refine aw_putFR (x := n + 1) dX12_init_22 f_X12_17 cl_X12 rfl rfl rfl (at_old (at_old hb)) rfl rfl rfl ?_
  refine aw_aload_n (j := 0) dX12_init_25 rfl rfl ?_
  refine aw_bipush (v := 8) dX12_init_26 (by decide) ?_
  refine aw_newa0 (n := n + 2) (kc := 26) (ks := 28553) (N := 8) dX12_init_28 (len_push (len_push hn)) ar_0 (by decide) (by decide +kernel) (by decide +kernel) ?_
  refine aw_putFR (x := n + 2) dX12_init_30 f_X12_21 cl_X12 rfl rfl rfl (at_old (at_old (at_old hb))) rfl rfl rfl ?_
  refine aw_aload_n (j := 0) dX12_init_33 rfl rfl ?_
  refine aw_bipush (v := 8) dX12_init_34 (by decide) ?_
  refine aw_newa0 (n := n + 3) (kc := 25) (ks := 28545) (N := 8) dX12_init_36 (len_push (len_push (len_push hn))) ar_0 (by decide) (by decide +kernel) (by decide +kernel) ?_
  refine aw_putFR (x := n + 3) dX12_init_38 f_X12_24 cl_X12 rfl rfl rfl (at_old (at_old (at_old (at_old hb)))) rfl rfl rfl ?_
  refine aw_aload_n (j := 0) dX12_init_41 rfl rfl ?_
  refine aw_bipush (v := 8) dX12_init_42 (by decide) ?_
  refine aw_newa0 (n := n + 4) (kc := 24) (ks := 28537) (N := 8) dX12_init_44 (len_push (len_push (len_push (len_push hn)))) ar_0 (by decide) (by decide +kernel) (by decide +kernel) ?_
  refine aw_putFR (x := n + 4) dX12_init_46 f_X12_27 cl_X12 rfl rfl rfl (at_old (at_old (at_old (at_old (at_old hb))))) rfl rfl rfl ?_
  refine aw_aload_n (j := 0) dX12_init_49 rfl rfl ?_
  refine aw_iconst (v := 5) dX12_init_50 (by decide) ?_
  refine aw_newa0 (n := n + 5) (kc := 23) (ks := 28532) (N := 5) dX12_init_51 (len_push (len_push (len_push (len_push (len_push hn))))) ar_0 (by decide) (by decide +kernel) (by decide +kernel) ?_
  refine aw_dup dX12_init_53 rfl ?_
  refine aw_iconst (v := 0) dX12_init_54 (by decide) ?_
  refine aw_iconst (v := 0) dX12_init_55 (by decide) ?_
  refine aw_iastore dX12_init_56 (at_new (len_push (len_push (len_push (len_push (len_push hn)))))) (by unfold vp_in; decide) ?_
  refine aw_dup dX12_init_57 rfl ?_
  refine aw_iconst (v := 1) dX12_init_58 (by decide) ?_
  refine aw_iconst (v := 1) dX12_init_59 (by decide) ?_
  refine aw_iastore dX12_init_60 (at_new (len_push (len_push (len_push (len_push (len_push hn)))))) (by unfold vp_in; decide) ?_
  refine aw_dup dX12_init_61 rfl ?_
  refine aw_iconst (v := 2) dX12_init_62 (by decide) ?_
  refine aw_iconst (v := 1) dX12_init_63 (by decide) ?_
  refine aw_iastore dX12_init_64 (at_new (len_push (len_push (len_push (len_push (len_push hn)))))) (by unfold vp_in; decide) ?_
  refine aw_dup dX12_init_65 rfl ?_
  refine aw_iconst (v := 3) dX12_init_66 (by decide) ?_
  refine aw_iconst (v := 0) dX12_init_67 (by decide) ?_
  refine aw_iastore dX12_init_68 (at_new (len_push (len_push (len_push (len_push (len_push hn)))))) (by unfold vp_in; decide) ?_
  refine aw_dup dX12_init_69 rfl ?_
  refine aw_iconst (v := 4) dX12_init_70 (by decide) ?_
  refine aw_iconst (v := 0) dX12_init_71 (by decide) ?_
  refine aw_iastore dX12_init_72 (at_new (len_push (len_push (len_push (len_push (len_push hn)))))) (by unfold vp_in; decide) ?_
  refine aw_putFR (x := n + 5) dX12_init_73 f_X12_30 cl_X12 rfl rfl rfl (at_old (at_old (at_old (at_old (at_old (at_old hb)))))) rfl rfl rfl ?_
  refine aw_aload_n (j := 0) dX12_init_76 rfl rfl ?_
  refine aw_iconst (v := 1) dX12_init_77 (by decide) ?_
  refine aw_putI dX12_init_78 f_X12_33 cl_X12 rfl (at_old (at_old (at_old (at_old (at_old (at_old hb)))))) rfl (by decide) (by decide) ?_
  refine aw_aload_n (j := 0) dX12_init_81 rfl rfl ?_
  refine aw_sipush (v := 160) dX12_init_82 (by decide) ?_
  refine aw_newa0 (n := n + 6) (kc := 22) (ks := 28372) (N := 160) dX12_init_85 (len_push (len_push (len_push (len_push (len_push (len_push hn)))))) ar_0 (by decide) (by decide +kernel) (by decide +kernel) ?_
  refine aw_putFR (x := n + 6) dX12_init_87 f_X12_36 cl_X12 rfl rfl rfl (at_old (at_old (at_old (at_old (at_old (at_old (at_old hb))))))) rfl rfl rfl ?_
  refine aw_aload_n (j := 0) dX12_init_90 rfl rfl ?_
  refine aw_bipush (v := 80) dX12_init_91 (by decide) ?_
  refine aw_newa1 (n := n + 7) (kc := 21) (ks := 28292) (N := 80) dX12_init_93 (len_push (len_push (len_push (len_push (len_push (len_push (len_push hn))))))) ar_1 (by decide) (by decide +kernel) (by decide +kernel) ?_
  refine aw_putFR (x := n + 7) dX12_init_95 f_X12_39 cl_X12 rfl rfl rfl (at_old (at_old (at_old (at_old (at_old (at_old (at_old (at_old hb)))))))) rfl rfl rfl ?_
  refine aw_aload_n (j := 0) dX12_init_98 rfl rfl ?_
  refine aw_bipush (v := 16) dX12_init_99 (by decide) ?_
  refine aw_newa4 (n := n + 8) (kc := 20) (ks := 28276) (N := 16) dX12_init_101 (len_push (len_push (len_push (len_push (len_push (len_push (len_push (len_push hn)))))))) ar_4 (by decide) (by decide +kernel) (by decide +kernel) ?_
  refine aw_putFR (x := n + 8) dX12_init_103 f_X12_43 cl_X12 rfl rfl rfl (at_old (at_old (at_old (at_old (at_old (at_old (at_old (at_old (at_old hb))))))))) rfl rfl rfl ?_
  refine aw_aload_n (j := 0) dX12_init_106 rfl rfl ?_
  refine aw_bipush (v := 32) dX12_init_107 (by decide) ?_
  refine aw_newa0 (n := n + 9) (kc := 19) (ks := 28244) (N := 32) dX12_init_109 (len_push (len_push (len_push (len_push (len_push (len_push (len_push (len_push (len_push hn))))))))) ar_0 (by decide) (by decide +kernel) (by decide +kernel) ?_
  refine aw_putFR (x := n + 9) dX12_init_111 f_X12_47 cl_X12 rfl rfl rfl (at_old (at_old (at_old (at_old (at_old (at_old (at_old (at_old (at_old (at_old hb)))))))))) rfl rfl rfl ?_
  refine aw_aload_n (j := 0) dX12_init_114 rfl rfl ?_
  refine aw_bipush (v := 8) dX12_init_115 (by decide) ?_
  refine aw_newa3 (n := n + 10) (kc := 18) (ks := 28236) (N := 8) dX12_init_117 (len_push (len_push (len_push (len_push (len_push (len_push (len_push (len_push (len_push (len_push hn)))))))))) ar_3 (by decide) (by decide +kernel) (by decide +kernel) ?_
  refine aw_putFR (x := n + 10) dX12_init_119 f_X12_50 cl_X12 rfl rfl rfl (at_old (at_old (at_old (at_old (at_old (at_old (at_old (at_old (at_old (at_old (at_old hb))))))))))) rfl rfl rfl ?_
  refine aw_aload_n (j := 0) dX12_init_122 rfl rfl ?_
  refine aw_sipush (v := 160) dX12_init_123 (by decide) ?_
  refine aw_newa0 (n := n + 11) (kc := 17) (ks := 28076) (N := 160) dX12_init_126 (len_push (len_push (len_push (len_push (len_push (len_push (len_push (len_push (len_push (len_push (len_push hn))))))))))) ar_0 (by decide) (by decide +kernel) (by decide +kernel) ?_
  refine aw_putFR (x := n + 11) dX12_init_128 f_X12_53 cl_X12 rfl rfl rfl (at_old (at_old (at_old (at_old (at_old (at_old (at_old (at_old (at_old (at_old (at_old (at_old hb)))))))))))) rfl rfl rfl ?_
  refine aw_aload_n (j := 0) dX12_init_131 rfl rfl ?_
  refine aw_bipush (v := 40) dX12_init_132 (by decide) ?_
  refine aw_newa1 (n := n + 12) (kc := 16) (ks := 28036) (N := 40) dX12_init_134 (len_push (len_push (len_push (len_push (len_push (len_push (len_push (len_push (len_push (len_push (len_push (len_push hn)))))))))))) ar_1 (by decide) (by decide +kernel) (by decide +kernel) ?_
  refine aw_putFR (x := n + 12) dX12_init_136 f_X12_56 cl_X12 rfl rfl rfl (at_old (at_old (at_old (at_old (at_old (at_old (at_old (at_old (at_old (at_old (at_old (at_old (at_old hb))))))))))))) rfl rfl rfl ?_
  refine aw_aload_n (j := 0) dX12_init_139 rfl rfl ?_
  refine aw_iconst (v := -1) dX12_init_140 (by decide) ?_
  refine aw_putI dX12_init_141 f_X12_59 cl_X12 rfl (at_old (at_old (at_old (at_old (at_old (at_old (at_old (at_old (at_old (at_old (at_old (at_old (at_old hb))))))))))))) rfl (by decide) (by decide) ?_
  refine aw_aload_n (j := 0) dX12_init_144 rfl rfl ?_
  refine aw_sipush (v := 1140) dX12_init_145 (by decide) ?_
  refine aw_newa0 (n := n + 13) (kc := 15) (ks := 26896) (N := 1140) dX12_init_148 (len_push (len_push (len_push (len_push (len_push (len_push (len_push (len_push (len_push (len_push (len_push (len_push (len_push hn))))))))))))) ar_0 (by decide) (by decide +kernel) (by decide +kernel) ?_
  refine aw_putFR (x := n + 13) dX12_init_150 f_X12_62 cl_X12 rfl rfl rfl (at_old (at_old (at_old (at_old (at_old (at_old (at_old (at_old (at_old (at_old (at_old (at_old (at_old (at_old hb)))))))))))))) rfl rfl rfl ?_
  refine aw_aload_n (j := 0) dX12_init_153 rfl rfl ?_
  refine aw_bipush (v := 57) dX12_init_154 (by decide) ?_
  refine aw_newa0 (n := n + 14) (kc := 14) (ks := 26839) (N := 57) dX12_init_156 (len_push (len_push (len_push (len_push (len_push (len_push (len_push (len_push (len_push (len_push (len_push (len_push (len_push (len_push hn)))))))))))))) ar_0 (by decide) (by decide +kernel) (by decide +kernel) ?_
  refine aw_putFR (x := n + 14) dX12_init_158 f_X12_65 cl_X12 rfl rfl rfl (at_old (at_old (at_old (at_old (at_old (at_old (at_old (at_old (at_old (at_old (at_old (at_old (at_old (at_old (at_old hb))))))))))))))) rfl rfl rfl ?_
  refine aw_aload_n (j := 0) dX12_init_161 rfl rfl ?_
  refine aw_bipush (v := 9) dX12_init_162 (by decide) ?_
  refine aw_newa0 (n := n + 15) (kc := 13) (ks := 26830) (N := 9) dX12_init_164 (len_push (len_push (len_push (len_push (len_push (len_push (len_push (len_push (len_push (len_push (len_push (len_push (len_push (len_push (len_push hn))))))))))))))) ar_0 (by decide) (by decide +kernel) (by decide +kernel) ?_
  refine aw_putFR (x := n + 15) dX12_init_166 f_X12_68 cl_X12 rfl rfl rfl (at_old (at_old (at_old (at_old (at_old (at_old (at_old (at_old (at_old (at_old (at_old (at_old (at_old (at_old (at_old (at_old hb)))))))))))))))) rfl rfl rfl ?_
  refine aw_aload_n (j := 0) dX12_init_169 rfl rfl ?_
  refine aw_bipush (v := 57) dX12_init_170 (by decide) ?_
  refine aw_newa0 (n := n + 16) (kc := 12) (ks := 26773) (N := 57) dX12_init_172 (len_push (len_push (len_push (len_push (len_push (len_push (len_push (len_push (len_push (len_push (len_push (len_push (len_push (len_push (len_push (len_push hn)))))))))))))))) ar_0 (by decide) (by decide +kernel) (by decide +kernel) ?_
  refine aw_putFR (x := n + 16) dX12_init_174 f_X12_71 cl_X12 rfl rfl rfl (at_old (at_old (at_old (at_old (at_old (at_old (at_old (at_old (at_old (at_old (at_old (at_old (at_old (at_old (at_old (at_old (at_old hb))))))))))))))))) rfl rfl rfl ?_
  refine aw_aload_n (j := 0) dX12_init_177 rfl rfl ?_
  refine aw_sipush (v := 3000) dX12_init_178 (by decide) ?_
  refine aw_newa4 (n := n + 17) (kc := 11) (ks := 23773) (N := 3000) dX12_init_181 (len_push (len_push (len_push (len_push (len_push (len_push (len_push (len_push (len_push (len_push (len_push (len_push (len_push (len_push (len_push (len_push (len_push hn))))))))))))))))) ar_4 (by decide) (by decide +kernel) (by decide +kernel) ?_
  refine aw_putFR (x := n + 17) dX12_init_183 f_X12_74 cl_X12 rfl rfl rfl (at_old (at_old (at_old (at_old (at_old (at_old (at_old (at_old (at_old (at_old (at_old (at_old (at_old (at_old (at_old (at_old (at_old (at_old hb)))))))))))))))))) rfl rfl rfl ?_
  refine aw_aload_n (j := 0) dX12_init_186 rfl rfl ?_
  refine aw_sipush (v := 3000) dX12_init_187 (by decide) ?_
  refine aw_newa4 (n := n + 18) (kc := 10) (ks := 20773) (N := 3000) dX12_init_190 (len_push (len_push (len_push (len_push (len_push (len_push (len_push (len_push (len_push (len_push (len_push (len_push (len_push (len_push (len_push (len_push (len_push (len_push hn)))))))))))))))))) ar_4 (by decide) (by decide +kernel) (by decide +kernel) ?_
  refine aw_putFR (x := n + 18) dX12_init_192 f_X12_77 cl_X12 rfl rfl rfl (at_old (at_old (at_old (at_old (at_old (at_old (at_old (at_old (at_old (at_old (at_old (at_old (at_old (at_old (at_old (at_old (at_old (at_old (at_old hb))))))))))))))))))) rfl rfl rfl ?_
  refine aw_aload_n (j := 0) dX12_init_195 rfl rfl ?_
  refine aw_sipush (v := 3000) dX12_init_196 (by decide) ?_
  refine aw_newa0 (n := n + 19) (kc := 9) (ks := 17773) (N := 3000) dX12_init_199 (len_push (len_push (len_push (len_push (len_push (len_push (len_push (len_push (len_push (len_push (len_push (len_push (len_push (len_push (len_push (len_push (len_push (len_push (len_push hn))))))))))))))))))) ar_0 (by decide) (by decide +kernel) (by decide +kernel) ?_
  refine aw_putFR (x := n + 19) dX12_init_201 f_X12_80 cl_X12 rfl rfl rfl (at_old (at_old (at_old (at_old (at_old (at_old (at_old (at_old (at_old (at_old (at_old (at_old (at_old (at_old (at_old (at_old (at_old (at_old (at_old (at_old hb)))))))))))))))))))) rfl rfl rfl ?_
  refine aw_aload_n (j := 0) dX12_init_204 rfl rfl ?_
  refine aw_sipush (v := 3000) dX12_init_205 (by decide) ?_
  refine aw_newa0 (n := n + 20) (kc := 8) (ks := 14773) (N := 3000) dX12_init_208 (len_push (len_push (len_push (len_push (len_push (len_push (len_push (len_push (len_push (len_push (len_push (len_push (len_push (len_push (len_push (len_push (len_push (len_push (len_push (len_push hn)))))))))))))))))))) ar_0 (by decide) (by decide +kernel) (by decide +kernel) ?_
  refine aw_putFR (x := n + 20) dX12_init_210 f_X12_83 cl_X12 rfl rfl rfl (at_old (at_old (at_old (at_old (at_old (at_old (at_old (at_old (at_old (at_old (at_old (at_old (at_old (at_old (at_old (at_old (at_old (at_old (at_old (at_old (at_old hb))))))))))))))))))))) rfl rfl rfl ?_
  refine aw_aload_n (j := 0) dX12_init_213 rfl rfl ?_
  refine aw_sipush (v := 3000) dX12_init_214 (by decide) ?_
  refine aw_newa0 (n := n + 21) (kc := 7) (ks := 11773) (N := 3000) dX12_init_217 (len_push (len_push (len_push (len_push (len_push (len_push (len_push (len_push (len_push (len_push (len_push (len_push (len_push (len_push (len_push (len_push (len_push (len_push (len_push (len_push (len_push hn))))))))))))))))))))) ar_0 (by decide) (by decide +kernel) (by decide +kernel) ?_
  refine aw_putFR (x := n + 21) dX12_init_219 f_X12_86 cl_X12 rfl rfl rfl (at_old (at_old (at_old (at_old (at_old (at_old (at_old (at_old (at_old (at_old (at_old (at_old (at_old (at_old (at_old (at_old (at_old (at_old (at_old (at_old (at_old (at_old hb)))))))))))))))))))))) rfl rfl rfl ?_
  refine aw_aload_n (j := 0) dX12_init_222 rfl rfl ?_
  refine aw_sipush (v := 8192) dX12_init_223 (by decide) ?_
  refine aw_newa0 (n := n + 22) (kc := 6) (ks := 3581) (N := 8192) dX12_init_226 (len_push (len_push (len_push (len_push (len_push (len_push (len_push (len_push (len_push (len_push (len_push (len_push (len_push (len_push (len_push (len_push (len_push (len_push (len_push (len_push (len_push (len_push hn)))))))))))))))))))))) ar_0 (by decide) (by decide +kernel) (by decide +kernel) ?_
  refine aw_putFR (x := n + 22) dX12_init_228 f_X12_89 cl_X12 rfl rfl rfl (at_old (at_old (at_old (at_old (at_old (at_old (at_old (at_old (at_old (at_old (at_old (at_old (at_old (at_old (at_old (at_old (at_old (at_old (at_old (at_old (at_old (at_old (at_old hb))))))))))))))))))))))) rfl rfl rfl ?_
  refine aw_aload_n (j := 0) dX12_init_231 rfl rfl ?_
  refine aw_sipush (v := 399) dX12_init_232 (by decide) ?_
  refine aw_newa0 (n := n + 23) (kc := 5) (ks := 3182) (N := 399) dX12_init_235 (len_push (len_push (len_push (len_push (len_push (len_push (len_push (len_push (len_push (len_push (len_push (len_push (len_push (len_push (len_push (len_push (len_push (len_push (len_push (len_push (len_push (len_push (len_push hn))))))))))))))))))))))) ar_0 (by decide) (by decide +kernel) (by decide +kernel) ?_
  refine aw_putFR (x := n + 23) dX12_init_237 f_X12_92 cl_X12 rfl rfl rfl (at_old (at_old (at_old (at_old (at_old (at_old (at_old (at_old (at_old (at_old (at_old (at_old (at_old (at_old (at_old (at_old (at_old (at_old (at_old (at_old (at_old (at_old (at_old (at_old hb)))))))))))))))))))))))) rfl rfl rfl ?_
  refine aw_aload_n (j := 0) dX12_init_240 rfl rfl ?_
  refine aw_sipush (v := 3000) dX12_init_241 (by decide) ?_
  refine aw_newa0 (n := n + 24) (kc := 4) (ks := 182) (N := 3000) dX12_init_244 (len_push (len_push (len_push (len_push (len_push (len_push (len_push (len_push (len_push (len_push (len_push (len_push (len_push (len_push (len_push (len_push (len_push (len_push (len_push (len_push (len_push (len_push (len_push (len_push hn)))))))))))))))))))))))) ar_0 (by decide) (by decide +kernel) (by decide +kernel) ?_
  refine aw_putFR (x := n + 24) dX12_init_246 f_X12_95 cl_X12 rfl rfl rfl (at_old (at_old (at_old (at_old (at_old (at_old (at_old (at_old (at_old (at_old (at_old (at_old (at_old (at_old (at_old (at_old (at_old (at_old (at_old (at_old (at_old (at_old (at_old (at_old (at_old hb))))))))))))))))))))))))) rfl rfl rfl ?_
  refine aw_aload_n (j := 0) dX12_init_249 rfl rfl ?_
  refine aw_bipush (v := 36) dX12_init_250 (by decide) ?_
  refine aw_newa0 (n := n + 25) (kc := 3) (ks := 146) (N := 36) dX12_init_252 (len_push (len_push (len_push (len_push (len_push (len_push (len_push (len_push (len_push (len_push (len_push (len_push (len_push (len_push (len_push (len_push (len_push (len_push (len_push (len_push (len_push (len_push (len_push (len_push (len_push hn))))))))))))))))))))))))) ar_0 (by decide) (by decide +kernel) (by decide +kernel) ?_
  refine aw_putFR (x := n + 25) dX12_init_254 f_X12_98 cl_X12 rfl rfl rfl (at_old (at_old (at_old (at_old (at_old (at_old (at_old (at_old (at_old (at_old (at_old (at_old (at_old (at_old (at_old (at_old (at_old (at_old (at_old (at_old (at_old (at_old (at_old (at_old (at_old (at_old hb)))))))))))))))))))))))))) rfl rfl rfl ?_
  refine aw_aload_n (j := 0) dX12_init_257 rfl rfl ?_
  refine aw_sipush (v := 142) dX12_init_258 (by decide) ?_
  refine aw_newa0 (n := n + 26) (kc := 2) (ks := 4) (N := 142) dX12_init_261 (len_push (len_push (len_push (len_push (len_push (len_push (len_push (len_push (len_push (len_push (len_push (len_push (len_push (len_push (len_push (len_push (len_push (len_push (len_push (len_push (len_push (len_push (len_push (len_push (len_push (len_push hn)))))))))))))))))))))))))) ar_0 (by decide) (by decide +kernel) (by decide +kernel) ?_
  refine aw_putFR (x := n + 26) dX12_init_263 f_X12_101 cl_X12 rfl rfl rfl (at_old (at_old (at_old (at_old (at_old (at_old (at_old (at_old (at_old (at_old (at_old (at_old (at_old (at_old (at_old (at_old (at_old (at_old (at_old (at_old (at_old (at_old (at_old (at_old (at_old (at_old (at_old hb))))))))))))))))))))))))))) rfl rfl rfl ?_
  refine aw_aload_n (j := 0) dX12_init_266 rfl rfl ?_
  refine aw_iconst (v := 2) dX12_init_267 (by decide) ?_
  refine aw_newa3 (n := n + 27) (kc := 1) (ks := 2) (N := 2) dX12_init_268 (len_push (len_push (len_push (len_push (len_push (len_push (len_push (len_push (len_push (len_push (len_push (len_push (len_push (len_push (len_push (len_push (len_push (len_push (len_push (len_push (len_push (len_push (len_push (len_push (len_push (len_push (len_push hn))))))))))))))))))))))))))) ar_3 (by decide) (by decide +kernel) (by decide +kernel) ?_
  refine aw_putFR (x := n + 27) dX12_init_270 f_X12_104 cl_X12 rfl rfl rfl (at_old (at_old (at_old (at_old (at_old (at_old (at_old (at_old (at_old (at_old (at_old (at_old (at_old (at_old (at_old (at_old (at_old (at_old (at_old (at_old (at_old (at_old (at_old (at_old (at_old (at_old (at_old (at_old hb)))))))))))))))))))))))))))) rfl rfl rfl ?_
  refine aw_aload_n (j := 0) dX12_init_273 rfl rfl ?_
  refine aw_iconst (v := 2) dX12_init_274 (by decide) ?_
  refine aw_newa0 (n := n + 28) (kc := 0) (ks := 0) (N := 2) dX12_init_275 (len_push (len_push (len_push (len_push (len_push (len_push (len_push (len_push (len_push (len_push (len_push (len_push (len_push (len_push (len_push (len_push (len_push (len_push (len_push (len_push (len_push (len_push (len_push (len_push (len_push (len_push (len_push (len_push hn)))))))))))))))))))))))))))) ar_0 (by decide) (by decide +kernel) (by decide +kernel) ?_
  refine aw_putFR (x := n + 28) dX12_init_277 f_X12_107 cl_X12 rfl rfl rfl (at_old (at_old (at_old (at_old (at_old (at_old (at_old (at_old (at_old (at_old (at_old (at_old (at_old (at_old (at_old (at_old (at_old (at_old (at_old (at_old (at_old (at_old (at_old (at_old (at_old (at_old (at_old (at_old (at_old hb))))))))))))))))))))))))))))) rfl rfl rfl ?_
  exact aw_ret (v := none) rfl (Or.inl ⟨rfl, rfl, dX12_init_280⟩) ⟨rfl, rfl⟩
