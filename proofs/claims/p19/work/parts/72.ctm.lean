section
def K_X12 (m : Wm) (b n : Nat) : Wm := uR (zm (uR (zm (uR (zm (uR (zm (uR (zm (uR (zm (uR (zm (uR (zm (uR (zm (uR (zm (uR (zm (uR (zm (uR (zm (uR (zm (uR (zm (uR (zm (uI (uR (zm (uR (zm (uR (zm (uR (zm (uR (zm (uR (zm (uR (zm (uI (uR (uI (uI (uI (uI (uI (zm (uR (zm (uR (zm (uR (zm (uR (zm (uR (zm (uI m b 0 (2)) n) b 2 (some n)) (n + 1)) b 3 (some (n + 1))) (n + 2)) b 4 (some (n + 2))) (n + 3)) b 5 (some (n + 3))) (n + 4)) b 6 (some (n + 4))) (n + 5)) (n + 5) (0 : Int32).toNatClampNeg (0)) (n + 5) (1 : Int32).toNatClampNeg (1)) (n + 5) (2 : Int32).toNatClampNeg (1)) (n + 5) (3 : Int32).toNatClampNeg (0)) (n + 5) (4 : Int32).toNatClampNeg (0)) b 7 (some (n + 5))) b 8 (1)) (n + 6)) b 9 (some (n + 6))) (n + 7)) b 13 (some (n + 7))) (n + 8)) b 15 (some (n + 8))) (n + 9)) b 23 (some (n + 9))) (n + 10)) b 24 (some (n + 10))) (n + 11)) b 25 (some (n + 11))) (n + 12)) b 26 (some (n + 12))) b 28 (-1)) (n + 13)) b 29 (some (n + 13))) (n + 14)) b 31 (some (n + 14))) (n + 15)) b 36 (some (n + 15))) (n + 16)) b 37 (some (n + 16))) (n + 17)) b 38 (some (n + 17))) (n + 18)) b 39 (some (n + 18))) (n + 19)) b 40 (some (n + 19))) (n + 20)) b 41 (some (n + 20))) (n + 21)) b 42 (some (n + 21))) (n + 22)) b 44 (some (n + 22))) (n + 23)) b 47 (some (n + 23))) (n + 24)) b 50 (some (n + 24))) (n + 25)) b 51 (some (n + 25))) (n + 26)) b 54 (some (n + 26))) (n + 27)) b 55 (some (n + 27))) (n + 28)) b 56 (some (n + 28))
def N_X12 (lay : List Ent) : List Ent := (ps (ps (ps (ps (ps (ps (ps (ps (ps (ps (ps (ps (ps (ps (ps (ps (ps (ps (ps (ps (ps (ps (ps (ps (ps (ps (ps (ps (ps lay (.inr (0, 32))) (.inr (3, 8))) (.inr (0, 8))) (.inr (0, 8))) (.inr (0, 8))) (.inr (0, 5))) (.inr (0, 160))) (.inr (1, 80))) (.inr (4, 16))) (.inr (0, 32))) (.inr (3, 8))) (.inr (0, 160))) (.inr (1, 40))) (.inr (0, 1140))) (.inr (0, 57))) (.inr (0, 9))) (.inr (0, 57))) (.inr (4, 3000))) (.inr (4, 3000))) (.inr (0, 3000))) (.inr (0, 3000))) (.inr (0, 3000))) (.inr (0, 8192))) (.inr (0, 399))) (.inr (0, 3000))) (.inr (0, 36))) (.inr (0, 142))) (.inr (3, 2))) (.inr (0, 2)))
set_option maxRecDepth 100000 in
set_option maxHeartbeats 40000000 in
theorem n_X12 {bs d : Nat} {lay : List Ent} {m : Wm} {b n : Nat} (hn : lay.length = n) (hb : lay[b]? = some (.inl (12, [0, 0, 2, 2, 2, 2, 2, 2, 0, 2, 0, 0, 0, 2, 0, 2, 0, 0, 2, 0, 0, 0, 0, 2, 2, 2, 2, 0, 0, 2, 0, 2, 0, 0, 0, 0, 2, 2, 2, 2, 2, 2, 2, 0, 2, 0, 0, 2, 0, 0, 2, 2, 0, 0, 2, 2, 2]))) : CtK bs lay ((ps (ps (ps (ps (ps (ps (ps (ps (ps (ps (ps (ps (ps (ps (ps (ps (ps (ps (ps (ps (ps (ps (ps (ps (ps (ps (ps (ps (ps lay (.inr (0, 32))) (.inr (3, 8))) (.inr (0, 8))) (.inr (0, 8))) (.inr (0, 8))) (.inr (0, 5))) (.inr (0, 160))) (.inr (1, 80))) (.inr (4, 16))) (.inr (0, 32))) (.inr (3, 8))) (.inr (0, 160))) (.inr (1, 40))) (.inr (0, 1140))) (.inr (0, 57))) (.inr (0, 9))) (.inr (0, 57))) (.inr (4, 3000))) (.inr (4, 3000))) (.inr (0, 3000))) (.inr (0, 3000))) (.inr (0, 3000))) (.inr (0, 8192))) (.inr (0, 399))) (.inr (0, 3000))) (.inr (0, 36))) (.inr (0, 142))) (.inr (3, 2))) (.inr (0, 2)))) μX12_init (d + 1) 29 28601 [.ref (adb bs b)] m (K_X12 m b n) := by
  refine CtK.of (n := n) (by decide +kernel) rfl rfl hn (Nat.le_of_ble_eq_true rfl) ?_
  refine aw_eq (L' := [(0, .ref (adb bs b))]) ?_ rfl rfl rfl
  refine aw_aload_n (j := 0) dX12_init_0 rfl rfl ?_
  refine aw_objInit dX12_init_1 ob_X12_3 (Nat.le_of_ble_eq_true rfl) ?_
  refine aw_aload_n (j := 0) dX12_init_4 rfl rfl ?_
  refine aw_iconst (v := 2) dX12_init_5 (by decide) ?_
  refine aw_putI dX12_init_6 f_X12_9 cl_X12 rfl hb rfl (by decide) (by decide) ?_
  refine aw_aload_n (j := 0) dX12_init_9 rfl rfl ?_
  refine aw_bipush (v := 32) dX12_init_10 (by decide) ?_
  refine aw_newa0 (n := n) (kc := 28) (ks := 28569) (N := 32) dX12_init_12 hn ar_0 (by decide) (by decide +kernel) (by decide +kernel) ?_
  refine aw_putFR (x := n) dX12_init_14 f_X12_13 cl_X12 rfl rfl rfl (at_old hb) rfl rfl rfl ?_
  refine aw_aload_n (j := 0) dX12_init_17 rfl rfl ?_
  refine aw_bipush (v := 8) dX12_init_18 (by decide) ?_
  refine aw_newa3 (n := n + 1) (kc := 27) (ks := 28561) (N := 8) dX12_init_20 (len_push hn) ar_3 (by decide) (by decide +kernel) (by decide +kernel) ?_
  refine aw_putFR (x := n + 1) dX12_init_22 f_X12_17 cl_X12 rfl rfl rfl (at_old (at_old hb)) rfl rfl rfl ?_
  refine aw_aload_n (j := 0) dX12_init_25 rfl rfl ?_
  refine aw_bipush (v := 8) dX12_init_26 (by decide) ?_
  refine aw_newa0 (n := n + 2) (kc := 26) (ks := 28553) (N := 8) dX12_init_28 (len_push (len_push hn)) ar_0 (by decide) (by decide +kernel) (by decide +kernel) ?_
  refine aw_putFR (x := n + 2) dX12_init_30 f_X12_21 cl_X12 rfl rfl rfl (at_old (at_old (at_old hb))) rfl rfl rfl ?_
  refine aw_aload_n (j := 0) dX12_init_33 rfl rfl ?_
  refine aw_bipush (v := 8) dX12_init_34 (by decide) ?_
  refine aw_newa0 (n := n + 3) (kc := 25) (ks := 28545) (N := 8) dX12_init_36 (len_push (len_push (len_push hn))) ar_0 (by decide) (by decide +kernel) (by decide +kernel) ?_
  refine aw_putFR (x := n + 3) dX12_init_38 f_X12_24 cl_X12 rfl rfl rfl (at_old (at_old (at_old (at_old hb)))) rfl rfl rfl ?_
  refine aw_aload_n (j := 0) dX12_init_41 rfl rfl ?_
  refine aw_bipush (v := 8) dX12_init_42 (by decide) ?_
  refine aw_newa0 (n := n + 4) (kc := 24) (ks := 28537) (N := 8) dX12_init_44 (len_push (len_push (len_push (len_push hn)))) ar_0 (by decide) (by decide +kernel) (by decide +kernel) ?_
  refine aw_putFR (x := n + 4) dX12_init_46 f_X12_27 cl_X12 rfl rfl rfl (at_old (at_old (at_old (at_old (at_old hb))))) rfl rfl rfl ?_
  refine aw_aload_n (j := 0) dX12_init_49 rfl rfl ?_
  refine aw_iconst (v := 5) dX12_init_50 (by decide) ?_
  refine aw_newa0 (n := n + 5) (kc := 23) (ks := 28532) (N := 5) dX12_init_51 (len_push (len_push (len_push (len_push (len_push hn))))) ar_0 (by decide) (by decide +kernel) (by decide +kernel) ?_
  refine aw_dup dX12_init_53 rfl ?_
  refine aw_iconst (v := 0) dX12_init_54 (by decide) ?_
  refine aw_iconst (v := 0) dX12_init_55 (by decide) ?_
  refine aw_iastore dX12_init_56 (at_new (len_push (len_push (len_push (len_push (len_push hn)))))) (by unfold vp_in; decide) ?_
  refine aw_dup dX12_init_57 rfl ?_
  refine aw_iconst (v := 1) dX12_init_58 (by decide) ?_
  refine aw_iconst (v := 1) dX12_init_59 (by decide) ?_
  refine aw_iastore dX12_init_60 (at_new (len_push (len_push (len_push (len_push (len_push hn)))))) (by unfold vp_in; decide) ?_
  refine aw_dup dX12_init_61 rfl ?_
  refine aw_iconst (v := 2) dX12_init_62 (by decide) ?_
  refine aw_iconst (v := 1) dX12_init_63 (by decide) ?_
  refine aw_iastore dX12_init_64 (at_new (len_push (len_push (len_push (len_push (len_push hn)))))) (by unfold vp_in; decide) ?_
  refine aw_dup dX12_init_65 rfl ?_
  refine aw_iconst (v := 3) dX12_init_66 (by decide) ?_
  refine aw_iconst (v := 0) dX12_init_67 (by decide) ?_
  refine aw_iastore dX12_init_68 (at_new (len_push (len_push (len_push (len_push (len_push hn)))))) (by unfold vp_in; decide) ?_
  refine aw_dup dX12_init_69 rfl ?_
  refine aw_iconst (v := 4) dX12_init_70 (by decide) ?_
  refine aw_iconst (v := 0) dX12_init_71 (by decide) ?_
  refine aw_iastore dX12_init_72 (at_new (len_push (len_push (len_push (len_push (len_push hn)))))) (by unfold vp_in; decide) ?_
  refine aw_putFR (x := n + 5) dX12_init_73 f_X12_30 cl_X12 rfl rfl rfl (at_old (at_old (at_old (at_old (at_old (at_old hb)))))) rfl rfl rfl ?_
  refine aw_aload_n (j := 0) dX12_init_76 rfl rfl ?_
  refine aw_iconst (v := 1) dX12_init_77 (by decide) ?_
  refine aw_putI dX12_init_78 f_X12_33 cl_X12 rfl (at_old (at_old (at_old (at_old (at_old (at_old hb)))))) rfl (by decide) (by decide) ?_
  refine aw_aload_n (j := 0) dX12_init_81 rfl rfl ?_
  refine aw_sipush (v := 160) dX12_init_82 (by decide) ?_
  refine aw_newa0 (n := n + 6) (kc := 22) (ks := 28372) (N := 160) dX12_init_85 (len_push (len_push (len_push (len_push (len_push (len_push hn)))))) ar_0 (by decide) (by decide +kernel) (by decide +kernel) ?_
  refine aw_putFR (x := n + 6) dX12_init_87 f_X12_36 cl_X12 rfl rfl rfl (at_old (at_old (at_old (at_old (at_old (at_old (at_old hb))))))) rfl rfl rfl ?_
  refine aw_aload_n (j := 0) dX12_init_90 rfl rfl ?_
  refine aw_bipush (v := 80) dX12_init_91 (by decide) ?_
  refine aw_newa1 (n := n + 7) (kc := 21) (ks := 28292) (N := 80) dX12_init_93 (len_push (len_push (len_push (len_push (len_push (len_push (len_push hn))))))) ar_1 (by decide) (by decide +kernel) (by decide +kernel) ?_
  refine aw_putFR (x := n + 7) dX12_init_95 f_X12_39 cl_X12 rfl rfl rfl (at_old (at_old (at_old (at_old (at_old (at_old (at_old (at_old hb)))))))) rfl rfl rfl ?_
  refine aw_aload_n (j := 0) dX12_init_98 rfl rfl ?_
  refine aw_bipush (v := 16) dX12_init_99 (by decide) ?_
  refine aw_newa4 (n := n + 8) (kc := 20) (ks := 28276) (N := 16) dX12_init_101 (len_push (len_push (len_push (len_push (len_push (len_push (len_push (len_push hn)))))))) ar_4 (by decide) (by decide +kernel) (by decide +kernel) ?_
  refine aw_putFR (x := n + 8) dX12_init_103 f_X12_43 cl_X12 rfl rfl rfl (at_old (at_old (at_old (at_old (at_old (at_old (at_old (at_old (at_old hb))))))))) rfl rfl rfl ?_
  refine aw_aload_n (j := 0) dX12_init_106 rfl rfl ?_
  refine aw_bipush (v := 32) dX12_init_107 (by decide) ?_
  refine aw_newa0 (n := n + 9) (kc := 19) (ks := 28244) (N := 32) dX12_init_109 (len_push (len_push (len_push (len_push (len_push (len_push (len_push (len_push (len_push hn))))))))) ar_0 (by decide) (by decide +kernel) (by decide +kernel) ?_
  refine aw_putFR (x := n + 9) dX12_init_111 f_X12_47 cl_X12 rfl rfl rfl (at_old (at_old (at_old (at_old (at_old (at_old (at_old (at_old (at_old (at_old hb)))))))))) rfl rfl rfl ?_
  refine aw_aload_n (j := 0) dX12_init_114 rfl rfl ?_
  refine aw_bipush (v := 8) dX12_init_115 (by decide) ?_
  refine aw_newa3 (n := n + 10) (kc := 18) (ks := 28236) (N := 8) dX12_init_117 (len_push (len_push (len_push (len_push (len_push (len_push (len_push (len_push (len_push (len_push hn)))))))))) ar_3 (by decide) (by decide +kernel) (by decide +kernel) ?_
  refine aw_putFR (x := n + 10) dX12_init_119 f_X12_50 cl_X12 rfl rfl rfl (at_old (at_old (at_old (at_old (at_old (at_old (at_old (at_old (at_old (at_old (at_old hb))))))))))) rfl rfl rfl ?_
  refine aw_aload_n (j := 0) dX12_init_122 rfl rfl ?_
  refine aw_sipush (v := 160) dX12_init_123 (by decide) ?_
  refine aw_newa0 (n := n + 11) (kc := 17) (ks := 28076) (N := 160) dX12_init_126 (len_push (len_push (len_push (len_push (len_push (len_push (len_push (len_push (len_push (len_push (len_push hn))))))))))) ar_0 (by decide) (by decide +kernel) (by decide +kernel) ?_
  refine aw_putFR (x := n + 11) dX12_init_128 f_X12_53 cl_X12 rfl rfl rfl (at_old (at_old (at_old (at_old (at_old (at_old (at_old (at_old (at_old (at_old (at_old (at_old hb)))))))))))) rfl rfl rfl ?_
  refine aw_aload_n (j := 0) dX12_init_131 rfl rfl ?_
  refine aw_bipush (v := 40) dX12_init_132 (by decide) ?_
  refine aw_newa1 (n := n + 12) (kc := 16) (ks := 28036) (N := 40) dX12_init_134 (len_push (len_push (len_push (len_push (len_push (len_push (len_push (len_push (len_push (len_push (len_push (len_push hn)))))))))))) ar_1 (by decide) (by decide +kernel) (by decide +kernel) ?_
  refine aw_putFR (x := n + 12) dX12_init_136 f_X12_56 cl_X12 rfl rfl rfl (at_old (at_old (at_old (at_old (at_old (at_old (at_old (at_old (at_old (at_old (at_old (at_old (at_old hb))))))))))))) rfl rfl rfl ?_
  refine aw_aload_n (j := 0) dX12_init_139 rfl rfl ?_
  refine aw_iconst (v := -1) dX12_init_140 (by decide) ?_
  refine aw_putI dX12_init_141 f_X12_59 cl_X12 rfl (at_old (at_old (at_old (at_old (at_old (at_old (at_old (at_old (at_old (at_old (at_old (at_old (at_old hb))))))))))))) rfl (by decide) (by decide) ?_
  refine aw_aload_n (j := 0) dX12_init_144 rfl rfl ?_
  refine aw_sipush (v := 1140) dX12_init_145 (by decide) ?_
  refine aw_newa0 (n := n + 13) (kc := 15) (ks := 26896) (N := 1140) dX12_init_148 (len_push (len_push (len_push (len_push (len_push (len_push (len_push (len_push (len_push (len_push (len_push (len_push (len_push hn))))))))))))) ar_0 (by decide) (by decide +kernel) (by decide +kernel) ?_
  refine aw_putFR (x := n + 13) dX12_init_150 f_X12_62 cl_X12 rfl rfl rfl (at_old (at_old (at_old (at_old (at_old (at_old (at_old (at_old (at_old (at_old (at_old (at_old (at_old (at_old hb)))))))))))))) rfl rfl rfl ?_
  refine aw_aload_n (j := 0) dX12_init_153 rfl rfl ?_
  refine aw_bipush (v := 57) dX12_init_154 (by decide) ?_
  refine aw_newa0 (n := n + 14) (kc := 14) (ks := 26839) (N := 57) dX12_init_156 (len_push (len_push (len_push (len_push (len_push (len_push (len_push (len_push (len_push (len_push (len_push (len_push (len_push (len_push hn)))))))))))))) ar_0 (by decide) (by decide +kernel) (by decide +kernel) ?_
  refine aw_putFR (x := n + 14) dX12_init_158 f_X12_65 cl_X12 rfl rfl rfl (at_old (at_old (at_old (at_old (at_old (at_old (at_old (at_old (at_old (at_old (at_old (at_old (at_old (at_old (at_old hb))))))))))))))) rfl rfl rfl ?_
  refine aw_aload_n (j := 0) dX12_init_161 rfl rfl ?_
  refine aw_bipush (v := 9) dX12_init_162 (by decide) ?_
  refine aw_newa0 (n := n + 15) (kc := 13) (ks := 26830) (N := 9) dX12_init_164 (len_push (len_push (len_push (len_push (len_push (len_push (len_push (len_push (len_push (len_push (len_push (len_push (len_push (len_push (len_push hn))))))))))))))) ar_0 (by decide) (by decide +kernel) (by decide +kernel) ?_
  refine aw_putFR (x := n + 15) dX12_init_166 f_X12_68 cl_X12 rfl rfl rfl (at_old (at_old (at_old (at_old (at_old (at_old (at_old (at_old (at_old (at_old (at_old (at_old (at_old (at_old (at_old (at_old hb)))))))))))))))) rfl rfl rfl ?_
  refine aw_aload_n (j := 0) dX12_init_169 rfl rfl ?_
  refine aw_bipush (v := 57) dX12_init_170 (by decide) ?_
  refine aw_newa0 (n := n + 16) (kc := 12) (ks := 26773) (N := 57) dX12_init_172 (len_push (len_push (len_push (len_push (len_push (len_push (len_push (len_push (len_push (len_push (len_push (len_push (len_push (len_push (len_push (len_push hn)))))))))))))))) ar_0 (by decide) (by decide +kernel) (by decide +kernel) ?_
  refine aw_putFR (x := n + 16) dX12_init_174 f_X12_71 cl_X12 rfl rfl rfl (at_old (at_old (at_old (at_old (at_old (at_old (at_old (at_old (at_old (at_old (at_old (at_old (at_old (at_old (at_old (at_old (at_old hb))))))))))))))))) rfl rfl rfl ?_
  refine aw_aload_n (j := 0) dX12_init_177 rfl rfl ?_
  refine aw_sipush (v := 3000) dX12_init_178 (by decide) ?_
  refine aw_newa4 (n := n + 17) (kc := 11) (ks := 23773) (N := 3000) dX12_init_181 (len_push (len_push (len_push (len_push (len_push (len_push (len_push (len_push (len_push (len_push (len_push (len_push (len_push (len_push (len_push (len_push (len_push hn))))))))))))))))) ar_4 (by decide) (by decide +kernel) (by decide +kernel) ?_
  refine aw_putFR (x := n + 17) dX12_init_183 f_X12_74 cl_X12 rfl rfl rfl (at_old (at_old (at_old (at_old (at_old (at_old (at_old (at_old (at_old (at_old (at_old (at_old (at_old (at_old (at_old (at_old (at_old (at_old hb)))))))))))))))))) rfl rfl rfl ?_
  refine aw_aload_n (j := 0) dX12_init_186 rfl rfl ?_
  refine aw_sipush (v := 3000) dX12_init_187 (by decide) ?_
  refine aw_newa4 (n := n + 18) (kc := 10) (ks := 20773) (N := 3000) dX12_init_190 (len_push (len_push (len_push (len_push (len_push (len_push (len_push (len_push (len_push (len_push (len_push (len_push (len_push (len_push (len_push (len_push (len_push (len_push hn)))))))))))))))))) ar_4 (by decide) (by decide +kernel) (by decide +kernel) ?_
  refine aw_putFR (x := n + 18) dX12_init_192 f_X12_77 cl_X12 rfl rfl rfl (at_old (at_old (at_old (at_old (at_old (at_old (at_old (at_old (at_old (at_old (at_old (at_old (at_old (at_old (at_old (at_old (at_old (at_old (at_old hb))))))))))))))))))) rfl rfl rfl ?_
  refine aw_aload_n (j := 0) dX12_init_195 rfl rfl ?_
  refine aw_sipush (v := 3000) dX12_init_196 (by decide) ?_
  refine aw_newa0 (n := n + 19) (kc := 9) (ks := 17773) (N := 3000) dX12_init_199 (len_push (len_push (len_push (len_push (len_push (len_push (len_push (len_push (len_push (len_push (len_push (len_push (len_push (len_push (len_push (len_push (len_push (len_push (len_push hn))))))))))))))))))) ar_0 (by decide) (by decide +kernel) (by decide +kernel) ?_
  refine aw_putFR (x := n + 19) dX12_init_201 f_X12_80 cl_X12 rfl rfl rfl (at_old (at_old (at_old (at_old (at_old (at_old (at_old (at_old (at_old (at_old (at_old (at_old (at_old (at_old (at_old (at_old (at_old (at_old (at_old (at_old hb)))))))))))))))))))) rfl rfl rfl ?_
  refine aw_aload_n (j := 0) dX12_init_204 rfl rfl ?_
  refine aw_sipush (v := 3000) dX12_init_205 (by decide) ?_
  refine aw_newa0 (n := n + 20) (kc := 8) (ks := 14773) (N := 3000) dX12_init_208 (len_push (len_push (len_push (len_push (len_push (len_push (len_push (len_push (len_push (len_push (len_push (len_push (len_push (len_push (len_push (len_push (len_push (len_push (len_push (len_push hn)))))))))))))))))))) ar_0 (by decide) (by decide +kernel) (by decide +kernel) ?_
  refine aw_putFR (x := n + 20) dX12_init_210 f_X12_83 cl_X12 rfl rfl rfl (at_old (at_old (at_old (at_old (at_old (at_old (at_old (at_old (at_old (at_old (at_old (at_old (at_old (at_old (at_old (at_old (at_old (at_old (at_old (at_old (at_old hb))))))))))))))))))))) rfl rfl rfl ?_
  refine aw_aload_n (j := 0) dX12_init_213 rfl rfl ?_
  refine aw_sipush (v := 3000) dX12_init_214 (by decide) ?_
  refine aw_newa0 (n := n + 21) (kc := 7) (ks := 11773) (N := 3000) dX12_init_217 (len_push (len_push (len_push (len_push (len_push (len_push (len_push (len_push (len_push (len_push (len_push (len_push (len_push (len_push (len_push (len_push (len_push (len_push (len_push (len_push (len_push hn))))))))))))))))))))) ar_0 (by decide) (by decide +kernel) (by decide +kernel) ?_
  refine aw_putFR (x := n + 21) dX12_init_219 f_X12_86 cl_X12 rfl rfl rfl (at_old (at_old (at_old (at_old (at_old (at_old (at_old (at_old (at_old (at_old (at_old (at_old (at_old (at_old (at_old (at_old (at_old (at_old (at_old (at_old (at_old (at_old hb)))))))))))))))))))))) rfl rfl rfl ?_
  refine aw_aload_n (j := 0) dX12_init_222 rfl rfl ?_
  refine aw_sipush (v := 8192) dX12_init_223 (by decide) ?_
  refine aw_newa0 (n := n + 22) (kc := 6) (ks := 3581) (N := 8192) dX12_init_226 (len_push (len_push (len_push (len_push (len_push (len_push (len_push (len_push (len_push (len_push (len_push (len_push (len_push (len_push (len_push (len_push (len_push (len_push (len_push (len_push (len_push (len_push hn)))))))))))))))))))))) ar_0 (by decide) (by decide +kernel) (by decide +kernel) ?_
  refine aw_putFR (x := n + 22) dX12_init_228 f_X12_89 cl_X12 rfl rfl rfl (at_old (at_old (at_old (at_old (at_old (at_old (at_old (at_old (at_old (at_old (at_old (at_old (at_old (at_old (at_old (at_old (at_old (at_old (at_old (at_old (at_old (at_old (at_old hb))))))))))))))))))))))) rfl rfl rfl ?_
  refine aw_aload_n (j := 0) dX12_init_231 rfl rfl ?_
  refine aw_sipush (v := 399) dX12_init_232 (by decide) ?_
  refine aw_newa0 (n := n + 23) (kc := 5) (ks := 3182) (N := 399) dX12_init_235 (len_push (len_push (len_push (len_push (len_push (len_push (len_push (len_push (len_push (len_push (len_push (len_push (len_push (len_push (len_push (len_push (len_push (len_push (len_push (len_push (len_push (len_push (len_push hn))))))))))))))))))))))) ar_0 (by decide) (by decide +kernel) (by decide +kernel) ?_
  refine aw_putFR (x := n + 23) dX12_init_237 f_X12_92 cl_X12 rfl rfl rfl (at_old (at_old (at_old (at_old (at_old (at_old (at_old (at_old (at_old (at_old (at_old (at_old (at_old (at_old (at_old (at_old (at_old (at_old (at_old (at_old (at_old (at_old (at_old (at_old hb)))))))))))))))))))))))) rfl rfl rfl ?_
  refine aw_aload_n (j := 0) dX12_init_240 rfl rfl ?_
  refine aw_sipush (v := 3000) dX12_init_241 (by decide) ?_
  refine aw_newa0 (n := n + 24) (kc := 4) (ks := 182) (N := 3000) dX12_init_244 (len_push (len_push (len_push (len_push (len_push (len_push (len_push (len_push (len_push (len_push (len_push (len_push (len_push (len_push (len_push (len_push (len_push (len_push (len_push (len_push (len_push (len_push (len_push (len_push hn)))))))))))))))))))))))) ar_0 (by decide) (by decide +kernel) (by decide +kernel) ?_
  refine aw_putFR (x := n + 24) dX12_init_246 f_X12_95 cl_X12 rfl rfl rfl (at_old (at_old (at_old (at_old (at_old (at_old (at_old (at_old (at_old (at_old (at_old (at_old (at_old (at_old (at_old (at_old (at_old (at_old (at_old (at_old (at_old (at_old (at_old (at_old (at_old hb))))))))))))))))))))))))) rfl rfl rfl ?_
  refine aw_aload_n (j := 0) dX12_init_249 rfl rfl ?_
  refine aw_bipush (v := 36) dX12_init_250 (by decide) ?_
  refine aw_newa0 (n := n + 25) (kc := 3) (ks := 146) (N := 36) dX12_init_252 (len_push (len_push (len_push (len_push (len_push (len_push (len_push (len_push (len_push (len_push (len_push (len_push (len_push (len_push (len_push (len_push (len_push (len_push (len_push (len_push (len_push (len_push (len_push (len_push (len_push hn))))))))))))))))))))))))) ar_0 (by decide) (by decide +kernel) (by decide +kernel) ?_
  refine aw_putFR (x := n + 25) dX12_init_254 f_X12_98 cl_X12 rfl rfl rfl (at_old (at_old (at_old (at_old (at_old (at_old (at_old (at_old (at_old (at_old (at_old (at_old (at_old (at_old (at_old (at_old (at_old (at_old (at_old (at_old (at_old (at_old (at_old (at_old (at_old (at_old hb)))))))))))))))))))))))))) rfl rfl rfl ?_
  refine aw_aload_n (j := 0) dX12_init_257 rfl rfl ?_
  refine aw_sipush (v := 142) dX12_init_258 (by decide) ?_
  refine aw_newa0 (n := n + 26) (kc := 2) (ks := 4) (N := 142) dX12_init_261 (len_push (len_push (len_push (len_push (len_push (len_push (len_push (len_push (len_push (len_push (len_push (len_push (len_push (len_push (len_push (len_push (len_push (len_push (len_push (len_push (len_push (len_push (len_push (len_push (len_push (len_push hn)))))))))))))))))))))))))) ar_0 (by decide) (by decide +kernel) (by decide +kernel) ?_
  refine aw_putFR (x := n + 26) dX12_init_263 f_X12_101 cl_X12 rfl rfl rfl (at_old (at_old (at_old (at_old (at_old (at_old (at_old (at_old (at_old (at_old (at_old (at_old (at_old (at_old (at_old (at_old (at_old (at_old (at_old (at_old (at_old (at_old (at_old (at_old (at_old (at_old (at_old hb))))))))))))))))))))))))))) rfl rfl rfl ?_
  refine aw_aload_n (j := 0) dX12_init_266 rfl rfl ?_
  refine aw_iconst (v := 2) dX12_init_267 (by decide) ?_
  refine aw_newa3 (n := n + 27) (kc := 1) (ks := 2) (N := 2) dX12_init_268 (len_push (len_push (len_push (len_push (len_push (len_push (len_push (len_push (len_push (len_push (len_push (len_push (len_push (len_push (len_push (len_push (len_push (len_push (len_push (len_push (len_push (len_push (len_push (len_push (len_push (len_push (len_push hn))))))))))))))))))))))))))) ar_3 (by decide) (by decide +kernel) (by decide +kernel) ?_
  refine aw_putFR (x := n + 27) dX12_init_270 f_X12_104 cl_X12 rfl rfl rfl (at_old (at_old (at_old (at_old (at_old (at_old (at_old (at_old (at_old (at_old (at_old (at_old (at_old (at_old (at_old (at_old (at_old (at_old (at_old (at_old (at_old (at_old (at_old (at_old (at_old (at_old (at_old (at_old hb)))))))))))))))))))))))))))) rfl rfl rfl ?_
  refine aw_aload_n (j := 0) dX12_init_273 rfl rfl ?_
  refine aw_iconst (v := 2) dX12_init_274 (by decide) ?_
  refine aw_newa0 (n := n + 28) (kc := 0) (ks := 0) (N := 2) dX12_init_275 (len_push (len_push (len_push (len_push (len_push (len_push (len_push (len_push (len_push (len_push (len_push (len_push (len_push (len_push (len_push (len_push (len_push (len_push (len_push (len_push (len_push (len_push (len_push (len_push (len_push (len_push (len_push (len_push hn)))))))))))))))))))))))))))) ar_0 (by decide) (by decide +kernel) (by decide +kernel) ?_
  refine aw_putFR (x := n + 28) dX12_init_277 f_X12_107 cl_X12 rfl rfl rfl (at_old (at_old (at_old (at_old (at_old (at_old (at_old (at_old (at_old (at_old (at_old (at_old (at_old (at_old (at_old (at_old (at_old (at_old (at_old (at_old (at_old (at_old (at_old (at_old (at_old (at_old (at_old (at_old (at_old hb))))))))))))))))))))))))))))) rfl rfl rfl ?_
  exact aw_ret (v := none) rfl (Or.inl ⟨rfl, rfl, dX12_init_280⟩) ⟨rfl, rfl⟩
end
section
def K_X2 (m : Wm) : Wm := (uR (K_X8 (zm (uR (K_X8 (zm (uR (K_X8 (zm (uR (K_X8 (zm (uR (K_X8 (zm (uR (K_X8 (zm (uR (K_X8 (zm (uR (K_X8 (zm (uR (K_X8 (zm (uR (K_X8 (zm (uR (K_X8 (zm (uR (K_X8 (zm (uR (K_X8 (zm (uR (K_X8 (zm (uR (K_X8 (zm (uR (K_X8 (zm (uR (K_X8 (zm (uR (K_X8 (zm (uR (K_X8 (zm (uR (K_X8 (zm (uI (uI (uR (zm m 32) 31 0 (some 32)) 31 1 (0)) 31 2 (0)) 33) 33 34) 32 (0 : Int32).toNatClampNeg (some 33)) 38) 38 39) 32 (1 : Int32).toNatClampNeg (some 38)) 43) 43 44) 32 (2 : Int32).toNatClampNeg (some 43)) 48) 48 49) 32 (3 : Int32).toNatClampNeg (some 48)) 53) 53 54) 32 (4 : Int32).toNatClampNeg (some 53)) 58) 58 59) 32 (5 : Int32).toNatClampNeg (some 58)) 63) 63 64) 32 (6 : Int32).toNatClampNeg (some 63)) 68) 68 69) 32 (7 : Int32).toNatClampNeg (some 68)) 73) 73 74) 32 (8 : Int32).toNatClampNeg (some 73)) 78) 78 79) 32 (9 : Int32).toNatClampNeg (some 78)) 83) 83 84) 32 (10 : Int32).toNatClampNeg (some 83)) 88) 88 89) 32 (11 : Int32).toNatClampNeg (some 88)) 93) 93 94) 32 (12 : Int32).toNatClampNeg (some 93)) 98) 98 99) 32 (13 : Int32).toNatClampNeg (some 98)) 103) 103 104) 32 (14 : Int32).toNatClampNeg (some 103)) 108) 108 109) 32 (15 : Int32).toNatClampNeg (some 108)) 113) 113 114) 32 (16 : Int32).toNatClampNeg (some 113)) 118) 118 119) 32 (17 : Int32).toNatClampNeg (some 118)) 123) 123 124) 32 (18 : Int32).toNatClampNeg (some 123)) 128) 128 129) 32 (19 : Int32).toNatClampNeg (some 128))
def N_X2 (lay : List Ent) : List Ent := (ps (ps (ps (ps (ps (ps (ps (ps (ps (ps (ps (ps (ps (ps (ps (ps (ps (ps (ps (ps (ps (ps (ps (ps (ps (ps (ps (ps (ps (ps (ps (ps (ps (ps (ps (ps (ps (ps (ps (ps (ps (ps (ps (ps (ps (ps (ps (ps (ps (ps (ps (ps (ps (ps (ps (ps (ps (ps (ps (ps (ps (ps (ps (ps (ps (ps (ps (ps (ps (ps (ps (ps (ps (ps (ps (ps (ps (ps (ps (ps (ps (ps (ps (ps (ps (ps (ps (ps (ps (ps (ps (ps (ps (ps (ps (ps (ps (ps (ps (ps (ps lay (.inr (6, 20))) (.inl (8, [2, 2, 2, 2, 0]))) (.inr (0, 32))) (.inr (0, 8))) (.inr (0, 8))) (.inr (0, 8))) (.inl (8, [2, 2, 2, 2, 0]))) (.inr (0, 32))) (.inr (0, 8))) (.inr (0, 8))) (.inr (0, 8))) (.inl (8, [2, 2, 2, 2, 0]))) (.inr (0, 32))) (.inr (0, 8))) (.inr (0, 8))) (.inr (0, 8))) (.inl (8, [2, 2, 2, 2, 0]))) (.inr (0, 32))) (.inr (0, 8))) (.inr (0, 8))) (.inr (0, 8))) (.inl (8, [2, 2, 2, 2, 0]))) (.inr (0, 32))) (.inr (0, 8))) (.inr (0, 8))) (.inr (0, 8))) (.inl (8, [2, 2, 2, 2, 0]))) (.inr (0, 32))) (.inr (0, 8))) (.inr (0, 8))) (.inr (0, 8))) (.inl (8, [2, 2, 2, 2, 0]))) (.inr (0, 32))) (.inr (0, 8))) (.inr (0, 8))) (.inr (0, 8))) (.inl (8, [2, 2, 2, 2, 0]))) (.inr (0, 32))) (.inr (0, 8))) (.inr (0, 8))) (.inr (0, 8))) (.inl (8, [2, 2, 2, 2, 0]))) (.inr (0, 32))) (.inr (0, 8))) (.inr (0, 8))) (.inr (0, 8))) (.inl (8, [2, 2, 2, 2, 0]))) (.inr (0, 32))) (.inr (0, 8))) (.inr (0, 8))) (.inr (0, 8))) (.inl (8, [2, 2, 2, 2, 0]))) (.inr (0, 32))) (.inr (0, 8))) (.inr (0, 8))) (.inr (0, 8))) (.inl (8, [2, 2, 2, 2, 0]))) (.inr (0, 32))) (.inr (0, 8))) (.inr (0, 8))) (.inr (0, 8))) (.inl (8, [2, 2, 2, 2, 0]))) (.inr (0, 32))) (.inr (0, 8))) (.inr (0, 8))) (.inr (0, 8))) (.inl (8, [2, 2, 2, 2, 0]))) (.inr (0, 32))) (.inr (0, 8))) (.inr (0, 8))) (.inr (0, 8))) (.inl (8, [2, 2, 2, 2, 0]))) (.inr (0, 32))) (.inr (0, 8))) (.inr (0, 8))) (.inr (0, 8))) (.inl (8, [2, 2, 2, 2, 0]))) (.inr (0, 32))) (.inr (0, 8))) (.inr (0, 8))) (.inr (0, 8))) (.inl (8, [2, 2, 2, 2, 0]))) (.inr (0, 32))) (.inr (0, 8))) (.inr (0, 8))) (.inr (0, 8))) (.inl (8, [2, 2, 2, 2, 0]))) (.inr (0, 32))) (.inr (0, 8))) (.inr (0, 8))) (.inr (0, 8))) (.inl (8, [2, 2, 2, 2, 0]))) (.inr (0, 32))) (.inr (0, 8))) (.inr (0, 8))) (.inr (0, 8))) (.inl (8, [2, 2, 2, 2, 0]))) (.inr (0, 32))) (.inr (0, 8))) (.inr (0, 8))) (.inr (0, 8)))
set_option maxRecDepth 100000 in
set_option maxHeartbeats 40000000 in
theorem n_X2 {bs d : Nat} {lay : List Ent} {m : Wm} (hn : lay.length = 32) (hb : lay[31]? = some (.inl (2, [2, 0, 0]))) : CtK bs lay ((ps (ps (ps (ps (ps (ps (ps (ps (ps (ps (ps (ps (ps (ps (ps (ps (ps (ps (ps (ps (ps (ps (ps (ps (ps (ps (ps (ps (ps (ps (ps (ps (ps (ps (ps (ps (ps (ps (ps (ps (ps (ps (ps (ps (ps (ps (ps (ps (ps (ps (ps (ps (ps (ps (ps (ps (ps (ps (ps (ps (ps (ps (ps (ps (ps (ps (ps (ps (ps (ps (ps (ps (ps (ps (ps (ps (ps (ps (ps (ps (ps (ps (ps (ps (ps (ps (ps (ps (ps (ps (ps (ps (ps (ps (ps (ps (ps (ps (ps (ps (ps lay (.inr (6, 20))) (.inl (8, [2, 2, 2, 2, 0]))) (.inr (0, 32))) (.inr (0, 8))) (.inr (0, 8))) (.inr (0, 8))) (.inl (8, [2, 2, 2, 2, 0]))) (.inr (0, 32))) (.inr (0, 8))) (.inr (0, 8))) (.inr (0, 8))) (.inl (8, [2, 2, 2, 2, 0]))) (.inr (0, 32))) (.inr (0, 8))) (.inr (0, 8))) (.inr (0, 8))) (.inl (8, [2, 2, 2, 2, 0]))) (.inr (0, 32))) (.inr (0, 8))) (.inr (0, 8))) (.inr (0, 8))) (.inl (8, [2, 2, 2, 2, 0]))) (.inr (0, 32))) (.inr (0, 8))) (.inr (0, 8))) (.inr (0, 8))) (.inl (8, [2, 2, 2, 2, 0]))) (.inr (0, 32))) (.inr (0, 8))) (.inr (0, 8))) (.inr (0, 8))) (.inl (8, [2, 2, 2, 2, 0]))) (.inr (0, 32))) (.inr (0, 8))) (.inr (0, 8))) (.inr (0, 8))) (.inl (8, [2, 2, 2, 2, 0]))) (.inr (0, 32))) (.inr (0, 8))) (.inr (0, 8))) (.inr (0, 8))) (.inl (8, [2, 2, 2, 2, 0]))) (.inr (0, 32))) (.inr (0, 8))) (.inr (0, 8))) (.inr (0, 8))) (.inl (8, [2, 2, 2, 2, 0]))) (.inr (0, 32))) (.inr (0, 8))) (.inr (0, 8))) (.inr (0, 8))) (.inl (8, [2, 2, 2, 2, 0]))) (.inr (0, 32))) (.inr (0, 8))) (.inr (0, 8))) (.inr (0, 8))) (.inl (8, [2, 2, 2, 2, 0]))) (.inr (0, 32))) (.inr (0, 8))) (.inr (0, 8))) (.inr (0, 8))) (.inl (8, [2, 2, 2, 2, 0]))) (.inr (0, 32))) (.inr (0, 8))) (.inr (0, 8))) (.inr (0, 8))) (.inl (8, [2, 2, 2, 2, 0]))) (.inr (0, 32))) (.inr (0, 8))) (.inr (0, 8))) (.inr (0, 8))) (.inl (8, [2, 2, 2, 2, 0]))) (.inr (0, 32))) (.inr (0, 8))) (.inr (0, 8))) (.inr (0, 8))) (.inl (8, [2, 2, 2, 2, 0]))) (.inr (0, 32))) (.inr (0, 8))) (.inr (0, 8))) (.inr (0, 8))) (.inl (8, [2, 2, 2, 2, 0]))) (.inr (0, 32))) (.inr (0, 8))) (.inr (0, 8))) (.inr (0, 8))) (.inl (8, [2, 2, 2, 2, 0]))) (.inr (0, 32))) (.inr (0, 8))) (.inr (0, 8))) (.inr (0, 8))) (.inl (8, [2, 2, 2, 2, 0]))) (.inr (0, 32))) (.inr (0, 8))) (.inr (0, 8))) (.inr (0, 8))) (.inl (8, [2, 2, 2, 2, 0]))) (.inr (0, 32))) (.inr (0, 8))) (.inr (0, 8))) (.inr (0, 8)))) μX2_init (d + 2) 101 1240 [.ref (adb bs 31)] m (K_X2 m) := by
  refine CtK.of (n := 32) (by decide +kernel) rfl rfl hn (Nat.le_of_ble_eq_true rfl) ?_
  unfold K_X2
  refine aw_eq (L' := [(0, .ref (adb bs 31))]) ?_ rfl rfl rfl
  refine aw_aload_n (j := 0) dX2_init_0 rfl rfl ?_
  refine aw_objInit dX2_init_1 ob_X2_1 (Nat.le_of_ble_eq_true rfl) ?_
  refine aw_aload_n (j := 0) dX2_init_4 rfl rfl ?_
  refine aw_bipush (v := 20) dX2_init_5 (by decide) ?_
  refine aw_newq6 (n := 32) (kc := 100) (ks := 1220) (N := 20) dX2_init_7 hn w_300 (by decide) (by decide +kernel) (by decide +kernel) ?_
  refine aw_putFR (x := 32) dX2_init_10 f_X2_11 cl_X2 rfl rfl rfl (at_old hb) rfl rfl rfl ?_
  refine aw_aload_n (j := 0) dX2_init_13 rfl rfl ?_
  refine aw_iconst (v := 0) dX2_init_14 (by decide) ?_
  refine aw_putI dX2_init_15 f_X2_15 cl_X2 rfl (at_old hb) rfl (by decide) (by decide) ?_
  refine aw_aload_n (j := 0) dX2_init_18 rfl rfl ?_
  refine aw_iconst (v := 0) dX2_init_19 (by decide) ?_
  refine aw_putI dX2_init_20 f_X2_19 cl_X2 rfl (at_old hb) rfl (by decide) (by decide) ?_
  refine aw_iconst (v := 0) dX2_init_23 (by decide) ?_
  refine aw_istore_n (L' := [(1, .int (0)), (0, .ref (adb bs 31))]) dX2_init_24 rfl (by decide) rfl ?_
  refine aw_iload_n (j := 0) dX2_init_25 rfl rfl ?_
  refine aw_bipush (v := 20) dX2_init_26 (by decide) ?_
  refine aw_icmp_ge (tgt := 50) dX2_init_28 (by decide) (fun hc => absurd hc (by decide)) (fun _ => ?_)
  refine aw_aload_n (j := 1) dX2_init_31 rfl rfl ?_
  refine aw_getfield (c := 2) (v := .ref (adb bs 32)) dX2_init_32 f_X2_11 (at_old hb) rfl rfl ?_
  refine aw_iload_n (j := 0) dX2_init_35 rfl rfl ?_
  refine aw_new (n := 33) (kc := 99) (ks := 1215) (N := 5) dX2_init_36 (len_push hn) nw_X2_9 ?_
  refine aw_dup dX2_init_39 rfl ?_
  refine aw_callIN (n := 34) (kc := 95) (ks := 1159) (kc' := 4) (ks' := 56) (rest := [.ref (adb bs 33), .int (0), .ref (adb bs 32)]) [] dX2_init_40 (len_push (len_push hn)) (by omega) (len_push (len_push (len_push (len_push (len_push (len_push hn)))))) ki_X2_22 rfl (n_X8 (hn := (len_push (len_push hn))) (hb := (at_new (len_push hn)))) (Nat.le_of_ble_eq_true rfl) ?_
  refine aw_aastore6 dX2_init_43 (at_old (at_old (at_old (at_old (at_old (at_new hn)))))) (at_old (at_old (at_old (at_old (at_new (len_push hn)))))) (by unfold vp_in; decide) ?_
  refine aw_iinc (j := 0) (v := 1) (L' := [(1, .int (1)), (0, .ref (adb bs 31))]) dX2_init_44 rfl (by decide) (by decide) rfl ?_
  refine aw_goto (tgt := 25) dX2_init_47 (by decide) ?_
  have hn0 : ((ps (ps (ps (ps (ps (ps lay (.inr (6, 20))) (.inl (8, [2, 2, 2, 2, 0]))) (.inr (0, 32))) (.inr (0, 8))) (.inr (0, 8))) (.inr (0, 8)))).length = 38 := (len_push (len_push (len_push (len_push (len_push (len_push hn))))))
  have he0_31 : ((ps (ps (ps (ps (ps (ps lay (.inr (6, 20))) (.inl (8, [2, 2, 2, 2, 0]))) (.inr (0, 32))) (.inr (0, 8))) (.inr (0, 8))) (.inr (0, 8))))[31]? = some (.inl (2, [2, 0, 0])) := (at_old (at_old (at_old (at_old (at_old (at_old hb))))))
  have he0_32 : ((ps (ps (ps (ps (ps (ps lay (.inr (6, 20))) (.inl (8, [2, 2, 2, 2, 0]))) (.inr (0, 32))) (.inr (0, 8))) (.inr (0, 8))) (.inr (0, 8))))[32]? = some (.inr (6, 20)) := (at_old (at_old (at_old (at_old (at_old (at_new hn))))))
  have hm0_0 : (uR (K_X8 (zm (uI (uI (uR (zm m 32) 31 0 (some 32)) 31 1 (0)) 31 2 (0)) 33) 33 34) 32 (0 : Int32).toNatClampNeg (some 33)).2.2 31 0 = some 32 := rfl
  generalize (ps (ps (ps (ps (ps (ps lay (.inr (6, 20))) (.inl (8, [2, 2, 2, 2, 0]))) (.inr (0, 32))) (.inr (0, 8))) (.inr (0, 8))) (.inr (0, 8))) = lay0 at hn0 he0_31 he0_32 ⊢
  generalize uR (K_X8 (zm (uI (uI (uR (zm m 32) 31 0 (some 32)) 31 1 (0)) 31 2 (0)) 33) 33 34) 32 (0 : Int32).toNatClampNeg (some 33) = m_0 at hm0_0 ⊢
  refine aw_iload_n (j := 0) dX2_init_25 rfl rfl ?_
  refine aw_bipush (v := 20) dX2_init_26 (by decide) ?_
  refine aw_icmp_ge (tgt := 50) dX2_init_28 (by decide) (fun hc => absurd hc (by decide)) (fun _ => ?_)
  refine aw_aload_n (j := 1) dX2_init_31 rfl rfl ?_
  refine aw_getfield (c := 2) (v := .ref (adb bs 32)) dX2_init_32 f_X2_11 he0_31 rfl (by show va_rf (Option.map (adb bs) (m_0.2.2 31 0)) = _; rw [show (m_0).2.2 31 0 = some 32 from hm0_0]; rfl) ?_
  refine aw_iload_n (j := 0) dX2_init_35 rfl rfl ?_
  refine aw_new (n := 38) (kc := 94) (ks := 1154) (N := 5) dX2_init_36 hn0 nw_X2_9 ?_
  refine aw_dup dX2_init_39 rfl ?_
  refine aw_callIN (n := 39) (kc := 90) (ks := 1098) (kc' := 4) (ks' := 56) (rest := [.ref (adb bs 38), .int (1), .ref (adb bs 32)]) [] dX2_init_40 (len_push hn0) (by omega) (len_push (len_push (len_push (len_push (len_push hn0))))) ki_X2_22 rfl (n_X8 (hn := (len_push hn0)) (hb := (at_new hn0))) (Nat.le_of_ble_eq_true rfl) ?_
  refine aw_aastore6 dX2_init_43 (at_old (at_old (at_old (at_old (at_old he0_32))))) (at_old (at_old (at_old (at_old (at_new hn0))))) (by unfold vp_in; decide) ?_
  refine aw_iinc (j := 0) (v := 2) (L' := [(1, .int (2)), (0, .ref (adb bs 31))]) dX2_init_44 rfl (by decide) (by decide) rfl ?_
  refine aw_goto (tgt := 25) dX2_init_47 (by decide) ?_
  have hn1 : ((ps (ps (ps (ps (ps lay0 (.inl (8, [2, 2, 2, 2, 0]))) (.inr (0, 32))) (.inr (0, 8))) (.inr (0, 8))) (.inr (0, 8)))).length = 43 := (len_push (len_push (len_push (len_push (len_push hn0)))))
  have he1_31 : ((ps (ps (ps (ps (ps lay0 (.inl (8, [2, 2, 2, 2, 0]))) (.inr (0, 32))) (.inr (0, 8))) (.inr (0, 8))) (.inr (0, 8))))[31]? = some (.inl (2, [2, 0, 0])) := (at_old (at_old (at_old (at_old (at_old he0_31)))))
  have he1_32 : ((ps (ps (ps (ps (ps lay0 (.inl (8, [2, 2, 2, 2, 0]))) (.inr (0, 32))) (.inr (0, 8))) (.inr (0, 8))) (.inr (0, 8))))[32]? = some (.inr (6, 20)) := (at_old (at_old (at_old (at_old (at_old he0_32)))))
  have hm1_0 : (uR (K_X8 (zm m_0 38) 38 39) 32 (1 : Int32).toNatClampNeg (some 38)).2.2 31 0 = some 32 := hm0_0
  generalize (ps (ps (ps (ps (ps lay0 (.inl (8, [2, 2, 2, 2, 0]))) (.inr (0, 32))) (.inr (0, 8))) (.inr (0, 8))) (.inr (0, 8))) = lay1 at hn1 he1_31 he1_32 ⊢
  generalize uR (K_X8 (zm m_0 38) 38 39) 32 (1 : Int32).toNatClampNeg (some 38) = m_1 at hm1_0 ⊢
  refine aw_iload_n (j := 0) dX2_init_25 rfl rfl ?_
  refine aw_bipush (v := 20) dX2_init_26 (by decide) ?_
  refine aw_icmp_ge (tgt := 50) dX2_init_28 (by decide) (fun hc => absurd hc (by decide)) (fun _ => ?_)
  refine aw_aload_n (j := 1) dX2_init_31 rfl rfl ?_
  refine aw_getfield (c := 2) (v := .ref (adb bs 32)) dX2_init_32 f_X2_11 he1_31 rfl (by show va_rf (Option.map (adb bs) (m_1.2.2 31 0)) = _; rw [show (m_1).2.2 31 0 = some 32 from hm1_0]; rfl) ?_
  refine aw_iload_n (j := 0) dX2_init_35 rfl rfl ?_
  refine aw_new (n := 43) (kc := 89) (ks := 1093) (N := 5) dX2_init_36 hn1 nw_X2_9 ?_
  refine aw_dup dX2_init_39 rfl ?_
  refine aw_callIN (n := 44) (kc := 85) (ks := 1037) (kc' := 4) (ks' := 56) (rest := [.ref (adb bs 43), .int (2), .ref (adb bs 32)]) [] dX2_init_40 (len_push hn1) (by omega) (len_push (len_push (len_push (len_push (len_push hn1))))) ki_X2_22 rfl (n_X8 (hn := (len_push hn1)) (hb := (at_new hn1))) (Nat.le_of_ble_eq_true rfl) ?_
  refine aw_aastore6 dX2_init_43 (at_old (at_old (at_old (at_old (at_old he1_32))))) (at_old (at_old (at_old (at_old (at_new hn1))))) (by unfold vp_in; decide) ?_
  refine aw_iinc (j := 0) (v := 3) (L' := [(1, .int (3)), (0, .ref (adb bs 31))]) dX2_init_44 rfl (by decide) (by decide) rfl ?_
  refine aw_goto (tgt := 25) dX2_init_47 (by decide) ?_
  have hn2 : ((ps (ps (ps (ps (ps lay1 (.inl (8, [2, 2, 2, 2, 0]))) (.inr (0, 32))) (.inr (0, 8))) (.inr (0, 8))) (.inr (0, 8)))).length = 48 := (len_push (len_push (len_push (len_push (len_push hn1)))))
  have he2_31 : ((ps (ps (ps (ps (ps lay1 (.inl (8, [2, 2, 2, 2, 0]))) (.inr (0, 32))) (.inr (0, 8))) (.inr (0, 8))) (.inr (0, 8))))[31]? = some (.inl (2, [2, 0, 0])) := (at_old (at_old (at_old (at_old (at_old he1_31)))))
  have he2_32 : ((ps (ps (ps (ps (ps lay1 (.inl (8, [2, 2, 2, 2, 0]))) (.inr (0, 32))) (.inr (0, 8))) (.inr (0, 8))) (.inr (0, 8))))[32]? = some (.inr (6, 20)) := (at_old (at_old (at_old (at_old (at_old he1_32)))))
  have hm2_0 : (uR (K_X8 (zm m_1 43) 43 44) 32 (2 : Int32).toNatClampNeg (some 43)).2.2 31 0 = some 32 := hm1_0
  generalize (ps (ps (ps (ps (ps lay1 (.inl (8, [2, 2, 2, 2, 0]))) (.inr (0, 32))) (.inr (0, 8))) (.inr (0, 8))) (.inr (0, 8))) = lay2 at hn2 he2_31 he2_32 ⊢
  generalize uR (K_X8 (zm m_1 43) 43 44) 32 (2 : Int32).toNatClampNeg (some 43) = m_2 at hm2_0 ⊢
  refine aw_iload_n (j := 0) dX2_init_25 rfl rfl ?_
  refine aw_bipush (v := 20) dX2_init_26 (by decide) ?_
  refine aw_icmp_ge (tgt := 50) dX2_init_28 (by decide) (fun hc => absurd hc (by decide)) (fun _ => ?_)
  refine aw_aload_n (j := 1) dX2_init_31 rfl rfl ?_
  refine aw_getfield (c := 2) (v := .ref (adb bs 32)) dX2_init_32 f_X2_11 he2_31 rfl (by show va_rf (Option.map (adb bs) (m_2.2.2 31 0)) = _; rw [show (m_2).2.2 31 0 = some 32 from hm2_0]; rfl) ?_
  refine aw_iload_n (j := 0) dX2_init_35 rfl rfl ?_
  refine aw_new (n := 48) (kc := 84) (ks := 1032) (N := 5) dX2_init_36 hn2 nw_X2_9 ?_
  refine aw_dup dX2_init_39 rfl ?_
  refine aw_callIN (n := 49) (kc := 80) (ks := 976) (kc' := 4) (ks' := 56) (rest := [.ref (adb bs 48), .int (3), .ref (adb bs 32)]) [] dX2_init_40 (len_push hn2) (by omega) (len_push (len_push (len_push (len_push (len_push hn2))))) ki_X2_22 rfl (n_X8 (hn := (len_push hn2)) (hb := (at_new hn2))) (Nat.le_of_ble_eq_true rfl) ?_
  refine aw_aastore6 dX2_init_43 (at_old (at_old (at_old (at_old (at_old he2_32))))) (at_old (at_old (at_old (at_old (at_new hn2))))) (by unfold vp_in; decide) ?_
  refine aw_iinc (j := 0) (v := 4) (L' := [(1, .int (4)), (0, .ref (adb bs 31))]) dX2_init_44 rfl (by decide) (by decide) rfl ?_
  refine aw_goto (tgt := 25) dX2_init_47 (by decide) ?_
  have hn3 : ((ps (ps (ps (ps (ps lay2 (.inl (8, [2, 2, 2, 2, 0]))) (.inr (0, 32))) (.inr (0, 8))) (.inr (0, 8))) (.inr (0, 8)))).length = 53 := (len_push (len_push (len_push (len_push (len_push hn2)))))
  have he3_31 : ((ps (ps (ps (ps (ps lay2 (.inl (8, [2, 2, 2, 2, 0]))) (.inr (0, 32))) (.inr (0, 8))) (.inr (0, 8))) (.inr (0, 8))))[31]? = some (.inl (2, [2, 0, 0])) := (at_old (at_old (at_old (at_old (at_old he2_31)))))
  have he3_32 : ((ps (ps (ps (ps (ps lay2 (.inl (8, [2, 2, 2, 2, 0]))) (.inr (0, 32))) (.inr (0, 8))) (.inr (0, 8))) (.inr (0, 8))))[32]? = some (.inr (6, 20)) := (at_old (at_old (at_old (at_old (at_old he2_32)))))
  have hm3_0 : (uR (K_X8 (zm m_2 48) 48 49) 32 (3 : Int32).toNatClampNeg (some 48)).2.2 31 0 = some 32 := hm2_0
  generalize (ps (ps (ps (ps (ps lay2 (.inl (8, [2, 2, 2, 2, 0]))) (.inr (0, 32))) (.inr (0, 8))) (.inr (0, 8))) (.inr (0, 8))) = lay3 at hn3 he3_31 he3_32 ⊢
  generalize uR (K_X8 (zm m_2 48) 48 49) 32 (3 : Int32).toNatClampNeg (some 48) = m_3 at hm3_0 ⊢
  refine aw_iload_n (j := 0) dX2_init_25 rfl rfl ?_
  refine aw_bipush (v := 20) dX2_init_26 (by decide) ?_
  refine aw_icmp_ge (tgt := 50) dX2_init_28 (by decide) (fun hc => absurd hc (by decide)) (fun _ => ?_)
  refine aw_aload_n (j := 1) dX2_init_31 rfl rfl ?_
  refine aw_getfield (c := 2) (v := .ref (adb bs 32)) dX2_init_32 f_X2_11 he3_31 rfl (by show va_rf (Option.map (adb bs) (m_3.2.2 31 0)) = _; rw [show (m_3).2.2 31 0 = some 32 from hm3_0]; rfl) ?_
  refine aw_iload_n (j := 0) dX2_init_35 rfl rfl ?_
  refine aw_new (n := 53) (kc := 79) (ks := 971) (N := 5) dX2_init_36 hn3 nw_X2_9 ?_
  refine aw_dup dX2_init_39 rfl ?_
  refine aw_callIN (n := 54) (kc := 75) (ks := 915) (kc' := 4) (ks' := 56) (rest := [.ref (adb bs 53), .int (4), .ref (adb bs 32)]) [] dX2_init_40 (len_push hn3) (by omega) (len_push (len_push (len_push (len_push (len_push hn3))))) ki_X2_22 rfl (n_X8 (hn := (len_push hn3)) (hb := (at_new hn3))) (Nat.le_of_ble_eq_true rfl) ?_
  refine aw_aastore6 dX2_init_43 (at_old (at_old (at_old (at_old (at_old he3_32))))) (at_old (at_old (at_old (at_old (at_new hn3))))) (by unfold vp_in; decide) ?_
  refine aw_iinc (j := 0) (v := 5) (L' := [(1, .int (5)), (0, .ref (adb bs 31))]) dX2_init_44 rfl (by decide) (by decide) rfl ?_
  refine aw_goto (tgt := 25) dX2_init_47 (by decide) ?_
  have hn4 : ((ps (ps (ps (ps (ps lay3 (.inl (8, [2, 2, 2, 2, 0]))) (.inr (0, 32))) (.inr (0, 8))) (.inr (0, 8))) (.inr (0, 8)))).length = 58 := (len_push (len_push (len_push (len_push (len_push hn3)))))
  have he4_31 : ((ps (ps (ps (ps (ps lay3 (.inl (8, [2, 2, 2, 2, 0]))) (.inr (0, 32))) (.inr (0, 8))) (.inr (0, 8))) (.inr (0, 8))))[31]? = some (.inl (2, [2, 0, 0])) := (at_old (at_old (at_old (at_old (at_old he3_31)))))
  have he4_32 : ((ps (ps (ps (ps (ps lay3 (.inl (8, [2, 2, 2, 2, 0]))) (.inr (0, 32))) (.inr (0, 8))) (.inr (0, 8))) (.inr (0, 8))))[32]? = some (.inr (6, 20)) := (at_old (at_old (at_old (at_old (at_old he3_32)))))
  have hm4_0 : (uR (K_X8 (zm m_3 53) 53 54) 32 (4 : Int32).toNatClampNeg (some 53)).2.2 31 0 = some 32 := hm3_0
  generalize (ps (ps (ps (ps (ps lay3 (.inl (8, [2, 2, 2, 2, 0]))) (.inr (0, 32))) (.inr (0, 8))) (.inr (0, 8))) (.inr (0, 8))) = lay4 at hn4 he4_31 he4_32 ⊢
  generalize uR (K_X8 (zm m_3 53) 53 54) 32 (4 : Int32).toNatClampNeg (some 53) = m_4 at hm4_0 ⊢
  refine aw_iload_n (j := 0) dX2_init_25 rfl rfl ?_
  refine aw_bipush (v := 20) dX2_init_26 (by decide) ?_
  refine aw_icmp_ge (tgt := 50) dX2_init_28 (by decide) (fun hc => absurd hc (by decide)) (fun _ => ?_)
  refine aw_aload_n (j := 1) dX2_init_31 rfl rfl ?_
  refine aw_getfield (c := 2) (v := .ref (adb bs 32)) dX2_init_32 f_X2_11 he4_31 rfl (by show va_rf (Option.map (adb bs) (m_4.2.2 31 0)) = _; rw [show (m_4).2.2 31 0 = some 32 from hm4_0]; rfl) ?_
  refine aw_iload_n (j := 0) dX2_init_35 rfl rfl ?_
  refine aw_new (n := 58) (kc := 74) (ks := 910) (N := 5) dX2_init_36 hn4 nw_X2_9 ?_
  refine aw_dup dX2_init_39 rfl ?_
  refine aw_callIN (n := 59) (kc := 70) (ks := 854) (kc' := 4) (ks' := 56) (rest := [.ref (adb bs 58), .int (5), .ref (adb bs 32)]) [] dX2_init_40 (len_push hn4) (by omega) (len_push (len_push (len_push (len_push (len_push hn4))))) ki_X2_22 rfl (n_X8 (hn := (len_push hn4)) (hb := (at_new hn4))) (Nat.le_of_ble_eq_true rfl) ?_
  refine aw_aastore6 dX2_init_43 (at_old (at_old (at_old (at_old (at_old he4_32))))) (at_old (at_old (at_old (at_old (at_new hn4))))) (by unfold vp_in; decide) ?_
  refine aw_iinc (j := 0) (v := 6) (L' := [(1, .int (6)), (0, .ref (adb bs 31))]) dX2_init_44 rfl (by decide) (by decide) rfl ?_
  refine aw_goto (tgt := 25) dX2_init_47 (by decide) ?_
  have hn5 : ((ps (ps (ps (ps (ps lay4 (.inl (8, [2, 2, 2, 2, 0]))) (.inr (0, 32))) (.inr (0, 8))) (.inr (0, 8))) (.inr (0, 8)))).length = 63 := (len_push (len_push (len_push (len_push (len_push hn4)))))
  have he5_31 : ((ps (ps (ps (ps (ps lay4 (.inl (8, [2, 2, 2, 2, 0]))) (.inr (0, 32))) (.inr (0, 8))) (.inr (0, 8))) (.inr (0, 8))))[31]? = some (.inl (2, [2, 0, 0])) := (at_old (at_old (at_old (at_old (at_old he4_31)))))
  have he5_32 : ((ps (ps (ps (ps (ps lay4 (.inl (8, [2, 2, 2, 2, 0]))) (.inr (0, 32))) (.inr (0, 8))) (.inr (0, 8))) (.inr (0, 8))))[32]? = some (.inr (6, 20)) := (at_old (at_old (at_old (at_old (at_old he4_32)))))
  have hm5_0 : (uR (K_X8 (zm m_4 58) 58 59) 32 (5 : Int32).toNatClampNeg (some 58)).2.2 31 0 = some 32 := hm4_0
  generalize (ps (ps (ps (ps (ps lay4 (.inl (8, [2, 2, 2, 2, 0]))) (.inr (0, 32))) (.inr (0, 8))) (.inr (0, 8))) (.inr (0, 8))) = lay5 at hn5 he5_31 he5_32 ⊢
  generalize uR (K_X8 (zm m_4 58) 58 59) 32 (5 : Int32).toNatClampNeg (some 58) = m_5 at hm5_0 ⊢
  refine aw_iload_n (j := 0) dX2_init_25 rfl rfl ?_
  refine aw_bipush (v := 20) dX2_init_26 (by decide) ?_
  refine aw_icmp_ge (tgt := 50) dX2_init_28 (by decide) (fun hc => absurd hc (by decide)) (fun _ => ?_)
  refine aw_aload_n (j := 1) dX2_init_31 rfl rfl ?_
  refine aw_getfield (c := 2) (v := .ref (adb bs 32)) dX2_init_32 f_X2_11 he5_31 rfl (by show va_rf (Option.map (adb bs) (m_5.2.2 31 0)) = _; rw [show (m_5).2.2 31 0 = some 32 from hm5_0]; rfl) ?_
  refine aw_iload_n (j := 0) dX2_init_35 rfl rfl ?_
  refine aw_new (n := 63) (kc := 69) (ks := 849) (N := 5) dX2_init_36 hn5 nw_X2_9 ?_
  refine aw_dup dX2_init_39 rfl ?_
  refine aw_callIN (n := 64) (kc := 65) (ks := 793) (kc' := 4) (ks' := 56) (rest := [.ref (adb bs 63), .int (6), .ref (adb bs 32)]) [] dX2_init_40 (len_push hn5) (by omega) (len_push (len_push (len_push (len_push (len_push hn5))))) ki_X2_22 rfl (n_X8 (hn := (len_push hn5)) (hb := (at_new hn5))) (Nat.le_of_ble_eq_true rfl) ?_
  refine aw_aastore6 dX2_init_43 (at_old (at_old (at_old (at_old (at_old he5_32))))) (at_old (at_old (at_old (at_old (at_new hn5))))) (by unfold vp_in; decide) ?_
  refine aw_iinc (j := 0) (v := 7) (L' := [(1, .int (7)), (0, .ref (adb bs 31))]) dX2_init_44 rfl (by decide) (by decide) rfl ?_
  refine aw_goto (tgt := 25) dX2_init_47 (by decide) ?_
  have hn6 : ((ps (ps (ps (ps (ps lay5 (.inl (8, [2, 2, 2, 2, 0]))) (.inr (0, 32))) (.inr (0, 8))) (.inr (0, 8))) (.inr (0, 8)))).length = 68 := (len_push (len_push (len_push (len_push (len_push hn5)))))
  have he6_31 : ((ps (ps (ps (ps (ps lay5 (.inl (8, [2, 2, 2, 2, 0]))) (.inr (0, 32))) (.inr (0, 8))) (.inr (0, 8))) (.inr (0, 8))))[31]? = some (.inl (2, [2, 0, 0])) := (at_old (at_old (at_old (at_old (at_old he5_31)))))
  have he6_32 : ((ps (ps (ps (ps (ps lay5 (.inl (8, [2, 2, 2, 2, 0]))) (.inr (0, 32))) (.inr (0, 8))) (.inr (0, 8))) (.inr (0, 8))))[32]? = some (.inr (6, 20)) := (at_old (at_old (at_old (at_old (at_old he5_32)))))
  have hm6_0 : (uR (K_X8 (zm m_5 63) 63 64) 32 (6 : Int32).toNatClampNeg (some 63)).2.2 31 0 = some 32 := hm5_0
  generalize (ps (ps (ps (ps (ps lay5 (.inl (8, [2, 2, 2, 2, 0]))) (.inr (0, 32))) (.inr (0, 8))) (.inr (0, 8))) (.inr (0, 8))) = lay6 at hn6 he6_31 he6_32 ⊢
  generalize uR (K_X8 (zm m_5 63) 63 64) 32 (6 : Int32).toNatClampNeg (some 63) = m_6 at hm6_0 ⊢
  refine aw_iload_n (j := 0) dX2_init_25 rfl rfl ?_
  refine aw_bipush (v := 20) dX2_init_26 (by decide) ?_
  refine aw_icmp_ge (tgt := 50) dX2_init_28 (by decide) (fun hc => absurd hc (by decide)) (fun _ => ?_)
  refine aw_aload_n (j := 1) dX2_init_31 rfl rfl ?_
  refine aw_getfield (c := 2) (v := .ref (adb bs 32)) dX2_init_32 f_X2_11 he6_31 rfl (by show va_rf (Option.map (adb bs) (m_6.2.2 31 0)) = _; rw [show (m_6).2.2 31 0 = some 32 from hm6_0]; rfl) ?_
  refine aw_iload_n (j := 0) dX2_init_35 rfl rfl ?_
  refine aw_new (n := 68) (kc := 64) (ks := 788) (N := 5) dX2_init_36 hn6 nw_X2_9 ?_
  refine aw_dup dX2_init_39 rfl ?_
  refine aw_callIN (n := 69) (kc := 60) (ks := 732) (kc' := 4) (ks' := 56) (rest := [.ref (adb bs 68), .int (7), .ref (adb bs 32)]) [] dX2_init_40 (len_push hn6) (by omega) (len_push (len_push (len_push (len_push (len_push hn6))))) ki_X2_22 rfl (n_X8 (hn := (len_push hn6)) (hb := (at_new hn6))) (Nat.le_of_ble_eq_true rfl) ?_
  refine aw_aastore6 dX2_init_43 (at_old (at_old (at_old (at_old (at_old he6_32))))) (at_old (at_old (at_old (at_old (at_new hn6))))) (by unfold vp_in; decide) ?_
  refine aw_iinc (j := 0) (v := 8) (L' := [(1, .int (8)), (0, .ref (adb bs 31))]) dX2_init_44 rfl (by decide) (by decide) rfl ?_
  refine aw_goto (tgt := 25) dX2_init_47 (by decide) ?_
  have hn7 : ((ps (ps (ps (ps (ps lay6 (.inl (8, [2, 2, 2, 2, 0]))) (.inr (0, 32))) (.inr (0, 8))) (.inr (0, 8))) (.inr (0, 8)))).length = 73 := (len_push (len_push (len_push (len_push (len_push hn6)))))
  have he7_31 : ((ps (ps (ps (ps (ps lay6 (.inl (8, [2, 2, 2, 2, 0]))) (.inr (0, 32))) (.inr (0, 8))) (.inr (0, 8))) (.inr (0, 8))))[31]? = some (.inl (2, [2, 0, 0])) := (at_old (at_old (at_old (at_old (at_old he6_31)))))
  have he7_32 : ((ps (ps (ps (ps (ps lay6 (.inl (8, [2, 2, 2, 2, 0]))) (.inr (0, 32))) (.inr (0, 8))) (.inr (0, 8))) (.inr (0, 8))))[32]? = some (.inr (6, 20)) := (at_old (at_old (at_old (at_old (at_old he6_32)))))
  have hm7_0 : (uR (K_X8 (zm m_6 68) 68 69) 32 (7 : Int32).toNatClampNeg (some 68)).2.2 31 0 = some 32 := hm6_0
  generalize (ps (ps (ps (ps (ps lay6 (.inl (8, [2, 2, 2, 2, 0]))) (.inr (0, 32))) (.inr (0, 8))) (.inr (0, 8))) (.inr (0, 8))) = lay7 at hn7 he7_31 he7_32 ⊢
  generalize uR (K_X8 (zm m_6 68) 68 69) 32 (7 : Int32).toNatClampNeg (some 68) = m_7 at hm7_0 ⊢
  refine aw_iload_n (j := 0) dX2_init_25 rfl rfl ?_
  refine aw_bipush (v := 20) dX2_init_26 (by decide) ?_
  refine aw_icmp_ge (tgt := 50) dX2_init_28 (by decide) (fun hc => absurd hc (by decide)) (fun _ => ?_)
  refine aw_aload_n (j := 1) dX2_init_31 rfl rfl ?_
  refine aw_getfield (c := 2) (v := .ref (adb bs 32)) dX2_init_32 f_X2_11 he7_31 rfl (by show va_rf (Option.map (adb bs) (m_7.2.2 31 0)) = _; rw [show (m_7).2.2 31 0 = some 32 from hm7_0]; rfl) ?_
  refine aw_iload_n (j := 0) dX2_init_35 rfl rfl ?_
  refine aw_new (n := 73) (kc := 59) (ks := 727) (N := 5) dX2_init_36 hn7 nw_X2_9 ?_
  refine aw_dup dX2_init_39 rfl ?_
  refine aw_callIN (n := 74) (kc := 55) (ks := 671) (kc' := 4) (ks' := 56) (rest := [.ref (adb bs 73), .int (8), .ref (adb bs 32)]) [] dX2_init_40 (len_push hn7) (by omega) (len_push (len_push (len_push (len_push (len_push hn7))))) ki_X2_22 rfl (n_X8 (hn := (len_push hn7)) (hb := (at_new hn7))) (Nat.le_of_ble_eq_true rfl) ?_
  refine aw_aastore6 dX2_init_43 (at_old (at_old (at_old (at_old (at_old he7_32))))) (at_old (at_old (at_old (at_old (at_new hn7))))) (by unfold vp_in; decide) ?_
  refine aw_iinc (j := 0) (v := 9) (L' := [(1, .int (9)), (0, .ref (adb bs 31))]) dX2_init_44 rfl (by decide) (by decide) rfl ?_
  refine aw_goto (tgt := 25) dX2_init_47 (by decide) ?_
  have hn8 : ((ps (ps (ps (ps (ps lay7 (.inl (8, [2, 2, 2, 2, 0]))) (.inr (0, 32))) (.inr (0, 8))) (.inr (0, 8))) (.inr (0, 8)))).length = 78 := (len_push (len_push (len_push (len_push (len_push hn7)))))
  have he8_31 : ((ps (ps (ps (ps (ps lay7 (.inl (8, [2, 2, 2, 2, 0]))) (.inr (0, 32))) (.inr (0, 8))) (.inr (0, 8))) (.inr (0, 8))))[31]? = some (.inl (2, [2, 0, 0])) := (at_old (at_old (at_old (at_old (at_old he7_31)))))
  have he8_32 : ((ps (ps (ps (ps (ps lay7 (.inl (8, [2, 2, 2, 2, 0]))) (.inr (0, 32))) (.inr (0, 8))) (.inr (0, 8))) (.inr (0, 8))))[32]? = some (.inr (6, 20)) := (at_old (at_old (at_old (at_old (at_old he7_32)))))
  have hm8_0 : (uR (K_X8 (zm m_7 73) 73 74) 32 (8 : Int32).toNatClampNeg (some 73)).2.2 31 0 = some 32 := hm7_0
  generalize (ps (ps (ps (ps (ps lay7 (.inl (8, [2, 2, 2, 2, 0]))) (.inr (0, 32))) (.inr (0, 8))) (.inr (0, 8))) (.inr (0, 8))) = lay8 at hn8 he8_31 he8_32 ⊢
  generalize uR (K_X8 (zm m_7 73) 73 74) 32 (8 : Int32).toNatClampNeg (some 73) = m_8 at hm8_0 ⊢
  refine aw_iload_n (j := 0) dX2_init_25 rfl rfl ?_
  refine aw_bipush (v := 20) dX2_init_26 (by decide) ?_
  refine aw_icmp_ge (tgt := 50) dX2_init_28 (by decide) (fun hc => absurd hc (by decide)) (fun _ => ?_)
  refine aw_aload_n (j := 1) dX2_init_31 rfl rfl ?_
  refine aw_getfield (c := 2) (v := .ref (adb bs 32)) dX2_init_32 f_X2_11 he8_31 rfl (by show va_rf (Option.map (adb bs) (m_8.2.2 31 0)) = _; rw [show (m_8).2.2 31 0 = some 32 from hm8_0]; rfl) ?_
  refine aw_iload_n (j := 0) dX2_init_35 rfl rfl ?_
  refine aw_new (n := 78) (kc := 54) (ks := 666) (N := 5) dX2_init_36 hn8 nw_X2_9 ?_
  refine aw_dup dX2_init_39 rfl ?_
  refine aw_callIN (n := 79) (kc := 50) (ks := 610) (kc' := 4) (ks' := 56) (rest := [.ref (adb bs 78), .int (9), .ref (adb bs 32)]) [] dX2_init_40 (len_push hn8) (by omega) (len_push (len_push (len_push (len_push (len_push hn8))))) ki_X2_22 rfl (n_X8 (hn := (len_push hn8)) (hb := (at_new hn8))) (Nat.le_of_ble_eq_true rfl) ?_
  refine aw_aastore6 dX2_init_43 (at_old (at_old (at_old (at_old (at_old he8_32))))) (at_old (at_old (at_old (at_old (at_new hn8))))) (by unfold vp_in; decide) ?_
  refine aw_iinc (j := 0) (v := 10) (L' := [(1, .int (10)), (0, .ref (adb bs 31))]) dX2_init_44 rfl (by decide) (by decide) rfl ?_
  refine aw_goto (tgt := 25) dX2_init_47 (by decide) ?_
  have hn9 : ((ps (ps (ps (ps (ps lay8 (.inl (8, [2, 2, 2, 2, 0]))) (.inr (0, 32))) (.inr (0, 8))) (.inr (0, 8))) (.inr (0, 8)))).length = 83 := (len_push (len_push (len_push (len_push (len_push hn8)))))
  have he9_31 : ((ps (ps (ps (ps (ps lay8 (.inl (8, [2, 2, 2, 2, 0]))) (.inr (0, 32))) (.inr (0, 8))) (.inr (0, 8))) (.inr (0, 8))))[31]? = some (.inl (2, [2, 0, 0])) := (at_old (at_old (at_old (at_old (at_old he8_31)))))
  have he9_32 : ((ps (ps (ps (ps (ps lay8 (.inl (8, [2, 2, 2, 2, 0]))) (.inr (0, 32))) (.inr (0, 8))) (.inr (0, 8))) (.inr (0, 8))))[32]? = some (.inr (6, 20)) := (at_old (at_old (at_old (at_old (at_old he8_32)))))
  have hm9_0 : (uR (K_X8 (zm m_8 78) 78 79) 32 (9 : Int32).toNatClampNeg (some 78)).2.2 31 0 = some 32 := hm8_0
  generalize (ps (ps (ps (ps (ps lay8 (.inl (8, [2, 2, 2, 2, 0]))) (.inr (0, 32))) (.inr (0, 8))) (.inr (0, 8))) (.inr (0, 8))) = lay9 at hn9 he9_31 he9_32 ⊢
  generalize uR (K_X8 (zm m_8 78) 78 79) 32 (9 : Int32).toNatClampNeg (some 78) = m_9 at hm9_0 ⊢
  refine aw_iload_n (j := 0) dX2_init_25 rfl rfl ?_
  refine aw_bipush (v := 20) dX2_init_26 (by decide) ?_
  refine aw_icmp_ge (tgt := 50) dX2_init_28 (by decide) (fun hc => absurd hc (by decide)) (fun _ => ?_)
  refine aw_aload_n (j := 1) dX2_init_31 rfl rfl ?_
  refine aw_getfield (c := 2) (v := .ref (adb bs 32)) dX2_init_32 f_X2_11 he9_31 rfl (by show va_rf (Option.map (adb bs) (m_9.2.2 31 0)) = _; rw [show (m_9).2.2 31 0 = some 32 from hm9_0]; rfl) ?_
  refine aw_iload_n (j := 0) dX2_init_35 rfl rfl ?_
  refine aw_new (n := 83) (kc := 49) (ks := 605) (N := 5) dX2_init_36 hn9 nw_X2_9 ?_
  refine aw_dup dX2_init_39 rfl ?_
  refine aw_callIN (n := 84) (kc := 45) (ks := 549) (kc' := 4) (ks' := 56) (rest := [.ref (adb bs 83), .int (10), .ref (adb bs 32)]) [] dX2_init_40 (len_push hn9) (by omega) (len_push (len_push (len_push (len_push (len_push hn9))))) ki_X2_22 rfl (n_X8 (hn := (len_push hn9)) (hb := (at_new hn9))) (Nat.le_of_ble_eq_true rfl) ?_
  refine aw_aastore6 dX2_init_43 (at_old (at_old (at_old (at_old (at_old he9_32))))) (at_old (at_old (at_old (at_old (at_new hn9))))) (by unfold vp_in; decide) ?_
  refine aw_iinc (j := 0) (v := 11) (L' := [(1, .int (11)), (0, .ref (adb bs 31))]) dX2_init_44 rfl (by decide) (by decide) rfl ?_
  refine aw_goto (tgt := 25) dX2_init_47 (by decide) ?_
  have hn10 : ((ps (ps (ps (ps (ps lay9 (.inl (8, [2, 2, 2, 2, 0]))) (.inr (0, 32))) (.inr (0, 8))) (.inr (0, 8))) (.inr (0, 8)))).length = 88 := (len_push (len_push (len_push (len_push (len_push hn9)))))
  have he10_31 : ((ps (ps (ps (ps (ps lay9 (.inl (8, [2, 2, 2, 2, 0]))) (.inr (0, 32))) (.inr (0, 8))) (.inr (0, 8))) (.inr (0, 8))))[31]? = some (.inl (2, [2, 0, 0])) := (at_old (at_old (at_old (at_old (at_old he9_31)))))
  have he10_32 : ((ps (ps (ps (ps (ps lay9 (.inl (8, [2, 2, 2, 2, 0]))) (.inr (0, 32))) (.inr (0, 8))) (.inr (0, 8))) (.inr (0, 8))))[32]? = some (.inr (6, 20)) := (at_old (at_old (at_old (at_old (at_old he9_32)))))
  have hm10_0 : (uR (K_X8 (zm m_9 83) 83 84) 32 (10 : Int32).toNatClampNeg (some 83)).2.2 31 0 = some 32 := hm9_0
  generalize (ps (ps (ps (ps (ps lay9 (.inl (8, [2, 2, 2, 2, 0]))) (.inr (0, 32))) (.inr (0, 8))) (.inr (0, 8))) (.inr (0, 8))) = lay10 at hn10 he10_31 he10_32 ⊢
  generalize uR (K_X8 (zm m_9 83) 83 84) 32 (10 : Int32).toNatClampNeg (some 83) = m_10 at hm10_0 ⊢
  refine aw_iload_n (j := 0) dX2_init_25 rfl rfl ?_
  refine aw_bipush (v := 20) dX2_init_26 (by decide) ?_
  refine aw_icmp_ge (tgt := 50) dX2_init_28 (by decide) (fun hc => absurd hc (by decide)) (fun _ => ?_)
  refine aw_aload_n (j := 1) dX2_init_31 rfl rfl ?_
  refine aw_getfield (c := 2) (v := .ref (adb bs 32)) dX2_init_32 f_X2_11 he10_31 rfl (by show va_rf (Option.map (adb bs) (m_10.2.2 31 0)) = _; rw [show (m_10).2.2 31 0 = some 32 from hm10_0]; rfl) ?_
  refine aw_iload_n (j := 0) dX2_init_35 rfl rfl ?_
  refine aw_new (n := 88) (kc := 44) (ks := 544) (N := 5) dX2_init_36 hn10 nw_X2_9 ?_
  refine aw_dup dX2_init_39 rfl ?_
  refine aw_callIN (n := 89) (kc := 40) (ks := 488) (kc' := 4) (ks' := 56) (rest := [.ref (adb bs 88), .int (11), .ref (adb bs 32)]) [] dX2_init_40 (len_push hn10) (by omega) (len_push (len_push (len_push (len_push (len_push hn10))))) ki_X2_22 rfl (n_X8 (hn := (len_push hn10)) (hb := (at_new hn10))) (Nat.le_of_ble_eq_true rfl) ?_
  refine aw_aastore6 dX2_init_43 (at_old (at_old (at_old (at_old (at_old he10_32))))) (at_old (at_old (at_old (at_old (at_new hn10))))) (by unfold vp_in; decide) ?_
  refine aw_iinc (j := 0) (v := 12) (L' := [(1, .int (12)), (0, .ref (adb bs 31))]) dX2_init_44 rfl (by decide) (by decide) rfl ?_
  refine aw_goto (tgt := 25) dX2_init_47 (by decide) ?_
  have hn11 : ((ps (ps (ps (ps (ps lay10 (.inl (8, [2, 2, 2, 2, 0]))) (.inr (0, 32))) (.inr (0, 8))) (.inr (0, 8))) (.inr (0, 8)))).length = 93 := (len_push (len_push (len_push (len_push (len_push hn10)))))
  have he11_31 : ((ps (ps (ps (ps (ps lay10 (.inl (8, [2, 2, 2, 2, 0]))) (.inr (0, 32))) (.inr (0, 8))) (.inr (0, 8))) (.inr (0, 8))))[31]? = some (.inl (2, [2, 0, 0])) := (at_old (at_old (at_old (at_old (at_old he10_31)))))
  have he11_32 : ((ps (ps (ps (ps (ps lay10 (.inl (8, [2, 2, 2, 2, 0]))) (.inr (0, 32))) (.inr (0, 8))) (.inr (0, 8))) (.inr (0, 8))))[32]? = some (.inr (6, 20)) := (at_old (at_old (at_old (at_old (at_old he10_32)))))
  have hm11_0 : (uR (K_X8 (zm m_10 88) 88 89) 32 (11 : Int32).toNatClampNeg (some 88)).2.2 31 0 = some 32 := hm10_0
  generalize (ps (ps (ps (ps (ps lay10 (.inl (8, [2, 2, 2, 2, 0]))) (.inr (0, 32))) (.inr (0, 8))) (.inr (0, 8))) (.inr (0, 8))) = lay11 at hn11 he11_31 he11_32 ⊢
  generalize uR (K_X8 (zm m_10 88) 88 89) 32 (11 : Int32).toNatClampNeg (some 88) = m_11 at hm11_0 ⊢
  refine aw_iload_n (j := 0) dX2_init_25 rfl rfl ?_
  refine aw_bipush (v := 20) dX2_init_26 (by decide) ?_
  refine aw_icmp_ge (tgt := 50) dX2_init_28 (by decide) (fun hc => absurd hc (by decide)) (fun _ => ?_)
  refine aw_aload_n (j := 1) dX2_init_31 rfl rfl ?_
  refine aw_getfield (c := 2) (v := .ref (adb bs 32)) dX2_init_32 f_X2_11 he11_31 rfl (by show va_rf (Option.map (adb bs) (m_11.2.2 31 0)) = _; rw [show (m_11).2.2 31 0 = some 32 from hm11_0]; rfl) ?_
  refine aw_iload_n (j := 0) dX2_init_35 rfl rfl ?_
  refine aw_new (n := 93) (kc := 39) (ks := 483) (N := 5) dX2_init_36 hn11 nw_X2_9 ?_
  refine aw_dup dX2_init_39 rfl ?_
  refine aw_callIN (n := 94) (kc := 35) (ks := 427) (kc' := 4) (ks' := 56) (rest := [.ref (adb bs 93), .int (12), .ref (adb bs 32)]) [] dX2_init_40 (len_push hn11) (by omega) (len_push (len_push (len_push (len_push (len_push hn11))))) ki_X2_22 rfl (n_X8 (hn := (len_push hn11)) (hb := (at_new hn11))) (Nat.le_of_ble_eq_true rfl) ?_
  refine aw_aastore6 dX2_init_43 (at_old (at_old (at_old (at_old (at_old he11_32))))) (at_old (at_old (at_old (at_old (at_new hn11))))) (by unfold vp_in; decide) ?_
  refine aw_iinc (j := 0) (v := 13) (L' := [(1, .int (13)), (0, .ref (adb bs 31))]) dX2_init_44 rfl (by decide) (by decide) rfl ?_
  refine aw_goto (tgt := 25) dX2_init_47 (by decide) ?_
  have hn12 : ((ps (ps (ps (ps (ps lay11 (.inl (8, [2, 2, 2, 2, 0]))) (.inr (0, 32))) (.inr (0, 8))) (.inr (0, 8))) (.inr (0, 8)))).length = 98 := (len_push (len_push (len_push (len_push (len_push hn11)))))
  have he12_31 : ((ps (ps (ps (ps (ps lay11 (.inl (8, [2, 2, 2, 2, 0]))) (.inr (0, 32))) (.inr (0, 8))) (.inr (0, 8))) (.inr (0, 8))))[31]? = some (.inl (2, [2, 0, 0])) := (at_old (at_old (at_old (at_old (at_old he11_31)))))
  have he12_32 : ((ps (ps (ps (ps (ps lay11 (.inl (8, [2, 2, 2, 2, 0]))) (.inr (0, 32))) (.inr (0, 8))) (.inr (0, 8))) (.inr (0, 8))))[32]? = some (.inr (6, 20)) := (at_old (at_old (at_old (at_old (at_old he11_32)))))
  have hm12_0 : (uR (K_X8 (zm m_11 93) 93 94) 32 (12 : Int32).toNatClampNeg (some 93)).2.2 31 0 = some 32 := hm11_0
  generalize (ps (ps (ps (ps (ps lay11 (.inl (8, [2, 2, 2, 2, 0]))) (.inr (0, 32))) (.inr (0, 8))) (.inr (0, 8))) (.inr (0, 8))) = lay12 at hn12 he12_31 he12_32 ⊢
  generalize uR (K_X8 (zm m_11 93) 93 94) 32 (12 : Int32).toNatClampNeg (some 93) = m_12 at hm12_0 ⊢
  refine aw_iload_n (j := 0) dX2_init_25 rfl rfl ?_
  refine aw_bipush (v := 20) dX2_init_26 (by decide) ?_
  refine aw_icmp_ge (tgt := 50) dX2_init_28 (by decide) (fun hc => absurd hc (by decide)) (fun _ => ?_)
  refine aw_aload_n (j := 1) dX2_init_31 rfl rfl ?_
  refine aw_getfield (c := 2) (v := .ref (adb bs 32)) dX2_init_32 f_X2_11 he12_31 rfl (by show va_rf (Option.map (adb bs) (m_12.2.2 31 0)) = _; rw [show (m_12).2.2 31 0 = some 32 from hm12_0]; rfl) ?_
  refine aw_iload_n (j := 0) dX2_init_35 rfl rfl ?_
  refine aw_new (n := 98) (kc := 34) (ks := 422) (N := 5) dX2_init_36 hn12 nw_X2_9 ?_
  refine aw_dup dX2_init_39 rfl ?_
  refine aw_callIN (n := 99) (kc := 30) (ks := 366) (kc' := 4) (ks' := 56) (rest := [.ref (adb bs 98), .int (13), .ref (adb bs 32)]) [] dX2_init_40 (len_push hn12) (by omega) (len_push (len_push (len_push (len_push (len_push hn12))))) ki_X2_22 rfl (n_X8 (hn := (len_push hn12)) (hb := (at_new hn12))) (Nat.le_of_ble_eq_true rfl) ?_
  refine aw_aastore6 dX2_init_43 (at_old (at_old (at_old (at_old (at_old he12_32))))) (at_old (at_old (at_old (at_old (at_new hn12))))) (by unfold vp_in; decide) ?_
  refine aw_iinc (j := 0) (v := 14) (L' := [(1, .int (14)), (0, .ref (adb bs 31))]) dX2_init_44 rfl (by decide) (by decide) rfl ?_
  refine aw_goto (tgt := 25) dX2_init_47 (by decide) ?_
  have hn13 : ((ps (ps (ps (ps (ps lay12 (.inl (8, [2, 2, 2, 2, 0]))) (.inr (0, 32))) (.inr (0, 8))) (.inr (0, 8))) (.inr (0, 8)))).length = 103 := (len_push (len_push (len_push (len_push (len_push hn12)))))
  have he13_31 : ((ps (ps (ps (ps (ps lay12 (.inl (8, [2, 2, 2, 2, 0]))) (.inr (0, 32))) (.inr (0, 8))) (.inr (0, 8))) (.inr (0, 8))))[31]? = some (.inl (2, [2, 0, 0])) := (at_old (at_old (at_old (at_old (at_old he12_31)))))
  have he13_32 : ((ps (ps (ps (ps (ps lay12 (.inl (8, [2, 2, 2, 2, 0]))) (.inr (0, 32))) (.inr (0, 8))) (.inr (0, 8))) (.inr (0, 8))))[32]? = some (.inr (6, 20)) := (at_old (at_old (at_old (at_old (at_old he12_32)))))
  have hm13_0 : (uR (K_X8 (zm m_12 98) 98 99) 32 (13 : Int32).toNatClampNeg (some 98)).2.2 31 0 = some 32 := hm12_0
  generalize (ps (ps (ps (ps (ps lay12 (.inl (8, [2, 2, 2, 2, 0]))) (.inr (0, 32))) (.inr (0, 8))) (.inr (0, 8))) (.inr (0, 8))) = lay13 at hn13 he13_31 he13_32 ⊢
  generalize uR (K_X8 (zm m_12 98) 98 99) 32 (13 : Int32).toNatClampNeg (some 98) = m_13 at hm13_0 ⊢
  refine aw_iload_n (j := 0) dX2_init_25 rfl rfl ?_
  refine aw_bipush (v := 20) dX2_init_26 (by decide) ?_
  refine aw_icmp_ge (tgt := 50) dX2_init_28 (by decide) (fun hc => absurd hc (by decide)) (fun _ => ?_)
  refine aw_aload_n (j := 1) dX2_init_31 rfl rfl ?_
  refine aw_getfield (c := 2) (v := .ref (adb bs 32)) dX2_init_32 f_X2_11 he13_31 rfl (by show va_rf (Option.map (adb bs) (m_13.2.2 31 0)) = _; rw [show (m_13).2.2 31 0 = some 32 from hm13_0]; rfl) ?_
  refine aw_iload_n (j := 0) dX2_init_35 rfl rfl ?_
  refine aw_new (n := 103) (kc := 29) (ks := 361) (N := 5) dX2_init_36 hn13 nw_X2_9 ?_
  refine aw_dup dX2_init_39 rfl ?_
  refine aw_callIN (n := 104) (kc := 25) (ks := 305) (kc' := 4) (ks' := 56) (rest := [.ref (adb bs 103), .int (14), .ref (adb bs 32)]) [] dX2_init_40 (len_push hn13) (by omega) (len_push (len_push (len_push (len_push (len_push hn13))))) ki_X2_22 rfl (n_X8 (hn := (len_push hn13)) (hb := (at_new hn13))) (Nat.le_of_ble_eq_true rfl) ?_
  refine aw_aastore6 dX2_init_43 (at_old (at_old (at_old (at_old (at_old he13_32))))) (at_old (at_old (at_old (at_old (at_new hn13))))) (by unfold vp_in; decide) ?_
  refine aw_iinc (j := 0) (v := 15) (L' := [(1, .int (15)), (0, .ref (adb bs 31))]) dX2_init_44 rfl (by decide) (by decide) rfl ?_
  refine aw_goto (tgt := 25) dX2_init_47 (by decide) ?_
  have hn14 : ((ps (ps (ps (ps (ps lay13 (.inl (8, [2, 2, 2, 2, 0]))) (.inr (0, 32))) (.inr (0, 8))) (.inr (0, 8))) (.inr (0, 8)))).length = 108 := (len_push (len_push (len_push (len_push (len_push hn13)))))
  have he14_31 : ((ps (ps (ps (ps (ps lay13 (.inl (8, [2, 2, 2, 2, 0]))) (.inr (0, 32))) (.inr (0, 8))) (.inr (0, 8))) (.inr (0, 8))))[31]? = some (.inl (2, [2, 0, 0])) := (at_old (at_old (at_old (at_old (at_old he13_31)))))
  have he14_32 : ((ps (ps (ps (ps (ps lay13 (.inl (8, [2, 2, 2, 2, 0]))) (.inr (0, 32))) (.inr (0, 8))) (.inr (0, 8))) (.inr (0, 8))))[32]? = some (.inr (6, 20)) := (at_old (at_old (at_old (at_old (at_old he13_32)))))
  have hm14_0 : (uR (K_X8 (zm m_13 103) 103 104) 32 (14 : Int32).toNatClampNeg (some 103)).2.2 31 0 = some 32 := hm13_0
  generalize (ps (ps (ps (ps (ps lay13 (.inl (8, [2, 2, 2, 2, 0]))) (.inr (0, 32))) (.inr (0, 8))) (.inr (0, 8))) (.inr (0, 8))) = lay14 at hn14 he14_31 he14_32 ⊢
  generalize uR (K_X8 (zm m_13 103) 103 104) 32 (14 : Int32).toNatClampNeg (some 103) = m_14 at hm14_0 ⊢
  refine aw_iload_n (j := 0) dX2_init_25 rfl rfl ?_
  refine aw_bipush (v := 20) dX2_init_26 (by decide) ?_
  refine aw_icmp_ge (tgt := 50) dX2_init_28 (by decide) (fun hc => absurd hc (by decide)) (fun _ => ?_)
  refine aw_aload_n (j := 1) dX2_init_31 rfl rfl ?_
  refine aw_getfield (c := 2) (v := .ref (adb bs 32)) dX2_init_32 f_X2_11 he14_31 rfl (by show va_rf (Option.map (adb bs) (m_14.2.2 31 0)) = _; rw [show (m_14).2.2 31 0 = some 32 from hm14_0]; rfl) ?_
  refine aw_iload_n (j := 0) dX2_init_35 rfl rfl ?_
  refine aw_new (n := 108) (kc := 24) (ks := 300) (N := 5) dX2_init_36 hn14 nw_X2_9 ?_
  refine aw_dup dX2_init_39 rfl ?_
  refine aw_callIN (n := 109) (kc := 20) (ks := 244) (kc' := 4) (ks' := 56) (rest := [.ref (adb bs 108), .int (15), .ref (adb bs 32)]) [] dX2_init_40 (len_push hn14) (by omega) (len_push (len_push (len_push (len_push (len_push hn14))))) ki_X2_22 rfl (n_X8 (hn := (len_push hn14)) (hb := (at_new hn14))) (Nat.le_of_ble_eq_true rfl) ?_
  refine aw_aastore6 dX2_init_43 (at_old (at_old (at_old (at_old (at_old he14_32))))) (at_old (at_old (at_old (at_old (at_new hn14))))) (by unfold vp_in; decide) ?_
  refine aw_iinc (j := 0) (v := 16) (L' := [(1, .int (16)), (0, .ref (adb bs 31))]) dX2_init_44 rfl (by decide) (by decide) rfl ?_
  refine aw_goto (tgt := 25) dX2_init_47 (by decide) ?_
  have hn15 : ((ps (ps (ps (ps (ps lay14 (.inl (8, [2, 2, 2, 2, 0]))) (.inr (0, 32))) (.inr (0, 8))) (.inr (0, 8))) (.inr (0, 8)))).length = 113 := (len_push (len_push (len_push (len_push (len_push hn14)))))
  have he15_31 : ((ps (ps (ps (ps (ps lay14 (.inl (8, [2, 2, 2, 2, 0]))) (.inr (0, 32))) (.inr (0, 8))) (.inr (0, 8))) (.inr (0, 8))))[31]? = some (.inl (2, [2, 0, 0])) := (at_old (at_old (at_old (at_old (at_old he14_31)))))
  have he15_32 : ((ps (ps (ps (ps (ps lay14 (.inl (8, [2, 2, 2, 2, 0]))) (.inr (0, 32))) (.inr (0, 8))) (.inr (0, 8))) (.inr (0, 8))))[32]? = some (.inr (6, 20)) := (at_old (at_old (at_old (at_old (at_old he14_32)))))
  have hm15_0 : (uR (K_X8 (zm m_14 108) 108 109) 32 (15 : Int32).toNatClampNeg (some 108)).2.2 31 0 = some 32 := hm14_0
  generalize (ps (ps (ps (ps (ps lay14 (.inl (8, [2, 2, 2, 2, 0]))) (.inr (0, 32))) (.inr (0, 8))) (.inr (0, 8))) (.inr (0, 8))) = lay15 at hn15 he15_31 he15_32 ⊢
  generalize uR (K_X8 (zm m_14 108) 108 109) 32 (15 : Int32).toNatClampNeg (some 108) = m_15 at hm15_0 ⊢
  refine aw_iload_n (j := 0) dX2_init_25 rfl rfl ?_
  refine aw_bipush (v := 20) dX2_init_26 (by decide) ?_
  refine aw_icmp_ge (tgt := 50) dX2_init_28 (by decide) (fun hc => absurd hc (by decide)) (fun _ => ?_)
  refine aw_aload_n (j := 1) dX2_init_31 rfl rfl ?_
  refine aw_getfield (c := 2) (v := .ref (adb bs 32)) dX2_init_32 f_X2_11 he15_31 rfl (by show va_rf (Option.map (adb bs) (m_15.2.2 31 0)) = _; rw [show (m_15).2.2 31 0 = some 32 from hm15_0]; rfl) ?_
  refine aw_iload_n (j := 0) dX2_init_35 rfl rfl ?_
  refine aw_new (n := 113) (kc := 19) (ks := 239) (N := 5) dX2_init_36 hn15 nw_X2_9 ?_
  refine aw_dup dX2_init_39 rfl ?_
  refine aw_callIN (n := 114) (kc := 15) (ks := 183) (kc' := 4) (ks' := 56) (rest := [.ref (adb bs 113), .int (16), .ref (adb bs 32)]) [] dX2_init_40 (len_push hn15) (by omega) (len_push (len_push (len_push (len_push (len_push hn15))))) ki_X2_22 rfl (n_X8 (hn := (len_push hn15)) (hb := (at_new hn15))) (Nat.le_of_ble_eq_true rfl) ?_
  refine aw_aastore6 dX2_init_43 (at_old (at_old (at_old (at_old (at_old he15_32))))) (at_old (at_old (at_old (at_old (at_new hn15))))) (by unfold vp_in; decide) ?_
  refine aw_iinc (j := 0) (v := 17) (L' := [(1, .int (17)), (0, .ref (adb bs 31))]) dX2_init_44 rfl (by decide) (by decide) rfl ?_
  refine aw_goto (tgt := 25) dX2_init_47 (by decide) ?_
  have hn16 : ((ps (ps (ps (ps (ps lay15 (.inl (8, [2, 2, 2, 2, 0]))) (.inr (0, 32))) (.inr (0, 8))) (.inr (0, 8))) (.inr (0, 8)))).length = 118 := (len_push (len_push (len_push (len_push (len_push hn15)))))
  have he16_31 : ((ps (ps (ps (ps (ps lay15 (.inl (8, [2, 2, 2, 2, 0]))) (.inr (0, 32))) (.inr (0, 8))) (.inr (0, 8))) (.inr (0, 8))))[31]? = some (.inl (2, [2, 0, 0])) := (at_old (at_old (at_old (at_old (at_old he15_31)))))
  have he16_32 : ((ps (ps (ps (ps (ps lay15 (.inl (8, [2, 2, 2, 2, 0]))) (.inr (0, 32))) (.inr (0, 8))) (.inr (0, 8))) (.inr (0, 8))))[32]? = some (.inr (6, 20)) := (at_old (at_old (at_old (at_old (at_old he15_32)))))
  have hm16_0 : (uR (K_X8 (zm m_15 113) 113 114) 32 (16 : Int32).toNatClampNeg (some 113)).2.2 31 0 = some 32 := hm15_0
  generalize (ps (ps (ps (ps (ps lay15 (.inl (8, [2, 2, 2, 2, 0]))) (.inr (0, 32))) (.inr (0, 8))) (.inr (0, 8))) (.inr (0, 8))) = lay16 at hn16 he16_31 he16_32 ⊢
  generalize uR (K_X8 (zm m_15 113) 113 114) 32 (16 : Int32).toNatClampNeg (some 113) = m_16 at hm16_0 ⊢
  refine aw_iload_n (j := 0) dX2_init_25 rfl rfl ?_
  refine aw_bipush (v := 20) dX2_init_26 (by decide) ?_
  refine aw_icmp_ge (tgt := 50) dX2_init_28 (by decide) (fun hc => absurd hc (by decide)) (fun _ => ?_)
  refine aw_aload_n (j := 1) dX2_init_31 rfl rfl ?_
  refine aw_getfield (c := 2) (v := .ref (adb bs 32)) dX2_init_32 f_X2_11 he16_31 rfl (by show va_rf (Option.map (adb bs) (m_16.2.2 31 0)) = _; rw [show (m_16).2.2 31 0 = some 32 from hm16_0]; rfl) ?_
  refine aw_iload_n (j := 0) dX2_init_35 rfl rfl ?_
  refine aw_new (n := 118) (kc := 14) (ks := 178) (N := 5) dX2_init_36 hn16 nw_X2_9 ?_
  refine aw_dup dX2_init_39 rfl ?_
  refine aw_callIN (n := 119) (kc := 10) (ks := 122) (kc' := 4) (ks' := 56) (rest := [.ref (adb bs 118), .int (17), .ref (adb bs 32)]) [] dX2_init_40 (len_push hn16) (by omega) (len_push (len_push (len_push (len_push (len_push hn16))))) ki_X2_22 rfl (n_X8 (hn := (len_push hn16)) (hb := (at_new hn16))) (Nat.le_of_ble_eq_true rfl) ?_
  refine aw_aastore6 dX2_init_43 (at_old (at_old (at_old (at_old (at_old he16_32))))) (at_old (at_old (at_old (at_old (at_new hn16))))) (by unfold vp_in; decide) ?_
  refine aw_iinc (j := 0) (v := 18) (L' := [(1, .int (18)), (0, .ref (adb bs 31))]) dX2_init_44 rfl (by decide) (by decide) rfl ?_
  refine aw_goto (tgt := 25) dX2_init_47 (by decide) ?_
  have hn17 : ((ps (ps (ps (ps (ps lay16 (.inl (8, [2, 2, 2, 2, 0]))) (.inr (0, 32))) (.inr (0, 8))) (.inr (0, 8))) (.inr (0, 8)))).length = 123 := (len_push (len_push (len_push (len_push (len_push hn16)))))
  have he17_31 : ((ps (ps (ps (ps (ps lay16 (.inl (8, [2, 2, 2, 2, 0]))) (.inr (0, 32))) (.inr (0, 8))) (.inr (0, 8))) (.inr (0, 8))))[31]? = some (.inl (2, [2, 0, 0])) := (at_old (at_old (at_old (at_old (at_old he16_31)))))
  have he17_32 : ((ps (ps (ps (ps (ps lay16 (.inl (8, [2, 2, 2, 2, 0]))) (.inr (0, 32))) (.inr (0, 8))) (.inr (0, 8))) (.inr (0, 8))))[32]? = some (.inr (6, 20)) := (at_old (at_old (at_old (at_old (at_old he16_32)))))
  have hm17_0 : (uR (K_X8 (zm m_16 118) 118 119) 32 (17 : Int32).toNatClampNeg (some 118)).2.2 31 0 = some 32 := hm16_0
  generalize (ps (ps (ps (ps (ps lay16 (.inl (8, [2, 2, 2, 2, 0]))) (.inr (0, 32))) (.inr (0, 8))) (.inr (0, 8))) (.inr (0, 8))) = lay17 at hn17 he17_31 he17_32 ⊢
  generalize uR (K_X8 (zm m_16 118) 118 119) 32 (17 : Int32).toNatClampNeg (some 118) = m_17 at hm17_0 ⊢
  refine aw_iload_n (j := 0) dX2_init_25 rfl rfl ?_
  refine aw_bipush (v := 20) dX2_init_26 (by decide) ?_
  refine aw_icmp_ge (tgt := 50) dX2_init_28 (by decide) (fun hc => absurd hc (by decide)) (fun _ => ?_)
  refine aw_aload_n (j := 1) dX2_init_31 rfl rfl ?_
  refine aw_getfield (c := 2) (v := .ref (adb bs 32)) dX2_init_32 f_X2_11 he17_31 rfl (by show va_rf (Option.map (adb bs) (m_17.2.2 31 0)) = _; rw [show (m_17).2.2 31 0 = some 32 from hm17_0]; rfl) ?_
  refine aw_iload_n (j := 0) dX2_init_35 rfl rfl ?_
  refine aw_new (n := 123) (kc := 9) (ks := 117) (N := 5) dX2_init_36 hn17 nw_X2_9 ?_
  refine aw_dup dX2_init_39 rfl ?_
  refine aw_callIN (n := 124) (kc := 5) (ks := 61) (kc' := 4) (ks' := 56) (rest := [.ref (adb bs 123), .int (18), .ref (adb bs 32)]) [] dX2_init_40 (len_push hn17) (by omega) (len_push (len_push (len_push (len_push (len_push hn17))))) ki_X2_22 rfl (n_X8 (hn := (len_push hn17)) (hb := (at_new hn17))) (Nat.le_of_ble_eq_true rfl) ?_
  refine aw_aastore6 dX2_init_43 (at_old (at_old (at_old (at_old (at_old he17_32))))) (at_old (at_old (at_old (at_old (at_new hn17))))) (by unfold vp_in; decide) ?_
  refine aw_iinc (j := 0) (v := 19) (L' := [(1, .int (19)), (0, .ref (adb bs 31))]) dX2_init_44 rfl (by decide) (by decide) rfl ?_
  refine aw_goto (tgt := 25) dX2_init_47 (by decide) ?_
  have hn18 : ((ps (ps (ps (ps (ps lay17 (.inl (8, [2, 2, 2, 2, 0]))) (.inr (0, 32))) (.inr (0, 8))) (.inr (0, 8))) (.inr (0, 8)))).length = 128 := (len_push (len_push (len_push (len_push (len_push hn17)))))
  have he18_31 : ((ps (ps (ps (ps (ps lay17 (.inl (8, [2, 2, 2, 2, 0]))) (.inr (0, 32))) (.inr (0, 8))) (.inr (0, 8))) (.inr (0, 8))))[31]? = some (.inl (2, [2, 0, 0])) := (at_old (at_old (at_old (at_old (at_old he17_31)))))
  have he18_32 : ((ps (ps (ps (ps (ps lay17 (.inl (8, [2, 2, 2, 2, 0]))) (.inr (0, 32))) (.inr (0, 8))) (.inr (0, 8))) (.inr (0, 8))))[32]? = some (.inr (6, 20)) := (at_old (at_old (at_old (at_old (at_old he17_32)))))
  have hm18_0 : (uR (K_X8 (zm m_17 123) 123 124) 32 (18 : Int32).toNatClampNeg (some 123)).2.2 31 0 = some 32 := hm17_0
  generalize (ps (ps (ps (ps (ps lay17 (.inl (8, [2, 2, 2, 2, 0]))) (.inr (0, 32))) (.inr (0, 8))) (.inr (0, 8))) (.inr (0, 8))) = lay18 at hn18 he18_31 he18_32 ⊢
  generalize uR (K_X8 (zm m_17 123) 123 124) 32 (18 : Int32).toNatClampNeg (some 123) = m_18 at hm18_0 ⊢
  refine aw_iload_n (j := 0) dX2_init_25 rfl rfl ?_
  refine aw_bipush (v := 20) dX2_init_26 (by decide) ?_
  refine aw_icmp_ge (tgt := 50) dX2_init_28 (by decide) (fun hc => absurd hc (by decide)) (fun _ => ?_)
  refine aw_aload_n (j := 1) dX2_init_31 rfl rfl ?_
  refine aw_getfield (c := 2) (v := .ref (adb bs 32)) dX2_init_32 f_X2_11 he18_31 rfl (by show va_rf (Option.map (adb bs) (m_18.2.2 31 0)) = _; rw [show (m_18).2.2 31 0 = some 32 from hm18_0]; rfl) ?_
  refine aw_iload_n (j := 0) dX2_init_35 rfl rfl ?_
  refine aw_new (n := 128) (kc := 4) (ks := 56) (N := 5) dX2_init_36 hn18 nw_X2_9 ?_
  refine aw_dup dX2_init_39 rfl ?_
  refine aw_callIN (n := 129) (kc := 0) (ks := 0) (kc' := 4) (ks' := 56) (rest := [.ref (adb bs 128), .int (19), .ref (adb bs 32)]) [] dX2_init_40 (len_push hn18) (by omega) (len_push (len_push (len_push (len_push (len_push hn18))))) ki_X2_22 rfl (n_X8 (hn := (len_push hn18)) (hb := (at_new hn18))) (Nat.le_of_ble_eq_true rfl) ?_
  refine aw_aastore6 dX2_init_43 (at_old (at_old (at_old (at_old (at_old he18_32))))) (at_old (at_old (at_old (at_old (at_new hn18))))) (by unfold vp_in; decide) ?_
  refine aw_iinc (j := 0) (v := 20) (L' := [(1, .int (20)), (0, .ref (adb bs 31))]) dX2_init_44 rfl (by decide) (by decide) rfl ?_
  refine aw_goto (tgt := 25) dX2_init_47 (by decide) ?_
  have hn19 : ((ps (ps (ps (ps (ps lay18 (.inl (8, [2, 2, 2, 2, 0]))) (.inr (0, 32))) (.inr (0, 8))) (.inr (0, 8))) (.inr (0, 8)))).length = 133 := (len_push (len_push (len_push (len_push (len_push hn18)))))
  have he19_31 : ((ps (ps (ps (ps (ps lay18 (.inl (8, [2, 2, 2, 2, 0]))) (.inr (0, 32))) (.inr (0, 8))) (.inr (0, 8))) (.inr (0, 8))))[31]? = some (.inl (2, [2, 0, 0])) := (at_old (at_old (at_old (at_old (at_old he18_31)))))
  have he19_32 : ((ps (ps (ps (ps (ps lay18 (.inl (8, [2, 2, 2, 2, 0]))) (.inr (0, 32))) (.inr (0, 8))) (.inr (0, 8))) (.inr (0, 8))))[32]? = some (.inr (6, 20)) := (at_old (at_old (at_old (at_old (at_old he18_32)))))
  have hm19_0 : (uR (K_X8 (zm m_18 128) 128 129) 32 (19 : Int32).toNatClampNeg (some 128)).2.2 31 0 = some 32 := hm18_0
  generalize (ps (ps (ps (ps (ps lay18 (.inl (8, [2, 2, 2, 2, 0]))) (.inr (0, 32))) (.inr (0, 8))) (.inr (0, 8))) (.inr (0, 8))) = lay19 at hn19 he19_31 he19_32 ⊢
  generalize uR (K_X8 (zm m_18 128) 128 129) 32 (19 : Int32).toNatClampNeg (some 128) = m_19 at hm19_0 ⊢
  refine aw_iload_n (j := 0) dX2_init_25 rfl rfl ?_
  refine aw_bipush (v := 20) dX2_init_26 (by decide) ?_
  refine aw_icmp_ge (tgt := 50) dX2_init_28 (by decide) (fun _ => ?_) (fun hc => absurd (by decide) hc)
  exact aw_ret (v := none) rfl (Or.inl ⟨rfl, rfl, dX2_init_50⟩) ⟨rfl, rfl⟩
end
