theorem dX11_init_0 : decode cX11_init 0 = .ok (.aload_n 0, 1) := by decide +kernel
theorem dX11_init_1 : decode cX11_init 1 = .ok (.invokespecial 3, 3) := by decide +kernel
theorem dX11_init_4 : decode cX11_init 4 = .ok (.aload_n 0, 1) := by decide +kernel
theorem dX11_init_5 : decode cX11_init 5 = .ok (.new 9, 3) := by decide +kernel
theorem dX11_init_8 : decode cX11_init 8 = .ok (.dup, 1) := by decide +kernel
theorem dX11_init_9 : decode cX11_init 9 = .ok (.invokespecial 11, 3) := by decide +kernel
theorem dX11_init_12 : decode cX11_init 12 = .ok (.putfield 12, 3) := by decide +kernel
theorem dX11_init_15 : decode cX11_init 15 = .ok (.aload_n 0, 1) := by decide +kernel
theorem dX11_init_16 : decode cX11_init 16 = .ok (.new 16, 3) := by decide +kernel
theorem dX11_init_19 : decode cX11_init 19 = .ok (.dup, 1) := by decide +kernel
theorem dX11_init_20 : decode cX11_init 20 = .ok (.invokespecial 18, 3) := by decide +kernel
theorem dX11_init_23 : decode cX11_init 23 = .ok (.putfield 19, 3) := by decide +kernel
theorem dX11_init_26 : decode cX11_init 26 = .ok (.aload_n 0, 1) := by decide +kernel
theorem dX11_init_27 : decode cX11_init 27 = .ok (.new 23, 3) := by decide +kernel
theorem dX11_init_30 : decode cX11_init 30 = .ok (.dup, 1) := by decide +kernel
theorem dX11_init_31 : decode cX11_init 31 = .ok (.invokespecial 25, 3) := by decide +kernel
theorem dX11_init_34 : decode cX11_init 34 = .ok (.putfield 26, 3) := by decide +kernel
theorem dX11_init_37 : decode cX11_init 37 = .ok (.aload_n 0, 1) := by decide +kernel
theorem dX11_init_38 : decode cX11_init 38 = .ok (.new 30, 3) := by decide +kernel
theorem dX11_init_41 : decode cX11_init 41 = .ok (.dup, 1) := by decide +kernel
theorem dX11_init_42 : decode cX11_init 42 = .ok (.invokespecial 32, 3) := by decide +kernel
theorem dX11_init_45 : decode cX11_init 45 = .ok (.putfield 33, 3) := by decide +kernel
theorem dX11_init_48 : decode cX11_init 48 = .ok (.aload_n 0, 1) := by decide +kernel
theorem dX11_init_49 : decode cX11_init 49 = .ok (.new 30, 3) := by decide +kernel
theorem dX11_init_52 : decode cX11_init 52 = .ok (.dup, 1) := by decide +kernel
theorem dX11_init_53 : decode cX11_init 53 = .ok (.invokespecial 32, 3) := by decide +kernel
theorem dX11_init_56 : decode cX11_init 56 = .ok (.putfield 37, 3) := by decide +kernel
theorem dX11_init_59 : decode cX11_init 59 = .ok (.aload_n 0, 1) := by decide +kernel
theorem dX11_init_60 : decode cX11_init 60 = .ok (.new 40, 3) := by decide +kernel
theorem dX11_init_63 : decode cX11_init 63 = .ok (.dup, 1) := by decide +kernel
theorem dX11_init_64 : decode cX11_init 64 = .ok (.invokespecial 42, 3) := by decide +kernel
theorem dX11_init_67 : decode cX11_init 67 = .ok (.putfield 43, 3) := by decide +kernel
theorem dX11_init_70 : decode cX11_init 70 = .ok (.aload_n 0, 1) := by decide +kernel
theorem dX11_init_71 : decode cX11_init 71 = .ok (.iconst 2, 1) := by decide +kernel
theorem dX11_init_72 : decode cX11_init 72 = .ok (.anewarray 47, 3) := by decide +kernel
theorem dX11_init_75 : decode cX11_init 75 = .ok (.putfield 49, 3) := by decide +kernel
theorem dX11_init_78 : decode cX11_init 78 = .ok (.aload_n 0, 1) := by decide +kernel
theorem dX11_init_79 : decode cX11_init 79 = .ok (.new 53, 3) := by decide +kernel
theorem dX11_init_82 : decode cX11_init 82 = .ok (.dup, 1) := by decide +kernel
theorem dX11_init_83 : decode cX11_init 83 = .ok (.invokespecial 55, 3) := by decide +kernel
theorem dX11_init_86 : decode cX11_init 86 = .ok (.putfield 56, 3) := by decide +kernel
theorem dX11_init_89 : decode cX11_init 89 = .ok (.aload_n 0, 1) := by decide +kernel
theorem dX11_init_90 : decode cX11_init 90 = .ok (.new 53, 3) := by decide +kernel
theorem dX11_init_93 : decode cX11_init 93 = .ok (.dup, 1) := by decide +kernel
theorem dX11_init_94 : decode cX11_init 94 = .ok (.invokespecial 55, 3) := by decide +kernel
theorem dX11_init_97 : decode cX11_init 97 = .ok (.putfield 60, 3) := by decide +kernel
theorem dX11_init_100 : decode cX11_init 100 = .ok (.aload_n 0, 1) := by decide +kernel
theorem dX11_init_101 : decode cX11_init 101 = .ok (.iconst 0, 1) := by decide +kernel
theorem dX11_init_102 : decode cX11_init 102 = .ok (.putfield 63, 3) := by decide +kernel
theorem dX11_init_105 : decode cX11_init 105 = .ok (.aload_n 0, 1) := by decide +kernel
theorem dX11_init_106 : decode cX11_init 106 = .ok (.bipush 12, 2) := by decide +kernel
theorem dX11_init_108 : decode cX11_init 108 = .ok (.newarray .int, 2) := by decide +kernel
theorem dX11_init_110 : decode cX11_init 110 = .ok (.putfield 67, 3) := by decide +kernel
theorem dX11_init_113 : decode cX11_init 113 = .ok (.aload_n 0, 1) := by decide +kernel
theorem dX11_init_114 : decode cX11_init 114 = .ok (.bipush 12, 2) := by decide +kernel
theorem dX11_init_116 : decode cX11_init 116 = .ok (.newarray .int, 2) := by decide +kernel
theorem dX11_init_118 : decode cX11_init 118 = .ok (.putfield 71, 3) := by decide +kernel
theorem dX11_init_121 : decode cX11_init 121 = .ok (.aload_n 0, 1) := by decide +kernel
theorem dX11_init_122 : decode cX11_init 122 = .ok (.bipush 12, 2) := by decide +kernel
theorem dX11_init_124 : decode cX11_init 124 = .ok (.newarray .int, 2) := by decide +kernel
theorem dX11_init_126 : decode cX11_init 126 = .ok (.putfield 74, 3) := by decide +kernel
theorem dX11_init_129 : decode cX11_init 129 = .ok (.aload_n 0, 1) := by decide +kernel
theorem dX11_init_130 : decode cX11_init 130 = .ok (.iconst 0, 1) := by decide +kernel
theorem dX11_init_131 : decode cX11_init 131 = .ok (.putfield 77, 3) := by decide +kernel
theorem dX11_init_134 : decode cX11_init 134 = .ok (.aload_n 0, 1) := by decide +kernel
theorem dX11_init_135 : decode cX11_init 135 = .ok (.bipush 8, 2) := by decide +kernel
theorem dX11_init_137 : decode cX11_init 137 = .ok (.newarray .int, 2) := by decide +kernel
theorem dX11_init_139 : decode cX11_init 139 = .ok (.putfield 80, 3) := by decide +kernel
theorem dX11_init_142 : decode cX11_init 142 = .ok (.aload_n 0, 1) := by decide +kernel
theorem dX11_init_143 : decode cX11_init 143 = .ok (.bipush 10, 2) := by decide +kernel
theorem dX11_init_145 : decode cX11_init 145 = .ok (.newarray .long, 2) := by decide +kernel
theorem dX11_init_147 : decode cX11_init 147 = .ok (.putfield 83, 3) := by decide +kernel
theorem dX11_init_150 : decode cX11_init 150 = .ok (.aload_n 0, 1) := by decide +kernel
theorem dX11_init_151 : decode cX11_init 151 = .ok (.iconst 0, 1) := by decide +kernel
theorem dX11_init_152 : decode cX11_init 152 = .ok (.putfield 87, 3) := by decide +kernel
theorem dX11_init_155 : decode cX11_init 155 = .ok (.new 90, 3) := by decide +kernel
theorem dX11_init_158 : decode cX11_init 158 = .ok (.dup, 1) := by decide +kernel
theorem dX11_init_159 : decode cX11_init 159 = .ok (.invokespecial 92, 3) := by decide +kernel
theorem dX11_init_162 : decode cX11_init 162 = .ok (.astore_n 1, 1) := by decide +kernel
theorem dX11_init_163 : decode cX11_init 163 = .ok (.aload_n 0, 1) := by decide +kernel
theorem dX11_init_164 : decode cX11_init 164 = .ok (.new 93, 3) := by decide +kernel
theorem dX11_init_167 : decode cX11_init 167 = .ok (.dup, 1) := by decide +kernel
theorem dX11_init_168 : decode cX11_init 168 = .ok (.aload_n 1, 1) := by decide +kernel
theorem dX11_init_169 : decode cX11_init 169 = .ok (.invokespecial 95, 3) := by decide +kernel
theorem dX11_init_172 : decode cX11_init 172 = .ok (.putfield 98, 3) := by decide +kernel
theorem dX11_init_175 : decode cX11_init 175 = .ok (.aload_n 0, 1) := by decide +kernel
theorem dX11_init_176 : decode cX11_init 176 = .ok (.new 102, 3) := by decide +kernel
theorem dX11_init_179 : decode cX11_init 179 = .ok (.dup, 1) := by decide +kernel
theorem dX11_init_180 : decode cX11_init 180 = .ok (.aload_n 1, 1) := by decide +kernel
theorem dX11_init_181 : decode cX11_init 181 = .ok (.invokespecial 104, 3) := by decide +kernel
theorem dX11_init_184 : decode cX11_init 184 = .ok (.putfield 105, 3) := by decide +kernel
theorem dX11_init_187 : decode cX11_init 187 = .ok (.iconst 0, 1) := by decide +kernel
theorem dX11_init_188 : decode cX11_init 188 = .ok (.istore_n 2, 1) := by decide +kernel
theorem dX11_init_189 : decode cX11_init 189 = .ok (.iload_n 2, 1) := by decide +kernel
theorem dX11_init_190 : decode cX11_init 190 = .ok (.aload_n 0, 1) := by decide +kernel
theorem dX11_init_191 : decode cX11_init 191 = .ok (.getfield 49, 3) := by decide +kernel
theorem dX11_init_194 : decode cX11_init 194 = .ok (.arraylength, 1) := by decide +kernel
theorem dX11_init_195 : decode cX11_init 195 = .ok (.if_icmp .ge 22, 3) := by decide +kernel
theorem dX11_init_198 : decode cX11_init 198 = .ok (.aload_n 0, 1) := by decide +kernel
theorem dX11_init_199 : decode cX11_init 199 = .ok (.getfield 49, 3) := by decide +kernel
theorem dX11_init_202 : decode cX11_init 202 = .ok (.iload_n 2, 1) := by decide +kernel
theorem dX11_init_203 : decode cX11_init 203 = .ok (.new 47, 3) := by decide +kernel
theorem dX11_init_206 : decode cX11_init 206 = .ok (.dup, 1) := by decide +kernel
theorem dX11_init_207 : decode cX11_init 207 = .ok (.invokespecial 109, 3) := by decide +kernel
theorem dX11_init_210 : decode cX11_init 210 = .ok (.aastore, 1) := by decide +kernel
theorem dX11_init_211 : decode cX11_init 211 = .ok (.iinc 2 1, 3) := by decide +kernel
theorem dX11_init_214 : decode cX11_init 214 = .ok (.goto (-25), 3) := by decide +kernel
theorem dX11_init_217 : decode cX11_init 217 = .ok (.return_, 1) := by decide +kernel
theorem dX11_sign_0 : decode cX11_sign 0 = .ok (.aload_n 0, 1) := by decide +kernel
theorem dX11_sign_1 : decode cX11_sign 1 = .ok (.getfield 12, 3) := by decide +kernel
theorem dX11_sign_4 : decode cX11_sign 4 = .ok (.iload_n 1, 1) := by decide +kernel
theorem dX11_sign_5 : decode cX11_sign 5 = .ok (.invokevirtual 110, 3) := by decide +kernel
theorem dX11_sign_8 : decode cX11_sign 8 = .ok (.ifCond .eq 13, 3) := by decide +kernel
theorem dX11_sign_11 : decode cX11_sign 11 = .ok (.aload_n 0, 1) := by decide +kernel
theorem dX11_sign_12 : decode cX11_sign 12 = .ok (.getfield 12, 3) := by decide +kernel
theorem dX11_sign_15 : decode cX11_sign 15 = .ok (.getfield 114, 3) := by decide +kernel
theorem dX11_sign_18 : decode cX11_sign 18 = .ok (.goto 4, 3) := by decide +kernel
theorem dX11_sign_21 : decode cX11_sign 21 = .ok (.iconst (-1), 1) := by decide +kernel
theorem dX11_sign_22 : decode cX11_sign 22 = .ok (.ireturn, 1) := by decide +kernel
theorem dX11_end_0 : decode cX11_end 0 = .ok (.aload_n 0, 1) := by decide +kernel
theorem dX11_end_1 : decode cX11_end 1 = .ok (.getfield 12, 3) := by decide +kernel
theorem dX11_end_4 : decode cX11_end 4 = .ok (.iload_n 1, 1) := by decide +kernel
theorem dX11_end_5 : decode cX11_end 5 = .ok (.invokevirtual 117, 3) := by decide +kernel
theorem dX11_end_8 : decode cX11_end 8 = .ok (.ireturn, 1) := by decide +kernel
theorem dX11_league_0 : decode cX11_league 0 = .ok (.aload_n 0, 1) := by decide +kernel
theorem dX11_league_1 : decode cX11_league 1 = .ok (.getfield 12, 3) := by decide +kernel
theorem dX11_league_4 : decode cX11_league 4 = .ok (.getfield 114, 3) := by decide +kernel
theorem dX11_league_7 : decode cX11_league 7 = .ok (.ifCond .ne 5, 3) := by decide +kernel
theorem dX11_league_10 : decode cX11_league 10 = .ok (.iconst 0, 1) := by decide +kernel
theorem dX11_league_11 : decode cX11_league 11 = .ok (.ireturn, 1) := by decide +kernel
theorem dX11_league_12 : decode cX11_league 12 = .ok (.aload_n 0, 1) := by decide +kernel
theorem dX11_league_13 : decode cX11_league 13 = .ok (.getfield 26, 3) := by decide +kernel
theorem dX11_league_16 : decode cX11_league 16 = .ok (.aload_n 0, 1) := by decide +kernel
theorem dX11_league_17 : decode cX11_league 17 = .ok (.getfield 12, 3) := by decide +kernel
theorem dX11_league_20 : decode cX11_league 20 = .ok (.aload_n 0, 1) := by decide +kernel
theorem dX11_league_21 : decode cX11_league 21 = .ok (.getfield 19, 3) := by decide +kernel
theorem dX11_league_24 : decode cX11_league 24 = .ok (.aload_n 0, 1) := by decide +kernel
theorem dX11_league_25 : decode cX11_league 25 = .ok (.getfield 33, 3) := by decide +kernel
theorem dX11_league_28 : decode cX11_league 28 = .ok (.invokevirtual 120, 3) := by decide +kernel
theorem dX11_league_31 : decode cX11_league 31 = .ok (.istore_n 1, 1) := by decide +kernel
theorem dX11_league_32 : decode cX11_league 32 = .ok (.aload_n 0, 1) := by decide +kernel
theorem dX11_league_33 : decode cX11_league 33 = .ok (.getfield 12, 3) := by decide +kernel
theorem dX11_league_36 : decode cX11_league 36 = .ok (.iconst 0, 1) := by decide +kernel
theorem dX11_league_37 : decode cX11_league 37 = .ok (.putfield 114, 3) := by decide +kernel
theorem dX11_league_40 : decode cX11_league 40 = .ok (.iload_n 1, 1) := by decide +kernel
theorem dX11_league_41 : decode cX11_league 41 = .ok (.iconst (-1), 1) := by decide +kernel
theorem dX11_league_42 : decode cX11_league 42 = .ok (.if_icmp .eq 7, 3) := by decide +kernel
theorem dX11_league_45 : decode cX11_league 45 = .ok (.iconst (-1), 1) := by decide +kernel
theorem dX11_league_46 : decode cX11_league 46 = .ok (.iload_n 1, 1) := by decide +kernel
theorem dX11_league_47 : decode cX11_league 47 = .ok (.isub, 1) := by decide +kernel
theorem dX11_league_48 : decode cX11_league 48 = .ok (.ireturn, 1) := by decide +kernel
theorem dX11_league_49 : decode cX11_league 49 = .ok (.aload_n 0, 1) := by decide +kernel
theorem dX11_league_50 : decode cX11_league 50 = .ok (.getfield 26, 3) := by decide +kernel
theorem dX11_league_53 : decode cX11_league 53 = .ok (.aload_n 0, 1) := by decide +kernel
theorem dX11_league_54 : decode cX11_league 54 = .ok (.getfield 19, 3) := by decide +kernel
theorem dX11_league_57 : decode cX11_league 57 = .ok (.aload_n 0, 1) := by decide +kernel
theorem dX11_league_58 : decode cX11_league 58 = .ok (.getfield 33, 3) := by decide +kernel
theorem dX11_league_61 : decode cX11_league 61 = .ok (.invokevirtual 124, 3) := by decide +kernel
theorem dX11_league_64 : decode cX11_league 64 = .ok (.aload_n 0, 1) := by decide +kernel
theorem dX11_league_65 : decode cX11_league 65 = .ok (.getfield 26, 3) := by decide +kernel
theorem dX11_league_68 : decode cX11_league 68 = .ok (.getfield 128, 3) := by decide +kernel
theorem dX11_league_71 : decode cX11_league 71 = .ok (.ifCond .eq 20, 3) := by decide +kernel
theorem dX11_league_74 : decode cX11_league 74 = .ok (.aload_n 0, 1) := by decide +kernel
theorem dX11_league_75 : decode cX11_league 75 = .ok (.getfield 56, 3) := by decide +kernel
theorem dX11_league_78 : decode cX11_league 78 = .ok (.invokevirtual 132, 3) := by decide +kernel
theorem dX11_league_81 : decode cX11_league 81 = .ok (.aload_n 0, 1) := by decide +kernel
theorem dX11_league_82 : decode cX11_league 82 = .ok (.iconst 0, 1) := by decide +kernel
theorem dX11_league_83 : decode cX11_league 83 = .ok (.putfield 63, 3) := by decide +kernel
theorem dX11_league_86 : decode cX11_league 86 = .ok (.aload_n 0, 1) := by decide +kernel
theorem dX11_league_87 : decode cX11_league 87 = .ok (.iconst 0, 1) := by decide +kernel
theorem dX11_league_88 : decode cX11_league 88 = .ok (.putfield 77, 3) := by decide +kernel
theorem dX11_league_91 : decode cX11_league 91 = .ok (.aload_n 0, 1) := by decide +kernel
theorem dX11_league_92 : decode cX11_league 92 = .ok (.getfield 43, 3) := by decide +kernel
theorem dX11_league_95 : decode cX11_league 95 = .ok (.iconst 0, 1) := by decide +kernel
theorem dX11_league_96 : decode cX11_league 96 = .ok (.putfield 135, 3) := by decide +kernel
theorem dX11_league_99 : decode cX11_league 99 = .ok (.iconst 0, 1) := by decide +kernel
theorem dX11_league_100 : decode cX11_league 100 = .ok (.istore_n 2, 1) := by decide +kernel
theorem dX11_league_101 : decode cX11_league 101 = .ok (.iload_n 2, 1) := by decide +kernel
theorem dX11_league_102 : decode cX11_league 102 = .ok (.aload_n 0, 1) := by decide +kernel
theorem dX11_league_103 : decode cX11_league 103 = .ok (.getfield 49, 3) := by decide +kernel
theorem dX11_league_106 : decode cX11_league 106 = .ok (.arraylength, 1) := by decide +kernel
theorem dX11_league_107 : decode cX11_league 107 = .ok (.if_icmp .ge 19, 3) := by decide +kernel
theorem dX11_league_110 : decode cX11_league 110 = .ok (.aload_n 0, 1) := by decide +kernel
theorem dX11_league_111 : decode cX11_league 111 = .ok (.getfield 49, 3) := by decide +kernel
theorem dX11_league_114 : decode cX11_league 114 = .ok (.iload_n 2, 1) := by decide +kernel
theorem dX11_league_115 : decode cX11_league 115 = .ok (.aaload, 1) := by decide +kernel
theorem dX11_league_116 : decode cX11_league 116 = .ok (.iconst 0, 1) := by decide +kernel
theorem dX11_league_117 : decode cX11_league 117 = .ok (.putfield 136, 3) := by decide +kernel
theorem dX11_league_120 : decode cX11_league 120 = .ok (.iinc 2 1, 3) := by decide +kernel
theorem dX11_league_123 : decode cX11_league 123 = .ok (.goto (-22), 3) := by decide +kernel
theorem dX11_league_126 : decode cX11_league 126 = .ok (.aload_n 0, 1) := by decide +kernel
theorem dX11_league_127 : decode cX11_league 127 = .ok (.getfield 26, 3) := by decide +kernel
theorem dX11_league_130 : decode cX11_league 130 = .ok (.getfield 139, 3) := by decide +kernel
theorem dX11_league_133 : decode cX11_league 133 = .ok (.ireturn, 1) := by decide +kernel
theorem dX11_rule_0 : decode cX11_rule 0 = .ok (.aload_n 0, 1) := by decide +kernel
theorem dX11_rule_1 : decode cX11_rule 1 = .ok (.getfield 19, 3) := by decide +kernel
theorem dX11_rule_4 : decode cX11_rule 4 = .ok (.getfield 142, 3) := by decide +kernel
theorem dX11_rule_7 : decode cX11_rule 7 = .ok (.aload_n 0, 1) := by decide +kernel
theorem dX11_rule_8 : decode cX11_rule 8 = .ok (.getfield 12, 3) := by decide +kernel
theorem dX11_rule_11 : decode cX11_rule 11 = .ok (.invokevirtual 146, 3) := by decide +kernel
theorem dX11_rule_14 : decode cX11_rule 14 = .ok (.istore_n 1, 1) := by decide +kernel
theorem dX11_rule_15 : decode cX11_rule 15 = .ok (.aload_n 0, 1) := by decide +kernel
theorem dX11_rule_16 : decode cX11_rule 16 = .ok (.getfield 12, 3) := by decide +kernel
theorem dX11_rule_19 : decode cX11_rule 19 = .ok (.iconst 0, 1) := by decide +kernel
theorem dX11_rule_20 : decode cX11_rule 20 = .ok (.putfield 114, 3) := by decide +kernel
theorem dX11_rule_23 : decode cX11_rule 23 = .ok (.iload_n 1, 1) := by decide +kernel
theorem dX11_rule_24 : decode cX11_rule 24 = .ok (.iconst (-1), 1) := by decide +kernel
theorem dX11_rule_25 : decode cX11_rule 25 = .ok (.if_icmp .eq 7, 3) := by decide +kernel
theorem dX11_rule_28 : decode cX11_rule 28 = .ok (.iconst (-1), 1) := by decide +kernel
theorem dX11_rule_29 : decode cX11_rule 29 = .ok (.iload_n 1, 1) := by decide +kernel
theorem dX11_rule_30 : decode cX11_rule 30 = .ok (.isub, 1) := by decide +kernel
theorem dX11_rule_31 : decode cX11_rule 31 = .ok (.ireturn, 1) := by decide +kernel
theorem dX11_rule_32 : decode cX11_rule 32 = .ok (.aload_n 0, 1) := by decide +kernel
theorem dX11_rule_33 : decode cX11_rule 33 = .ok (.getfield 19, 3) := by decide +kernel
theorem dX11_rule_36 : decode cX11_rule 36 = .ok (.getfield 152, 3) := by decide +kernel
theorem dX11_rule_39 : decode cX11_rule 39 = .ok (.astore_n 2, 1) := by decide +kernel
theorem dX11_rule_40 : decode cX11_rule 40 = .ok (.aload_n 0, 1) := by decide +kernel
theorem dX11_rule_41 : decode cX11_rule 41 = .ok (.getfield 19, 3) := by decide +kernel
theorem dX11_rule_44 : decode cX11_rule 44 = .ok (.aload_n 0, 1) := by decide +kernel
theorem dX11_rule_45 : decode cX11_rule 45 = .ok (.getfield 19, 3) := by decide +kernel
theorem dX11_rule_48 : decode cX11_rule 48 = .ok (.getfield 142, 3) := by decide +kernel
theorem dX11_rule_51 : decode cX11_rule 51 = .ok (.putfield 152, 3) := by decide +kernel
theorem dX11_rule_54 : decode cX11_rule 54 = .ok (.aload_n 0, 1) := by decide +kernel
theorem dX11_rule_55 : decode cX11_rule 55 = .ok (.getfield 19, 3) := by decide +kernel
theorem dX11_rule_58 : decode cX11_rule 58 = .ok (.aload_n 2, 1) := by decide +kernel
theorem dX11_rule_59 : decode cX11_rule 59 = .ok (.putfield 142, 3) := by decide +kernel
theorem dX11_rule_62 : decode cX11_rule 62 = .ok (.iconst 0, 1) := by decide +kernel
theorem dX11_rule_63 : decode cX11_rule 63 = .ok (.ireturn, 1) := by decide +kernel
theorem dX11_plan_0 : decode cX11_plan 0 = .ok (.aload_n 0, 1) := by decide +kernel
theorem dX11_plan_1 : decode cX11_plan 1 = .ok (.getfield 60, 3) := by decide +kernel
theorem dX11_plan_4 : decode cX11_plan 4 = .ok (.aload_n 0, 1) := by decide +kernel
theorem dX11_plan_5 : decode cX11_plan 5 = .ok (.getfield 12, 3) := by decide +kernel
theorem dX11_plan_8 : decode cX11_plan 8 = .ok (.aload_n 0, 1) := by decide +kernel
theorem dX11_plan_9 : decode cX11_plan 9 = .ok (.getfield 19, 3) := by decide +kernel
theorem dX11_plan_12 : decode cX11_plan 12 = .ok (.getfield 155, 3) := by decide +kernel
theorem dX11_plan_15 : decode cX11_plan 15 = .ok (.invokevirtual 158, 3) := by decide +kernel
theorem dX11_plan_18 : decode cX11_plan 18 = .ok (.istore_n 1, 1) := by decide +kernel
theorem dX11_plan_19 : decode cX11_plan 19 = .ok (.aload_n 0, 1) := by decide +kernel
theorem dX11_plan_20 : decode cX11_plan 20 = .ok (.getfield 12, 3) := by decide +kernel
theorem dX11_plan_23 : decode cX11_plan 23 = .ok (.iconst 0, 1) := by decide +kernel
theorem dX11_plan_24 : decode cX11_plan 24 = .ok (.putfield 114, 3) := by decide +kernel
theorem dX11_plan_27 : decode cX11_plan 27 = .ok (.iload_n 1, 1) := by decide +kernel
theorem dX11_plan_28 : decode cX11_plan 28 = .ok (.iconst (-1), 1) := by decide +kernel
theorem dX11_plan_29 : decode cX11_plan 29 = .ok (.if_icmp .eq 7, 3) := by decide +kernel
theorem dX11_plan_32 : decode cX11_plan 32 = .ok (.iconst (-1), 1) := by decide +kernel
theorem dX11_plan_33 : decode cX11_plan 33 = .ok (.iload_n 1, 1) := by decide +kernel
theorem dX11_plan_34 : decode cX11_plan 34 = .ok (.isub, 1) := by decide +kernel
theorem dX11_plan_35 : decode cX11_plan 35 = .ok (.ireturn, 1) := by decide +kernel
theorem dX11_plan_36 : decode cX11_plan 36 = .ok (.aload_n 0, 1) := by decide +kernel
theorem dX11_plan_37 : decode cX11_plan 37 = .ok (.getfield 56, 3) := by decide +kernel
theorem dX11_plan_40 : decode cX11_plan 40 = .ok (.astore_n 2, 1) := by decide +kernel
theorem dX11_plan_41 : decode cX11_plan 41 = .ok (.aload_n 0, 1) := by decide +kernel
theorem dX11_plan_42 : decode cX11_plan 42 = .ok (.aload_n 0, 1) := by decide +kernel
theorem dX11_plan_43 : decode cX11_plan 43 = .ok (.getfield 60, 3) := by decide +kernel
theorem dX11_plan_46 : decode cX11_plan 46 = .ok (.putfield 56, 3) := by decide +kernel
theorem dX11_plan_49 : decode cX11_plan 49 = .ok (.aload_n 0, 1) := by decide +kernel
theorem dX11_plan_50 : decode cX11_plan 50 = .ok (.aload_n 2, 1) := by decide +kernel
theorem dX11_plan_51 : decode cX11_plan 51 = .ok (.putfield 60, 3) := by decide +kernel
theorem dX11_plan_54 : decode cX11_plan 54 = .ok (.aload_n 0, 1) := by decide +kernel
theorem dX11_plan_55 : decode cX11_plan 55 = .ok (.iconst 0, 1) := by decide +kernel
theorem dX11_plan_56 : decode cX11_plan 56 = .ok (.putfield 63, 3) := by decide +kernel
theorem dX11_plan_59 : decode cX11_plan 59 = .ok (.aload_n 0, 1) := by decide +kernel
theorem dX11_plan_60 : decode cX11_plan 60 = .ok (.getfield 56, 3) := by decide +kernel
theorem dX11_plan_63 : decode cX11_plan 63 = .ok (.getfield 161, 3) := by decide +kernel
theorem dX11_plan_66 : decode cX11_plan 66 = .ok (.ireturn, 1) := by decide +kernel
theorem dX11_skill_0 : decode cX11_skill 0 = .ok (.aload_n 0, 1) := by decide +kernel
theorem dX11_skill_1 : decode cX11_skill 1 = .ok (.getfield 19, 3) := by decide +kernel
theorem dX11_skill_4 : decode cX11_skill 4 = .ok (.iload_n 1, 1) := by decide +kernel
theorem dX11_skill_5 : decode cX11_skill 5 = .ok (.invokevirtual 164, 3) := by decide +kernel
theorem dX11_skill_8 : decode cX11_skill 8 = .ok (.ifCond .eq 26, 3) := by decide +kernel
theorem dX11_skill_11 : decode cX11_skill 11 = .ok (.aload_n 0, 1) := by decide +kernel
theorem dX11_skill_12 : decode cX11_skill 12 = .ok (.getfield 19, 3) := by decide +kernel
theorem dX11_skill_15 : decode cX11_skill 15 = .ok (.iload_n 2, 1) := by decide +kernel
theorem dX11_skill_16 : decode cX11_skill 16 = .ok (.invokevirtual 167, 3) := by decide +kernel
theorem dX11_skill_19 : decode cX11_skill 19 = .ok (.ifCond .eq 15, 3) := by decide +kernel
theorem dX11_skill_22 : decode cX11_skill 22 = .ok (.aload_n 0, 1) := by decide +kernel
theorem dX11_skill_23 : decode cX11_skill 23 = .ok (.getfield 33, 3) := by decide +kernel
theorem dX11_skill_26 : decode cX11_skill 26 = .ok (.iload_n 1, 1) := by decide +kernel
theorem dX11_skill_27 : decode cX11_skill 27 = .ok (.iload_n 2, 1) := by decide +kernel
theorem dX11_skill_28 : decode cX11_skill 28 = .ok (.invokevirtual 170, 3) := by decide +kernel
theorem dX11_skill_31 : decode cX11_skill 31 = .ok (.goto 4, 3) := by decide +kernel
theorem dX11_skill_34 : decode cX11_skill 34 = .ok (.iconst (-1), 1) := by decide +kernel
theorem dX11_skill_35 : decode cX11_skill 35 = .ok (.ireturn, 1) := by decide +kernel
theorem dX11_of_0 : decode cX11_of 0 = .ok (.aload_n 0, 1) := by decide +kernel
theorem dX11_of_1 : decode cX11_of 1 = .ok (.getfield 19, 3) := by decide +kernel
theorem dX11_of_4 : decode cX11_of 4 = .ok (.iload_n 1, 1) := by decide +kernel
theorem dX11_of_5 : decode cX11_of 5 = .ok (.invokevirtual 164, 3) := by decide +kernel
theorem dX11_of_8 : decode cX11_of 8 = .ok (.ifCond .ne 11, 3) := by decide +kernel
theorem dX11_of_11 : decode cX11_of 11 = .ok (.new 174, 3) := by decide +kernel
theorem dX11_of_14 : decode cX11_of 14 = .ok (.dup, 1) := by decide +kernel
theorem dX11_of_15 : decode cX11_of 15 = .ok (.invokespecial 176, 3) := by decide +kernel
theorem dX11_of_18 : decode cX11_of 18 = .ok (.athrow, 1) := by decide +kernel
theorem dX11_of_19 : decode cX11_of 19 = .ok (.iload_n 2, 1) := by decide +kernel
theorem dX11_of_20 : decode cX11_of 20 = .ok (.tableswitch 96 0 4 #[36, 49, 59, 69, 86], 36) := by decide +kernel
theorem dX11_of_56 : decode cX11_of 56 = .ok (.aload_n 0, 1) := by decide +kernel
theorem dX11_of_57 : decode cX11_of 57 = .ok (.getfield 19, 3) := by decide +kernel
theorem dX11_of_60 : decode cX11_of 60 = .ok (.aload_n 0, 1) := by decide +kernel
theorem dX11_of_61 : decode cX11_of 61 = .ok (.getfield 33, 3) := by decide +kernel
theorem dX11_of_64 : decode cX11_of 64 = .ok (.iload_n 1, 1) := by decide +kernel
theorem dX11_of_65 : decode cX11_of 65 = .ok (.invokevirtual 177, 3) := by decide +kernel
theorem dX11_of_68 : decode cX11_of 68 = .ok (.ireturn, 1) := by decide +kernel
theorem dX11_of_69 : decode cX11_of 69 = .ok (.aload_n 0, 1) := by decide +kernel
theorem dX11_of_70 : decode cX11_of 70 = .ok (.getfield 33, 3) := by decide +kernel
theorem dX11_of_73 : decode cX11_of 73 = .ok (.getfield 181, 3) := by decide +kernel
theorem dX11_of_76 : decode cX11_of 76 = .ok (.iload_n 1, 1) := by decide +kernel
theorem dX11_of_77 : decode cX11_of 77 = .ok (.iaload, 1) := by decide +kernel
theorem dX11_of_78 : decode cX11_of 78 = .ok (.ireturn, 1) := by decide +kernel
theorem dX11_of_79 : decode cX11_of 79 = .ok (.aload_n 0, 1) := by decide +kernel
theorem dX11_of_80 : decode cX11_of 80 = .ok (.getfield 33, 3) := by decide +kernel
theorem dX11_of_83 : decode cX11_of 83 = .ok (.getfield 184, 3) := by decide +kernel
theorem dX11_of_86 : decode cX11_of 86 = .ok (.iload_n 1, 1) := by decide +kernel
theorem dX11_of_87 : decode cX11_of 87 = .ok (.iaload, 1) := by decide +kernel
theorem dX11_of_88 : decode cX11_of 88 = .ok (.ireturn, 1) := by decide +kernel
theorem dX11_of_89 : decode cX11_of 89 = .ok (.aload_n 0, 1) := by decide +kernel
theorem dX11_of_90 : decode cX11_of 90 = .ok (.getfield 19, 3) := by decide +kernel
theorem dX11_of_93 : decode cX11_of 93 = .ok (.iload_n 1, 1) := by decide +kernel
theorem dX11_of_94 : decode cX11_of 94 = .ok (.invokevirtual 187, 3) := by decide +kernel
theorem dX11_of_97 : decode cX11_of 97 = .ok (.ifCond .eq 7, 3) := by decide +kernel
theorem dX11_of_100 : decode cX11_of 100 = .ok (.iconst 1, 1) := by decide +kernel
theorem dX11_of_101 : decode cX11_of 101 = .ok (.goto 4, 3) := by decide +kernel
theorem dX11_of_104 : decode cX11_of 104 = .ok (.iconst 0, 1) := by decide +kernel
theorem dX11_of_105 : decode cX11_of 105 = .ok (.ireturn, 1) := by decide +kernel
theorem dX11_of_106 : decode cX11_of 106 = .ok (.aload_n 0, 1) := by decide +kernel
theorem dX11_of_107 : decode cX11_of 107 = .ok (.getfield 33, 3) := by decide +kernel
theorem dX11_of_110 : decode cX11_of 110 = .ok (.getfield 190, 3) := by decide +kernel
theorem dX11_of_113 : decode cX11_of 113 = .ok (.iload_n 1, 1) := by decide +kernel
theorem dX11_of_114 : decode cX11_of 114 = .ok (.iaload, 1) := by decide +kernel
theorem dX11_of_115 : decode cX11_of 115 = .ok (.ireturn, 1) := by decide +kernel
theorem dX11_of_116 : decode cX11_of 116 = .ok (.new 174, 3) := by decide +kernel
theorem dX11_of_119 : decode cX11_of 119 = .ok (.dup, 1) := by decide +kernel
theorem dX11_of_120 : decode cX11_of 120 = .ok (.invokespecial 176, 3) := by decide +kernel
theorem dX11_of_123 : decode cX11_of 123 = .ok (.athrow, 1) := by decide +kernel
theorem dX11_law_0 : decode cX11_law 0 = .ok (.iload_n 1, 1) := by decide +kernel
theorem dX11_law_1 : decode cX11_law 1 = .ok (.iload_n 2, 1) := by decide +kernel
theorem dX11_law_2 : decode cX11_law 2 = .ok (.invokestatic 193, 3) := by decide +kernel
theorem dX11_law_5 : decode cX11_law 5 = .ok (.ifCond .ne 5, 3) := by decide +kernel
theorem dX11_law_8 : decode cX11_law 8 = .ok (.iconst (-1), 1) := by decide +kernel
theorem dX11_law_9 : decode cX11_law 9 = .ok (.ireturn, 1) := by decide +kernel
theorem dX11_law_10 : decode cX11_law 10 = .ok (.aload_n 0, 1) := by decide +kernel
theorem dX11_law_11 : decode cX11_law 11 = .ok (.getfield 19, 3) := by decide +kernel
theorem dX11_law_14 : decode cX11_law 14 = .ok (.getfield 197, 3) := by decide +kernel
theorem dX11_law_17 : decode cX11_law 17 = .ok (.iload_n 1, 1) := by decide +kernel
theorem dX11_law_18 : decode cX11_law 18 = .ok (.iaload, 1) := by decide +kernel
theorem dX11_law_19 : decode cX11_law 19 = .ok (.istore_n 3, 1) := by decide +kernel
theorem dX11_law_20 : decode cX11_law 20 = .ok (.aload_n 0, 1) := by decide +kernel
theorem dX11_law_21 : decode cX11_law 21 = .ok (.getfield 19, 3) := by decide +kernel
theorem dX11_law_24 : decode cX11_law 24 = .ok (.getfield 197, 3) := by decide +kernel
theorem dX11_law_27 : decode cX11_law 27 = .ok (.iload_n 1, 1) := by decide +kernel
theorem dX11_law_28 : decode cX11_law 28 = .ok (.iload_n 2, 1) := by decide +kernel
theorem dX11_law_29 : decode cX11_law 29 = .ok (.iastore, 1) := by decide +kernel
theorem dX11_law_30 : decode cX11_law 30 = .ok (.iload_n 3, 1) := by decide +kernel
theorem dX11_law_31 : decode cX11_law 31 = .ok (.ireturn, 1) := by decide +kernel
theorem dX11_sheet_0 : decode cX11_sheet 0 = .ok (.aload_n 0, 1) := by decide +kernel
theorem dX11_sheet_1 : decode cX11_sheet 1 = .ok (.getfield 19, 3) := by decide +kernel
theorem dX11_sheet_4 : decode cX11_sheet 4 = .ok (.iload_n 1, 1) := by decide +kernel
theorem dX11_sheet_5 : decode cX11_sheet 5 = .ok (.invokevirtual 167, 3) := by decide +kernel
theorem dX11_sheet_8 : decode cX11_sheet 8 = .ok (.ifCond .eq 18, 3) := by decide +kernel
theorem dX11_sheet_11 : decode cX11_sheet 11 = .ok (.iload_n 2, 1) := by decide +kernel
theorem dX11_sheet_12 : decode cX11_sheet 12 = .ok (.ifCond .lt 14, 3) := by decide +kernel
theorem dX11_sheet_15 : decode cX11_sheet 15 = .ok (.iload_n 2, 1) := by decide +kernel
theorem dX11_sheet_16 : decode cX11_sheet 16 = .ok (.iconst 3, 1) := by decide +kernel
theorem dX11_sheet_17 : decode cX11_sheet 17 = .ok (.if_icmp .gt 9, 3) := by decide +kernel
theorem dX11_sheet_20 : decode cX11_sheet 20 = .ok (.iload_n 3, 1) := by decide +kernel
theorem dX11_sheet_21 : decode cX11_sheet 21 = .ok (.bipush 8, 2) := by decide +kernel
theorem dX11_sheet_23 : decode cX11_sheet 23 = .ok (.if_icmp .le 5, 3) := by decide +kernel
theorem dX11_sheet_26 : decode cX11_sheet 26 = .ok (.iconst (-1), 1) := by decide +kernel
theorem dX11_sheet_27 : decode cX11_sheet 27 = .ok (.ireturn, 1) := by decide +kernel
theorem dX11_sheet_28 : decode cX11_sheet 28 = .ok (.iload_n 2, 1) := by decide +kernel
theorem dX11_sheet_29 : decode cX11_sheet 29 = .ok (.iconst 3, 1) := by decide +kernel
theorem dX11_sheet_30 : decode cX11_sheet 30 = .ok (.if_icmp .ne 7, 3) := by decide +kernel
theorem dX11_sheet_33 : decode cX11_sheet 33 = .ok (.iconst 1, 1) := by decide +kernel
theorem dX11_sheet_34 : decode cX11_sheet 34 = .ok (.goto 4, 3) := by decide +kernel
theorem dX11_sheet_37 : decode cX11_sheet 37 = .ok (.iconst 0, 1) := by decide +kernel
theorem dX11_sheet_38 : decode cX11_sheet 38 = .ok (.istore 6, 2) := by decide +kernel
theorem dX11_sheet_40 : decode cX11_sheet 40 = .ok (.iload_n 3, 1) := by decide +kernel
theorem dX11_sheet_41 : decode cX11_sheet 41 = .ok (.ifCond .ge 11, 3) := by decide +kernel
theorem dX11_sheet_44 : decode cX11_sheet 44 = .ok (.iload 6, 2) := by decide +kernel
theorem dX11_sheet_46 : decode cX11_sheet 46 = .ok (.ifCond .ne 6, 3) := by decide +kernel
theorem dX11_sheet_49 : decode cX11_sheet 49 = .ok (.bipush (-2), 2) := by decide +kernel
theorem dX11_sheet_51 : decode cX11_sheet 51 = .ok (.ireturn, 1) := by decide +kernel
theorem dX11_sheet_52 : decode cX11_sheet 52 = .ok (.iconst 0, 1) := by decide +kernel
theorem dX11_sheet_53 : decode cX11_sheet 53 = .ok (.istore 7, 2) := by decide +kernel
theorem dX11_sheet_55 : decode cX11_sheet 55 = .ok (.iconst 0, 1) := by decide +kernel
theorem dX11_sheet_56 : decode cX11_sheet 56 = .ok (.istore 8, 2) := by decide +kernel
theorem dX11_sheet_58 : decode cX11_sheet 58 = .ok (.iload 8, 2) := by decide +kernel
theorem dX11_sheet_60 : decode cX11_sheet 60 = .ok (.aload_n 0, 1) := by decide +kernel
theorem dX11_sheet_61 : decode cX11_sheet 61 = .ok (.getfield 19, 3) := by decide +kernel
theorem dX11_sheet_64 : decode cX11_sheet 64 = .ok (.getfield 155, 3) := by decide +kernel
theorem dX11_sheet_67 : decode cX11_sheet 67 = .ok (.if_icmp .ge 63, 3) := by decide +kernel
theorem dX11_sheet_70 : decode cX11_sheet 70 = .ok (.iload 6, 2) := by decide +kernel
theorem dX11_sheet_72 : decode cX11_sheet 72 = .ok (.ifCond .ne 9, 3) := by decide +kernel
theorem dX11_sheet_75 : decode cX11_sheet 75 = .ok (.iload 8, 2) := by decide +kernel
theorem dX11_sheet_77 : decode cX11_sheet 77 = .ok (.iload_n 3, 1) := by decide +kernel
theorem dX11_sheet_78 : decode cX11_sheet 78 = .ok (.if_icmp .lt 7, 3) := by decide +kernel
theorem dX11_sheet_81 : decode cX11_sheet 81 = .ok (.iconst 0, 1) := by decide +kernel
theorem dX11_sheet_82 : decode cX11_sheet 82 = .ok (.goto 21, 3) := by decide +kernel
theorem dX11_sheet_85 : decode cX11_sheet 85 = .ok (.iload_n 2, 1) := by decide +kernel
theorem dX11_sheet_86 : decode cX11_sheet 86 = .ok (.iload 4, 2) := by decide +kernel
theorem dX11_sheet_88 : decode cX11_sheet 88 = .ok (.iload 8, 2) := by decide +kernel
theorem dX11_sheet_90 : decode cX11_sheet 90 = .ok (.iload 5, 2) := by decide +kernel
theorem dX11_sheet_92 : decode cX11_sheet 92 = .ok (.imul, 1) := by decide +kernel
theorem dX11_sheet_93 : decode cX11_sheet 93 = .ok (.iadd, 1) := by decide +kernel
theorem dX11_sheet_94 : decode cX11_sheet 94 = .ok (.invokestatic 200, 3) := by decide +kernel
theorem dX11_sheet_97 : decode cX11_sheet 97 = .ok (.iconst 0, 1) := by decide +kernel
theorem dX11_sheet_98 : decode cX11_sheet 98 = .ok (.bipush 7, 2) := by decide +kernel
theorem dX11_sheet_100 : decode cX11_sheet 100 = .ok (.invokestatic 203, 3) := by decide +kernel
theorem dX11_sheet_103 : decode cX11_sheet 103 = .ok (.istore 9, 2) := by decide +kernel
theorem dX11_sheet_105 : decode cX11_sheet 105 = .ok (.aload_n 0, 1) := by decide +kernel
theorem dX11_sheet_106 : decode cX11_sheet 106 = .ok (.getfield 33, 3) := by decide +kernel
theorem dX11_sheet_109 : decode cX11_sheet 109 = .ok (.iload 8, 2) := by decide +kernel
theorem dX11_sheet_111 : decode cX11_sheet 111 = .ok (.iload_n 1, 1) := by decide +kernel
theorem dX11_sheet_112 : decode cX11_sheet 112 = .ok (.iload 9, 2) := by decide +kernel
theorem dX11_sheet_114 : decode cX11_sheet 114 = .ok (.invokevirtual 207, 3) := by decide +kernel
theorem dX11_sheet_117 : decode cX11_sheet 117 = .ok (.iload 7, 2) := by decide +kernel
theorem dX11_sheet_119 : decode cX11_sheet 119 = .ok (.iload 9, 2) := by decide +kernel
theorem dX11_sheet_121 : decode cX11_sheet 121 = .ok (.iadd, 1) := by decide +kernel
theorem dX11_sheet_122 : decode cX11_sheet 122 = .ok (.istore 7, 2) := by decide +kernel
theorem dX11_sheet_124 : decode cX11_sheet 124 = .ok (.iinc 8 1, 3) := by decide +kernel
theorem dX11_sheet_127 : decode cX11_sheet 127 = .ok (.goto (-69), 3) := by decide +kernel
theorem dX11_sheet_130 : decode cX11_sheet 130 = .ok (.aload_n 0, 1) := by decide +kernel
theorem dX11_sheet_131 : decode cX11_sheet 131 = .ok (.getfield 43, 3) := by decide +kernel
theorem dX11_sheet_134 : decode cX11_sheet 134 = .ok (.iconst 0, 1) := by decide +kernel
theorem dX11_sheet_135 : decode cX11_sheet 135 = .ok (.putfield 135, 3) := by decide +kernel
theorem dX11_sheet_138 : decode cX11_sheet 138 = .ok (.iload 6, 2) := by decide +kernel
theorem dX11_sheet_140 : decode cX11_sheet 140 = .ok (.ifCond .eq 8, 3) := by decide +kernel
theorem dX11_sheet_143 : decode cX11_sheet 143 = .ok (.bipush (-3), 2) := by decide +kernel
theorem dX11_sheet_145 : decode cX11_sheet 145 = .ok (.goto 5, 3) := by decide +kernel
theorem dX11_sheet_148 : decode cX11_sheet 148 = .ok (.iload 7, 2) := by decide +kernel
theorem dX11_sheet_150 : decode cX11_sheet 150 = .ok (.ireturn, 1) := by decide +kernel
theorem dX11_entry_0 : decode cX11_entry 0 = .ok (.iload_n 0, 1) := by decide +kernel
theorem dX11_entry_1 : decode cX11_entry 1 = .ok (.ifCond .ne 8, 3) := by decide +kernel
theorem dX11_entry_4 : decode cX11_entry 4 = .ok (.iload_n 1, 1) := by decide +kernel
theorem dX11_entry_5 : decode cX11_entry 5 = .ok (.i2b, 1) := by decide +kernel
theorem dX11_entry_6 : decode cX11_entry 6 = .ok (.goto 14, 3) := by decide +kernel
theorem dX11_entry_9 : decode cX11_entry 9 = .ok (.iload_n 0, 1) := by decide +kernel
theorem dX11_entry_10 : decode cX11_entry 10 = .ok (.iconst 1, 1) := by decide +kernel
theorem dX11_entry_11 : decode cX11_entry 11 = .ok (.if_icmp .ne 8, 3) := by decide +kernel
theorem dX11_entry_14 : decode cX11_entry 14 = .ok (.iload_n 1, 1) := by decide +kernel
theorem dX11_entry_15 : decode cX11_entry 15 = .ok (.i2s, 1) := by decide +kernel
theorem dX11_entry_16 : decode cX11_entry 16 = .ok (.goto 4, 3) := by decide +kernel
theorem dX11_entry_19 : decode cX11_entry 19 = .ok (.iload_n 1, 1) := by decide +kernel
theorem dX11_entry_20 : decode cX11_entry 20 = .ok (.ireturn, 1) := by decide +kernel
theorem dX11_clamp_0 : decode cX11_clamp 0 = .ok (.iload_n 0, 1) := by decide +kernel
theorem dX11_clamp_1 : decode cX11_clamp 1 = .ok (.iload_n 1, 1) := by decide +kernel
theorem dX11_clamp_2 : decode cX11_clamp 2 = .ok (.if_icmp .ge 7, 3) := by decide +kernel
theorem dX11_clamp_5 : decode cX11_clamp 5 = .ok (.iload_n 1, 1) := by decide +kernel
theorem dX11_clamp_6 : decode cX11_clamp 6 = .ok (.goto 13, 3) := by decide +kernel
theorem dX11_clamp_9 : decode cX11_clamp 9 = .ok (.iload_n 0, 1) := by decide +kernel
theorem dX11_clamp_10 : decode cX11_clamp 10 = .ok (.iload_n 2, 1) := by decide +kernel
theorem dX11_clamp_11 : decode cX11_clamp 11 = .ok (.if_icmp .le 7, 3) := by decide +kernel
theorem dX11_clamp_14 : decode cX11_clamp 14 = .ok (.iload_n 2, 1) := by decide +kernel
theorem dX11_clamp_15 : decode cX11_clamp 15 = .ok (.goto 4, 3) := by decide +kernel
theorem dX11_clamp_18 : decode cX11_clamp 18 = .ok (.iload_n 0, 1) := by decide +kernel
theorem dX11_clamp_19 : decode cX11_clamp 19 = .ok (.ireturn, 1) := by decide +kernel
theorem dX11_ill_0 : decode cX11_ill 0 = .ok (.aload_n 0, 1) := by decide +kernel
theorem dX11_ill_1 : decode cX11_ill 1 = .ok (.getfield 19, 3) := by decide +kernel
theorem dX11_ill_4 : decode cX11_ill 4 = .ok (.iload_n 1, 1) := by decide +kernel
theorem dX11_ill_5 : decode cX11_ill 5 = .ok (.invokevirtual 164, 3) := by decide +kernel
theorem dX11_ill_8 : decode cX11_ill 8 = .ok (.ifCond .ne 5, 3) := by decide +kernel
theorem dX11_ill_11 : decode cX11_ill 11 = .ok (.iconst 0, 1) := by decide +kernel
theorem dX11_ill_12 : decode cX11_ill 12 = .ok (.ireturn, 1) := by decide +kernel
theorem dX11_ill_13 : decode cX11_ill 13 = .ok (.iconst 1, 1) := by decide +kernel
theorem dX11_ill_14 : decode cX11_ill 14 = .ok (.iload_n 1, 1) := by decide +kernel
theorem dX11_ill_15 : decode cX11_ill 15 = .ok (.ishl, 1) := by decide +kernel
theorem dX11_ill_16 : decode cX11_ill 16 = .ok (.istore_n 3, 1) := by decide +kernel
theorem dX11_ill_17 : decode cX11_ill 17 = .ok (.aload_n 0, 1) := by decide +kernel
theorem dX11_ill_18 : decode cX11_ill 18 = .ok (.getfield 19, 3) := by decide +kernel
theorem dX11_ill_21 : decode cX11_ill 21 = .ok (.iload_n 2, 1) := by decide +kernel
theorem dX11_ill_22 : decode cX11_ill 22 = .ok (.ifCond .eq 15, 3) := by decide +kernel
theorem dX11_ill_25 : decode cX11_ill 25 = .ok (.aload_n 0, 1) := by decide +kernel
theorem dX11_ill_26 : decode cX11_ill 26 = .ok (.getfield 19, 3) := by decide +kernel
theorem dX11_ill_29 : decode cX11_ill 29 = .ok (.getfield 211, 3) := by decide +kernel
theorem dX11_ill_32 : decode cX11_ill 32 = .ok (.iload_n 3, 1) := by decide +kernel
theorem dX11_ill_33 : decode cX11_ill 33 = .ok (.ior, 1) := by decide +kernel
theorem dX11_ill_34 : decode cX11_ill 34 = .ok (.goto 14, 3) := by decide +kernel
theorem dX11_ill_37 : decode cX11_ill 37 = .ok (.aload_n 0, 1) := by decide +kernel
theorem dX11_ill_38 : decode cX11_ill 38 = .ok (.getfield 19, 3) := by decide +kernel
theorem dX11_ill_41 : decode cX11_ill 41 = .ok (.getfield 211, 3) := by decide +kernel
theorem dX11_ill_44 : decode cX11_ill 44 = .ok (.iload_n 3, 1) := by decide +kernel
theorem dX11_ill_45 : decode cX11_ill 45 = .ok (.iconst (-1), 1) := by decide +kernel
theorem dX11_ill_46 : decode cX11_ill 46 = .ok (.ixor, 1) := by decide +kernel
theorem dX11_ill_47 : decode cX11_ill 47 = .ok (.iand, 1) := by decide +kernel
theorem dX11_ill_48 : decode cX11_ill 48 = .ok (.putfield 211, 3) := by decide +kernel
theorem dX11_ill_51 : decode cX11_ill 51 = .ok (.iconst 1, 1) := by decide +kernel
theorem dX11_ill_52 : decode cX11_ill 52 = .ok (.ireturn, 1) := by decide +kernel
theorem dX11_swap_0 : decode cX11_swap 0 = .ok (.aload_n 0, 1) := by decide +kernel
theorem dX11_swap_1 : decode cX11_swap 1 = .ok (.getfield 19, 3) := by decide +kernel
theorem dX11_swap_4 : decode cX11_swap 4 = .ok (.iload_n 1, 1) := by decide +kernel
theorem dX11_swap_5 : decode cX11_swap 5 = .ok (.iload_n 2, 1) := by decide +kernel
theorem dX11_swap_6 : decode cX11_swap 6 = .ok (.invokevirtual 214, 3) := by decide +kernel
theorem dX11_swap_9 : decode cX11_swap 9 = .ok (.ifCond .ne 5, 3) := by decide +kernel
theorem dX11_swap_12 : decode cX11_swap 12 = .ok (.iconst 0, 1) := by decide +kernel
theorem dX11_swap_13 : decode cX11_swap 13 = .ok (.ireturn, 1) := by decide +kernel
theorem dX11_swap_14 : decode cX11_swap 14 = .ok (.iconst 0, 1) := by decide +kernel
theorem dX11_swap_15 : decode cX11_swap 15 = .ok (.istore_n 3, 1) := by decide +kernel
theorem dX11_swap_16 : decode cX11_swap 16 = .ok (.iload_n 3, 1) := by decide +kernel
theorem dX11_swap_17 : decode cX11_swap 17 = .ok (.iconst 4, 1) := by decide +kernel
theorem dX11_swap_18 : decode cX11_swap 18 = .ok (.if_icmp .ge 49, 3) := by decide +kernel
theorem dX11_swap_21 : decode cX11_swap 21 = .ok (.aload_n 0, 1) := by decide +kernel
theorem dX11_swap_22 : decode cX11_swap 22 = .ok (.getfield 33, 3) := by decide +kernel
theorem dX11_swap_25 : decode cX11_swap 25 = .ok (.iload_n 1, 1) := by decide +kernel
theorem dX11_swap_26 : decode cX11_swap 26 = .ok (.iload_n 3, 1) := by decide +kernel
theorem dX11_swap_27 : decode cX11_swap 27 = .ok (.invokevirtual 170, 3) := by decide +kernel
theorem dX11_swap_30 : decode cX11_swap 30 = .ok (.istore 4, 2) := by decide +kernel
theorem dX11_swap_32 : decode cX11_swap 32 = .ok (.aload_n 0, 1) := by decide +kernel
theorem dX11_swap_33 : decode cX11_swap 33 = .ok (.getfield 33, 3) := by decide +kernel
theorem dX11_swap_36 : decode cX11_swap 36 = .ok (.iload_n 1, 1) := by decide +kernel
theorem dX11_swap_37 : decode cX11_swap 37 = .ok (.iload_n 3, 1) := by decide +kernel
theorem dX11_swap_38 : decode cX11_swap 38 = .ok (.aload_n 0, 1) := by decide +kernel
theorem dX11_swap_39 : decode cX11_swap 39 = .ok (.getfield 33, 3) := by decide +kernel
theorem dX11_swap_42 : decode cX11_swap 42 = .ok (.iload_n 2, 1) := by decide +kernel
theorem dX11_swap_43 : decode cX11_swap 43 = .ok (.iload_n 3, 1) := by decide +kernel
theorem dX11_swap_44 : decode cX11_swap 44 = .ok (.invokevirtual 170, 3) := by decide +kernel
theorem dX11_swap_47 : decode cX11_swap 47 = .ok (.invokevirtual 207, 3) := by decide +kernel
theorem dX11_swap_50 : decode cX11_swap 50 = .ok (.aload_n 0, 1) := by decide +kernel
theorem dX11_swap_51 : decode cX11_swap 51 = .ok (.getfield 33, 3) := by decide +kernel
theorem dX11_swap_54 : decode cX11_swap 54 = .ok (.iload_n 2, 1) := by decide +kernel
theorem dX11_swap_55 : decode cX11_swap 55 = .ok (.iload_n 3, 1) := by decide +kernel
theorem dX11_swap_56 : decode cX11_swap 56 = .ok (.iload 4, 2) := by decide +kernel
theorem dX11_swap_58 : decode cX11_swap 58 = .ok (.invokevirtual 207, 3) := by decide +kernel
theorem dX11_swap_61 : decode cX11_swap 61 = .ok (.iinc 3 1, 3) := by decide +kernel
theorem dX11_swap_64 : decode cX11_swap 64 = .ok (.goto (-48), 3) := by decide +kernel
theorem dX11_swap_67 : decode cX11_swap 67 = .ok (.aload_n 0, 1) := by decide +kernel
theorem dX11_swap_68 : decode cX11_swap 68 = .ok (.getfield 43, 3) := by decide +kernel
theorem dX11_swap_71 : decode cX11_swap 71 = .ok (.iconst 0, 1) := by decide +kernel
theorem dX11_swap_72 : decode cX11_swap 72 = .ok (.putfield 135, 3) := by decide +kernel
theorem dX11_swap_75 : decode cX11_swap 75 = .ok (.iconst 1, 1) := by decide +kernel
theorem dX11_swap_76 : decode cX11_swap 76 = .ok (.ireturn, 1) := by decide +kernel
theorem dX11_circle_0 : decode cX11_circle 0 = .ok (.aload_n 0, 1) := by decide +kernel
theorem dX11_circle_1 : decode cX11_circle 1 = .ok (.getfield 19, 3) := by decide +kernel
theorem dX11_circle_4 : decode cX11_circle 4 = .ok (.getfield 155, 3) := by decide +kernel
theorem dX11_circle_7 : decode cX11_circle 7 = .ok (.iconst 2, 1) := by decide +kernel
theorem dX11_circle_8 : decode cX11_circle 8 = .ok (.if_icmp .ge 5, 3) := by decide +kernel
theorem dX11_circle_11 : decode cX11_circle 11 = .ok (.iconst (-1), 1) := by decide +kernel
theorem dX11_circle_12 : decode cX11_circle 12 = .ok (.ireturn, 1) := by decide +kernel
theorem dX11_circle_13 : decode cX11_circle 13 = .ok (.aload_n 0, 1) := by decide +kernel
theorem dX11_circle_14 : decode cX11_circle 14 = .ok (.getfield 56, 3) := by decide +kernel
theorem dX11_circle_17 : decode cX11_circle 17 = .ok (.aload_n 0, 1) := by decide +kernel
theorem dX11_circle_18 : decode cX11_circle 18 = .ok (.getfield 19, 3) := by decide +kernel
theorem dX11_circle_21 : decode cX11_circle 21 = .ok (.getfield 155, 3) := by decide +kernel
theorem dX11_circle_24 : decode cX11_circle 24 = .ok (.invokevirtual 217, 3) := by decide +kernel
theorem dX11_circle_27 : decode cX11_circle 27 = .ok (.aload_n 0, 1) := by decide +kernel
theorem dX11_circle_28 : decode cX11_circle 28 = .ok (.iconst 0, 1) := by decide +kernel
theorem dX11_circle_29 : decode cX11_circle 29 = .ok (.putfield 63, 3) := by decide +kernel
theorem dX11_circle_32 : decode cX11_circle 32 = .ok (.aload_n 0, 1) := by decide +kernel
theorem dX11_circle_33 : decode cX11_circle 33 = .ok (.getfield 56, 3) := by decide +kernel
theorem dX11_circle_36 : decode cX11_circle 36 = .ok (.getfield 161, 3) := by decide +kernel
theorem dX11_circle_39 : decode cX11_circle 39 = .ok (.ireturn, 1) := by decide +kernel
theorem dX11_game_0 : decode cX11_game 0 = .ok (.aload_n 0, 1) := by decide +kernel
theorem dX11_game_1 : decode cX11_game 1 = .ok (.getfield 19, 3) := by decide +kernel
theorem dX11_game_4 : decode cX11_game 4 = .ok (.iload_n 1, 1) := by decide +kernel
theorem dX11_game_5 : decode cX11_game 5 = .ok (.iload_n 2, 1) := by decide +kernel
theorem dX11_game_6 : decode cX11_game 6 = .ok (.invokevirtual 214, 3) := by decide +kernel
theorem dX11_game_9 : decode cX11_game 9 = .ok (.ifCond .eq 12, 3) := by decide +kernel
theorem dX11_game_12 : decode cX11_game 12 = .ok (.iload_n 3, 1) := by decide +kernel
theorem dX11_game_13 : decode cX11_game 13 = .ok (.ifCond .lt 8, 3) := by decide +kernel
theorem dX11_game_16 : decode cX11_game 16 = .ok (.iload_n 3, 1) := by decide +kernel
theorem dX11_game_17 : decode cX11_game 17 = .ok (.iconst 3, 1) := by decide +kernel
theorem dX11_game_18 : decode cX11_game 18 = .ok (.if_icmp .le 5, 3) := by decide +kernel
theorem dX11_game_21 : decode cX11_game 21 = .ok (.iconst (-1), 1) := by decide +kernel
theorem dX11_game_22 : decode cX11_game 22 = .ok (.ireturn, 1) := by decide +kernel
theorem dX11_game_23 : decode cX11_game 23 = .ok (.aload_n 0, 1) := by decide +kernel
theorem dX11_game_24 : decode cX11_game 24 = .ok (.getfield 37, 3) := by decide +kernel
theorem dX11_game_27 : decode cX11_game 27 = .ok (.aload_n 0, 1) := by decide +kernel
theorem dX11_game_28 : decode cX11_game 28 = .ok (.getfield 33, 3) := by decide +kernel
theorem dX11_game_31 : decode cX11_game 31 = .ok (.invokevirtual 221, 3) := by decide +kernel
theorem dX11_game_34 : decode cX11_game 34 = .ok (.aload_n 0, 1) := by decide +kernel
theorem dX11_game_35 : decode cX11_game 35 = .ok (.getfield 19, 3) := by decide +kernel
theorem dX11_game_38 : decode cX11_game 38 = .ok (.aload_n 0, 1) := by decide +kernel
theorem dX11_game_39 : decode cX11_game 39 = .ok (.getfield 37, 3) := by decide +kernel
theorem dX11_game_42 : decode cX11_game 42 = .ok (.iload_n 1, 1) := by decide +kernel
theorem dX11_game_43 : decode cX11_game 43 = .ok (.iload_n 2, 1) := by decide +kernel
theorem dX11_game_44 : decode cX11_game 44 = .ok (.iload_n 3, 1) := by decide +kernel
theorem dX11_game_45 : decode cX11_game 45 = .ok (.invokevirtual 225, 3) := by decide +kernel
theorem dX11_game_48 : decode cX11_game 48 = .ok (.istore 4, 2) := by decide +kernel
theorem dX11_game_50 : decode cX11_game 50 = .ok (.aload_n 0, 1) := by decide +kernel
theorem dX11_game_51 : decode cX11_game 51 = .ok (.getfield 19, 3) := by decide +kernel
theorem dX11_game_54 : decode cX11_game 54 = .ok (.aload_n 0, 1) := by decide +kernel
theorem dX11_game_55 : decode cX11_game 55 = .ok (.getfield 37, 3) := by decide +kernel
theorem dX11_game_58 : decode cX11_game 58 = .ok (.iload_n 1, 1) := by decide +kernel
theorem dX11_game_59 : decode cX11_game 59 = .ok (.iload_n 2, 1) := by decide +kernel
theorem dX11_game_60 : decode cX11_game 60 = .ok (.iload 4, 2) := by decide +kernel
theorem dX11_game_62 : decode cX11_game 62 = .ok (.iconst 0, 1) := by decide +kernel
theorem dX11_game_63 : decode cX11_game 63 = .ok (.invokevirtual 229, 3) := by decide +kernel
theorem dX11_game_66 : decode cX11_game 66 = .ok (.aload_n 0, 1) := by decide +kernel
theorem dX11_game_67 : decode cX11_game 67 = .ok (.aload_n 0, 1) := by decide +kernel
theorem dX11_game_68 : decode cX11_game 68 = .ok (.getfield 19, 3) := by decide +kernel
theorem dX11_game_71 : decode cX11_game 71 = .ok (.getfield 233, 3) := by decide +kernel
theorem dX11_game_74 : decode cX11_game 74 = .ok (.i2l, 1) := by decide +kernel
theorem dX11_game_75 : decode cX11_game 75 = .ok (.aload_n 0, 1) := by decide +kernel
theorem dX11_game_76 : decode cX11_game 76 = .ok (.getfield 19, 3) := by decide +kernel
theorem dX11_game_79 : decode cX11_game 79 = .ok (.getfield 236, 3) := by decide +kernel
theorem dX11_game_82 : decode cX11_game 82 = .ok (.i2l, 1) := by decide +kernel
theorem dX11_game_83 : decode cX11_game 83 = .ok (.invokevirtual 239, 3) := by decide +kernel
theorem dX11_game_86 : decode cX11_game 86 = .ok (.iload 4, 2) := by decide +kernel
theorem dX11_game_88 : decode cX11_game 88 = .ok (.ireturn, 1) := by decide +kernel
theorem dX11_odds_0 : decode cX11_odds 0 = .ok (.aload_n 0, 1) := by decide +kernel
theorem dX11_odds_1 : decode cX11_odds 1 = .ok (.getfield 19, 3) := by decide +kernel
theorem dX11_odds_4 : decode cX11_odds 4 = .ok (.iload_n 1, 1) := by decide +kernel
theorem dX11_odds_5 : decode cX11_odds 5 = .ok (.iload_n 2, 1) := by decide +kernel
theorem dX11_odds_6 : decode cX11_odds 6 = .ok (.invokevirtual 214, 3) := by decide +kernel
theorem dX11_odds_9 : decode cX11_odds 9 = .ok (.ifCond .eq 19, 3) := by decide +kernel
theorem dX11_odds_12 : decode cX11_odds 12 = .ok (.aload_n 0, 1) := by decide +kernel
theorem dX11_odds_13 : decode cX11_odds 13 = .ok (.getfield 19, 3) := by decide +kernel
theorem dX11_odds_16 : decode cX11_odds 16 = .ok (.aload_n 0, 1) := by decide +kernel
theorem dX11_odds_17 : decode cX11_odds 17 = .ok (.getfield 33, 3) := by decide +kernel
theorem dX11_odds_20 : decode cX11_odds 20 = .ok (.iload_n 1, 1) := by decide +kernel
theorem dX11_odds_21 : decode cX11_odds 21 = .ok (.iload_n 2, 1) := by decide +kernel
theorem dX11_odds_22 : decode cX11_odds 22 = .ok (.invokevirtual 243, 3) := by decide +kernel
theorem dX11_odds_25 : decode cX11_odds 25 = .ok (.goto 4, 3) := by decide +kernel
theorem dX11_odds_28 : decode cX11_odds 28 = .ok (.iconst (-1), 1) := by decide +kernel
theorem dX11_odds_29 : decode cX11_odds 29 = .ok (.ireturn, 1) := by decide +kernel
theorem dX11_play_0 : decode cX11_play 0 = .ok (.aload_n 0, 1) := by decide +kernel
theorem dX11_play_1 : decode cX11_play 1 = .ok (.getfield 19, 3) := by decide +kernel
theorem dX11_play_4 : decode cX11_play 4 = .ok (.iload_n 1, 1) := by decide +kernel
theorem dX11_play_5 : decode cX11_play 5 = .ok (.iload_n 2, 1) := by decide +kernel
theorem dX11_play_6 : decode cX11_play 6 = .ok (.invokevirtual 214, 3) := by decide +kernel
theorem dX11_play_9 : decode cX11_play 9 = .ok (.ifCond .eq 12, 3) := by decide +kernel
theorem dX11_play_12 : decode cX11_play 12 = .ok (.iload_n 3, 1) := by decide +kernel
theorem dX11_play_13 : decode cX11_play 13 = .ok (.ifCond .lt 8, 3) := by decide +kernel
theorem dX11_play_16 : decode cX11_play 16 = .ok (.iload_n 3, 1) := by decide +kernel
theorem dX11_play_17 : decode cX11_play 17 = .ok (.iconst 3, 1) := by decide +kernel
theorem dX11_play_18 : decode cX11_play 18 = .ok (.if_icmp .le 5, 3) := by decide +kernel
theorem dX11_play_21 : decode cX11_play 21 = .ok (.iconst (-1), 1) := by decide +kernel
theorem dX11_play_22 : decode cX11_play 22 = .ok (.ireturn, 1) := by decide +kernel
theorem dX11_play_23 : decode cX11_play 23 = .ok (.aload_n 0, 1) := by decide +kernel
theorem dX11_play_24 : decode cX11_play 24 = .ok (.iload_n 1, 1) := by decide +kernel
theorem dX11_play_25 : decode cX11_play 25 = .ok (.iload_n 2, 1) := by decide +kernel
theorem dX11_play_26 : decode cX11_play 26 = .ok (.iload_n 3, 1) := by decide +kernel
theorem dX11_play_27 : decode cX11_play 27 = .ok (.invokevirtual 247, 3) := by decide +kernel
theorem dX11_play_30 : decode cX11_play 30 = .ok (.istore 4, 2) := by decide +kernel
theorem dX11_play_32 : decode cX11_play 32 = .ok (.aload_n 0, 1) := by decide +kernel
theorem dX11_play_33 : decode cX11_play 33 = .ok (.aload_n 0, 1) := by decide +kernel
theorem dX11_play_34 : decode cX11_play 34 = .ok (.getfield 33, 3) := by decide +kernel
theorem dX11_play_37 : decode cX11_play 37 = .ok (.getfield 181, 3) := by decide +kernel
theorem dX11_play_40 : decode cX11_play 40 = .ok (.iload_n 1, 1) := by decide +kernel
theorem dX11_play_41 : decode cX11_play 41 = .ok (.iaload, 1) := by decide +kernel
theorem dX11_play_42 : decode cX11_play 42 = .ok (.i2l, 1) := by decide +kernel
theorem dX11_play_43 : decode cX11_play 43 = .ok (.aload_n 0, 1) := by decide +kernel
theorem dX11_play_44 : decode cX11_play 44 = .ok (.getfield 33, 3) := by decide +kernel
theorem dX11_play_47 : decode cX11_play 47 = .ok (.getfield 181, 3) := by decide +kernel
theorem dX11_play_50 : decode cX11_play 50 = .ok (.iload_n 2, 1) := by decide +kernel
theorem dX11_play_51 : decode cX11_play 51 = .ok (.iaload, 1) := by decide +kernel
theorem dX11_play_52 : decode cX11_play 52 = .ok (.i2l, 1) := by decide +kernel
theorem dX11_play_53 : decode cX11_play 53 = .ok (.invokevirtual 239, 3) := by decide +kernel
theorem dX11_play_56 : decode cX11_play 56 = .ok (.iload 4, 2) := by decide +kernel
theorem dX11_play_58 : decode cX11_play 58 = .ok (.ireturn, 1) := by decide +kernel
theorem dX11_playNow_0 : decode cX11_playNow 0 = .ok (.aload_n 0, 1) := by decide +kernel
theorem dX11_playNow_1 : decode cX11_playNow 1 = .ok (.getfield 43, 3) := by decide +kernel
theorem dX11_playNow_4 : decode cX11_playNow 4 = .ok (.aload_n 0, 1) := by decide +kernel
theorem dX11_playNow_5 : decode cX11_playNow 5 = .ok (.getfield 33, 3) := by decide +kernel
theorem dX11_playNow_8 : decode cX11_playNow 8 = .ok (.invokevirtual 250, 3) := by decide +kernel
theorem dX11_playNow_11 : decode cX11_playNow 11 = .ok (.aload_n 0, 1) := by decide +kernel
theorem dX11_playNow_12 : decode cX11_playNow 12 = .ok (.getfield 19, 3) := by decide +kernel
theorem dX11_playNow_15 : decode cX11_playNow 15 = .ok (.getfield 197, 3) := by decide +kernel
theorem dX11_playNow_18 : decode cX11_playNow 18 = .ok (.iconst 4, 1) := by decide +kernel
theorem dX11_playNow_19 : decode cX11_playNow 19 = .ok (.iaload, 1) := by decide +kernel
theorem dX11_playNow_20 : decode cX11_playNow 20 = .ok (.ifCond .le 11, 3) := by decide +kernel
theorem dX11_playNow_23 : decode cX11_playNow 23 = .ok (.iload_n 3, 1) := by decide +kernel
theorem dX11_playNow_24 : decode cX11_playNow 24 = .ok (.ifCond .ne 7, 3) := by decide +kernel
theorem dX11_playNow_27 : decode cX11_playNow 27 = .ok (.iconst 1, 1) := by decide +kernel
theorem dX11_playNow_28 : decode cX11_playNow 28 = .ok (.goto 4, 3) := by decide +kernel
theorem dX11_playNow_31 : decode cX11_playNow 31 = .ok (.iconst 0, 1) := by decide +kernel
theorem dX11_playNow_32 : decode cX11_playNow 32 = .ok (.istore 4, 2) := by decide +kernel
theorem dX11_playNow_34 : decode cX11_playNow 34 = .ok (.iload 4, 2) := by decide +kernel
theorem dX11_playNow_36 : decode cX11_playNow 36 = .ok (.ifCond .eq 19, 3) := by decide +kernel
theorem dX11_playNow_39 : decode cX11_playNow 39 = .ok (.aload_n 0, 1) := by decide +kernel
theorem dX11_playNow_40 : decode cX11_playNow 40 = .ok (.getfield 19, 3) := by decide +kernel
theorem dX11_playNow_43 : decode cX11_playNow 43 = .ok (.aload_n 0, 1) := by decide +kernel
theorem dX11_playNow_44 : decode cX11_playNow 44 = .ok (.getfield 33, 3) := by decide +kernel
theorem dX11_playNow_47 : decode cX11_playNow 47 = .ok (.iload_n 1, 1) := by decide +kernel
theorem dX11_playNow_48 : decode cX11_playNow 48 = .ok (.iload_n 2, 1) := by decide +kernel
theorem dX11_playNow_49 : decode cX11_playNow 49 = .ok (.invokevirtual 253, 3) := by decide +kernel
theorem dX11_playNow_52 : decode cX11_playNow 52 = .ok (.goto 17, 3) := by decide +kernel
theorem dX11_playNow_55 : decode cX11_playNow 55 = .ok (.aload_n 0, 1) := by decide +kernel
theorem dX11_playNow_56 : decode cX11_playNow 56 = .ok (.getfield 19, 3) := by decide +kernel
theorem dX11_playNow_59 : decode cX11_playNow 59 = .ok (.aload_n 0, 1) := by decide +kernel
theorem dX11_playNow_60 : decode cX11_playNow 60 = .ok (.getfield 33, 3) := by decide +kernel
theorem dX11_playNow_63 : decode cX11_playNow 63 = .ok (.iload_n 1, 1) := by decide +kernel
theorem dX11_playNow_64 : decode cX11_playNow 64 = .ok (.iload_n 2, 1) := by decide +kernel
theorem dX11_playNow_65 : decode cX11_playNow 65 = .ok (.iload_n 3, 1) := by decide +kernel
theorem dX11_playNow_66 : decode cX11_playNow 66 = .ok (.invokevirtual 225, 3) := by decide +kernel
theorem dX11_playNow_69 : decode cX11_playNow 69 = .ok (.istore 5, 2) := by decide +kernel
theorem dX11_playNow_71 : decode cX11_playNow 71 = .ok (.iload_n 3, 1) := by decide +kernel
theorem dX11_playNow_72 : decode cX11_playNow 72 = .ok (.iconst 1, 1) := by decide +kernel
theorem dX11_playNow_73 : decode cX11_playNow 73 = .ok (.iand, 1) := by decide +kernel
theorem dX11_playNow_74 : decode cX11_playNow 74 = .ok (.ifCond .eq 16, 3) := by decide +kernel
theorem dX11_playNow_77 : decode cX11_playNow 77 = .ok (.aload_n 0, 1) := by decide +kernel
theorem dX11_playNow_78 : decode cX11_playNow 78 = .ok (.getfield 33, 3) := by decide +kernel
theorem dX11_playNow_81 : decode cX11_playNow 81 = .ok (.getfield 190, 3) := by decide +kernel
theorem dX11_playNow_84 : decode cX11_playNow 84 = .ok (.iload_n 1, 1) := by decide +kernel
theorem dX11_playNow_85 : decode cX11_playNow 85 = .ok (.dup2, 1) := by decide +kernel
theorem dX11_playNow_86 : decode cX11_playNow 86 = .ok (.iaload, 1) := by decide +kernel
theorem dX11_playNow_87 : decode cX11_playNow 87 = .ok (.iconst 1, 1) := by decide +kernel
theorem dX11_playNow_88 : decode cX11_playNow 88 = .ok (.iadd, 1) := by decide +kernel
theorem dX11_playNow_89 : decode cX11_playNow 89 = .ok (.iastore, 1) := by decide +kernel
theorem dX11_playNow_90 : decode cX11_playNow 90 = .ok (.iload_n 3, 1) := by decide +kernel
theorem dX11_playNow_91 : decode cX11_playNow 91 = .ok (.iconst 2, 1) := by decide +kernel
theorem dX11_playNow_92 : decode cX11_playNow 92 = .ok (.iand, 1) := by decide +kernel
theorem dX11_playNow_93 : decode cX11_playNow 93 = .ok (.ifCond .eq 16, 3) := by decide +kernel
theorem dX11_playNow_96 : decode cX11_playNow 96 = .ok (.aload_n 0, 1) := by decide +kernel
theorem dX11_playNow_97 : decode cX11_playNow 97 = .ok (.getfield 33, 3) := by decide +kernel
theorem dX11_playNow_100 : decode cX11_playNow 100 = .ok (.getfield 190, 3) := by decide +kernel
theorem dX11_playNow_103 : decode cX11_playNow 103 = .ok (.iload_n 2, 1) := by decide +kernel
theorem dX11_playNow_104 : decode cX11_playNow 104 = .ok (.dup2, 1) := by decide +kernel
theorem dX11_playNow_105 : decode cX11_playNow 105 = .ok (.iaload, 1) := by decide +kernel
theorem dX11_playNow_106 : decode cX11_playNow 106 = .ok (.iconst 1, 1) := by decide +kernel
theorem dX11_playNow_107 : decode cX11_playNow 107 = .ok (.iadd, 1) := by decide +kernel
theorem dX11_playNow_108 : decode cX11_playNow 108 = .ok (.iastore, 1) := by decide +kernel
theorem dX11_playNow_109 : decode cX11_playNow 109 = .ok (.aload_n 0, 1) := by decide +kernel
theorem dX11_playNow_110 : decode cX11_playNow 110 = .ok (.getfield 19, 3) := by decide +kernel
theorem dX11_playNow_113 : decode cX11_playNow 113 = .ok (.aload_n 0, 1) := by decide +kernel
theorem dX11_playNow_114 : decode cX11_playNow 114 = .ok (.getfield 33, 3) := by decide +kernel
theorem dX11_playNow_117 : decode cX11_playNow 117 = .ok (.iload_n 1, 1) := by decide +kernel
theorem dX11_playNow_118 : decode cX11_playNow 118 = .ok (.iload_n 2, 1) := by decide +kernel
theorem dX11_playNow_119 : decode cX11_playNow 119 = .ok (.iload 5, 2) := by decide +kernel
theorem dX11_playNow_121 : decode cX11_playNow 121 = .ok (.iconst 1, 1) := by decide +kernel
theorem dX11_playNow_122 : decode cX11_playNow 122 = .ok (.invokevirtual 229, 3) := by decide +kernel
theorem dX11_playNow_125 : decode cX11_playNow 125 = .ok (.iload 5, 2) := by decide +kernel
theorem dX11_playNow_127 : decode cX11_playNow 127 = .ok (.ireturn, 1) := by decide +kernel
theorem dX11_undo_0 : decode cX11_undo 0 = .ok (.aload_n 0, 1) := by decide +kernel
theorem dX11_undo_1 : decode cX11_undo 1 = .ok (.getfield 43, 3) := by decide +kernel
theorem dX11_undo_4 : decode cX11_undo 4 = .ok (.aload_n 0, 1) := by decide +kernel
theorem dX11_undo_5 : decode cX11_undo 5 = .ok (.getfield 33, 3) := by decide +kernel
theorem dX11_undo_8 : decode cX11_undo 8 = .ok (.invokevirtual 256, 3) := by decide +kernel
theorem dX11_undo_11 : decode cX11_undo 11 = .ok (.ifCond .eq 13, 3) := by decide +kernel
theorem dX11_undo_14 : decode cX11_undo 14 = .ok (.aload_n 0, 1) := by decide +kernel
theorem dX11_undo_15 : decode cX11_undo 15 = .ok (.getfield 43, 3) := by decide +kernel
theorem dX11_undo_18 : decode cX11_undo 18 = .ok (.getfield 135, 3) := by decide +kernel
theorem dX11_undo_21 : decode cX11_undo 21 = .ok (.goto 4, 3) := by decide +kernel
theorem dX11_undo_24 : decode cX11_undo 24 = .ok (.iconst (-1), 1) := by decide +kernel
theorem dX11_undo_25 : decode cX11_undo 25 = .ok (.ireturn, 1) := by decide +kernel
theorem dX11_judge_0 : decode cX11_judge 0 = .ok (.iload_n 1, 1) := by decide +kernel
theorem dX11_judge_1 : decode cX11_judge 1 = .ok (.ifCond .lt 8, 3) := by decide +kernel
theorem dX11_judge_4 : decode cX11_judge 4 = .ok (.iload_n 1, 1) := by decide +kernel
theorem dX11_judge_5 : decode cX11_judge 5 = .ok (.iconst 3, 1) := by decide +kernel
theorem dX11_judge_6 : decode cX11_judge 6 = .ok (.if_icmp .le 5, 3) := by decide +kernel
theorem dX11_judge_9 : decode cX11_judge 9 = .ok (.iconst (-1), 1) := by decide +kernel
theorem dX11_judge_10 : decode cX11_judge 10 = .ok (.ireturn, 1) := by decide +kernel
theorem dX11_judge_11 : decode cX11_judge 11 = .ok (.aload_n 0, 1) := by decide +kernel
theorem dX11_judge_12 : decode cX11_judge 12 = .ok (.getfield 37, 3) := by decide +kernel
theorem dX11_judge_15 : decode cX11_judge 15 = .ok (.aload_n 0, 1) := by decide +kernel
theorem dX11_judge_16 : decode cX11_judge 16 = .ok (.getfield 33, 3) := by decide +kernel
theorem dX11_judge_19 : decode cX11_judge 19 = .ok (.invokevirtual 221, 3) := by decide +kernel
theorem dX11_judge_22 : decode cX11_judge 22 = .ok (.bipush (-2), 2) := by decide +kernel
theorem dX11_judge_24 : decode cX11_judge 24 = .ok (.istore_n 3, 1) := by decide +kernel
theorem dX11_judge_25 : decode cX11_judge 25 = .ok (.iconst 0, 1) := by decide +kernel
theorem dX11_judge_26 : decode cX11_judge 26 = .ok (.istore 4, 2) := by decide +kernel
theorem dX11_judge_28 : decode cX11_judge 28 = .ok (.iload 4, 2) := by decide +kernel
theorem dX11_judge_30 : decode cX11_judge 30 = .ok (.iload_n 1, 1) := by decide +kernel
theorem dX11_judge_31 : decode cX11_judge 31 = .ok (.if_icmp .ge 36, 3) := by decide +kernel
theorem dX11_judge_34 : decode cX11_judge 34 = .ok (.iload_n 3, 1) := by decide +kernel
theorem dX11_judge_35 : decode cX11_judge 35 = .ok (.bipush (-2), 2) := by decide +kernel
theorem dX11_judge_37 : decode cX11_judge 37 = .ok (.if_icmp .ne 30, 3) := by decide +kernel
theorem dX11_judge_40 : decode cX11_judge 40 = .ok (.aload_n 0, 1) := by decide +kernel
theorem dX11_judge_41 : decode cX11_judge 41 = .ok (.iload_n 2, 1) := by decide +kernel
theorem dX11_judge_42 : decode cX11_judge 42 = .ok (.bipush 10, 2) := by decide +kernel
theorem dX11_judge_44 : decode cX11_judge 44 = .ok (.iload 4, 2) := by decide +kernel
theorem dX11_judge_46 : decode cX11_judge 46 = .ok (.imul, 1) := by decide +kernel
theorem dX11_judge_47 : decode cX11_judge 47 = .ok (.iushr, 1) := by decide +kernel
theorem dX11_judge_48 : decode cX11_judge 48 = .ok (.sipush 1023, 3) := by decide +kernel
theorem dX11_judge_51 : decode cX11_judge 51 = .ok (.iand, 1) := by decide +kernel
theorem dX11_judge_52 : decode cX11_judge 52 = .ok (.invokevirtual 260, 3) := by decide +kernel
theorem dX11_judge_55 : decode cX11_judge 55 = .ok (.ifCond .ne 6, 3) := by decide +kernel
theorem dX11_judge_58 : decode cX11_judge 58 = .ok (.iload 4, 2) := by decide +kernel
theorem dX11_judge_60 : decode cX11_judge 60 = .ok (.istore_n 3, 1) := by decide +kernel
theorem dX11_judge_61 : decode cX11_judge 61 = .ok (.iinc 4 1, 3) := by decide +kernel
theorem dX11_judge_64 : decode cX11_judge 64 = .ok (.goto (-36), 3) := by decide +kernel
theorem dX11_judge_67 : decode cX11_judge 67 = .ok (.aload_n 0, 1) := by decide +kernel
theorem dX11_judge_68 : decode cX11_judge 68 = .ok (.aload_n 0, 1) := by decide +kernel
theorem dX11_judge_69 : decode cX11_judge 69 = .ok (.getfield 19, 3) := by decide +kernel
theorem dX11_judge_72 : decode cX11_judge 72 = .ok (.aload_n 0, 1) := by decide +kernel
theorem dX11_judge_73 : decode cX11_judge 73 = .ok (.getfield 37, 3) := by decide +kernel
theorem dX11_judge_76 : decode cX11_judge 76 = .ok (.invokevirtual 263, 3) := by decide +kernel
theorem dX11_judge_79 : decode cX11_judge 79 = .ok (.aload_n 0, 1) := by decide +kernel
theorem dX11_judge_80 : decode cX11_judge 80 = .ok (.getfield 19, 3) := by decide +kernel
theorem dX11_judge_83 : decode cX11_judge 83 = .ok (.aload_n 0, 1) := by decide +kernel
theorem dX11_judge_84 : decode cX11_judge 84 = .ok (.getfield 33, 3) := by decide +kernel
theorem dX11_judge_87 : decode cX11_judge 87 = .ok (.invokevirtual 263, 3) := by decide +kernel
theorem dX11_judge_90 : decode cX11_judge 90 = .ok (.isub, 1) := by decide +kernel
theorem dX11_judge_91 : decode cX11_judge 91 = .ok (.i2l, 1) := by decide +kernel
theorem dX11_judge_92 : decode cX11_judge 92 = .ok (.invokevirtual 267, 3) := by decide +kernel
theorem dX11_judge_95 : decode cX11_judge 95 = .ok (.iload_n 3, 1) := by decide +kernel
theorem dX11_judge_96 : decode cX11_judge 96 = .ok (.ireturn, 1) := by decide +kernel
theorem dX11_playTold_0 : decode cX11_playTold 0 = .ok (.iload_n 1, 1) := by decide +kernel
theorem dX11_playTold_1 : decode cX11_playTold 1 = .ok (.bipush 100, 2) := by decide +kernel
theorem dX11_playTold_3 : decode cX11_playTold 3 = .ok (.idiv, 1) := by decide +kernel
theorem dX11_playTold_4 : decode cX11_playTold 4 = .ok (.istore_n 2, 1) := by decide +kernel
theorem dX11_playTold_5 : decode cX11_playTold 5 = .ok (.iload_n 1, 1) := by decide +kernel
theorem dX11_playTold_6 : decode cX11_playTold 6 = .ok (.bipush 10, 2) := by decide +kernel
theorem dX11_playTold_8 : decode cX11_playTold 8 = .ok (.idiv, 1) := by decide +kernel
theorem dX11_playTold_9 : decode cX11_playTold 9 = .ok (.bipush 10, 2) := by decide +kernel
theorem dX11_playTold_11 : decode cX11_playTold 11 = .ok (.irem, 1) := by decide +kernel
theorem dX11_playTold_12 : decode cX11_playTold 12 = .ok (.istore_n 3, 1) := by decide +kernel
theorem dX11_playTold_13 : decode cX11_playTold 13 = .ok (.iload_n 1, 1) := by decide +kernel
theorem dX11_playTold_14 : decode cX11_playTold 14 = .ok (.bipush 10, 2) := by decide +kernel
theorem dX11_playTold_16 : decode cX11_playTold 16 = .ok (.irem, 1) := by decide +kernel
theorem dX11_playTold_17 : decode cX11_playTold 17 = .ok (.istore 4, 2) := by decide +kernel
theorem dX11_playTold_19 : decode cX11_playTold 19 = .ok (.iload_n 2, 1) := by decide +kernel
theorem dX11_playTold_20 : decode cX11_playTold 20 = .ok (.iconst 2, 1) := by decide +kernel
theorem dX11_playTold_21 : decode cX11_playTold 21 = .ok (.if_icmp .gt 22, 3) := by decide +kernel
theorem dX11_playTold_24 : decode cX11_playTold 24 = .ok (.iload_n 3, 1) := by decide +kernel
theorem dX11_playTold_25 : decode cX11_playTold 25 = .ok (.iload 4, 2) := by decide +kernel
theorem dX11_playTold_27 : decode cX11_playTold 27 = .ok (.if_icmp .ge 16, 3) := by decide +kernel
theorem dX11_playTold_30 : decode cX11_playTold 30 = .ok (.aload_n 0, 1) := by decide +kernel
theorem dX11_playTold_31 : decode cX11_playTold 31 = .ok (.getfield 19, 3) := by decide +kernel
theorem dX11_playTold_34 : decode cX11_playTold 34 = .ok (.iload_n 3, 1) := by decide +kernel
theorem dX11_playTold_35 : decode cX11_playTold 35 = .ok (.iload 4, 2) := by decide +kernel
theorem dX11_playTold_37 : decode cX11_playTold 37 = .ok (.invokevirtual 214, 3) := by decide +kernel
theorem dX11_playTold_40 : decode cX11_playTold 40 = .ok (.ifCond .ne 5, 3) := by decide +kernel
theorem dX11_playTold_43 : decode cX11_playTold 43 = .ok (.iconst 0, 1) := by decide +kernel
theorem dX11_playTold_44 : decode cX11_playTold 44 = .ok (.ireturn, 1) := by decide +kernel
theorem dX11_playTold_45 : decode cX11_playTold 45 = .ok (.aload_n 0, 1) := by decide +kernel
theorem dX11_playTold_46 : decode cX11_playTold 46 = .ok (.getfield 19, 3) := by decide +kernel
theorem dX11_playTold_49 : decode cX11_playTold 49 = .ok (.aload_n 0, 1) := by decide +kernel
theorem dX11_playTold_50 : decode cX11_playTold 50 = .ok (.getfield 37, 3) := by decide +kernel
theorem dX11_playTold_53 : decode cX11_playTold 53 = .ok (.iload_n 3, 1) := by decide +kernel
theorem dX11_playTold_54 : decode cX11_playTold 54 = .ok (.iload 4, 2) := by decide +kernel
theorem dX11_playTold_56 : decode cX11_playTold 56 = .ok (.aload_n 0, 1) := by decide +kernel
theorem dX11_playTold_57 : decode cX11_playTold 57 = .ok (.getfield 19, 3) := by decide +kernel
theorem dX11_playTold_60 : decode cX11_playTold 60 = .ok (.aload_n 0, 1) := by decide +kernel
theorem dX11_playTold_61 : decode cX11_playTold 61 = .ok (.getfield 37, 3) := by decide +kernel
theorem dX11_playTold_64 : decode cX11_playTold 64 = .ok (.iload_n 3, 1) := by decide +kernel
theorem dX11_playTold_65 : decode cX11_playTold 65 = .ok (.iload 4, 2) := by decide +kernel
theorem dX11_playTold_67 : decode cX11_playTold 67 = .ok (.iload_n 2, 1) := by decide +kernel
theorem dX11_playTold_68 : decode cX11_playTold 68 = .ok (.invokevirtual 225, 3) := by decide +kernel
theorem dX11_playTold_71 : decode cX11_playTold 71 = .ok (.iconst 1, 1) := by decide +kernel
theorem dX11_playTold_72 : decode cX11_playTold 72 = .ok (.invokevirtual 229, 3) := by decide +kernel
theorem dX11_playTold_75 : decode cX11_playTold 75 = .ok (.iconst 1, 1) := by decide +kernel
theorem dX11_playTold_76 : decode cX11_playTold 76 = .ok (.ireturn, 1) := by decide +kernel
theorem dX11_rounds_0 : decode cX11_rounds 0 = .ok (.iload_n 1, 1) := by decide +kernel
theorem dX11_rounds_1 : decode cX11_rounds 1 = .ok (.ifCond .lt 20, 3) := by decide +kernel
theorem dX11_rounds_4 : decode cX11_rounds 4 = .ok (.iload_n 1, 1) := by decide +kernel
theorem dX11_rounds_5 : decode cX11_rounds 5 = .ok (.sipush 200, 3) := by decide +kernel
theorem dX11_rounds_8 : decode cX11_rounds 8 = .ok (.if_icmp .gt 13, 3) := by decide +kernel
theorem dX11_rounds_11 : decode cX11_rounds 11 = .ok (.aload_n 0, 1) := by decide +kernel
theorem dX11_rounds_12 : decode cX11_rounds 12 = .ok (.getfield 56, 3) := by decide +kernel
theorem dX11_rounds_15 : decode cX11_rounds 15 = .ok (.getfield 161, 3) := by decide +kernel
theorem dX11_rounds_18 : decode cX11_rounds 18 = .ok (.ifCond .ne 5, 3) := by decide +kernel
theorem dX11_rounds_21 : decode cX11_rounds 21 = .ok (.iconst (-1), 1) := by decide +kernel
theorem dX11_rounds_22 : decode cX11_rounds 22 = .ok (.ireturn, 1) := by decide +kernel
theorem dX11_rounds_23 : decode cX11_rounds 23 = .ok (.iconst 0, 1) := by decide +kernel
theorem dX11_rounds_24 : decode cX11_rounds 24 = .ok (.istore_n 2, 1) := by decide +kernel
theorem dX11_rounds_25 : decode cX11_rounds 25 = .ok (.iconst 0, 1) := by decide +kernel
theorem dX11_rounds_26 : decode cX11_rounds 26 = .ok (.istore_n 3, 1) := by decide +kernel
theorem dX11_rounds_27 : decode cX11_rounds 27 = .ok (.iconst 0, 1) := by decide +kernel
theorem dX11_rounds_28 : decode cX11_rounds 28 = .ok (.istore 4, 2) := by decide +kernel
theorem dX11_rounds_30 : decode cX11_rounds 30 = .ok (.iload 4, 2) := by decide +kernel
theorem dX11_rounds_32 : decode cX11_rounds 32 = .ok (.iload_n 1, 1) := by decide +kernel
theorem dX11_rounds_33 : decode cX11_rounds 33 = .ok (.if_icmp .ge 109, 3) := by decide +kernel
theorem dX11_rounds_36 : decode cX11_rounds 36 = .ok (.aload_n 0, 1) := by decide +kernel
theorem dX11_rounds_37 : decode cX11_rounds 37 = .ok (.getfield 56, 3) := by decide +kernel
theorem dX11_rounds_40 : decode cX11_rounds 40 = .ok (.aload_n 0, 1) := by decide +kernel
theorem dX11_rounds_41 : decode cX11_rounds 41 = .ok (.getfield 63, 3) := by decide +kernel
theorem dX11_rounds_44 : decode cX11_rounds 44 = .ok (.iconst 1, 1) := by decide +kernel
theorem dX11_rounds_45 : decode cX11_rounds 45 = .ok (.iadd, 1) := by decide +kernel
theorem dX11_rounds_46 : decode cX11_rounds 46 = .ok (.invokevirtual 270, 3) := by decide +kernel
theorem dX11_rounds_49 : decode cX11_rounds 49 = .ok (.istore 5, 2) := by decide +kernel
theorem dX11_rounds_51 : decode cX11_rounds 51 = .ok (.aload_n 0, 1) := by decide +kernel
theorem dX11_rounds_52 : decode cX11_rounds 52 = .ok (.getfield 56, 3) := by decide +kernel
theorem dX11_rounds_55 : decode cX11_rounds 55 = .ok (.aload_n 0, 1) := by decide +kernel
theorem dX11_rounds_56 : decode cX11_rounds 56 = .ok (.getfield 63, 3) := by decide +kernel
theorem dX11_rounds_59 : decode cX11_rounds 59 = .ok (.invokevirtual 270, 3) := by decide +kernel
theorem dX11_rounds_62 : decode cX11_rounds 62 = .ok (.istore 6, 2) := by decide +kernel
theorem dX11_rounds_64 : decode cX11_rounds 64 = .ok (.iload 6, 2) := by decide +kernel
theorem dX11_rounds_66 : decode cX11_rounds 66 = .ok (.iload 5, 2) := by decide +kernel
theorem dX11_rounds_68 : decode cX11_rounds 68 = .ok (.if_icmp .ge 53, 3) := by decide +kernel
theorem dX11_rounds_71 : decode cX11_rounds 71 = .ok (.aload_n 0, 1) := by decide +kernel
theorem dX11_rounds_72 : decode cX11_rounds 72 = .ok (.aload_n 0, 1) := by decide +kernel
theorem dX11_rounds_73 : decode cX11_rounds 73 = .ok (.getfield 56, 3) := by decide +kernel
theorem dX11_rounds_76 : decode cX11_rounds 76 = .ok (.getfield 274, 3) := by decide +kernel
theorem dX11_rounds_79 : decode cX11_rounds 79 = .ok (.iload 6, 2) := by decide +kernel
theorem dX11_rounds_81 : decode cX11_rounds 81 = .ok (.iaload, 1) := by decide +kernel
theorem dX11_rounds_82 : decode cX11_rounds 82 = .ok (.aload_n 0, 1) := by decide +kernel
theorem dX11_rounds_83 : decode cX11_rounds 83 = .ok (.getfield 56, 3) := by decide +kernel
theorem dX11_rounds_86 : decode cX11_rounds 86 = .ok (.getfield 277, 3) := by decide +kernel
theorem dX11_rounds_89 : decode cX11_rounds 89 = .ok (.iload 6, 2) := by decide +kernel
theorem dX11_rounds_91 : decode cX11_rounds 91 = .ok (.iaload, 1) := by decide +kernel
theorem dX11_rounds_92 : decode cX11_rounds 92 = .ok (.aload_n 0, 1) := by decide +kernel
theorem dX11_rounds_93 : decode cX11_rounds 93 = .ok (.getfield 56, 3) := by decide +kernel
theorem dX11_rounds_96 : decode cX11_rounds 96 = .ok (.getfield 280, 3) := by decide +kernel
theorem dX11_rounds_99 : decode cX11_rounds 99 = .ok (.iload 6, 2) := by decide +kernel
theorem dX11_rounds_101 : decode cX11_rounds 101 = .ok (.iaload, 1) := by decide +kernel
theorem dX11_rounds_102 : decode cX11_rounds 102 = .ok (.invokevirtual 247, 3) := by decide +kernel
theorem dX11_rounds_105 : decode cX11_rounds 105 = .ok (.iconst 2, 1) := by decide +kernel
theorem dX11_rounds_106 : decode cX11_rounds 106 = .ok (.if_icmp .ne 6, 3) := by decide +kernel
theorem dX11_rounds_109 : decode cX11_rounds 109 = .ok (.iinc 3 1, 3) := by decide +kernel
theorem dX11_rounds_112 : decode cX11_rounds 112 = .ok (.iinc 2 1, 3) := by decide +kernel
theorem dX11_rounds_115 : decode cX11_rounds 115 = .ok (.iinc 6 1, 3) := by decide +kernel
theorem dX11_rounds_118 : decode cX11_rounds 118 = .ok (.goto (-54), 3) := by decide +kernel
theorem dX11_rounds_121 : decode cX11_rounds 121 = .ok (.aload_n 0, 1) := by decide +kernel
theorem dX11_rounds_122 : decode cX11_rounds 122 = .ok (.aload_n 0, 1) := by decide +kernel
theorem dX11_rounds_123 : decode cX11_rounds 123 = .ok (.getfield 56, 3) := by decide +kernel
theorem dX11_rounds_126 : decode cX11_rounds 126 = .ok (.aload_n 0, 1) := by decide +kernel
theorem dX11_rounds_127 : decode cX11_rounds 127 = .ok (.getfield 63, 3) := by decide +kernel
theorem dX11_rounds_130 : decode cX11_rounds 130 = .ok (.invokevirtual 281, 3) := by decide +kernel
theorem dX11_rounds_133 : decode cX11_rounds 133 = .ok (.putfield 63, 3) := by decide +kernel
theorem dX11_rounds_136 : decode cX11_rounds 136 = .ok (.iinc 4 1, 3) := by decide +kernel
theorem dX11_rounds_139 : decode cX11_rounds 139 = .ok (.goto (-109), 3) := by decide +kernel
theorem dX11_rounds_142 : decode cX11_rounds 142 = .ok (.aload_n 0, 1) := by decide +kernel
theorem dX11_rounds_143 : decode cX11_rounds 143 = .ok (.iload_n 3, 1) := by decide +kernel
theorem dX11_rounds_144 : decode cX11_rounds 144 = .ok (.i2l, 1) := by decide +kernel
theorem dX11_rounds_145 : decode cX11_rounds 145 = .ok (.aload_n 0, 1) := by decide +kernel
theorem dX11_rounds_146 : decode cX11_rounds 146 = .ok (.getfield 19, 3) := by decide +kernel
theorem dX11_rounds_149 : decode cX11_rounds 149 = .ok (.aload_n 0, 1) := by decide +kernel
theorem dX11_rounds_150 : decode cX11_rounds 150 = .ok (.getfield 33, 3) := by decide +kernel
theorem dX11_rounds_153 : decode cX11_rounds 153 = .ok (.invokevirtual 263, 3) := by decide +kernel
theorem dX11_rounds_156 : decode cX11_rounds 156 = .ok (.i2l, 1) := by decide +kernel
theorem dX11_rounds_157 : decode cX11_rounds 157 = .ok (.invokevirtual 239, 3) := by decide +kernel
theorem dX11_rounds_160 : decode cX11_rounds 160 = .ok (.iload_n 2, 1) := by decide +kernel
theorem dX11_rounds_161 : decode cX11_rounds 161 = .ok (.ireturn, 1) := by decide +kernel
theorem dX11_beats_0 : decode cX11_beats 0 = .ok (.aload_n 0, 1) := by decide +kernel
theorem dX11_beats_1 : decode cX11_beats 1 = .ok (.getfield 19, 3) := by decide +kernel
theorem dX11_beats_4 : decode cX11_beats 4 = .ok (.iload_n 1, 1) := by decide +kernel
theorem dX11_beats_5 : decode cX11_beats 5 = .ok (.invokevirtual 164, 3) := by decide +kernel
theorem dX11_beats_8 : decode cX11_beats 8 = .ok (.ifCond .ne 5, 3) := by decide +kernel
theorem dX11_beats_11 : decode cX11_beats 11 = .ok (.iconst (-1), 1) := by decide +kernel
theorem dX11_beats_12 : decode cX11_beats 12 = .ok (.ireturn, 1) := by decide +kernel
theorem dX11_beats_13 : decode cX11_beats 13 = .ok (.aload_n 0, 1) := by decide +kernel
theorem dX11_beats_14 : decode cX11_beats 14 = .ok (.aload_n 0, 1) := by decide +kernel
theorem dX11_beats_15 : decode cX11_beats 15 = .ok (.iload_n 1, 1) := by decide +kernel
theorem dX11_beats_16 : decode cX11_beats 16 = .ok (.iconst 2, 1) := by decide +kernel
theorem dX11_beats_17 : decode cX11_beats 17 = .ok (.invokevirtual 284, 3) := by decide +kernel
theorem dX11_beats_20 : decode cX11_beats 20 = .ok (.i2l, 1) := by decide +kernel
theorem dX11_beats_21 : decode cX11_beats 21 = .ok (.invokevirtual 267, 3) := by decide +kernel
theorem dX11_beats_24 : decode cX11_beats 24 = .ok (.aload_n 0, 1) := by decide +kernel
theorem dX11_beats_25 : decode cX11_beats 25 = .ok (.iload_n 1, 1) := by decide +kernel
theorem dX11_beats_26 : decode cX11_beats 26 = .ok (.iconst 0, 1) := by decide +kernel
theorem dX11_beats_27 : decode cX11_beats 27 = .ok (.invokevirtual 284, 3) := by decide +kernel
theorem dX11_beats_30 : decode cX11_beats 30 = .ok (.ireturn, 1) := by decide +kernel
theorem dX11_sidesWithResult_0 : decode cX11_sidesWithResult 0 = .ok (.iconst 0, 1) := by decide +kernel
theorem dX11_sidesWithResult_1 : decode cX11_sidesWithResult 1 = .ok (.istore_n 3, 1) := by decide +kernel
theorem dX11_sidesWithResult_2 : decode cX11_sidesWithResult 2 = .ok (.iconst 0, 1) := by decide +kernel
theorem dX11_sidesWithResult_3 : decode cX11_sidesWithResult 3 = .ok (.istore 4, 2) := by decide +kernel
theorem dX11_sidesWithResult_5 : decode cX11_sidesWithResult 5 = .ok (.iload 4, 2) := by decide +kernel
theorem dX11_sidesWithResult_7 : decode cX11_sidesWithResult 7 = .ok (.aload_n 0, 1) := by decide +kernel
theorem dX11_sidesWithResult_8 : decode cX11_sidesWithResult 8 = .ok (.getfield 19, 3) := by decide +kernel
theorem dX11_sidesWithResult_11 : decode cX11_sidesWithResult 11 = .ok (.getfield 155, 3) := by decide +kernel
theorem dX11_sidesWithResult_14 : decode cX11_sidesWithResult 14 = .ok (.if_icmp .ge 41, 3) := by decide +kernel
theorem dX11_sidesWithResult_17 : decode cX11_sidesWithResult 17 = .ok (.iload 4, 2) := by decide +kernel
theorem dX11_sidesWithResult_19 : decode cX11_sidesWithResult 19 = .ok (.iload_n 1, 1) := by decide +kernel
theorem dX11_sidesWithResult_20 : decode cX11_sidesWithResult 20 = .ok (.if_icmp .eq 29, 3) := by decide +kernel
theorem dX11_sidesWithResult_23 : decode cX11_sidesWithResult 23 = .ok (.aload_n 0, 1) := by decide +kernel
theorem dX11_sidesWithResult_24 : decode cX11_sidesWithResult 24 = .ok (.getfield 19, 3) := by decide +kernel
theorem dX11_sidesWithResult_27 : decode cX11_sidesWithResult 27 = .ok (.aload_n 0, 1) := by decide +kernel
theorem dX11_sidesWithResult_28 : decode cX11_sidesWithResult 28 = .ok (.getfield 33, 3) := by decide +kernel
theorem dX11_sidesWithResult_31 : decode cX11_sidesWithResult 31 = .ok (.iload_n 1, 1) := by decide +kernel
theorem dX11_sidesWithResult_32 : decode cX11_sidesWithResult 32 = .ok (.iload 4, 2) := by decide +kernel
theorem dX11_sidesWithResult_34 : decode cX11_sidesWithResult 34 = .ok (.iconst 0, 1) := by decide +kernel
theorem dX11_sidesWithResult_35 : decode cX11_sidesWithResult 35 = .ok (.invokevirtual 225, 3) := by decide +kernel
theorem dX11_sidesWithResult_38 : decode cX11_sidesWithResult 38 = .ok (.iload_n 2, 1) := by decide +kernel
theorem dX11_sidesWithResult_39 : decode cX11_sidesWithResult 39 = .ok (.if_icmp .ne 10, 3) := by decide +kernel
theorem dX11_sidesWithResult_42 : decode cX11_sidesWithResult 42 = .ok (.iload_n 3, 1) := by decide +kernel
theorem dX11_sidesWithResult_43 : decode cX11_sidesWithResult 43 = .ok (.iconst 1, 1) := by decide +kernel
theorem dX11_sidesWithResult_44 : decode cX11_sidesWithResult 44 = .ok (.iload 4, 2) := by decide +kernel
theorem dX11_sidesWithResult_46 : decode cX11_sidesWithResult 46 = .ok (.ishl, 1) := by decide +kernel
theorem dX11_sidesWithResult_47 : decode cX11_sidesWithResult 47 = .ok (.ior, 1) := by decide +kernel
theorem dX11_sidesWithResult_48 : decode cX11_sidesWithResult 48 = .ok (.istore_n 3, 1) := by decide +kernel
theorem dX11_sidesWithResult_49 : decode cX11_sidesWithResult 49 = .ok (.iinc 4 1, 3) := by decide +kernel
theorem dX11_sidesWithResult_52 : decode cX11_sidesWithResult 52 = .ok (.goto (-47), 3) := by decide +kernel
theorem dX11_sidesWithResult_55 : decode cX11_sidesWithResult 55 = .ok (.iload_n 3, 1) := by decide +kernel
theorem dX11_sidesWithResult_56 : decode cX11_sidesWithResult 56 = .ok (.ireturn, 1) := by decide +kernel
theorem dX11_kings_0 : decode cX11_kings 0 = .ok (.iconst 0, 1) := by decide +kernel
theorem dX11_kings_1 : decode cX11_kings 1 = .ok (.istore_n 1, 1) := by decide +kernel
theorem dX11_kings_2 : decode cX11_kings 2 = .ok (.iconst 0, 1) := by decide +kernel
theorem dX11_kings_3 : decode cX11_kings 3 = .ok (.istore_n 2, 1) := by decide +kernel
theorem dX11_kings_4 : decode cX11_kings 4 = .ok (.iload_n 2, 1) := by decide +kernel
theorem dX11_kings_5 : decode cX11_kings 5 = .ok (.aload_n 0, 1) := by decide +kernel
theorem dX11_kings_6 : decode cX11_kings 6 = .ok (.getfield 19, 3) := by decide +kernel
theorem dX11_kings_9 : decode cX11_kings 9 = .ok (.getfield 155, 3) := by decide +kernel
theorem dX11_kings_12 : decode cX11_kings 12 = .ok (.if_icmp .ge 36, 3) := by decide +kernel
theorem dX11_kings_15 : decode cX11_kings 15 = .ok (.aload_n 0, 1) := by decide +kernel
theorem dX11_kings_16 : decode cX11_kings 16 = .ok (.getfield 80, 3) := by decide +kernel
theorem dX11_kings_19 : decode cX11_kings 19 = .ok (.iload_n 2, 1) := by decide +kernel
theorem dX11_kings_20 : decode cX11_kings 20 = .ok (.aload_n 0, 1) := by decide +kernel
theorem dX11_kings_21 : decode cX11_kings 21 = .ok (.iload_n 2, 1) := by decide +kernel
theorem dX11_kings_22 : decode cX11_kings 22 = .ok (.iconst 0, 1) := by decide +kernel
theorem dX11_kings_23 : decode cX11_kings 23 = .ok (.invokevirtual 284, 3) := by decide +kernel
theorem dX11_kings_26 : decode cX11_kings 26 = .ok (.iastore, 1) := by decide +kernel
theorem dX11_kings_27 : decode cX11_kings 27 = .ok (.aload_n 0, 1) := by decide +kernel
theorem dX11_kings_28 : decode cX11_kings 28 = .ok (.getfield 80, 3) := by decide +kernel
theorem dX11_kings_31 : decode cX11_kings 31 = .ok (.iload_n 2, 1) := by decide +kernel
theorem dX11_kings_32 : decode cX11_kings 32 = .ok (.iaload, 1) := by decide +kernel
theorem dX11_kings_33 : decode cX11_kings 33 = .ok (.ifCond .ne 9, 3) := by decide +kernel
theorem dX11_kings_36 : decode cX11_kings 36 = .ok (.iload_n 1, 1) := by decide +kernel
theorem dX11_kings_37 : decode cX11_kings 37 = .ok (.iconst 1, 1) := by decide +kernel
theorem dX11_kings_38 : decode cX11_kings 38 = .ok (.iload_n 2, 1) := by decide +kernel
theorem dX11_kings_39 : decode cX11_kings 39 = .ok (.ishl, 1) := by decide +kernel
theorem dX11_kings_40 : decode cX11_kings 40 = .ok (.ior, 1) := by decide +kernel
theorem dX11_kings_41 : decode cX11_kings 41 = .ok (.istore_n 1, 1) := by decide +kernel
theorem dX11_kings_42 : decode cX11_kings 42 = .ok (.iinc 2 1, 3) := by decide +kernel
theorem dX11_kings_45 : decode cX11_kings 45 = .ok (.goto (-41), 3) := by decide +kernel
theorem dX11_kings_48 : decode cX11_kings 48 = .ok (.iconst 0, 1) := by decide +kernel
theorem dX11_kings_49 : decode cX11_kings 49 = .ok (.istore_n 2, 1) := by decide +kernel
theorem dX11_kings_50 : decode cX11_kings 50 = .ok (.iconst 0, 1) := by decide +kernel
theorem dX11_kings_51 : decode cX11_kings 51 = .ok (.istore_n 3, 1) := by decide +kernel
theorem dX11_kings_52 : decode cX11_kings 52 = .ok (.iload_n 3, 1) := by decide +kernel
theorem dX11_kings_53 : decode cX11_kings 53 = .ok (.aload_n 0, 1) := by decide +kernel
theorem dX11_kings_54 : decode cX11_kings 54 = .ok (.getfield 19, 3) := by decide +kernel
theorem dX11_kings_57 : decode cX11_kings 57 = .ok (.getfield 155, 3) := by decide +kernel
theorem dX11_kings_60 : decode cX11_kings 60 = .ok (.if_icmp .ge 23, 3) := by decide +kernel
theorem dX11_kings_63 : decode cX11_kings 63 = .ok (.aload_n 0, 1) := by decide +kernel
theorem dX11_kings_64 : decode cX11_kings 64 = .ok (.iload_n 3, 1) := by decide +kernel
theorem dX11_kings_65 : decode cX11_kings 65 = .ok (.invokevirtual 287, 3) := by decide +kernel
theorem dX11_kings_68 : decode cX11_kings 68 = .ok (.ifCond .eq 9, 3) := by decide +kernel
theorem dX11_kings_71 : decode cX11_kings 71 = .ok (.iload_n 2, 1) := by decide +kernel
theorem dX11_kings_72 : decode cX11_kings 72 = .ok (.iconst 1, 1) := by decide +kernel
theorem dX11_kings_73 : decode cX11_kings 73 = .ok (.iload_n 3, 1) := by decide +kernel
theorem dX11_kings_74 : decode cX11_kings 74 = .ok (.ishl, 1) := by decide +kernel
theorem dX11_kings_75 : decode cX11_kings 75 = .ok (.ior, 1) := by decide +kernel
theorem dX11_kings_76 : decode cX11_kings 76 = .ok (.istore_n 2, 1) := by decide +kernel
theorem dX11_kings_77 : decode cX11_kings 77 = .ok (.iinc 3 1, 3) := by decide +kernel
theorem dX11_kings_80 : decode cX11_kings 80 = .ok (.goto (-28), 3) := by decide +kernel
theorem dX11_kings_83 : decode cX11_kings 83 = .ok (.aload_n 0, 1) := by decide +kernel
theorem dX11_kings_84 : decode cX11_kings 84 = .ok (.iload_n 1, 1) := by decide +kernel
theorem dX11_kings_85 : decode cX11_kings 85 = .ok (.i2l, 1) := by decide +kernel
theorem dX11_kings_86 : decode cX11_kings 86 = .ok (.invokevirtual 267, 3) := by decide +kernel
theorem dX11_kings_89 : decode cX11_kings 89 = .ok (.iload_n 2, 1) := by decide +kernel
theorem dX11_kings_90 : decode cX11_kings 90 = .ok (.ireturn, 1) := by decide +kernel
theorem dX11_isKing_0 : decode cX11_isKing 0 = .ok (.aload_n 0, 1) := by decide +kernel
theorem dX11_isKing_1 : decode cX11_isKing 1 = .ok (.getfield 80, 3) := by decide +kernel
theorem dX11_isKing_4 : decode cX11_isKing 4 = .ok (.iload_n 1, 1) := by decide +kernel
theorem dX11_isKing_5 : decode cX11_isKing 5 = .ok (.iaload, 1) := by decide +kernel
theorem dX11_isKing_6 : decode cX11_isKing 6 = .ok (.iconst 1, 1) := by decide +kernel
theorem dX11_isKing_7 : decode cX11_isKing 7 = .ok (.iload_n 1, 1) := by decide +kernel
theorem dX11_isKing_8 : decode cX11_isKing 8 = .ok (.ishl, 1) := by decide +kernel
theorem dX11_isKing_9 : decode cX11_isKing 9 = .ok (.ior, 1) := by decide +kernel
theorem dX11_isKing_10 : decode cX11_isKing 10 = .ok (.istore_n 2, 1) := by decide +kernel
theorem dX11_isKing_11 : decode cX11_isKing 11 = .ok (.iconst 0, 1) := by decide +kernel
theorem dX11_isKing_12 : decode cX11_isKing 12 = .ok (.istore_n 3, 1) := by decide +kernel
theorem dX11_isKing_13 : decode cX11_isKing 13 = .ok (.iload_n 3, 1) := by decide +kernel
theorem dX11_isKing_14 : decode cX11_isKing 14 = .ok (.aload_n 0, 1) := by decide +kernel
theorem dX11_isKing_15 : decode cX11_isKing 15 = .ok (.getfield 19, 3) := by decide +kernel
theorem dX11_isKing_18 : decode cX11_isKing 18 = .ok (.getfield 155, 3) := by decide +kernel
theorem dX11_isKing_21 : decode cX11_isKing 21 = .ok (.if_icmp .ge 31, 3) := by decide +kernel
theorem dX11_isKing_24 : decode cX11_isKing 24 = .ok (.aload_n 0, 1) := by decide +kernel
theorem dX11_isKing_25 : decode cX11_isKing 25 = .ok (.getfield 80, 3) := by decide +kernel
theorem dX11_isKing_28 : decode cX11_isKing 28 = .ok (.iload_n 1, 1) := by decide +kernel
theorem dX11_isKing_29 : decode cX11_isKing 29 = .ok (.iaload, 1) := by decide +kernel
theorem dX11_isKing_30 : decode cX11_isKing 30 = .ok (.iload_n 3, 1) := by decide +kernel
theorem dX11_isKing_31 : decode cX11_isKing 31 = .ok (.ishr, 1) := by decide +kernel
theorem dX11_isKing_32 : decode cX11_isKing 32 = .ok (.iconst 1, 1) := by decide +kernel
theorem dX11_isKing_33 : decode cX11_isKing 33 = .ok (.iand, 1) := by decide +kernel
theorem dX11_isKing_34 : decode cX11_isKing 34 = .ok (.ifCond .eq 12, 3) := by decide +kernel
theorem dX11_isKing_37 : decode cX11_isKing 37 = .ok (.iload_n 2, 1) := by decide +kernel
theorem dX11_isKing_38 : decode cX11_isKing 38 = .ok (.aload_n 0, 1) := by decide +kernel
theorem dX11_isKing_39 : decode cX11_isKing 39 = .ok (.getfield 80, 3) := by decide +kernel
theorem dX11_isKing_42 : decode cX11_isKing 42 = .ok (.iload_n 3, 1) := by decide +kernel
theorem dX11_isKing_43 : decode cX11_isKing 43 = .ok (.iaload, 1) := by decide +kernel
theorem dX11_isKing_44 : decode cX11_isKing 44 = .ok (.ior, 1) := by decide +kernel
theorem dX11_isKing_45 : decode cX11_isKing 45 = .ok (.istore_n 2, 1) := by decide +kernel
theorem dX11_isKing_46 : decode cX11_isKing 46 = .ok (.iinc 3 1, 3) := by decide +kernel
theorem dX11_isKing_49 : decode cX11_isKing 49 = .ok (.goto (-36), 3) := by decide +kernel
theorem dX11_isKing_52 : decode cX11_isKing 52 = .ok (.iload_n 2, 1) := by decide +kernel
theorem dX11_isKing_53 : decode cX11_isKing 53 = .ok (.iconst 1, 1) := by decide +kernel
theorem dX11_isKing_54 : decode cX11_isKing 54 = .ok (.aload_n 0, 1) := by decide +kernel
theorem dX11_isKing_55 : decode cX11_isKing 55 = .ok (.getfield 19, 3) := by decide +kernel
theorem dX11_isKing_58 : decode cX11_isKing 58 = .ok (.getfield 155, 3) := by decide +kernel
theorem dX11_isKing_61 : decode cX11_isKing 61 = .ok (.ishl, 1) := by decide +kernel
theorem dX11_isKing_62 : decode cX11_isKing 62 = .ok (.iconst 1, 1) := by decide +kernel
theorem dX11_isKing_63 : decode cX11_isKing 63 = .ok (.isub, 1) := by decide +kernel
theorem dX11_isKing_64 : decode cX11_isKing 64 = .ok (.if_icmp .ne 7, 3) := by decide +kernel
theorem dX11_isKing_67 : decode cX11_isKing 67 = .ok (.iconst 1, 1) := by decide +kernel
theorem dX11_isKing_68 : decode cX11_isKing 68 = .ok (.goto 4, 3) := by decide +kernel
theorem dX11_isKing_71 : decode cX11_isKing 71 = .ok (.iconst 0, 1) := by decide +kernel
theorem dX11_isKing_72 : decode cX11_isKing 72 = .ok (.ireturn, 1) := by decide +kernel
theorem dX11_master_0 : decode cX11_master 0 = .ok (.aload_n 0, 1) := by decide +kernel
theorem dX11_master_1 : decode cX11_master 1 = .ok (.getfield 19, 3) := by decide +kernel
theorem dX11_master_4 : decode cX11_master 4 = .ok (.iload_n 1, 1) := by decide +kernel
theorem dX11_master_5 : decode cX11_master 5 = .ok (.invokevirtual 167, 3) := by decide +kernel
theorem dX11_master_8 : decode cX11_master 8 = .ok (.ifCond .ne 5, 3) := by decide +kernel
theorem dX11_master_11 : decode cX11_master 11 = .ok (.iconst (-1), 1) := by decide +kernel
theorem dX11_master_12 : decode cX11_master 12 = .ok (.ireturn, 1) := by decide +kernel
theorem dX11_master_13 : decode cX11_master 13 = .ok (.aload_n 0, 1) := by decide +kernel
theorem dX11_master_14 : decode cX11_master 14 = .ok (.getfield 19, 3) := by decide +kernel
theorem dX11_master_17 : decode cX11_master 17 = .ok (.getfield 155, 3) := by decide +kernel
theorem dX11_master_20 : decode cX11_master 20 = .ok (.ifCond .ne 6, 3) := by decide +kernel
theorem dX11_master_23 : decode cX11_master 23 = .ok (.bipush (-2), 2) := by decide +kernel
theorem dX11_master_25 : decode cX11_master 25 = .ok (.ireturn, 1) := by decide +kernel
theorem dX11_master_26 : decode cX11_master 26 = .ok (.iconst 0, 1) := by decide +kernel
theorem dX11_master_27 : decode cX11_master 27 = .ok (.istore_n 2, 1) := by decide +kernel
theorem dX11_master_28 : decode cX11_master 28 = .ok (.bipush 7, 2) := by decide +kernel
theorem dX11_master_30 : decode cX11_master 30 = .ok (.istore_n 3, 1) := by decide +kernel
theorem dX11_master_31 : decode cX11_master 31 = .ok (.iconst 0, 1) := by decide +kernel
theorem dX11_master_32 : decode cX11_master 32 = .ok (.istore 4, 2) := by decide +kernel
theorem dX11_master_34 : decode cX11_master 34 = .ok (.iload 4, 2) := by decide +kernel
theorem dX11_master_36 : decode cX11_master 36 = .ok (.aload_n 0, 1) := by decide +kernel
theorem dX11_master_37 : decode cX11_master 37 = .ok (.getfield 19, 3) := by decide +kernel
theorem dX11_master_40 : decode cX11_master 40 = .ok (.getfield 155, 3) := by decide +kernel
theorem dX11_master_43 : decode cX11_master 43 = .ok (.if_icmp .ge 45, 3) := by decide +kernel
theorem dX11_master_46 : decode cX11_master 46 = .ok (.aload_n 0, 1) := by decide +kernel
theorem dX11_master_47 : decode cX11_master 47 = .ok (.getfield 33, 3) := by decide +kernel
theorem dX11_master_50 : decode cX11_master 50 = .ok (.iload 4, 2) := by decide +kernel
theorem dX11_master_52 : decode cX11_master 52 = .ok (.iload_n 1, 1) := by decide +kernel
theorem dX11_master_53 : decode cX11_master 53 = .ok (.invokevirtual 170, 3) := by decide +kernel
theorem dX11_master_56 : decode cX11_master 56 = .ok (.istore 5, 2) := by decide +kernel
theorem dX11_master_58 : decode cX11_master 58 = .ok (.iload_n 3, 1) := by decide +kernel
theorem dX11_master_59 : decode cX11_master 59 = .ok (.iload 5, 2) := by decide +kernel
theorem dX11_master_61 : decode cX11_master 61 = .ok (.invokestatic 290, 3) := by decide +kernel
theorem dX11_master_64 : decode cX11_master 64 = .ok (.istore_n 3, 1) := by decide +kernel
theorem dX11_master_65 : decode cX11_master 65 = .ok (.iload 5, 2) := by decide +kernel
theorem dX11_master_67 : decode cX11_master 67 = .ok (.aload_n 0, 1) := by decide +kernel
theorem dX11_master_68 : decode cX11_master 68 = .ok (.getfield 33, 3) := by decide +kernel
theorem dX11_master_71 : decode cX11_master 71 = .ok (.iload_n 2, 1) := by decide +kernel
theorem dX11_master_72 : decode cX11_master 72 = .ok (.iload_n 1, 1) := by decide +kernel
theorem dX11_master_73 : decode cX11_master 73 = .ok (.invokevirtual 170, 3) := by decide +kernel
theorem dX11_master_76 : decode cX11_master 76 = .ok (.if_icmp .le 6, 3) := by decide +kernel
theorem dX11_master_79 : decode cX11_master 79 = .ok (.iload 4, 2) := by decide +kernel
theorem dX11_master_81 : decode cX11_master 81 = .ok (.istore_n 2, 1) := by decide +kernel
theorem dX11_master_82 : decode cX11_master 82 = .ok (.iinc 4 1, 3) := by decide +kernel
theorem dX11_master_85 : decode cX11_master 85 = .ok (.goto (-51), 3) := by decide +kernel
theorem dX11_master_88 : decode cX11_master 88 = .ok (.aload_n 0, 1) := by decide +kernel
theorem dX11_master_89 : decode cX11_master 89 = .ok (.getfield 33, 3) := by decide +kernel
theorem dX11_master_92 : decode cX11_master 92 = .ok (.iload_n 2, 1) := by decide +kernel
theorem dX11_master_93 : decode cX11_master 93 = .ok (.iload_n 1, 1) := by decide +kernel
theorem dX11_master_94 : decode cX11_master 94 = .ok (.invokevirtual 170, 3) := by decide +kernel
theorem dX11_master_97 : decode cX11_master 97 = .ok (.istore 4, 2) := by decide +kernel
theorem dX11_master_99 : decode cX11_master 99 = .ok (.iconst 0, 1) := by decide +kernel
theorem dX11_master_100 : decode cX11_master 100 = .ok (.istore 5, 2) := by decide +kernel
theorem dX11_master_102 : decode cX11_master 102 = .ok (.iconst 0, 1) := by decide +kernel
theorem dX11_master_103 : decode cX11_master 103 = .ok (.istore 6, 2) := by decide +kernel
theorem dX11_master_105 : decode cX11_master 105 = .ok (.iload 6, 2) := by decide +kernel
theorem dX11_master_107 : decode cX11_master 107 = .ok (.aload_n 0, 1) := by decide +kernel
theorem dX11_master_108 : decode cX11_master 108 = .ok (.getfield 19, 3) := by decide +kernel
theorem dX11_master_111 : decode cX11_master 111 = .ok (.getfield 155, 3) := by decide +kernel
theorem dX11_master_114 : decode cX11_master 114 = .ok (.if_icmp .ge 33, 3) := by decide +kernel
theorem dX11_master_117 : decode cX11_master 117 = .ok (.aload_n 0, 1) := by decide +kernel
theorem dX11_master_118 : decode cX11_master 118 = .ok (.getfield 33, 3) := by decide +kernel
theorem dX11_master_121 : decode cX11_master 121 = .ok (.iload 6, 2) := by decide +kernel
theorem dX11_master_123 : decode cX11_master 123 = .ok (.iload_n 1, 1) := by decide +kernel
theorem dX11_master_124 : decode cX11_master 124 = .ok (.invokevirtual 170, 3) := by decide +kernel
theorem dX11_master_127 : decode cX11_master 127 = .ok (.iload 4, 2) := by decide +kernel
theorem dX11_master_129 : decode cX11_master 129 = .ok (.if_icmp .ne 12, 3) := by decide +kernel
theorem dX11_master_132 : decode cX11_master 132 = .ok (.iload 5, 2) := by decide +kernel
theorem dX11_master_134 : decode cX11_master 134 = .ok (.iconst 1, 1) := by decide +kernel
theorem dX11_master_135 : decode cX11_master 135 = .ok (.iload 6, 2) := by decide +kernel
theorem dX11_master_137 : decode cX11_master 137 = .ok (.ishl, 1) := by decide +kernel
theorem dX11_master_138 : decode cX11_master 138 = .ok (.ior, 1) := by decide +kernel
theorem dX11_master_139 : decode cX11_master 139 = .ok (.istore 5, 2) := by decide +kernel
theorem dX11_master_141 : decode cX11_master 141 = .ok (.iinc 6 1, 3) := by decide +kernel
theorem dX11_master_144 : decode cX11_master 144 = .ok (.goto (-39), 3) := by decide +kernel
theorem dX11_master_147 : decode cX11_master 147 = .ok (.aload_n 0, 1) := by decide +kernel
theorem dX11_master_148 : decode cX11_master 148 = .ok (.iload 4, 2) := by decide +kernel
theorem dX11_master_150 : decode cX11_master 150 = .ok (.i2l, 1) := by decide +kernel
theorem dX11_master_151 : decode cX11_master 151 = .ok (.iload 5, 2) := by decide +kernel
theorem dX11_master_153 : decode cX11_master 153 = .ok (.i2l, 1) := by decide +kernel
theorem dX11_master_154 : decode cX11_master 154 = .ok (.iload_n 3, 1) := by decide +kernel
theorem dX11_master_155 : decode cX11_master 155 = .ok (.i2l, 1) := by decide +kernel
theorem dX11_master_156 : decode cX11_master 156 = .ok (.invokevirtual 295, 3) := by decide +kernel
theorem dX11_master_159 : decode cX11_master 159 = .ok (.iload_n 2, 1) := by decide +kernel
theorem dX11_master_160 : decode cX11_master 160 = .ok (.ireturn, 1) := by decide +kernel
theorem dX11_table_0 : decode cX11_table 0 = .ok (.iconst 0, 1) := by decide +kernel
theorem dX11_table_1 : decode cX11_table 1 = .ok (.istore_n 1, 1) := by decide +kernel
theorem dX11_table_2 : decode cX11_table 2 = .ok (.iload_n 1, 1) := by decide +kernel
theorem dX11_table_3 : decode cX11_table 3 = .ok (.aload_n 0, 1) := by decide +kernel
theorem dX11_table_4 : decode cX11_table 4 = .ok (.getfield 19, 3) := by decide +kernel
theorem dX11_table_7 : decode cX11_table 7 = .ok (.getfield 155, 3) := by decide +kernel
theorem dX11_table_10 : decode cX11_table 10 = .ok (.if_icmp .ge 27, 3) := by decide +kernel
theorem dX11_table_13 : decode cX11_table 13 = .ok (.aload_n 0, 1) := by decide +kernel
theorem dX11_table_14 : decode cX11_table 14 = .ok (.getfield 80, 3) := by decide +kernel
theorem dX11_table_17 : decode cX11_table 17 = .ok (.iload_n 1, 1) := by decide +kernel
theorem dX11_table_18 : decode cX11_table 18 = .ok (.aload_n 0, 1) := by decide +kernel
theorem dX11_table_19 : decode cX11_table 19 = .ok (.getfield 19, 3) := by decide +kernel
theorem dX11_table_22 : decode cX11_table 22 = .ok (.aload_n 0, 1) := by decide +kernel
theorem dX11_table_23 : decode cX11_table 23 = .ok (.getfield 33, 3) := by decide +kernel
theorem dX11_table_26 : decode cX11_table 26 = .ok (.iload_n 1, 1) := by decide +kernel
theorem dX11_table_27 : decode cX11_table 27 = .ok (.invokevirtual 177, 3) := by decide +kernel
theorem dX11_table_30 : decode cX11_table 30 = .ok (.iastore, 1) := by decide +kernel
theorem dX11_table_31 : decode cX11_table 31 = .ok (.iinc 1 1, 3) := by decide +kernel
theorem dX11_table_34 : decode cX11_table 34 = .ok (.goto (-32), 3) := by decide +kernel
theorem dX11_table_37 : decode cX11_table 37 = .ok (.iconst 0, 1) := by decide +kernel
theorem dX11_table_38 : decode cX11_table 38 = .ok (.istore_n 1, 1) := by decide +kernel
theorem dX11_table_39 : decode cX11_table 39 = .ok (.iload_n 1, 1) := by decide +kernel
theorem dX11_table_40 : decode cX11_table 40 = .ok (.aload_n 0, 1) := by decide +kernel
theorem dX11_table_41 : decode cX11_table 41 = .ok (.getfield 19, 3) := by decide +kernel
theorem dX11_table_44 : decode cX11_table 44 = .ok (.getfield 155, 3) := by decide +kernel
theorem dX11_table_47 : decode cX11_table 47 = .ok (.if_icmp .ge 55, 3) := by decide +kernel
theorem dX11_table_50 : decode cX11_table 50 = .ok (.iconst 0, 1) := by decide +kernel
theorem dX11_table_51 : decode cX11_table 51 = .ok (.istore_n 2, 1) := by decide +kernel
theorem dX11_table_52 : decode cX11_table 52 = .ok (.iconst 0, 1) := by decide +kernel
theorem dX11_table_53 : decode cX11_table 53 = .ok (.istore_n 3, 1) := by decide +kernel
theorem dX11_table_54 : decode cX11_table 54 = .ok (.iload_n 3, 1) := by decide +kernel
theorem dX11_table_55 : decode cX11_table 55 = .ok (.aload_n 0, 1) := by decide +kernel
theorem dX11_table_56 : decode cX11_table 56 = .ok (.getfield 19, 3) := by decide +kernel
theorem dX11_table_59 : decode cX11_table 59 = .ok (.getfield 155, 3) := by decide +kernel
theorem dX11_table_62 : decode cX11_table 62 = .ok (.if_icmp .ge 26, 3) := by decide +kernel
theorem dX11_table_65 : decode cX11_table 65 = .ok (.iload_n 3, 1) := by decide +kernel
theorem dX11_table_66 : decode cX11_table 66 = .ok (.iload_n 1, 1) := by decide +kernel
theorem dX11_table_67 : decode cX11_table 67 = .ok (.if_icmp .eq 15, 3) := by decide +kernel
theorem dX11_table_70 : decode cX11_table 70 = .ok (.aload_n 0, 1) := by decide +kernel
theorem dX11_table_71 : decode cX11_table 71 = .ok (.iload_n 3, 1) := by decide +kernel
theorem dX11_table_72 : decode cX11_table 72 = .ok (.iload_n 1, 1) := by decide +kernel
theorem dX11_table_73 : decode cX11_table 73 = .ok (.invokevirtual 298, 3) := by decide +kernel
theorem dX11_table_76 : decode cX11_table 76 = .ok (.ifCond .eq 6, 3) := by decide +kernel
theorem dX11_table_79 : decode cX11_table 79 = .ok (.iinc 2 1, 3) := by decide +kernel
theorem dX11_table_82 : decode cX11_table 82 = .ok (.iinc 3 1, 3) := by decide +kernel
theorem dX11_table_85 : decode cX11_table 85 = .ok (.goto (-31), 3) := by decide +kernel
theorem dX11_table_88 : decode cX11_table 88 = .ok (.aload_n 0, 1) := by decide +kernel
theorem dX11_table_89 : decode cX11_table 89 = .ok (.getfield 83, 3) := by decide +kernel
theorem dX11_table_92 : decode cX11_table 92 = .ok (.iload_n 2, 1) := by decide +kernel
theorem dX11_table_93 : decode cX11_table 93 = .ok (.iload_n 1, 1) := by decide +kernel
theorem dX11_table_94 : decode cX11_table 94 = .ok (.i2l, 1) := by decide +kernel
theorem dX11_table_95 : decode cX11_table 95 = .ok (.lastore, 1) := by decide +kernel
theorem dX11_table_96 : decode cX11_table 96 = .ok (.iinc 1 1, 3) := by decide +kernel
theorem dX11_table_99 : decode cX11_table 99 = .ok (.goto (-60), 3) := by decide +kernel
theorem dX11_table_102 : decode cX11_table 102 = .ok (.aload_n 0, 1) := by decide +kernel
theorem dX11_table_103 : decode cX11_table 103 = .ok (.aload_n 0, 1) := by decide +kernel
theorem dX11_table_104 : decode cX11_table 104 = .ok (.getfield 19, 3) := by decide +kernel
theorem dX11_table_107 : decode cX11_table 107 = .ok (.getfield 155, 3) := by decide +kernel
theorem dX11_table_110 : decode cX11_table 110 = .ok (.putfield 87, 3) := by decide +kernel
theorem dX11_table_113 : decode cX11_table 113 = .ok (.aload_n 0, 1) := by decide +kernel
theorem dX11_table_114 : decode cX11_table 114 = .ok (.getfield 19, 3) := by decide +kernel
theorem dX11_table_117 : decode cX11_table 117 = .ok (.getfield 155, 3) := by decide +kernel
theorem dX11_table_120 : decode cX11_table 120 = .ok (.ireturn, 1) := by decide +kernel
theorem dX11_standsAhead_0 : decode cX11_standsAhead 0 = .ok (.aload_n 0, 1) := by decide +kernel
theorem dX11_standsAhead_1 : decode cX11_standsAhead 1 = .ok (.getfield 33, 3) := by decide +kernel
theorem dX11_standsAhead_4 : decode cX11_standsAhead 4 = .ok (.getfield 181, 3) := by decide +kernel
theorem dX11_standsAhead_7 : decode cX11_standsAhead 7 = .ok (.iload_n 1, 1) := by decide +kernel
theorem dX11_standsAhead_8 : decode cX11_standsAhead 8 = .ok (.iaload, 1) := by decide +kernel
theorem dX11_standsAhead_9 : decode cX11_standsAhead 9 = .ok (.aload_n 0, 1) := by decide +kernel
theorem dX11_standsAhead_10 : decode cX11_standsAhead 10 = .ok (.getfield 33, 3) := by decide +kernel
theorem dX11_standsAhead_13 : decode cX11_standsAhead 13 = .ok (.getfield 181, 3) := by decide +kernel
theorem dX11_standsAhead_16 : decode cX11_standsAhead 16 = .ok (.iload_n 2, 1) := by decide +kernel
theorem dX11_standsAhead_17 : decode cX11_standsAhead 17 = .ok (.iaload, 1) := by decide +kernel
theorem dX11_standsAhead_18 : decode cX11_standsAhead 18 = .ok (.if_icmp .eq 30, 3) := by decide +kernel
theorem dX11_standsAhead_21 : decode cX11_standsAhead 21 = .ok (.aload_n 0, 1) := by decide +kernel
theorem dX11_standsAhead_22 : decode cX11_standsAhead 22 = .ok (.getfield 33, 3) := by decide +kernel
theorem dX11_standsAhead_25 : decode cX11_standsAhead 25 = .ok (.getfield 181, 3) := by decide +kernel
theorem dX11_standsAhead_28 : decode cX11_standsAhead 28 = .ok (.iload_n 1, 1) := by decide +kernel
theorem dX11_standsAhead_29 : decode cX11_standsAhead 29 = .ok (.iaload, 1) := by decide +kernel
theorem dX11_standsAhead_30 : decode cX11_standsAhead 30 = .ok (.aload_n 0, 1) := by decide +kernel
theorem dX11_standsAhead_31 : decode cX11_standsAhead 31 = .ok (.getfield 33, 3) := by decide +kernel
theorem dX11_standsAhead_34 : decode cX11_standsAhead 34 = .ok (.getfield 181, 3) := by decide +kernel
theorem dX11_standsAhead_37 : decode cX11_standsAhead 37 = .ok (.iload_n 2, 1) := by decide +kernel
theorem dX11_standsAhead_38 : decode cX11_standsAhead 38 = .ok (.iaload, 1) := by decide +kernel
theorem dX11_standsAhead_39 : decode cX11_standsAhead 39 = .ok (.if_icmp .le 7, 3) := by decide +kernel
theorem dX11_standsAhead_42 : decode cX11_standsAhead 42 = .ok (.iconst 1, 1) := by decide +kernel
theorem dX11_standsAhead_43 : decode cX11_standsAhead 43 = .ok (.goto 4, 3) := by decide +kernel
theorem dX11_standsAhead_46 : decode cX11_standsAhead 46 = .ok (.iconst 0, 1) := by decide +kernel
theorem dX11_standsAhead_47 : decode cX11_standsAhead 47 = .ok (.ireturn, 1) := by decide +kernel
theorem dX11_standsAhead_48 : decode cX11_standsAhead 48 = .ok (.aload_n 0, 1) := by decide +kernel
theorem dX11_standsAhead_49 : decode cX11_standsAhead 49 = .ok (.getfield 80, 3) := by decide +kernel
theorem dX11_standsAhead_52 : decode cX11_standsAhead 52 = .ok (.iload_n 1, 1) := by decide +kernel
theorem dX11_standsAhead_53 : decode cX11_standsAhead 53 = .ok (.iaload, 1) := by decide +kernel
theorem dX11_standsAhead_54 : decode cX11_standsAhead 54 = .ok (.aload_n 0, 1) := by decide +kernel
theorem dX11_standsAhead_55 : decode cX11_standsAhead 55 = .ok (.getfield 80, 3) := by decide +kernel
theorem dX11_standsAhead_58 : decode cX11_standsAhead 58 = .ok (.iload_n 2, 1) := by decide +kernel
theorem dX11_standsAhead_59 : decode cX11_standsAhead 59 = .ok (.iaload, 1) := by decide +kernel
theorem dX11_standsAhead_60 : decode cX11_standsAhead 60 = .ok (.if_icmp .eq 24, 3) := by decide +kernel
theorem dX11_standsAhead_63 : decode cX11_standsAhead 63 = .ok (.aload_n 0, 1) := by decide +kernel
theorem dX11_standsAhead_64 : decode cX11_standsAhead 64 = .ok (.getfield 80, 3) := by decide +kernel
theorem dX11_standsAhead_67 : decode cX11_standsAhead 67 = .ok (.iload_n 1, 1) := by decide +kernel
theorem dX11_standsAhead_68 : decode cX11_standsAhead 68 = .ok (.iaload, 1) := by decide +kernel
theorem dX11_standsAhead_69 : decode cX11_standsAhead 69 = .ok (.aload_n 0, 1) := by decide +kernel
theorem dX11_standsAhead_70 : decode cX11_standsAhead 70 = .ok (.getfield 80, 3) := by decide +kernel
theorem dX11_standsAhead_73 : decode cX11_standsAhead 73 = .ok (.iload_n 2, 1) := by decide +kernel
theorem dX11_standsAhead_74 : decode cX11_standsAhead 74 = .ok (.iaload, 1) := by decide +kernel
theorem dX11_standsAhead_75 : decode cX11_standsAhead 75 = .ok (.if_icmp .le 7, 3) := by decide +kernel
theorem dX11_standsAhead_78 : decode cX11_standsAhead 78 = .ok (.iconst 1, 1) := by decide +kernel
theorem dX11_standsAhead_79 : decode cX11_standsAhead 79 = .ok (.goto 4, 3) := by decide +kernel
theorem dX11_standsAhead_82 : decode cX11_standsAhead 82 = .ok (.iconst 0, 1) := by decide +kernel
theorem dX11_standsAhead_83 : decode cX11_standsAhead 83 = .ok (.ireturn, 1) := by decide +kernel
theorem dX11_standsAhead_84 : decode cX11_standsAhead 84 = .ok (.iload_n 1, 1) := by decide +kernel
theorem dX11_standsAhead_85 : decode cX11_standsAhead 85 = .ok (.iload_n 2, 1) := by decide +kernel
theorem dX11_standsAhead_86 : decode cX11_standsAhead 86 = .ok (.if_icmp .ge 7, 3) := by decide +kernel
theorem dX11_standsAhead_89 : decode cX11_standsAhead 89 = .ok (.iconst 1, 1) := by decide +kernel
theorem dX11_standsAhead_90 : decode cX11_standsAhead 90 = .ok (.goto 4, 3) := by decide +kernel
theorem dX11_standsAhead_93 : decode cX11_standsAhead 93 = .ok (.iconst 0, 1) := by decide +kernel
theorem dX11_standsAhead_94 : decode cX11_standsAhead 94 = .ok (.ireturn, 1) := by decide +kernel
theorem dX11_spread_0 : decode cX11_spread 0 = .ok (.aload_n 0, 1) := by decide +kernel
theorem dX11_spread_1 : decode cX11_spread 1 = .ok (.getfield 19, 3) := by decide +kernel
theorem dX11_spread_4 : decode cX11_spread 4 = .ok (.getfield 155, 3) := by decide +kernel
theorem dX11_spread_7 : decode cX11_spread 7 = .ok (.ifCond .ne 10, 3) := by decide +kernel
theorem dX11_spread_10 : decode cX11_spread 10 = .ok (.aload_n 0, 1) := by decide +kernel
theorem dX11_spread_11 : decode cX11_spread 11 = .ok (.iconst 0, 1) := by decide +kernel
theorem dX11_spread_12 : decode cX11_spread 12 = .ok (.putfield 87, 3) := by decide +kernel
theorem dX11_spread_15 : decode cX11_spread 15 = .ok (.iconst 0, 1) := by decide +kernel
theorem dX11_spread_16 : decode cX11_spread 16 = .ok (.ireturn, 1) := by decide +kernel
theorem dX11_spread_17 : decode cX11_spread 17 = .ok (.aload_n 0, 1) := by decide +kernel
theorem dX11_spread_18 : decode cX11_spread 18 = .ok (.getfield 19, 3) := by decide +kernel
theorem dX11_spread_21 : decode cX11_spread 21 = .ok (.aload_n 0, 1) := by decide +kernel
theorem dX11_spread_22 : decode cX11_spread 22 = .ok (.getfield 33, 3) := by decide +kernel
theorem dX11_spread_25 : decode cX11_spread 25 = .ok (.invokevirtual 301, 3) := by decide +kernel
theorem dX11_spread_28 : decode cX11_spread 28 = .ok (.istore_n 1, 1) := by decide +kernel
theorem dX11_spread_29 : decode cX11_spread 29 = .ok (.aload_n 0, 1) := by decide +kernel
theorem dX11_spread_30 : decode cX11_spread 30 = .ok (.getfield 19, 3) := by decide +kernel
theorem dX11_spread_33 : decode cX11_spread 33 = .ok (.aload_n 0, 1) := by decide +kernel
theorem dX11_spread_34 : decode cX11_spread 34 = .ok (.getfield 33, 3) := by decide +kernel
theorem dX11_spread_37 : decode cX11_spread 37 = .ok (.invokevirtual 304, 3) := by decide +kernel
theorem dX11_spread_40 : decode cX11_spread 40 = .ok (.istore_n 2, 1) := by decide +kernel
theorem dX11_spread_41 : decode cX11_spread 41 = .ok (.aload_n 0, 1) := by decide +kernel
theorem dX11_spread_42 : decode cX11_spread 42 = .ok (.iload_n 1, 1) := by decide +kernel
theorem dX11_spread_43 : decode cX11_spread 43 = .ok (.i2l, 1) := by decide +kernel
theorem dX11_spread_44 : decode cX11_spread 44 = .ok (.iload_n 2, 1) := by decide +kernel
theorem dX11_spread_45 : decode cX11_spread 45 = .ok (.i2l, 1) := by decide +kernel
theorem dX11_spread_46 : decode cX11_spread 46 = .ok (.invokevirtual 239, 3) := by decide +kernel
theorem dX11_spread_49 : decode cX11_spread 49 = .ok (.aload_n 0, 1) := by decide +kernel
theorem dX11_spread_50 : decode cX11_spread 50 = .ok (.getfield 19, 3) := by decide +kernel
theorem dX11_spread_53 : decode cX11_spread 53 = .ok (.aload_n 0, 1) := by decide +kernel
theorem dX11_spread_54 : decode cX11_spread 54 = .ok (.getfield 33, 3) := by decide +kernel
theorem dX11_spread_57 : decode cX11_spread 57 = .ok (.iload_n 1, 1) := by decide +kernel
theorem dX11_spread_58 : decode cX11_spread 58 = .ok (.invokevirtual 177, 3) := by decide +kernel
theorem dX11_spread_61 : decode cX11_spread 61 = .ok (.aload_n 0, 1) := by decide +kernel
theorem dX11_spread_62 : decode cX11_spread 62 = .ok (.getfield 19, 3) := by decide +kernel
theorem dX11_spread_65 : decode cX11_spread 65 = .ok (.aload_n 0, 1) := by decide +kernel
theorem dX11_spread_66 : decode cX11_spread 66 = .ok (.getfield 33, 3) := by decide +kernel
theorem dX11_spread_69 : decode cX11_spread 69 = .ok (.iload_n 2, 1) := by decide +kernel
theorem dX11_spread_70 : decode cX11_spread 70 = .ok (.invokevirtual 177, 3) := by decide +kernel
theorem dX11_spread_73 : decode cX11_spread 73 = .ok (.isub, 1) := by decide +kernel
theorem dX11_spread_74 : decode cX11_spread 74 = .ok (.ireturn, 1) := by decide +kernel
theorem dX11_rest_0 : decode cX11_rest 0 = .ok (.aload_n 0, 1) := by decide +kernel
theorem dX11_rest_1 : decode cX11_rest 1 = .ok (.getfield 56, 3) := by decide +kernel
theorem dX11_rest_4 : decode cX11_rest 4 = .ok (.getfield 161, 3) := by decide +kernel
theorem dX11_rest_7 : decode cX11_rest 7 = .ok (.ifCond .ne 5, 3) := by decide +kernel
theorem dX11_rest_10 : decode cX11_rest 10 = .ok (.iconst (-1), 1) := by decide +kernel
theorem dX11_rest_11 : decode cX11_rest 11 = .ok (.ireturn, 1) := by decide +kernel
theorem dX11_rest_12 : decode cX11_rest 12 = .ok (.aload_n 0, 1) := by decide +kernel
theorem dX11_rest_13 : decode cX11_rest 13 = .ok (.getfield 105, 3) := by decide +kernel
theorem dX11_rest_16 : decode cX11_rest 16 = .ok (.aload_n 0, 1) := by decide +kernel
theorem dX11_rest_17 : decode cX11_rest 17 = .ok (.getfield 19, 3) := by decide +kernel
theorem dX11_rest_20 : decode cX11_rest 20 = .ok (.aload_n 0, 1) := by decide +kernel
theorem dX11_rest_21 : decode cX11_rest 21 = .ok (.getfield 56, 3) := by decide +kernel
theorem dX11_rest_24 : decode cX11_rest 24 = .ok (.aload_n 0, 1) := by decide +kernel
theorem dX11_rest_25 : decode cX11_rest 25 = .ok (.getfield 33, 3) := by decide +kernel
theorem dX11_rest_28 : decode cX11_rest 28 = .ok (.invokevirtual 307, 3) := by decide +kernel
theorem dX11_rest_31 : decode cX11_rest 31 = .ok (.ifCond .ne 6, 3) := by decide +kernel
theorem dX11_rest_34 : decode cX11_rest 34 = .ok (.bipush (-3), 2) := by decide +kernel
theorem dX11_rest_36 : decode cX11_rest 36 = .ok (.ireturn, 1) := by decide +kernel
theorem dX11_rest_37 : decode cX11_rest 37 = .ok (.aload_n 0, 1) := by decide +kernel
theorem dX11_rest_38 : decode cX11_rest 38 = .ok (.aload_n 0, 1) := by decide +kernel
theorem dX11_rest_39 : decode cX11_rest 39 = .ok (.getfield 105, 3) := by decide +kernel
theorem dX11_rest_42 : decode cX11_rest 42 = .ok (.getfield 311, 3) := by decide +kernel
theorem dX11_rest_45 : decode cX11_rest 45 = .ok (.i2l, 1) := by decide +kernel
theorem dX11_rest_46 : decode cX11_rest 46 = .ok (.aload_n 0, 1) := by decide +kernel
theorem dX11_rest_47 : decode cX11_rest 47 = .ok (.getfield 105, 3) := by decide +kernel
theorem dX11_rest_50 : decode cX11_rest 50 = .ok (.getfield 314, 3) := by decide +kernel
theorem dX11_rest_53 : decode cX11_rest 53 = .ok (.aload_n 0, 1) := by decide +kernel
theorem dX11_rest_54 : decode cX11_rest 54 = .ok (.getfield 105, 3) := by decide +kernel
theorem dX11_rest_57 : decode cX11_rest 57 = .ok (.getfield 318, 3) := by decide +kernel
theorem dX11_rest_60 : decode cX11_rest 60 = .ok (.invokevirtual 321, 3) := by decide +kernel
theorem dX11_rest_63 : decode cX11_rest 63 = .ok (.i2l, 1) := by decide +kernel
theorem dX11_rest_64 : decode cX11_rest 64 = .ok (.invokevirtual 239, 3) := by decide +kernel
theorem dX11_rest_67 : decode cX11_rest 67 = .ok (.aload_n 0, 1) := by decide +kernel
theorem dX11_rest_68 : decode cX11_rest 68 = .ok (.getfield 105, 3) := by decide +kernel
theorem dX11_rest_71 : decode cX11_rest 71 = .ok (.getfield 318, 3) := by decide +kernel
theorem dX11_rest_74 : decode cX11_rest 74 = .ok (.ireturn, 1) := by decide +kernel
theorem dX11_mean_0 : decode cX11_mean 0 = .ok (.aload_n 0, 1) := by decide +kernel
theorem dX11_mean_1 : decode cX11_mean 1 = .ok (.getfield 19, 3) := by decide +kernel
theorem dX11_mean_4 : decode cX11_mean 4 = .ok (.iload_n 1, 1) := by decide +kernel
theorem dX11_mean_5 : decode cX11_mean 5 = .ok (.invokevirtual 164, 3) := by decide +kernel
theorem dX11_mean_8 : decode cX11_mean 8 = .ok (.ifCond .eq 24, 3) := by decide +kernel
theorem dX11_mean_11 : decode cX11_mean 11 = .ok (.aload_n 0, 1) := by decide +kernel
theorem dX11_mean_12 : decode cX11_mean 12 = .ok (.getfield 19, 3) := by decide +kernel
theorem dX11_mean_15 : decode cX11_mean 15 = .ok (.iload_n 2, 1) := by decide +kernel
theorem dX11_mean_16 : decode cX11_mean 16 = .ok (.invokevirtual 167, 3) := by decide +kernel
theorem dX11_mean_19 : decode cX11_mean 19 = .ok (.ifCond .eq 13, 3) := by decide +kernel
theorem dX11_mean_22 : decode cX11_mean 22 = .ok (.aload_n 0, 1) := by decide +kernel
theorem dX11_mean_23 : decode cX11_mean 23 = .ok (.getfield 56, 3) := by decide +kernel
theorem dX11_mean_26 : decode cX11_mean 26 = .ok (.getfield 161, 3) := by decide +kernel
theorem dX11_mean_29 : decode cX11_mean 29 = .ok (.ifCond .ne 5, 3) := by decide +kernel
theorem dX11_mean_32 : decode cX11_mean 32 = .ok (.iconst (-1), 1) := by decide +kernel
theorem dX11_mean_33 : decode cX11_mean 33 = .ok (.ireturn, 1) := by decide +kernel
theorem dX11_mean_34 : decode cX11_mean 34 = .ok (.aload_n 0, 1) := by decide +kernel
theorem dX11_mean_35 : decode cX11_mean 35 = .ok (.getfield 105, 3) := by decide +kernel
theorem dX11_mean_38 : decode cX11_mean 38 = .ok (.aload_n 0, 1) := by decide +kernel
theorem dX11_mean_39 : decode cX11_mean 39 = .ok (.getfield 19, 3) := by decide +kernel
theorem dX11_mean_42 : decode cX11_mean 42 = .ok (.aload_n 0, 1) := by decide +kernel
theorem dX11_mean_43 : decode cX11_mean 43 = .ok (.getfield 56, 3) := by decide +kernel
theorem dX11_mean_46 : decode cX11_mean 46 = .ok (.aload_n 0, 1) := by decide +kernel
theorem dX11_mean_47 : decode cX11_mean 47 = .ok (.getfield 33, 3) := by decide +kernel
theorem dX11_mean_50 : decode cX11_mean 50 = .ok (.invokevirtual 307, 3) := by decide +kernel
theorem dX11_mean_53 : decode cX11_mean 53 = .ok (.ifCond .ne 6, 3) := by decide +kernel
theorem dX11_mean_56 : decode cX11_mean 56 = .ok (.bipush (-3), 2) := by decide +kernel
theorem dX11_mean_58 : decode cX11_mean 58 = .ok (.ireturn, 1) := by decide +kernel
theorem dX11_mean_59 : decode cX11_mean 59 = .ok (.aload_n 0, 1) := by decide +kernel
theorem dX11_mean_60 : decode cX11_mean 60 = .ok (.aload_n 0, 1) := by decide +kernel
theorem dX11_mean_61 : decode cX11_mean 61 = .ok (.getfield 105, 3) := by decide +kernel
theorem dX11_mean_64 : decode cX11_mean 64 = .ok (.iload_n 1, 1) := by decide +kernel
theorem dX11_mean_65 : decode cX11_mean 65 = .ok (.iload_n 2, 1) := by decide +kernel
theorem dX11_mean_66 : decode cX11_mean 66 = .ok (.invokevirtual 323, 3) := by decide +kernel
theorem dX11_mean_69 : decode cX11_mean 69 = .ok (.i2l, 1) := by decide +kernel
theorem dX11_mean_70 : decode cX11_mean 70 = .ok (.aload_n 0, 1) := by decide +kernel
theorem dX11_mean_71 : decode cX11_mean 71 = .ok (.getfield 105, 3) := by decide +kernel
theorem dX11_mean_74 : decode cX11_mean 74 = .ok (.getfield 311, 3) := by decide +kernel
theorem dX11_mean_77 : decode cX11_mean 77 = .ok (.i2l, 1) := by decide +kernel
theorem dX11_mean_78 : decode cX11_mean 78 = .ok (.invokevirtual 326, 3) := by decide +kernel
theorem dX11_mean_81 : decode cX11_mean 81 = .ok (.iconst 0, 1) := by decide +kernel
theorem dX11_mean_82 : decode cX11_mean 82 = .ok (.ireturn, 1) := by decide +kernel
theorem dX11_soon_0 : decode cX11_soon 0 = .ok (.aload_n 0, 1) := by decide +kernel
theorem dX11_soon_1 : decode cX11_soon 1 = .ok (.getfield 19, 3) := by decide +kernel
theorem dX11_soon_4 : decode cX11_soon 4 = .ok (.iload_n 1, 1) := by decide +kernel
theorem dX11_soon_5 : decode cX11_soon 5 = .ok (.invokevirtual 164, 3) := by decide +kernel
theorem dX11_soon_8 : decode cX11_soon 8 = .ok (.ifCond .eq 34, 3) := by decide +kernel
theorem dX11_soon_11 : decode cX11_soon 11 = .ok (.aload_n 0, 1) := by decide +kernel
theorem dX11_soon_12 : decode cX11_soon 12 = .ok (.getfield 19, 3) := by decide +kernel
theorem dX11_soon_15 : decode cX11_soon 15 = .ok (.iload_n 2, 1) := by decide +kernel
theorem dX11_soon_16 : decode cX11_soon 16 = .ok (.invokevirtual 167, 3) := by decide +kernel
theorem dX11_soon_19 : decode cX11_soon 19 = .ok (.ifCond .eq 23, 3) := by decide +kernel
theorem dX11_soon_22 : decode cX11_soon 22 = .ok (.iload_n 3, 1) := by decide +kernel
theorem dX11_soon_23 : decode cX11_soon 23 = .ok (.ifCond .lt 19, 3) := by decide +kernel
theorem dX11_soon_26 : decode cX11_soon 26 = .ok (.iload_n 3, 1) := by decide +kernel
theorem dX11_soon_27 : decode cX11_soon 27 = .ok (.bipush 7, 2) := by decide +kernel
theorem dX11_soon_29 : decode cX11_soon 29 = .ok (.if_icmp .gt 13, 3) := by decide +kernel
theorem dX11_soon_32 : decode cX11_soon 32 = .ok (.aload_n 0, 1) := by decide +kernel
theorem dX11_soon_33 : decode cX11_soon 33 = .ok (.getfield 56, 3) := by decide +kernel
theorem dX11_soon_36 : decode cX11_soon 36 = .ok (.getfield 161, 3) := by decide +kernel
theorem dX11_soon_39 : decode cX11_soon 39 = .ok (.ifCond .ne 5, 3) := by decide +kernel
theorem dX11_soon_42 : decode cX11_soon 42 = .ok (.iconst (-1), 1) := by decide +kernel
theorem dX11_soon_43 : decode cX11_soon 43 = .ok (.ireturn, 1) := by decide +kernel
theorem dX11_soon_44 : decode cX11_soon 44 = .ok (.aload_n 0, 1) := by decide +kernel
theorem dX11_soon_45 : decode cX11_soon 45 = .ok (.getfield 105, 3) := by decide +kernel
theorem dX11_soon_48 : decode cX11_soon 48 = .ok (.aload_n 0, 1) := by decide +kernel
theorem dX11_soon_49 : decode cX11_soon 49 = .ok (.getfield 19, 3) := by decide +kernel
theorem dX11_soon_52 : decode cX11_soon 52 = .ok (.aload_n 0, 1) := by decide +kernel
theorem dX11_soon_53 : decode cX11_soon 53 = .ok (.getfield 56, 3) := by decide +kernel
theorem dX11_soon_56 : decode cX11_soon 56 = .ok (.aload_n 0, 1) := by decide +kernel
theorem dX11_soon_57 : decode cX11_soon 57 = .ok (.getfield 33, 3) := by decide +kernel
theorem dX11_soon_60 : decode cX11_soon 60 = .ok (.invokevirtual 307, 3) := by decide +kernel
theorem dX11_soon_63 : decode cX11_soon 63 = .ok (.istore 4, 2) := by decide +kernel
theorem dX11_soon_65 : decode cX11_soon 65 = .ok (.aload_n 0, 1) := by decide +kernel
theorem dX11_soon_66 : decode cX11_soon 66 = .ok (.getfield 105, 3) := by decide +kernel
theorem dX11_soon_69 : decode cX11_soon 69 = .ok (.getfield 314, 3) := by decide +kernel
theorem dX11_soon_72 : decode cX11_soon 72 = .ok (.iload_n 1, 1) := by decide +kernel
theorem dX11_soon_73 : decode cX11_soon 73 = .ok (.iload_n 2, 1) := by decide +kernel
theorem dX11_soon_74 : decode cX11_soon 74 = .ok (.iload_n 3, 1) := by decide +kernel
theorem dX11_soon_75 : decode cX11_soon 75 = .ok (.invokevirtual 329, 3) := by decide +kernel
theorem dX11_soon_78 : decode cX11_soon 78 = .ok (.istore 5, 2) := by decide +kernel
theorem dX11_soon_80 : decode cX11_soon 80 = .ok (.iload 5, 2) := by decide +kernel
theorem dX11_soon_82 : decode cX11_soon 82 = .ok (.ifCond .lt 8, 3) := by decide +kernel
theorem dX11_soon_85 : decode cX11_soon 85 = .ok (.iload 5, 2) := by decide +kernel
theorem dX11_soon_87 : decode cX11_soon 87 = .ok (.goto 15, 3) := by decide +kernel
theorem dX11_soon_90 : decode cX11_soon 90 = .ok (.iload 4, 2) := by decide +kernel
theorem dX11_soon_92 : decode cX11_soon 92 = .ok (.ifCond .eq 8, 3) := by decide +kernel
theorem dX11_soon_95 : decode cX11_soon 95 = .ok (.bipush (-2), 2) := by decide +kernel
theorem dX11_soon_97 : decode cX11_soon 97 = .ok (.goto 5, 3) := by decide +kernel
theorem dX11_soon_100 : decode cX11_soon 100 = .ok (.bipush (-3), 2) := by decide +kernel
theorem dX11_soon_102 : decode cX11_soon 102 = .ok (.ireturn, 1) := by decide +kernel
theorem dX11_wins_0 : decode cX11_wins 0 = .ok (.aload_n 0, 1) := by decide +kernel
theorem dX11_wins_1 : decode cX11_wins 1 = .ok (.getfield 19, 3) := by decide +kernel
theorem dX11_wins_4 : decode cX11_wins 4 = .ok (.iload_n 1, 1) := by decide +kernel
theorem dX11_wins_5 : decode cX11_wins 5 = .ok (.invokevirtual 164, 3) := by decide +kernel
theorem dX11_wins_8 : decode cX11_wins 8 = .ok (.ifCond .eq 33, 3) := by decide +kernel
theorem dX11_wins_11 : decode cX11_wins 11 = .ok (.iload_n 2, 1) := by decide +kernel
theorem dX11_wins_12 : decode cX11_wins 12 = .ok (.iconst 1, 1) := by decide +kernel
theorem dX11_wins_13 : decode cX11_wins 13 = .ok (.if_icmp .lt 28, 3) := by decide +kernel
theorem dX11_wins_16 : decode cX11_wins 16 = .ok (.iload_n 2, 1) := by decide +kernel
theorem dX11_wins_17 : decode cX11_wins 17 = .ok (.bipush 6, 2) := by decide +kernel
theorem dX11_wins_19 : decode cX11_wins 19 = .ok (.if_icmp .gt 22, 3) := by decide +kernel
theorem dX11_wins_22 : decode cX11_wins 22 = .ok (.iload_n 3, 1) := by decide +kernel
theorem dX11_wins_23 : decode cX11_wins 23 = .ok (.ifCond .lt 18, 3) := by decide +kernel
theorem dX11_wins_26 : decode cX11_wins 26 = .ok (.iload_n 3, 1) := by decide +kernel
theorem dX11_wins_27 : decode cX11_wins 27 = .ok (.iload_n 2, 1) := by decide +kernel
theorem dX11_wins_28 : decode cX11_wins 28 = .ok (.if_icmp .gt 13, 3) := by decide +kernel
theorem dX11_wins_31 : decode cX11_wins 31 = .ok (.aload_n 0, 1) := by decide +kernel
theorem dX11_wins_32 : decode cX11_wins 32 = .ok (.getfield 56, 3) := by decide +kernel
theorem dX11_wins_35 : decode cX11_wins 35 = .ok (.getfield 161, 3) := by decide +kernel
theorem dX11_wins_38 : decode cX11_wins 38 = .ok (.ifCond .ne 5, 3) := by decide +kernel
theorem dX11_wins_41 : decode cX11_wins 41 = .ok (.iconst (-1), 1) := by decide +kernel
theorem dX11_wins_42 : decode cX11_wins 42 = .ok (.ireturn, 1) := by decide +kernel
theorem dX11_wins_43 : decode cX11_wins 43 = .ok (.lconst 0, 1) := by decide +kernel
theorem dX11_wins_44 : decode cX11_wins 44 = .ok (.lstore 4, 2) := by decide +kernel
theorem dX11_wins_46 : decode cX11_wins 46 = .ok (.iconst 0, 1) := by decide +kernel
theorem dX11_wins_47 : decode cX11_wins 47 = .ok (.istore 6, 2) := by decide +kernel
theorem dX11_wins_49 : decode cX11_wins 49 = .ok (.iload 6, 2) := by decide +kernel
theorem dX11_wins_51 : decode cX11_wins 51 = .ok (.iconst 1, 1) := by decide +kernel
theorem dX11_wins_52 : decode cX11_wins 52 = .ok (.iload_n 2, 1) := by decide +kernel
theorem dX11_wins_53 : decode cX11_wins 53 = .ok (.ishl, 1) := by decide +kernel
theorem dX11_wins_54 : decode cX11_wins 54 = .ok (.if_icmp .ge 61, 3) := by decide +kernel
theorem dX11_wins_57 : decode cX11_wins 57 = .ok (.aload_n 0, 1) := by decide +kernel
theorem dX11_wins_58 : decode cX11_wins 58 = .ok (.getfield 105, 3) := by decide +kernel
theorem dX11_wins_61 : decode cX11_wins 61 = .ok (.aload_n 0, 1) := by decide +kernel
theorem dX11_wins_62 : decode cX11_wins 62 = .ok (.getfield 19, 3) := by decide +kernel
theorem dX11_wins_65 : decode cX11_wins 65 = .ok (.aload_n 0, 1) := by decide +kernel
theorem dX11_wins_66 : decode cX11_wins 66 = .ok (.getfield 56, 3) := by decide +kernel
theorem dX11_wins_69 : decode cX11_wins 69 = .ok (.aload_n 0, 1) := by decide +kernel
theorem dX11_wins_70 : decode cX11_wins 70 = .ok (.getfield 33, 3) := by decide +kernel
theorem dX11_wins_73 : decode cX11_wins 73 = .ok (.iload_n 2, 1) := by decide +kernel
theorem dX11_wins_74 : decode cX11_wins 74 = .ok (.iload 6, 2) := by decide +kernel
theorem dX11_wins_76 : decode cX11_wins 76 = .ok (.invokevirtual 332, 3) := by decide +kernel
theorem dX11_wins_79 : decode cX11_wins 79 = .ok (.lconst 0, 1) := by decide +kernel
theorem dX11_wins_80 : decode cX11_wins 80 = .ok (.lcmp, 1) := by decide +kernel
theorem dX11_wins_81 : decode cX11_wins 81 = .ok (.ifCond .le 28, 3) := by decide +kernel
theorem dX11_wins_84 : decode cX11_wins 84 = .ok (.aload_n 0, 1) := by decide +kernel
theorem dX11_wins_85 : decode cX11_wins 85 = .ok (.getfield 105, 3) := by decide +kernel
theorem dX11_wins_88 : decode cX11_wins 88 = .ok (.getfield 336, 3) := by decide +kernel
theorem dX11_wins_91 : decode cX11_wins 91 = .ok (.iload_n 1, 1) := by decide +kernel
theorem dX11_wins_92 : decode cX11_wins 92 = .ok (.iaload, 1) := by decide +kernel
theorem dX11_wins_93 : decode cX11_wins 93 = .ok (.iload_n 3, 1) := by decide +kernel
theorem dX11_wins_94 : decode cX11_wins 94 = .ok (.if_icmp .ne 15, 3) := by decide +kernel
theorem dX11_wins_97 : decode cX11_wins 97 = .ok (.lload 4, 2) := by decide +kernel
theorem dX11_wins_99 : decode cX11_wins 99 = .ok (.aload_n 0, 1) := by decide +kernel
theorem dX11_wins_100 : decode cX11_wins 100 = .ok (.getfield 105, 3) := by decide +kernel
theorem dX11_wins_103 : decode cX11_wins 103 = .ok (.getfield 339, 3) := by decide +kernel
theorem dX11_wins_106 : decode cX11_wins 106 = .ok (.ladd, 1) := by decide +kernel
theorem dX11_wins_107 : decode cX11_wins 107 = .ok (.lstore 4, 2) := by decide +kernel
theorem dX11_wins_109 : decode cX11_wins 109 = .ok (.iinc 6 1, 3) := by decide +kernel
theorem dX11_wins_112 : decode cX11_wins 112 = .ok (.goto (-63), 3) := by decide +kernel
theorem dX11_wins_115 : decode cX11_wins 115 = .ok (.aload_n 0, 1) := by decide +kernel
theorem dX11_wins_116 : decode cX11_wins 116 = .ok (.lload 4, 2) := by decide +kernel
theorem dX11_wins_118 : decode cX11_wins 118 = .ok (.iload_n 2, 1) := by decide +kernel
theorem dX11_wins_119 : decode cX11_wins 119 = .ok (.invokestatic 343, 3) := by decide +kernel
theorem dX11_wins_122 : decode cX11_wins 122 = .ok (.invokevirtual 326, 3) := by decide +kernel
theorem dX11_wins_125 : decode cX11_wins 125 = .ok (.iconst 0, 1) := by decide +kernel
theorem dX11_wins_126 : decode cX11_wins 126 = .ok (.ireturn, 1) := by decide +kernel
theorem dX11_hopes_0 : decode cX11_hopes 0 = .ok (.iload_n 1, 1) := by decide +kernel
theorem dX11_hopes_1 : decode cX11_hopes 1 = .ok (.iconst 1, 1) := by decide +kernel
theorem dX11_hopes_2 : decode cX11_hopes 2 = .ok (.if_icmp .lt 19, 3) := by decide +kernel
theorem dX11_hopes_5 : decode cX11_hopes 5 = .ok (.iload_n 1, 1) := by decide +kernel
theorem dX11_hopes_6 : decode cX11_hopes 6 = .ok (.bipush 6, 2) := by decide +kernel
theorem dX11_hopes_8 : decode cX11_hopes 8 = .ok (.if_icmp .gt 13, 3) := by decide +kernel
theorem dX11_hopes_11 : decode cX11_hopes 11 = .ok (.aload_n 0, 1) := by decide +kernel
theorem dX11_hopes_12 : decode cX11_hopes 12 = .ok (.getfield 56, 3) := by decide +kernel
theorem dX11_hopes_15 : decode cX11_hopes 15 = .ok (.getfield 161, 3) := by decide +kernel
theorem dX11_hopes_18 : decode cX11_hopes 18 = .ok (.ifCond .ne 5, 3) := by decide +kernel
theorem dX11_hopes_21 : decode cX11_hopes 21 = .ok (.iconst (-1), 1) := by decide +kernel
theorem dX11_hopes_22 : decode cX11_hopes 22 = .ok (.ireturn, 1) := by decide +kernel
theorem dX11_hopes_23 : decode cX11_hopes 23 = .ok (.lconst 0, 1) := by decide +kernel
theorem dX11_hopes_24 : decode cX11_hopes 24 = .ok (.lstore_n 2, 1) := by decide +kernel
theorem dX11_hopes_25 : decode cX11_hopes 25 = .ok (.sipush 224, 3) := by decide +kernel
theorem dX11_hopes_28 : decode cX11_hopes 28 = .ok (.istore 4, 2) := by decide +kernel
theorem dX11_hopes_30 : decode cX11_hopes 30 = .ok (.iconst 0, 1) := by decide +kernel
theorem dX11_hopes_31 : decode cX11_hopes 31 = .ok (.istore 5, 2) := by decide +kernel
theorem dX11_hopes_33 : decode cX11_hopes 33 = .ok (.iconst 0, 1) := by decide +kernel
theorem dX11_hopes_34 : decode cX11_hopes 34 = .ok (.istore 6, 2) := by decide +kernel
theorem dX11_hopes_36 : decode cX11_hopes 36 = .ok (.iload 6, 2) := by decide +kernel
theorem dX11_hopes_38 : decode cX11_hopes 38 = .ok (.iconst 1, 1) := by decide +kernel
theorem dX11_hopes_39 : decode cX11_hopes 39 = .ok (.iload_n 1, 1) := by decide +kernel
theorem dX11_hopes_40 : decode cX11_hopes 40 = .ok (.ishl, 1) := by decide +kernel
theorem dX11_hopes_41 : decode cX11_hopes 41 = .ok (.if_icmp .ge 84, 3) := by decide +kernel
theorem dX11_hopes_44 : decode cX11_hopes 44 = .ok (.aload_n 0, 1) := by decide +kernel
theorem dX11_hopes_45 : decode cX11_hopes 45 = .ok (.getfield 105, 3) := by decide +kernel
theorem dX11_hopes_48 : decode cX11_hopes 48 = .ok (.aload_n 0, 1) := by decide +kernel
theorem dX11_hopes_49 : decode cX11_hopes 49 = .ok (.getfield 19, 3) := by decide +kernel
theorem dX11_hopes_52 : decode cX11_hopes 52 = .ok (.aload_n 0, 1) := by decide +kernel
theorem dX11_hopes_53 : decode cX11_hopes 53 = .ok (.getfield 56, 3) := by decide +kernel
theorem dX11_hopes_56 : decode cX11_hopes 56 = .ok (.aload_n 0, 1) := by decide +kernel
theorem dX11_hopes_57 : decode cX11_hopes 57 = .ok (.getfield 33, 3) := by decide +kernel
theorem dX11_hopes_60 : decode cX11_hopes 60 = .ok (.iload_n 1, 1) := by decide +kernel
theorem dX11_hopes_61 : decode cX11_hopes 61 = .ok (.iload 6, 2) := by decide +kernel
theorem dX11_hopes_63 : decode cX11_hopes 63 = .ok (.invokevirtual 332, 3) := by decide +kernel
theorem dX11_hopes_66 : decode cX11_hopes 66 = .ok (.lconst 0, 1) := by decide +kernel
theorem dX11_hopes_67 : decode cX11_hopes 67 = .ok (.lcmp, 1) := by decide +kernel
theorem dX11_hopes_68 : decode cX11_hopes 68 = .ok (.ifCond .le 51, 3) := by decide +kernel
theorem dX11_hopes_71 : decode cX11_hopes 71 = .ok (.aload_n 0, 1) := by decide +kernel
theorem dX11_hopes_72 : decode cX11_hopes 72 = .ok (.getfield 19, 3) := by decide +kernel
theorem dX11_hopes_75 : decode cX11_hopes 75 = .ok (.aload_n 0, 1) := by decide +kernel
theorem dX11_hopes_76 : decode cX11_hopes 76 = .ok (.getfield 105, 3) := by decide +kernel
theorem dX11_hopes_79 : decode cX11_hopes 79 = .ok (.getfield 347, 3) := by decide +kernel
theorem dX11_hopes_82 : decode cX11_hopes 82 = .ok (.invokevirtual 263, 3) := by decide +kernel
theorem dX11_hopes_85 : decode cX11_hopes 85 = .ok (.istore 7, 2) := by decide +kernel
theorem dX11_hopes_87 : decode cX11_hopes 87 = .ok (.lload_n 2, 1) := by decide +kernel
theorem dX11_hopes_88 : decode cX11_hopes 88 = .ok (.aload_n 0, 1) := by decide +kernel
theorem dX11_hopes_89 : decode cX11_hopes 89 = .ok (.getfield 105, 3) := by decide +kernel
theorem dX11_hopes_92 : decode cX11_hopes 92 = .ok (.getfield 339, 3) := by decide +kernel
theorem dX11_hopes_95 : decode cX11_hopes 95 = .ok (.iload 7, 2) := by decide +kernel
theorem dX11_hopes_97 : decode cX11_hopes 97 = .ok (.i2l, 1) := by decide +kernel
theorem dX11_hopes_98 : decode cX11_hopes 98 = .ok (.lmul, 1) := by decide +kernel
theorem dX11_hopes_99 : decode cX11_hopes 99 = .ok (.ladd, 1) := by decide +kernel
theorem dX11_hopes_100 : decode cX11_hopes 100 = .ok (.lstore_n 2, 1) := by decide +kernel
theorem dX11_hopes_101 : decode cX11_hopes 101 = .ok (.iload 4, 2) := by decide +kernel
theorem dX11_hopes_103 : decode cX11_hopes 103 = .ok (.iload 7, 2) := by decide +kernel
theorem dX11_hopes_105 : decode cX11_hopes 105 = .ok (.invokestatic 290, 3) := by decide +kernel
theorem dX11_hopes_108 : decode cX11_hopes 108 = .ok (.istore 4, 2) := by decide +kernel
theorem dX11_hopes_110 : decode cX11_hopes 110 = .ok (.iload 5, 2) := by decide +kernel
theorem dX11_hopes_112 : decode cX11_hopes 112 = .ok (.iload 7, 2) := by decide +kernel
theorem dX11_hopes_114 : decode cX11_hopes 114 = .ok (.invokestatic 350, 3) := by decide +kernel
theorem dX11_hopes_117 : decode cX11_hopes 117 = .ok (.istore 5, 2) := by decide +kernel
theorem dX11_hopes_119 : decode cX11_hopes 119 = .ok (.iinc 6 1, 3) := by decide +kernel
theorem dX11_hopes_122 : decode cX11_hopes 122 = .ok (.goto (-86), 3) := by decide +kernel
theorem dX11_hopes_125 : decode cX11_hopes 125 = .ok (.aload_n 0, 1) := by decide +kernel
theorem dX11_hopes_126 : decode cX11_hopes 126 = .ok (.lload_n 2, 1) := by decide +kernel
theorem dX11_hopes_127 : decode cX11_hopes 127 = .ok (.iload_n 1, 1) := by decide +kernel
theorem dX11_hopes_128 : decode cX11_hopes 128 = .ok (.invokestatic 343, 3) := by decide +kernel
theorem dX11_hopes_131 : decode cX11_hopes 131 = .ok (.invokevirtual 326, 3) := by decide +kernel
theorem dX11_hopes_134 : decode cX11_hopes 134 = .ok (.aload_n 0, 1) := by decide +kernel
theorem dX11_hopes_135 : decode cX11_hopes 135 = .ok (.getfield 83, 3) := by decide +kernel
theorem dX11_hopes_138 : decode cX11_hopes 138 = .ok (.iconst 2, 1) := by decide +kernel
theorem dX11_hopes_139 : decode cX11_hopes 139 = .ok (.iload 4, 2) := by decide +kernel
theorem dX11_hopes_141 : decode cX11_hopes 141 = .ok (.i2l, 1) := by decide +kernel
theorem dX11_hopes_142 : decode cX11_hopes 142 = .ok (.lastore, 1) := by decide +kernel
theorem dX11_hopes_143 : decode cX11_hopes 143 = .ok (.aload_n 0, 1) := by decide +kernel
theorem dX11_hopes_144 : decode cX11_hopes 144 = .ok (.getfield 83, 3) := by decide +kernel
theorem dX11_hopes_147 : decode cX11_hopes 147 = .ok (.iconst 3, 1) := by decide +kernel
theorem dX11_hopes_148 : decode cX11_hopes 148 = .ok (.iload 5, 2) := by decide +kernel
theorem dX11_hopes_150 : decode cX11_hopes 150 = .ok (.i2l, 1) := by decide +kernel
theorem dX11_hopes_151 : decode cX11_hopes 151 = .ok (.lastore, 1) := by decide +kernel
theorem dX11_hopes_152 : decode cX11_hopes 152 = .ok (.aload_n 0, 1) := by decide +kernel
theorem dX11_hopes_153 : decode cX11_hopes 153 = .ok (.iconst 4, 1) := by decide +kernel
theorem dX11_hopes_154 : decode cX11_hopes 154 = .ok (.putfield 87, 3) := by decide +kernel
theorem dX11_hopes_157 : decode cX11_hopes 157 = .ok (.iconst 0, 1) := by decide +kernel
theorem dX11_hopes_158 : decode cX11_hopes 158 = .ok (.ireturn, 1) := by decide +kernel
theorem dX11_allChances_0 : decode cX11_allChances 0 = .ok (.lconst 1, 1) := by decide +kernel
theorem dX11_allChances_1 : decode cX11_allChances 1 = .ok (.lstore_n 1, 1) := by decide +kernel
theorem dX11_allChances_2 : decode cX11_allChances 2 = .ok (.iconst 0, 1) := by decide +kernel
theorem dX11_allChances_3 : decode cX11_allChances 3 = .ok (.istore_n 3, 1) := by decide +kernel
theorem dX11_allChances_4 : decode cX11_allChances 4 = .ok (.iload_n 3, 1) := by decide +kernel
theorem dX11_allChances_5 : decode cX11_allChances 5 = .ok (.iload_n 0, 1) := by decide +kernel
theorem dX11_allChances_6 : decode cX11_allChances 6 = .ok (.if_icmp .ge 15, 3) := by decide +kernel
theorem dX11_allChances_9 : decode cX11_allChances 9 = .ok (.lload_n 1, 1) := by decide +kernel
theorem dX11_allChances_10 : decode cX11_allChances 10 = .ok (.ldc2_w 353, 3) := by decide +kernel
theorem dX11_allChances_13 : decode cX11_allChances 13 = .ok (.lmul, 1) := by decide +kernel
theorem dX11_allChances_14 : decode cX11_allChances 14 = .ok (.lstore_n 1, 1) := by decide +kernel
theorem dX11_allChances_15 : decode cX11_allChances 15 = .ok (.iinc 3 1, 3) := by decide +kernel
theorem dX11_allChances_18 : decode cX11_allChances 18 = .ok (.goto (-14), 3) := by decide +kernel
theorem dX11_allChances_21 : decode cX11_allChances 21 = .ok (.lload_n 1, 1) := by decide +kernel
theorem dX11_allChances_22 : decode cX11_allChances 22 = .ok (.lreturn, 1) := by decide +kernel
theorem dX11_top_0 : decode cX11_top 0 = .ok (.aload_n 0, 1) := by decide +kernel
theorem dX11_top_1 : decode cX11_top 1 = .ok (.getfield 19, 3) := by decide +kernel
theorem dX11_top_4 : decode cX11_top 4 = .ok (.iload_n 1, 1) := by decide +kernel
theorem dX11_top_5 : decode cX11_top 5 = .ok (.invokevirtual 164, 3) := by decide +kernel
theorem dX11_top_8 : decode cX11_top 8 = .ok (.ifCond .eq 24, 3) := by decide +kernel
theorem dX11_top_11 : decode cX11_top 11 = .ok (.aload_n 0, 1) := by decide +kernel
theorem dX11_top_12 : decode cX11_top 12 = .ok (.getfield 19, 3) := by decide +kernel
theorem dX11_top_15 : decode cX11_top 15 = .ok (.iload_n 2, 1) := by decide +kernel
theorem dX11_top_16 : decode cX11_top 16 = .ok (.invokevirtual 167, 3) := by decide +kernel
theorem dX11_top_19 : decode cX11_top 19 = .ok (.ifCond .eq 13, 3) := by decide +kernel
theorem dX11_top_22 : decode cX11_top 22 = .ok (.iload_n 3, 1) := by decide +kernel
theorem dX11_top_23 : decode cX11_top 23 = .ok (.ifCond .lt 9, 3) := by decide +kernel
theorem dX11_top_26 : decode cX11_top 26 = .ok (.iload_n 3, 1) := by decide +kernel
theorem dX11_top_27 : decode cX11_top 27 = .ok (.bipush 7, 2) := by decide +kernel
theorem dX11_top_29 : decode cX11_top 29 = .ok (.if_icmp .le 5, 3) := by decide +kernel
theorem dX11_top_32 : decode cX11_top 32 = .ok (.iconst (-1), 1) := by decide +kernel
theorem dX11_top_33 : decode cX11_top 33 = .ok (.ireturn, 1) := by decide +kernel
theorem dX11_top_34 : decode cX11_top 34 = .ok (.aload_n 0, 1) := by decide +kernel
theorem dX11_top_35 : decode cX11_top 35 = .ok (.getfield 98, 3) := by decide +kernel
theorem dX11_top_38 : decode cX11_top 38 = .ok (.aload_n 0, 1) := by decide +kernel
theorem dX11_top_39 : decode cX11_top 39 = .ok (.getfield 19, 3) := by decide +kernel
theorem dX11_top_42 : decode cX11_top 42 = .ok (.aload_n 0, 1) := by decide +kernel
theorem dX11_top_43 : decode cX11_top 43 = .ok (.getfield 33, 3) := by decide +kernel
theorem dX11_top_46 : decode cX11_top 46 = .ok (.sipush 3000, 3) := by decide +kernel
theorem dX11_top_49 : decode cX11_top 49 = .ok (.invokevirtual 355, 3) := by decide +kernel
theorem dX11_top_52 : decode cX11_top 52 = .ok (.ifCond .ne 6, 3) := by decide +kernel
theorem dX11_top_55 : decode cX11_top 55 = .ok (.bipush (-3), 2) := by decide +kernel
theorem dX11_top_57 : decode cX11_top 57 = .ok (.ireturn, 1) := by decide +kernel
theorem dX11_top_58 : decode cX11_top 58 = .ok (.aload_n 0, 1) := by decide +kernel
theorem dX11_top_59 : decode cX11_top 59 = .ok (.aload_n 0, 1) := by decide +kernel
theorem dX11_top_60 : decode cX11_top 60 = .ok (.getfield 98, 3) := by decide +kernel
theorem dX11_top_63 : decode cX11_top 63 = .ok (.getfield 359, 3) := by decide +kernel
theorem dX11_top_66 : decode cX11_top 66 = .ok (.iload_n 1, 1) := by decide +kernel
theorem dX11_top_67 : decode cX11_top 67 = .ok (.iload_n 2, 1) := by decide +kernel
theorem dX11_top_68 : decode cX11_top 68 = .ok (.iload_n 3, 1) := by decide +kernel
theorem dX11_top_69 : decode cX11_top 69 = .ok (.invokevirtual 329, 3) := by decide +kernel
theorem dX11_top_72 : decode cX11_top 72 = .ok (.invokevirtual 360, 3) := by decide +kernel
theorem dX11_top_75 : decode cX11_top 75 = .ok (.ireturn, 1) := by decide +kernel
theorem dX11_quick_0 : decode cX11_quick 0 = .ok (.aload_n 0, 1) := by decide +kernel
theorem dX11_quick_1 : decode cX11_quick 1 = .ok (.getfield 98, 3) := by decide +kernel
theorem dX11_quick_4 : decode cX11_quick 4 = .ok (.aload_n 0, 1) := by decide +kernel
theorem dX11_quick_5 : decode cX11_quick 5 = .ok (.getfield 19, 3) := by decide +kernel
theorem dX11_quick_8 : decode cX11_quick 8 = .ok (.aload_n 0, 1) := by decide +kernel
theorem dX11_quick_9 : decode cX11_quick 9 = .ok (.getfield 33, 3) := by decide +kernel
theorem dX11_quick_12 : decode cX11_quick 12 = .ok (.sipush 3000, 3) := by decide +kernel
theorem dX11_quick_15 : decode cX11_quick 15 = .ok (.invokevirtual 355, 3) := by decide +kernel
theorem dX11_quick_18 : decode cX11_quick 18 = .ok (.ifCond .ne 6, 3) := by decide +kernel
theorem dX11_quick_21 : decode cX11_quick 21 = .ok (.bipush (-3), 2) := by decide +kernel
theorem dX11_quick_23 : decode cX11_quick 23 = .ok (.ireturn, 1) := by decide +kernel
theorem dX11_quick_24 : decode cX11_quick 24 = .ok (.aload_n 0, 1) := by decide +kernel
theorem dX11_quick_25 : decode cX11_quick 25 = .ok (.aload_n 0, 1) := by decide +kernel
theorem dX11_quick_26 : decode cX11_quick 26 = .ok (.getfield 98, 3) := by decide +kernel
theorem dX11_quick_29 : decode cX11_quick 29 = .ok (.aload_n 0, 1) := by decide +kernel
theorem dX11_quick_30 : decode cX11_quick 30 = .ok (.getfield 19, 3) := by decide +kernel
theorem dX11_quick_33 : decode cX11_quick 33 = .ok (.iload_n 1, 1) := by decide +kernel
theorem dX11_quick_34 : decode cX11_quick 34 = .ok (.invokevirtual 363, 3) := by decide +kernel
theorem dX11_quick_37 : decode cX11_quick 37 = .ok (.invokevirtual 360, 3) := by decide +kernel
theorem dX11_quick_40 : decode cX11_quick 40 = .ok (.ireturn, 1) := by decide +kernel
theorem dX11_tellWayTo_0 : decode cX11_tellWayTo 0 = .ok (.iload_n 1, 1) := by decide +kernel
theorem dX11_tellWayTo_1 : decode cX11_tellWayTo 1 = .ok (.ifCond .ge 6, 3) := by decide +kernel
theorem dX11_tellWayTo_4 : decode cX11_tellWayTo 4 = .ok (.bipush (-2), 2) := by decide +kernel
theorem dX11_tellWayTo_6 : decode cX11_tellWayTo 6 = .ok (.ireturn, 1) := by decide +kernel
theorem dX11_tellWayTo_7 : decode cX11_tellWayTo 7 = .ok (.aload_n 0, 1) := by decide +kernel
theorem dX11_tellWayTo_8 : decode cX11_tellWayTo 8 = .ok (.getfield 98, 3) := by decide +kernel
theorem dX11_tellWayTo_11 : decode cX11_tellWayTo 11 = .ok (.iload_n 1, 1) := by decide +kernel
theorem dX11_tellWayTo_12 : decode cX11_tellWayTo 12 = .ok (.aload_n 0, 1) := by decide +kernel
theorem dX11_tellWayTo_13 : decode cX11_tellWayTo 13 = .ok (.getfield 83, 3) := by decide +kernel
theorem dX11_tellWayTo_16 : decode cX11_tellWayTo 16 = .ok (.invokevirtual 367, 3) := by decide +kernel
theorem dX11_tellWayTo_19 : decode cX11_tellWayTo 19 = .ok (.aload_n 0, 1) := by decide +kernel
theorem dX11_tellWayTo_20 : decode cX11_tellWayTo 20 = .ok (.aload_n 0, 1) := by decide +kernel
theorem dX11_tellWayTo_21 : decode cX11_tellWayTo 21 = .ok (.getfield 98, 3) := by decide +kernel
theorem dX11_tellWayTo_24 : decode cX11_tellWayTo 24 = .ok (.getfield 371, 3) := by decide +kernel
theorem dX11_tellWayTo_27 : decode cX11_tellWayTo 27 = .ok (.iload_n 1, 1) := by decide +kernel
theorem dX11_tellWayTo_28 : decode cX11_tellWayTo 28 = .ok (.iaload, 1) := by decide +kernel
theorem dX11_tellWayTo_29 : decode cX11_tellWayTo 29 = .ok (.aload_n 0, 1) := by decide +kernel
theorem dX11_tellWayTo_30 : decode cX11_tellWayTo 30 = .ok (.getfield 83, 3) := by decide +kernel
theorem dX11_tellWayTo_33 : decode cX11_tellWayTo 33 = .ok (.arraylength, 1) := by decide +kernel
theorem dX11_tellWayTo_34 : decode cX11_tellWayTo 34 = .ok (.invokestatic 290, 3) := by decide +kernel
theorem dX11_tellWayTo_37 : decode cX11_tellWayTo 37 = .ok (.putfield 87, 3) := by decide +kernel
theorem dX11_tellWayTo_40 : decode cX11_tellWayTo 40 = .ok (.aload_n 0, 1) := by decide +kernel
theorem dX11_tellWayTo_41 : decode cX11_tellWayTo 41 = .ok (.getfield 98, 3) := by decide +kernel
theorem dX11_tellWayTo_44 : decode cX11_tellWayTo 44 = .ok (.getfield 371, 3) := by decide +kernel
theorem dX11_tellWayTo_47 : decode cX11_tellWayTo 47 = .ok (.iload_n 1, 1) := by decide +kernel
theorem dX11_tellWayTo_48 : decode cX11_tellWayTo 48 = .ok (.iaload, 1) := by decide +kernel
theorem dX11_tellWayTo_49 : decode cX11_tellWayTo 49 = .ok (.ireturn, 1) := by decide +kernel
theorem dX11_best_0 : decode cX11_best 0 = .ok (.aload_n 0, 1) := by decide +kernel
theorem dX11_best_1 : decode cX11_best 1 = .ok (.getfield 19, 3) := by decide +kernel
theorem dX11_best_4 : decode cX11_best 4 = .ok (.iload_n 1, 1) := by decide +kernel
theorem dX11_best_5 : decode cX11_best 5 = .ok (.invokevirtual 164, 3) := by decide +kernel
theorem dX11_best_8 : decode cX11_best 8 = .ok (.ifCond .eq 13, 3) := by decide +kernel
theorem dX11_best_11 : decode cX11_best 11 = .ok (.iload_n 2, 1) := by decide +kernel
theorem dX11_best_12 : decode cX11_best 12 = .ok (.ifCond .lt 9, 3) := by decide +kernel
theorem dX11_best_15 : decode cX11_best 15 = .ok (.iload_n 2, 1) := by decide +kernel
theorem dX11_best_16 : decode cX11_best 16 = .ok (.bipush 9, 2) := by decide +kernel
theorem dX11_best_18 : decode cX11_best 18 = .ok (.if_icmp .le 5, 3) := by decide +kernel
theorem dX11_best_21 : decode cX11_best 21 = .ok (.iconst (-1), 1) := by decide +kernel
theorem dX11_best_22 : decode cX11_best 22 = .ok (.ireturn, 1) := by decide +kernel
theorem dX11_best_23 : decode cX11_best 23 = .ok (.aload_n 0, 1) := by decide +kernel
theorem dX11_best_24 : decode cX11_best 24 = .ok (.getfield 98, 3) := by decide +kernel
theorem dX11_best_27 : decode cX11_best 27 = .ok (.aload_n 0, 1) := by decide +kernel
theorem dX11_best_28 : decode cX11_best 28 = .ok (.getfield 19, 3) := by decide +kernel
theorem dX11_best_31 : decode cX11_best 31 = .ok (.aload_n 0, 1) := by decide +kernel
theorem dX11_best_32 : decode cX11_best 32 = .ok (.getfield 33, 3) := by decide +kernel
theorem dX11_best_35 : decode cX11_best 35 = .ok (.iload_n 2, 1) := by decide +kernel
theorem dX11_best_36 : decode cX11_best 36 = .ok (.invokevirtual 355, 3) := by decide +kernel
theorem dX11_best_39 : decode cX11_best 39 = .ok (.ifCond .ne 6, 3) := by decide +kernel
theorem dX11_best_42 : decode cX11_best 42 = .ok (.bipush (-3), 2) := by decide +kernel
theorem dX11_best_44 : decode cX11_best 44 = .ok (.ireturn, 1) := by decide +kernel
theorem dX11_best_45 : decode cX11_best 45 = .ok (.aload_n 0, 1) := by decide +kernel
theorem dX11_best_46 : decode cX11_best 46 = .ok (.getfield 98, 3) := by decide +kernel
theorem dX11_best_49 : decode cX11_best 49 = .ok (.aload_n 0, 1) := by decide +kernel
theorem dX11_best_50 : decode cX11_best 50 = .ok (.getfield 19, 3) := by decide +kernel
theorem dX11_best_53 : decode cX11_best 53 = .ok (.iload_n 1, 1) := by decide +kernel
theorem dX11_best_54 : decode cX11_best 54 = .ok (.invokevirtual 374, 3) := by decide +kernel
theorem dX11_best_57 : decode cX11_best 57 = .ok (.istore_n 3, 1) := by decide +kernel
theorem dX11_best_58 : decode cX11_best 58 = .ok (.aload_n 0, 1) := by decide +kernel
theorem dX11_best_59 : decode cX11_best 59 = .ok (.aload_n 0, 1) := by decide +kernel
theorem dX11_best_60 : decode cX11_best 60 = .ok (.getfield 98, 3) := by decide +kernel
theorem dX11_best_63 : decode cX11_best 63 = .ok (.getfield 371, 3) := by decide +kernel
theorem dX11_best_66 : decode cX11_best 66 = .ok (.aload_n 0, 1) := by decide +kernel
theorem dX11_best_67 : decode cX11_best 67 = .ok (.getfield 98, 3) := by decide +kernel
theorem dX11_best_70 : decode cX11_best 70 = .ok (.getfield 377, 3) := by decide +kernel
theorem dX11_best_73 : decode cX11_best 73 = .ok (.iaload, 1) := by decide +kernel
theorem dX11_best_74 : decode cX11_best 74 = .ok (.i2l, 1) := by decide +kernel
theorem dX11_best_75 : decode cX11_best 75 = .ok (.invokevirtual 267, 3) := by decide +kernel
theorem dX11_best_78 : decode cX11_best 78 = .ok (.iload_n 3, 1) := by decide +kernel
theorem dX11_best_79 : decode cX11_best 79 = .ok (.ireturn, 1) := by decide +kernel
theorem dX11_even_0 : decode cX11_even 0 = .ok (.iload_n 1, 1) := by decide +kernel
theorem dX11_even_1 : decode cX11_even 1 = .ok (.ifCond .lt 19, 3) := by decide +kernel
theorem dX11_even_4 : decode cX11_even 4 = .ok (.iload_n 1, 1) := by decide +kernel
theorem dX11_even_5 : decode cX11_even 5 = .ok (.bipush 9, 2) := by decide +kernel
theorem dX11_even_7 : decode cX11_even 7 = .ok (.if_icmp .gt 13, 3) := by decide +kernel
theorem dX11_even_10 : decode cX11_even 10 = .ok (.aload_n 0, 1) := by decide +kernel
theorem dX11_even_11 : decode cX11_even 11 = .ok (.getfield 19, 3) := by decide +kernel
theorem dX11_even_14 : decode cX11_even 14 = .ok (.getfield 155, 3) := by decide +kernel
theorem dX11_even_17 : decode cX11_even 17 = .ok (.ifCond .ne 5, 3) := by decide +kernel
theorem dX11_even_20 : decode cX11_even 20 = .ok (.iconst (-1), 1) := by decide +kernel
theorem dX11_even_21 : decode cX11_even 21 = .ok (.ireturn, 1) := by decide +kernel
theorem dX11_even_22 : decode cX11_even 22 = .ok (.aload_n 0, 1) := by decide +kernel
theorem dX11_even_23 : decode cX11_even 23 = .ok (.getfield 98, 3) := by decide +kernel
theorem dX11_even_26 : decode cX11_even 26 = .ok (.aload_n 0, 1) := by decide +kernel
theorem dX11_even_27 : decode cX11_even 27 = .ok (.getfield 19, 3) := by decide +kernel
theorem dX11_even_30 : decode cX11_even 30 = .ok (.aload_n 0, 1) := by decide +kernel
theorem dX11_even_31 : decode cX11_even 31 = .ok (.getfield 33, 3) := by decide +kernel
theorem dX11_even_34 : decode cX11_even 34 = .ok (.iload_n 1, 1) := by decide +kernel
theorem dX11_even_35 : decode cX11_even 35 = .ok (.invokevirtual 355, 3) := by decide +kernel
theorem dX11_even_38 : decode cX11_even 38 = .ok (.ifCond .ne 6, 3) := by decide +kernel
theorem dX11_even_41 : decode cX11_even 41 = .ok (.bipush (-3), 2) := by decide +kernel
theorem dX11_even_43 : decode cX11_even 43 = .ok (.ireturn, 1) := by decide +kernel
theorem dX11_even_44 : decode cX11_even 44 = .ok (.aload_n 0, 1) := by decide +kernel
theorem dX11_even_45 : decode cX11_even 45 = .ok (.getfield 98, 3) := by decide +kernel
theorem dX11_even_48 : decode cX11_even 48 = .ok (.aload_n 0, 1) := by decide +kernel
theorem dX11_even_49 : decode cX11_even 49 = .ok (.getfield 19, 3) := by decide +kernel
theorem dX11_even_52 : decode cX11_even 52 = .ok (.invokevirtual 380, 3) := by decide +kernel
theorem dX11_even_55 : decode cX11_even 55 = .ok (.istore_n 2, 1) := by decide +kernel
theorem dX11_even_56 : decode cX11_even 56 = .ok (.aload_n 0, 1) := by decide +kernel
theorem dX11_even_57 : decode cX11_even 57 = .ok (.aload_n 0, 1) := by decide +kernel
theorem dX11_even_58 : decode cX11_even 58 = .ok (.getfield 98, 3) := by decide +kernel
theorem dX11_even_61 : decode cX11_even 61 = .ok (.getfield 371, 3) := by decide +kernel
theorem dX11_even_64 : decode cX11_even 64 = .ok (.aload_n 0, 1) := by decide +kernel
theorem dX11_even_65 : decode cX11_even 65 = .ok (.getfield 98, 3) := by decide +kernel
theorem dX11_even_68 : decode cX11_even 68 = .ok (.getfield 377, 3) := by decide +kernel
theorem dX11_even_71 : decode cX11_even 71 = .ok (.iaload, 1) := by decide +kernel
theorem dX11_even_72 : decode cX11_even 72 = .ok (.i2l, 1) := by decide +kernel
theorem dX11_even_73 : decode cX11_even 73 = .ok (.invokevirtual 267, 3) := by decide +kernel
theorem dX11_even_76 : decode cX11_even 76 = .ok (.iload_n 2, 1) := by decide +kernel
theorem dX11_even_77 : decode cX11_even 77 = .ok (.ireturn, 1) := by decide +kernel
theorem dX11_all_0 : decode cX11_all 0 = .ok (.aload_n 0, 1) := by decide +kernel
theorem dX11_all_1 : decode cX11_all 1 = .ok (.getfield 98, 3) := by decide +kernel
theorem dX11_all_4 : decode cX11_all 4 = .ok (.aload_n 0, 1) := by decide +kernel
theorem dX11_all_5 : decode cX11_all 5 = .ok (.getfield 19, 3) := by decide +kernel
theorem dX11_all_8 : decode cX11_all 8 = .ok (.aload_n 0, 1) := by decide +kernel
theorem dX11_all_9 : decode cX11_all 9 = .ok (.getfield 33, 3) := by decide +kernel
theorem dX11_all_12 : decode cX11_all 12 = .ok (.sipush 3000, 3) := by decide +kernel
theorem dX11_all_15 : decode cX11_all 15 = .ok (.invokevirtual 355, 3) := by decide +kernel
theorem dX11_all_18 : decode cX11_all 18 = .ok (.ifCond .ne 6, 3) := by decide +kernel
theorem dX11_all_21 : decode cX11_all 21 = .ok (.bipush (-3), 2) := by decide +kernel
theorem dX11_all_23 : decode cX11_all 23 = .ok (.ireturn, 1) := by decide +kernel
theorem dX11_all_24 : decode cX11_all 24 = .ok (.iconst 0, 1) := by decide +kernel
theorem dX11_all_25 : decode cX11_all 25 = .ok (.istore_n 1, 1) := by decide +kernel
theorem dX11_all_26 : decode cX11_all 26 = .ok (.sipush 224, 3) := by decide +kernel
theorem dX11_all_29 : decode cX11_all 29 = .ok (.istore_n 2, 1) := by decide +kernel
theorem dX11_all_30 : decode cX11_all 30 = .ok (.iconst 0, 1) := by decide +kernel
theorem dX11_all_31 : decode cX11_all 31 = .ok (.istore_n 3, 1) := by decide +kernel
theorem dX11_all_32 : decode cX11_all 32 = .ok (.iconst 0, 1) := by decide +kernel
theorem dX11_all_33 : decode cX11_all 33 = .ok (.istore 4, 2) := by decide +kernel
theorem dX11_all_35 : decode cX11_all 35 = .ok (.iload 4, 2) := by decide +kernel
theorem dX11_all_37 : decode cX11_all 37 = .ok (.aload_n 0, 1) := by decide +kernel
theorem dX11_all_38 : decode cX11_all 38 = .ok (.getfield 98, 3) := by decide +kernel
theorem dX11_all_41 : decode cX11_all 41 = .ok (.getfield 359, 3) := by decide +kernel
theorem dX11_all_44 : decode cX11_all 44 = .ok (.getfield 384, 3) := by decide +kernel
theorem dX11_all_47 : decode cX11_all 47 = .ok (.if_icmp .ge 52, 3) := by decide +kernel
theorem dX11_all_50 : decode cX11_all 50 = .ok (.aload_n 0, 1) := by decide +kernel
theorem dX11_all_51 : decode cX11_all 51 = .ok (.getfield 98, 3) := by decide +kernel
theorem dX11_all_54 : decode cX11_all 54 = .ok (.getfield 359, 3) := by decide +kernel
theorem dX11_all_57 : decode cX11_all 57 = .ok (.iload 4, 2) := by decide +kernel
theorem dX11_all_59 : decode cX11_all 59 = .ok (.invokevirtual 321, 3) := by decide +kernel
theorem dX11_all_62 : decode cX11_all 62 = .ok (.istore 5, 2) := by decide +kernel
theorem dX11_all_64 : decode cX11_all 64 = .ok (.iload_n 1, 1) := by decide +kernel
theorem dX11_all_65 : decode cX11_all 65 = .ok (.iload 5, 2) := by decide +kernel
theorem dX11_all_67 : decode cX11_all 67 = .ok (.invokestatic 350, 3) := by decide +kernel
theorem dX11_all_70 : decode cX11_all 70 = .ok (.istore_n 1, 1) := by decide +kernel
theorem dX11_all_71 : decode cX11_all 71 = .ok (.iload_n 2, 1) := by decide +kernel
theorem dX11_all_72 : decode cX11_all 72 = .ok (.iload 5, 2) := by decide +kernel
theorem dX11_all_74 : decode cX11_all 74 = .ok (.invokestatic 290, 3) := by decide +kernel
theorem dX11_all_77 : decode cX11_all 77 = .ok (.istore_n 2, 1) := by decide +kernel
theorem dX11_all_78 : decode cX11_all 78 = .ok (.iload_n 3, 1) := by decide +kernel
theorem dX11_all_79 : decode cX11_all 79 = .ok (.aload_n 0, 1) := by decide +kernel
theorem dX11_all_80 : decode cX11_all 80 = .ok (.getfield 98, 3) := by decide +kernel
theorem dX11_all_83 : decode cX11_all 83 = .ok (.getfield 371, 3) := by decide +kernel
theorem dX11_all_86 : decode cX11_all 86 = .ok (.iload 4, 2) := by decide +kernel
theorem dX11_all_88 : decode cX11_all 88 = .ok (.iaload, 1) := by decide +kernel
theorem dX11_all_89 : decode cX11_all 89 = .ok (.invokestatic 350, 3) := by decide +kernel
theorem dX11_all_92 : decode cX11_all 92 = .ok (.istore_n 3, 1) := by decide +kernel
theorem dX11_all_93 : decode cX11_all 93 = .ok (.iinc 4 1, 3) := by decide +kernel
theorem dX11_all_96 : decode cX11_all 96 = .ok (.goto (-61), 3) := by decide +kernel
theorem dX11_all_99 : decode cX11_all 99 = .ok (.aload_n 0, 1) := by decide +kernel
theorem dX11_all_100 : decode cX11_all 100 = .ok (.iload_n 1, 1) := by decide +kernel
theorem dX11_all_101 : decode cX11_all 101 = .ok (.i2l, 1) := by decide +kernel
theorem dX11_all_102 : decode cX11_all 102 = .ok (.iload_n 2, 1) := by decide +kernel
theorem dX11_all_103 : decode cX11_all 103 = .ok (.i2l, 1) := by decide +kernel
theorem dX11_all_104 : decode cX11_all 104 = .ok (.iload_n 3, 1) := by decide +kernel
theorem dX11_all_105 : decode cX11_all 105 = .ok (.i2l, 1) := by decide +kernel
theorem dX11_all_106 : decode cX11_all 106 = .ok (.invokevirtual 295, 3) := by decide +kernel
theorem dX11_all_109 : decode cX11_all 109 = .ok (.aload_n 0, 1) := by decide +kernel
theorem dX11_all_110 : decode cX11_all 110 = .ok (.getfield 98, 3) := by decide +kernel
theorem dX11_all_113 : decode cX11_all 113 = .ok (.getfield 359, 3) := by decide +kernel
theorem dX11_all_116 : decode cX11_all 116 = .ok (.getfield 384, 3) := by decide +kernel
theorem dX11_all_119 : decode cX11_all 119 = .ok (.ireturn, 1) := by decide +kernel
theorem dX11_next_0 : decode cX11_next 0 = .ok (.aload_n 0, 1) := by decide +kernel
theorem dX11_next_1 : decode cX11_next 1 = .ok (.getfield 19, 3) := by decide +kernel
theorem dX11_next_4 : decode cX11_next 4 = .ok (.iload_n 1, 1) := by decide +kernel
theorem dX11_next_5 : decode cX11_next 5 = .ok (.invokevirtual 164, 3) := by decide +kernel
theorem dX11_next_8 : decode cX11_next 8 = .ok (.ifCond .ne 5, 3) := by decide +kernel
theorem dX11_next_11 : decode cX11_next 11 = .ok (.iconst (-1), 1) := by decide +kernel
theorem dX11_next_12 : decode cX11_next 12 = .ok (.ireturn, 1) := by decide +kernel
theorem dX11_next_13 : decode cX11_next 13 = .ok (.aload_n 0, 1) := by decide +kernel
theorem dX11_next_14 : decode cX11_next 14 = .ok (.getfield 19, 3) := by decide +kernel
theorem dX11_next_17 : decode cX11_next 17 = .ok (.getfield 155, 3) := by decide +kernel
theorem dX11_next_20 : decode cX11_next 20 = .ok (.iconst 2, 1) := by decide +kernel
theorem dX11_next_21 : decode cX11_next 21 = .ok (.if_icmp .ge 6, 3) := by decide +kernel
theorem dX11_next_24 : decode cX11_next 24 = .ok (.bipush (-2), 2) := by decide +kernel
theorem dX11_next_26 : decode cX11_next 26 = .ok (.ireturn, 1) := by decide +kernel
theorem dX11_next_27 : decode cX11_next 27 = .ok (.aload_n 0, 1) := by decide +kernel
theorem dX11_next_28 : decode cX11_next 28 = .ok (.getfield 37, 3) := by decide +kernel
theorem dX11_next_31 : decode cX11_next 31 = .ok (.aload_n 0, 1) := by decide +kernel
theorem dX11_next_32 : decode cX11_next 32 = .ok (.getfield 33, 3) := by decide +kernel
theorem dX11_next_35 : decode cX11_next 35 = .ok (.invokevirtual 221, 3) := by decide +kernel
theorem dX11_next_38 : decode cX11_next 38 = .ok (.iconst (-1), 1) := by decide +kernel
theorem dX11_next_39 : decode cX11_next 39 = .ok (.istore_n 2, 1) := by decide +kernel
theorem dX11_next_40 : decode cX11_next 40 = .ok (.iconst 0, 1) := by decide +kernel
theorem dX11_next_41 : decode cX11_next 41 = .ok (.istore_n 3, 1) := by decide +kernel
theorem dX11_next_42 : decode cX11_next 42 = .ok (.iconst 0, 1) := by decide +kernel
theorem dX11_next_43 : decode cX11_next 43 = .ok (.istore 4, 2) := by decide +kernel
theorem dX11_next_45 : decode cX11_next 45 = .ok (.iload 4, 2) := by decide +kernel
theorem dX11_next_47 : decode cX11_next 47 = .ok (.iconst 3, 1) := by decide +kernel
theorem dX11_next_48 : decode cX11_next 48 = .ok (.if_icmp .ge 96, 3) := by decide +kernel
theorem dX11_next_51 : decode cX11_next 51 = .ok (.iconst 0, 1) := by decide +kernel
theorem dX11_next_52 : decode cX11_next 52 = .ok (.istore 5, 2) := by decide +kernel
theorem dX11_next_54 : decode cX11_next 54 = .ok (.iload 5, 2) := by decide +kernel
theorem dX11_next_56 : decode cX11_next 56 = .ok (.aload_n 0, 1) := by decide +kernel
theorem dX11_next_57 : decode cX11_next 57 = .ok (.getfield 19, 3) := by decide +kernel
theorem dX11_next_60 : decode cX11_next 60 = .ok (.getfield 155, 3) := by decide +kernel
theorem dX11_next_63 : decode cX11_next 63 = .ok (.if_icmp .ge 75, 3) := by decide +kernel
theorem dX11_next_66 : decode cX11_next 66 = .ok (.iload 5, 2) := by decide +kernel
theorem dX11_next_68 : decode cX11_next 68 = .ok (.iconst 1, 1) := by decide +kernel
theorem dX11_next_69 : decode cX11_next 69 = .ok (.iadd, 1) := by decide +kernel
theorem dX11_next_70 : decode cX11_next 70 = .ok (.istore 6, 2) := by decide +kernel
theorem dX11_next_72 : decode cX11_next 72 = .ok (.iload 6, 2) := by decide +kernel
theorem dX11_next_74 : decode cX11_next 74 = .ok (.aload_n 0, 1) := by decide +kernel
theorem dX11_next_75 : decode cX11_next 75 = .ok (.getfield 19, 3) := by decide +kernel
theorem dX11_next_78 : decode cX11_next 78 = .ok (.getfield 155, 3) := by decide +kernel
theorem dX11_next_81 : decode cX11_next 81 = .ok (.if_icmp .ge 51, 3) := by decide +kernel
theorem dX11_next_84 : decode cX11_next 84 = .ok (.aload_n 0, 1) := by decide +kernel
theorem dX11_next_85 : decode cX11_next 85 = .ok (.iload_n 1, 1) := by decide +kernel
theorem dX11_next_86 : decode cX11_next 86 = .ok (.iload 5, 2) := by decide +kernel
theorem dX11_next_88 : decode cX11_next 88 = .ok (.iload 6, 2) := by decide +kernel
theorem dX11_next_90 : decode cX11_next 90 = .ok (.iload 4, 2) := by decide +kernel
theorem dX11_next_92 : decode cX11_next 92 = .ok (.invokevirtual 385, 3) := by decide +kernel
theorem dX11_next_95 : decode cX11_next 95 = .ok (.istore 7, 2) := by decide +kernel
theorem dX11_next_97 : decode cX11_next 97 = .ok (.iload_n 2, 1) := by decide +kernel
theorem dX11_next_98 : decode cX11_next 98 = .ok (.iconst (-1), 1) := by decide +kernel
theorem dX11_next_99 : decode cX11_next 99 = .ok (.if_icmp .eq 9, 3) := by decide +kernel
theorem dX11_next_102 : decode cX11_next 102 = .ok (.iload 7, 2) := by decide +kernel
theorem dX11_next_104 : decode cX11_next 104 = .ok (.iload_n 3, 1) := by decide +kernel
theorem dX11_next_105 : decode cX11_next 105 = .ok (.if_icmp .le 21, 3) := by decide +kernel
theorem dX11_next_108 : decode cX11_next 108 = .ok (.bipush 100, 2) := by decide +kernel
theorem dX11_next_110 : decode cX11_next 110 = .ok (.iload 4, 2) := by decide +kernel
theorem dX11_next_112 : decode cX11_next 112 = .ok (.imul, 1) := by decide +kernel
theorem dX11_next_113 : decode cX11_next 113 = .ok (.bipush 10, 2) := by decide +kernel
theorem dX11_next_115 : decode cX11_next 115 = .ok (.iload 5, 2) := by decide +kernel
theorem dX11_next_117 : decode cX11_next 117 = .ok (.imul, 1) := by decide +kernel
theorem dX11_next_118 : decode cX11_next 118 = .ok (.iadd, 1) := by decide +kernel
theorem dX11_next_119 : decode cX11_next 119 = .ok (.iload 6, 2) := by decide +kernel
theorem dX11_next_121 : decode cX11_next 121 = .ok (.iadd, 1) := by decide +kernel
theorem dX11_next_122 : decode cX11_next 122 = .ok (.istore_n 2, 1) := by decide +kernel
theorem dX11_next_123 : decode cX11_next 123 = .ok (.iload 7, 2) := by decide +kernel
theorem dX11_next_125 : decode cX11_next 125 = .ok (.istore_n 3, 1) := by decide +kernel
theorem dX11_next_126 : decode cX11_next 126 = .ok (.iinc 6 1, 3) := by decide +kernel
theorem dX11_next_129 : decode cX11_next 129 = .ok (.goto (-57), 3) := by decide +kernel
theorem dX11_next_132 : decode cX11_next 132 = .ok (.iinc 5 1, 3) := by decide +kernel
theorem dX11_next_135 : decode cX11_next 135 = .ok (.goto (-81), 3) := by decide +kernel
theorem dX11_next_138 : decode cX11_next 138 = .ok (.iinc 4 1, 3) := by decide +kernel
theorem dX11_next_141 : decode cX11_next 141 = .ok (.goto (-96), 3) := by decide +kernel
theorem dX11_next_144 : decode cX11_next 144 = .ok (.aload_n 0, 1) := by decide +kernel
theorem dX11_next_145 : decode cX11_next 145 = .ok (.iload_n 3, 1) := by decide +kernel
theorem dX11_next_146 : decode cX11_next 146 = .ok (.i2l, 1) := by decide +kernel
theorem dX11_next_147 : decode cX11_next 147 = .ok (.invokevirtual 267, 3) := by decide +kernel
theorem dX11_next_150 : decode cX11_next 150 = .ok (.iload_n 2, 1) := by decide +kernel
theorem dX11_next_151 : decode cX11_next 151 = .ok (.ireturn, 1) := by decide +kernel
theorem dX11_powerAfter_0 : decode cX11_powerAfter 0 = .ok (.aload_n 0, 1) := by decide +kernel
theorem dX11_powerAfter_1 : decode cX11_powerAfter 1 = .ok (.getfield 19, 3) := by decide +kernel
theorem dX11_powerAfter_4 : decode cX11_powerAfter 4 = .ok (.aload_n 0, 1) := by decide +kernel
theorem dX11_powerAfter_5 : decode cX11_powerAfter 5 = .ok (.getfield 37, 3) := by decide +kernel
theorem dX11_powerAfter_8 : decode cX11_powerAfter 8 = .ok (.iload_n 2, 1) := by decide +kernel
theorem dX11_powerAfter_9 : decode cX11_powerAfter 9 = .ok (.iload_n 3, 1) := by decide +kernel
theorem dX11_powerAfter_10 : decode cX11_powerAfter 10 = .ok (.aload_n 0, 1) := by decide +kernel
theorem dX11_powerAfter_11 : decode cX11_powerAfter 11 = .ok (.getfield 19, 3) := by decide +kernel
theorem dX11_powerAfter_14 : decode cX11_powerAfter 14 = .ok (.aload_n 0, 1) := by decide +kernel
theorem dX11_powerAfter_15 : decode cX11_powerAfter 15 = .ok (.getfield 37, 3) := by decide +kernel
theorem dX11_powerAfter_18 : decode cX11_powerAfter 18 = .ok (.iload_n 2, 1) := by decide +kernel
theorem dX11_powerAfter_19 : decode cX11_powerAfter 19 = .ok (.iload_n 3, 1) := by decide +kernel
theorem dX11_powerAfter_20 : decode cX11_powerAfter 20 = .ok (.iload 4, 2) := by decide +kernel
theorem dX11_powerAfter_22 : decode cX11_powerAfter 22 = .ok (.invokevirtual 225, 3) := by decide +kernel
theorem dX11_powerAfter_25 : decode cX11_powerAfter 25 = .ok (.iconst 0, 1) := by decide +kernel
theorem dX11_powerAfter_26 : decode cX11_powerAfter 26 = .ok (.invokevirtual 229, 3) := by decide +kernel
theorem dX11_powerAfter_29 : decode cX11_powerAfter 29 = .ok (.aload_n 0, 1) := by decide +kernel
theorem dX11_powerAfter_30 : decode cX11_powerAfter 30 = .ok (.getfield 19, 3) := by decide +kernel
theorem dX11_powerAfter_33 : decode cX11_powerAfter 33 = .ok (.aload_n 0, 1) := by decide +kernel
theorem dX11_powerAfter_34 : decode cX11_powerAfter 34 = .ok (.getfield 37, 3) := by decide +kernel
theorem dX11_powerAfter_37 : decode cX11_powerAfter 37 = .ok (.iload_n 1, 1) := by decide +kernel
theorem dX11_powerAfter_38 : decode cX11_powerAfter 38 = .ok (.invokevirtual 177, 3) := by decide +kernel
theorem dX11_powerAfter_41 : decode cX11_powerAfter 41 = .ok (.istore 5, 2) := by decide +kernel
theorem dX11_powerAfter_43 : decode cX11_powerAfter 43 = .ok (.aload_n 0, 1) := by decide +kernel
theorem dX11_powerAfter_44 : decode cX11_powerAfter 44 = .ok (.getfield 37, 3) := by decide +kernel
theorem dX11_powerAfter_47 : decode cX11_powerAfter 47 = .ok (.aload_n 0, 1) := by decide +kernel
theorem dX11_powerAfter_48 : decode cX11_powerAfter 48 = .ok (.getfield 33, 3) := by decide +kernel
theorem dX11_powerAfter_51 : decode cX11_powerAfter 51 = .ok (.iload_n 2, 1) := by decide +kernel
theorem dX11_powerAfter_52 : decode cX11_powerAfter 52 = .ok (.invokevirtual 389, 3) := by decide +kernel
theorem dX11_powerAfter_55 : decode cX11_powerAfter 55 = .ok (.aload_n 0, 1) := by decide +kernel
theorem dX11_powerAfter_56 : decode cX11_powerAfter 56 = .ok (.getfield 37, 3) := by decide +kernel
theorem dX11_powerAfter_59 : decode cX11_powerAfter 59 = .ok (.aload_n 0, 1) := by decide +kernel
theorem dX11_powerAfter_60 : decode cX11_powerAfter 60 = .ok (.getfield 33, 3) := by decide +kernel
theorem dX11_powerAfter_63 : decode cX11_powerAfter 63 = .ok (.iload_n 3, 1) := by decide +kernel
theorem dX11_powerAfter_64 : decode cX11_powerAfter 64 = .ok (.invokevirtual 389, 3) := by decide +kernel
theorem dX11_powerAfter_67 : decode cX11_powerAfter 67 = .ok (.iload 5, 2) := by decide +kernel
theorem dX11_powerAfter_69 : decode cX11_powerAfter 69 = .ok (.ireturn, 1) := by decide +kernel
theorem dX11_seen_0 : decode cX11_seen 0 = .ok (.aload_n 0, 1) := by decide +kernel
theorem dX11_seen_1 : decode cX11_seen 1 = .ok (.getfield 19, 3) := by decide +kernel
theorem dX11_seen_4 : decode cX11_seen 4 = .ok (.iload_n 1, 1) := by decide +kernel
theorem dX11_seen_5 : decode cX11_seen 5 = .ok (.iload_n 2, 1) := by decide +kernel
theorem dX11_seen_6 : decode cX11_seen 6 = .ok (.invokevirtual 214, 3) := by decide +kernel
theorem dX11_seen_9 : decode cX11_seen 9 = .ok (.ifCond .eq 21, 3) := by decide +kernel
theorem dX11_seen_12 : decode cX11_seen 12 = .ok (.iload_n 3, 1) := by decide +kernel
theorem dX11_seen_13 : decode cX11_seen 13 = .ok (.ifCond .lt 17, 3) := by decide +kernel
theorem dX11_seen_16 : decode cX11_seen 16 = .ok (.iload_n 3, 1) := by decide +kernel
theorem dX11_seen_17 : decode cX11_seen 17 = .ok (.iconst 2, 1) := by decide +kernel
theorem dX11_seen_18 : decode cX11_seen 18 = .ok (.if_icmp .gt 12, 3) := by decide +kernel
theorem dX11_seen_21 : decode cX11_seen 21 = .ok (.aload_n 0, 1) := by decide +kernel
theorem dX11_seen_22 : decode cX11_seen 22 = .ok (.getfield 77, 3) := by decide +kernel
theorem dX11_seen_25 : decode cX11_seen 25 = .ok (.bipush 12, 2) := by decide +kernel
theorem dX11_seen_27 : decode cX11_seen 27 = .ok (.if_icmp .lt 5, 3) := by decide +kernel
theorem dX11_seen_30 : decode cX11_seen 30 = .ok (.iconst (-1), 1) := by decide +kernel
theorem dX11_seen_31 : decode cX11_seen 31 = .ok (.ireturn, 1) := by decide +kernel
theorem dX11_seen_32 : decode cX11_seen 32 = .ok (.aload_n 0, 1) := by decide +kernel
theorem dX11_seen_33 : decode cX11_seen 33 = .ok (.getfield 67, 3) := by decide +kernel
theorem dX11_seen_36 : decode cX11_seen 36 = .ok (.aload_n 0, 1) := by decide +kernel
theorem dX11_seen_37 : decode cX11_seen 37 = .ok (.getfield 77, 3) := by decide +kernel
theorem dX11_seen_40 : decode cX11_seen 40 = .ok (.iload_n 1, 1) := by decide +kernel
theorem dX11_seen_41 : decode cX11_seen 41 = .ok (.iastore, 1) := by decide +kernel
theorem dX11_seen_42 : decode cX11_seen 42 = .ok (.aload_n 0, 1) := by decide +kernel
theorem dX11_seen_43 : decode cX11_seen 43 = .ok (.getfield 71, 3) := by decide +kernel
theorem dX11_seen_46 : decode cX11_seen 46 = .ok (.aload_n 0, 1) := by decide +kernel
theorem dX11_seen_47 : decode cX11_seen 47 = .ok (.getfield 77, 3) := by decide +kernel
theorem dX11_seen_50 : decode cX11_seen 50 = .ok (.iload_n 2, 1) := by decide +kernel
theorem dX11_seen_51 : decode cX11_seen 51 = .ok (.iastore, 1) := by decide +kernel
theorem dX11_seen_52 : decode cX11_seen 52 = .ok (.aload_n 0, 1) := by decide +kernel
theorem dX11_seen_53 : decode cX11_seen 53 = .ok (.getfield 74, 3) := by decide +kernel
theorem dX11_seen_56 : decode cX11_seen 56 = .ok (.aload_n 0, 1) := by decide +kernel
theorem dX11_seen_57 : decode cX11_seen 57 = .ok (.getfield 77, 3) := by decide +kernel
theorem dX11_seen_60 : decode cX11_seen 60 = .ok (.iload_n 3, 1) := by decide +kernel
theorem dX11_seen_61 : decode cX11_seen 61 = .ok (.iastore, 1) := by decide +kernel
theorem dX11_seen_62 : decode cX11_seen 62 = .ok (.aload_n 0, 1) := by decide +kernel
theorem dX11_seen_63 : decode cX11_seen 63 = .ok (.dup, 1) := by decide +kernel
theorem dX11_seen_64 : decode cX11_seen 64 = .ok (.getfield 77, 3) := by decide +kernel
theorem dX11_seen_67 : decode cX11_seen 67 = .ok (.iconst 1, 1) := by decide +kernel
theorem dX11_seen_68 : decode cX11_seen 68 = .ok (.iadd, 1) := by decide +kernel
theorem dX11_seen_69 : decode cX11_seen 69 = .ok (.putfield 77, 3) := by decide +kernel
theorem dX11_seen_72 : decode cX11_seen 72 = .ok (.aload_n 0, 1) := by decide +kernel
theorem dX11_seen_73 : decode cX11_seen 73 = .ok (.getfield 77, 3) := by decide +kernel
theorem dX11_seen_76 : decode cX11_seen 76 = .ok (.ireturn, 1) := by decide +kernel
theorem dX11_found_0 : decode cX11_found 0 = .ok (.iconst 0, 1) := by decide +kernel
theorem dX11_found_1 : decode cX11_found 1 = .ok (.istore_n 1, 1) := by decide +kernel
theorem dX11_found_2 : decode cX11_found 2 = .ok (.iload_n 1, 1) := by decide +kernel
theorem dX11_found_3 : decode cX11_found 3 = .ok (.bipush 8, 2) := by decide +kernel
theorem dX11_found_5 : decode cX11_found 5 = .ok (.if_icmp .ge 16, 3) := by decide +kernel
theorem dX11_found_8 : decode cX11_found 8 = .ok (.aload_n 0, 1) := by decide +kernel
theorem dX11_found_9 : decode cX11_found 9 = .ok (.getfield 80, 3) := by decide +kernel
theorem dX11_found_12 : decode cX11_found 12 = .ok (.iload_n 1, 1) := by decide +kernel
theorem dX11_found_13 : decode cX11_found 13 = .ok (.iconst 0, 1) := by decide +kernel
theorem dX11_found_14 : decode cX11_found 14 = .ok (.iastore, 1) := by decide +kernel
theorem dX11_found_15 : decode cX11_found 15 = .ok (.iinc 1 1, 3) := by decide +kernel
theorem dX11_found_18 : decode cX11_found 18 = .ok (.goto (-16), 3) := by decide +kernel
theorem dX11_found_21 : decode cX11_found 21 = .ok (.iconst 0, 1) := by decide +kernel
theorem dX11_found_22 : decode cX11_found 22 = .ok (.istore_n 1, 1) := by decide +kernel
theorem dX11_found_23 : decode cX11_found 23 = .ok (.iconst 0, 1) := by decide +kernel
theorem dX11_found_24 : decode cX11_found 24 = .ok (.istore_n 2, 1) := by decide +kernel
theorem dX11_found_25 : decode cX11_found 25 = .ok (.iload_n 2, 1) := by decide +kernel
theorem dX11_found_26 : decode cX11_found 26 = .ok (.aload_n 0, 1) := by decide +kernel
theorem dX11_found_27 : decode cX11_found 27 = .ok (.getfield 77, 3) := by decide +kernel
theorem dX11_found_30 : decode cX11_found 30 = .ok (.if_icmp .ge 53, 3) := by decide +kernel
theorem dX11_found_33 : decode cX11_found 33 = .ok (.aload_n 0, 1) := by decide +kernel
theorem dX11_found_34 : decode cX11_found 34 = .ok (.getfield 19, 3) := by decide +kernel
theorem dX11_found_37 : decode cX11_found 37 = .ok (.aload_n 0, 1) := by decide +kernel
theorem dX11_found_38 : decode cX11_found 38 = .ok (.getfield 33, 3) := by decide +kernel
theorem dX11_found_41 : decode cX11_found 41 = .ok (.aload_n 0, 1) := by decide +kernel
theorem dX11_found_42 : decode cX11_found 42 = .ok (.getfield 67, 3) := by decide +kernel
theorem dX11_found_45 : decode cX11_found 45 = .ok (.iload_n 2, 1) := by decide +kernel
theorem dX11_found_46 : decode cX11_found 46 = .ok (.iaload, 1) := by decide +kernel
theorem dX11_found_47 : decode cX11_found 47 = .ok (.aload_n 0, 1) := by decide +kernel
theorem dX11_found_48 : decode cX11_found 48 = .ok (.getfield 71, 3) := by decide +kernel
theorem dX11_found_51 : decode cX11_found 51 = .ok (.iload_n 2, 1) := by decide +kernel
theorem dX11_found_52 : decode cX11_found 52 = .ok (.iaload, 1) := by decide +kernel
theorem dX11_found_53 : decode cX11_found 53 = .ok (.iconst 0, 1) := by decide +kernel
theorem dX11_found_54 : decode cX11_found 54 = .ok (.invokevirtual 225, 3) := by decide +kernel
theorem dX11_found_57 : decode cX11_found 57 = .ok (.aload_n 0, 1) := by decide +kernel
theorem dX11_found_58 : decode cX11_found 58 = .ok (.getfield 74, 3) := by decide +kernel
theorem dX11_found_61 : decode cX11_found 61 = .ok (.iload_n 2, 1) := by decide +kernel
theorem dX11_found_62 : decode cX11_found 62 = .ok (.iaload, 1) := by decide +kernel
theorem dX11_found_63 : decode cX11_found 63 = .ok (.if_icmp .eq 14, 3) := by decide +kernel
theorem dX11_found_66 : decode cX11_found 66 = .ok (.iload_n 1, 1) := by decide +kernel
theorem dX11_found_67 : decode cX11_found 67 = .ok (.iconst 1, 1) := by decide +kernel
theorem dX11_found_68 : decode cX11_found 68 = .ok (.iload_n 2, 1) := by decide +kernel
theorem dX11_found_69 : decode cX11_found 69 = .ok (.ishl, 1) := by decide +kernel
theorem dX11_found_70 : decode cX11_found 70 = .ok (.ior, 1) := by decide +kernel
theorem dX11_found_71 : decode cX11_found 71 = .ok (.istore_n 1, 1) := by decide +kernel
theorem dX11_found_72 : decode cX11_found 72 = .ok (.aload_n 0, 1) := by decide +kernel
theorem dX11_found_73 : decode cX11_found 73 = .ok (.iload_n 2, 1) := by decide +kernel
theorem dX11_found_74 : decode cX11_found 74 = .ok (.invokevirtual 393, 3) := by decide +kernel
theorem dX11_found_77 : decode cX11_found 77 = .ok (.iinc 2 1, 3) := by decide +kernel
theorem dX11_found_80 : decode cX11_found 80 = .ok (.goto (-55), 3) := by decide +kernel
theorem dX11_found_83 : decode cX11_found 83 = .ok (.iconst 0, 1) := by decide +kernel
theorem dX11_found_84 : decode cX11_found 84 = .ok (.istore_n 2, 1) := by decide +kernel
theorem dX11_found_85 : decode cX11_found 85 = .ok (.iconst 0, 1) := by decide +kernel
theorem dX11_found_86 : decode cX11_found 86 = .ok (.istore_n 3, 1) := by decide +kernel
theorem dX11_found_87 : decode cX11_found 87 = .ok (.iload_n 3, 1) := by decide +kernel
theorem dX11_found_88 : decode cX11_found 88 = .ok (.aload_n 0, 1) := by decide +kernel
theorem dX11_found_89 : decode cX11_found 89 = .ok (.getfield 19, 3) := by decide +kernel
theorem dX11_found_92 : decode cX11_found 92 = .ok (.getfield 155, 3) := by decide +kernel
theorem dX11_found_95 : decode cX11_found 95 = .ok (.if_icmp .ge 26, 3) := by decide +kernel
theorem dX11_found_98 : decode cX11_found 98 = .ok (.aload_n 0, 1) := by decide +kernel
theorem dX11_found_99 : decode cX11_found 99 = .ok (.getfield 80, 3) := by decide +kernel
theorem dX11_found_102 : decode cX11_found 102 = .ok (.iload_n 3, 1) := by decide +kernel
theorem dX11_found_103 : decode cX11_found 103 = .ok (.iaload, 1) := by decide +kernel
theorem dX11_found_104 : decode cX11_found 104 = .ok (.aload_n 0, 1) := by decide +kernel
theorem dX11_found_105 : decode cX11_found 105 = .ok (.getfield 80, 3) := by decide +kernel
theorem dX11_found_108 : decode cX11_found 108 = .ok (.iload_n 2, 1) := by decide +kernel
theorem dX11_found_109 : decode cX11_found 109 = .ok (.iaload, 1) := by decide +kernel
theorem dX11_found_110 : decode cX11_found 110 = .ok (.if_icmp .le 5, 3) := by decide +kernel
theorem dX11_found_113 : decode cX11_found 113 = .ok (.iload_n 3, 1) := by decide +kernel
theorem dX11_found_114 : decode cX11_found 114 = .ok (.istore_n 2, 1) := by decide +kernel
theorem dX11_found_115 : decode cX11_found 115 = .ok (.iinc 3 1, 3) := by decide +kernel
theorem dX11_found_118 : decode cX11_found 118 = .ok (.goto (-31), 3) := by decide +kernel
theorem dX11_found_121 : decode cX11_found 121 = .ok (.aload_n 0, 1) := by decide +kernel
theorem dX11_found_122 : decode cX11_found 122 = .ok (.iload_n 1, 1) := by decide +kernel
theorem dX11_found_123 : decode cX11_found 123 = .ok (.invokestatic 396, 3) := by decide +kernel
theorem dX11_found_126 : decode cX11_found 126 = .ok (.i2l, 1) := by decide +kernel
theorem dX11_found_127 : decode cX11_found 127 = .ok (.iload_n 1, 1) := by decide +kernel
theorem dX11_found_128 : decode cX11_found 128 = .ok (.ifCond .ne 9, 3) := by decide +kernel
theorem dX11_found_131 : decode cX11_found 131 = .ok (.ldc2_w 401, 3) := by decide +kernel
theorem dX11_found_134 : decode cX11_found 134 = .ok (.goto 5, 3) := by decide +kernel
theorem dX11_found_137 : decode cX11_found 137 = .ok (.iload_n 2, 1) := by decide +kernel
theorem dX11_found_138 : decode cX11_found 138 = .ok (.i2l, 1) := by decide +kernel
theorem dX11_found_139 : decode cX11_found 139 = .ok (.aload_n 0, 1) := by decide +kernel
theorem dX11_found_140 : decode cX11_found 140 = .ok (.getfield 80, 3) := by decide +kernel
theorem dX11_found_143 : decode cX11_found 143 = .ok (.iload_n 2, 1) := by decide +kernel
theorem dX11_found_144 : decode cX11_found 144 = .ok (.iaload, 1) := by decide +kernel
theorem dX11_found_145 : decode cX11_found 145 = .ok (.i2l, 1) := by decide +kernel
theorem dX11_found_146 : decode cX11_found 146 = .ok (.invokevirtual 295, 3) := by decide +kernel
theorem dX11_found_149 : decode cX11_found 149 = .ok (.iload_n 1, 1) := by decide +kernel
theorem dX11_found_150 : decode cX11_found 150 = .ok (.ireturn, 1) := by decide +kernel
theorem dX11_countThrowers_0 : decode cX11_countThrowers 0 = .ok (.aload_n 0, 1) := by decide +kernel
theorem dX11_countThrowers_1 : decode cX11_countThrowers 1 = .ok (.getfield 74, 3) := by decide +kernel
theorem dX11_countThrowers_4 : decode cX11_countThrowers 4 = .ok (.iload_n 1, 1) := by decide +kernel
theorem dX11_countThrowers_5 : decode cX11_countThrowers 5 = .ok (.iaload, 1) := by decide +kernel
theorem dX11_countThrowers_6 : decode cX11_countThrowers 6 = .ok (.ifCond .eq 18, 3) := by decide +kernel
theorem dX11_countThrowers_9 : decode cX11_countThrowers 9 = .ok (.aload_n 0, 1) := by decide +kernel
theorem dX11_countThrowers_10 : decode cX11_countThrowers 10 = .ok (.getfield 80, 3) := by decide +kernel
theorem dX11_countThrowers_13 : decode cX11_countThrowers 13 = .ok (.aload_n 0, 1) := by decide +kernel
theorem dX11_countThrowers_14 : decode cX11_countThrowers 14 = .ok (.getfield 67, 3) := by decide +kernel
theorem dX11_countThrowers_17 : decode cX11_countThrowers 17 = .ok (.iload_n 1, 1) := by decide +kernel
theorem dX11_countThrowers_18 : decode cX11_countThrowers 18 = .ok (.iaload, 1) := by decide +kernel
theorem dX11_countThrowers_19 : decode cX11_countThrowers 19 = .ok (.dup2, 1) := by decide +kernel
theorem dX11_countThrowers_20 : decode cX11_countThrowers 20 = .ok (.iaload, 1) := by decide +kernel
theorem dX11_countThrowers_21 : decode cX11_countThrowers 21 = .ok (.iconst 1, 1) := by decide +kernel
theorem dX11_countThrowers_22 : decode cX11_countThrowers 22 = .ok (.iadd, 1) := by decide +kernel
theorem dX11_countThrowers_23 : decode cX11_countThrowers 23 = .ok (.iastore, 1) := by decide +kernel
theorem dX11_countThrowers_24 : decode cX11_countThrowers 24 = .ok (.aload_n 0, 1) := by decide +kernel
theorem dX11_countThrowers_25 : decode cX11_countThrowers 25 = .ok (.getfield 74, 3) := by decide +kernel
theorem dX11_countThrowers_28 : decode cX11_countThrowers 28 = .ok (.iload_n 1, 1) := by decide +kernel
theorem dX11_countThrowers_29 : decode cX11_countThrowers 29 = .ok (.iaload, 1) := by decide +kernel
theorem dX11_countThrowers_30 : decode cX11_countThrowers 30 = .ok (.iconst 1, 1) := by decide +kernel
theorem dX11_countThrowers_31 : decode cX11_countThrowers 31 = .ok (.if_icmp .eq 18, 3) := by decide +kernel
theorem dX11_countThrowers_34 : decode cX11_countThrowers 34 = .ok (.aload_n 0, 1) := by decide +kernel
theorem dX11_countThrowers_35 : decode cX11_countThrowers 35 = .ok (.getfield 80, 3) := by decide +kernel
theorem dX11_countThrowers_38 : decode cX11_countThrowers 38 = .ok (.aload_n 0, 1) := by decide +kernel
theorem dX11_countThrowers_39 : decode cX11_countThrowers 39 = .ok (.getfield 71, 3) := by decide +kernel
theorem dX11_countThrowers_42 : decode cX11_countThrowers 42 = .ok (.iload_n 1, 1) := by decide +kernel
theorem dX11_countThrowers_43 : decode cX11_countThrowers 43 = .ok (.iaload, 1) := by decide +kernel
theorem dX11_countThrowers_44 : decode cX11_countThrowers 44 = .ok (.dup2, 1) := by decide +kernel
theorem dX11_countThrowers_45 : decode cX11_countThrowers 45 = .ok (.iaload, 1) := by decide +kernel
theorem dX11_countThrowers_46 : decode cX11_countThrowers 46 = .ok (.iconst 1, 1) := by decide +kernel
theorem dX11_countThrowers_47 : decode cX11_countThrowers 47 = .ok (.iadd, 1) := by decide +kernel
theorem dX11_countThrowers_48 : decode cX11_countThrowers 48 = .ok (.iastore, 1) := by decide +kernel
theorem dX11_countThrowers_49 : decode cX11_countThrowers 49 = .ok (.return_, 1) := by decide +kernel
theorem dX11_prize_0 : decode cX11_prize 0 = .ok (.aload_n 0, 1) := by decide +kernel
theorem dX11_prize_1 : decode cX11_prize 1 = .ok (.getfield 19, 3) := by decide +kernel
theorem dX11_prize_4 : decode cX11_prize 4 = .ok (.getfield 155, 3) := by decide +kernel
theorem dX11_prize_7 : decode cX11_prize 7 = .ok (.ifCond .ne 6, 3) := by decide +kernel
theorem dX11_prize_10 : decode cX11_prize 10 = .ok (.bipush (-2), 2) := by decide +kernel
theorem dX11_prize_12 : decode cX11_prize 12 = .ok (.ireturn, 1) := by decide +kernel
theorem dX11_prize_13 : decode cX11_prize 13 = .ok (.iconst 0, 1) := by decide +kernel
theorem dX11_prize_14 : decode cX11_prize 14 = .ok (.istore_n 1, 1) := by decide +kernel
theorem dX11_prize_15 : decode cX11_prize 15 = .ok (.iconst 0, 1) := by decide +kernel
theorem dX11_prize_16 : decode cX11_prize 16 = .ok (.istore_n 2, 1) := by decide +kernel
theorem dX11_prize_17 : decode cX11_prize 17 = .ok (.iconst 0, 1) := by decide +kernel
theorem dX11_prize_18 : decode cX11_prize 18 = .ok (.istore_n 3, 1) := by decide +kernel
theorem dX11_prize_19 : decode cX11_prize 19 = .ok (.iload_n 3, 1) := by decide +kernel
theorem dX11_prize_20 : decode cX11_prize 20 = .ok (.aload_n 0, 1) := by decide +kernel
theorem dX11_prize_21 : decode cX11_prize 21 = .ok (.getfield 19, 3) := by decide +kernel
theorem dX11_prize_24 : decode cX11_prize 24 = .ok (.getfield 155, 3) := by decide +kernel
theorem dX11_prize_27 : decode cX11_prize 27 = .ok (.if_icmp .ge 44, 3) := by decide +kernel
theorem dX11_prize_30 : decode cX11_prize 30 = .ok (.iload_n 2, 1) := by decide +kernel
theorem dX11_prize_31 : decode cX11_prize 31 = .ok (.aload_n 0, 1) := by decide +kernel
theorem dX11_prize_32 : decode cX11_prize 32 = .ok (.getfield 33, 3) := by decide +kernel
theorem dX11_prize_35 : decode cX11_prize 35 = .ok (.getfield 184, 3) := by decide +kernel
theorem dX11_prize_38 : decode cX11_prize 38 = .ok (.iload_n 3, 1) := by decide +kernel
theorem dX11_prize_39 : decode cX11_prize 39 = .ok (.iaload, 1) := by decide +kernel
theorem dX11_prize_40 : decode cX11_prize 40 = .ok (.iadd, 1) := by decide +kernel
theorem dX11_prize_41 : decode cX11_prize 41 = .ok (.istore_n 2, 1) := by decide +kernel
theorem dX11_prize_42 : decode cX11_prize 42 = .ok (.aload_n 0, 1) := by decide +kernel
theorem dX11_prize_43 : decode cX11_prize 43 = .ok (.getfield 33, 3) := by decide +kernel
theorem dX11_prize_46 : decode cX11_prize 46 = .ok (.getfield 184, 3) := by decide +kernel
theorem dX11_prize_49 : decode cX11_prize 49 = .ok (.iload_n 3, 1) := by decide +kernel
theorem dX11_prize_50 : decode cX11_prize 50 = .ok (.iaload, 1) := by decide +kernel
theorem dX11_prize_51 : decode cX11_prize 51 = .ok (.aload_n 0, 1) := by decide +kernel
theorem dX11_prize_52 : decode cX11_prize 52 = .ok (.getfield 33, 3) := by decide +kernel
theorem dX11_prize_55 : decode cX11_prize 55 = .ok (.getfield 184, 3) := by decide +kernel
theorem dX11_prize_58 : decode cX11_prize 58 = .ok (.iload_n 1, 1) := by decide +kernel
theorem dX11_prize_59 : decode cX11_prize 59 = .ok (.iaload, 1) := by decide +kernel
theorem dX11_prize_60 : decode cX11_prize 60 = .ok (.if_icmp .le 5, 3) := by decide +kernel
theorem dX11_prize_63 : decode cX11_prize 63 = .ok (.iload_n 3, 1) := by decide +kernel
theorem dX11_prize_64 : decode cX11_prize 64 = .ok (.istore_n 1, 1) := by decide +kernel
theorem dX11_prize_65 : decode cX11_prize 65 = .ok (.iinc 3 1, 3) := by decide +kernel
theorem dX11_prize_68 : decode cX11_prize 68 = .ok (.goto (-49), 3) := by decide +kernel
theorem dX11_prize_71 : decode cX11_prize 71 = .ok (.aload_n 0, 1) := by decide +kernel
theorem dX11_prize_72 : decode cX11_prize 72 = .ok (.aload_n 0, 1) := by decide +kernel
theorem dX11_prize_73 : decode cX11_prize 73 = .ok (.getfield 33, 3) := by decide +kernel
theorem dX11_prize_76 : decode cX11_prize 76 = .ok (.getfield 184, 3) := by decide +kernel
theorem dX11_prize_79 : decode cX11_prize 79 = .ok (.iload_n 1, 1) := by decide +kernel
theorem dX11_prize_80 : decode cX11_prize 80 = .ok (.iaload, 1) := by decide +kernel
theorem dX11_prize_81 : decode cX11_prize 81 = .ok (.i2l, 1) := by decide +kernel
theorem dX11_prize_82 : decode cX11_prize 82 = .ok (.iload_n 2, 1) := by decide +kernel
theorem dX11_prize_83 : decode cX11_prize 83 = .ok (.i2l, 1) := by decide +kernel
theorem dX11_prize_84 : decode cX11_prize 84 = .ok (.invokevirtual 239, 3) := by decide +kernel
theorem dX11_prize_87 : decode cX11_prize 87 = .ok (.iload_n 1, 1) := by decide +kernel
theorem dX11_prize_88 : decode cX11_prize 88 = .ok (.ireturn, 1) := by decide +kernel
theorem dX11_pays_0 : decode cX11_pays 0 = .ok (.aload_n 0, 1) := by decide +kernel
theorem dX11_pays_1 : decode cX11_pays 1 = .ok (.getfield 19, 3) := by decide +kernel
theorem dX11_pays_4 : decode cX11_pays 4 = .ok (.iload_n 1, 1) := by decide +kernel
theorem dX11_pays_5 : decode cX11_pays 5 = .ok (.invokevirtual 164, 3) := by decide +kernel
theorem dX11_pays_8 : decode cX11_pays 8 = .ok (.ifCond .eq 23, 3) := by decide +kernel
theorem dX11_pays_11 : decode cX11_pays 11 = .ok (.iload_n 2, 1) := by decide +kernel
theorem dX11_pays_12 : decode cX11_pays 12 = .ok (.ifCond .lt 19, 3) := by decide +kernel
theorem dX11_pays_15 : decode cX11_pays 15 = .ok (.iload_n 2, 1) := by decide +kernel
theorem dX11_pays_16 : decode cX11_pays 16 = .ok (.bipush 50, 2) := by decide +kernel
theorem dX11_pays_18 : decode cX11_pays 18 = .ok (.if_icmp .gt 13, 3) := by decide +kernel
theorem dX11_pays_21 : decode cX11_pays 21 = .ok (.aload_n 0, 1) := by decide +kernel
theorem dX11_pays_22 : decode cX11_pays 22 = .ok (.getfield 56, 3) := by decide +kernel
theorem dX11_pays_25 : decode cX11_pays 25 = .ok (.getfield 161, 3) := by decide +kernel
theorem dX11_pays_28 : decode cX11_pays 28 = .ok (.ifCond .ne 5, 3) := by decide +kernel
theorem dX11_pays_31 : decode cX11_pays 31 = .ok (.iconst (-1), 1) := by decide +kernel
theorem dX11_pays_32 : decode cX11_pays 32 = .ok (.ireturn, 1) := by decide +kernel
theorem dX11_pays_33 : decode cX11_pays 33 = .ok (.aload_n 0, 1) := by decide +kernel
theorem dX11_pays_34 : decode cX11_pays 34 = .ok (.iload_n 2, 1) := by decide +kernel
theorem dX11_pays_35 : decode cX11_pays 35 = .ok (.invokevirtual 403, 3) := by decide +kernel
theorem dX11_pays_38 : decode cX11_pays 38 = .ok (.aload_n 0, 1) := by decide +kernel
theorem dX11_pays_39 : decode cX11_pays 39 = .ok (.getfield 37, 3) := by decide +kernel
theorem dX11_pays_42 : decode cX11_pays 42 = .ok (.getfield 181, 3) := by decide +kernel
theorem dX11_pays_45 : decode cX11_pays 45 = .ok (.iload_n 1, 1) := by decide +kernel
theorem dX11_pays_46 : decode cX11_pays 46 = .ok (.iaload, 1) := by decide +kernel
theorem dX11_pays_47 : decode cX11_pays 47 = .ok (.istore_n 3, 1) := by decide +kernel
theorem dX11_pays_48 : decode cX11_pays 48 = .ok (.aload_n 0, 1) := by decide +kernel
theorem dX11_pays_49 : decode cX11_pays 49 = .ok (.getfield 19, 3) := by decide +kernel
theorem dX11_pays_52 : decode cX11_pays 52 = .ok (.dup, 1) := by decide +kernel
theorem dX11_pays_53 : decode cX11_pays 53 = .ok (.getfield 211, 3) := by decide +kernel
theorem dX11_pays_56 : decode cX11_pays 56 = .ok (.iconst 1, 1) := by decide +kernel
theorem dX11_pays_57 : decode cX11_pays 57 = .ok (.iload_n 1, 1) := by decide +kernel
theorem dX11_pays_58 : decode cX11_pays 58 = .ok (.ishl, 1) := by decide +kernel
theorem dX11_pays_59 : decode cX11_pays 59 = .ok (.ixor, 1) := by decide +kernel
theorem dX11_pays_60 : decode cX11_pays 60 = .ok (.putfield 211, 3) := by decide +kernel
theorem dX11_pays_63 : decode cX11_pays 63 = .ok (.aload_n 0, 1) := by decide +kernel
theorem dX11_pays_64 : decode cX11_pays 64 = .ok (.iload_n 2, 1) := by decide +kernel
theorem dX11_pays_65 : decode cX11_pays 65 = .ok (.invokevirtual 403, 3) := by decide +kernel
theorem dX11_pays_68 : decode cX11_pays 68 = .ok (.aload_n 0, 1) := by decide +kernel
theorem dX11_pays_69 : decode cX11_pays 69 = .ok (.getfield 19, 3) := by decide +kernel
theorem dX11_pays_72 : decode cX11_pays 72 = .ok (.dup, 1) := by decide +kernel
theorem dX11_pays_73 : decode cX11_pays 73 = .ok (.getfield 211, 3) := by decide +kernel
theorem dX11_pays_76 : decode cX11_pays 76 = .ok (.iconst 1, 1) := by decide +kernel
theorem dX11_pays_77 : decode cX11_pays 77 = .ok (.iload_n 1, 1) := by decide +kernel
theorem dX11_pays_78 : decode cX11_pays 78 = .ok (.ishl, 1) := by decide +kernel
theorem dX11_pays_79 : decode cX11_pays 79 = .ok (.ixor, 1) := by decide +kernel
theorem dX11_pays_80 : decode cX11_pays 80 = .ok (.putfield 211, 3) := by decide +kernel
theorem dX11_pays_83 : decode cX11_pays 83 = .ok (.aload_n 0, 1) := by decide +kernel
theorem dX11_pays_84 : decode cX11_pays 84 = .ok (.iload_n 3, 1) := by decide +kernel
theorem dX11_pays_85 : decode cX11_pays 85 = .ok (.i2l, 1) := by decide +kernel
theorem dX11_pays_86 : decode cX11_pays 86 = .ok (.aload_n 0, 1) := by decide +kernel
theorem dX11_pays_87 : decode cX11_pays 87 = .ok (.getfield 37, 3) := by decide +kernel
theorem dX11_pays_90 : decode cX11_pays 90 = .ok (.getfield 181, 3) := by decide +kernel
theorem dX11_pays_93 : decode cX11_pays 93 = .ok (.iload_n 1, 1) := by decide +kernel
theorem dX11_pays_94 : decode cX11_pays 94 = .ok (.iaload, 1) := by decide +kernel
theorem dX11_pays_95 : decode cX11_pays 95 = .ok (.i2l, 1) := by decide +kernel
theorem dX11_pays_96 : decode cX11_pays 96 = .ok (.invokevirtual 239, 3) := by decide +kernel
theorem dX11_pays_99 : decode cX11_pays 99 = .ok (.iload_n 3, 1) := by decide +kernel
theorem dX11_pays_100 : decode cX11_pays 100 = .ok (.aload_n 0, 1) := by decide +kernel
theorem dX11_pays_101 : decode cX11_pays 101 = .ok (.getfield 37, 3) := by decide +kernel
theorem dX11_pays_104 : decode cX11_pays 104 = .ok (.getfield 181, 3) := by decide +kernel
theorem dX11_pays_107 : decode cX11_pays 107 = .ok (.iload_n 1, 1) := by decide +kernel
theorem dX11_pays_108 : decode cX11_pays 108 = .ok (.iaload, 1) := by decide +kernel
theorem dX11_pays_109 : decode cX11_pays 109 = .ok (.isub, 1) := by decide +kernel
theorem dX11_pays_110 : decode cX11_pays 110 = .ok (.ireturn, 1) := by decide +kernel
theorem dX11_laws_0 : decode cX11_laws 0 = .ok (.iload_n 1, 1) := by decide +kernel
theorem dX11_laws_1 : decode cX11_laws 1 = .ok (.ifCond .lt 19, 3) := by decide +kernel
theorem dX11_laws_4 : decode cX11_laws 4 = .ok (.iload_n 1, 1) := by decide +kernel
theorem dX11_laws_5 : decode cX11_laws 5 = .ok (.bipush 50, 2) := by decide +kernel
theorem dX11_laws_7 : decode cX11_laws 7 = .ok (.if_icmp .gt 13, 3) := by decide +kernel
theorem dX11_laws_10 : decode cX11_laws 10 = .ok (.aload_n 0, 1) := by decide +kernel
theorem dX11_laws_11 : decode cX11_laws 11 = .ok (.getfield 56, 3) := by decide +kernel
theorem dX11_laws_14 : decode cX11_laws 14 = .ok (.getfield 161, 3) := by decide +kernel
theorem dX11_laws_17 : decode cX11_laws 17 = .ok (.ifCond .ne 5, 3) := by decide +kernel
theorem dX11_laws_20 : decode cX11_laws 20 = .ok (.iconst (-1), 1) := by decide +kernel
theorem dX11_laws_21 : decode cX11_laws 21 = .ok (.ireturn, 1) := by decide +kernel
theorem dX11_laws_22 : decode cX11_laws 22 = .ok (.aload_n 0, 1) := by decide +kernel
theorem dX11_laws_23 : decode cX11_laws 23 = .ok (.getfield 19, 3) := by decide +kernel
theorem dX11_laws_26 : decode cX11_laws 26 = .ok (.getfield 197, 3) := by decide +kernel
theorem dX11_laws_29 : decode cX11_laws 29 = .ok (.iconst 0, 1) := by decide +kernel
theorem dX11_laws_30 : decode cX11_laws 30 = .ok (.iaload, 1) := by decide +kernel
theorem dX11_laws_31 : decode cX11_laws 31 = .ok (.istore_n 2, 1) := by decide +kernel
theorem dX11_laws_32 : decode cX11_laws 32 = .ok (.iconst 0, 1) := by decide +kernel
theorem dX11_laws_33 : decode cX11_laws 33 = .ok (.istore_n 3, 1) := by decide +kernel
theorem dX11_laws_34 : decode cX11_laws 34 = .ok (.iconst 0, 1) := by decide +kernel
theorem dX11_laws_35 : decode cX11_laws 35 = .ok (.istore 4, 2) := by decide +kernel
theorem dX11_laws_37 : decode cX11_laws 37 = .ok (.iload 4, 2) := by decide +kernel
theorem dX11_laws_39 : decode cX11_laws 39 = .ok (.iconst 4, 1) := by decide +kernel
theorem dX11_laws_40 : decode cX11_laws 40 = .ok (.if_icmp .ge 64, 3) := by decide +kernel
theorem dX11_laws_43 : decode cX11_laws 43 = .ok (.aload_n 0, 1) := by decide +kernel
theorem dX11_laws_44 : decode cX11_laws 44 = .ok (.getfield 19, 3) := by decide +kernel
theorem dX11_laws_47 : decode cX11_laws 47 = .ok (.getfield 197, 3) := by decide +kernel
theorem dX11_laws_50 : decode cX11_laws 50 = .ok (.iconst 0, 1) := by decide +kernel
theorem dX11_laws_51 : decode cX11_laws 51 = .ok (.iload 4, 2) := by decide +kernel
theorem dX11_laws_53 : decode cX11_laws 53 = .ok (.iastore, 1) := by decide +kernel
theorem dX11_laws_54 : decode cX11_laws 54 = .ok (.aload_n 0, 1) := by decide +kernel
theorem dX11_laws_55 : decode cX11_laws 55 = .ok (.iload_n 1, 1) := by decide +kernel
theorem dX11_laws_56 : decode cX11_laws 56 = .ok (.invokevirtual 403, 3) := by decide +kernel
theorem dX11_laws_59 : decode cX11_laws 59 = .ok (.aload_n 0, 1) := by decide +kernel
theorem dX11_laws_60 : decode cX11_laws 60 = .ok (.getfield 83, 3) := by decide +kernel
theorem dX11_laws_63 : decode cX11_laws 63 = .ok (.iload 4, 2) := by decide +kernel
theorem dX11_laws_65 : decode cX11_laws 65 = .ok (.aload_n 0, 1) := by decide +kernel
theorem dX11_laws_66 : decode cX11_laws 66 = .ok (.getfield 19, 3) := by decide +kernel
theorem dX11_laws_69 : decode cX11_laws 69 = .ok (.aload_n 0, 1) := by decide +kernel
theorem dX11_laws_70 : decode cX11_laws 70 = .ok (.getfield 37, 3) := by decide +kernel
theorem dX11_laws_73 : decode cX11_laws 73 = .ok (.invokevirtual 263, 3) := by decide +kernel
theorem dX11_laws_76 : decode cX11_laws 76 = .ok (.i2l, 1) := by decide +kernel
theorem dX11_laws_77 : decode cX11_laws 77 = .ok (.lastore, 1) := by decide +kernel
theorem dX11_laws_78 : decode cX11_laws 78 = .ok (.aload_n 0, 1) := by decide +kernel
theorem dX11_laws_79 : decode cX11_laws 79 = .ok (.getfield 83, 3) := by decide +kernel
theorem dX11_laws_82 : decode cX11_laws 82 = .ok (.iload 4, 2) := by decide +kernel
theorem dX11_laws_84 : decode cX11_laws 84 = .ok (.laload, 1) := by decide +kernel
theorem dX11_laws_85 : decode cX11_laws 85 = .ok (.aload_n 0, 1) := by decide +kernel
theorem dX11_laws_86 : decode cX11_laws 86 = .ok (.getfield 83, 3) := by decide +kernel
theorem dX11_laws_89 : decode cX11_laws 89 = .ok (.iload_n 3, 1) := by decide +kernel
theorem dX11_laws_90 : decode cX11_laws 90 = .ok (.laload, 1) := by decide +kernel
theorem dX11_laws_91 : decode cX11_laws 91 = .ok (.lcmp, 1) := by decide +kernel
theorem dX11_laws_92 : decode cX11_laws 92 = .ok (.ifCond .le 6, 3) := by decide +kernel
theorem dX11_laws_95 : decode cX11_laws 95 = .ok (.iload 4, 2) := by decide +kernel
theorem dX11_laws_97 : decode cX11_laws 97 = .ok (.istore_n 3, 1) := by decide +kernel
theorem dX11_laws_98 : decode cX11_laws 98 = .ok (.iinc 4 1, 3) := by decide +kernel
theorem dX11_laws_101 : decode cX11_laws 101 = .ok (.goto (-64), 3) := by decide +kernel
theorem dX11_laws_104 : decode cX11_laws 104 = .ok (.aload_n 0, 1) := by decide +kernel
theorem dX11_laws_105 : decode cX11_laws 105 = .ok (.getfield 19, 3) := by decide +kernel
theorem dX11_laws_108 : decode cX11_laws 108 = .ok (.getfield 197, 3) := by decide +kernel
theorem dX11_laws_111 : decode cX11_laws 111 = .ok (.iconst 0, 1) := by decide +kernel
theorem dX11_laws_112 : decode cX11_laws 112 = .ok (.iload_n 2, 1) := by decide +kernel
theorem dX11_laws_113 : decode cX11_laws 113 = .ok (.iastore, 1) := by decide +kernel
theorem dX11_laws_114 : decode cX11_laws 114 = .ok (.aload_n 0, 1) := by decide +kernel
theorem dX11_laws_115 : decode cX11_laws 115 = .ok (.iconst 4, 1) := by decide +kernel
theorem dX11_laws_116 : decode cX11_laws 116 = .ok (.putfield 87, 3) := by decide +kernel
theorem dX11_laws_119 : decode cX11_laws 119 = .ok (.iload_n 3, 1) := by decide +kernel
theorem dX11_laws_120 : decode cX11_laws 120 = .ok (.ireturn, 1) := by decide +kernel
theorem dX11_playAhead_0 : decode cX11_playAhead 0 = .ok (.aload_n 0, 1) := by decide +kernel
theorem dX11_playAhead_1 : decode cX11_playAhead 1 = .ok (.getfield 37, 3) := by decide +kernel
theorem dX11_playAhead_4 : decode cX11_playAhead 4 = .ok (.aload_n 0, 1) := by decide +kernel
theorem dX11_playAhead_5 : decode cX11_playAhead 5 = .ok (.getfield 33, 3) := by decide +kernel
theorem dX11_playAhead_8 : decode cX11_playAhead 8 = .ok (.invokevirtual 221, 3) := by decide +kernel
theorem dX11_playAhead_11 : decode cX11_playAhead 11 = .ok (.aload_n 0, 1) := by decide +kernel
theorem dX11_playAhead_12 : decode cX11_playAhead 12 = .ok (.getfield 63, 3) := by decide +kernel
theorem dX11_playAhead_15 : decode cX11_playAhead 15 = .ok (.istore_n 2, 1) := by decide +kernel
theorem dX11_playAhead_16 : decode cX11_playAhead 16 = .ok (.iconst 0, 1) := by decide +kernel
theorem dX11_playAhead_17 : decode cX11_playAhead 17 = .ok (.istore_n 3, 1) := by decide +kernel
theorem dX11_playAhead_18 : decode cX11_playAhead 18 = .ok (.iload_n 3, 1) := by decide +kernel
theorem dX11_playAhead_19 : decode cX11_playAhead 19 = .ok (.iload_n 1, 1) := by decide +kernel
theorem dX11_playAhead_20 : decode cX11_playAhead 20 = .ok (.if_icmp .ge 130, 3) := by decide +kernel
theorem dX11_playAhead_23 : decode cX11_playAhead 23 = .ok (.aload_n 0, 1) := by decide +kernel
theorem dX11_playAhead_24 : decode cX11_playAhead 24 = .ok (.getfield 56, 3) := by decide +kernel
theorem dX11_playAhead_27 : decode cX11_playAhead 27 = .ok (.iload_n 2, 1) := by decide +kernel
theorem dX11_playAhead_28 : decode cX11_playAhead 28 = .ok (.iconst 1, 1) := by decide +kernel
theorem dX11_playAhead_29 : decode cX11_playAhead 29 = .ok (.iadd, 1) := by decide +kernel
theorem dX11_playAhead_30 : decode cX11_playAhead 30 = .ok (.invokevirtual 270, 3) := by decide +kernel
theorem dX11_playAhead_33 : decode cX11_playAhead 33 = .ok (.istore 4, 2) := by decide +kernel
theorem dX11_playAhead_35 : decode cX11_playAhead 35 = .ok (.aload_n 0, 1) := by decide +kernel
theorem dX11_playAhead_36 : decode cX11_playAhead 36 = .ok (.getfield 56, 3) := by decide +kernel
theorem dX11_playAhead_39 : decode cX11_playAhead 39 = .ok (.iload_n 2, 1) := by decide +kernel
theorem dX11_playAhead_40 : decode cX11_playAhead 40 = .ok (.invokevirtual 270, 3) := by decide +kernel
theorem dX11_playAhead_43 : decode cX11_playAhead 43 = .ok (.istore 5, 2) := by decide +kernel
theorem dX11_playAhead_45 : decode cX11_playAhead 45 = .ok (.iload 5, 2) := by decide +kernel
theorem dX11_playAhead_47 : decode cX11_playAhead 47 = .ok (.iload 4, 2) := by decide +kernel
theorem dX11_playAhead_49 : decode cX11_playAhead 49 = .ok (.if_icmp .ge 86, 3) := by decide +kernel
theorem dX11_playAhead_52 : decode cX11_playAhead 52 = .ok (.aload_n 0, 1) := by decide +kernel
theorem dX11_playAhead_53 : decode cX11_playAhead 53 = .ok (.getfield 19, 3) := by decide +kernel
theorem dX11_playAhead_56 : decode cX11_playAhead 56 = .ok (.aload_n 0, 1) := by decide +kernel
theorem dX11_playAhead_57 : decode cX11_playAhead 57 = .ok (.getfield 37, 3) := by decide +kernel
theorem dX11_playAhead_60 : decode cX11_playAhead 60 = .ok (.aload_n 0, 1) := by decide +kernel
theorem dX11_playAhead_61 : decode cX11_playAhead 61 = .ok (.getfield 56, 3) := by decide +kernel
theorem dX11_playAhead_64 : decode cX11_playAhead 64 = .ok (.getfield 274, 3) := by decide +kernel
theorem dX11_playAhead_67 : decode cX11_playAhead 67 = .ok (.iload 5, 2) := by decide +kernel
theorem dX11_playAhead_69 : decode cX11_playAhead 69 = .ok (.iaload, 1) := by decide +kernel
theorem dX11_playAhead_70 : decode cX11_playAhead 70 = .ok (.aload_n 0, 1) := by decide +kernel
theorem dX11_playAhead_71 : decode cX11_playAhead 71 = .ok (.getfield 56, 3) := by decide +kernel
theorem dX11_playAhead_74 : decode cX11_playAhead 74 = .ok (.getfield 277, 3) := by decide +kernel
theorem dX11_playAhead_77 : decode cX11_playAhead 77 = .ok (.iload 5, 2) := by decide +kernel
theorem dX11_playAhead_79 : decode cX11_playAhead 79 = .ok (.iaload, 1) := by decide +kernel
theorem dX11_playAhead_80 : decode cX11_playAhead 80 = .ok (.aload_n 0, 1) := by decide +kernel
theorem dX11_playAhead_81 : decode cX11_playAhead 81 = .ok (.getfield 56, 3) := by decide +kernel
theorem dX11_playAhead_84 : decode cX11_playAhead 84 = .ok (.getfield 280, 3) := by decide +kernel
theorem dX11_playAhead_87 : decode cX11_playAhead 87 = .ok (.iload 5, 2) := by decide +kernel
theorem dX11_playAhead_89 : decode cX11_playAhead 89 = .ok (.iaload, 1) := by decide +kernel
theorem dX11_playAhead_90 : decode cX11_playAhead 90 = .ok (.invokevirtual 225, 3) := by decide +kernel
theorem dX11_playAhead_93 : decode cX11_playAhead 93 = .ok (.istore 6, 2) := by decide +kernel
theorem dX11_playAhead_95 : decode cX11_playAhead 95 = .ok (.aload_n 0, 1) := by decide +kernel
theorem dX11_playAhead_96 : decode cX11_playAhead 96 = .ok (.getfield 19, 3) := by decide +kernel
theorem dX11_playAhead_99 : decode cX11_playAhead 99 = .ok (.aload_n 0, 1) := by decide +kernel
theorem dX11_playAhead_100 : decode cX11_playAhead 100 = .ok (.getfield 37, 3) := by decide +kernel
theorem dX11_playAhead_103 : decode cX11_playAhead 103 = .ok (.aload_n 0, 1) := by decide +kernel
theorem dX11_playAhead_104 : decode cX11_playAhead 104 = .ok (.getfield 56, 3) := by decide +kernel
theorem dX11_playAhead_107 : decode cX11_playAhead 107 = .ok (.getfield 274, 3) := by decide +kernel
theorem dX11_playAhead_110 : decode cX11_playAhead 110 = .ok (.iload 5, 2) := by decide +kernel
theorem dX11_playAhead_112 : decode cX11_playAhead 112 = .ok (.iaload, 1) := by decide +kernel
theorem dX11_playAhead_113 : decode cX11_playAhead 113 = .ok (.aload_n 0, 1) := by decide +kernel
theorem dX11_playAhead_114 : decode cX11_playAhead 114 = .ok (.getfield 56, 3) := by decide +kernel
theorem dX11_playAhead_117 : decode cX11_playAhead 117 = .ok (.getfield 277, 3) := by decide +kernel
theorem dX11_playAhead_120 : decode cX11_playAhead 120 = .ok (.iload 5, 2) := by decide +kernel
theorem dX11_playAhead_122 : decode cX11_playAhead 122 = .ok (.iaload, 1) := by decide +kernel
theorem dX11_playAhead_123 : decode cX11_playAhead 123 = .ok (.iload 6, 2) := by decide +kernel
theorem dX11_playAhead_125 : decode cX11_playAhead 125 = .ok (.iconst 1, 1) := by decide +kernel
theorem dX11_playAhead_126 : decode cX11_playAhead 126 = .ok (.invokevirtual 229, 3) := by decide +kernel
theorem dX11_playAhead_129 : decode cX11_playAhead 129 = .ok (.iinc 5 1, 3) := by decide +kernel
theorem dX11_playAhead_132 : decode cX11_playAhead 132 = .ok (.goto (-87), 3) := by decide +kernel
theorem dX11_playAhead_135 : decode cX11_playAhead 135 = .ok (.aload_n 0, 1) := by decide +kernel
theorem dX11_playAhead_136 : decode cX11_playAhead 136 = .ok (.getfield 56, 3) := by decide +kernel
theorem dX11_playAhead_139 : decode cX11_playAhead 139 = .ok (.iload_n 2, 1) := by decide +kernel
theorem dX11_playAhead_140 : decode cX11_playAhead 140 = .ok (.invokevirtual 281, 3) := by decide +kernel
theorem dX11_playAhead_143 : decode cX11_playAhead 143 = .ok (.istore_n 2, 1) := by decide +kernel
theorem dX11_playAhead_144 : decode cX11_playAhead 144 = .ok (.iinc 3 1, 3) := by decide +kernel
theorem dX11_playAhead_147 : decode cX11_playAhead 147 = .ok (.goto (-129), 3) := by decide +kernel
theorem dX11_playAhead_150 : decode cX11_playAhead 150 = .ok (.return_, 1) := by decide +kernel
theorem dX11_seed_0 : decode cX11_seed 0 = .ok (.aload_n 0, 1) := by decide +kernel
theorem dX11_seed_1 : decode cX11_seed 1 = .ok (.getfield 33, 3) := by decide +kernel
theorem dX11_seed_4 : decode cX11_seed 4 = .ok (.getfield 406, 3) := by decide +kernel
theorem dX11_seed_7 : decode cX11_seed 7 = .ok (.istore_n 2, 1) := by decide +kernel
theorem dX11_seed_8 : decode cX11_seed 8 = .ok (.aload_n 0, 1) := by decide +kernel
theorem dX11_seed_9 : decode cX11_seed 9 = .ok (.getfield 33, 3) := by decide +kernel
theorem dX11_seed_12 : decode cX11_seed 12 = .ok (.iload_n 1, 1) := by decide +kernel
theorem dX11_seed_13 : decode cX11_seed 13 = .ok (.putfield 406, 3) := by decide +kernel
theorem dX11_seed_16 : decode cX11_seed 16 = .ok (.iload_n 2, 1) := by decide +kernel
theorem dX11_seed_17 : decode cX11_seed 17 = .ok (.ireturn, 1) := by decide +kernel
theorem dX11_keep_0 : decode cX11_keep 0 = .ok (.iload_n 1, 1) := by decide +kernel
theorem dX11_keep_1 : decode cX11_keep 1 = .ok (.ifCond .lt 12, 3) := by decide +kernel
theorem dX11_keep_4 : decode cX11_keep 4 = .ok (.iload_n 1, 1) := by decide +kernel
theorem dX11_keep_5 : decode cX11_keep 5 = .ok (.aload_n 0, 1) := by decide +kernel
theorem dX11_keep_6 : decode cX11_keep 6 = .ok (.getfield 49, 3) := by decide +kernel
theorem dX11_keep_9 : decode cX11_keep 9 = .ok (.arraylength, 1) := by decide +kernel
theorem dX11_keep_10 : decode cX11_keep 10 = .ok (.if_icmp .lt 5, 3) := by decide +kernel
theorem dX11_keep_13 : decode cX11_keep 13 = .ok (.iconst 0, 1) := by decide +kernel
theorem dX11_keep_14 : decode cX11_keep 14 = .ok (.ireturn, 1) := by decide +kernel
theorem dX11_keep_15 : decode cX11_keep 15 = .ok (.aload_n 0, 1) := by decide +kernel
theorem dX11_keep_16 : decode cX11_keep 16 = .ok (.getfield 49, 3) := by decide +kernel
theorem dX11_keep_19 : decode cX11_keep 19 = .ok (.iload_n 1, 1) := by decide +kernel
theorem dX11_keep_20 : decode cX11_keep 20 = .ok (.aaload, 1) := by decide +kernel
theorem dX11_keep_21 : decode cX11_keep 21 = .ok (.aload_n 0, 1) := by decide +kernel
theorem dX11_keep_22 : decode cX11_keep 22 = .ok (.getfield 19, 3) := by decide +kernel
theorem dX11_keep_25 : decode cX11_keep 25 = .ok (.aload_n 0, 1) := by decide +kernel
theorem dX11_keep_26 : decode cX11_keep 26 = .ok (.getfield 33, 3) := by decide +kernel
theorem dX11_keep_29 : decode cX11_keep 29 = .ok (.aload_n 0, 1) := by decide +kernel
theorem dX11_keep_30 : decode cX11_keep 30 = .ok (.getfield 63, 3) := by decide +kernel
theorem dX11_keep_33 : decode cX11_keep 33 = .ok (.invokevirtual 409, 3) := by decide +kernel
theorem dX11_keep_36 : decode cX11_keep 36 = .ok (.iconst 1, 1) := by decide +kernel
theorem dX11_keep_37 : decode cX11_keep 37 = .ok (.ireturn, 1) := by decide +kernel
theorem dX11_again_0 : decode cX11_again 0 = .ok (.iload_n 1, 1) := by decide +kernel
theorem dX11_again_1 : decode cX11_again 1 = .ok (.ifCond .lt 24, 3) := by decide +kernel
theorem dX11_again_4 : decode cX11_again 4 = .ok (.iload_n 1, 1) := by decide +kernel
theorem dX11_again_5 : decode cX11_again 5 = .ok (.aload_n 0, 1) := by decide +kernel
theorem dX11_again_6 : decode cX11_again 6 = .ok (.getfield 49, 3) := by decide +kernel
theorem dX11_again_9 : decode cX11_again 9 = .ok (.arraylength, 1) := by decide +kernel
theorem dX11_again_10 : decode cX11_again 10 = .ok (.if_icmp .ge 15, 3) := by decide +kernel
theorem dX11_again_13 : decode cX11_again 13 = .ok (.aload_n 0, 1) := by decide +kernel
theorem dX11_again_14 : decode cX11_again 14 = .ok (.getfield 49, 3) := by decide +kernel
theorem dX11_again_17 : decode cX11_again 17 = .ok (.iload_n 1, 1) := by decide +kernel
theorem dX11_again_18 : decode cX11_again 18 = .ok (.aaload, 1) := by decide +kernel
theorem dX11_again_19 : decode cX11_again 19 = .ok (.getfield 136, 3) := by decide +kernel
theorem dX11_again_22 : decode cX11_again 22 = .ok (.ifCond .ne 5, 3) := by decide +kernel
theorem dX11_again_25 : decode cX11_again 25 = .ok (.iconst 0, 1) := by decide +kernel
theorem dX11_again_26 : decode cX11_again 26 = .ok (.ireturn, 1) := by decide +kernel
theorem dX11_again_27 : decode cX11_again 27 = .ok (.aload_n 0, 1) := by decide +kernel
theorem dX11_again_28 : decode cX11_again 28 = .ok (.getfield 49, 3) := by decide +kernel
theorem dX11_again_31 : decode cX11_again 31 = .ok (.iload_n 1, 1) := by decide +kernel
theorem dX11_again_32 : decode cX11_again 32 = .ok (.aaload, 1) := by decide +kernel
theorem dX11_again_33 : decode cX11_again 33 = .ok (.aload_n 0, 1) := by decide +kernel
theorem dX11_again_34 : decode cX11_again 34 = .ok (.getfield 19, 3) := by decide +kernel
theorem dX11_again_37 : decode cX11_again 37 = .ok (.aload_n 0, 1) := by decide +kernel
theorem dX11_again_38 : decode cX11_again 38 = .ok (.getfield 33, 3) := by decide +kernel
theorem dX11_again_41 : decode cX11_again 41 = .ok (.invokevirtual 413, 3) := by decide +kernel
theorem dX11_again_44 : decode cX11_again 44 = .ok (.aload_n 0, 1) := by decide +kernel
theorem dX11_again_45 : decode cX11_again 45 = .ok (.aload_n 0, 1) := by decide +kernel
theorem dX11_again_46 : decode cX11_again 46 = .ok (.getfield 56, 3) := by decide +kernel
theorem dX11_again_49 : decode cX11_again 49 = .ok (.getfield 161, 3) := by decide +kernel
theorem dX11_again_52 : decode cX11_again 52 = .ok (.ifCond .le 23, 3) := by decide +kernel
theorem dX11_again_55 : decode cX11_again 55 = .ok (.aload_n 0, 1) := by decide +kernel
theorem dX11_again_56 : decode cX11_again 56 = .ok (.getfield 49, 3) := by decide +kernel
theorem dX11_again_59 : decode cX11_again 59 = .ok (.iload_n 1, 1) := by decide +kernel
theorem dX11_again_60 : decode cX11_again 60 = .ok (.aaload, 1) := by decide +kernel
theorem dX11_again_61 : decode cX11_again 61 = .ok (.getfield 416, 3) := by decide +kernel
theorem dX11_again_64 : decode cX11_again 64 = .ok (.aload_n 0, 1) := by decide +kernel
theorem dX11_again_65 : decode cX11_again 65 = .ok (.getfield 56, 3) := by decide +kernel
theorem dX11_again_68 : decode cX11_again 68 = .ok (.getfield 161, 3) := by decide +kernel
theorem dX11_again_71 : decode cX11_again 71 = .ok (.irem, 1) := by decide +kernel
theorem dX11_again_72 : decode cX11_again 72 = .ok (.goto 4, 3) := by decide +kernel
theorem dX11_again_75 : decode cX11_again 75 = .ok (.iconst 0, 1) := by decide +kernel
theorem dX11_again_76 : decode cX11_again 76 = .ok (.putfield 63, 3) := by decide +kernel
theorem dX11_again_79 : decode cX11_again 79 = .ok (.aload_n 0, 1) := by decide +kernel
theorem dX11_again_80 : decode cX11_again 80 = .ok (.getfield 43, 3) := by decide +kernel
theorem dX11_again_83 : decode cX11_again 83 = .ok (.iconst 0, 1) := by decide +kernel
theorem dX11_again_84 : decode cX11_again 84 = .ok (.putfield 135, 3) := by decide +kernel
theorem dX11_again_87 : decode cX11_again 87 = .ok (.iconst 1, 1) := by decide +kernel
theorem dX11_again_88 : decode cX11_again 88 = .ok (.ireturn, 1) := by decide +kernel
theorem dX11_count_0 : decode cX11_count 0 = .ok (.iload_n 1, 1) := by decide +kernel
theorem dX11_count_1 : decode cX11_count 1 = .ok (.tableswitch 114 0 8 #[51, 59, 67, 75, 80, 88, 93, 98, 106], 51) := by decide +kernel
theorem dX11_count_52 : decode cX11_count 52 = .ok (.aload_n 0, 1) := by decide +kernel
theorem dX11_count_53 : decode cX11_count 53 = .ok (.getfield 19, 3) := by decide +kernel
theorem dX11_count_56 : decode cX11_count 56 = .ok (.getfield 155, 3) := by decide +kernel
theorem dX11_count_59 : decode cX11_count 59 = .ok (.ireturn, 1) := by decide +kernel
theorem dX11_count_60 : decode cX11_count 60 = .ok (.aload_n 0, 1) := by decide +kernel
theorem dX11_count_61 : decode cX11_count 61 = .ok (.getfield 19, 3) := by decide +kernel
theorem dX11_count_64 : decode cX11_count 64 = .ok (.getfield 419, 3) := by decide +kernel
theorem dX11_count_67 : decode cX11_count 67 = .ok (.ireturn, 1) := by decide +kernel
theorem dX11_count_68 : decode cX11_count 68 = .ok (.aload_n 0, 1) := by decide +kernel
theorem dX11_count_69 : decode cX11_count 69 = .ok (.getfield 56, 3) := by decide +kernel
theorem dX11_count_72 : decode cX11_count 72 = .ok (.getfield 161, 3) := by decide +kernel
theorem dX11_count_75 : decode cX11_count 75 = .ok (.ireturn, 1) := by decide +kernel
theorem dX11_count_76 : decode cX11_count 76 = .ok (.aload_n 0, 1) := by decide +kernel
theorem dX11_count_77 : decode cX11_count 77 = .ok (.getfield 63, 3) := by decide +kernel
theorem dX11_count_80 : decode cX11_count 80 = .ok (.ireturn, 1) := by decide +kernel
theorem dX11_count_81 : decode cX11_count 81 = .ok (.aload_n 0, 1) := by decide +kernel
theorem dX11_count_82 : decode cX11_count 82 = .ok (.getfield 43, 3) := by decide +kernel
theorem dX11_count_85 : decode cX11_count 85 = .ok (.getfield 135, 3) := by decide +kernel
theorem dX11_count_88 : decode cX11_count 88 = .ok (.ireturn, 1) := by decide +kernel
theorem dX11_count_89 : decode cX11_count 89 = .ok (.aload_n 0, 1) := by decide +kernel
theorem dX11_count_90 : decode cX11_count 90 = .ok (.getfield 77, 3) := by decide +kernel
theorem dX11_count_93 : decode cX11_count 93 = .ok (.ireturn, 1) := by decide +kernel
theorem dX11_count_94 : decode cX11_count 94 = .ok (.aload_n 0, 1) := by decide +kernel
theorem dX11_count_95 : decode cX11_count 95 = .ok (.getfield 87, 3) := by decide +kernel
theorem dX11_count_98 : decode cX11_count 98 = .ok (.ireturn, 1) := by decide +kernel
theorem dX11_count_99 : decode cX11_count 99 = .ok (.aload_n 0, 1) := by decide +kernel
theorem dX11_count_100 : decode cX11_count 100 = .ok (.getfield 12, 3) := by decide +kernel
theorem dX11_count_103 : decode cX11_count 103 = .ok (.getfield 114, 3) := by decide +kernel
theorem dX11_count_106 : decode cX11_count 106 = .ok (.ireturn, 1) := by decide +kernel
theorem dX11_count_107 : decode cX11_count 107 = .ok (.aload_n 0, 1) := by decide +kernel
theorem dX11_count_108 : decode cX11_count 108 = .ok (.getfield 56, 3) := by decide +kernel
theorem dX11_count_111 : decode cX11_count 111 = .ok (.getfield 422, 3) := by decide +kernel
theorem dX11_count_114 : decode cX11_count 114 = .ok (.ireturn, 1) := by decide +kernel
theorem dX11_count_115 : decode cX11_count 115 = .ok (.iconst (-1), 1) := by decide +kernel
theorem dX11_count_116 : decode cX11_count 116 = .ok (.ireturn, 1) := by decide +kernel
theorem dX11_row_0 : decode cX11_row 0 = .ok (.iload_n 1, 1) := by decide +kernel
theorem dX11_row_1 : decode cX11_row 1 = .ok (.ifCond .lt 11, 3) := by decide +kernel
theorem dX11_row_4 : decode cX11_row 4 = .ok (.iload_n 1, 1) := by decide +kernel
theorem dX11_row_5 : decode cX11_row 5 = .ok (.aload_n 0, 1) := by decide +kernel
theorem dX11_row_6 : decode cX11_row 6 = .ok (.getfield 87, 3) := by decide +kernel
theorem dX11_row_9 : decode cX11_row 9 = .ok (.if_icmp .lt 11, 3) := by decide +kernel
theorem dX11_row_12 : decode cX11_row 12 = .ok (.new 174, 3) := by decide +kernel
theorem dX11_row_15 : decode cX11_row 15 = .ok (.dup, 1) := by decide +kernel
theorem dX11_row_16 : decode cX11_row 16 = .ok (.invokespecial 176, 3) := by decide +kernel
theorem dX11_row_19 : decode cX11_row 19 = .ok (.athrow, 1) := by decide +kernel
theorem dX11_row_20 : decode cX11_row 20 = .ok (.aload_n 0, 1) := by decide +kernel
theorem dX11_row_21 : decode cX11_row 21 = .ok (.getfield 83, 3) := by decide +kernel
theorem dX11_row_24 : decode cX11_row 24 = .ok (.iload_n 1, 1) := by decide +kernel
theorem dX11_row_25 : decode cX11_row 25 = .ok (.laload, 1) := by decide +kernel
theorem dX11_row_26 : decode cX11_row 26 = .ok (.lreturn, 1) := by decide +kernel
theorem dX11_tell_0 : decode cX11_tell 0 = .ok (.aload_n 0, 1) := by decide +kernel
theorem dX11_tell_1 : decode cX11_tell 1 = .ok (.getfield 83, 3) := by decide +kernel
theorem dX11_tell_4 : decode cX11_tell 4 = .ok (.iconst 0, 1) := by decide +kernel
theorem dX11_tell_5 : decode cX11_tell 5 = .ok (.lload_n 1, 1) := by decide +kernel
theorem dX11_tell_6 : decode cX11_tell 6 = .ok (.lastore, 1) := by decide +kernel
theorem dX11_tell_7 : decode cX11_tell 7 = .ok (.aload_n 0, 1) := by decide +kernel
theorem dX11_tell_8 : decode cX11_tell 8 = .ok (.iconst 1, 1) := by decide +kernel
theorem dX11_tell_9 : decode cX11_tell 9 = .ok (.putfield 87, 3) := by decide +kernel
theorem dX11_tell_12 : decode cX11_tell 12 = .ok (.return_, 1) := by decide +kernel
theorem dX11_tell__0 : decode cX11_tell_ 0 = .ok (.aload_n 0, 1) := by decide +kernel
theorem dX11_tell__1 : decode cX11_tell_ 1 = .ok (.getfield 83, 3) := by decide +kernel
theorem dX11_tell__4 : decode cX11_tell_ 4 = .ok (.iconst 0, 1) := by decide +kernel
theorem dX11_tell__5 : decode cX11_tell_ 5 = .ok (.lload_n 1, 1) := by decide +kernel
theorem dX11_tell__6 : decode cX11_tell_ 6 = .ok (.lastore, 1) := by decide +kernel
theorem dX11_tell__7 : decode cX11_tell_ 7 = .ok (.aload_n 0, 1) := by decide +kernel
theorem dX11_tell__8 : decode cX11_tell_ 8 = .ok (.getfield 83, 3) := by decide +kernel
theorem dX11_tell__11 : decode cX11_tell_ 11 = .ok (.iconst 1, 1) := by decide +kernel
theorem dX11_tell__12 : decode cX11_tell_ 12 = .ok (.lload_n 3, 1) := by decide +kernel
theorem dX11_tell__13 : decode cX11_tell_ 13 = .ok (.lastore, 1) := by decide +kernel
theorem dX11_tell__14 : decode cX11_tell_ 14 = .ok (.aload_n 0, 1) := by decide +kernel
theorem dX11_tell__15 : decode cX11_tell_ 15 = .ok (.iconst 2, 1) := by decide +kernel
theorem dX11_tell__16 : decode cX11_tell_ 16 = .ok (.putfield 87, 3) := by decide +kernel
theorem dX11_tell__19 : decode cX11_tell_ 19 = .ok (.return_, 1) := by decide +kernel
theorem dX11_tell___0 : decode cX11_tell__ 0 = .ok (.aload_n 0, 1) := by decide +kernel
theorem dX11_tell___1 : decode cX11_tell__ 1 = .ok (.getfield 83, 3) := by decide +kernel
theorem dX11_tell___4 : decode cX11_tell__ 4 = .ok (.iconst 0, 1) := by decide +kernel
theorem dX11_tell___5 : decode cX11_tell__ 5 = .ok (.lload_n 1, 1) := by decide +kernel
theorem dX11_tell___6 : decode cX11_tell__ 6 = .ok (.lastore, 1) := by decide +kernel
theorem dX11_tell___7 : decode cX11_tell__ 7 = .ok (.aload_n 0, 1) := by decide +kernel
theorem dX11_tell___8 : decode cX11_tell__ 8 = .ok (.getfield 83, 3) := by decide +kernel
theorem dX11_tell___11 : decode cX11_tell__ 11 = .ok (.iconst 1, 1) := by decide +kernel
theorem dX11_tell___12 : decode cX11_tell__ 12 = .ok (.lload_n 3, 1) := by decide +kernel
theorem dX11_tell___13 : decode cX11_tell__ 13 = .ok (.lastore, 1) := by decide +kernel
theorem dX11_tell___14 : decode cX11_tell__ 14 = .ok (.aload_n 0, 1) := by decide +kernel
theorem dX11_tell___15 : decode cX11_tell__ 15 = .ok (.getfield 83, 3) := by decide +kernel
theorem dX11_tell___18 : decode cX11_tell__ 18 = .ok (.iconst 2, 1) := by decide +kernel
theorem dX11_tell___19 : decode cX11_tell__ 19 = .ok (.lload 5, 2) := by decide +kernel
theorem dX11_tell___21 : decode cX11_tell__ 21 = .ok (.lastore, 1) := by decide +kernel
theorem dX11_tell___22 : decode cX11_tell__ 22 = .ok (.aload_n 0, 1) := by decide +kernel
theorem dX11_tell___23 : decode cX11_tell__ 23 = .ok (.iconst 3, 1) := by decide +kernel
theorem dX11_tell___24 : decode cX11_tell__ 24 = .ok (.putfield 87, 3) := by decide +kernel
theorem dX11_tell___27 : decode cX11_tell__ 27 = .ok (.return_, 1) := by decide +kernel
theorem dX11_tellFraction_0 : decode cX11_tellFraction 0 = .ok (.lload_n 1, 1) := by decide +kernel
theorem dX11_tellFraction_1 : decode cX11_tellFraction 1 = .ok (.lstore 5, 2) := by decide +kernel
theorem dX11_tellFraction_3 : decode cX11_tellFraction 3 = .ok (.lload_n 3, 1) := by decide +kernel
theorem dX11_tellFraction_4 : decode cX11_tellFraction 4 = .ok (.lstore 7, 2) := by decide +kernel
theorem dX11_tellFraction_6 : decode cX11_tellFraction 6 = .ok (.iconst 0, 1) := by decide +kernel
theorem dX11_tellFraction_7 : decode cX11_tellFraction 7 = .ok (.istore 9, 2) := by decide +kernel
theorem dX11_tellFraction_9 : decode cX11_tellFraction 9 = .ok (.iload 9, 2) := by decide +kernel
theorem dX11_tellFraction_11 : decode cX11_tellFraction 11 = .ok (.sipush 200, 3) := by decide +kernel
theorem dX11_tellFraction_14 : decode cX11_tellFraction 14 = .ok (.if_icmp .ge 31, 3) := by decide +kernel
theorem dX11_tellFraction_17 : decode cX11_tellFraction 17 = .ok (.lload 7, 2) := by decide +kernel
theorem dX11_tellFraction_19 : decode cX11_tellFraction 19 = .ok (.lconst 0, 1) := by decide +kernel
theorem dX11_tellFraction_20 : decode cX11_tellFraction 20 = .ok (.lcmp, 1) := by decide +kernel
theorem dX11_tellFraction_21 : decode cX11_tellFraction 21 = .ok (.ifCond .eq 24, 3) := by decide +kernel
theorem dX11_tellFraction_24 : decode cX11_tellFraction 24 = .ok (.lload 5, 2) := by decide +kernel
theorem dX11_tellFraction_26 : decode cX11_tellFraction 26 = .ok (.lload 7, 2) := by decide +kernel
theorem dX11_tellFraction_28 : decode cX11_tellFraction 28 = .ok (.lrem, 1) := by decide +kernel
theorem dX11_tellFraction_29 : decode cX11_tellFraction 29 = .ok (.lstore 10, 2) := by decide +kernel
theorem dX11_tellFraction_31 : decode cX11_tellFraction 31 = .ok (.lload 7, 2) := by decide +kernel
theorem dX11_tellFraction_33 : decode cX11_tellFraction 33 = .ok (.lstore 5, 2) := by decide +kernel
theorem dX11_tellFraction_35 : decode cX11_tellFraction 35 = .ok (.lload 10, 2) := by decide +kernel
theorem dX11_tellFraction_37 : decode cX11_tellFraction 37 = .ok (.lstore 7, 2) := by decide +kernel
theorem dX11_tellFraction_39 : decode cX11_tellFraction 39 = .ok (.iinc 9 1, 3) := by decide +kernel
theorem dX11_tellFraction_42 : decode cX11_tellFraction 42 = .ok (.goto (-33), 3) := by decide +kernel
theorem dX11_tellFraction_45 : decode cX11_tellFraction 45 = .ok (.lload 5, 2) := by decide +kernel
theorem dX11_tellFraction_47 : decode cX11_tellFraction 47 = .ok (.lconst 0, 1) := by decide +kernel
theorem dX11_tellFraction_48 : decode cX11_tellFraction 48 = .ok (.lcmp, 1) := by decide +kernel
theorem dX11_tellFraction_49 : decode cX11_tellFraction 49 = .ok (.ifCond .ne 12, 3) := by decide +kernel
theorem dX11_tellFraction_52 : decode cX11_tellFraction 52 = .ok (.aload_n 0, 1) := by decide +kernel
theorem dX11_tellFraction_53 : decode cX11_tellFraction 53 = .ok (.lload_n 1, 1) := by decide +kernel
theorem dX11_tellFraction_54 : decode cX11_tellFraction 54 = .ok (.lload_n 3, 1) := by decide +kernel
theorem dX11_tellFraction_55 : decode cX11_tellFraction 55 = .ok (.invokevirtual 239, 3) := by decide +kernel
theorem dX11_tellFraction_58 : decode cX11_tellFraction 58 = .ok (.goto 15, 3) := by decide +kernel
theorem dX11_tellFraction_61 : decode cX11_tellFraction 61 = .ok (.aload_n 0, 1) := by decide +kernel
theorem dX11_tellFraction_62 : decode cX11_tellFraction 62 = .ok (.lload_n 1, 1) := by decide +kernel
theorem dX11_tellFraction_63 : decode cX11_tellFraction 63 = .ok (.lload 5, 2) := by decide +kernel
theorem dX11_tellFraction_65 : decode cX11_tellFraction 65 = .ok (.ldiv, 1) := by decide +kernel
theorem dX11_tellFraction_66 : decode cX11_tellFraction 66 = .ok (.lload_n 3, 1) := by decide +kernel
theorem dX11_tellFraction_67 : decode cX11_tellFraction 67 = .ok (.lload 5, 2) := by decide +kernel
theorem dX11_tellFraction_69 : decode cX11_tellFraction 69 = .ok (.ldiv, 1) := by decide +kernel
theorem dX11_tellFraction_70 : decode cX11_tellFraction 70 = .ok (.invokevirtual 239, 3) := by decide +kernel
theorem dX11_tellFraction_73 : decode cX11_tellFraction 73 = .ok (.return_, 1) := by decide +kernel
