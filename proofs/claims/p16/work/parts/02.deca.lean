theorem dX0_init_0 : decode cX0_init 0 = .ok (.aload_n 0, 1) := by decide +kernel
theorem dX0_init_1 : decode cX0_init 1 = .ok (.invokespecial 3, 3) := by decide +kernel
theorem dX0_init_4 : decode cX0_init 4 = .ok (.aload_n 0, 1) := by decide +kernel
theorem dX0_init_5 : decode cX0_init 5 = .ok (.new 9, 3) := by decide +kernel
theorem dX0_init_8 : decode cX0_init 8 = .ok (.dup, 1) := by decide +kernel
theorem dX0_init_9 : decode cX0_init 9 = .ok (.invokespecial 11, 3) := by decide +kernel
theorem dX0_init_12 : decode cX0_init 12 = .ok (.putfield 12, 3) := by decide +kernel
theorem dX0_init_15 : decode cX0_init 15 = .ok (.aload_n 0, 1) := by decide +kernel
theorem dX0_init_16 : decode cX0_init 16 = .ok (.iconst 5, 1) := by decide +kernel
theorem dX0_init_17 : decode cX0_init 17 = .ok (.newarray .int, 2) := by decide +kernel
theorem dX0_init_19 : decode cX0_init 19 = .ok (.putfield 18, 3) := by decide +kernel
theorem dX0_init_22 : decode cX0_init 22 = .ok (.aload_n 0, 1) := by decide +kernel
theorem dX0_init_23 : decode cX0_init 23 = .ok (.iconst 0, 1) := by decide +kernel
theorem dX0_init_24 : decode cX0_init 24 = .ok (.putfield 22, 3) := by decide +kernel
theorem dX0_init_27 : decode cX0_init 27 = .ok (.aload_n 0, 1) := by decide +kernel
theorem dX0_init_28 : decode cX0_init 28 = .ok (.iconst 0, 1) := by decide +kernel
theorem dX0_init_29 : decode cX0_init 29 = .ok (.putfield 26, 3) := by decide +kernel
theorem dX0_init_32 : decode cX0_init 32 = .ok (.aload_n 0, 1) := by decide +kernel
theorem dX0_init_33 : decode cX0_init 33 = .ok (.iconst 0, 1) := by decide +kernel
theorem dX0_init_34 : decode cX0_init 34 = .ok (.putfield 29, 3) := by decide +kernel
theorem dX0_init_37 : decode cX0_init 37 = .ok (.return_, 1) := by decide +kernel
theorem dX0_store_0 : decode cX0_store 0 = .ok (.aload_n 0, 1) := by decide +kernel
theorem dX0_store_1 : decode cX0_store 1 = .ok (.getfield 12, 3) := by decide +kernel
theorem dX0_store_4 : decode cX0_store 4 = .ok (.aload_n 2, 1) := by decide +kernel
theorem dX0_store_5 : decode cX0_store 5 = .ok (.invokevirtual 33, 3) := by decide +kernel
theorem dX0_store_8 : decode cX0_store 8 = .ok (.aload_n 0, 1) := by decide +kernel
theorem dX0_store_9 : decode cX0_store 9 = .ok (.aload_n 1, 1) := by decide +kernel
theorem dX0_store_10 : decode cX0_store 10 = .ok (.getfield 37, 3) := by decide +kernel
theorem dX0_store_13 : decode cX0_store 13 = .ok (.putfield 22, 3) := by decide +kernel
theorem dX0_store_16 : decode cX0_store 16 = .ok (.aload_n 1, 1) := by decide +kernel
theorem dX0_store_17 : decode cX0_store 17 = .ok (.getfield 40, 3) := by decide +kernel
theorem dX0_store_20 : decode cX0_store 20 = .ok (.iconst 0, 1) := by decide +kernel
theorem dX0_store_21 : decode cX0_store 21 = .ok (.aload_n 0, 1) := by decide +kernel
theorem dX0_store_22 : decode cX0_store 22 = .ok (.getfield 18, 3) := by decide +kernel
theorem dX0_store_25 : decode cX0_store 25 = .ok (.iconst 0, 1) := by decide +kernel
theorem dX0_store_26 : decode cX0_store 26 = .ok (.aload_n 0, 1) := by decide +kernel
theorem dX0_store_27 : decode cX0_store 27 = .ok (.getfield 18, 3) := by decide +kernel
theorem dX0_store_30 : decode cX0_store 30 = .ok (.arraylength, 1) := by decide +kernel
theorem dX0_store_31 : decode cX0_store 31 = .ok (.invokestatic 41, 3) := by decide +kernel
theorem dX0_store_34 : decode cX0_store 34 = .ok (.aload_n 0, 1) := by decide +kernel
theorem dX0_store_35 : decode cX0_store 35 = .ok (.iload_n 3, 1) := by decide +kernel
theorem dX0_store_36 : decode cX0_store 36 = .ok (.putfield 26, 3) := by decide +kernel
theorem dX0_store_39 : decode cX0_store 39 = .ok (.aload_n 0, 1) := by decide +kernel
theorem dX0_store_40 : decode cX0_store 40 = .ok (.iconst 1, 1) := by decide +kernel
theorem dX0_store_41 : decode cX0_store 41 = .ok (.putfield 29, 3) := by decide +kernel
theorem dX0_store_44 : decode cX0_store 44 = .ok (.return_, 1) := by decide +kernel
theorem dX0_restore_0 : decode cX0_restore 0 = .ok (.aload_n 2, 1) := by decide +kernel
theorem dX0_restore_1 : decode cX0_restore 1 = .ok (.aload_n 0, 1) := by decide +kernel
theorem dX0_restore_2 : decode cX0_restore 2 = .ok (.getfield 12, 3) := by decide +kernel
theorem dX0_restore_5 : decode cX0_restore 5 = .ok (.invokevirtual 33, 3) := by decide +kernel
theorem dX0_restore_8 : decode cX0_restore 8 = .ok (.aload_n 1, 1) := by decide +kernel
theorem dX0_restore_9 : decode cX0_restore 9 = .ok (.aload_n 0, 1) := by decide +kernel
theorem dX0_restore_10 : decode cX0_restore 10 = .ok (.getfield 22, 3) := by decide +kernel
theorem dX0_restore_13 : decode cX0_restore 13 = .ok (.putfield 37, 3) := by decide +kernel
theorem dX0_restore_16 : decode cX0_restore 16 = .ok (.aload_n 0, 1) := by decide +kernel
theorem dX0_restore_17 : decode cX0_restore 17 = .ok (.getfield 18, 3) := by decide +kernel
theorem dX0_restore_20 : decode cX0_restore 20 = .ok (.iconst 0, 1) := by decide +kernel
theorem dX0_restore_21 : decode cX0_restore 21 = .ok (.aload_n 1, 1) := by decide +kernel
theorem dX0_restore_22 : decode cX0_restore 22 = .ok (.getfield 40, 3) := by decide +kernel
theorem dX0_restore_25 : decode cX0_restore 25 = .ok (.iconst 0, 1) := by decide +kernel
theorem dX0_restore_26 : decode cX0_restore 26 = .ok (.aload_n 0, 1) := by decide +kernel
theorem dX0_restore_27 : decode cX0_restore 27 = .ok (.getfield 18, 3) := by decide +kernel
theorem dX0_restore_30 : decode cX0_restore 30 = .ok (.arraylength, 1) := by decide +kernel
theorem dX0_restore_31 : decode cX0_restore 31 = .ok (.invokestatic 41, 3) := by decide +kernel
theorem dX0_restore_34 : decode cX0_restore 34 = .ok (.return_, 1) := by decide +kernel
theorem dX1_init_0 : decode cX1_init 0 = .ok (.aload_n 0, 1) := by decide +kernel
theorem dX1_init_1 : decode cX1_init 1 = .ok (.invokespecial 3, 3) := by decide +kernel
theorem dX1_init_4 : decode cX1_init 4 = .ok (.aload_n 0, 1) := by decide +kernel
theorem dX1_init_5 : decode cX1_init 5 = .ok (.iconst 5, 1) := by decide +kernel
theorem dX1_init_6 : decode cX1_init 6 = .ok (.newarray .int, 2) := by decide +kernel
theorem dX1_init_8 : decode cX1_init 8 = .ok (.dup, 1) := by decide +kernel
theorem dX1_init_9 : decode cX1_init 9 = .ok (.iconst 0, 1) := by decide +kernel
theorem dX1_init_10 : decode cX1_init 10 = .ok (.iconst 0, 1) := by decide +kernel
theorem dX1_init_11 : decode cX1_init 11 = .ok (.iastore, 1) := by decide +kernel
theorem dX1_init_12 : decode cX1_init 12 = .ok (.dup, 1) := by decide +kernel
theorem dX1_init_13 : decode cX1_init 13 = .ok (.iconst 1, 1) := by decide +kernel
theorem dX1_init_14 : decode cX1_init 14 = .ok (.iconst 1, 1) := by decide +kernel
theorem dX1_init_15 : decode cX1_init 15 = .ok (.iastore, 1) := by decide +kernel
theorem dX1_init_16 : decode cX1_init 16 = .ok (.dup, 1) := by decide +kernel
theorem dX1_init_17 : decode cX1_init 17 = .ok (.iconst 2, 1) := by decide +kernel
theorem dX1_init_18 : decode cX1_init 18 = .ok (.iconst 1, 1) := by decide +kernel
theorem dX1_init_19 : decode cX1_init 19 = .ok (.iastore, 1) := by decide +kernel
theorem dX1_init_20 : decode cX1_init 20 = .ok (.dup, 1) := by decide +kernel
theorem dX1_init_21 : decode cX1_init 21 = .ok (.iconst 3, 1) := by decide +kernel
theorem dX1_init_22 : decode cX1_init 22 = .ok (.iconst 0, 1) := by decide +kernel
theorem dX1_init_23 : decode cX1_init 23 = .ok (.iastore, 1) := by decide +kernel
theorem dX1_init_24 : decode cX1_init 24 = .ok (.dup, 1) := by decide +kernel
theorem dX1_init_25 : decode cX1_init 25 = .ok (.iconst 4, 1) := by decide +kernel
theorem dX1_init_26 : decode cX1_init 26 = .ok (.iconst 0, 1) := by decide +kernel
theorem dX1_init_27 : decode cX1_init 27 = .ok (.iastore, 1) := by decide +kernel
theorem dX1_init_28 : decode cX1_init 28 = .ok (.putfield 9, 3) := by decide +kernel
theorem dX1_init_31 : decode cX1_init 31 = .ok (.aload_n 0, 1) := by decide +kernel
theorem dX1_init_32 : decode cX1_init 32 = .ok (.new 15, 3) := by decide +kernel
theorem dX1_init_35 : decode cX1_init 35 = .ok (.dup, 1) := by decide +kernel
theorem dX1_init_36 : decode cX1_init 36 = .ok (.invokespecial 17, 3) := by decide +kernel
theorem dX1_init_39 : decode cX1_init 39 = .ok (.putfield 18, 3) := by decide +kernel
theorem dX1_init_42 : decode cX1_init 42 = .ok (.aload_n 0, 1) := by decide +kernel
theorem dX1_init_43 : decode cX1_init 43 = .ok (.new 15, 3) := by decide +kernel
theorem dX1_init_46 : decode cX1_init 46 = .ok (.dup, 1) := by decide +kernel
theorem dX1_init_47 : decode cX1_init 47 = .ok (.invokespecial 17, 3) := by decide +kernel
theorem dX1_init_50 : decode cX1_init 50 = .ok (.putfield 22, 3) := by decide +kernel
theorem dX1_init_53 : decode cX1_init 53 = .ok (.aload_n 0, 1) := by decide +kernel
theorem dX1_init_54 : decode cX1_init 54 = .ok (.iconst 0, 1) := by decide +kernel
theorem dX1_init_55 : decode cX1_init 55 = .ok (.putfield 25, 3) := by decide +kernel
theorem dX1_init_58 : decode cX1_init 58 = .ok (.aload_n 0, 1) := by decide +kernel
theorem dX1_init_59 : decode cX1_init 59 = .ok (.iconst 2, 1) := by decide +kernel
theorem dX1_init_60 : decode cX1_init 60 = .ok (.putfield 29, 3) := by decide +kernel
theorem dX1_init_63 : decode cX1_init 63 = .ok (.aload_n 0, 1) := by decide +kernel
theorem dX1_init_64 : decode cX1_init 64 = .ok (.iconst 0, 1) := by decide +kernel
theorem dX1_init_65 : decode cX1_init 65 = .ok (.putfield 32, 3) := by decide +kernel
theorem dX1_init_68 : decode cX1_init 68 = .ok (.aload_n 0, 1) := by decide +kernel
theorem dX1_init_69 : decode cX1_init 69 = .ok (.iconst (-1), 1) := by decide +kernel
theorem dX1_init_70 : decode cX1_init 70 = .ok (.putfield 35, 3) := by decide +kernel
theorem dX1_init_73 : decode cX1_init 73 = .ok (.aload_n 0, 1) := by decide +kernel
theorem dX1_init_74 : decode cX1_init 74 = .ok (.iconst 0, 1) := by decide +kernel
theorem dX1_init_75 : decode cX1_init 75 = .ok (.putfield 38, 3) := by decide +kernel
theorem dX1_init_78 : decode cX1_init 78 = .ok (.return_, 1) := by decide +kernel
theorem dX1_allows_0 : decode cX1_allows 0 = .ok (.iload_n 0, 1) := by decide +kernel
theorem dX1_allows_1 : decode cX1_allows 1 = .ok (.tableswitch 113 0 4 #[35, 50, 66, 81, 97], 35) := by decide +kernel
theorem dX1_allows_36 : decode cX1_allows 36 = .ok (.iload_n 1, 1) := by decide +kernel
theorem dX1_allows_37 : decode cX1_allows 37 = .ok (.ifCond .lt 12, 3) := by decide +kernel
theorem dX1_allows_40 : decode cX1_allows 40 = .ok (.iload_n 1, 1) := by decide +kernel
theorem dX1_allows_41 : decode cX1_allows 41 = .ok (.iconst 3, 1) := by decide +kernel
theorem dX1_allows_42 : decode cX1_allows 42 = .ok (.if_icmp .gt 7, 3) := by decide +kernel
theorem dX1_allows_45 : decode cX1_allows 45 = .ok (.iconst 1, 1) := by decide +kernel
theorem dX1_allows_46 : decode cX1_allows 46 = .ok (.goto 4, 3) := by decide +kernel
theorem dX1_allows_49 : decode cX1_allows 49 = .ok (.iconst 0, 1) := by decide +kernel
theorem dX1_allows_50 : decode cX1_allows 50 = .ok (.ireturn, 1) := by decide +kernel
theorem dX1_allows_51 : decode cX1_allows 51 = .ok (.iload_n 1, 1) := by decide +kernel
theorem dX1_allows_52 : decode cX1_allows 52 = .ok (.iconst 1, 1) := by decide +kernel
theorem dX1_allows_53 : decode cX1_allows 53 = .ok (.if_icmp .lt 12, 3) := by decide +kernel
theorem dX1_allows_56 : decode cX1_allows 56 = .ok (.iload_n 1, 1) := by decide +kernel
theorem dX1_allows_57 : decode cX1_allows 57 = .ok (.iconst 3, 1) := by decide +kernel
theorem dX1_allows_58 : decode cX1_allows 58 = .ok (.if_icmp .gt 7, 3) := by decide +kernel
theorem dX1_allows_61 : decode cX1_allows 61 = .ok (.iconst 1, 1) := by decide +kernel
theorem dX1_allows_62 : decode cX1_allows 62 = .ok (.goto 4, 3) := by decide +kernel
theorem dX1_allows_65 : decode cX1_allows 65 = .ok (.iconst 0, 1) := by decide +kernel
theorem dX1_allows_66 : decode cX1_allows 66 = .ok (.ireturn, 1) := by decide +kernel
theorem dX1_allows_67 : decode cX1_allows 67 = .ok (.iload_n 1, 1) := by decide +kernel
theorem dX1_allows_68 : decode cX1_allows 68 = .ok (.ifCond .lt 12, 3) := by decide +kernel
theorem dX1_allows_71 : decode cX1_allows 71 = .ok (.iload_n 1, 1) := by decide +kernel
theorem dX1_allows_72 : decode cX1_allows 72 = .ok (.iconst 2, 1) := by decide +kernel
theorem dX1_allows_73 : decode cX1_allows 73 = .ok (.if_icmp .gt 7, 3) := by decide +kernel
theorem dX1_allows_76 : decode cX1_allows 76 = .ok (.iconst 1, 1) := by decide +kernel
theorem dX1_allows_77 : decode cX1_allows 77 = .ok (.goto 4, 3) := by decide +kernel
theorem dX1_allows_80 : decode cX1_allows 80 = .ok (.iconst 0, 1) := by decide +kernel
theorem dX1_allows_81 : decode cX1_allows 81 = .ok (.ireturn, 1) := by decide +kernel
theorem dX1_allows_82 : decode cX1_allows 82 = .ok (.iload_n 1, 1) := by decide +kernel
theorem dX1_allows_83 : decode cX1_allows 83 = .ok (.ifCond .lt 13, 3) := by decide +kernel
theorem dX1_allows_86 : decode cX1_allows 86 = .ok (.iload_n 1, 1) := by decide +kernel
theorem dX1_allows_87 : decode cX1_allows 87 = .ok (.bipush 99, 2) := by decide +kernel
theorem dX1_allows_89 : decode cX1_allows 89 = .ok (.if_icmp .gt 7, 3) := by decide +kernel
theorem dX1_allows_92 : decode cX1_allows 92 = .ok (.iconst 1, 1) := by decide +kernel
theorem dX1_allows_93 : decode cX1_allows 93 = .ok (.goto 4, 3) := by decide +kernel
theorem dX1_allows_96 : decode cX1_allows 96 = .ok (.iconst 0, 1) := by decide +kernel
theorem dX1_allows_97 : decode cX1_allows 97 = .ok (.ireturn, 1) := by decide +kernel
theorem dX1_allows_98 : decode cX1_allows 98 = .ok (.iload_n 1, 1) := by decide +kernel
theorem dX1_allows_99 : decode cX1_allows 99 = .ok (.ifCond .lt 13, 3) := by decide +kernel
theorem dX1_allows_102 : decode cX1_allows 102 = .ok (.iload_n 1, 1) := by decide +kernel
theorem dX1_allows_103 : decode cX1_allows 103 = .ok (.bipush 50, 2) := by decide +kernel
theorem dX1_allows_105 : decode cX1_allows 105 = .ok (.if_icmp .gt 7, 3) := by decide +kernel
theorem dX1_allows_108 : decode cX1_allows 108 = .ok (.iconst 1, 1) := by decide +kernel
theorem dX1_allows_109 : decode cX1_allows 109 = .ok (.goto 4, 3) := by decide +kernel
theorem dX1_allows_112 : decode cX1_allows 112 = .ok (.iconst 0, 1) := by decide +kernel
theorem dX1_allows_113 : decode cX1_allows 113 = .ok (.ireturn, 1) := by decide +kernel
theorem dX1_allows_114 : decode cX1_allows 114 = .ok (.iconst 0, 1) := by decide +kernel
theorem dX1_allows_115 : decode cX1_allows 115 = .ok (.ireturn, 1) := by decide +kernel
theorem dX1_has_0 : decode cX1_has 0 = .ok (.iload_n 1, 1) := by decide +kernel
theorem dX1_has_1 : decode cX1_has 1 = .ok (.ifCond .lt 15, 3) := by decide +kernel
theorem dX1_has_4 : decode cX1_has 4 = .ok (.iload_n 1, 1) := by decide +kernel
theorem dX1_has_5 : decode cX1_has 5 = .ok (.aload_n 0, 1) := by decide +kernel
theorem dX1_has_6 : decode cX1_has 6 = .ok (.getfield 25, 3) := by decide +kernel
theorem dX1_has_9 : decode cX1_has 9 = .ok (.if_icmp .ge 7, 3) := by decide +kernel
theorem dX1_has_12 : decode cX1_has 12 = .ok (.iconst 1, 1) := by decide +kernel
theorem dX1_has_13 : decode cX1_has 13 = .ok (.goto 4, 3) := by decide +kernel
theorem dX1_has_16 : decode cX1_has 16 = .ok (.iconst 0, 1) := by decide +kernel
theorem dX1_has_17 : decode cX1_has 17 = .ok (.ireturn, 1) := by decide +kernel
theorem dX1_knows_0 : decode cX1_knows 0 = .ok (.iload_n 1, 1) := by decide +kernel
theorem dX1_knows_1 : decode cX1_knows 1 = .ok (.ifCond .lt 15, 3) := by decide +kernel
theorem dX1_knows_4 : decode cX1_knows 4 = .ok (.iload_n 1, 1) := by decide +kernel
theorem dX1_knows_5 : decode cX1_knows 5 = .ok (.aload_n 0, 1) := by decide +kernel
theorem dX1_knows_6 : decode cX1_knows 6 = .ok (.getfield 29, 3) := by decide +kernel
theorem dX1_knows_9 : decode cX1_knows 9 = .ok (.if_icmp .ge 7, 3) := by decide +kernel
theorem dX1_knows_12 : decode cX1_knows 12 = .ok (.iconst 1, 1) := by decide +kernel
theorem dX1_knows_13 : decode cX1_knows 13 = .ok (.goto 4, 3) := by decide +kernel
theorem dX1_knows_16 : decode cX1_knows 16 = .ok (.iconst 0, 1) := by decide +kernel
theorem dX1_knows_17 : decode cX1_knows 17 = .ok (.ireturn, 1) := by decide +kernel
theorem dX1_isIll_0 : decode cX1_isIll 0 = .ok (.aload_n 0, 1) := by decide +kernel
theorem dX1_isIll_1 : decode cX1_isIll 1 = .ok (.getfield 32, 3) := by decide +kernel
theorem dX1_isIll_4 : decode cX1_isIll 4 = .ok (.iload_n 1, 1) := by decide +kernel
theorem dX1_isIll_5 : decode cX1_isIll 5 = .ok (.ishr, 1) := by decide +kernel
theorem dX1_isIll_6 : decode cX1_isIll 6 = .ok (.iconst 1, 1) := by decide +kernel
theorem dX1_isIll_7 : decode cX1_isIll 7 = .ok (.iand, 1) := by decide +kernel
theorem dX1_isIll_8 : decode cX1_isIll 8 = .ok (.ifCond .eq 7, 3) := by decide +kernel
theorem dX1_isIll_11 : decode cX1_isIll 11 = .ok (.iconst 1, 1) := by decide +kernel
theorem dX1_isIll_12 : decode cX1_isIll 12 = .ok (.goto 4, 3) := by decide +kernel
theorem dX1_isIll_15 : decode cX1_isIll 15 = .ok (.iconst 0, 1) := by decide +kernel
theorem dX1_isIll_16 : decode cX1_isIll 16 = .ok (.ireturn, 1) := by decide +kernel
theorem dX1_canMeet_0 : decode cX1_canMeet 0 = .ok (.aload_n 0, 1) := by decide +kernel
theorem dX1_canMeet_1 : decode cX1_canMeet 1 = .ok (.iload_n 1, 1) := by decide +kernel
theorem dX1_canMeet_2 : decode cX1_canMeet 2 = .ok (.invokevirtual 41, 3) := by decide +kernel
theorem dX1_canMeet_5 : decode cX1_canMeet 5 = .ok (.ifCond .eq 20, 3) := by decide +kernel
theorem dX1_canMeet_8 : decode cX1_canMeet 8 = .ok (.aload_n 0, 1) := by decide +kernel
theorem dX1_canMeet_9 : decode cX1_canMeet 9 = .ok (.iload_n 2, 1) := by decide +kernel
theorem dX1_canMeet_10 : decode cX1_canMeet 10 = .ok (.invokevirtual 41, 3) := by decide +kernel
theorem dX1_canMeet_13 : decode cX1_canMeet 13 = .ok (.ifCond .eq 12, 3) := by decide +kernel
theorem dX1_canMeet_16 : decode cX1_canMeet 16 = .ok (.iload_n 1, 1) := by decide +kernel
theorem dX1_canMeet_17 : decode cX1_canMeet 17 = .ok (.iload_n 2, 1) := by decide +kernel
theorem dX1_canMeet_18 : decode cX1_canMeet 18 = .ok (.if_icmp .eq 7, 3) := by decide +kernel
theorem dX1_canMeet_21 : decode cX1_canMeet 21 = .ok (.iconst 1, 1) := by decide +kernel
theorem dX1_canMeet_22 : decode cX1_canMeet 22 = .ok (.goto 4, 3) := by decide +kernel
theorem dX1_canMeet_25 : decode cX1_canMeet 25 = .ok (.iconst 0, 1) := by decide +kernel
theorem dX1_canMeet_26 : decode cX1_canMeet 26 = .ok (.ireturn, 1) := by decide +kernel
theorem dX1_power_0 : decode cX1_power 0 = .ok (.aload_n 0, 1) := by decide +kernel
theorem dX1_power_1 : decode cX1_power 1 = .ok (.getfield 18, 3) := by decide +kernel
theorem dX1_power_4 : decode cX1_power 4 = .ok (.aload_n 1, 1) := by decide +kernel
theorem dX1_power_5 : decode cX1_power 5 = .ok (.iload_n 2, 1) := by decide +kernel
theorem dX1_power_6 : decode cX1_power 6 = .ok (.aload_n 0, 1) := by decide +kernel
theorem dX1_power_7 : decode cX1_power 7 = .ok (.getfield 29, 3) := by decide +kernel
theorem dX1_power_10 : decode cX1_power 10 = .ok (.invokevirtual 45, 3) := by decide +kernel
theorem dX1_power_13 : decode cX1_power 13 = .ok (.ireturn, 1) := by decide +kernel
theorem dX1_strongest_0 : decode cX1_strongest 0 = .ok (.iconst 0, 1) := by decide +kernel
theorem dX1_strongest_1 : decode cX1_strongest 1 = .ok (.istore_n 2, 1) := by decide +kernel
theorem dX1_strongest_2 : decode cX1_strongest 2 = .ok (.iconst 0, 1) := by decide +kernel
theorem dX1_strongest_3 : decode cX1_strongest 3 = .ok (.istore_n 3, 1) := by decide +kernel
theorem dX1_strongest_4 : decode cX1_strongest 4 = .ok (.iconst 0, 1) := by decide +kernel
theorem dX1_strongest_5 : decode cX1_strongest 5 = .ok (.istore 4, 2) := by decide +kernel
theorem dX1_strongest_7 : decode cX1_strongest 7 = .ok (.iload 4, 2) := by decide +kernel
theorem dX1_strongest_9 : decode cX1_strongest 9 = .ok (.aload_n 0, 1) := by decide +kernel
theorem dX1_strongest_10 : decode cX1_strongest 10 = .ok (.getfield 25, 3) := by decide +kernel
theorem dX1_strongest_13 : decode cX1_strongest 13 = .ok (.if_icmp .ge 35, 3) := by decide +kernel
theorem dX1_strongest_16 : decode cX1_strongest 16 = .ok (.aload_n 0, 1) := by decide +kernel
theorem dX1_strongest_17 : decode cX1_strongest 17 = .ok (.aload_n 1, 1) := by decide +kernel
theorem dX1_strongest_18 : decode cX1_strongest 18 = .ok (.iload 4, 2) := by decide +kernel
theorem dX1_strongest_20 : decode cX1_strongest 20 = .ok (.invokevirtual 49, 3) := by decide +kernel
theorem dX1_strongest_23 : decode cX1_strongest 23 = .ok (.istore 5, 2) := by decide +kernel
theorem dX1_strongest_25 : decode cX1_strongest 25 = .ok (.iload 4, 2) := by decide +kernel
theorem dX1_strongest_27 : decode cX1_strongest 27 = .ok (.ifCond .eq 9, 3) := by decide +kernel
theorem dX1_strongest_30 : decode cX1_strongest 30 = .ok (.iload 5, 2) := by decide +kernel
theorem dX1_strongest_32 : decode cX1_strongest 32 = .ok (.iload_n 3, 1) := by decide +kernel
theorem dX1_strongest_33 : decode cX1_strongest 33 = .ok (.if_icmp .le 9, 3) := by decide +kernel
theorem dX1_strongest_36 : decode cX1_strongest 36 = .ok (.iload 4, 2) := by decide +kernel
theorem dX1_strongest_38 : decode cX1_strongest 38 = .ok (.istore_n 2, 1) := by decide +kernel
theorem dX1_strongest_39 : decode cX1_strongest 39 = .ok (.iload 5, 2) := by decide +kernel
theorem dX1_strongest_41 : decode cX1_strongest 41 = .ok (.istore_n 3, 1) := by decide +kernel
theorem dX1_strongest_42 : decode cX1_strongest 42 = .ok (.iinc 4 1, 3) := by decide +kernel
theorem dX1_strongest_45 : decode cX1_strongest 45 = .ok (.goto (-38), 3) := by decide +kernel
theorem dX1_strongest_48 : decode cX1_strongest 48 = .ok (.iload_n 2, 1) := by decide +kernel
theorem dX1_strongest_49 : decode cX1_strongest 49 = .ok (.ireturn, 1) := by decide +kernel
theorem dX1_weakest_0 : decode cX1_weakest 0 = .ok (.iconst 0, 1) := by decide +kernel
theorem dX1_weakest_1 : decode cX1_weakest 1 = .ok (.istore_n 2, 1) := by decide +kernel
theorem dX1_weakest_2 : decode cX1_weakest 2 = .ok (.iconst 0, 1) := by decide +kernel
theorem dX1_weakest_3 : decode cX1_weakest 3 = .ok (.istore_n 3, 1) := by decide +kernel
theorem dX1_weakest_4 : decode cX1_weakest 4 = .ok (.iconst 0, 1) := by decide +kernel
theorem dX1_weakest_5 : decode cX1_weakest 5 = .ok (.istore 4, 2) := by decide +kernel
theorem dX1_weakest_7 : decode cX1_weakest 7 = .ok (.iload 4, 2) := by decide +kernel
theorem dX1_weakest_9 : decode cX1_weakest 9 = .ok (.aload_n 0, 1) := by decide +kernel
theorem dX1_weakest_10 : decode cX1_weakest 10 = .ok (.getfield 25, 3) := by decide +kernel
theorem dX1_weakest_13 : decode cX1_weakest 13 = .ok (.if_icmp .ge 35, 3) := by decide +kernel
theorem dX1_weakest_16 : decode cX1_weakest 16 = .ok (.aload_n 0, 1) := by decide +kernel
theorem dX1_weakest_17 : decode cX1_weakest 17 = .ok (.aload_n 1, 1) := by decide +kernel
theorem dX1_weakest_18 : decode cX1_weakest 18 = .ok (.iload 4, 2) := by decide +kernel
theorem dX1_weakest_20 : decode cX1_weakest 20 = .ok (.invokevirtual 49, 3) := by decide +kernel
theorem dX1_weakest_23 : decode cX1_weakest 23 = .ok (.istore 5, 2) := by decide +kernel
theorem dX1_weakest_25 : decode cX1_weakest 25 = .ok (.iload 4, 2) := by decide +kernel
theorem dX1_weakest_27 : decode cX1_weakest 27 = .ok (.ifCond .eq 9, 3) := by decide +kernel
theorem dX1_weakest_30 : decode cX1_weakest 30 = .ok (.iload 5, 2) := by decide +kernel
theorem dX1_weakest_32 : decode cX1_weakest 32 = .ok (.iload_n 3, 1) := by decide +kernel
theorem dX1_weakest_33 : decode cX1_weakest 33 = .ok (.if_icmp .ge 9, 3) := by decide +kernel
theorem dX1_weakest_36 : decode cX1_weakest 36 = .ok (.iload 4, 2) := by decide +kernel
theorem dX1_weakest_38 : decode cX1_weakest 38 = .ok (.istore_n 2, 1) := by decide +kernel
theorem dX1_weakest_39 : decode cX1_weakest 39 = .ok (.iload 5, 2) := by decide +kernel
theorem dX1_weakest_41 : decode cX1_weakest 41 = .ok (.istore_n 3, 1) := by decide +kernel
theorem dX1_weakest_42 : decode cX1_weakest 42 = .ok (.iinc 4 1, 3) := by decide +kernel
theorem dX1_weakest_45 : decode cX1_weakest 45 = .ok (.goto (-38), 3) := by decide +kernel
theorem dX1_weakest_48 : decode cX1_weakest 48 = .ok (.iload_n 2, 1) := by decide +kernel
theorem dX1_weakest_49 : decode cX1_weakest 49 = .ok (.ireturn, 1) := by decide +kernel
theorem dX1_total_0 : decode cX1_total 0 = .ok (.iconst 0, 1) := by decide +kernel
theorem dX1_total_1 : decode cX1_total 1 = .ok (.istore_n 2, 1) := by decide +kernel
theorem dX1_total_2 : decode cX1_total 2 = .ok (.iconst 0, 1) := by decide +kernel
theorem dX1_total_3 : decode cX1_total 3 = .ok (.istore_n 3, 1) := by decide +kernel
theorem dX1_total_4 : decode cX1_total 4 = .ok (.iload_n 3, 1) := by decide +kernel
theorem dX1_total_5 : decode cX1_total 5 = .ok (.aload_n 0, 1) := by decide +kernel
theorem dX1_total_6 : decode cX1_total 6 = .ok (.getfield 25, 3) := by decide +kernel
theorem dX1_total_9 : decode cX1_total 9 = .ok (.if_icmp .ge 21, 3) := by decide +kernel
theorem dX1_total_12 : decode cX1_total 12 = .ok (.iload_n 2, 1) := by decide +kernel
theorem dX1_total_13 : decode cX1_total 13 = .ok (.aload_n 1, 1) := by decide +kernel
theorem dX1_total_14 : decode cX1_total 14 = .ok (.iload_n 3, 1) := by decide +kernel
theorem dX1_total_15 : decode cX1_total 15 = .ok (.aload_n 0, 1) := by decide +kernel
theorem dX1_total_16 : decode cX1_total 16 = .ok (.getfield 29, 3) := by decide +kernel
theorem dX1_total_19 : decode cX1_total 19 = .ok (.invokevirtual 53, 3) := by decide +kernel
theorem dX1_total_22 : decode cX1_total 22 = .ok (.iadd, 1) := by decide +kernel
theorem dX1_total_23 : decode cX1_total 23 = .ok (.istore_n 2, 1) := by decide +kernel
theorem dX1_total_24 : decode cX1_total 24 = .ok (.iinc 3 1, 3) := by decide +kernel
theorem dX1_total_27 : decode cX1_total 27 = .ok (.goto (-23), 3) := by decide +kernel
theorem dX1_total_30 : decode cX1_total 30 = .ok (.iload_n 2, 1) := by decide +kernel
theorem dX1_total_31 : decode cX1_total 31 = .ok (.ireturn, 1) := by decide +kernel
theorem dX1_result_0 : decode cX1_result 0 = .ok (.iload 4, 2) := by decide +kernel
theorem dX1_result_2 : decode cX1_result 2 = .ok (.iconst 3, 1) := by decide +kernel
theorem dX1_result_3 : decode cX1_result 3 = .ok (.if_icmp .ne 5, 3) := by decide +kernel
theorem dX1_result_6 : decode cX1_result 6 = .ok (.iconst 2, 1) := by decide +kernel
theorem dX1_result_7 : decode cX1_result 7 = .ok (.ireturn, 1) := by decide +kernel
theorem dX1_result_8 : decode cX1_result 8 = .ok (.iload 4, 2) := by decide +kernel
theorem dX1_result_10 : decode cX1_result 10 = .ok (.ifCond .eq 15, 3) := by decide +kernel
theorem dX1_result_13 : decode cX1_result 13 = .ok (.iload 4, 2) := by decide +kernel
theorem dX1_result_15 : decode cX1_result 15 = .ok (.iconst 1, 1) := by decide +kernel
theorem dX1_result_16 : decode cX1_result 16 = .ok (.if_icmp .ne 7, 3) := by decide +kernel
theorem dX1_result_19 : decode cX1_result 19 = .ok (.iconst 1, 1) := by decide +kernel
theorem dX1_result_20 : decode cX1_result 20 = .ok (.goto 4, 3) := by decide +kernel
theorem dX1_result_23 : decode cX1_result 23 = .ok (.iconst 0, 1) := by decide +kernel
theorem dX1_result_24 : decode cX1_result 24 = .ok (.ireturn, 1) := by decide +kernel
theorem dX1_result_25 : decode cX1_result 25 = .ok (.aload_n 0, 1) := by decide +kernel
theorem dX1_result_26 : decode cX1_result 26 = .ok (.aload_n 0, 1) := by decide +kernel
theorem dX1_result_27 : decode cX1_result 27 = .ok (.getfield 18, 3) := by decide +kernel
theorem dX1_result_30 : decode cX1_result 30 = .ok (.aload_n 1, 1) := by decide +kernel
theorem dX1_result_31 : decode cX1_result 31 = .ok (.iload_n 2, 1) := by decide +kernel
theorem dX1_result_32 : decode cX1_result 32 = .ok (.aload_n 0, 1) := by decide +kernel
theorem dX1_result_33 : decode cX1_result 33 = .ok (.getfield 29, 3) := by decide +kernel
theorem dX1_result_36 : decode cX1_result 36 = .ok (.invokevirtual 45, 3) := by decide +kernel
theorem dX1_result_39 : decode cX1_result 39 = .ok (.aload_n 0, 1) := by decide +kernel
theorem dX1_result_40 : decode cX1_result 40 = .ok (.getfield 18, 3) := by decide +kernel
theorem dX1_result_43 : decode cX1_result 43 = .ok (.aload_n 1, 1) := by decide +kernel
theorem dX1_result_44 : decode cX1_result 44 = .ok (.iload_n 3, 1) := by decide +kernel
theorem dX1_result_45 : decode cX1_result 45 = .ok (.aload_n 0, 1) := by decide +kernel
theorem dX1_result_46 : decode cX1_result 46 = .ok (.getfield 29, 3) := by decide +kernel
theorem dX1_result_49 : decode cX1_result 49 = .ok (.invokevirtual 45, 3) := by decide +kernel
theorem dX1_result_52 : decode cX1_result 52 = .ok (.isub, 1) := by decide +kernel
theorem dX1_result_53 : decode cX1_result 53 = .ok (.invokevirtual 59, 3) := by decide +kernel
theorem dX1_result_56 : decode cX1_result 56 = .ok (.ireturn, 1) := by decide +kernel
theorem dX1_resultOf_0 : decode cX1_resultOf 0 = .ok (.iload_n 1, 1) := by decide +kernel
theorem dX1_resultOf_1 : decode cX1_resultOf 1 = .ok (.aload_n 0, 1) := by decide +kernel
theorem dX1_resultOf_2 : decode cX1_resultOf 2 = .ok (.getfield 9, 3) := by decide +kernel
theorem dX1_resultOf_5 : decode cX1_resultOf 5 = .ok (.iconst 3, 1) := by decide +kernel
theorem dX1_resultOf_6 : decode cX1_resultOf 6 = .ok (.iaload, 1) := by decide +kernel
theorem dX1_resultOf_7 : decode cX1_resultOf 7 = .ok (.if_icmp .le 7, 3) := by decide +kernel
theorem dX1_resultOf_10 : decode cX1_resultOf 10 = .ok (.iconst 0, 1) := by decide +kernel
theorem dX1_resultOf_11 : decode cX1_resultOf 11 = .ok (.goto 19, 3) := by decide +kernel
theorem dX1_resultOf_14 : decode cX1_resultOf 14 = .ok (.iload_n 1, 1) := by decide +kernel
theorem dX1_resultOf_15 : decode cX1_resultOf 15 = .ok (.ineg, 1) := by decide +kernel
theorem dX1_resultOf_16 : decode cX1_resultOf 16 = .ok (.aload_n 0, 1) := by decide +kernel
theorem dX1_resultOf_17 : decode cX1_resultOf 17 = .ok (.getfield 9, 3) := by decide +kernel
theorem dX1_resultOf_20 : decode cX1_resultOf 20 = .ok (.iconst 3, 1) := by decide +kernel
theorem dX1_resultOf_21 : decode cX1_resultOf 21 = .ok (.iaload, 1) := by decide +kernel
theorem dX1_resultOf_22 : decode cX1_resultOf 22 = .ok (.if_icmp .le 7, 3) := by decide +kernel
theorem dX1_resultOf_25 : decode cX1_resultOf 25 = .ok (.iconst 1, 1) := by decide +kernel
theorem dX1_resultOf_26 : decode cX1_resultOf 26 = .ok (.goto 4, 3) := by decide +kernel
theorem dX1_resultOf_29 : decode cX1_resultOf 29 = .ok (.iconst 2, 1) := by decide +kernel
theorem dX1_resultOf_30 : decode cX1_resultOf 30 = .ok (.ireturn, 1) := by decide +kernel
theorem dX1_chance_0 : decode cX1_chance 0 = .ok (.bipush 50, 2) := by decide +kernel
theorem dX1_chance_2 : decode cX1_chance 2 = .ok (.aload_n 0, 1) := by decide +kernel
theorem dX1_chance_3 : decode cX1_chance 3 = .ok (.getfield 9, 3) := by decide +kernel
theorem dX1_chance_6 : decode cX1_chance 6 = .ok (.iconst 4, 1) := by decide +kernel
theorem dX1_chance_7 : decode cX1_chance 7 = .ok (.iaload, 1) := by decide +kernel
theorem dX1_chance_8 : decode cX1_chance 8 = .ok (.aload_n 0, 1) := by decide +kernel
theorem dX1_chance_9 : decode cX1_chance 9 = .ok (.getfield 18, 3) := by decide +kernel
theorem dX1_chance_12 : decode cX1_chance 12 = .ok (.aload_n 1, 1) := by decide +kernel
theorem dX1_chance_13 : decode cX1_chance 13 = .ok (.iload_n 2, 1) := by decide +kernel
theorem dX1_chance_14 : decode cX1_chance 14 = .ok (.aload_n 0, 1) := by decide +kernel
theorem dX1_chance_15 : decode cX1_chance 15 = .ok (.getfield 29, 3) := by decide +kernel
theorem dX1_chance_18 : decode cX1_chance 18 = .ok (.invokevirtual 45, 3) := by decide +kernel
theorem dX1_chance_21 : decode cX1_chance 21 = .ok (.aload_n 0, 1) := by decide +kernel
theorem dX1_chance_22 : decode cX1_chance 22 = .ok (.getfield 18, 3) := by decide +kernel
theorem dX1_chance_25 : decode cX1_chance 25 = .ok (.aload_n 1, 1) := by decide +kernel
theorem dX1_chance_26 : decode cX1_chance 26 = .ok (.iload_n 3, 1) := by decide +kernel
theorem dX1_chance_27 : decode cX1_chance 27 = .ok (.aload_n 0, 1) := by decide +kernel
theorem dX1_chance_28 : decode cX1_chance 28 = .ok (.getfield 29, 3) := by decide +kernel
theorem dX1_chance_31 : decode cX1_chance 31 = .ok (.invokevirtual 45, 3) := by decide +kernel
theorem dX1_chance_34 : decode cX1_chance 34 = .ok (.isub, 1) := by decide +kernel
theorem dX1_chance_35 : decode cX1_chance 35 = .ok (.imul, 1) := by decide +kernel
theorem dX1_chance_36 : decode cX1_chance 36 = .ok (.iadd, 1) := by decide +kernel
theorem dX1_chance_37 : decode cX1_chance 37 = .ok (.iconst 0, 1) := by decide +kernel
theorem dX1_chance_38 : decode cX1_chance 38 = .ok (.bipush 100, 2) := by decide +kernel
theorem dX1_chance_40 : decode cX1_chance 40 = .ok (.invokestatic 63, 3) := by decide +kernel
theorem dX1_chance_43 : decode cX1_chance 43 = .ok (.ireturn, 1) := by decide +kernel
theorem dX1_drawnResult_0 : decode cX1_drawnResult 0 = .ok (.aload_n 0, 1) := by decide +kernel
theorem dX1_drawnResult_1 : decode cX1_drawnResult 1 = .ok (.aload_n 1, 1) := by decide +kernel
theorem dX1_drawnResult_2 : decode cX1_drawnResult 2 = .ok (.iload_n 2, 1) := by decide +kernel
theorem dX1_drawnResult_3 : decode cX1_drawnResult 3 = .ok (.iload_n 3, 1) := by decide +kernel
theorem dX1_drawnResult_4 : decode cX1_drawnResult 4 = .ok (.invokevirtual 67, 3) := by decide +kernel
theorem dX1_drawnResult_7 : decode cX1_drawnResult 7 = .ok (.istore 4, 2) := by decide +kernel
theorem dX1_drawnResult_9 : decode cX1_drawnResult 9 = .ok (.aload_n 1, 1) := by decide +kernel
theorem dX1_drawnResult_10 : decode cX1_drawnResult 10 = .ok (.aload_n 1, 1) := by decide +kernel
theorem dX1_drawnResult_11 : decode cX1_drawnResult 11 = .ok (.getfield 70, 3) := by decide +kernel
theorem dX1_drawnResult_14 : decode cX1_drawnResult 14 = .ok (.ldc 73, 2) := by decide +kernel
theorem dX1_drawnResult_16 : decode cX1_drawnResult 16 = .ok (.imul, 1) := by decide +kernel
theorem dX1_drawnResult_17 : decode cX1_drawnResult 17 = .ok (.sipush 12345, 3) := by decide +kernel
theorem dX1_drawnResult_20 : decode cX1_drawnResult 20 = .ok (.iadd, 1) := by decide +kernel
theorem dX1_drawnResult_21 : decode cX1_drawnResult 21 = .ok (.putfield 70, 3) := by decide +kernel
theorem dX1_drawnResult_24 : decode cX1_drawnResult 24 = .ok (.aload_n 1, 1) := by decide +kernel
theorem dX1_drawnResult_25 : decode cX1_drawnResult 25 = .ok (.getfield 70, 3) := by decide +kernel
theorem dX1_drawnResult_28 : decode cX1_drawnResult 28 = .ok (.bipush 16, 2) := by decide +kernel
theorem dX1_drawnResult_30 : decode cX1_drawnResult 30 = .ok (.iushr, 1) := by decide +kernel
theorem dX1_drawnResult_31 : decode cX1_drawnResult 31 = .ok (.bipush 100, 2) := by decide +kernel
theorem dX1_drawnResult_33 : decode cX1_drawnResult 33 = .ok (.irem, 1) := by decide +kernel
theorem dX1_drawnResult_34 : decode cX1_drawnResult 34 = .ok (.iload 4, 2) := by decide +kernel
theorem dX1_drawnResult_36 : decode cX1_drawnResult 36 = .ok (.if_icmp .ge 7, 3) := by decide +kernel
theorem dX1_drawnResult_39 : decode cX1_drawnResult 39 = .ok (.iconst 0, 1) := by decide +kernel
theorem dX1_drawnResult_40 : decode cX1_drawnResult 40 = .ok (.goto 4, 3) := by decide +kernel
theorem dX1_drawnResult_43 : decode cX1_drawnResult 43 = .ok (.iconst 1, 1) := by decide +kernel
theorem dX1_drawnResult_44 : decode cX1_drawnResult 44 = .ok (.ireturn, 1) := by decide +kernel
theorem dX1_settle_0 : decode cX1_settle 0 = .ok (.aload_n 0, 1) := by decide +kernel
theorem dX1_settle_1 : decode cX1_settle 1 = .ok (.iconst (-1), 1) := by decide +kernel
theorem dX1_settle_2 : decode cX1_settle 2 = .ok (.putfield 35, 3) := by decide +kernel
theorem dX1_settle_5 : decode cX1_settle 5 = .ok (.aload_n 0, 1) := by decide +kernel
theorem dX1_settle_6 : decode cX1_settle 6 = .ok (.iconst 0, 1) := by decide +kernel
theorem dX1_settle_7 : decode cX1_settle 7 = .ok (.putfield 38, 3) := by decide +kernel
theorem dX1_settle_10 : decode cX1_settle 10 = .ok (.iload 5, 2) := by decide +kernel
theorem dX1_settle_12 : decode cX1_settle 12 = .ok (.ifCond .eq 11, 3) := by decide +kernel
theorem dX1_settle_15 : decode cX1_settle 15 = .ok (.aload_n 1, 1) := by decide +kernel
theorem dX1_settle_16 : decode cX1_settle 16 = .ok (.iload_n 2, 1) := by decide +kernel
theorem dX1_settle_17 : decode cX1_settle 17 = .ok (.iload_n 3, 1) := by decide +kernel
theorem dX1_settle_18 : decode cX1_settle 18 = .ok (.iload 4, 2) := by decide +kernel
theorem dX1_settle_20 : decode cX1_settle 20 = .ok (.invokestatic 74, 3) := by decide +kernel
theorem dX1_settle_23 : decode cX1_settle 23 = .ok (.iload 4, 2) := by decide +kernel
theorem dX1_settle_25 : decode cX1_settle 25 = .ok (.iconst 2, 1) := by decide +kernel
theorem dX1_settle_26 : decode cX1_settle 26 = .ok (.if_icmp .ne 4, 3) := by decide +kernel
theorem dX1_settle_29 : decode cX1_settle 29 = .ok (.return_, 1) := by decide +kernel
theorem dX1_settle_30 : decode cX1_settle 30 = .ok (.iload 4, 2) := by decide +kernel
theorem dX1_settle_32 : decode cX1_settle 32 = .ok (.ifCond .ne 7, 3) := by decide +kernel
theorem dX1_settle_35 : decode cX1_settle 35 = .ok (.iload_n 2, 1) := by decide +kernel
theorem dX1_settle_36 : decode cX1_settle 36 = .ok (.goto 4, 3) := by decide +kernel
theorem dX1_settle_39 : decode cX1_settle 39 = .ok (.iload_n 3, 1) := by decide +kernel
theorem dX1_settle_40 : decode cX1_settle 40 = .ok (.istore 6, 2) := by decide +kernel
theorem dX1_settle_42 : decode cX1_settle 42 = .ok (.iload 4, 2) := by decide +kernel
theorem dX1_settle_44 : decode cX1_settle 44 = .ok (.ifCond .ne 7, 3) := by decide +kernel
theorem dX1_settle_47 : decode cX1_settle 47 = .ok (.iload_n 3, 1) := by decide +kernel
theorem dX1_settle_48 : decode cX1_settle 48 = .ok (.goto 4, 3) := by decide +kernel
theorem dX1_settle_51 : decode cX1_settle 51 = .ok (.iload_n 2, 1) := by decide +kernel
theorem dX1_settle_52 : decode cX1_settle 52 = .ok (.istore 7, 2) := by decide +kernel
theorem dX1_settle_54 : decode cX1_settle 54 = .ok (.aload_n 0, 1) := by decide +kernel
theorem dX1_settle_55 : decode cX1_settle 55 = .ok (.getfield 9, 3) := by decide +kernel
theorem dX1_settle_58 : decode cX1_settle 58 = .ok (.iconst 0, 1) := by decide +kernel
theorem dX1_settle_59 : decode cX1_settle 59 = .ok (.iaload, 1) := by decide +kernel
theorem dX1_settle_60 : decode cX1_settle 60 = .ok (.ifCond .eq 13, 3) := by decide +kernel
theorem dX1_settle_63 : decode cX1_settle 63 = .ok (.aload_n 0, 1) := by decide +kernel
theorem dX1_settle_64 : decode cX1_settle 64 = .ok (.getfield 9, 3) := by decide +kernel
theorem dX1_settle_67 : decode cX1_settle 67 = .ok (.iconst 0, 1) := by decide +kernel
theorem dX1_settle_68 : decode cX1_settle 68 = .ok (.iaload, 1) := by decide +kernel
theorem dX1_settle_69 : decode cX1_settle 69 = .ok (.iconst 2, 1) := by decide +kernel
theorem dX1_settle_70 : decode cX1_settle 70 = .ok (.if_icmp .ne 14, 3) := by decide +kernel
theorem dX1_settle_73 : decode cX1_settle 73 = .ok (.aload_n 0, 1) := by decide +kernel
theorem dX1_settle_74 : decode cX1_settle 74 = .ok (.aload_n 1, 1) := by decide +kernel
theorem dX1_settle_75 : decode cX1_settle 75 = .ok (.iload 6, 2) := by decide +kernel
theorem dX1_settle_77 : decode cX1_settle 77 = .ok (.iload 7, 2) := by decide +kernel
theorem dX1_settle_79 : decode cX1_settle 79 = .ok (.iload 5, 2) := by decide +kernel
theorem dX1_settle_81 : decode cX1_settle 81 = .ok (.invokevirtual 78, 3) := by decide +kernel
theorem dX1_settle_84 : decode cX1_settle 84 = .ok (.aload_n 0, 1) := by decide +kernel
theorem dX1_settle_85 : decode cX1_settle 85 = .ok (.getfield 9, 3) := by decide +kernel
theorem dX1_settle_88 : decode cX1_settle 88 = .ok (.iconst 0, 1) := by decide +kernel
theorem dX1_settle_89 : decode cX1_settle 89 = .ok (.iaload, 1) := by decide +kernel
theorem dX1_settle_90 : decode cX1_settle 90 = .ok (.iconst 1, 1) := by decide +kernel
theorem dX1_settle_91 : decode cX1_settle 91 = .ok (.if_icmp .eq 13, 3) := by decide +kernel
theorem dX1_settle_94 : decode cX1_settle 94 = .ok (.aload_n 0, 1) := by decide +kernel
theorem dX1_settle_95 : decode cX1_settle 95 = .ok (.getfield 9, 3) := by decide +kernel
theorem dX1_settle_98 : decode cX1_settle 98 = .ok (.iconst 0, 1) := by decide +kernel
theorem dX1_settle_99 : decode cX1_settle 99 = .ok (.iaload, 1) := by decide +kernel
theorem dX1_settle_100 : decode cX1_settle 100 = .ok (.iconst 2, 1) := by decide +kernel
theorem dX1_settle_101 : decode cX1_settle 101 = .ok (.if_icmp .ne 14, 3) := by decide +kernel
theorem dX1_settle_104 : decode cX1_settle 104 = .ok (.aload_n 0, 1) := by decide +kernel
theorem dX1_settle_105 : decode cX1_settle 105 = .ok (.aload_n 1, 1) := by decide +kernel
theorem dX1_settle_106 : decode cX1_settle 106 = .ok (.iload 7, 2) := by decide +kernel
theorem dX1_settle_108 : decode cX1_settle 108 = .ok (.iload 6, 2) := by decide +kernel
theorem dX1_settle_110 : decode cX1_settle 110 = .ok (.iload 5, 2) := by decide +kernel
theorem dX1_settle_112 : decode cX1_settle 112 = .ok (.invokevirtual 78, 3) := by decide +kernel
theorem dX1_settle_115 : decode cX1_settle 115 = .ok (.return_, 1) := by decide +kernel
theorem dX1_givePoints_0 : decode cX1_givePoints 0 = .ok (.iload_n 3, 1) := by decide +kernel
theorem dX1_givePoints_1 : decode cX1_givePoints 1 = .ok (.iconst 2, 1) := by decide +kernel
theorem dX1_givePoints_2 : decode cX1_givePoints 2 = .ok (.if_icmp .ne 26, 3) := by decide +kernel
theorem dX1_givePoints_5 : decode cX1_givePoints 5 = .ok (.aload_n 0, 1) := by decide +kernel
theorem dX1_givePoints_6 : decode cX1_givePoints 6 = .ok (.getfield 82, 3) := by decide +kernel
theorem dX1_givePoints_9 : decode cX1_givePoints 9 = .ok (.iload_n 1, 1) := by decide +kernel
theorem dX1_givePoints_10 : decode cX1_givePoints 10 = .ok (.dup2, 1) := by decide +kernel
theorem dX1_givePoints_11 : decode cX1_givePoints 11 = .ok (.iaload, 1) := by decide +kernel
theorem dX1_givePoints_12 : decode cX1_givePoints 12 = .ok (.iconst 1, 1) := by decide +kernel
theorem dX1_givePoints_13 : decode cX1_givePoints 13 = .ok (.iadd, 1) := by decide +kernel
theorem dX1_givePoints_14 : decode cX1_givePoints 14 = .ok (.iastore, 1) := by decide +kernel
theorem dX1_givePoints_15 : decode cX1_givePoints 15 = .ok (.aload_n 0, 1) := by decide +kernel
theorem dX1_givePoints_16 : decode cX1_givePoints 16 = .ok (.getfield 82, 3) := by decide +kernel
theorem dX1_givePoints_19 : decode cX1_givePoints 19 = .ok (.iload_n 2, 1) := by decide +kernel
theorem dX1_givePoints_20 : decode cX1_givePoints 20 = .ok (.dup2, 1) := by decide +kernel
theorem dX1_givePoints_21 : decode cX1_givePoints 21 = .ok (.iaload, 1) := by decide +kernel
theorem dX1_givePoints_22 : decode cX1_givePoints 22 = .ok (.iconst 1, 1) := by decide +kernel
theorem dX1_givePoints_23 : decode cX1_givePoints 23 = .ok (.iadd, 1) := by decide +kernel
theorem dX1_givePoints_24 : decode cX1_givePoints 24 = .ok (.iastore, 1) := by decide +kernel
theorem dX1_givePoints_25 : decode cX1_givePoints 25 = .ok (.goto 21, 3) := by decide +kernel
theorem dX1_givePoints_28 : decode cX1_givePoints 28 = .ok (.aload_n 0, 1) := by decide +kernel
theorem dX1_givePoints_29 : decode cX1_givePoints 29 = .ok (.getfield 82, 3) := by decide +kernel
theorem dX1_givePoints_32 : decode cX1_givePoints 32 = .ok (.iload_n 3, 1) := by decide +kernel
theorem dX1_givePoints_33 : decode cX1_givePoints 33 = .ok (.ifCond .ne 7, 3) := by decide +kernel
theorem dX1_givePoints_36 : decode cX1_givePoints 36 = .ok (.iload_n 1, 1) := by decide +kernel
theorem dX1_givePoints_37 : decode cX1_givePoints 37 = .ok (.goto 4, 3) := by decide +kernel
theorem dX1_givePoints_40 : decode cX1_givePoints 40 = .ok (.iload_n 2, 1) := by decide +kernel
theorem dX1_givePoints_41 : decode cX1_givePoints 41 = .ok (.dup2, 1) := by decide +kernel
theorem dX1_givePoints_42 : decode cX1_givePoints 42 = .ok (.iaload, 1) := by decide +kernel
theorem dX1_givePoints_43 : decode cX1_givePoints 43 = .ok (.iconst 3, 1) := by decide +kernel
theorem dX1_givePoints_44 : decode cX1_givePoints 44 = .ok (.iadd, 1) := by decide +kernel
theorem dX1_givePoints_45 : decode cX1_givePoints 45 = .ok (.iastore, 1) := by decide +kernel
theorem dX1_givePoints_46 : decode cX1_givePoints 46 = .ok (.return_, 1) := by decide +kernel
theorem dX1_teach_0 : decode cX1_teach 0 = .ok (.aload_n 1, 1) := by decide +kernel
theorem dX1_teach_1 : decode cX1_teach 1 = .ok (.iload_n 2, 1) := by decide +kernel
theorem dX1_teach_2 : decode cX1_teach 2 = .ok (.iload_n 3, 1) := by decide +kernel
theorem dX1_teach_3 : decode cX1_teach 3 = .ok (.aload_n 0, 1) := by decide +kernel
theorem dX1_teach_4 : decode cX1_teach 4 = .ok (.getfield 29, 3) := by decide +kernel
theorem dX1_teach_7 : decode cX1_teach 7 = .ok (.invokevirtual 85, 3) := by decide +kernel
theorem dX1_teach_10 : decode cX1_teach 10 = .ok (.istore 5, 2) := by decide +kernel
theorem dX1_teach_12 : decode cX1_teach 12 = .ok (.iload 5, 2) := by decide +kernel
theorem dX1_teach_14 : decode cX1_teach 14 = .ok (.iconst (-1), 1) := by decide +kernel
theorem dX1_teach_15 : decode cX1_teach 15 = .ok (.if_icmp .ne 4, 3) := by decide +kernel
theorem dX1_teach_18 : decode cX1_teach 18 = .ok (.return_, 1) := by decide +kernel
theorem dX1_teach_19 : decode cX1_teach 19 = .ok (.aload_n 1, 1) := by decide +kernel
theorem dX1_teach_20 : decode cX1_teach 20 = .ok (.iload_n 3, 1) := by decide +kernel
theorem dX1_teach_21 : decode cX1_teach 21 = .ok (.iload 5, 2) := by decide +kernel
theorem dX1_teach_23 : decode cX1_teach 23 = .ok (.invokevirtual 88, 3) := by decide +kernel
theorem dX1_teach_26 : decode cX1_teach 26 = .ok (.istore 6, 2) := by decide +kernel
theorem dX1_teach_28 : decode cX1_teach 28 = .ok (.aload_n 1, 1) := by decide +kernel
theorem dX1_teach_29 : decode cX1_teach 29 = .ok (.iload_n 2, 1) := by decide +kernel
theorem dX1_teach_30 : decode cX1_teach 30 = .ok (.iload 5, 2) := by decide +kernel
theorem dX1_teach_32 : decode cX1_teach 32 = .ok (.invokevirtual 88, 3) := by decide +kernel
theorem dX1_teach_35 : decode cX1_teach 35 = .ok (.istore 7, 2) := by decide +kernel
theorem dX1_teach_37 : decode cX1_teach 37 = .ok (.aload_n 0, 1) := by decide +kernel
theorem dX1_teach_38 : decode cX1_teach 38 = .ok (.iload_n 2, 1) := by decide +kernel
theorem dX1_teach_39 : decode cX1_teach 39 = .ok (.invokevirtual 91, 3) := by decide +kernel
theorem dX1_teach_42 : decode cX1_teach 42 = .ok (.ifCond .eq 7, 3) := by decide +kernel
theorem dX1_teach_45 : decode cX1_teach 45 = .ok (.iconst 0, 1) := by decide +kernel
theorem dX1_teach_46 : decode cX1_teach 46 = .ok (.goto 17, 3) := by decide +kernel
theorem dX1_teach_49 : decode cX1_teach 49 = .ok (.aload_n 0, 1) := by decide +kernel
theorem dX1_teach_50 : decode cX1_teach 50 = .ok (.getfield 9, 3) := by decide +kernel
theorem dX1_teach_53 : decode cX1_teach 53 = .ok (.iconst 1, 1) := by decide +kernel
theorem dX1_teach_54 : decode cX1_teach 54 = .ok (.iaload, 1) := by decide +kernel
theorem dX1_teach_55 : decode cX1_teach 55 = .ok (.iload 7, 2) := by decide +kernel
theorem dX1_teach_57 : decode cX1_teach 57 = .ok (.iload 6, 2) := by decide +kernel
theorem dX1_teach_59 : decode cX1_teach 59 = .ok (.isub, 1) := by decide +kernel
theorem dX1_teach_60 : decode cX1_teach 60 = .ok (.invokestatic 94, 3) := by decide +kernel
theorem dX1_teach_63 : decode cX1_teach 63 = .ok (.istore 8, 2) := by decide +kernel
theorem dX1_teach_65 : decode cX1_teach 65 = .ok (.aload_n 1, 1) := by decide +kernel
theorem dX1_teach_66 : decode cX1_teach 66 = .ok (.iload_n 3, 1) := by decide +kernel
theorem dX1_teach_67 : decode cX1_teach 67 = .ok (.iload 5, 2) := by decide +kernel
theorem dX1_teach_69 : decode cX1_teach 69 = .ok (.iload 6, 2) := by decide +kernel
theorem dX1_teach_71 : decode cX1_teach 71 = .ok (.iload 8, 2) := by decide +kernel
theorem dX1_teach_73 : decode cX1_teach 73 = .ok (.iadd, 1) := by decide +kernel
theorem dX1_teach_74 : decode cX1_teach 74 = .ok (.invokevirtual 99, 3) := by decide +kernel
theorem dX1_teach_77 : decode cX1_teach 77 = .ok (.aload_n 1, 1) := by decide +kernel
theorem dX1_teach_78 : decode cX1_teach 78 = .ok (.iload_n 2, 1) := by decide +kernel
theorem dX1_teach_79 : decode cX1_teach 79 = .ok (.iload 5, 2) := by decide +kernel
theorem dX1_teach_81 : decode cX1_teach 81 = .ok (.iload 7, 2) := by decide +kernel
theorem dX1_teach_83 : decode cX1_teach 83 = .ok (.aload_n 0, 1) := by decide +kernel
theorem dX1_teach_84 : decode cX1_teach 84 = .ok (.getfield 9, 3) := by decide +kernel
theorem dX1_teach_87 : decode cX1_teach 87 = .ok (.iconst 2, 1) := by decide +kernel
theorem dX1_teach_88 : decode cX1_teach 88 = .ok (.iaload, 1) := by decide +kernel
theorem dX1_teach_89 : decode cX1_teach 89 = .ok (.iadd, 1) := by decide +kernel
theorem dX1_teach_90 : decode cX1_teach 90 = .ok (.iconst 1, 1) := by decide +kernel
theorem dX1_teach_91 : decode cX1_teach 91 = .ok (.isub, 1) := by decide +kernel
theorem dX1_teach_92 : decode cX1_teach 92 = .ok (.iconst 0, 1) := by decide +kernel
theorem dX1_teach_93 : decode cX1_teach 93 = .ok (.bipush 7, 2) := by decide +kernel
theorem dX1_teach_95 : decode cX1_teach 95 = .ok (.invokestatic 63, 3) := by decide +kernel
theorem dX1_teach_98 : decode cX1_teach 98 = .ok (.invokevirtual 99, 3) := by decide +kernel
theorem dX1_teach_101 : decode cX1_teach 101 = .ok (.iload 4, 2) := by decide +kernel
theorem dX1_teach_103 : decode cX1_teach 103 = .ok (.ifCond .eq 14, 3) := by decide +kernel
theorem dX1_teach_106 : decode cX1_teach 106 = .ok (.aload_n 1, 1) := by decide +kernel
theorem dX1_teach_107 : decode cX1_teach 107 = .ok (.getfield 103, 3) := by decide +kernel
theorem dX1_teach_110 : decode cX1_teach 110 = .ok (.iload_n 2, 1) := by decide +kernel
theorem dX1_teach_111 : decode cX1_teach 111 = .ok (.dup2, 1) := by decide +kernel
theorem dX1_teach_112 : decode cX1_teach 112 = .ok (.iaload, 1) := by decide +kernel
theorem dX1_teach_113 : decode cX1_teach 113 = .ok (.iload 8, 2) := by decide +kernel
theorem dX1_teach_115 : decode cX1_teach 115 = .ok (.iadd, 1) := by decide +kernel
theorem dX1_teach_116 : decode cX1_teach 116 = .ok (.iastore, 1) := by decide +kernel
theorem dX1_teach_117 : decode cX1_teach 117 = .ok (.aload_n 0, 1) := by decide +kernel
theorem dX1_teach_118 : decode cX1_teach 118 = .ok (.getfield 35, 3) := by decide +kernel
theorem dX1_teach_121 : decode cX1_teach 121 = .ok (.iconst (-1), 1) := by decide +kernel
theorem dX1_teach_122 : decode cX1_teach 122 = .ok (.if_icmp .ne 15, 3) := by decide +kernel
theorem dX1_teach_125 : decode cX1_teach 125 = .ok (.aload_n 0, 1) := by decide +kernel
theorem dX1_teach_126 : decode cX1_teach 126 = .ok (.iload 5, 2) := by decide +kernel
theorem dX1_teach_128 : decode cX1_teach 128 = .ok (.putfield 35, 3) := by decide +kernel
theorem dX1_teach_131 : decode cX1_teach 131 = .ok (.aload_n 0, 1) := by decide +kernel
theorem dX1_teach_132 : decode cX1_teach 132 = .ok (.iload 8, 2) := by decide +kernel
theorem dX1_teach_134 : decode cX1_teach 134 = .ok (.putfield 38, 3) := by decide +kernel
theorem dX1_teach_137 : decode cX1_teach 137 = .ok (.return_, 1) := by decide +kernel
theorem dX2_init_0 : decode cX2_init 0 = .ok (.aload_n 0, 1) := by decide +kernel
theorem dX2_init_1 : decode cX2_init 1 = .ok (.invokespecial 1, 3) := by decide +kernel
theorem dX2_init_4 : decode cX2_init 4 = .ok (.aload_n 0, 1) := by decide +kernel
theorem dX2_init_5 : decode cX2_init 5 = .ok (.bipush 20, 2) := by decide +kernel
theorem dX2_init_7 : decode cX2_init 7 = .ok (.anewarray 9, 3) := by decide +kernel
theorem dX2_init_10 : decode cX2_init 10 = .ok (.putfield 11, 3) := by decide +kernel
theorem dX2_init_13 : decode cX2_init 13 = .ok (.aload_n 0, 1) := by decide +kernel
theorem dX2_init_14 : decode cX2_init 14 = .ok (.iconst 0, 1) := by decide +kernel
theorem dX2_init_15 : decode cX2_init 15 = .ok (.putfield 15, 3) := by decide +kernel
theorem dX2_init_18 : decode cX2_init 18 = .ok (.aload_n 0, 1) := by decide +kernel
theorem dX2_init_19 : decode cX2_init 19 = .ok (.iconst 0, 1) := by decide +kernel
theorem dX2_init_20 : decode cX2_init 20 = .ok (.putfield 19, 3) := by decide +kernel
theorem dX2_init_23 : decode cX2_init 23 = .ok (.iconst 0, 1) := by decide +kernel
theorem dX2_init_24 : decode cX2_init 24 = .ok (.istore_n 1, 1) := by decide +kernel
theorem dX2_init_25 : decode cX2_init 25 = .ok (.iload_n 1, 1) := by decide +kernel
theorem dX2_init_26 : decode cX2_init 26 = .ok (.bipush 20, 2) := by decide +kernel
theorem dX2_init_28 : decode cX2_init 28 = .ok (.if_icmp .ge 22, 3) := by decide +kernel
theorem dX2_init_31 : decode cX2_init 31 = .ok (.aload_n 0, 1) := by decide +kernel
theorem dX2_init_32 : decode cX2_init 32 = .ok (.getfield 11, 3) := by decide +kernel
theorem dX2_init_35 : decode cX2_init 35 = .ok (.iload_n 1, 1) := by decide +kernel
theorem dX2_init_36 : decode cX2_init 36 = .ok (.new 9, 3) := by decide +kernel
theorem dX2_init_39 : decode cX2_init 39 = .ok (.dup, 1) := by decide +kernel
theorem dX2_init_40 : decode cX2_init 40 = .ok (.invokespecial 22, 3) := by decide +kernel
theorem dX2_init_43 : decode cX2_init 43 = .ok (.aastore, 1) := by decide +kernel
theorem dX2_init_44 : decode cX2_init 44 = .ok (.iinc 1 1, 3) := by decide +kernel
theorem dX2_init_47 : decode cX2_init 47 = .ok (.goto (-22), 3) := by decide +kernel
theorem dX2_init_50 : decode cX2_init 50 = .ok (.return_, 1) := by decide +kernel
theorem dX2_save_0 : decode cX2_save 0 = .ok (.aload_n 0, 1) := by decide +kernel
theorem dX2_save_1 : decode cX2_save 1 = .ok (.aload_n 0, 1) := by decide +kernel
theorem dX2_save_2 : decode cX2_save 2 = .ok (.getfield 19, 3) := by decide +kernel
theorem dX2_save_5 : decode cX2_save 5 = .ok (.iconst 1, 1) := by decide +kernel
theorem dX2_save_6 : decode cX2_save 6 = .ok (.iadd, 1) := by decide +kernel
theorem dX2_save_7 : decode cX2_save 7 = .ok (.bipush 20, 2) := by decide +kernel
theorem dX2_save_9 : decode cX2_save 9 = .ok (.if_icmp .ge 12, 3) := by decide +kernel
theorem dX2_save_12 : decode cX2_save 12 = .ok (.aload_n 0, 1) := by decide +kernel
theorem dX2_save_13 : decode cX2_save 13 = .ok (.getfield 19, 3) := by decide +kernel
theorem dX2_save_16 : decode cX2_save 16 = .ok (.iconst 1, 1) := by decide +kernel
theorem dX2_save_17 : decode cX2_save 17 = .ok (.iadd, 1) := by decide +kernel
theorem dX2_save_18 : decode cX2_save 18 = .ok (.goto 4, 3) := by decide +kernel
theorem dX2_save_21 : decode cX2_save 21 = .ok (.iconst 0, 1) := by decide +kernel
theorem dX2_save_22 : decode cX2_save 22 = .ok (.putfield 19, 3) := by decide +kernel
theorem dX2_save_25 : decode cX2_save 25 = .ok (.aload_n 0, 1) := by decide +kernel
theorem dX2_save_26 : decode cX2_save 26 = .ok (.getfield 11, 3) := by decide +kernel
theorem dX2_save_29 : decode cX2_save 29 = .ok (.aload_n 0, 1) := by decide +kernel
theorem dX2_save_30 : decode cX2_save 30 = .ok (.getfield 19, 3) := by decide +kernel
theorem dX2_save_33 : decode cX2_save 33 = .ok (.aaload, 1) := by decide +kernel
theorem dX2_save_34 : decode cX2_save 34 = .ok (.aload_n 1, 1) := by decide +kernel
theorem dX2_save_35 : decode cX2_save 35 = .ok (.invokevirtual 23, 3) := by decide +kernel
theorem dX2_save_38 : decode cX2_save 38 = .ok (.aload_n 0, 1) := by decide +kernel
theorem dX2_save_39 : decode cX2_save 39 = .ok (.aload_n 0, 1) := by decide +kernel
theorem dX2_save_40 : decode cX2_save 40 = .ok (.getfield 15, 3) := by decide +kernel
theorem dX2_save_43 : decode cX2_save 43 = .ok (.iconst 1, 1) := by decide +kernel
theorem dX2_save_44 : decode cX2_save 44 = .ok (.iadd, 1) := by decide +kernel
theorem dX2_save_45 : decode cX2_save 45 = .ok (.bipush 20, 2) := by decide +kernel
theorem dX2_save_47 : decode cX2_save 47 = .ok (.invokestatic 27, 3) := by decide +kernel
theorem dX2_save_50 : decode cX2_save 50 = .ok (.putfield 15, 3) := by decide +kernel
theorem dX2_save_53 : decode cX2_save 53 = .ok (.return_, 1) := by decide +kernel
theorem dX2_takeBack_0 : decode cX2_takeBack 0 = .ok (.aload_n 0, 1) := by decide +kernel
theorem dX2_takeBack_1 : decode cX2_takeBack 1 = .ok (.getfield 15, 3) := by decide +kernel
theorem dX2_takeBack_4 : decode cX2_takeBack 4 = .ok (.ifCond .ne 5, 3) := by decide +kernel
theorem dX2_takeBack_7 : decode cX2_takeBack 7 = .ok (.iconst 0, 1) := by decide +kernel
theorem dX2_takeBack_8 : decode cX2_takeBack 8 = .ok (.ireturn, 1) := by decide +kernel
theorem dX2_takeBack_9 : decode cX2_takeBack 9 = .ok (.aload_n 1, 1) := by decide +kernel
theorem dX2_takeBack_10 : decode cX2_takeBack 10 = .ok (.aload_n 0, 1) := by decide +kernel
theorem dX2_takeBack_11 : decode cX2_takeBack 11 = .ok (.getfield 11, 3) := by decide +kernel
theorem dX2_takeBack_14 : decode cX2_takeBack 14 = .ok (.aload_n 0, 1) := by decide +kernel
theorem dX2_takeBack_15 : decode cX2_takeBack 15 = .ok (.getfield 19, 3) := by decide +kernel
theorem dX2_takeBack_18 : decode cX2_takeBack 18 = .ok (.aaload, 1) := by decide +kernel
theorem dX2_takeBack_19 : decode cX2_takeBack 19 = .ok (.invokevirtual 23, 3) := by decide +kernel
theorem dX2_takeBack_22 : decode cX2_takeBack 22 = .ok (.aload_n 0, 1) := by decide +kernel
theorem dX2_takeBack_23 : decode cX2_takeBack 23 = .ok (.aload_n 0, 1) := by decide +kernel
theorem dX2_takeBack_24 : decode cX2_takeBack 24 = .ok (.getfield 19, 3) := by decide +kernel
theorem dX2_takeBack_27 : decode cX2_takeBack 27 = .ok (.ifCond .le 12, 3) := by decide +kernel
theorem dX2_takeBack_30 : decode cX2_takeBack 30 = .ok (.aload_n 0, 1) := by decide +kernel
theorem dX2_takeBack_31 : decode cX2_takeBack 31 = .ok (.getfield 19, 3) := by decide +kernel
theorem dX2_takeBack_34 : decode cX2_takeBack 34 = .ok (.iconst 1, 1) := by decide +kernel
theorem dX2_takeBack_35 : decode cX2_takeBack 35 = .ok (.isub, 1) := by decide +kernel
theorem dX2_takeBack_36 : decode cX2_takeBack 36 = .ok (.goto 5, 3) := by decide +kernel
theorem dX2_takeBack_39 : decode cX2_takeBack 39 = .ok (.bipush 19, 2) := by decide +kernel
theorem dX2_takeBack_41 : decode cX2_takeBack 41 = .ok (.putfield 19, 3) := by decide +kernel
theorem dX2_takeBack_44 : decode cX2_takeBack 44 = .ok (.aload_n 0, 1) := by decide +kernel
theorem dX2_takeBack_45 : decode cX2_takeBack 45 = .ok (.dup, 1) := by decide +kernel
theorem dX2_takeBack_46 : decode cX2_takeBack 46 = .ok (.getfield 15, 3) := by decide +kernel
theorem dX2_takeBack_49 : decode cX2_takeBack 49 = .ok (.iconst 1, 1) := by decide +kernel
theorem dX2_takeBack_50 : decode cX2_takeBack 50 = .ok (.isub, 1) := by decide +kernel
theorem dX2_takeBack_51 : decode cX2_takeBack 51 = .ok (.putfield 15, 3) := by decide +kernel
theorem dX2_takeBack_54 : decode cX2_takeBack 54 = .ok (.iconst 1, 1) := by decide +kernel
theorem dX2_takeBack_55 : decode cX2_takeBack 55 = .ok (.ireturn, 1) := by decide +kernel
theorem dX3_init_0 : decode cX3_init 0 = .ok (.aload_n 0, 1) := by decide +kernel
theorem dX3_init_1 : decode cX3_init 1 = .ok (.invokespecial 5, 3) := by decide +kernel
theorem dX3_init_4 : decode cX3_init 4 = .ok (.aload_n 0, 1) := by decide +kernel
theorem dX3_init_5 : decode cX3_init 5 = .ok (.bipush 48, 2) := by decide +kernel
theorem dX3_init_7 : decode cX3_init 7 = .ok (.newarray .int, 2) := by decide +kernel
theorem dX3_init_9 : decode cX3_init 9 = .ok (.putfield 11, 3) := by decide +kernel
theorem dX3_init_12 : decode cX3_init 12 = .ok (.aload_n 0, 1) := by decide +kernel
theorem dX3_init_13 : decode cX3_init 13 = .ok (.bipush 48, 2) := by decide +kernel
theorem dX3_init_15 : decode cX3_init 15 = .ok (.newarray .int, 2) := by decide +kernel
theorem dX3_init_17 : decode cX3_init 17 = .ok (.putfield 15, 3) := by decide +kernel
theorem dX3_init_20 : decode cX3_init 20 = .ok (.aload_n 0, 1) := by decide +kernel
theorem dX3_init_21 : decode cX3_init 21 = .ok (.bipush 48, 2) := by decide +kernel
theorem dX3_init_23 : decode cX3_init 23 = .ok (.newarray .int, 2) := by decide +kernel
theorem dX3_init_25 : decode cX3_init 25 = .ok (.putfield 18, 3) := by decide +kernel
theorem dX3_init_28 : decode cX3_init 28 = .ok (.aload_n 0, 1) := by decide +kernel
theorem dX3_init_29 : decode cX3_init 29 = .ok (.bipush 13, 2) := by decide +kernel
theorem dX3_init_31 : decode cX3_init 31 = .ok (.newarray .int, 2) := by decide +kernel
theorem dX3_init_33 : decode cX3_init 33 = .ok (.putfield 21, 3) := by decide +kernel
theorem dX3_init_36 : decode cX3_init 36 = .ok (.aload_n 0, 1) := by decide +kernel
theorem dX3_init_37 : decode cX3_init 37 = .ok (.bipush 8, 2) := by decide +kernel
theorem dX3_init_39 : decode cX3_init 39 = .ok (.newarray .int, 2) := by decide +kernel
theorem dX3_init_41 : decode cX3_init 41 = .ok (.putfield 24, 3) := by decide +kernel
theorem dX3_init_44 : decode cX3_init 44 = .ok (.aload_n 0, 1) := by decide +kernel
theorem dX3_init_45 : decode cX3_init 45 = .ok (.iconst 0, 1) := by decide +kernel
theorem dX3_init_46 : decode cX3_init 46 = .ok (.putfield 27, 3) := by decide +kernel
theorem dX3_init_49 : decode cX3_init 49 = .ok (.aload_n 0, 1) := by decide +kernel
theorem dX3_init_50 : decode cX3_init 50 = .ok (.iconst 0, 1) := by decide +kernel
theorem dX3_init_51 : decode cX3_init 51 = .ok (.putfield 31, 3) := by decide +kernel
theorem dX3_init_54 : decode cX3_init 54 = .ok (.aload_n 0, 1) := by decide +kernel
theorem dX3_init_55 : decode cX3_init 55 = .ok (.iconst 0, 1) := by decide +kernel
theorem dX3_init_56 : decode cX3_init 56 = .ok (.putfield 34, 3) := by decide +kernel
theorem dX3_init_59 : decode cX3_init 59 = .ok (.aload_n 0, 1) := by decide +kernel
theorem dX3_init_60 : decode cX3_init 60 = .ok (.iconst 0, 1) := by decide +kernel
theorem dX3_init_61 : decode cX3_init 61 = .ok (.putfield 37, 3) := by decide +kernel
theorem dX3_init_64 : decode cX3_init 64 = .ok (.return_, 1) := by decide +kernel
theorem dX3_clear_0 : decode cX3_clear 0 = .ok (.aload_n 0, 1) := by decide +kernel
theorem dX3_clear_1 : decode cX3_clear 1 = .ok (.iconst 0, 1) := by decide +kernel
theorem dX3_clear_2 : decode cX3_clear 2 = .ok (.putfield 27, 3) := by decide +kernel
theorem dX3_clear_5 : decode cX3_clear 5 = .ok (.aload_n 0, 1) := by decide +kernel
theorem dX3_clear_6 : decode cX3_clear 6 = .ok (.iconst 0, 1) := by decide +kernel
theorem dX3_clear_7 : decode cX3_clear 7 = .ok (.putfield 31, 3) := by decide +kernel
theorem dX3_clear_10 : decode cX3_clear 10 = .ok (.return_, 1) := by decide +kernel
theorem dX3_begin_0 : decode cX3_begin 0 = .ok (.iload_n 1, 1) := by decide +kernel
theorem dX3_begin_1 : decode cX3_begin 1 = .ok (.ifCond .lt 20, 3) := by decide +kernel
theorem dX3_begin_4 : decode cX3_begin 4 = .ok (.iload_n 1, 1) := by decide +kernel
theorem dX3_begin_5 : decode cX3_begin 5 = .ok (.aload_n 0, 1) := by decide +kernel
theorem dX3_begin_6 : decode cX3_begin 6 = .ok (.getfield 27, 3) := by decide +kernel
theorem dX3_begin_9 : decode cX3_begin 9 = .ok (.if_icmp .ge 12, 3) := by decide +kernel
theorem dX3_begin_12 : decode cX3_begin 12 = .ok (.aload_n 0, 1) := by decide +kernel
theorem dX3_begin_13 : decode cX3_begin 13 = .ok (.getfield 21, 3) := by decide +kernel
theorem dX3_begin_16 : decode cX3_begin 16 = .ok (.iload_n 1, 1) := by decide +kernel
theorem dX3_begin_17 : decode cX3_begin 17 = .ok (.iaload, 1) := by decide +kernel
theorem dX3_begin_18 : decode cX3_begin 18 = .ok (.goto 7, 3) := by decide +kernel
theorem dX3_begin_21 : decode cX3_begin 21 = .ok (.aload_n 0, 1) := by decide +kernel
theorem dX3_begin_22 : decode cX3_begin 22 = .ok (.getfield 31, 3) := by decide +kernel
theorem dX3_begin_25 : decode cX3_begin 25 = .ok (.ireturn, 1) := by decide +kernel
theorem dX3_after_0 : decode cX3_after 0 = .ok (.iload_n 1, 1) := by decide +kernel
theorem dX3_after_1 : decode cX3_after 1 = .ok (.iconst 1, 1) := by decide +kernel
theorem dX3_after_2 : decode cX3_after 2 = .ok (.iadd, 1) := by decide +kernel
theorem dX3_after_3 : decode cX3_after 3 = .ok (.aload_n 0, 1) := by decide +kernel
theorem dX3_after_4 : decode cX3_after 4 = .ok (.getfield 27, 3) := by decide +kernel
theorem dX3_after_7 : decode cX3_after 7 = .ok (.if_icmp .ge 9, 3) := by decide +kernel
theorem dX3_after_10 : decode cX3_after 10 = .ok (.iload_n 1, 1) := by decide +kernel
theorem dX3_after_11 : decode cX3_after 11 = .ok (.iconst 1, 1) := by decide +kernel
theorem dX3_after_12 : decode cX3_after 12 = .ok (.iadd, 1) := by decide +kernel
theorem dX3_after_13 : decode cX3_after 13 = .ok (.goto 4, 3) := by decide +kernel
theorem dX3_after_16 : decode cX3_after 16 = .ok (.iconst 0, 1) := by decide +kernel
theorem dX3_after_17 : decode cX3_after 17 = .ok (.ireturn, 1) := by decide +kernel
theorem dX3_compile_0 : decode cX3_compile 0 = .ok (.aload_n 0, 1) := by decide +kernel
theorem dX3_compile_1 : decode cX3_compile 1 = .ok (.invokevirtual 40, 3) := by decide +kernel
theorem dX3_compile_4 : decode cX3_compile 4 = .ok (.aload_n 1, 1) := by decide +kernel
theorem dX3_compile_5 : decode cX3_compile 5 = .ok (.getfield 43, 3) := by decide +kernel
theorem dX3_compile_8 : decode cX3_compile 8 = .ok (.ifCond .ne 5, 3) := by decide +kernel
theorem dX3_compile_11 : decode cX3_compile 11 = .ok (.iconst (-1), 1) := by decide +kernel
theorem dX3_compile_12 : decode cX3_compile 12 = .ok (.ireturn, 1) := by decide +kernel
theorem dX3_compile_13 : decode cX3_compile 13 = .ok (.aload_n 0, 1) := by decide +kernel
theorem dX3_compile_14 : decode cX3_compile 14 = .ok (.invokevirtual 48, 3) := by decide +kernel
theorem dX3_compile_17 : decode cX3_compile 17 = .ok (.aload_n 1, 1) := by decide +kernel
theorem dX3_compile_18 : decode cX3_compile 18 = .ok (.getfield 43, 3) := by decide +kernel
theorem dX3_compile_21 : decode cX3_compile 21 = .ok (.bipush 76, 2) := by decide +kernel
theorem dX3_compile_23 : decode cX3_compile 23 = .ok (.invokestatic 51, 3) := by decide +kernel
theorem dX3_compile_26 : decode cX3_compile 26 = .ok (.istore_n 3, 1) := by decide +kernel
theorem dX3_compile_27 : decode cX3_compile 27 = .ok (.iconst 0, 1) := by decide +kernel
theorem dX3_compile_28 : decode cX3_compile 28 = .ok (.istore 4, 2) := by decide +kernel
theorem dX3_compile_30 : decode cX3_compile 30 = .ok (.iload 4, 2) := by decide +kernel
theorem dX3_compile_32 : decode cX3_compile 32 = .ok (.iload_n 3, 1) := by decide +kernel
theorem dX3_compile_33 : decode cX3_compile 33 = .ok (.if_icmp .ge 27, 3) := by decide +kernel
theorem dX3_compile_36 : decode cX3_compile 36 = .ok (.aload_n 0, 1) := by decide +kernel
theorem dX3_compile_37 : decode cX3_compile 37 = .ok (.aload_n 1, 1) := by decide +kernel
theorem dX3_compile_38 : decode cX3_compile 38 = .ok (.getfield 57, 3) := by decide +kernel
theorem dX3_compile_41 : decode cX3_compile 41 = .ok (.iload 4, 2) := by decide +kernel
theorem dX3_compile_43 : decode cX3_compile 43 = .ok (.caload, 1) := by decide +kernel
theorem dX3_compile_44 : decode cX3_compile 44 = .ok (.iload_n 2, 1) := by decide +kernel
theorem dX3_compile_45 : decode cX3_compile 45 = .ok (.invokevirtual 61, 3) := by decide +kernel
theorem dX3_compile_48 : decode cX3_compile 48 = .ok (.ifCond .ne 6, 3) := by decide +kernel
theorem dX3_compile_51 : decode cX3_compile 51 = .ok (.iload 4, 2) := by decide +kernel
theorem dX3_compile_53 : decode cX3_compile 53 = .ok (.ireturn, 1) := by decide +kernel
theorem dX3_compile_54 : decode cX3_compile 54 = .ok (.iinc 4 1, 3) := by decide +kernel
theorem dX3_compile_57 : decode cX3_compile 57 = .ok (.goto (-27), 3) := by decide +kernel
theorem dX3_compile_60 : decode cX3_compile 60 = .ok (.aload_n 1, 1) := by decide +kernel
theorem dX3_compile_61 : decode cX3_compile 61 = .ok (.getfield 43, 3) := by decide +kernel
theorem dX3_compile_64 : decode cX3_compile 64 = .ok (.bipush 76, 2) := by decide +kernel
theorem dX3_compile_66 : decode cX3_compile 66 = .ok (.if_icmp .gt 19, 3) := by decide +kernel
theorem dX3_compile_69 : decode cX3_compile 69 = .ok (.aload_n 0, 1) := by decide +kernel
theorem dX3_compile_70 : decode cX3_compile 70 = .ok (.getfield 34, 3) := by decide +kernel
theorem dX3_compile_73 : decode cX3_compile 73 = .ok (.iconst 4, 1) := by decide +kernel
theorem dX3_compile_74 : decode cX3_compile 74 = .ok (.if_icmp .eq 15, 3) := by decide +kernel
theorem dX3_compile_77 : decode cX3_compile 77 = .ok (.aload_n 0, 1) := by decide +kernel
theorem dX3_compile_78 : decode cX3_compile 78 = .ok (.getfield 34, 3) := by decide +kernel
theorem dX3_compile_81 : decode cX3_compile 81 = .ok (.iconst 5, 1) := by decide +kernel
theorem dX3_compile_82 : decode cX3_compile 82 = .ok (.if_icmp .eq 7, 3) := by decide +kernel
theorem dX3_compile_85 : decode cX3_compile 85 = .ok (.iload_n 3, 1) := by decide +kernel
theorem dX3_compile_86 : decode cX3_compile 86 = .ok (.goto 4, 3) := by decide +kernel
theorem dX3_compile_89 : decode cX3_compile 89 = .ok (.iconst (-1), 1) := by decide +kernel
theorem dX3_compile_90 : decode cX3_compile 90 = .ok (.ireturn, 1) := by decide +kernel
theorem dX3_openRound_0 : decode cX3_openRound 0 = .ok (.aload_n 0, 1) := by decide +kernel
theorem dX3_openRound_1 : decode cX3_openRound 1 = .ok (.getfield 27, 3) := by decide +kernel
theorem dX3_openRound_4 : decode cX3_openRound 4 = .ok (.bipush 12, 2) := by decide +kernel
theorem dX3_openRound_6 : decode cX3_openRound 6 = .ok (.if_icmp .ge 16, 3) := by decide +kernel
theorem dX3_openRound_9 : decode cX3_openRound 9 = .ok (.aload_n 0, 1) := by decide +kernel
theorem dX3_openRound_10 : decode cX3_openRound 10 = .ok (.getfield 21, 3) := by decide +kernel
theorem dX3_openRound_13 : decode cX3_openRound 13 = .ok (.aload_n 0, 1) := by decide +kernel
theorem dX3_openRound_14 : decode cX3_openRound 14 = .ok (.getfield 27, 3) := by decide +kernel
theorem dX3_openRound_17 : decode cX3_openRound 17 = .ok (.aload_n 0, 1) := by decide +kernel
theorem dX3_openRound_18 : decode cX3_openRound 18 = .ok (.getfield 31, 3) := by decide +kernel
theorem dX3_openRound_21 : decode cX3_openRound 21 = .ok (.iastore, 1) := by decide +kernel
theorem dX3_openRound_22 : decode cX3_openRound 22 = .ok (.aload_n 0, 1) := by decide +kernel
theorem dX3_openRound_23 : decode cX3_openRound 23 = .ok (.dup, 1) := by decide +kernel
theorem dX3_openRound_24 : decode cX3_openRound 24 = .ok (.getfield 27, 3) := by decide +kernel
theorem dX3_openRound_27 : decode cX3_openRound 27 = .ok (.iconst 1, 1) := by decide +kernel
theorem dX3_openRound_28 : decode cX3_openRound 28 = .ok (.iadd, 1) := by decide +kernel
theorem dX3_openRound_29 : decode cX3_openRound 29 = .ok (.putfield 27, 3) := by decide +kernel
theorem dX3_openRound_32 : decode cX3_openRound 32 = .ok (.aload_n 0, 1) := by decide +kernel
theorem dX3_openRound_33 : decode cX3_openRound 33 = .ok (.iconst 0, 1) := by decide +kernel
theorem dX3_openRound_34 : decode cX3_openRound 34 = .ok (.putfield 37, 3) := by decide +kernel
theorem dX3_openRound_37 : decode cX3_openRound 37 = .ok (.aload_n 0, 1) := by decide +kernel
theorem dX3_openRound_38 : decode cX3_openRound 38 = .ok (.iconst 0, 1) := by decide +kernel
theorem dX3_openRound_39 : decode cX3_openRound 39 = .ok (.putfield 34, 3) := by decide +kernel
theorem dX3_openRound_42 : decode cX3_openRound 42 = .ok (.return_, 1) := by decide +kernel
theorem dX3_take_0 : decode cX3_take 0 = .ok (.aload_n 0, 1) := by decide +kernel
theorem dX3_take_1 : decode cX3_take 1 = .ok (.getfield 34, 3) := by decide +kernel
theorem dX3_take_4 : decode cX3_take 4 = .ok (.tableswitch 117 0 4 #[36, 63, 87, 36, 93], 36) := by decide +kernel
theorem dX3_take_40 : decode cX3_take 40 = .ok (.aload_n 0, 1) := by decide +kernel
theorem dX3_take_41 : decode cX3_take 41 = .ok (.getfield 27, 3) := by decide +kernel
theorem dX3_take_44 : decode cX3_take 44 = .ok (.bipush 12, 2) := by decide +kernel
theorem dX3_take_46 : decode cX3_take 46 = .ok (.if_icmp .gt 19, 3) := by decide +kernel
theorem dX3_take_49 : decode cX3_take 49 = .ok (.aload_n 0, 1) := by decide +kernel
theorem dX3_take_50 : decode cX3_take 50 = .ok (.iload_n 1, 1) := by decide +kernel
theorem dX3_take_51 : decode cX3_take 51 = .ok (.bipush 48, 2) := by decide +kernel
theorem dX3_take_53 : decode cX3_take 53 = .ok (.isub, 1) := by decide +kernel
theorem dX3_take_54 : decode cX3_take 54 = .ok (.iload_n 2, 1) := by decide +kernel
theorem dX3_take_55 : decode cX3_take 55 = .ok (.invokevirtual 65, 3) := by decide +kernel
theorem dX3_take_58 : decode cX3_take 58 = .ok (.ifCond .eq 7, 3) := by decide +kernel
theorem dX3_take_61 : decode cX3_take 61 = .ok (.iconst 1, 1) := by decide +kernel
theorem dX3_take_62 : decode cX3_take 62 = .ok (.goto 4, 3) := by decide +kernel
theorem dX3_take_65 : decode cX3_take 65 = .ok (.iconst 0, 1) := by decide +kernel
theorem dX3_take_66 : decode cX3_take 66 = .ok (.ireturn, 1) := by decide +kernel
theorem dX3_take_67 : decode cX3_take 67 = .ok (.aload_n 0, 1) := by decide +kernel
theorem dX3_take_68 : decode cX3_take 68 = .ok (.iload_n 1, 1) := by decide +kernel
theorem dX3_take_69 : decode cX3_take 69 = .ok (.iconst 1, 1) := by decide +kernel
theorem dX3_take_70 : decode cX3_take 70 = .ok (.iconst 2, 1) := by decide +kernel
theorem dX3_take_71 : decode cX3_take 71 = .ok (.invokevirtual 69, 3) := by decide +kernel
theorem dX3_take_74 : decode cX3_take 74 = .ok (.ifCond .ne 11, 3) := by decide +kernel
theorem dX3_take_77 : decode cX3_take 77 = .ok (.aload_n 0, 1) := by decide +kernel
theorem dX3_take_78 : decode cX3_take 78 = .ok (.iload_n 1, 1) := by decide +kernel
theorem dX3_take_79 : decode cX3_take 79 = .ok (.invokevirtual 73, 3) := by decide +kernel
theorem dX3_take_82 : decode cX3_take 82 = .ok (.ifCond .eq 7, 3) := by decide +kernel
theorem dX3_take_85 : decode cX3_take 85 = .ok (.iconst 1, 1) := by decide +kernel
theorem dX3_take_86 : decode cX3_take 86 = .ok (.goto 4, 3) := by decide +kernel
theorem dX3_take_89 : decode cX3_take 89 = .ok (.iconst 0, 1) := by decide +kernel
theorem dX3_take_90 : decode cX3_take 90 = .ok (.ireturn, 1) := by decide +kernel
theorem dX3_take_91 : decode cX3_take 91 = .ok (.aload_n 0, 1) := by decide +kernel
theorem dX3_take_92 : decode cX3_take 92 = .ok (.iload_n 1, 1) := by decide +kernel
theorem dX3_take_93 : decode cX3_take 93 = .ok (.invokevirtual 73, 3) := by decide +kernel
theorem dX3_take_96 : decode cX3_take 96 = .ok (.ireturn, 1) := by decide +kernel
theorem dX3_take_97 : decode cX3_take 97 = .ok (.aload_n 0, 1) := by decide +kernel
theorem dX3_take_98 : decode cX3_take 98 = .ok (.iload_n 1, 1) := by decide +kernel
theorem dX3_take_99 : decode cX3_take 99 = .ok (.iconst 2, 1) := by decide +kernel
theorem dX3_take_100 : decode cX3_take 100 = .ok (.iconst 5, 1) := by decide +kernel
theorem dX3_take_101 : decode cX3_take 101 = .ok (.invokevirtual 69, 3) := by decide +kernel
theorem dX3_take_104 : decode cX3_take 104 = .ok (.ifCond .ne 11, 3) := by decide +kernel
theorem dX3_take_107 : decode cX3_take 107 = .ok (.aload_n 0, 1) := by decide +kernel
theorem dX3_take_108 : decode cX3_take 108 = .ok (.iload_n 1, 1) := by decide +kernel
theorem dX3_take_109 : decode cX3_take 109 = .ok (.invokevirtual 77, 3) := by decide +kernel
theorem dX3_take_112 : decode cX3_take 112 = .ok (.ifCond .eq 7, 3) := by decide +kernel
theorem dX3_take_115 : decode cX3_take 115 = .ok (.iconst 1, 1) := by decide +kernel
theorem dX3_take_116 : decode cX3_take 116 = .ok (.goto 4, 3) := by decide +kernel
theorem dX3_take_119 : decode cX3_take 119 = .ok (.iconst 0, 1) := by decide +kernel
theorem dX3_take_120 : decode cX3_take 120 = .ok (.ireturn, 1) := by decide +kernel
theorem dX3_take_121 : decode cX3_take 121 = .ok (.aload_n 0, 1) := by decide +kernel
theorem dX3_take_122 : decode cX3_take 122 = .ok (.iload_n 1, 1) := by decide +kernel
theorem dX3_take_123 : decode cX3_take 123 = .ok (.invokevirtual 77, 3) := by decide +kernel
theorem dX3_take_126 : decode cX3_take 126 = .ok (.ireturn, 1) := by decide +kernel
theorem dX3_takeSide_0 : decode cX3_takeSide 0 = .ok (.iload_n 1, 1) := by decide +kernel
theorem dX3_takeSide_1 : decode cX3_takeSide 1 = .ok (.ifCond .lt 19, 3) := by decide +kernel
theorem dX3_takeSide_4 : decode cX3_takeSide 4 = .ok (.iload_n 1, 1) := by decide +kernel
theorem dX3_takeSide_5 : decode cX3_takeSide 5 = .ok (.iload_n 2, 1) := by decide +kernel
theorem dX3_takeSide_6 : decode cX3_takeSide 6 = .ok (.if_icmp .ge 14, 3) := by decide +kernel
theorem dX3_takeSide_9 : decode cX3_takeSide 9 = .ok (.aload_n 0, 1) := by decide +kernel
theorem dX3_takeSide_10 : decode cX3_takeSide 10 = .ok (.getfield 37, 3) := by decide +kernel
theorem dX3_takeSide_13 : decode cX3_takeSide 13 = .ok (.iload_n 1, 1) := by decide +kernel
theorem dX3_takeSide_14 : decode cX3_takeSide 14 = .ok (.ishr, 1) := by decide +kernel
theorem dX3_takeSide_15 : decode cX3_takeSide 15 = .ok (.iconst 1, 1) := by decide +kernel
theorem dX3_takeSide_16 : decode cX3_takeSide 16 = .ok (.iand, 1) := by decide +kernel
theorem dX3_takeSide_17 : decode cX3_takeSide 17 = .ok (.ifCond .eq 5, 3) := by decide +kernel
theorem dX3_takeSide_20 : decode cX3_takeSide 20 = .ok (.iconst 0, 1) := by decide +kernel
theorem dX3_takeSide_21 : decode cX3_takeSide 21 = .ok (.ireturn, 1) := by decide +kernel
theorem dX3_takeSide_22 : decode cX3_takeSide 22 = .ok (.aload_n 0, 1) := by decide +kernel
theorem dX3_takeSide_23 : decode cX3_takeSide 23 = .ok (.dup, 1) := by decide +kernel
theorem dX3_takeSide_24 : decode cX3_takeSide 24 = .ok (.getfield 37, 3) := by decide +kernel
theorem dX3_takeSide_27 : decode cX3_takeSide 27 = .ok (.iconst 1, 1) := by decide +kernel
theorem dX3_takeSide_28 : decode cX3_takeSide 28 = .ok (.iload_n 1, 1) := by decide +kernel
theorem dX3_takeSide_29 : decode cX3_takeSide 29 = .ok (.ishl, 1) := by decide +kernel
theorem dX3_takeSide_30 : decode cX3_takeSide 30 = .ok (.ior, 1) := by decide +kernel
theorem dX3_takeSide_31 : decode cX3_takeSide 31 = .ok (.putfield 37, 3) := by decide +kernel
theorem dX3_takeSide_34 : decode cX3_takeSide 34 = .ok (.aload_n 0, 1) := by decide +kernel
theorem dX3_takeSide_35 : decode cX3_takeSide 35 = .ok (.getfield 34, 3) := by decide +kernel
theorem dX3_takeSide_38 : decode cX3_takeSide 38 = .ok (.ifCond .ne 18, 3) := by decide +kernel
theorem dX3_takeSide_41 : decode cX3_takeSide 41 = .ok (.aload_n 0, 1) := by decide +kernel
theorem dX3_takeSide_42 : decode cX3_takeSide 42 = .ok (.iload_n 1, 1) := by decide +kernel
theorem dX3_takeSide_43 : decode cX3_takeSide 43 = .ok (.iload_n 1, 1) := by decide +kernel
theorem dX3_takeSide_44 : decode cX3_takeSide 44 = .ok (.iconst 0, 1) := by decide +kernel
theorem dX3_takeSide_45 : decode cX3_takeSide 45 = .ok (.invokevirtual 80, 3) := by decide +kernel
theorem dX3_takeSide_48 : decode cX3_takeSide 48 = .ok (.aload_n 0, 1) := by decide +kernel
theorem dX3_takeSide_49 : decode cX3_takeSide 49 = .ok (.iconst 1, 1) := by decide +kernel
theorem dX3_takeSide_50 : decode cX3_takeSide 50 = .ok (.putfield 34, 3) := by decide +kernel
theorem dX3_takeSide_53 : decode cX3_takeSide 53 = .ok (.goto 27, 3) := by decide +kernel
theorem dX3_takeSide_56 : decode cX3_takeSide 56 = .ok (.aload_n 0, 1) := by decide +kernel
theorem dX3_takeSide_57 : decode cX3_takeSide 57 = .ok (.getfield 31, 3) := by decide +kernel
theorem dX3_takeSide_60 : decode cX3_takeSide 60 = .ok (.ifCond .le 15, 3) := by decide +kernel
theorem dX3_takeSide_63 : decode cX3_takeSide 63 = .ok (.aload_n 0, 1) := by decide +kernel
theorem dX3_takeSide_64 : decode cX3_takeSide 64 = .ok (.getfield 15, 3) := by decide +kernel
theorem dX3_takeSide_67 : decode cX3_takeSide 67 = .ok (.aload_n 0, 1) := by decide +kernel
theorem dX3_takeSide_68 : decode cX3_takeSide 68 = .ok (.getfield 31, 3) := by decide +kernel
theorem dX3_takeSide_71 : decode cX3_takeSide 71 = .ok (.iconst 1, 1) := by decide +kernel
theorem dX3_takeSide_72 : decode cX3_takeSide 72 = .ok (.isub, 1) := by decide +kernel
theorem dX3_takeSide_73 : decode cX3_takeSide 73 = .ok (.iload_n 1, 1) := by decide +kernel
theorem dX3_takeSide_74 : decode cX3_takeSide 74 = .ok (.iastore, 1) := by decide +kernel
theorem dX3_takeSide_75 : decode cX3_takeSide 75 = .ok (.aload_n 0, 1) := by decide +kernel
theorem dX3_takeSide_76 : decode cX3_takeSide 76 = .ok (.iconst 4, 1) := by decide +kernel
theorem dX3_takeSide_77 : decode cX3_takeSide 77 = .ok (.putfield 34, 3) := by decide +kernel
theorem dX3_takeSide_80 : decode cX3_takeSide 80 = .ok (.iconst 1, 1) := by decide +kernel
theorem dX3_takeSide_81 : decode cX3_takeSide 81 = .ok (.ireturn, 1) := by decide +kernel
theorem dX3_takeThrow_0 : decode cX3_takeThrow 0 = .ok (.iload_n 1, 1) := by decide +kernel
theorem dX3_takeThrow_1 : decode cX3_takeThrow 1 = .ok (.bipush 33, 2) := by decide +kernel
theorem dX3_takeThrow_3 : decode cX3_takeThrow 3 = .ok (.if_icmp .eq 5, 3) := by decide +kernel
theorem dX3_takeThrow_6 : decode cX3_takeThrow 6 = .ok (.iconst 0, 1) := by decide +kernel
theorem dX3_takeThrow_7 : decode cX3_takeThrow 7 = .ok (.ireturn, 1) := by decide +kernel
theorem dX3_takeThrow_8 : decode cX3_takeThrow 8 = .ok (.aload_n 0, 1) := by decide +kernel
theorem dX3_takeThrow_9 : decode cX3_takeThrow 9 = .ok (.getfield 31, 3) := by decide +kernel
theorem dX3_takeThrow_12 : decode cX3_takeThrow 12 = .ok (.ifCond .le 18, 3) := by decide +kernel
theorem dX3_takeThrow_15 : decode cX3_takeThrow 15 = .ok (.aload_n 0, 1) := by decide +kernel
theorem dX3_takeThrow_16 : decode cX3_takeThrow 16 = .ok (.getfield 18, 3) := by decide +kernel
theorem dX3_takeThrow_19 : decode cX3_takeThrow 19 = .ok (.aload_n 0, 1) := by decide +kernel
theorem dX3_takeThrow_20 : decode cX3_takeThrow 20 = .ok (.getfield 31, 3) := by decide +kernel
theorem dX3_takeThrow_23 : decode cX3_takeThrow 23 = .ok (.iconst 1, 1) := by decide +kernel
theorem dX3_takeThrow_24 : decode cX3_takeThrow 24 = .ok (.isub, 1) := by decide +kernel
theorem dX3_takeThrow_25 : decode cX3_takeThrow 25 = .ok (.dup2, 1) := by decide +kernel
theorem dX3_takeThrow_26 : decode cX3_takeThrow 26 = .ok (.iaload, 1) := by decide +kernel
theorem dX3_takeThrow_27 : decode cX3_takeThrow 27 = .ok (.iload_n 2, 1) := by decide +kernel
theorem dX3_takeThrow_28 : decode cX3_takeThrow 28 = .ok (.ior, 1) := by decide +kernel
theorem dX3_takeThrow_29 : decode cX3_takeThrow 29 = .ok (.iastore, 1) := by decide +kernel
theorem dX3_takeThrow_30 : decode cX3_takeThrow 30 = .ok (.aload_n 0, 1) := by decide +kernel
theorem dX3_takeThrow_31 : decode cX3_takeThrow 31 = .ok (.iload_n 3, 1) := by decide +kernel
theorem dX3_takeThrow_32 : decode cX3_takeThrow 32 = .ok (.putfield 34, 3) := by decide +kernel
theorem dX3_takeThrow_35 : decode cX3_takeThrow 35 = .ok (.iconst 1, 1) := by decide +kernel
theorem dX3_takeThrow_36 : decode cX3_takeThrow 36 = .ok (.ireturn, 1) := by decide +kernel
theorem dX3_takeDash_0 : decode cX3_takeDash 0 = .ok (.iload_n 1, 1) := by decide +kernel
theorem dX3_takeDash_1 : decode cX3_takeDash 1 = .ok (.bipush 45, 2) := by decide +kernel
theorem dX3_takeDash_3 : decode cX3_takeDash 3 = .ok (.if_icmp .eq 5, 3) := by decide +kernel
theorem dX3_takeDash_6 : decode cX3_takeDash 6 = .ok (.iconst 0, 1) := by decide +kernel
theorem dX3_takeDash_7 : decode cX3_takeDash 7 = .ok (.ireturn, 1) := by decide +kernel
theorem dX3_takeDash_8 : decode cX3_takeDash 8 = .ok (.aload_n 0, 1) := by decide +kernel
theorem dX3_takeDash_9 : decode cX3_takeDash 9 = .ok (.iconst 3, 1) := by decide +kernel
theorem dX3_takeDash_10 : decode cX3_takeDash 10 = .ok (.putfield 34, 3) := by decide +kernel
theorem dX3_takeDash_13 : decode cX3_takeDash 13 = .ok (.iconst 1, 1) := by decide +kernel
theorem dX3_takeDash_14 : decode cX3_takeDash 14 = .ok (.ireturn, 1) := by decide +kernel
theorem dX3_takeBreak_0 : decode cX3_takeBreak 0 = .ok (.iload_n 1, 1) := by decide +kernel
theorem dX3_takeBreak_1 : decode cX3_takeBreak 1 = .ok (.bipush 59, 2) := by decide +kernel
theorem dX3_takeBreak_3 : decode cX3_takeBreak 3 = .ok (.if_icmp .ne 9, 3) := by decide +kernel
theorem dX3_takeBreak_6 : decode cX3_takeBreak 6 = .ok (.aload_n 0, 1) := by decide +kernel
theorem dX3_takeBreak_7 : decode cX3_takeBreak 7 = .ok (.invokevirtual 48, 3) := by decide +kernel
theorem dX3_takeBreak_10 : decode cX3_takeBreak 10 = .ok (.iconst 1, 1) := by decide +kernel
theorem dX3_takeBreak_11 : decode cX3_takeBreak 11 = .ok (.ireturn, 1) := by decide +kernel
theorem dX3_takeBreak_12 : decode cX3_takeBreak 12 = .ok (.aload_n 0, 1) := by decide +kernel
theorem dX3_takeBreak_13 : decode cX3_takeBreak 13 = .ok (.iconst 0, 1) := by decide +kernel
theorem dX3_takeBreak_14 : decode cX3_takeBreak 14 = .ok (.putfield 34, 3) := by decide +kernel
theorem dX3_takeBreak_17 : decode cX3_takeBreak 17 = .ok (.iload_n 1, 1) := by decide +kernel
theorem dX3_takeBreak_18 : decode cX3_takeBreak 18 = .ok (.bipush 44, 2) := by decide +kernel
theorem dX3_takeBreak_20 : decode cX3_takeBreak 20 = .ok (.if_icmp .ne 7, 3) := by decide +kernel
theorem dX3_takeBreak_23 : decode cX3_takeBreak 23 = .ok (.iconst 1, 1) := by decide +kernel
theorem dX3_takeBreak_24 : decode cX3_takeBreak 24 = .ok (.goto 4, 3) := by decide +kernel
theorem dX3_takeBreak_27 : decode cX3_takeBreak 27 = .ok (.iconst 0, 1) := by decide +kernel
theorem dX3_takeBreak_28 : decode cX3_takeBreak 28 = .ok (.ireturn, 1) := by decide +kernel
theorem dX3_addGame_0 : decode cX3_addGame 0 = .ok (.aload_n 0, 1) := by decide +kernel
theorem dX3_addGame_1 : decode cX3_addGame 1 = .ok (.getfield 31, 3) := by decide +kernel
theorem dX3_addGame_4 : decode cX3_addGame 4 = .ok (.bipush 48, 2) := by decide +kernel
theorem dX3_addGame_6 : decode cX3_addGame 6 = .ok (.if_icmp .ge 43, 3) := by decide +kernel
theorem dX3_addGame_9 : decode cX3_addGame 9 = .ok (.aload_n 0, 1) := by decide +kernel
theorem dX3_addGame_10 : decode cX3_addGame 10 = .ok (.getfield 11, 3) := by decide +kernel
theorem dX3_addGame_13 : decode cX3_addGame 13 = .ok (.aload_n 0, 1) := by decide +kernel
theorem dX3_addGame_14 : decode cX3_addGame 14 = .ok (.getfield 31, 3) := by decide +kernel
theorem dX3_addGame_17 : decode cX3_addGame 17 = .ok (.iload_n 1, 1) := by decide +kernel
theorem dX3_addGame_18 : decode cX3_addGame 18 = .ok (.iastore, 1) := by decide +kernel
theorem dX3_addGame_19 : decode cX3_addGame 19 = .ok (.aload_n 0, 1) := by decide +kernel
theorem dX3_addGame_20 : decode cX3_addGame 20 = .ok (.getfield 15, 3) := by decide +kernel
theorem dX3_addGame_23 : decode cX3_addGame 23 = .ok (.aload_n 0, 1) := by decide +kernel
theorem dX3_addGame_24 : decode cX3_addGame 24 = .ok (.getfield 31, 3) := by decide +kernel
theorem dX3_addGame_27 : decode cX3_addGame 27 = .ok (.iload_n 2, 1) := by decide +kernel
theorem dX3_addGame_28 : decode cX3_addGame 28 = .ok (.iastore, 1) := by decide +kernel
theorem dX3_addGame_29 : decode cX3_addGame 29 = .ok (.aload_n 0, 1) := by decide +kernel
theorem dX3_addGame_30 : decode cX3_addGame 30 = .ok (.getfield 18, 3) := by decide +kernel
theorem dX3_addGame_33 : decode cX3_addGame 33 = .ok (.aload_n 0, 1) := by decide +kernel
theorem dX3_addGame_34 : decode cX3_addGame 34 = .ok (.getfield 31, 3) := by decide +kernel
theorem dX3_addGame_37 : decode cX3_addGame 37 = .ok (.iload_n 3, 1) := by decide +kernel
theorem dX3_addGame_38 : decode cX3_addGame 38 = .ok (.iastore, 1) := by decide +kernel
theorem dX3_addGame_39 : decode cX3_addGame 39 = .ok (.aload_n 0, 1) := by decide +kernel
theorem dX3_addGame_40 : decode cX3_addGame 40 = .ok (.dup, 1) := by decide +kernel
theorem dX3_addGame_41 : decode cX3_addGame 41 = .ok (.getfield 31, 3) := by decide +kernel
theorem dX3_addGame_44 : decode cX3_addGame 44 = .ok (.iconst 1, 1) := by decide +kernel
theorem dX3_addGame_45 : decode cX3_addGame 45 = .ok (.iadd, 1) := by decide +kernel
theorem dX3_addGame_46 : decode cX3_addGame 46 = .ok (.putfield 31, 3) := by decide +kernel
theorem dX3_addGame_49 : decode cX3_addGame 49 = .ok (.return_, 1) := by decide +kernel
theorem dX3_fillEachWithEach_0 : decode cX3_fillEachWithEach 0 = .ok (.aload_n 0, 1) := by decide +kernel
theorem dX3_fillEachWithEach_1 : decode cX3_fillEachWithEach 1 = .ok (.invokevirtual 40, 3) := by decide +kernel
theorem dX3_fillEachWithEach_4 : decode cX3_fillEachWithEach 4 = .ok (.iload_n 1, 1) := by decide +kernel
theorem dX3_fillEachWithEach_5 : decode cX3_fillEachWithEach 5 = .ok (.iload_n 1, 1) := by decide +kernel
theorem dX3_fillEachWithEach_6 : decode cX3_fillEachWithEach 6 = .ok (.iconst 1, 1) := by decide +kernel
theorem dX3_fillEachWithEach_7 : decode cX3_fillEachWithEach 7 = .ok (.iand, 1) := by decide +kernel
theorem dX3_fillEachWithEach_8 : decode cX3_fillEachWithEach 8 = .ok (.iadd, 1) := by decide +kernel
theorem dX3_fillEachWithEach_9 : decode cX3_fillEachWithEach 9 = .ok (.bipush 8, 2) := by decide +kernel
theorem dX3_fillEachWithEach_11 : decode cX3_fillEachWithEach 11 = .ok (.invokestatic 51, 3) := by decide +kernel
theorem dX3_fillEachWithEach_14 : decode cX3_fillEachWithEach 14 = .ok (.istore_n 2, 1) := by decide +kernel
theorem dX3_fillEachWithEach_15 : decode cX3_fillEachWithEach 15 = .ok (.iconst 0, 1) := by decide +kernel
theorem dX3_fillEachWithEach_16 : decode cX3_fillEachWithEach 16 = .ok (.istore_n 3, 1) := by decide +kernel
theorem dX3_fillEachWithEach_17 : decode cX3_fillEachWithEach 17 = .ok (.iload_n 3, 1) := by decide +kernel
theorem dX3_fillEachWithEach_18 : decode cX3_fillEachWithEach 18 = .ok (.iload_n 2, 1) := by decide +kernel
theorem dX3_fillEachWithEach_19 : decode cX3_fillEachWithEach 19 = .ok (.if_icmp .ge 16, 3) := by decide +kernel
theorem dX3_fillEachWithEach_22 : decode cX3_fillEachWithEach 22 = .ok (.aload_n 0, 1) := by decide +kernel
theorem dX3_fillEachWithEach_23 : decode cX3_fillEachWithEach 23 = .ok (.getfield 24, 3) := by decide +kernel
theorem dX3_fillEachWithEach_26 : decode cX3_fillEachWithEach 26 = .ok (.iload_n 3, 1) := by decide +kernel
theorem dX3_fillEachWithEach_27 : decode cX3_fillEachWithEach 27 = .ok (.iload_n 3, 1) := by decide +kernel
theorem dX3_fillEachWithEach_28 : decode cX3_fillEachWithEach 28 = .ok (.iastore, 1) := by decide +kernel
theorem dX3_fillEachWithEach_29 : decode cX3_fillEachWithEach 29 = .ok (.iinc 3 1, 3) := by decide +kernel
theorem dX3_fillEachWithEach_32 : decode cX3_fillEachWithEach 32 = .ok (.goto (-15), 3) := by decide +kernel
theorem dX3_fillEachWithEach_35 : decode cX3_fillEachWithEach 35 = .ok (.iconst 0, 1) := by decide +kernel
theorem dX3_fillEachWithEach_36 : decode cX3_fillEachWithEach 36 = .ok (.istore_n 3, 1) := by decide +kernel
theorem dX3_fillEachWithEach_37 : decode cX3_fillEachWithEach 37 = .ok (.iload_n 3, 1) := by decide +kernel
theorem dX3_fillEachWithEach_38 : decode cX3_fillEachWithEach 38 = .ok (.iload_n 2, 1) := by decide +kernel
theorem dX3_fillEachWithEach_39 : decode cX3_fillEachWithEach 39 = .ok (.iconst 1, 1) := by decide +kernel
theorem dX3_fillEachWithEach_40 : decode cX3_fillEachWithEach 40 = .ok (.isub, 1) := by decide +kernel
theorem dX3_fillEachWithEach_41 : decode cX3_fillEachWithEach 41 = .ok (.if_icmp .ge 78, 3) := by decide +kernel
theorem dX3_fillEachWithEach_44 : decode cX3_fillEachWithEach 44 = .ok (.aload_n 0, 1) := by decide +kernel
theorem dX3_fillEachWithEach_45 : decode cX3_fillEachWithEach 45 = .ok (.invokevirtual 48, 3) := by decide +kernel
theorem dX3_fillEachWithEach_48 : decode cX3_fillEachWithEach 48 = .ok (.iconst 0, 1) := by decide +kernel
theorem dX3_fillEachWithEach_49 : decode cX3_fillEachWithEach 49 = .ok (.istore 4, 2) := by decide +kernel
theorem dX3_fillEachWithEach_51 : decode cX3_fillEachWithEach 51 = .ok (.iload 4, 2) := by decide +kernel
theorem dX3_fillEachWithEach_53 : decode cX3_fillEachWithEach 53 = .ok (.iload_n 2, 1) := by decide +kernel
theorem dX3_fillEachWithEach_54 : decode cX3_fillEachWithEach 54 = .ok (.iconst 2, 1) := by decide +kernel
theorem dX3_fillEachWithEach_55 : decode cX3_fillEachWithEach 55 = .ok (.idiv, 1) := by decide +kernel
theorem dX3_fillEachWithEach_56 : decode cX3_fillEachWithEach 56 = .ok (.if_icmp .ge 52, 3) := by decide +kernel
theorem dX3_fillEachWithEach_59 : decode cX3_fillEachWithEach 59 = .ok (.aload_n 0, 1) := by decide +kernel
theorem dX3_fillEachWithEach_60 : decode cX3_fillEachWithEach 60 = .ok (.getfield 24, 3) := by decide +kernel
theorem dX3_fillEachWithEach_63 : decode cX3_fillEachWithEach 63 = .ok (.iload 4, 2) := by decide +kernel
theorem dX3_fillEachWithEach_65 : decode cX3_fillEachWithEach 65 = .ok (.iaload, 1) := by decide +kernel
theorem dX3_fillEachWithEach_66 : decode cX3_fillEachWithEach 66 = .ok (.istore 5, 2) := by decide +kernel
theorem dX3_fillEachWithEach_68 : decode cX3_fillEachWithEach 68 = .ok (.aload_n 0, 1) := by decide +kernel
theorem dX3_fillEachWithEach_69 : decode cX3_fillEachWithEach 69 = .ok (.getfield 24, 3) := by decide +kernel
theorem dX3_fillEachWithEach_72 : decode cX3_fillEachWithEach 72 = .ok (.iload_n 2, 1) := by decide +kernel
theorem dX3_fillEachWithEach_73 : decode cX3_fillEachWithEach 73 = .ok (.iconst 1, 1) := by decide +kernel
theorem dX3_fillEachWithEach_74 : decode cX3_fillEachWithEach 74 = .ok (.isub, 1) := by decide +kernel
theorem dX3_fillEachWithEach_75 : decode cX3_fillEachWithEach 75 = .ok (.iload 4, 2) := by decide +kernel
theorem dX3_fillEachWithEach_77 : decode cX3_fillEachWithEach 77 = .ok (.isub, 1) := by decide +kernel
theorem dX3_fillEachWithEach_78 : decode cX3_fillEachWithEach 78 = .ok (.iaload, 1) := by decide +kernel
theorem dX3_fillEachWithEach_79 : decode cX3_fillEachWithEach 79 = .ok (.istore 6, 2) := by decide +kernel
theorem dX3_fillEachWithEach_81 : decode cX3_fillEachWithEach 81 = .ok (.iload 5, 2) := by decide +kernel
theorem dX3_fillEachWithEach_83 : decode cX3_fillEachWithEach 83 = .ok (.iload_n 1, 1) := by decide +kernel
theorem dX3_fillEachWithEach_84 : decode cX3_fillEachWithEach 84 = .ok (.if_icmp .ge 18, 3) := by decide +kernel
theorem dX3_fillEachWithEach_87 : decode cX3_fillEachWithEach 87 = .ok (.iload 6, 2) := by decide +kernel
theorem dX3_fillEachWithEach_89 : decode cX3_fillEachWithEach 89 = .ok (.iload_n 1, 1) := by decide +kernel
theorem dX3_fillEachWithEach_90 : decode cX3_fillEachWithEach 90 = .ok (.if_icmp .ge 12, 3) := by decide +kernel
theorem dX3_fillEachWithEach_93 : decode cX3_fillEachWithEach 93 = .ok (.aload_n 0, 1) := by decide +kernel
theorem dX3_fillEachWithEach_94 : decode cX3_fillEachWithEach 94 = .ok (.iload 5, 2) := by decide +kernel
theorem dX3_fillEachWithEach_96 : decode cX3_fillEachWithEach 96 = .ok (.iload 6, 2) := by decide +kernel
theorem dX3_fillEachWithEach_98 : decode cX3_fillEachWithEach 98 = .ok (.iconst 0, 1) := by decide +kernel
theorem dX3_fillEachWithEach_99 : decode cX3_fillEachWithEach 99 = .ok (.invokevirtual 80, 3) := by decide +kernel
theorem dX3_fillEachWithEach_102 : decode cX3_fillEachWithEach 102 = .ok (.iinc 4 1, 3) := by decide +kernel
theorem dX3_fillEachWithEach_105 : decode cX3_fillEachWithEach 105 = .ok (.goto (-54), 3) := by decide +kernel
theorem dX3_fillEachWithEach_108 : decode cX3_fillEachWithEach 108 = .ok (.aload_n 0, 1) := by decide +kernel
theorem dX3_fillEachWithEach_109 : decode cX3_fillEachWithEach 109 = .ok (.iload_n 2, 1) := by decide +kernel
theorem dX3_fillEachWithEach_110 : decode cX3_fillEachWithEach 110 = .ok (.invokevirtual 84, 3) := by decide +kernel
theorem dX3_fillEachWithEach_113 : decode cX3_fillEachWithEach 113 = .ok (.iinc 3 1, 3) := by decide +kernel
theorem dX3_fillEachWithEach_116 : decode cX3_fillEachWithEach 116 = .ok (.goto (-79), 3) := by decide +kernel
theorem dX3_fillEachWithEach_119 : decode cX3_fillEachWithEach 119 = .ok (.return_, 1) := by decide +kernel
theorem dX3_turnPlaces_0 : decode cX3_turnPlaces 0 = .ok (.aload_n 0, 1) := by decide +kernel
theorem dX3_turnPlaces_1 : decode cX3_turnPlaces 1 = .ok (.getfield 24, 3) := by decide +kernel
theorem dX3_turnPlaces_4 : decode cX3_turnPlaces 4 = .ok (.iload_n 1, 1) := by decide +kernel
theorem dX3_turnPlaces_5 : decode cX3_turnPlaces 5 = .ok (.iconst 1, 1) := by decide +kernel
theorem dX3_turnPlaces_6 : decode cX3_turnPlaces 6 = .ok (.isub, 1) := by decide +kernel
theorem dX3_turnPlaces_7 : decode cX3_turnPlaces 7 = .ok (.iaload, 1) := by decide +kernel
theorem dX3_turnPlaces_8 : decode cX3_turnPlaces 8 = .ok (.istore_n 2, 1) := by decide +kernel
theorem dX3_turnPlaces_9 : decode cX3_turnPlaces 9 = .ok (.iload_n 1, 1) := by decide +kernel
theorem dX3_turnPlaces_10 : decode cX3_turnPlaces 10 = .ok (.iconst 1, 1) := by decide +kernel
theorem dX3_turnPlaces_11 : decode cX3_turnPlaces 11 = .ok (.isub, 1) := by decide +kernel
theorem dX3_turnPlaces_12 : decode cX3_turnPlaces 12 = .ok (.istore_n 3, 1) := by decide +kernel
theorem dX3_turnPlaces_13 : decode cX3_turnPlaces 13 = .ok (.iload_n 3, 1) := by decide +kernel
theorem dX3_turnPlaces_14 : decode cX3_turnPlaces 14 = .ok (.iconst 1, 1) := by decide +kernel
theorem dX3_turnPlaces_15 : decode cX3_turnPlaces 15 = .ok (.if_icmp .le 23, 3) := by decide +kernel
theorem dX3_turnPlaces_18 : decode cX3_turnPlaces 18 = .ok (.aload_n 0, 1) := by decide +kernel
theorem dX3_turnPlaces_19 : decode cX3_turnPlaces 19 = .ok (.getfield 24, 3) := by decide +kernel
theorem dX3_turnPlaces_22 : decode cX3_turnPlaces 22 = .ok (.iload_n 3, 1) := by decide +kernel
theorem dX3_turnPlaces_23 : decode cX3_turnPlaces 23 = .ok (.aload_n 0, 1) := by decide +kernel
theorem dX3_turnPlaces_24 : decode cX3_turnPlaces 24 = .ok (.getfield 24, 3) := by decide +kernel
theorem dX3_turnPlaces_27 : decode cX3_turnPlaces 27 = .ok (.iload_n 3, 1) := by decide +kernel
theorem dX3_turnPlaces_28 : decode cX3_turnPlaces 28 = .ok (.iconst 1, 1) := by decide +kernel
theorem dX3_turnPlaces_29 : decode cX3_turnPlaces 29 = .ok (.isub, 1) := by decide +kernel
theorem dX3_turnPlaces_30 : decode cX3_turnPlaces 30 = .ok (.iaload, 1) := by decide +kernel
theorem dX3_turnPlaces_31 : decode cX3_turnPlaces 31 = .ok (.iastore, 1) := by decide +kernel
theorem dX3_turnPlaces_32 : decode cX3_turnPlaces 32 = .ok (.iinc 3 (-1), 3) := by decide +kernel
theorem dX3_turnPlaces_35 : decode cX3_turnPlaces 35 = .ok (.goto (-22), 3) := by decide +kernel
theorem dX3_turnPlaces_38 : decode cX3_turnPlaces 38 = .ok (.aload_n 0, 1) := by decide +kernel
theorem dX3_turnPlaces_39 : decode cX3_turnPlaces 39 = .ok (.getfield 24, 3) := by decide +kernel
theorem dX3_turnPlaces_42 : decode cX3_turnPlaces 42 = .ok (.iconst 1, 1) := by decide +kernel
theorem dX3_turnPlaces_43 : decode cX3_turnPlaces 43 = .ok (.iload_n 2, 1) := by decide +kernel
theorem dX3_turnPlaces_44 : decode cX3_turnPlaces 44 = .ok (.iastore, 1) := by decide +kernel
theorem dX3_turnPlaces_45 : decode cX3_turnPlaces 45 = .ok (.return_, 1) := by decide +kernel
theorem dX4_init_0 : decode cX4_init 0 = .ok (.aload_n 0, 1) := by decide +kernel
theorem dX4_init_1 : decode cX4_init 1 = .ok (.invokespecial 3, 3) := by decide +kernel
theorem dX4_init_4 : decode cX4_init 4 = .ok (.aload_n 0, 1) := by decide +kernel
theorem dX4_init_5 : decode cX4_init 5 = .ok (.new 9, 3) := by decide +kernel
theorem dX4_init_8 : decode cX4_init 8 = .ok (.dup, 1) := by decide +kernel
theorem dX4_init_9 : decode cX4_init 9 = .ok (.invokespecial 11, 3) := by decide +kernel
theorem dX4_init_12 : decode cX4_init 12 = .ok (.putfield 12, 3) := by decide +kernel
theorem dX4_init_15 : decode cX4_init 15 = .ok (.aload_n 0, 1) := by decide +kernel
theorem dX4_init_16 : decode cX4_init 16 = .ok (.iconst 0, 1) := by decide +kernel
theorem dX4_init_17 : decode cX4_init 17 = .ok (.putfield 18, 3) := by decide +kernel
theorem dX4_init_20 : decode cX4_init 20 = .ok (.aload_n 0, 1) := by decide +kernel
theorem dX4_init_21 : decode cX4_init 21 = .ok (.iconst 0, 1) := by decide +kernel
theorem dX4_init_22 : decode cX4_init 22 = .ok (.putfield 22, 3) := by decide +kernel
theorem dX4_init_25 : decode cX4_init 25 = .ok (.aload_n 0, 1) := by decide +kernel
theorem dX4_init_26 : decode cX4_init 26 = .ok (.iconst 0, 1) := by decide +kernel
theorem dX4_init_27 : decode cX4_init 27 = .ok (.putfield 25, 3) := by decide +kernel
theorem dX4_init_30 : decode cX4_init 30 = .ok (.aload_n 0, 1) := by decide +kernel
theorem dX4_init_31 : decode cX4_init 31 = .ok (.iconst 0, 1) := by decide +kernel
theorem dX4_init_32 : decode cX4_init 32 = .ok (.putfield 28, 3) := by decide +kernel
theorem dX4_init_35 : decode cX4_init 35 = .ok (.aload_n 0, 1) := by decide +kernel
theorem dX4_init_36 : decode cX4_init 36 = .ok (.iconst 0, 1) := by decide +kernel
theorem dX4_init_37 : decode cX4_init 37 = .ok (.putfield 31, 3) := by decide +kernel
theorem dX4_init_40 : decode cX4_init 40 = .ok (.aload_n 0, 1) := by decide +kernel
theorem dX4_init_41 : decode cX4_init 41 = .ok (.iconst 0, 1) := by decide +kernel
theorem dX4_init_42 : decode cX4_init 42 = .ok (.putfield 34, 3) := by decide +kernel
theorem dX4_init_45 : decode cX4_init 45 = .ok (.aload_n 0, 1) := by decide +kernel
theorem dX4_init_46 : decode cX4_init 46 = .ok (.iconst 0, 1) := by decide +kernel
theorem dX4_init_47 : decode cX4_init 47 = .ok (.putfield 37, 3) := by decide +kernel
theorem dX4_init_50 : decode cX4_init 50 = .ok (.return_, 1) := by decide +kernel
theorem dX4_read_0 : decode cX4_read 0 = .ok (.aload_n 0, 1) := by decide +kernel
theorem dX4_read_1 : decode cX4_read 1 = .ok (.getfield 12, 3) := by decide +kernel
theorem dX4_read_4 : decode cX4_read 4 = .ok (.aload_n 3, 1) := by decide +kernel
theorem dX4_read_5 : decode cX4_read 5 = .ok (.invokevirtual 41, 3) := by decide +kernel
theorem dX4_read_8 : decode cX4_read 8 = .ok (.aload_n 0, 1) := by decide +kernel
theorem dX4_read_9 : decode cX4_read 9 = .ok (.aload_n 2, 1) := by decide +kernel
theorem dX4_read_10 : decode cX4_read 10 = .ok (.getfield 45, 3) := by decide +kernel
theorem dX4_read_13 : decode cX4_read 13 = .ok (.putfield 18, 3) := by decide +kernel
theorem dX4_read_16 : decode cX4_read 16 = .ok (.aload_n 0, 1) := by decide +kernel
theorem dX4_read_17 : decode cX4_read 17 = .ok (.aload_n 2, 1) := by decide +kernel
theorem dX4_read_18 : decode cX4_read 18 = .ok (.getfield 48, 3) := by decide +kernel
theorem dX4_read_21 : decode cX4_read 21 = .ok (.putfield 22, 3) := by decide +kernel
theorem dX4_read_24 : decode cX4_read 24 = .ok (.aload_n 0, 1) := by decide +kernel
theorem dX4_read_25 : decode cX4_read 25 = .ok (.aload_n 2, 1) := by decide +kernel
theorem dX4_read_26 : decode cX4_read 26 = .ok (.getfield 49, 3) := by decide +kernel
theorem dX4_read_29 : decode cX4_read 29 = .ok (.putfield 25, 3) := by decide +kernel
theorem dX4_read_32 : decode cX4_read 32 = .ok (.aload_n 0, 1) := by decide +kernel
theorem dX4_read_33 : decode cX4_read 33 = .ok (.iconst 0, 1) := by decide +kernel
theorem dX4_read_34 : decode cX4_read 34 = .ok (.putfield 28, 3) := by decide +kernel
theorem dX4_read_37 : decode cX4_read 37 = .ok (.aload_n 0, 1) := by decide +kernel
theorem dX4_read_38 : decode cX4_read 38 = .ok (.iconst 0, 1) := by decide +kernel
theorem dX4_read_39 : decode cX4_read 39 = .ok (.putfield 34, 3) := by decide +kernel
theorem dX4_read_42 : decode cX4_read 42 = .ok (.aload_n 0, 1) := by decide +kernel
theorem dX4_read_43 : decode cX4_read 43 = .ok (.iconst 0, 1) := by decide +kernel
theorem dX4_read_44 : decode cX4_read 44 = .ok (.putfield 37, 3) := by decide +kernel
theorem dX4_read_47 : decode cX4_read 47 = .ok (.aload_n 1, 1) := by decide +kernel
theorem dX4_read_48 : decode cX4_read 48 = .ok (.getfield 50, 3) := by decide +kernel
theorem dX4_read_51 : decode cX4_read 51 = .ok (.bipush 76, 2) := by decide +kernel
theorem dX4_read_53 : decode cX4_read 53 = .ok (.invokestatic 55, 3) := by decide +kernel
theorem dX4_read_56 : decode cX4_read 56 = .ok (.istore 4, 2) := by decide +kernel
theorem dX4_read_58 : decode cX4_read 58 = .ok (.iconst 0, 1) := by decide +kernel
theorem dX4_read_59 : decode cX4_read 59 = .ok (.istore 5, 2) := by decide +kernel
theorem dX4_read_61 : decode cX4_read 61 = .ok (.iload 5, 2) := by decide +kernel
theorem dX4_read_63 : decode cX4_read 63 = .ok (.iload 4, 2) := by decide +kernel
theorem dX4_read_65 : decode cX4_read 65 = .ok (.if_icmp .ge 26, 3) := by decide +kernel
theorem dX4_read_68 : decode cX4_read 68 = .ok (.aload_n 0, 1) := by decide +kernel
theorem dX4_read_69 : decode cX4_read 69 = .ok (.aload_n 1, 1) := by decide +kernel
theorem dX4_read_70 : decode cX4_read 70 = .ok (.getfield 61, 3) := by decide +kernel
theorem dX4_read_73 : decode cX4_read 73 = .ok (.iload 5, 2) := by decide +kernel
theorem dX4_read_75 : decode cX4_read 75 = .ok (.caload, 1) := by decide +kernel
theorem dX4_read_76 : decode cX4_read 76 = .ok (.invokevirtual 65, 3) := by decide +kernel
theorem dX4_read_79 : decode cX4_read 79 = .ok (.ifCond .ne 6, 3) := by decide +kernel
theorem dX4_read_82 : decode cX4_read 82 = .ok (.iload 5, 2) := by decide +kernel
theorem dX4_read_84 : decode cX4_read 84 = .ok (.ireturn, 1) := by decide +kernel
theorem dX4_read_85 : decode cX4_read 85 = .ok (.iinc 5 1, 3) := by decide +kernel
theorem dX4_read_88 : decode cX4_read 88 = .ok (.goto (-27), 3) := by decide +kernel
theorem dX4_read_91 : decode cX4_read 91 = .ok (.aload_n 1, 1) := by decide +kernel
theorem dX4_read_92 : decode cX4_read 92 = .ok (.getfield 50, 3) := by decide +kernel
theorem dX4_read_95 : decode cX4_read 95 = .ok (.bipush 76, 2) := by decide +kernel
theorem dX4_read_97 : decode cX4_read 97 = .ok (.if_icmp .gt 10, 3) := by decide +kernel
theorem dX4_read_100 : decode cX4_read 100 = .ok (.aload_n 0, 1) := by decide +kernel
theorem dX4_read_101 : decode cX4_read 101 = .ok (.invokevirtual 69, 3) := by decide +kernel
theorem dX4_read_104 : decode cX4_read 104 = .ok (.ifCond .ne 8, 3) := by decide +kernel
theorem dX4_read_107 : decode cX4_read 107 = .ok (.iload 4, 2) := by decide +kernel
theorem dX4_read_109 : decode cX4_read 109 = .ok (.goto 4, 3) := by decide +kernel
theorem dX4_read_112 : decode cX4_read 112 = .ok (.iconst (-1), 1) := by decide +kernel
theorem dX4_read_113 : decode cX4_read 113 = .ok (.ireturn, 1) := by decide +kernel
theorem dX4_enter_0 : decode cX4_enter 0 = .ok (.aload_n 2, 1) := by decide +kernel
theorem dX4_enter_1 : decode cX4_enter 1 = .ok (.aload_n 0, 1) := by decide +kernel
theorem dX4_enter_2 : decode cX4_enter 2 = .ok (.getfield 12, 3) := by decide +kernel
theorem dX4_enter_5 : decode cX4_enter 5 = .ok (.invokevirtual 41, 3) := by decide +kernel
theorem dX4_enter_8 : decode cX4_enter 8 = .ok (.aload_n 1, 1) := by decide +kernel
theorem dX4_enter_9 : decode cX4_enter 9 = .ok (.aload_n 0, 1) := by decide +kernel
theorem dX4_enter_10 : decode cX4_enter 10 = .ok (.getfield 18, 3) := by decide +kernel
theorem dX4_enter_13 : decode cX4_enter 13 = .ok (.putfield 45, 3) := by decide +kernel
theorem dX4_enter_16 : decode cX4_enter 16 = .ok (.aload_n 1, 1) := by decide +kernel
theorem dX4_enter_17 : decode cX4_enter 17 = .ok (.aload_n 0, 1) := by decide +kernel
theorem dX4_enter_18 : decode cX4_enter 18 = .ok (.getfield 22, 3) := by decide +kernel
theorem dX4_enter_21 : decode cX4_enter 21 = .ok (.putfield 48, 3) := by decide +kernel
theorem dX4_enter_24 : decode cX4_enter 24 = .ok (.aload_n 1, 1) := by decide +kernel
theorem dX4_enter_25 : decode cX4_enter 25 = .ok (.aload_n 0, 1) := by decide +kernel
theorem dX4_enter_26 : decode cX4_enter 26 = .ok (.getfield 25, 3) := by decide +kernel
theorem dX4_enter_29 : decode cX4_enter 29 = .ok (.putfield 49, 3) := by decide +kernel
theorem dX4_enter_32 : decode cX4_enter 32 = .ok (.return_, 1) := by decide +kernel
theorem dX4_canEnd_0 : decode cX4_canEnd 0 = .ok (.aload_n 0, 1) := by decide +kernel
theorem dX4_canEnd_1 : decode cX4_canEnd 1 = .ok (.getfield 34, 3) := by decide +kernel
theorem dX4_canEnd_4 : decode cX4_canEnd 4 = .ok (.iconst 3, 1) := by decide +kernel
theorem dX4_canEnd_5 : decode cX4_canEnd 5 = .ok (.if_icmp .eq 22, 3) := by decide +kernel
theorem dX4_canEnd_8 : decode cX4_canEnd 8 = .ok (.aload_n 0, 1) := by decide +kernel
theorem dX4_canEnd_9 : decode cX4_canEnd 9 = .ok (.getfield 34, 3) := by decide +kernel
theorem dX4_canEnd_12 : decode cX4_canEnd 12 = .ok (.iconst 2, 1) := by decide +kernel
theorem dX4_canEnd_13 : decode cX4_canEnd 13 = .ok (.if_icmp .ne 18, 3) := by decide +kernel
theorem dX4_canEnd_16 : decode cX4_canEnd 16 = .ok (.aload_n 0, 1) := by decide +kernel
theorem dX4_canEnd_17 : decode cX4_canEnd 17 = .ok (.getfield 31, 3) := by decide +kernel
theorem dX4_canEnd_20 : decode cX4_canEnd 20 = .ok (.aload_n 0, 1) := by decide +kernel
theorem dX4_canEnd_21 : decode cX4_canEnd 21 = .ok (.getfield 22, 3) := by decide +kernel
theorem dX4_canEnd_24 : decode cX4_canEnd 24 = .ok (.if_icmp .ne 7, 3) := by decide +kernel
theorem dX4_canEnd_27 : decode cX4_canEnd 27 = .ok (.iconst 1, 1) := by decide +kernel
theorem dX4_canEnd_28 : decode cX4_canEnd 28 = .ok (.goto 4, 3) := by decide +kernel
theorem dX4_canEnd_31 : decode cX4_canEnd 31 = .ok (.iconst 0, 1) := by decide +kernel
theorem dX4_canEnd_32 : decode cX4_canEnd 32 = .ok (.ireturn, 1) := by decide +kernel
theorem dX4_take_0 : decode cX4_take 0 = .ok (.iload_n 1, 1) := by decide +kernel
theorem dX4_take_1 : decode cX4_take 1 = .ok (.bipush 59, 2) := by decide +kernel
theorem dX4_take_3 : decode cX4_take 3 = .ok (.if_icmp .ne 17, 3) := by decide +kernel
theorem dX4_take_6 : decode cX4_take 6 = .ok (.aload_n 0, 1) := by decide +kernel
theorem dX4_take_7 : decode cX4_take 7 = .ok (.invokevirtual 69, 3) := by decide +kernel
theorem dX4_take_10 : decode cX4_take 10 = .ok (.ifCond .eq 10, 3) := by decide +kernel
theorem dX4_take_13 : decode cX4_take 13 = .ok (.aload_n 0, 1) := by decide +kernel
theorem dX4_take_14 : decode cX4_take 14 = .ok (.iconst 0, 1) := by decide +kernel
theorem dX4_take_15 : decode cX4_take 15 = .ok (.putfield 34, 3) := by decide +kernel
theorem dX4_take_18 : decode cX4_take 18 = .ok (.iconst 1, 1) := by decide +kernel
theorem dX4_take_19 : decode cX4_take 19 = .ok (.ireturn, 1) := by decide +kernel
theorem dX4_take_20 : decode cX4_take 20 = .ok (.aload_n 0, 1) := by decide +kernel
theorem dX4_take_21 : decode cX4_take 21 = .ok (.getfield 34, 3) := by decide +kernel
theorem dX4_take_24 : decode cX4_take 24 = .ok (.tableswitch 71 0 2 #[28, 34, 43], 28) := by decide +kernel
theorem dX4_take_52 : decode cX4_take 52 = .ok (.aload_n 0, 1) := by decide +kernel
theorem dX4_take_53 : decode cX4_take 53 = .ok (.iload_n 1, 1) := by decide +kernel
theorem dX4_take_54 : decode cX4_take 54 = .ok (.invokevirtual 73, 3) := by decide +kernel
theorem dX4_take_57 : decode cX4_take 57 = .ok (.ireturn, 1) := by decide +kernel
theorem dX4_take_58 : decode cX4_take 58 = .ok (.aload_n 0, 1) := by decide +kernel
theorem dX4_take_59 : decode cX4_take 59 = .ok (.iload_n 1, 1) := by decide +kernel
theorem dX4_take_60 : decode cX4_take 60 = .ok (.bipush 48, 2) := by decide +kernel
theorem dX4_take_62 : decode cX4_take 62 = .ok (.isub, 1) := by decide +kernel
theorem dX4_take_63 : decode cX4_take 63 = .ok (.invokevirtual 76, 3) := by decide +kernel
theorem dX4_take_66 : decode cX4_take 66 = .ok (.ireturn, 1) := by decide +kernel
theorem dX4_take_67 : decode cX4_take 67 = .ok (.aload_n 0, 1) := by decide +kernel
theorem dX4_take_68 : decode cX4_take 68 = .ok (.getfield 31, 3) := by decide +kernel
theorem dX4_take_71 : decode cX4_take 71 = .ok (.aload_n 0, 1) := by decide +kernel
theorem dX4_take_72 : decode cX4_take 72 = .ok (.getfield 22, 3) := by decide +kernel
theorem dX4_take_75 : decode cX4_take 75 = .ok (.if_icmp .ge 14, 3) := by decide +kernel
theorem dX4_take_78 : decode cX4_take 78 = .ok (.aload_n 0, 1) := by decide +kernel
theorem dX4_take_79 : decode cX4_take 79 = .ok (.iload_n 1, 1) := by decide +kernel
theorem dX4_take_80 : decode cX4_take 80 = .ok (.bipush 48, 2) := by decide +kernel
theorem dX4_take_82 : decode cX4_take 82 = .ok (.isub, 1) := by decide +kernel
theorem dX4_take_83 : decode cX4_take 83 = .ok (.invokevirtual 80, 3) := by decide +kernel
theorem dX4_take_86 : decode cX4_take 86 = .ok (.goto 8, 3) := by decide +kernel
theorem dX4_take_89 : decode cX4_take 89 = .ok (.aload_n 0, 1) := by decide +kernel
theorem dX4_take_90 : decode cX4_take 90 = .ok (.iload_n 1, 1) := by decide +kernel
theorem dX4_take_91 : decode cX4_take 91 = .ok (.invokevirtual 83, 3) := by decide +kernel
theorem dX4_take_94 : decode cX4_take 94 = .ok (.ireturn, 1) := by decide +kernel
theorem dX4_take_95 : decode cX4_take 95 = .ok (.iconst 0, 1) := by decide +kernel
theorem dX4_take_96 : decode cX4_take 96 = .ok (.ireturn, 1) := by decide +kernel
theorem dX4_takeLine_0 : decode cX4_takeLine 0 = .ok (.aload_n 0, 1) := by decide +kernel
theorem dX4_takeLine_1 : decode cX4_takeLine 1 = .ok (.dup, 1) := by decide +kernel
theorem dX4_takeLine_2 : decode cX4_takeLine 2 = .ok (.getfield 28, 3) := by decide +kernel
theorem dX4_takeLine_5 : decode cX4_takeLine 5 = .ok (.iconst 1, 1) := by decide +kernel
theorem dX4_takeLine_6 : decode cX4_takeLine 6 = .ok (.iadd, 1) := by decide +kernel
theorem dX4_takeLine_7 : decode cX4_takeLine 7 = .ok (.putfield 28, 3) := by decide +kernel
theorem dX4_takeLine_10 : decode cX4_takeLine 10 = .ok (.iload_n 1, 1) := by decide +kernel
theorem dX4_takeLine_11 : decode cX4_takeLine 11 = .ok (.bipush 119, 2) := by decide +kernel
theorem dX4_takeLine_13 : decode cX4_takeLine 13 = .ok (.if_icmp .ne 10, 3) := by decide +kernel
theorem dX4_takeLine_16 : decode cX4_takeLine 16 = .ok (.aload_n 0, 1) := by decide +kernel
theorem dX4_takeLine_17 : decode cX4_takeLine 17 = .ok (.iconst 1, 1) := by decide +kernel
theorem dX4_takeLine_18 : decode cX4_takeLine 18 = .ok (.putfield 34, 3) := by decide +kernel
theorem dX4_takeLine_21 : decode cX4_takeLine 21 = .ok (.iconst 1, 1) := by decide +kernel
theorem dX4_takeLine_22 : decode cX4_takeLine 22 = .ok (.ireturn, 1) := by decide +kernel
theorem dX4_takeLine_23 : decode cX4_takeLine 23 = .ok (.aload_n 0, 1) := by decide +kernel
theorem dX4_takeLine_24 : decode cX4_takeLine 24 = .ok (.getfield 18, 3) := by decide +kernel
theorem dX4_takeLine_27 : decode cX4_takeLine 27 = .ok (.bipush 8, 2) := by decide +kernel
theorem dX4_takeLine_29 : decode cX4_takeLine 29 = .ok (.if_icmp .lt 5, 3) := by decide +kernel
theorem dX4_takeLine_32 : decode cX4_takeLine 32 = .ok (.iconst 0, 1) := by decide +kernel
theorem dX4_takeLine_33 : decode cX4_takeLine 33 = .ok (.ireturn, 1) := by decide +kernel
theorem dX4_takeLine_34 : decode cX4_takeLine 34 = .ok (.aload_n 0, 1) := by decide +kernel
theorem dX4_takeLine_35 : decode cX4_takeLine 35 = .ok (.dup, 1) := by decide +kernel
theorem dX4_takeLine_36 : decode cX4_takeLine 36 = .ok (.getfield 18, 3) := by decide +kernel
theorem dX4_takeLine_39 : decode cX4_takeLine 39 = .ok (.iconst 1, 1) := by decide +kernel
theorem dX4_takeLine_40 : decode cX4_takeLine 40 = .ok (.iadd, 1) := by decide +kernel
theorem dX4_takeLine_41 : decode cX4_takeLine 41 = .ok (.putfield 18, 3) := by decide +kernel
theorem dX4_takeLine_44 : decode cX4_takeLine 44 = .ok (.aload_n 0, 1) := by decide +kernel
theorem dX4_takeLine_45 : decode cX4_takeLine 45 = .ok (.iconst 0, 1) := by decide +kernel
theorem dX4_takeLine_46 : decode cX4_takeLine 46 = .ok (.putfield 31, 3) := by decide +kernel
theorem dX4_takeLine_49 : decode cX4_takeLine 49 = .ok (.aload_n 0, 1) := by decide +kernel
theorem dX4_takeLine_50 : decode cX4_takeLine 50 = .ok (.getfield 12, 3) := by decide +kernel
theorem dX4_takeLine_53 : decode cX4_takeLine 53 = .ok (.aload_n 0, 1) := by decide +kernel
theorem dX4_takeLine_54 : decode cX4_takeLine 54 = .ok (.getfield 18, 3) := by decide +kernel
theorem dX4_takeLine_57 : decode cX4_takeLine 57 = .ok (.iconst 1, 1) := by decide +kernel
theorem dX4_takeLine_58 : decode cX4_takeLine 58 = .ok (.isub, 1) := by decide +kernel
theorem dX4_takeLine_59 : decode cX4_takeLine 59 = .ok (.invokevirtual 86, 3) := by decide +kernel
theorem dX4_takeLine_62 : decode cX4_takeLine 62 = .ok (.aload_n 0, 1) := by decide +kernel
theorem dX4_takeLine_63 : decode cX4_takeLine 63 = .ok (.iconst 2, 1) := by decide +kernel
theorem dX4_takeLine_64 : decode cX4_takeLine 64 = .ok (.putfield 34, 3) := by decide +kernel
theorem dX4_takeLine_67 : decode cX4_takeLine 67 = .ok (.aload_n 0, 1) := by decide +kernel
theorem dX4_takeLine_68 : decode cX4_takeLine 68 = .ok (.iload_n 1, 1) := by decide +kernel
theorem dX4_takeLine_69 : decode cX4_takeLine 69 = .ok (.bipush 48, 2) := by decide +kernel
theorem dX4_takeLine_71 : decode cX4_takeLine 71 = .ok (.isub, 1) := by decide +kernel
theorem dX4_takeLine_72 : decode cX4_takeLine 72 = .ok (.invokevirtual 80, 3) := by decide +kernel
theorem dX4_takeLine_75 : decode cX4_takeLine 75 = .ok (.ireturn, 1) := by decide +kernel
theorem dX4_takeArts_0 : decode cX4_takeArts 0 = .ok (.iload_n 1, 1) := by decide +kernel
theorem dX4_takeArts_1 : decode cX4_takeArts 1 = .ok (.iconst 1, 1) := by decide +kernel
theorem dX4_takeArts_2 : decode cX4_takeArts 2 = .ok (.if_icmp .lt 8, 3) := by decide +kernel
theorem dX4_takeArts_5 : decode cX4_takeArts 5 = .ok (.iload_n 1, 1) := by decide +kernel
theorem dX4_takeArts_6 : decode cX4_takeArts 6 = .ok (.iconst 4, 1) := by decide +kernel
theorem dX4_takeArts_7 : decode cX4_takeArts 7 = .ok (.if_icmp .le 5, 3) := by decide +kernel
theorem dX4_takeArts_10 : decode cX4_takeArts 10 = .ok (.iconst 0, 1) := by decide +kernel
theorem dX4_takeArts_11 : decode cX4_takeArts 11 = .ok (.ireturn, 1) := by decide +kernel
theorem dX4_takeArts_12 : decode cX4_takeArts 12 = .ok (.iconst 0, 1) := by decide +kernel
theorem dX4_takeArts_13 : decode cX4_takeArts 13 = .ok (.istore_n 2, 1) := by decide +kernel
theorem dX4_takeArts_14 : decode cX4_takeArts 14 = .ok (.iload_n 2, 1) := by decide +kernel
theorem dX4_takeArts_15 : decode cX4_takeArts 15 = .ok (.bipush 8, 2) := by decide +kernel
theorem dX4_takeArts_17 : decode cX4_takeArts 17 = .ok (.if_icmp .ge 17, 3) := by decide +kernel
theorem dX4_takeArts_20 : decode cX4_takeArts 20 = .ok (.aload_n 0, 1) := by decide +kernel
theorem dX4_takeArts_21 : decode cX4_takeArts 21 = .ok (.getfield 12, 3) := by decide +kernel
theorem dX4_takeArts_24 : decode cX4_takeArts 24 = .ok (.iload_n 2, 1) := by decide +kernel
theorem dX4_takeArts_25 : decode cX4_takeArts 25 = .ok (.invokevirtual 86, 3) := by decide +kernel
theorem dX4_takeArts_28 : decode cX4_takeArts 28 = .ok (.iinc 2 1, 3) := by decide +kernel
theorem dX4_takeArts_31 : decode cX4_takeArts 31 = .ok (.goto (-17), 3) := by decide +kernel
theorem dX4_takeArts_34 : decode cX4_takeArts 34 = .ok (.aload_n 0, 1) := by decide +kernel
theorem dX4_takeArts_35 : decode cX4_takeArts 35 = .ok (.iconst 0, 1) := by decide +kernel
theorem dX4_takeArts_36 : decode cX4_takeArts 36 = .ok (.putfield 25, 3) := by decide +kernel
theorem dX4_takeArts_39 : decode cX4_takeArts 39 = .ok (.aload_n 0, 1) := by decide +kernel
theorem dX4_takeArts_40 : decode cX4_takeArts 40 = .ok (.iconst 0, 1) := by decide +kernel
theorem dX4_takeArts_41 : decode cX4_takeArts 41 = .ok (.putfield 18, 3) := by decide +kernel
theorem dX4_takeArts_44 : decode cX4_takeArts 44 = .ok (.aload_n 0, 1) := by decide +kernel
theorem dX4_takeArts_45 : decode cX4_takeArts 45 = .ok (.iload_n 1, 1) := by decide +kernel
theorem dX4_takeArts_46 : decode cX4_takeArts 46 = .ok (.putfield 22, 3) := by decide +kernel
theorem dX4_takeArts_49 : decode cX4_takeArts 49 = .ok (.aload_n 0, 1) := by decide +kernel
theorem dX4_takeArts_50 : decode cX4_takeArts 50 = .ok (.iconst 1, 1) := by decide +kernel
theorem dX4_takeArts_51 : decode cX4_takeArts 51 = .ok (.putfield 37, 3) := by decide +kernel
theorem dX4_takeArts_54 : decode cX4_takeArts 54 = .ok (.aload_n 0, 1) := by decide +kernel
theorem dX4_takeArts_55 : decode cX4_takeArts 55 = .ok (.iconst 3, 1) := by decide +kernel
theorem dX4_takeArts_56 : decode cX4_takeArts 56 = .ok (.putfield 34, 3) := by decide +kernel
theorem dX4_takeArts_59 : decode cX4_takeArts 59 = .ok (.iconst 1, 1) := by decide +kernel
theorem dX4_takeArts_60 : decode cX4_takeArts 60 = .ok (.ireturn, 1) := by decide +kernel
theorem dX4_takeSkill_0 : decode cX4_takeSkill 0 = .ok (.iload_n 1, 1) := by decide +kernel
theorem dX4_takeSkill_1 : decode cX4_takeSkill 1 = .ok (.ifCond .lt 9, 3) := by decide +kernel
theorem dX4_takeSkill_4 : decode cX4_takeSkill 4 = .ok (.iload_n 1, 1) := by decide +kernel
theorem dX4_takeSkill_5 : decode cX4_takeSkill 5 = .ok (.bipush 7, 2) := by decide +kernel
theorem dX4_takeSkill_7 : decode cX4_takeSkill 7 = .ok (.if_icmp .le 5, 3) := by decide +kernel
theorem dX4_takeSkill_10 : decode cX4_takeSkill 10 = .ok (.iconst 0, 1) := by decide +kernel
theorem dX4_takeSkill_11 : decode cX4_takeSkill 11 = .ok (.ireturn, 1) := by decide +kernel
theorem dX4_takeSkill_12 : decode cX4_takeSkill 12 = .ok (.aload_n 0, 1) := by decide +kernel
theorem dX4_takeSkill_13 : decode cX4_takeSkill 13 = .ok (.getfield 12, 3) := by decide +kernel
theorem dX4_takeSkill_16 : decode cX4_takeSkill 16 = .ok (.aload_n 0, 1) := by decide +kernel
theorem dX4_takeSkill_17 : decode cX4_takeSkill 17 = .ok (.getfield 18, 3) := by decide +kernel
theorem dX4_takeSkill_20 : decode cX4_takeSkill 20 = .ok (.iconst 1, 1) := by decide +kernel
theorem dX4_takeSkill_21 : decode cX4_takeSkill 21 = .ok (.isub, 1) := by decide +kernel
theorem dX4_takeSkill_22 : decode cX4_takeSkill 22 = .ok (.aload_n 0, 1) := by decide +kernel
theorem dX4_takeSkill_23 : decode cX4_takeSkill 23 = .ok (.getfield 31, 3) := by decide +kernel
theorem dX4_takeSkill_26 : decode cX4_takeSkill 26 = .ok (.iload_n 1, 1) := by decide +kernel
theorem dX4_takeSkill_27 : decode cX4_takeSkill 27 = .ok (.invokevirtual 90, 3) := by decide +kernel
theorem dX4_takeSkill_30 : decode cX4_takeSkill 30 = .ok (.aload_n 0, 1) := by decide +kernel
theorem dX4_takeSkill_31 : decode cX4_takeSkill 31 = .ok (.dup, 1) := by decide +kernel
theorem dX4_takeSkill_32 : decode cX4_takeSkill 32 = .ok (.getfield 31, 3) := by decide +kernel
theorem dX4_takeSkill_35 : decode cX4_takeSkill 35 = .ok (.iconst 1, 1) := by decide +kernel
theorem dX4_takeSkill_36 : decode cX4_takeSkill 36 = .ok (.iadd, 1) := by decide +kernel
theorem dX4_takeSkill_37 : decode cX4_takeSkill 37 = .ok (.putfield 31, 3) := by decide +kernel
theorem dX4_takeSkill_40 : decode cX4_takeSkill 40 = .ok (.iconst 1, 1) := by decide +kernel
theorem dX4_takeSkill_41 : decode cX4_takeSkill 41 = .ok (.ireturn, 1) := by decide +kernel
theorem dX4_takeIll_0 : decode cX4_takeIll 0 = .ok (.iload_n 1, 1) := by decide +kernel
theorem dX4_takeIll_1 : decode cX4_takeIll 1 = .ok (.bipush 33, 2) := by decide +kernel
theorem dX4_takeIll_3 : decode cX4_takeIll 3 = .ok (.if_icmp .ne 10, 3) := by decide +kernel
theorem dX4_takeIll_6 : decode cX4_takeIll 6 = .ok (.aload_n 0, 1) := by decide +kernel
theorem dX4_takeIll_7 : decode cX4_takeIll 7 = .ok (.getfield 18, 3) := by decide +kernel
theorem dX4_takeIll_10 : decode cX4_takeIll 10 = .ok (.ifCond .ne 5, 3) := by decide +kernel
theorem dX4_takeIll_13 : decode cX4_takeIll 13 = .ok (.iconst 0, 1) := by decide +kernel
theorem dX4_takeIll_14 : decode cX4_takeIll 14 = .ok (.ireturn, 1) := by decide +kernel
theorem dX4_takeIll_15 : decode cX4_takeIll 15 = .ok (.aload_n 0, 1) := by decide +kernel
theorem dX4_takeIll_16 : decode cX4_takeIll 16 = .ok (.dup, 1) := by decide +kernel
theorem dX4_takeIll_17 : decode cX4_takeIll 17 = .ok (.getfield 25, 3) := by decide +kernel
theorem dX4_takeIll_20 : decode cX4_takeIll 20 = .ok (.iconst 1, 1) := by decide +kernel
theorem dX4_takeIll_21 : decode cX4_takeIll 21 = .ok (.aload_n 0, 1) := by decide +kernel
theorem dX4_takeIll_22 : decode cX4_takeIll 22 = .ok (.getfield 18, 3) := by decide +kernel
theorem dX4_takeIll_25 : decode cX4_takeIll 25 = .ok (.iconst 1, 1) := by decide +kernel
theorem dX4_takeIll_26 : decode cX4_takeIll 26 = .ok (.isub, 1) := by decide +kernel
theorem dX4_takeIll_27 : decode cX4_takeIll 27 = .ok (.ishl, 1) := by decide +kernel
theorem dX4_takeIll_28 : decode cX4_takeIll 28 = .ok (.ior, 1) := by decide +kernel
theorem dX4_takeIll_29 : decode cX4_takeIll 29 = .ok (.putfield 25, 3) := by decide +kernel
theorem dX4_takeIll_32 : decode cX4_takeIll 32 = .ok (.aload_n 0, 1) := by decide +kernel
theorem dX4_takeIll_33 : decode cX4_takeIll 33 = .ok (.iconst 3, 1) := by decide +kernel
theorem dX4_takeIll_34 : decode cX4_takeIll 34 = .ok (.putfield 34, 3) := by decide +kernel
theorem dX4_takeIll_37 : decode cX4_takeIll 37 = .ok (.iconst 1, 1) := by decide +kernel
theorem dX4_takeIll_38 : decode cX4_takeIll 38 = .ok (.ireturn, 1) := by decide +kernel
theorem dX5_init_0 : decode cX5_init 0 = .ok (.aload_n 0, 1) := by decide +kernel
theorem dX5_init_1 : decode cX5_init 1 = .ok (.invokespecial 3, 3) := by decide +kernel
theorem dX5_init_4 : decode cX5_init 4 = .ok (.aload_n 0, 1) := by decide +kernel
theorem dX5_init_5 : decode cX5_init 5 = .ok (.bipush 40, 2) := by decide +kernel
theorem dX5_init_7 : decode cX5_init 7 = .ok (.newarray .int, 2) := by decide +kernel
theorem dX5_init_9 : decode cX5_init 9 = .ok (.putfield 11, 3) := by decide +kernel
theorem dX5_init_12 : decode cX5_init 12 = .ok (.aload_n 0, 1) := by decide +kernel
theorem dX5_init_13 : decode cX5_init 13 = .ok (.bipush 40, 2) := by decide +kernel
theorem dX5_init_15 : decode cX5_init 15 = .ok (.newarray .int, 2) := by decide +kernel
theorem dX5_init_17 : decode cX5_init 17 = .ok (.putfield 15, 3) := by decide +kernel
theorem dX5_init_20 : decode cX5_init 20 = .ok (.aload_n 0, 1) := by decide +kernel
theorem dX5_init_21 : decode cX5_init 21 = .ok (.bipush 40, 2) := by decide +kernel
theorem dX5_init_23 : decode cX5_init 23 = .ok (.newarray .int, 2) := by decide +kernel
theorem dX5_init_25 : decode cX5_init 25 = .ok (.putfield 18, 3) := by decide +kernel
theorem dX5_init_28 : decode cX5_init 28 = .ok (.aload_n 0, 1) := by decide +kernel
theorem dX5_init_29 : decode cX5_init 29 = .ok (.iconst 5, 1) := by decide +kernel
theorem dX5_init_30 : decode cX5_init 30 = .ok (.newarray .boolean, 2) := by decide +kernel
theorem dX5_init_32 : decode cX5_init 32 = .ok (.putfield 21, 3) := by decide +kernel
theorem dX5_init_35 : decode cX5_init 35 = .ok (.aload_n 0, 1) := by decide +kernel
theorem dX5_init_36 : decode cX5_init 36 = .ok (.iconst 0, 1) := by decide +kernel
theorem dX5_init_37 : decode cX5_init 37 = .ok (.putfield 25, 3) := by decide +kernel
theorem dX5_init_40 : decode cX5_init 40 = .ok (.aload_n 0, 1) := by decide +kernel
theorem dX5_init_41 : decode cX5_init 41 = .ok (.iconst 0, 1) := by decide +kernel
theorem dX5_init_42 : decode cX5_init 42 = .ok (.putfield 29, 3) := by decide +kernel
theorem dX5_init_45 : decode cX5_init 45 = .ok (.aload_n 0, 1) := by decide +kernel
theorem dX5_init_46 : decode cX5_init 46 = .ok (.iconst 0, 1) := by decide +kernel
theorem dX5_init_47 : decode cX5_init 47 = .ok (.putfield 32, 3) := by decide +kernel
theorem dX5_init_50 : decode cX5_init 50 = .ok (.aload_n 0, 1) := by decide +kernel
theorem dX5_init_51 : decode cX5_init 51 = .ok (.iconst 0, 1) := by decide +kernel
theorem dX5_init_52 : decode cX5_init 52 = .ok (.putfield 35, 3) := by decide +kernel
theorem dX5_init_55 : decode cX5_init 55 = .ok (.aload_n 0, 1) := by decide +kernel
theorem dX5_init_56 : decode cX5_init 56 = .ok (.iconst 1, 1) := by decide +kernel
theorem dX5_init_57 : decode cX5_init 57 = .ok (.putfield 38, 3) := by decide +kernel
theorem dX5_init_60 : decode cX5_init 60 = .ok (.return_, 1) := by decide +kernel
theorem dX5_compile_0 : decode cX5_compile 0 = .ok (.aload_n 0, 1) := by decide +kernel
theorem dX5_compile_1 : decode cX5_compile 1 = .ok (.iconst 0, 1) := by decide +kernel
theorem dX5_compile_2 : decode cX5_compile 2 = .ok (.putfield 25, 3) := by decide +kernel
theorem dX5_compile_5 : decode cX5_compile 5 = .ok (.aload_n 0, 1) := by decide +kernel
theorem dX5_compile_6 : decode cX5_compile 6 = .ok (.iconst 0, 1) := by decide +kernel
theorem dX5_compile_7 : decode cX5_compile 7 = .ok (.putfield 29, 3) := by decide +kernel
theorem dX5_compile_10 : decode cX5_compile 10 = .ok (.aload_n 0, 1) := by decide +kernel
theorem dX5_compile_11 : decode cX5_compile 11 = .ok (.iconst 0, 1) := by decide +kernel
theorem dX5_compile_12 : decode cX5_compile 12 = .ok (.putfield 32, 3) := by decide +kernel
theorem dX5_compile_15 : decode cX5_compile 15 = .ok (.aload_n 0, 1) := by decide +kernel
theorem dX5_compile_16 : decode cX5_compile 16 = .ok (.iconst 0, 1) := by decide +kernel
theorem dX5_compile_17 : decode cX5_compile 17 = .ok (.putfield 35, 3) := by decide +kernel
theorem dX5_compile_20 : decode cX5_compile 20 = .ok (.aload_n 0, 1) := by decide +kernel
theorem dX5_compile_21 : decode cX5_compile 21 = .ok (.iconst 1, 1) := by decide +kernel
theorem dX5_compile_22 : decode cX5_compile 22 = .ok (.putfield 38, 3) := by decide +kernel
theorem dX5_compile_25 : decode cX5_compile 25 = .ok (.aload_n 0, 1) := by decide +kernel
theorem dX5_compile_26 : decode cX5_compile 26 = .ok (.getfield 21, 3) := by decide +kernel
theorem dX5_compile_29 : decode cX5_compile 29 = .ok (.iconst 0, 1) := by decide +kernel
theorem dX5_compile_30 : decode cX5_compile 30 = .ok (.iconst 0, 1) := by decide +kernel
theorem dX5_compile_31 : decode cX5_compile 31 = .ok (.bastore, 1) := by decide +kernel
theorem dX5_compile_32 : decode cX5_compile 32 = .ok (.aload_n 1, 1) := by decide +kernel
theorem dX5_compile_33 : decode cX5_compile 33 = .ok (.getfield 42, 3) := by decide +kernel
theorem dX5_compile_36 : decode cX5_compile 36 = .ok (.ifCond .ne 5, 3) := by decide +kernel
theorem dX5_compile_39 : decode cX5_compile 39 = .ok (.iconst (-1), 1) := by decide +kernel
theorem dX5_compile_40 : decode cX5_compile 40 = .ok (.ireturn, 1) := by decide +kernel
theorem dX5_compile_41 : decode cX5_compile 41 = .ok (.aload_n 1, 1) := by decide +kernel
theorem dX5_compile_42 : decode cX5_compile 42 = .ok (.getfield 42, 3) := by decide +kernel
theorem dX5_compile_45 : decode cX5_compile 45 = .ok (.bipush 40, 2) := by decide +kernel
theorem dX5_compile_47 : decode cX5_compile 47 = .ok (.invokestatic 45, 3) := by decide +kernel
theorem dX5_compile_50 : decode cX5_compile 50 = .ok (.istore_n 2, 1) := by decide +kernel
theorem dX5_compile_51 : decode cX5_compile 51 = .ok (.iconst 0, 1) := by decide +kernel
theorem dX5_compile_52 : decode cX5_compile 52 = .ok (.istore_n 3, 1) := by decide +kernel
theorem dX5_compile_53 : decode cX5_compile 53 = .ok (.iload_n 3, 1) := by decide +kernel
theorem dX5_compile_54 : decode cX5_compile 54 = .ok (.iload_n 2, 1) := by decide +kernel
theorem dX5_compile_55 : decode cX5_compile 55 = .ok (.if_icmp .ge 24, 3) := by decide +kernel
theorem dX5_compile_58 : decode cX5_compile 58 = .ok (.aload_n 0, 1) := by decide +kernel
theorem dX5_compile_59 : decode cX5_compile 59 = .ok (.aload_n 1, 1) := by decide +kernel
theorem dX5_compile_60 : decode cX5_compile 60 = .ok (.getfield 51, 3) := by decide +kernel
theorem dX5_compile_63 : decode cX5_compile 63 = .ok (.iload_n 3, 1) := by decide +kernel
theorem dX5_compile_64 : decode cX5_compile 64 = .ok (.caload, 1) := by decide +kernel
theorem dX5_compile_65 : decode cX5_compile 65 = .ok (.invokevirtual 55, 3) := by decide +kernel
theorem dX5_compile_68 : decode cX5_compile 68 = .ok (.ifCond .ne 5, 3) := by decide +kernel
theorem dX5_compile_71 : decode cX5_compile 71 = .ok (.iload_n 3, 1) := by decide +kernel
theorem dX5_compile_72 : decode cX5_compile 72 = .ok (.ireturn, 1) := by decide +kernel
theorem dX5_compile_73 : decode cX5_compile 73 = .ok (.iinc 3 1, 3) := by decide +kernel
theorem dX5_compile_76 : decode cX5_compile 76 = .ok (.goto (-23), 3) := by decide +kernel
theorem dX5_compile_79 : decode cX5_compile 79 = .ok (.aload_n 1, 1) := by decide +kernel
theorem dX5_compile_80 : decode cX5_compile 80 = .ok (.getfield 42, 3) := by decide +kernel
theorem dX5_compile_83 : decode cX5_compile 83 = .ok (.bipush 40, 2) := by decide +kernel
theorem dX5_compile_85 : decode cX5_compile 85 = .ok (.if_icmp .gt 17, 3) := by decide +kernel
theorem dX5_compile_88 : decode cX5_compile 88 = .ok (.aload_n 0, 1) := by decide +kernel
theorem dX5_compile_89 : decode cX5_compile 89 = .ok (.getfield 38, 3) := by decide +kernel
theorem dX5_compile_92 : decode cX5_compile 92 = .ok (.ifCond .ne 10, 3) := by decide +kernel
theorem dX5_compile_95 : decode cX5_compile 95 = .ok (.aload_n 0, 1) := by decide +kernel
theorem dX5_compile_96 : decode cX5_compile 96 = .ok (.getfield 32, 3) := by decide +kernel
theorem dX5_compile_99 : decode cX5_compile 99 = .ok (.ifCond .le 5, 3) := by decide +kernel
theorem dX5_compile_102 : decode cX5_compile 102 = .ok (.iload_n 2, 1) := by decide +kernel
theorem dX5_compile_103 : decode cX5_compile 103 = .ok (.ireturn, 1) := by decide +kernel
theorem dX5_compile_104 : decode cX5_compile 104 = .ok (.aload_n 0, 1) := by decide +kernel
theorem dX5_compile_105 : decode cX5_compile 105 = .ok (.iconst 1, 1) := by decide +kernel
theorem dX5_compile_106 : decode cX5_compile 106 = .ok (.invokevirtual 59, 3) := by decide +kernel
theorem dX5_compile_109 : decode cX5_compile 109 = .ok (.iconst (-1), 1) := by decide +kernel
theorem dX5_compile_110 : decode cX5_compile 110 = .ok (.ireturn, 1) := by decide +kernel
theorem dX5_take_0 : decode cX5_take 0 = .ok (.iload_n 1, 1) := by decide +kernel
theorem dX5_take_1 : decode cX5_take 1 = .ok (.bipush 48, 2) := by decide +kernel
theorem dX5_take_3 : decode cX5_take 3 = .ok (.if_icmp .lt 18, 3) := by decide +kernel
theorem dX5_take_6 : decode cX5_take 6 = .ok (.iload_n 1, 1) := by decide +kernel
theorem dX5_take_7 : decode cX5_take 7 = .ok (.bipush 57, 2) := by decide +kernel
theorem dX5_take_9 : decode cX5_take 9 = .ok (.if_icmp .gt 12, 3) := by decide +kernel
theorem dX5_take_12 : decode cX5_take 12 = .ok (.aload_n 0, 1) := by decide +kernel
theorem dX5_take_13 : decode cX5_take 13 = .ok (.iload_n 1, 1) := by decide +kernel
theorem dX5_take_14 : decode cX5_take 14 = .ok (.bipush 48, 2) := by decide +kernel
theorem dX5_take_16 : decode cX5_take 16 = .ok (.isub, 1) := by decide +kernel
theorem dX5_take_17 : decode cX5_take 17 = .ok (.invokevirtual 63, 3) := by decide +kernel
theorem dX5_take_20 : decode cX5_take 20 = .ok (.ireturn, 1) := by decide +kernel
theorem dX5_take_21 : decode cX5_take 21 = .ok (.aload_n 0, 1) := by decide +kernel
theorem dX5_take_22 : decode cX5_take 22 = .ok (.iconst 0, 1) := by decide +kernel
theorem dX5_take_23 : decode cX5_take 23 = .ok (.putfield 35, 3) := by decide +kernel
theorem dX5_take_26 : decode cX5_take 26 = .ok (.aload_n 0, 1) := by decide +kernel
theorem dX5_take_27 : decode cX5_take 27 = .ok (.getfield 38, 3) := by decide +kernel
theorem dX5_take_30 : decode cX5_take 30 = .ok (.ifCond .eq 11, 3) := by decide +kernel
theorem dX5_take_33 : decode cX5_take 33 = .ok (.aload_n 0, 1) := by decide +kernel
theorem dX5_take_34 : decode cX5_take 34 = .ok (.iload_n 1, 1) := by decide +kernel
theorem dX5_take_35 : decode cX5_take 35 = .ok (.invokevirtual 67, 3) := by decide +kernel
theorem dX5_take_38 : decode cX5_take 38 = .ok (.goto 8, 3) := by decide +kernel
theorem dX5_take_41 : decode cX5_take 41 = .ok (.aload_n 0, 1) := by decide +kernel
theorem dX5_take_42 : decode cX5_take 42 = .ok (.iload_n 1, 1) := by decide +kernel
theorem dX5_take_43 : decode cX5_take 43 = .ok (.invokevirtual 70, 3) := by decide +kernel
theorem dX5_take_46 : decode cX5_take 46 = .ok (.ireturn, 1) := by decide +kernel
theorem dX5_takeDigit_0 : decode cX5_takeDigit 0 = .ok (.aload_n 0, 1) := by decide +kernel
theorem dX5_takeDigit_1 : decode cX5_takeDigit 1 = .ok (.getfield 38, 3) := by decide +kernel
theorem dX5_takeDigit_4 : decode cX5_takeDigit 4 = .ok (.ifCond .eq 20, 3) := by decide +kernel
theorem dX5_takeDigit_7 : decode cX5_takeDigit 7 = .ok (.aload_n 0, 1) := by decide +kernel
theorem dX5_takeDigit_8 : decode cX5_takeDigit 8 = .ok (.iload_n 1, 1) := by decide +kernel
theorem dX5_takeDigit_9 : decode cX5_takeDigit 9 = .ok (.invokevirtual 73, 3) := by decide +kernel
theorem dX5_takeDigit_12 : decode cX5_takeDigit 12 = .ok (.aload_n 0, 1) := by decide +kernel
theorem dX5_takeDigit_13 : decode cX5_takeDigit 13 = .ok (.iconst 1, 1) := by decide +kernel
theorem dX5_takeDigit_14 : decode cX5_takeDigit 14 = .ok (.putfield 35, 3) := by decide +kernel
theorem dX5_takeDigit_17 : decode cX5_takeDigit 17 = .ok (.aload_n 0, 1) := by decide +kernel
theorem dX5_takeDigit_18 : decode cX5_takeDigit 18 = .ok (.iconst 0, 1) := by decide +kernel
theorem dX5_takeDigit_19 : decode cX5_takeDigit 19 = .ok (.putfield 38, 3) := by decide +kernel
theorem dX5_takeDigit_22 : decode cX5_takeDigit 22 = .ok (.iconst 1, 1) := by decide +kernel
theorem dX5_takeDigit_23 : decode cX5_takeDigit 23 = .ok (.ireturn, 1) := by decide +kernel
theorem dX5_takeDigit_24 : decode cX5_takeDigit 24 = .ok (.aload_n 0, 1) := by decide +kernel
theorem dX5_takeDigit_25 : decode cX5_takeDigit 25 = .ok (.getfield 35, 3) := by decide +kernel
theorem dX5_takeDigit_28 : decode cX5_takeDigit 28 = .ok (.ifCond .eq 18, 3) := by decide +kernel
theorem dX5_takeDigit_31 : decode cX5_takeDigit 31 = .ok (.aload_n 0, 1) := by decide +kernel
theorem dX5_takeDigit_32 : decode cX5_takeDigit 32 = .ok (.getfield 35, 3) := by decide +kernel
theorem dX5_takeDigit_35 : decode cX5_takeDigit 35 = .ok (.iconst 3, 1) := by decide +kernel
theorem dX5_takeDigit_36 : decode cX5_takeDigit 36 = .ok (.if_icmp .eq 10, 3) := by decide +kernel
theorem dX5_takeDigit_39 : decode cX5_takeDigit 39 = .ok (.aload_n 0, 1) := by decide +kernel
theorem dX5_takeDigit_40 : decode cX5_takeDigit 40 = .ok (.getfield 25, 3) := by decide +kernel
theorem dX5_takeDigit_43 : decode cX5_takeDigit 43 = .ok (.ifCond .ne 5, 3) := by decide +kernel
theorem dX5_takeDigit_46 : decode cX5_takeDigit 46 = .ok (.iconst 0, 1) := by decide +kernel
theorem dX5_takeDigit_47 : decode cX5_takeDigit 47 = .ok (.ireturn, 1) := by decide +kernel
theorem dX5_takeDigit_48 : decode cX5_takeDigit 48 = .ok (.aload_n 0, 1) := by decide +kernel
theorem dX5_takeDigit_49 : decode cX5_takeDigit 49 = .ok (.getfield 11, 3) := by decide +kernel
theorem dX5_takeDigit_52 : decode cX5_takeDigit 52 = .ok (.aload_n 0, 1) := by decide +kernel
theorem dX5_takeDigit_53 : decode cX5_takeDigit 53 = .ok (.getfield 25, 3) := by decide +kernel
theorem dX5_takeDigit_56 : decode cX5_takeDigit 56 = .ok (.iconst 1, 1) := by decide +kernel
theorem dX5_takeDigit_57 : decode cX5_takeDigit 57 = .ok (.isub, 1) := by decide +kernel
theorem dX5_takeDigit_58 : decode cX5_takeDigit 58 = .ok (.aload_n 0, 1) := by decide +kernel
theorem dX5_takeDigit_59 : decode cX5_takeDigit 59 = .ok (.getfield 11, 3) := by decide +kernel
theorem dX5_takeDigit_62 : decode cX5_takeDigit 62 = .ok (.aload_n 0, 1) := by decide +kernel
theorem dX5_takeDigit_63 : decode cX5_takeDigit 63 = .ok (.getfield 25, 3) := by decide +kernel
theorem dX5_takeDigit_66 : decode cX5_takeDigit 66 = .ok (.iconst 1, 1) := by decide +kernel
theorem dX5_takeDigit_67 : decode cX5_takeDigit 67 = .ok (.isub, 1) := by decide +kernel
theorem dX5_takeDigit_68 : decode cX5_takeDigit 68 = .ok (.iaload, 1) := by decide +kernel
theorem dX5_takeDigit_69 : decode cX5_takeDigit 69 = .ok (.bipush 10, 2) := by decide +kernel
theorem dX5_takeDigit_71 : decode cX5_takeDigit 71 = .ok (.imul, 1) := by decide +kernel
theorem dX5_takeDigit_72 : decode cX5_takeDigit 72 = .ok (.iload_n 1, 1) := by decide +kernel
theorem dX5_takeDigit_73 : decode cX5_takeDigit 73 = .ok (.iadd, 1) := by decide +kernel
theorem dX5_takeDigit_74 : decode cX5_takeDigit 74 = .ok (.iastore, 1) := by decide +kernel
theorem dX5_takeDigit_75 : decode cX5_takeDigit 75 = .ok (.aload_n 0, 1) := by decide +kernel
theorem dX5_takeDigit_76 : decode cX5_takeDigit 76 = .ok (.dup, 1) := by decide +kernel
theorem dX5_takeDigit_77 : decode cX5_takeDigit 77 = .ok (.getfield 35, 3) := by decide +kernel
theorem dX5_takeDigit_80 : decode cX5_takeDigit 80 = .ok (.iconst 1, 1) := by decide +kernel
theorem dX5_takeDigit_81 : decode cX5_takeDigit 81 = .ok (.iadd, 1) := by decide +kernel
theorem dX5_takeDigit_82 : decode cX5_takeDigit 82 = .ok (.putfield 35, 3) := by decide +kernel
theorem dX5_takeDigit_85 : decode cX5_takeDigit 85 = .ok (.iconst 1, 1) := by decide +kernel
theorem dX5_takeDigit_86 : decode cX5_takeDigit 86 = .ok (.ireturn, 1) := by decide +kernel
theorem dX5_takeThing_0 : decode cX5_takeThing 0 = .ok (.iload_n 1, 1) := by decide +kernel
theorem dX5_takeThing_1 : decode cX5_takeThing 1 = .ok (.bipush 45, 2) := by decide +kernel
theorem dX5_takeThing_3 : decode cX5_takeThing 3 = .ok (.if_icmp .ne 12, 3) := by decide +kernel
theorem dX5_takeThing_6 : decode cX5_takeThing 6 = .ok (.aload_n 0, 1) := by decide +kernel
theorem dX5_takeThing_7 : decode cX5_takeThing 7 = .ok (.sipush 256, 3) := by decide +kernel
theorem dX5_takeThing_10 : decode cX5_takeThing 10 = .ok (.invokevirtual 76, 3) := by decide +kernel
theorem dX5_takeThing_13 : decode cX5_takeThing 13 = .ok (.iconst 1, 1) := by decide +kernel
theorem dX5_takeThing_14 : decode cX5_takeThing 14 = .ok (.ireturn, 1) := by decide +kernel
theorem dX5_takeThing_15 : decode cX5_takeThing 15 = .ok (.iload_n 1, 1) := by decide +kernel
theorem dX5_takeThing_16 : decode cX5_takeThing 16 = .ok (.bipush 40, 2) := by decide +kernel
theorem dX5_takeThing_18 : decode cX5_takeThing 18 = .ok (.if_icmp .ne 40, 3) := by decide +kernel
theorem dX5_takeThing_21 : decode cX5_takeThing 21 = .ok (.aload_n 0, 1) := by decide +kernel
theorem dX5_takeThing_22 : decode cX5_takeThing 22 = .ok (.getfield 32, 3) := by decide +kernel
theorem dX5_takeThing_25 : decode cX5_takeThing 25 = .ok (.iconst 4, 1) := by decide +kernel
theorem dX5_takeThing_26 : decode cX5_takeThing 26 = .ok (.if_icmp .lt 5, 3) := by decide +kernel
theorem dX5_takeThing_29 : decode cX5_takeThing 29 = .ok (.iconst 0, 1) := by decide +kernel
theorem dX5_takeThing_30 : decode cX5_takeThing 30 = .ok (.ireturn, 1) := by decide +kernel
theorem dX5_takeThing_31 : decode cX5_takeThing 31 = .ok (.aload_n 0, 1) := by decide +kernel
theorem dX5_takeThing_32 : decode cX5_takeThing 32 = .ok (.dup, 1) := by decide +kernel
theorem dX5_takeThing_33 : decode cX5_takeThing 33 = .ok (.getfield 32, 3) := by decide +kernel
theorem dX5_takeThing_36 : decode cX5_takeThing 36 = .ok (.iconst 1, 1) := by decide +kernel
theorem dX5_takeThing_37 : decode cX5_takeThing 37 = .ok (.iadd, 1) := by decide +kernel
theorem dX5_takeThing_38 : decode cX5_takeThing 38 = .ok (.putfield 32, 3) := by decide +kernel
theorem dX5_takeThing_41 : decode cX5_takeThing 41 = .ok (.aload_n 0, 1) := by decide +kernel
theorem dX5_takeThing_42 : decode cX5_takeThing 42 = .ok (.getfield 21, 3) := by decide +kernel
theorem dX5_takeThing_45 : decode cX5_takeThing 45 = .ok (.aload_n 0, 1) := by decide +kernel
theorem dX5_takeThing_46 : decode cX5_takeThing 46 = .ok (.getfield 32, 3) := by decide +kernel
theorem dX5_takeThing_49 : decode cX5_takeThing 49 = .ok (.iconst 0, 1) := by decide +kernel
theorem dX5_takeThing_50 : decode cX5_takeThing 50 = .ok (.bastore, 1) := by decide +kernel
theorem dX5_takeThing_51 : decode cX5_takeThing 51 = .ok (.aload_n 0, 1) := by decide +kernel
theorem dX5_takeThing_52 : decode cX5_takeThing 52 = .ok (.iload_n 1, 1) := by decide +kernel
theorem dX5_takeThing_53 : decode cX5_takeThing 53 = .ok (.invokevirtual 76, 3) := by decide +kernel
theorem dX5_takeThing_56 : decode cX5_takeThing 56 = .ok (.iconst 1, 1) := by decide +kernel
theorem dX5_takeThing_57 : decode cX5_takeThing 57 = .ok (.ireturn, 1) := by decide +kernel
theorem dX5_takeThing_58 : decode cX5_takeThing 58 = .ok (.iload_n 1, 1) := by decide +kernel
theorem dX5_takeThing_59 : decode cX5_takeThing 59 = .ok (.invokestatic 79, 3) := by decide +kernel
theorem dX5_takeThing_62 : decode cX5_takeThing 62 = .ok (.ifCond .ne 5, 3) := by decide +kernel
theorem dX5_takeThing_65 : decode cX5_takeThing 65 = .ok (.iconst 0, 1) := by decide +kernel
theorem dX5_takeThing_66 : decode cX5_takeThing 66 = .ok (.ireturn, 1) := by decide +kernel
theorem dX5_takeThing_67 : decode cX5_takeThing 67 = .ok (.aload_n 0, 1) := by decide +kernel
theorem dX5_takeThing_68 : decode cX5_takeThing 68 = .ok (.sipush 1000, 3) := by decide +kernel
theorem dX5_takeThing_71 : decode cX5_takeThing 71 = .ok (.iload_n 1, 1) := by decide +kernel
theorem dX5_takeThing_72 : decode cX5_takeThing 72 = .ok (.iadd, 1) := by decide +kernel
theorem dX5_takeThing_73 : decode cX5_takeThing 73 = .ok (.invokevirtual 73, 3) := by decide +kernel
theorem dX5_takeThing_76 : decode cX5_takeThing 76 = .ok (.aload_n 0, 1) := by decide +kernel
theorem dX5_takeThing_77 : decode cX5_takeThing 77 = .ok (.iconst 0, 1) := by decide +kernel
theorem dX5_takeThing_78 : decode cX5_takeThing 78 = .ok (.putfield 38, 3) := by decide +kernel
theorem dX5_takeThing_81 : decode cX5_takeThing 81 = .ok (.iconst 1, 1) := by decide +kernel
theorem dX5_takeThing_82 : decode cX5_takeThing 82 = .ok (.ireturn, 1) := by decide +kernel
theorem dX5_takeJoin_0 : decode cX5_takeJoin 0 = .ok (.iload_n 1, 1) := by decide +kernel
theorem dX5_takeJoin_1 : decode cX5_takeJoin 1 = .ok (.bipush 41, 2) := by decide +kernel
theorem dX5_takeJoin_3 : decode cX5_takeJoin 3 = .ok (.if_icmp .ne 43, 3) := by decide +kernel
theorem dX5_takeJoin_6 : decode cX5_takeJoin 6 = .ok (.aload_n 0, 1) := by decide +kernel
theorem dX5_takeJoin_7 : decode cX5_takeJoin 7 = .ok (.getfield 32, 3) := by decide +kernel
theorem dX5_takeJoin_10 : decode cX5_takeJoin 10 = .ok (.ifCond .ne 5, 3) := by decide +kernel
theorem dX5_takeJoin_13 : decode cX5_takeJoin 13 = .ok (.iconst 0, 1) := by decide +kernel
theorem dX5_takeJoin_14 : decode cX5_takeJoin 14 = .ok (.ireturn, 1) := by decide +kernel
theorem dX5_takeJoin_15 : decode cX5_takeJoin 15 = .ok (.aload_n 0, 1) := by decide +kernel
theorem dX5_takeJoin_16 : decode cX5_takeJoin 16 = .ok (.iconst 1, 1) := by decide +kernel
theorem dX5_takeJoin_17 : decode cX5_takeJoin 17 = .ok (.invokevirtual 59, 3) := by decide +kernel
theorem dX5_takeJoin_20 : decode cX5_takeJoin 20 = .ok (.aload_n 0, 1) := by decide +kernel
theorem dX5_takeJoin_21 : decode cX5_takeJoin 21 = .ok (.iconst 0, 1) := by decide +kernel
theorem dX5_takeJoin_22 : decode cX5_takeJoin 22 = .ok (.aload_n 0, 1) := by decide +kernel
theorem dX5_takeJoin_23 : decode cX5_takeJoin 23 = .ok (.getfield 29, 3) := by decide +kernel
theorem dX5_takeJoin_26 : decode cX5_takeJoin 26 = .ok (.iconst 1, 1) := by decide +kernel
theorem dX5_takeJoin_27 : decode cX5_takeJoin 27 = .ok (.isub, 1) := by decide +kernel
theorem dX5_takeJoin_28 : decode cX5_takeJoin 28 = .ok (.invokestatic 82, 3) := by decide +kernel
theorem dX5_takeJoin_31 : decode cX5_takeJoin 31 = .ok (.putfield 29, 3) := by decide +kernel
theorem dX5_takeJoin_34 : decode cX5_takeJoin 34 = .ok (.aload_n 0, 1) := by decide +kernel
theorem dX5_takeJoin_35 : decode cX5_takeJoin 35 = .ok (.dup, 1) := by decide +kernel
theorem dX5_takeJoin_36 : decode cX5_takeJoin 36 = .ok (.getfield 32, 3) := by decide +kernel
theorem dX5_takeJoin_39 : decode cX5_takeJoin 39 = .ok (.iconst 1, 1) := by decide +kernel
theorem dX5_takeJoin_40 : decode cX5_takeJoin 40 = .ok (.isub, 1) := by decide +kernel
theorem dX5_takeJoin_41 : decode cX5_takeJoin 41 = .ok (.putfield 32, 3) := by decide +kernel
theorem dX5_takeJoin_44 : decode cX5_takeJoin 44 = .ok (.iconst 1, 1) := by decide +kernel
theorem dX5_takeJoin_45 : decode cX5_takeJoin 45 = .ok (.ireturn, 1) := by decide +kernel
theorem dX5_takeJoin_46 : decode cX5_takeJoin 46 = .ok (.iload_n 1, 1) := by decide +kernel
theorem dX5_takeJoin_47 : decode cX5_takeJoin 47 = .ok (.invokestatic 85, 3) := by decide +kernel
theorem dX5_takeJoin_50 : decode cX5_takeJoin 50 = .ok (.istore_n 2, 1) := by decide +kernel
theorem dX5_takeJoin_51 : decode cX5_takeJoin 51 = .ok (.iload_n 2, 1) := by decide +kernel
theorem dX5_takeJoin_52 : decode cX5_takeJoin 52 = .ok (.ifCond .eq 20, 3) := by decide +kernel
theorem dX5_takeJoin_55 : decode cX5_takeJoin 55 = .ok (.iload_n 2, 1) := by decide +kernel
theorem dX5_takeJoin_56 : decode cX5_takeJoin 56 = .ok (.iconst 1, 1) := by decide +kernel
theorem dX5_takeJoin_57 : decode cX5_takeJoin 57 = .ok (.if_icmp .ne 17, 3) := by decide +kernel
theorem dX5_takeJoin_60 : decode cX5_takeJoin 60 = .ok (.aload_n 0, 1) := by decide +kernel
theorem dX5_takeJoin_61 : decode cX5_takeJoin 61 = .ok (.getfield 21, 3) := by decide +kernel
theorem dX5_takeJoin_64 : decode cX5_takeJoin 64 = .ok (.aload_n 0, 1) := by decide +kernel
theorem dX5_takeJoin_65 : decode cX5_takeJoin 65 = .ok (.getfield 32, 3) := by decide +kernel
theorem dX5_takeJoin_68 : decode cX5_takeJoin 68 = .ok (.baload, 1) := by decide +kernel
theorem dX5_takeJoin_69 : decode cX5_takeJoin 69 = .ok (.ifCond .eq 5, 3) := by decide +kernel
theorem dX5_takeJoin_72 : decode cX5_takeJoin 72 = .ok (.iconst 0, 1) := by decide +kernel
theorem dX5_takeJoin_73 : decode cX5_takeJoin 73 = .ok (.ireturn, 1) := by decide +kernel
theorem dX5_takeJoin_74 : decode cX5_takeJoin 74 = .ok (.iload_n 2, 1) := by decide +kernel
theorem dX5_takeJoin_75 : decode cX5_takeJoin 75 = .ok (.iconst 1, 1) := by decide +kernel
theorem dX5_takeJoin_76 : decode cX5_takeJoin 76 = .ok (.if_icmp .ne 13, 3) := by decide +kernel
theorem dX5_takeJoin_79 : decode cX5_takeJoin 79 = .ok (.aload_n 0, 1) := by decide +kernel
theorem dX5_takeJoin_80 : decode cX5_takeJoin 80 = .ok (.getfield 21, 3) := by decide +kernel
theorem dX5_takeJoin_83 : decode cX5_takeJoin 83 = .ok (.aload_n 0, 1) := by decide +kernel
theorem dX5_takeJoin_84 : decode cX5_takeJoin 84 = .ok (.getfield 32, 3) := by decide +kernel
theorem dX5_takeJoin_87 : decode cX5_takeJoin 87 = .ok (.iconst 1, 1) := by decide +kernel
theorem dX5_takeJoin_88 : decode cX5_takeJoin 88 = .ok (.bastore, 1) := by decide +kernel
theorem dX5_takeJoin_89 : decode cX5_takeJoin 89 = .ok (.aload_n 0, 1) := by decide +kernel
theorem dX5_takeJoin_90 : decode cX5_takeJoin 90 = .ok (.iload_n 2, 1) := by decide +kernel
theorem dX5_takeJoin_91 : decode cX5_takeJoin 91 = .ok (.invokevirtual 59, 3) := by decide +kernel
theorem dX5_takeJoin_94 : decode cX5_takeJoin 94 = .ok (.aload_n 0, 1) := by decide +kernel
theorem dX5_takeJoin_95 : decode cX5_takeJoin 95 = .ok (.iload_n 1, 1) := by decide +kernel
theorem dX5_takeJoin_96 : decode cX5_takeJoin 96 = .ok (.invokevirtual 76, 3) := by decide +kernel
theorem dX5_takeJoin_99 : decode cX5_takeJoin 99 = .ok (.aload_n 0, 1) := by decide +kernel
theorem dX5_takeJoin_100 : decode cX5_takeJoin 100 = .ok (.iconst 1, 1) := by decide +kernel
theorem dX5_takeJoin_101 : decode cX5_takeJoin 101 = .ok (.putfield 38, 3) := by decide +kernel
theorem dX5_takeJoin_104 : decode cX5_takeJoin 104 = .ok (.iconst 1, 1) := by decide +kernel
theorem dX5_takeJoin_105 : decode cX5_takeJoin 105 = .ok (.ireturn, 1) := by decide +kernel
theorem dX5_isThing_0 : decode cX5_isThing 0 = .ok (.iload_n 0, 1) := by decide +kernel
theorem dX5_isThing_1 : decode cX5_isThing 1 = .ok (.bipush 97, 2) := by decide +kernel
theorem dX5_isThing_3 : decode cX5_isThing 3 = .ok (.if_icmp .lt 9, 3) := by decide +kernel
theorem dX5_isThing_6 : decode cX5_isThing 6 = .ok (.iload_n 0, 1) := by decide +kernel
theorem dX5_isThing_7 : decode cX5_isThing 7 = .ok (.bipush 100, 2) := by decide +kernel
theorem dX5_isThing_9 : decode cX5_isThing 9 = .ok (.if_icmp .le 39, 3) := by decide +kernel
theorem dX5_isThing_12 : decode cX5_isThing 12 = .ok (.iload_n 0, 1) := by decide +kernel
theorem dX5_isThing_13 : decode cX5_isThing 13 = .ok (.bipush 115, 2) := by decide +kernel
theorem dX5_isThing_15 : decode cX5_isThing 15 = .ok (.if_icmp .eq 33, 3) := by decide +kernel
theorem dX5_isThing_18 : decode cX5_isThing 18 = .ok (.iload_n 0, 1) := by decide +kernel
theorem dX5_isThing_19 : decode cX5_isThing 19 = .ok (.bipush 109, 2) := by decide +kernel
theorem dX5_isThing_21 : decode cX5_isThing 21 = .ok (.if_icmp .eq 27, 3) := by decide +kernel
theorem dX5_isThing_24 : decode cX5_isThing 24 = .ok (.iload_n 0, 1) := by decide +kernel
theorem dX5_isThing_25 : decode cX5_isThing 25 = .ok (.bipush 108, 2) := by decide +kernel
theorem dX5_isThing_27 : decode cX5_isThing 27 = .ok (.if_icmp .eq 21, 3) := by decide +kernel
theorem dX5_isThing_30 : decode cX5_isThing 30 = .ok (.iload_n 0, 1) := by decide +kernel
theorem dX5_isThing_31 : decode cX5_isThing 31 = .ok (.bipush 105, 2) := by decide +kernel
theorem dX5_isThing_33 : decode cX5_isThing 33 = .ok (.if_icmp .eq 15, 3) := by decide +kernel
theorem dX5_isThing_36 : decode cX5_isThing 36 = .ok (.iload_n 0, 1) := by decide +kernel
theorem dX5_isThing_37 : decode cX5_isThing 37 = .ok (.bipush 112, 2) := by decide +kernel
theorem dX5_isThing_39 : decode cX5_isThing 39 = .ok (.if_icmp .eq 9, 3) := by decide +kernel
theorem dX5_isThing_42 : decode cX5_isThing 42 = .ok (.iload_n 0, 1) := by decide +kernel
theorem dX5_isThing_43 : decode cX5_isThing 43 = .ok (.bipush 114, 2) := by decide +kernel
theorem dX5_isThing_45 : decode cX5_isThing 45 = .ok (.if_icmp .ne 7, 3) := by decide +kernel
theorem dX5_isThing_48 : decode cX5_isThing 48 = .ok (.iconst 1, 1) := by decide +kernel
theorem dX5_isThing_49 : decode cX5_isThing 49 = .ok (.goto 4, 3) := by decide +kernel
theorem dX5_isThing_52 : decode cX5_isThing 52 = .ok (.iconst 0, 1) := by decide +kernel
theorem dX5_isThing_53 : decode cX5_isThing 53 = .ok (.ireturn, 1) := by decide +kernel
theorem dX5_rank_0 : decode cX5_rank 0 = .ok (.iload_n 0, 1) := by decide +kernel
theorem dX5_rank_1 : decode cX5_rank 1 = .ok (.lookupswitch 83 #[(42, 79), (43, 77), (45, 77), (47, 79), (60, 75), (61, 75), (62, 75), (256, 81)], 75) := by decide +kernel
theorem dX5_rank_76 : decode cX5_rank 76 = .ok (.iconst 1, 1) := by decide +kernel
theorem dX5_rank_77 : decode cX5_rank 77 = .ok (.ireturn, 1) := by decide +kernel
theorem dX5_rank_78 : decode cX5_rank 78 = .ok (.iconst 2, 1) := by decide +kernel
theorem dX5_rank_79 : decode cX5_rank 79 = .ok (.ireturn, 1) := by decide +kernel
theorem dX5_rank_80 : decode cX5_rank 80 = .ok (.iconst 3, 1) := by decide +kernel
theorem dX5_rank_81 : decode cX5_rank 81 = .ok (.ireturn, 1) := by decide +kernel
theorem dX5_rank_82 : decode cX5_rank 82 = .ok (.iconst 4, 1) := by decide +kernel
theorem dX5_rank_83 : decode cX5_rank 83 = .ok (.ireturn, 1) := by decide +kernel
theorem dX5_rank_84 : decode cX5_rank 84 = .ok (.iconst 0, 1) := by decide +kernel
theorem dX5_rank_85 : decode cX5_rank 85 = .ok (.ireturn, 1) := by decide +kernel
theorem dX5_emit_0 : decode cX5_emit 0 = .ok (.aload_n 0, 1) := by decide +kernel
theorem dX5_emit_1 : decode cX5_emit 1 = .ok (.getfield 25, 3) := by decide +kernel
theorem dX5_emit_4 : decode cX5_emit 4 = .ok (.bipush 40, 2) := by decide +kernel
theorem dX5_emit_6 : decode cX5_emit 6 = .ok (.if_icmp .ge 23, 3) := by decide +kernel
theorem dX5_emit_9 : decode cX5_emit 9 = .ok (.aload_n 0, 1) := by decide +kernel
theorem dX5_emit_10 : decode cX5_emit 10 = .ok (.getfield 11, 3) := by decide +kernel
theorem dX5_emit_13 : decode cX5_emit 13 = .ok (.aload_n 0, 1) := by decide +kernel
theorem dX5_emit_14 : decode cX5_emit 14 = .ok (.getfield 25, 3) := by decide +kernel
theorem dX5_emit_17 : decode cX5_emit 17 = .ok (.iload_n 1, 1) := by decide +kernel
theorem dX5_emit_18 : decode cX5_emit 18 = .ok (.iastore, 1) := by decide +kernel
theorem dX5_emit_19 : decode cX5_emit 19 = .ok (.aload_n 0, 1) := by decide +kernel
theorem dX5_emit_20 : decode cX5_emit 20 = .ok (.dup, 1) := by decide +kernel
theorem dX5_emit_21 : decode cX5_emit 21 = .ok (.getfield 25, 3) := by decide +kernel
theorem dX5_emit_24 : decode cX5_emit 24 = .ok (.iconst 1, 1) := by decide +kernel
theorem dX5_emit_25 : decode cX5_emit 25 = .ok (.iadd, 1) := by decide +kernel
theorem dX5_emit_26 : decode cX5_emit 26 = .ok (.putfield 25, 3) := by decide +kernel
theorem dX5_emit_29 : decode cX5_emit 29 = .ok (.return_, 1) := by decide +kernel
theorem dX5_hold_0 : decode cX5_hold 0 = .ok (.aload_n 0, 1) := by decide +kernel
theorem dX5_hold_1 : decode cX5_hold 1 = .ok (.getfield 29, 3) := by decide +kernel
theorem dX5_hold_4 : decode cX5_hold 4 = .ok (.bipush 40, 2) := by decide +kernel
theorem dX5_hold_6 : decode cX5_hold 6 = .ok (.if_icmp .ge 23, 3) := by decide +kernel
theorem dX5_hold_9 : decode cX5_hold 9 = .ok (.aload_n 0, 1) := by decide +kernel
theorem dX5_hold_10 : decode cX5_hold 10 = .ok (.getfield 18, 3) := by decide +kernel
theorem dX5_hold_13 : decode cX5_hold 13 = .ok (.aload_n 0, 1) := by decide +kernel
theorem dX5_hold_14 : decode cX5_hold 14 = .ok (.getfield 29, 3) := by decide +kernel
theorem dX5_hold_17 : decode cX5_hold 17 = .ok (.iload_n 1, 1) := by decide +kernel
theorem dX5_hold_18 : decode cX5_hold 18 = .ok (.iastore, 1) := by decide +kernel
theorem dX5_hold_19 : decode cX5_hold 19 = .ok (.aload_n 0, 1) := by decide +kernel
theorem dX5_hold_20 : decode cX5_hold 20 = .ok (.dup, 1) := by decide +kernel
theorem dX5_hold_21 : decode cX5_hold 21 = .ok (.getfield 29, 3) := by decide +kernel
theorem dX5_hold_24 : decode cX5_hold 24 = .ok (.iconst 1, 1) := by decide +kernel
theorem dX5_hold_25 : decode cX5_hold 25 = .ok (.iadd, 1) := by decide +kernel
theorem dX5_hold_26 : decode cX5_hold 26 = .ok (.putfield 29, 3) := by decide +kernel
theorem dX5_hold_29 : decode cX5_hold 29 = .ok (.return_, 1) := by decide +kernel
theorem dX5_release_0 : decode cX5_release 0 = .ok (.aload_n 0, 1) := by decide +kernel
theorem dX5_release_1 : decode cX5_release 1 = .ok (.getfield 29, 3) := by decide +kernel
theorem dX5_release_4 : decode cX5_release 4 = .ok (.iconst 1, 1) := by decide +kernel
theorem dX5_release_5 : decode cX5_release 5 = .ok (.isub, 1) := by decide +kernel
theorem dX5_release_6 : decode cX5_release 6 = .ok (.istore_n 2, 1) := by decide +kernel
theorem dX5_release_7 : decode cX5_release 7 = .ok (.iload_n 2, 1) := by decide +kernel
theorem dX5_release_8 : decode cX5_release 8 = .ok (.ifCond .lt 44, 3) := by decide +kernel
theorem dX5_release_11 : decode cX5_release 11 = .ok (.aload_n 0, 1) := by decide +kernel
theorem dX5_release_12 : decode cX5_release 12 = .ok (.getfield 18, 3) := by decide +kernel
theorem dX5_release_15 : decode cX5_release 15 = .ok (.iload_n 2, 1) := by decide +kernel
theorem dX5_release_16 : decode cX5_release 16 = .ok (.iaload, 1) := by decide +kernel
theorem dX5_release_17 : decode cX5_release 17 = .ok (.invokestatic 85, 3) := by decide +kernel
theorem dX5_release_20 : decode cX5_release 20 = .ok (.iload_n 1, 1) := by decide +kernel
theorem dX5_release_21 : decode cX5_release 21 = .ok (.if_icmp .ge 6, 3) := by decide +kernel
theorem dX5_release_24 : decode cX5_release 24 = .ok (.goto 28, 3) := by decide +kernel
theorem dX5_release_27 : decode cX5_release 27 = .ok (.aload_n 0, 1) := by decide +kernel
theorem dX5_release_28 : decode cX5_release 28 = .ok (.sipush 1000, 3) := by decide +kernel
theorem dX5_release_31 : decode cX5_release 31 = .ok (.aload_n 0, 1) := by decide +kernel
theorem dX5_release_32 : decode cX5_release 32 = .ok (.getfield 18, 3) := by decide +kernel
theorem dX5_release_35 : decode cX5_release 35 = .ok (.iload_n 2, 1) := by decide +kernel
theorem dX5_release_36 : decode cX5_release 36 = .ok (.iaload, 1) := by decide +kernel
theorem dX5_release_37 : decode cX5_release 37 = .ok (.iadd, 1) := by decide +kernel
theorem dX5_release_38 : decode cX5_release 38 = .ok (.invokevirtual 73, 3) := by decide +kernel
theorem dX5_release_41 : decode cX5_release 41 = .ok (.aload_n 0, 1) := by decide +kernel
theorem dX5_release_42 : decode cX5_release 42 = .ok (.iload_n 2, 1) := by decide +kernel
theorem dX5_release_43 : decode cX5_release 43 = .ok (.putfield 29, 3) := by decide +kernel
theorem dX5_release_46 : decode cX5_release 46 = .ok (.iinc 2 (-1), 3) := by decide +kernel
theorem dX5_release_49 : decode cX5_release 49 = .ok (.goto (-42), 3) := by decide +kernel
theorem dX5_release_52 : decode cX5_release 52 = .ok (.return_, 1) := by decide +kernel
theorem dX5_value_0 : decode cX5_value 0 = .ok (.aload_n 0, 1) := by decide +kernel
theorem dX5_value_1 : decode cX5_value 1 = .ok (.getfield 25, 3) := by decide +kernel
theorem dX5_value_4 : decode cX5_value 4 = .ok (.ifCond .ne 10, 3) := by decide +kernel
theorem dX5_value_7 : decode cX5_value 7 = .ok (.aload_n 1, 1) := by decide +kernel
theorem dX5_value_8 : decode cX5_value 8 = .ok (.iload_n 2, 1) := by decide +kernel
theorem dX5_value_9 : decode cX5_value 9 = .ok (.iload_n 3, 1) := by decide +kernel
theorem dX5_value_10 : decode cX5_value 10 = .ok (.invokevirtual 89, 3) := by decide +kernel
theorem dX5_value_13 : decode cX5_value 13 = .ok (.ireturn, 1) := by decide +kernel
theorem dX5_value_14 : decode cX5_value 14 = .ok (.iconst 0, 1) := by decide +kernel
theorem dX5_value_15 : decode cX5_value 15 = .ok (.istore 4, 2) := by decide +kernel
theorem dX5_value_17 : decode cX5_value 17 = .ok (.iconst 0, 1) := by decide +kernel
theorem dX5_value_18 : decode cX5_value 18 = .ok (.istore 5, 2) := by decide +kernel
theorem dX5_value_20 : decode cX5_value 20 = .ok (.iload 5, 2) := by decide +kernel
theorem dX5_value_22 : decode cX5_value 22 = .ok (.aload_n 0, 1) := by decide +kernel
theorem dX5_value_23 : decode cX5_value 23 = .ok (.getfield 25, 3) := by decide +kernel
theorem dX5_value_26 : decode cX5_value 26 = .ok (.if_icmp .ge 167, 3) := by decide +kernel
theorem dX5_value_29 : decode cX5_value 29 = .ok (.aload_n 0, 1) := by decide +kernel
theorem dX5_value_30 : decode cX5_value 30 = .ok (.getfield 11, 3) := by decide +kernel
theorem dX5_value_33 : decode cX5_value 33 = .ok (.iload 5, 2) := by decide +kernel
theorem dX5_value_35 : decode cX5_value 35 = .ok (.iaload, 1) := by decide +kernel
theorem dX5_value_36 : decode cX5_value 36 = .ok (.istore 6, 2) := by decide +kernel
theorem dX5_value_38 : decode cX5_value 38 = .ok (.iload 6, 2) := by decide +kernel
theorem dX5_value_40 : decode cX5_value 40 = .ok (.sipush 1000, 3) := by decide +kernel
theorem dX5_value_43 : decode cX5_value 43 = .ok (.if_icmp .ge 7, 3) := by decide +kernel
theorem dX5_value_46 : decode cX5_value 46 = .ok (.iconst 0, 1) := by decide +kernel
theorem dX5_value_47 : decode cX5_value 47 = .ok (.goto 12, 3) := by decide +kernel
theorem dX5_value_50 : decode cX5_value 50 = .ok (.iload 6, 2) := by decide +kernel
theorem dX5_value_52 : decode cX5_value 52 = .ok (.sipush 1000, 3) := by decide +kernel
theorem dX5_value_55 : decode cX5_value 55 = .ok (.isub, 1) := by decide +kernel
theorem dX5_value_56 : decode cX5_value 56 = .ok (.invokestatic 85, 3) := by decide +kernel
theorem dX5_value_59 : decode cX5_value 59 = .ok (.istore 7, 2) := by decide +kernel
theorem dX5_value_61 : decode cX5_value 61 = .ok (.iload 7, 2) := by decide +kernel
theorem dX5_value_63 : decode cX5_value 63 = .ok (.ifCond .ne 48, 3) := by decide +kernel
theorem dX5_value_66 : decode cX5_value 66 = .ok (.iload 4, 2) := by decide +kernel
theorem dX5_value_68 : decode cX5_value 68 = .ok (.bipush 40, 2) := by decide +kernel
theorem dX5_value_70 : decode cX5_value 70 = .ok (.if_icmp .ge 41, 3) := by decide +kernel
theorem dX5_value_73 : decode cX5_value 73 = .ok (.aload_n 0, 1) := by decide +kernel
theorem dX5_value_74 : decode cX5_value 74 = .ok (.getfield 15, 3) := by decide +kernel
theorem dX5_value_77 : decode cX5_value 77 = .ok (.iload 4, 2) := by decide +kernel
theorem dX5_value_79 : decode cX5_value 79 = .ok (.iload 6, 2) := by decide +kernel
theorem dX5_value_81 : decode cX5_value 81 = .ok (.sipush 1000, 3) := by decide +kernel
theorem dX5_value_84 : decode cX5_value 84 = .ok (.if_icmp .ge 8, 3) := by decide +kernel
theorem dX5_value_87 : decode cX5_value 87 = .ok (.iload 6, 2) := by decide +kernel
theorem dX5_value_89 : decode cX5_value 89 = .ok (.goto 15, 3) := by decide +kernel
theorem dX5_value_92 : decode cX5_value 92 = .ok (.iload 6, 2) := by decide +kernel
theorem dX5_value_94 : decode cX5_value 94 = .ok (.sipush 1000, 3) := by decide +kernel
theorem dX5_value_97 : decode cX5_value 97 = .ok (.isub, 1) := by decide +kernel
theorem dX5_value_98 : decode cX5_value 98 = .ok (.aload_n 1, 1) := by decide +kernel
theorem dX5_value_99 : decode cX5_value 99 = .ok (.iload_n 2, 1) := by decide +kernel
theorem dX5_value_100 : decode cX5_value 100 = .ok (.iload_n 3, 1) := by decide +kernel
theorem dX5_value_101 : decode cX5_value 101 = .ok (.invokestatic 94, 3) := by decide +kernel
theorem dX5_value_104 : decode cX5_value 104 = .ok (.iastore, 1) := by decide +kernel
theorem dX5_value_105 : decode cX5_value 105 = .ok (.iinc 4 1, 3) := by decide +kernel
theorem dX5_value_108 : decode cX5_value 108 = .ok (.goto 79, 3) := by decide +kernel
theorem dX5_value_111 : decode cX5_value 111 = .ok (.iload 7, 2) := by decide +kernel
theorem dX5_value_113 : decode cX5_value 113 = .ok (.iconst 4, 1) := by decide +kernel
theorem dX5_value_114 : decode cX5_value 114 = .ok (.if_icmp .ne 30, 3) := by decide +kernel
theorem dX5_value_117 : decode cX5_value 117 = .ok (.iload 4, 2) := by decide +kernel
theorem dX5_value_119 : decode cX5_value 119 = .ok (.ifCond .le 25, 3) := by decide +kernel
theorem dX5_value_122 : decode cX5_value 122 = .ok (.aload_n 0, 1) := by decide +kernel
theorem dX5_value_123 : decode cX5_value 123 = .ok (.getfield 15, 3) := by decide +kernel
theorem dX5_value_126 : decode cX5_value 126 = .ok (.iload 4, 2) := by decide +kernel
theorem dX5_value_128 : decode cX5_value 128 = .ok (.iconst 1, 1) := by decide +kernel
theorem dX5_value_129 : decode cX5_value 129 = .ok (.isub, 1) := by decide +kernel
theorem dX5_value_130 : decode cX5_value 130 = .ok (.aload_n 0, 1) := by decide +kernel
theorem dX5_value_131 : decode cX5_value 131 = .ok (.getfield 15, 3) := by decide +kernel
theorem dX5_value_134 : decode cX5_value 134 = .ok (.iload 4, 2) := by decide +kernel
theorem dX5_value_136 : decode cX5_value 136 = .ok (.iconst 1, 1) := by decide +kernel
theorem dX5_value_137 : decode cX5_value 137 = .ok (.isub, 1) := by decide +kernel
theorem dX5_value_138 : decode cX5_value 138 = .ok (.iaload, 1) := by decide +kernel
theorem dX5_value_139 : decode cX5_value 139 = .ok (.ineg, 1) := by decide +kernel
theorem dX5_value_140 : decode cX5_value 140 = .ok (.iastore, 1) := by decide +kernel
theorem dX5_value_141 : decode cX5_value 141 = .ok (.goto 46, 3) := by decide +kernel
theorem dX5_value_144 : decode cX5_value 144 = .ok (.iload 4, 2) := by decide +kernel
theorem dX5_value_146 : decode cX5_value 146 = .ok (.iconst 1, 1) := by decide +kernel
theorem dX5_value_147 : decode cX5_value 147 = .ok (.if_icmp .le 40, 3) := by decide +kernel
theorem dX5_value_150 : decode cX5_value 150 = .ok (.iinc 4 (-1), 3) := by decide +kernel
theorem dX5_value_153 : decode cX5_value 153 = .ok (.aload_n 0, 1) := by decide +kernel
theorem dX5_value_154 : decode cX5_value 154 = .ok (.getfield 15, 3) := by decide +kernel
theorem dX5_value_157 : decode cX5_value 157 = .ok (.iload 4, 2) := by decide +kernel
theorem dX5_value_159 : decode cX5_value 159 = .ok (.iconst 1, 1) := by decide +kernel
theorem dX5_value_160 : decode cX5_value 160 = .ok (.isub, 1) := by decide +kernel
theorem dX5_value_161 : decode cX5_value 161 = .ok (.iload 6, 2) := by decide +kernel
theorem dX5_value_163 : decode cX5_value 163 = .ok (.sipush 1000, 3) := by decide +kernel
theorem dX5_value_166 : decode cX5_value 166 = .ok (.isub, 1) := by decide +kernel
theorem dX5_value_167 : decode cX5_value 167 = .ok (.aload_n 0, 1) := by decide +kernel
theorem dX5_value_168 : decode cX5_value 168 = .ok (.getfield 15, 3) := by decide +kernel
theorem dX5_value_171 : decode cX5_value 171 = .ok (.iload 4, 2) := by decide +kernel
theorem dX5_value_173 : decode cX5_value 173 = .ok (.iconst 1, 1) := by decide +kernel
theorem dX5_value_174 : decode cX5_value 174 = .ok (.isub, 1) := by decide +kernel
theorem dX5_value_175 : decode cX5_value 175 = .ok (.iaload, 1) := by decide +kernel
theorem dX5_value_176 : decode cX5_value 176 = .ok (.aload_n 0, 1) := by decide +kernel
theorem dX5_value_177 : decode cX5_value 177 = .ok (.getfield 15, 3) := by decide +kernel
theorem dX5_value_180 : decode cX5_value 180 = .ok (.iload 4, 2) := by decide +kernel
theorem dX5_value_182 : decode cX5_value 182 = .ok (.iaload, 1) := by decide +kernel
theorem dX5_value_183 : decode cX5_value 183 = .ok (.invokestatic 98, 3) := by decide +kernel
theorem dX5_value_186 : decode cX5_value 186 = .ok (.iastore, 1) := by decide +kernel
theorem dX5_value_187 : decode cX5_value 187 = .ok (.iinc 5 1, 3) := by decide +kernel
theorem dX5_value_190 : decode cX5_value 190 = .ok (.goto (-170), 3) := by decide +kernel
theorem dX5_value_193 : decode cX5_value 193 = .ok (.aload_n 0, 1) := by decide +kernel
theorem dX5_value_194 : decode cX5_value 194 = .ok (.getfield 15, 3) := by decide +kernel
theorem dX5_value_197 : decode cX5_value 197 = .ok (.iconst 0, 1) := by decide +kernel
theorem dX5_value_198 : decode cX5_value 198 = .ok (.iaload, 1) := by decide +kernel
theorem dX5_value_199 : decode cX5_value 199 = .ok (.sipush (-9999), 3) := by decide +kernel
theorem dX5_value_202 : decode cX5_value 202 = .ok (.sipush 9999, 3) := by decide +kernel
theorem dX5_value_205 : decode cX5_value 205 = .ok (.invokestatic 102, 3) := by decide +kernel
theorem dX5_value_208 : decode cX5_value 208 = .ok (.ireturn, 1) := by decide +kernel
theorem dX5_thing_0 : decode cX5_thing 0 = .ok (.iload_n 0, 1) := by decide +kernel
theorem dX5_thing_1 : decode cX5_thing 1 = .ok (.tableswitch 96 105 115 #[80, 96, 96, 73, 66, 96, 96, 82, 96, 89, 59], 59) := by decide +kernel
theorem dX5_thing_60 : decode cX5_thing 60 = .ok (.aload_n 1, 1) := by decide +kernel
theorem dX5_thing_61 : decode cX5_thing 61 = .ok (.iload_n 2, 1) := by decide +kernel
theorem dX5_thing_62 : decode cX5_thing 62 = .ok (.iload_n 3, 1) := by decide +kernel
theorem dX5_thing_63 : decode cX5_thing 63 = .ok (.invokevirtual 89, 3) := by decide +kernel
theorem dX5_thing_66 : decode cX5_thing 66 = .ok (.ireturn, 1) := by decide +kernel
theorem dX5_thing_67 : decode cX5_thing 67 = .ok (.aload_n 1, 1) := by decide +kernel
theorem dX5_thing_68 : decode cX5_thing 68 = .ok (.iload_n 2, 1) := by decide +kernel
theorem dX5_thing_69 : decode cX5_thing 69 = .ok (.iload_n 3, 1) := by decide +kernel
theorem dX5_thing_70 : decode cX5_thing 70 = .ok (.invokevirtual 105, 3) := by decide +kernel
theorem dX5_thing_73 : decode cX5_thing 73 = .ok (.ireturn, 1) := by decide +kernel
theorem dX5_thing_74 : decode cX5_thing 74 = .ok (.aload_n 1, 1) := by decide +kernel
theorem dX5_thing_75 : decode cX5_thing 75 = .ok (.iload_n 2, 1) := by decide +kernel
theorem dX5_thing_76 : decode cX5_thing 76 = .ok (.iload_n 3, 1) := by decide +kernel
theorem dX5_thing_77 : decode cX5_thing 77 = .ok (.invokevirtual 108, 3) := by decide +kernel
theorem dX5_thing_80 : decode cX5_thing 80 = .ok (.ireturn, 1) := by decide +kernel
theorem dX5_thing_81 : decode cX5_thing 81 = .ok (.iload_n 2, 1) := by decide +kernel
theorem dX5_thing_82 : decode cX5_thing 82 = .ok (.ireturn, 1) := by decide +kernel
theorem dX5_thing_83 : decode cX5_thing 83 = .ok (.aload_n 1, 1) := by decide +kernel
theorem dX5_thing_84 : decode cX5_thing 84 = .ok (.getfield 111, 3) := by decide +kernel
theorem dX5_thing_87 : decode cX5_thing 87 = .ok (.iload_n 2, 1) := by decide +kernel
theorem dX5_thing_88 : decode cX5_thing 88 = .ok (.iaload, 1) := by decide +kernel
theorem dX5_thing_89 : decode cX5_thing 89 = .ok (.ireturn, 1) := by decide +kernel
theorem dX5_thing_90 : decode cX5_thing 90 = .ok (.aload_n 1, 1) := by decide +kernel
theorem dX5_thing_91 : decode cX5_thing 91 = .ok (.getfield 114, 3) := by decide +kernel
theorem dX5_thing_94 : decode cX5_thing 94 = .ok (.iload_n 2, 1) := by decide +kernel
theorem dX5_thing_95 : decode cX5_thing 95 = .ok (.iaload, 1) := by decide +kernel
theorem dX5_thing_96 : decode cX5_thing 96 = .ok (.ireturn, 1) := by decide +kernel
theorem dX5_thing_97 : decode cX5_thing 97 = .ok (.iload_n 0, 1) := by decide +kernel
theorem dX5_thing_98 : decode cX5_thing 98 = .ok (.bipush 97, 2) := by decide +kernel
theorem dX5_thing_100 : decode cX5_thing 100 = .ok (.isub, 1) := by decide +kernel
theorem dX5_thing_101 : decode cX5_thing 101 = .ok (.iload_n 3, 1) := by decide +kernel
theorem dX5_thing_102 : decode cX5_thing 102 = .ok (.if_icmp .ge 15, 3) := by decide +kernel
theorem dX5_thing_105 : decode cX5_thing 105 = .ok (.aload_n 1, 1) := by decide +kernel
theorem dX5_thing_106 : decode cX5_thing 106 = .ok (.iload_n 2, 1) := by decide +kernel
theorem dX5_thing_107 : decode cX5_thing 107 = .ok (.iload_n 0, 1) := by decide +kernel
theorem dX5_thing_108 : decode cX5_thing 108 = .ok (.bipush 97, 2) := by decide +kernel
theorem dX5_thing_110 : decode cX5_thing 110 = .ok (.isub, 1) := by decide +kernel
theorem dX5_thing_111 : decode cX5_thing 111 = .ok (.invokevirtual 117, 3) := by decide +kernel
theorem dX5_thing_114 : decode cX5_thing 114 = .ok (.goto 4, 3) := by decide +kernel
theorem dX5_thing_117 : decode cX5_thing 117 = .ok (.iconst 0, 1) := by decide +kernel
theorem dX5_thing_118 : decode cX5_thing 118 = .ok (.ireturn, 1) := by decide +kernel
theorem dX5_joined_0 : decode cX5_joined 0 = .ok (.iload_n 0, 1) := by decide +kernel
theorem dX5_joined_1 : decode cX5_joined 1 = .ok (.lookupswitch 104 #[(42, 100), (43, 92), (45, 96), (60, 59), (61, 81), (62, 70)], 59) := by decide +kernel
theorem dX5_joined_60 : decode cX5_joined 60 = .ok (.iload_n 1, 1) := by decide +kernel
theorem dX5_joined_61 : decode cX5_joined 61 = .ok (.iload_n 2, 1) := by decide +kernel
theorem dX5_joined_62 : decode cX5_joined 62 = .ok (.if_icmp .ge 7, 3) := by decide +kernel
theorem dX5_joined_65 : decode cX5_joined 65 = .ok (.iconst 1, 1) := by decide +kernel
theorem dX5_joined_66 : decode cX5_joined 66 = .ok (.goto 4, 3) := by decide +kernel
theorem dX5_joined_69 : decode cX5_joined 69 = .ok (.iconst 0, 1) := by decide +kernel
theorem dX5_joined_70 : decode cX5_joined 70 = .ok (.ireturn, 1) := by decide +kernel
theorem dX5_joined_71 : decode cX5_joined 71 = .ok (.iload_n 1, 1) := by decide +kernel
theorem dX5_joined_72 : decode cX5_joined 72 = .ok (.iload_n 2, 1) := by decide +kernel
theorem dX5_joined_73 : decode cX5_joined 73 = .ok (.if_icmp .le 7, 3) := by decide +kernel
theorem dX5_joined_76 : decode cX5_joined 76 = .ok (.iconst 1, 1) := by decide +kernel
theorem dX5_joined_77 : decode cX5_joined 77 = .ok (.goto 4, 3) := by decide +kernel
theorem dX5_joined_80 : decode cX5_joined 80 = .ok (.iconst 0, 1) := by decide +kernel
theorem dX5_joined_81 : decode cX5_joined 81 = .ok (.ireturn, 1) := by decide +kernel
theorem dX5_joined_82 : decode cX5_joined 82 = .ok (.iload_n 1, 1) := by decide +kernel
theorem dX5_joined_83 : decode cX5_joined 83 = .ok (.iload_n 2, 1) := by decide +kernel
theorem dX5_joined_84 : decode cX5_joined 84 = .ok (.if_icmp .ne 7, 3) := by decide +kernel
theorem dX5_joined_87 : decode cX5_joined 87 = .ok (.iconst 1, 1) := by decide +kernel
theorem dX5_joined_88 : decode cX5_joined 88 = .ok (.goto 4, 3) := by decide +kernel
theorem dX5_joined_91 : decode cX5_joined 91 = .ok (.iconst 0, 1) := by decide +kernel
theorem dX5_joined_92 : decode cX5_joined 92 = .ok (.ireturn, 1) := by decide +kernel
theorem dX5_joined_93 : decode cX5_joined 93 = .ok (.iload_n 1, 1) := by decide +kernel
theorem dX5_joined_94 : decode cX5_joined 94 = .ok (.iload_n 2, 1) := by decide +kernel
theorem dX5_joined_95 : decode cX5_joined 95 = .ok (.iadd, 1) := by decide +kernel
theorem dX5_joined_96 : decode cX5_joined 96 = .ok (.ireturn, 1) := by decide +kernel
theorem dX5_joined_97 : decode cX5_joined 97 = .ok (.iload_n 1, 1) := by decide +kernel
theorem dX5_joined_98 : decode cX5_joined 98 = .ok (.iload_n 2, 1) := by decide +kernel
theorem dX5_joined_99 : decode cX5_joined 99 = .ok (.isub, 1) := by decide +kernel
theorem dX5_joined_100 : decode cX5_joined 100 = .ok (.ireturn, 1) := by decide +kernel
theorem dX5_joined_101 : decode cX5_joined 101 = .ok (.iload_n 1, 1) := by decide +kernel
theorem dX5_joined_102 : decode cX5_joined 102 = .ok (.iload_n 2, 1) := by decide +kernel
theorem dX5_joined_103 : decode cX5_joined 103 = .ok (.imul, 1) := by decide +kernel
theorem dX5_joined_104 : decode cX5_joined 104 = .ok (.ireturn, 1) := by decide +kernel
theorem dX5_joined_105 : decode cX5_joined 105 = .ok (.iload_n 2, 1) := by decide +kernel
theorem dX5_joined_106 : decode cX5_joined 106 = .ok (.ifCond .ne 7, 3) := by decide +kernel
theorem dX5_joined_109 : decode cX5_joined 109 = .ok (.iconst 0, 1) := by decide +kernel
theorem dX5_joined_110 : decode cX5_joined 110 = .ok (.goto 6, 3) := by decide +kernel
theorem dX5_joined_113 : decode cX5_joined 113 = .ok (.iload_n 1, 1) := by decide +kernel
theorem dX5_joined_114 : decode cX5_joined 114 = .ok (.iload_n 2, 1) := by decide +kernel
theorem dX5_joined_115 : decode cX5_joined 115 = .ok (.idiv, 1) := by decide +kernel
theorem dX5_joined_116 : decode cX5_joined 116 = .ok (.ireturn, 1) := by decide +kernel
theorem dX6_init_0 : decode cX6_init 0 = .ok (.aload_n 0, 1) := by decide +kernel
theorem dX6_init_1 : decode cX6_init 1 = .ok (.invokespecial 3, 3) := by decide +kernel
theorem dX6_init_4 : decode cX6_init 4 = .ok (.aload_n 0, 1) := by decide +kernel
theorem dX6_init_5 : decode cX6_init 5 = .ok (.new 9, 3) := by decide +kernel
theorem dX6_init_8 : decode cX6_init 8 = .ok (.dup, 1) := by decide +kernel
theorem dX6_init_9 : decode cX6_init 9 = .ok (.invokespecial 11, 3) := by decide +kernel
theorem dX6_init_12 : decode cX6_init 12 = .ok (.putfield 12, 3) := by decide +kernel
theorem dX6_init_15 : decode cX6_init 15 = .ok (.aload_n 0, 1) := by decide +kernel
theorem dX6_init_16 : decode cX6_init 16 = .ok (.bipush 8, 2) := by decide +kernel
theorem dX6_init_18 : decode cX6_init 18 = .ok (.newarray .int, 2) := by decide +kernel
theorem dX6_init_20 : decode cX6_init 20 = .ok (.putfield 18, 3) := by decide +kernel
theorem dX6_init_23 : decode cX6_init 23 = .ok (.aload_n 0, 1) := by decide +kernel
theorem dX6_init_24 : decode cX6_init 24 = .ok (.sipush 3000, 3) := by decide +kernel
theorem dX6_init_27 : decode cX6_init 27 = .ok (.newarray .int, 2) := by decide +kernel
theorem dX6_init_29 : decode cX6_init 29 = .ok (.putfield 24, 3) := by decide +kernel
theorem dX6_init_32 : decode cX6_init 32 = .ok (.aload_n 0, 1) := by decide +kernel
theorem dX6_init_33 : decode cX6_init 33 = .ok (.sipush 3000, 3) := by decide +kernel
theorem dX6_init_36 : decode cX6_init 36 = .ok (.newarray .int, 2) := by decide +kernel
theorem dX6_init_38 : decode cX6_init 38 = .ok (.putfield 27, 3) := by decide +kernel
theorem dX6_init_41 : decode cX6_init 41 = .ok (.aload_n 0, 1) := by decide +kernel
theorem dX6_init_42 : decode cX6_init 42 = .ok (.sipush 3000, 3) := by decide +kernel
theorem dX6_init_45 : decode cX6_init 45 = .ok (.newarray .int, 2) := by decide +kernel
theorem dX6_init_47 : decode cX6_init 47 = .ok (.putfield 30, 3) := by decide +kernel
theorem dX6_init_50 : decode cX6_init 50 = .ok (.aload_n 0, 1) := by decide +kernel
theorem dX6_init_51 : decode cX6_init 51 = .ok (.iconst 0, 1) := by decide +kernel
theorem dX6_init_52 : decode cX6_init 52 = .ok (.putfield 33, 3) := by decide +kernel
theorem dX6_init_55 : decode cX6_init 55 = .ok (.aload_n 0, 1) := by decide +kernel
theorem dX6_init_56 : decode cX6_init 56 = .ok (.aload_n 1, 1) := by decide +kernel
theorem dX6_init_57 : decode cX6_init 57 = .ok (.putfield 37, 3) := by decide +kernel
theorem dX6_init_60 : decode cX6_init 60 = .ok (.return_, 1) := by decide +kernel
theorem dX6_explore_0 : decode cX6_explore 0 = .ok (.aload_n 0, 1) := by decide +kernel
theorem dX6_explore_1 : decode cX6_explore 1 = .ok (.getfield 12, 3) := by decide +kernel
theorem dX6_explore_4 : decode cX6_explore 4 = .ok (.aload_n 2, 1) := by decide +kernel
theorem dX6_explore_5 : decode cX6_explore 5 = .ok (.invokevirtual 41, 3) := by decide +kernel
theorem dX6_explore_8 : decode cX6_explore 8 = .ok (.aload_n 0, 1) := by decide +kernel
theorem dX6_explore_9 : decode cX6_explore 9 = .ok (.getfield 37, 3) := by decide +kernel
theorem dX6_explore_12 : decode cX6_explore 12 = .ok (.invokevirtual 45, 3) := by decide +kernel
theorem dX6_explore_15 : decode cX6_explore 15 = .ok (.aload_n 0, 1) := by decide +kernel
theorem dX6_explore_16 : decode cX6_explore 16 = .ok (.getfield 37, 3) := by decide +kernel
theorem dX6_explore_19 : decode cX6_explore 19 = .ok (.aload_n 0, 1) := by decide +kernel
theorem dX6_explore_20 : decode cX6_explore 20 = .ok (.getfield 12, 3) := by decide +kernel
theorem dX6_explore_23 : decode cX6_explore 23 = .ok (.invokevirtual 48, 3) := by decide +kernel
theorem dX6_explore_26 : decode cX6_explore 26 = .ok (.pop, 1) := by decide +kernel
theorem dX6_explore_27 : decode cX6_explore 27 = .ok (.aload_n 0, 1) := by decide +kernel
theorem dX6_explore_28 : decode cX6_explore 28 = .ok (.getfield 24, 3) := by decide +kernel
theorem dX6_explore_31 : decode cX6_explore 31 = .ok (.iconst 0, 1) := by decide +kernel
theorem dX6_explore_32 : decode cX6_explore 32 = .ok (.iconst (-1), 1) := by decide +kernel
theorem dX6_explore_33 : decode cX6_explore 33 = .ok (.iastore, 1) := by decide +kernel
theorem dX6_explore_34 : decode cX6_explore 34 = .ok (.aload_n 0, 1) := by decide +kernel
theorem dX6_explore_35 : decode cX6_explore 35 = .ok (.getfield 27, 3) := by decide +kernel
theorem dX6_explore_38 : decode cX6_explore 38 = .ok (.iconst 0, 1) := by decide +kernel
theorem dX6_explore_39 : decode cX6_explore 39 = .ok (.iconst (-1), 1) := by decide +kernel
theorem dX6_explore_40 : decode cX6_explore 40 = .ok (.iastore, 1) := by decide +kernel
theorem dX6_explore_41 : decode cX6_explore 41 = .ok (.aload_n 0, 1) := by decide +kernel
theorem dX6_explore_42 : decode cX6_explore 42 = .ok (.getfield 30, 3) := by decide +kernel
theorem dX6_explore_45 : decode cX6_explore 45 = .ok (.iconst 0, 1) := by decide +kernel
theorem dX6_explore_46 : decode cX6_explore 46 = .ok (.iconst 0, 1) := by decide +kernel
theorem dX6_explore_47 : decode cX6_explore 47 = .ok (.iastore, 1) := by decide +kernel
theorem dX6_explore_48 : decode cX6_explore 48 = .ok (.iconst 0, 1) := by decide +kernel
theorem dX6_explore_49 : decode cX6_explore 49 = .ok (.istore 4, 2) := by decide +kernel
theorem dX6_explore_51 : decode cX6_explore 51 = .ok (.iload 4, 2) := by decide +kernel
theorem dX6_explore_53 : decode cX6_explore 53 = .ok (.sipush 3000, 3) := by decide +kernel
theorem dX6_explore_56 : decode cX6_explore 56 = .ok (.if_icmp .ge 46, 3) := by decide +kernel
theorem dX6_explore_59 : decode cX6_explore 59 = .ok (.iload 4, 2) := by decide +kernel
theorem dX6_explore_61 : decode cX6_explore 61 = .ok (.aload_n 0, 1) := by decide +kernel
theorem dX6_explore_62 : decode cX6_explore 62 = .ok (.getfield 37, 3) := by decide +kernel
theorem dX6_explore_65 : decode cX6_explore 65 = .ok (.getfield 52, 3) := by decide +kernel
theorem dX6_explore_68 : decode cX6_explore 68 = .ok (.if_icmp .ge 34, 3) := by decide +kernel
theorem dX6_explore_71 : decode cX6_explore 71 = .ok (.aload_n 0, 1) := by decide +kernel
theorem dX6_explore_72 : decode cX6_explore 72 = .ok (.getfield 30, 3) := by decide +kernel
theorem dX6_explore_75 : decode cX6_explore 75 = .ok (.iload 4, 2) := by decide +kernel
theorem dX6_explore_77 : decode cX6_explore 77 = .ok (.iaload, 1) := by decide +kernel
theorem dX6_explore_78 : decode cX6_explore 78 = .ok (.iload_n 3, 1) := by decide +kernel
theorem dX6_explore_79 : decode cX6_explore 79 = .ok (.if_icmp .lt 5, 3) := by decide +kernel
theorem dX6_explore_82 : decode cX6_explore 82 = .ok (.iconst 1, 1) := by decide +kernel
theorem dX6_explore_83 : decode cX6_explore 83 = .ok (.ireturn, 1) := by decide +kernel
theorem dX6_explore_84 : decode cX6_explore 84 = .ok (.aload_n 0, 1) := by decide +kernel
theorem dX6_explore_85 : decode cX6_explore 85 = .ok (.aload_n 1, 1) := by decide +kernel
theorem dX6_explore_86 : decode cX6_explore 86 = .ok (.iload 4, 2) := by decide +kernel
theorem dX6_explore_88 : decode cX6_explore 88 = .ok (.invokevirtual 55, 3) := by decide +kernel
theorem dX6_explore_91 : decode cX6_explore 91 = .ok (.ifCond .ne 5, 3) := by decide +kernel
theorem dX6_explore_94 : decode cX6_explore 94 = .ok (.iconst 0, 1) := by decide +kernel
theorem dX6_explore_95 : decode cX6_explore 95 = .ok (.ireturn, 1) := by decide +kernel
theorem dX6_explore_96 : decode cX6_explore 96 = .ok (.iinc 4 1, 3) := by decide +kernel
theorem dX6_explore_99 : decode cX6_explore 99 = .ok (.goto (-48), 3) := by decide +kernel
theorem dX6_explore_102 : decode cX6_explore 102 = .ok (.iconst 1, 1) := by decide +kernel
theorem dX6_explore_103 : decode cX6_explore 103 = .ok (.ireturn, 1) := by decide +kernel
theorem dX6_expand_0 : decode cX6_expand 0 = .ok (.aload_n 0, 1) := by decide +kernel
theorem dX6_expand_1 : decode cX6_expand 1 = .ok (.aload_n 1, 1) := by decide +kernel
theorem dX6_expand_2 : decode cX6_expand 2 = .ok (.iload_n 2, 1) := by decide +kernel
theorem dX6_expand_3 : decode cX6_expand 3 = .ok (.invokevirtual 59, 3) := by decide +kernel
theorem dX6_expand_6 : decode cX6_expand 6 = .ok (.iconst 0, 1) := by decide +kernel
theorem dX6_expand_7 : decode cX6_expand 7 = .ok (.istore_n 3, 1) := by decide +kernel
theorem dX6_expand_8 : decode cX6_expand 8 = .ok (.iload_n 3, 1) := by decide +kernel
theorem dX6_expand_9 : decode cX6_expand 9 = .ok (.aload_n 1, 1) := by decide +kernel
theorem dX6_expand_10 : decode cX6_expand 10 = .ok (.getfield 63, 3) := by decide +kernel
theorem dX6_expand_13 : decode cX6_expand 13 = .ok (.if_icmp .ge 24, 3) := by decide +kernel
theorem dX6_expand_16 : decode cX6_expand 16 = .ok (.aload_n 0, 1) := by decide +kernel
theorem dX6_expand_17 : decode cX6_expand 17 = .ok (.getfield 18, 3) := by decide +kernel
theorem dX6_expand_20 : decode cX6_expand 20 = .ok (.iload_n 3, 1) := by decide +kernel
theorem dX6_expand_21 : decode cX6_expand 21 = .ok (.aload_n 1, 1) := by decide +kernel
theorem dX6_expand_22 : decode cX6_expand 22 = .ok (.aload_n 0, 1) := by decide +kernel
theorem dX6_expand_23 : decode cX6_expand 23 = .ok (.getfield 12, 3) := by decide +kernel
theorem dX6_expand_26 : decode cX6_expand 26 = .ok (.iload_n 3, 1) := by decide +kernel
theorem dX6_expand_27 : decode cX6_expand 27 = .ok (.invokevirtual 68, 3) := by decide +kernel
theorem dX6_expand_30 : decode cX6_expand 30 = .ok (.iastore, 1) := by decide +kernel
theorem dX6_expand_31 : decode cX6_expand 31 = .ok (.iinc 3 1, 3) := by decide +kernel
theorem dX6_expand_34 : decode cX6_expand 34 = .ok (.goto (-26), 3) := by decide +kernel
theorem dX6_expand_37 : decode cX6_expand 37 = .ok (.iconst 0, 1) := by decide +kernel
theorem dX6_expand_38 : decode cX6_expand 38 = .ok (.istore_n 3, 1) := by decide +kernel
theorem dX6_expand_39 : decode cX6_expand 39 = .ok (.iload_n 3, 1) := by decide +kernel
theorem dX6_expand_40 : decode cX6_expand 40 = .ok (.iconst 3, 1) := by decide +kernel
theorem dX6_expand_41 : decode cX6_expand 41 = .ok (.if_icmp .ge 64, 3) := by decide +kernel
theorem dX6_expand_44 : decode cX6_expand 44 = .ok (.iconst 0, 1) := by decide +kernel
theorem dX6_expand_45 : decode cX6_expand 45 = .ok (.istore 4, 2) := by decide +kernel
theorem dX6_expand_47 : decode cX6_expand 47 = .ok (.iload 4, 2) := by decide +kernel
theorem dX6_expand_49 : decode cX6_expand 49 = .ok (.aload_n 1, 1) := by decide +kernel
theorem dX6_expand_50 : decode cX6_expand 50 = .ok (.getfield 63, 3) := by decide +kernel
theorem dX6_expand_53 : decode cX6_expand 53 = .ok (.if_icmp .ge 46, 3) := by decide +kernel
theorem dX6_expand_56 : decode cX6_expand 56 = .ok (.iload 4, 2) := by decide +kernel
theorem dX6_expand_58 : decode cX6_expand 58 = .ok (.iconst 1, 1) := by decide +kernel
theorem dX6_expand_59 : decode cX6_expand 59 = .ok (.iadd, 1) := by decide +kernel
theorem dX6_expand_60 : decode cX6_expand 60 = .ok (.istore 5, 2) := by decide +kernel
theorem dX6_expand_62 : decode cX6_expand 62 = .ok (.iload 5, 2) := by decide +kernel
theorem dX6_expand_64 : decode cX6_expand 64 = .ok (.aload_n 1, 1) := by decide +kernel
theorem dX6_expand_65 : decode cX6_expand 65 = .ok (.getfield 63, 3) := by decide +kernel
theorem dX6_expand_68 : decode cX6_expand 68 = .ok (.if_icmp .ge 25, 3) := by decide +kernel
theorem dX6_expand_71 : decode cX6_expand 71 = .ok (.aload_n 0, 1) := by decide +kernel
theorem dX6_expand_72 : decode cX6_expand 72 = .ok (.aload_n 1, 1) := by decide +kernel
theorem dX6_expand_73 : decode cX6_expand 73 = .ok (.iload_n 2, 1) := by decide +kernel
theorem dX6_expand_74 : decode cX6_expand 74 = .ok (.iload_n 3, 1) := by decide +kernel
theorem dX6_expand_75 : decode cX6_expand 75 = .ok (.iload 4, 2) := by decide +kernel
theorem dX6_expand_77 : decode cX6_expand 77 = .ok (.iload 5, 2) := by decide +kernel
theorem dX6_expand_79 : decode cX6_expand 79 = .ok (.invokevirtual 72, 3) := by decide +kernel
theorem dX6_expand_82 : decode cX6_expand 82 = .ok (.ifCond .ne 5, 3) := by decide +kernel
theorem dX6_expand_85 : decode cX6_expand 85 = .ok (.iconst 0, 1) := by decide +kernel
theorem dX6_expand_86 : decode cX6_expand 86 = .ok (.ireturn, 1) := by decide +kernel
theorem dX6_expand_87 : decode cX6_expand 87 = .ok (.iinc 5 1, 3) := by decide +kernel
theorem dX6_expand_90 : decode cX6_expand 90 = .ok (.goto (-28), 3) := by decide +kernel
theorem dX6_expand_93 : decode cX6_expand 93 = .ok (.iinc 4 1, 3) := by decide +kernel
theorem dX6_expand_96 : decode cX6_expand 96 = .ok (.goto (-49), 3) := by decide +kernel
theorem dX6_expand_99 : decode cX6_expand 99 = .ok (.iinc 3 1, 3) := by decide +kernel
theorem dX6_expand_102 : decode cX6_expand 102 = .ok (.goto (-63), 3) := by decide +kernel
theorem dX6_expand_105 : decode cX6_expand 105 = .ok (.iconst 1, 1) := by decide +kernel
theorem dX6_expand_106 : decode cX6_expand 106 = .ok (.ireturn, 1) := by decide +kernel
theorem dX6_step_0 : decode cX6_step 0 = .ok (.aload_n 1, 1) := by decide +kernel
theorem dX6_step_1 : decode cX6_step 1 = .ok (.aload_n 0, 1) := by decide +kernel
theorem dX6_step_2 : decode cX6_step 2 = .ok (.getfield 18, 3) := by decide +kernel
theorem dX6_step_5 : decode cX6_step 5 = .ok (.iload 4, 2) := by decide +kernel
theorem dX6_step_7 : decode cX6_step 7 = .ok (.iaload, 1) := by decide +kernel
theorem dX6_step_8 : decode cX6_step 8 = .ok (.aload_n 0, 1) := by decide +kernel
theorem dX6_step_9 : decode cX6_step 9 = .ok (.getfield 18, 3) := by decide +kernel
theorem dX6_step_12 : decode cX6_step 12 = .ok (.iload 5, 2) := by decide +kernel
theorem dX6_step_14 : decode cX6_step 14 = .ok (.iaload, 1) := by decide +kernel
theorem dX6_step_15 : decode cX6_step 15 = .ok (.isub, 1) := by decide +kernel
theorem dX6_step_16 : decode cX6_step 16 = .ok (.invokevirtual 76, 3) := by decide +kernel
theorem dX6_step_19 : decode cX6_step 19 = .ok (.istore 6, 2) := by decide +kernel
theorem dX6_step_21 : decode cX6_step 21 = .ok (.iload_n 3, 1) := by decide +kernel
theorem dX6_step_22 : decode cX6_step 22 = .ok (.ifCond .ne 8, 3) := by decide +kernel
theorem dX6_step_25 : decode cX6_step 25 = .ok (.iload 6, 2) := by decide +kernel
theorem dX6_step_27 : decode cX6_step 27 = .ok (.goto 13, 3) := by decide +kernel
theorem dX6_step_30 : decode cX6_step 30 = .ok (.iload_n 3, 1) := by decide +kernel
theorem dX6_step_31 : decode cX6_step 31 = .ok (.iconst 1, 1) := by decide +kernel
theorem dX6_step_32 : decode cX6_step 32 = .ok (.if_icmp .ne 7, 3) := by decide +kernel
theorem dX6_step_35 : decode cX6_step 35 = .ok (.iconst 1, 1) := by decide +kernel
theorem dX6_step_36 : decode cX6_step 36 = .ok (.goto 4, 3) := by decide +kernel
theorem dX6_step_39 : decode cX6_step 39 = .ok (.iconst 0, 1) := by decide +kernel
theorem dX6_step_40 : decode cX6_step 40 = .ok (.istore 7, 2) := by decide +kernel
theorem dX6_step_42 : decode cX6_step 42 = .ok (.iload 7, 2) := by decide +kernel
theorem dX6_step_44 : decode cX6_step 44 = .ok (.iconst 2, 1) := by decide +kernel
theorem dX6_step_45 : decode cX6_step 45 = .ok (.if_icmp .eq 14, 3) := by decide +kernel
theorem dX6_step_48 : decode cX6_step 48 = .ok (.iload_n 3, 1) := by decide +kernel
theorem dX6_step_49 : decode cX6_step 49 = .ok (.ifCond .eq 12, 3) := by decide +kernel
theorem dX6_step_52 : decode cX6_step 52 = .ok (.iload 7, 2) := by decide +kernel
theorem dX6_step_54 : decode cX6_step 54 = .ok (.iload 6, 2) := by decide +kernel
theorem dX6_step_56 : decode cX6_step 56 = .ok (.if_icmp .ne 5, 3) := by decide +kernel
theorem dX6_step_59 : decode cX6_step 59 = .ok (.iconst 1, 1) := by decide +kernel
theorem dX6_step_60 : decode cX6_step 60 = .ok (.ireturn, 1) := by decide +kernel
theorem dX6_step_61 : decode cX6_step 61 = .ok (.aload_n 1, 1) := by decide +kernel
theorem dX6_step_62 : decode cX6_step 62 = .ok (.aload_n 0, 1) := by decide +kernel
theorem dX6_step_63 : decode cX6_step 63 = .ok (.getfield 12, 3) := by decide +kernel
theorem dX6_step_66 : decode cX6_step 66 = .ok (.iload 4, 2) := by decide +kernel
theorem dX6_step_68 : decode cX6_step 68 = .ok (.iload 5, 2) := by decide +kernel
theorem dX6_step_70 : decode cX6_step 70 = .ok (.iload 7, 2) := by decide +kernel
theorem dX6_step_72 : decode cX6_step 72 = .ok (.iconst 0, 1) := by decide +kernel
theorem dX6_step_73 : decode cX6_step 73 = .ok (.invokevirtual 80, 3) := by decide +kernel
theorem dX6_step_76 : decode cX6_step 76 = .ok (.aload_n 1, 1) := by decide +kernel
theorem dX6_step_77 : decode cX6_step 77 = .ok (.getfield 84, 3) := by decide +kernel
theorem dX6_step_80 : decode cX6_step 80 = .ok (.iconst (-1), 1) := by decide +kernel
theorem dX6_step_81 : decode cX6_step 81 = .ok (.if_icmp .ne 5, 3) := by decide +kernel
theorem dX6_step_84 : decode cX6_step 84 = .ok (.iconst 1, 1) := by decide +kernel
theorem dX6_step_85 : decode cX6_step 85 = .ok (.ireturn, 1) := by decide +kernel
theorem dX6_step_86 : decode cX6_step 86 = .ok (.aload_n 0, 1) := by decide +kernel
theorem dX6_step_87 : decode cX6_step 87 = .ok (.getfield 37, 3) := by decide +kernel
theorem dX6_step_90 : decode cX6_step 90 = .ok (.aload_n 0, 1) := by decide +kernel
theorem dX6_step_91 : decode cX6_step 91 = .ok (.iload_n 2, 1) := by decide +kernel
theorem dX6_step_92 : decode cX6_step 92 = .ok (.iload 4, 2) := by decide +kernel
theorem dX6_step_94 : decode cX6_step 94 = .ok (.iload 5, 2) := by decide +kernel
theorem dX6_step_96 : decode cX6_step 96 = .ok (.iconst 0, 1) := by decide +kernel
theorem dX6_step_97 : decode cX6_step 97 = .ok (.invokevirtual 87, 3) := by decide +kernel
theorem dX6_step_100 : decode cX6_step 100 = .ok (.aload_n 0, 1) := by decide +kernel
theorem dX6_step_101 : decode cX6_step 101 = .ok (.iload_n 2, 1) := by decide +kernel
theorem dX6_step_102 : decode cX6_step 102 = .ok (.iload 4, 2) := by decide +kernel
theorem dX6_step_104 : decode cX6_step 104 = .ok (.iload 5, 2) := by decide +kernel
theorem dX6_step_106 : decode cX6_step 106 = .ok (.iconst 1, 1) := by decide +kernel
theorem dX6_step_107 : decode cX6_step 107 = .ok (.invokevirtual 87, 3) := by decide +kernel
theorem dX6_step_110 : decode cX6_step 110 = .ok (.invokevirtual 91, 3) := by decide +kernel
theorem dX6_step_113 : decode cX6_step 113 = .ok (.istore 8, 2) := by decide +kernel
theorem dX6_step_115 : decode cX6_step 115 = .ok (.aload_n 0, 1) := by decide +kernel
theorem dX6_step_116 : decode cX6_step 116 = .ok (.getfield 37, 3) := by decide +kernel
theorem dX6_step_119 : decode cX6_step 119 = .ok (.iload_n 2, 1) := by decide +kernel
theorem dX6_step_120 : decode cX6_step 120 = .ok (.iload 4, 2) := by decide +kernel
theorem dX6_step_122 : decode cX6_step 122 = .ok (.aload_n 0, 1) := by decide +kernel
theorem dX6_step_123 : decode cX6_step 123 = .ok (.getfield 12, 3) := by decide +kernel
theorem dX6_step_126 : decode cX6_step 126 = .ok (.invokevirtual 95, 3) := by decide +kernel
theorem dX6_step_129 : decode cX6_step 129 = .ok (.aload_n 0, 1) := by decide +kernel
theorem dX6_step_130 : decode cX6_step 130 = .ok (.getfield 37, 3) := by decide +kernel
theorem dX6_step_133 : decode cX6_step 133 = .ok (.iload_n 2, 1) := by decide +kernel
theorem dX6_step_134 : decode cX6_step 134 = .ok (.iload 5, 2) := by decide +kernel
theorem dX6_step_136 : decode cX6_step 136 = .ok (.aload_n 0, 1) := by decide +kernel
theorem dX6_step_137 : decode cX6_step 137 = .ok (.getfield 12, 3) := by decide +kernel
theorem dX6_step_140 : decode cX6_step 140 = .ok (.invokevirtual 95, 3) := by decide +kernel
theorem dX6_step_143 : decode cX6_step 143 = .ok (.iload 8, 2) := by decide +kernel
theorem dX6_step_145 : decode cX6_step 145 = .ok (.iconst (-1), 1) := by decide +kernel
theorem dX6_step_146 : decode cX6_step 146 = .ok (.if_icmp .ne 5, 3) := by decide +kernel
theorem dX6_step_149 : decode cX6_step 149 = .ok (.iconst 0, 1) := by decide +kernel
theorem dX6_step_150 : decode cX6_step 150 = .ok (.ireturn, 1) := by decide +kernel
theorem dX6_step_151 : decode cX6_step 151 = .ok (.aload_n 0, 1) := by decide +kernel
theorem dX6_step_152 : decode cX6_step 152 = .ok (.getfield 37, 3) := by decide +kernel
theorem dX6_step_155 : decode cX6_step 155 = .ok (.getfield 99, 3) := by decide +kernel
theorem dX6_step_158 : decode cX6_step 158 = .ok (.ifCond .eq 46, 3) := by decide +kernel
theorem dX6_step_161 : decode cX6_step 161 = .ok (.aload_n 0, 1) := by decide +kernel
theorem dX6_step_162 : decode cX6_step 162 = .ok (.getfield 24, 3) := by decide +kernel
theorem dX6_step_165 : decode cX6_step 165 = .ok (.iload 8, 2) := by decide +kernel
theorem dX6_step_167 : decode cX6_step 167 = .ok (.iload_n 2, 1) := by decide +kernel
theorem dX6_step_168 : decode cX6_step 168 = .ok (.iastore, 1) := by decide +kernel
theorem dX6_step_169 : decode cX6_step 169 = .ok (.aload_n 0, 1) := by decide +kernel
theorem dX6_step_170 : decode cX6_step 170 = .ok (.getfield 27, 3) := by decide +kernel
theorem dX6_step_173 : decode cX6_step 173 = .ok (.iload 8, 2) := by decide +kernel
theorem dX6_step_175 : decode cX6_step 175 = .ok (.bipush 100, 2) := by decide +kernel
theorem dX6_step_177 : decode cX6_step 177 = .ok (.iload_n 3, 1) := by decide +kernel
theorem dX6_step_178 : decode cX6_step 178 = .ok (.imul, 1) := by decide +kernel
theorem dX6_step_179 : decode cX6_step 179 = .ok (.bipush 10, 2) := by decide +kernel
theorem dX6_step_181 : decode cX6_step 181 = .ok (.iload 4, 2) := by decide +kernel
theorem dX6_step_183 : decode cX6_step 183 = .ok (.imul, 1) := by decide +kernel
theorem dX6_step_184 : decode cX6_step 184 = .ok (.iadd, 1) := by decide +kernel
theorem dX6_step_185 : decode cX6_step 185 = .ok (.iload 5, 2) := by decide +kernel
theorem dX6_step_187 : decode cX6_step 187 = .ok (.iadd, 1) := by decide +kernel
theorem dX6_step_188 : decode cX6_step 188 = .ok (.iastore, 1) := by decide +kernel
theorem dX6_step_189 : decode cX6_step 189 = .ok (.aload_n 0, 1) := by decide +kernel
theorem dX6_step_190 : decode cX6_step 190 = .ok (.getfield 30, 3) := by decide +kernel
theorem dX6_step_193 : decode cX6_step 193 = .ok (.iload 8, 2) := by decide +kernel
theorem dX6_step_195 : decode cX6_step 195 = .ok (.aload_n 0, 1) := by decide +kernel
theorem dX6_step_196 : decode cX6_step 196 = .ok (.getfield 30, 3) := by decide +kernel
theorem dX6_step_199 : decode cX6_step 199 = .ok (.iload_n 2, 1) := by decide +kernel
theorem dX6_step_200 : decode cX6_step 200 = .ok (.iaload, 1) := by decide +kernel
theorem dX6_step_201 : decode cX6_step 201 = .ok (.iconst 1, 1) := by decide +kernel
theorem dX6_step_202 : decode cX6_step 202 = .ok (.iadd, 1) := by decide +kernel
theorem dX6_step_203 : decode cX6_step 203 = .ok (.iastore, 1) := by decide +kernel
theorem dX6_step_204 : decode cX6_step 204 = .ok (.iconst 1, 1) := by decide +kernel
theorem dX6_step_205 : decode cX6_step 205 = .ok (.ireturn, 1) := by decide +kernel
theorem dX6_halfAfter_0 : decode cX6_halfAfter 0 = .ok (.iload 4, 2) := by decide +kernel
theorem dX6_halfAfter_2 : decode cX6_halfAfter 2 = .ok (.ifCond .eq 15, 3) := by decide +kernel
theorem dX6_halfAfter_5 : decode cX6_halfAfter 5 = .ok (.aload_n 0, 1) := by decide +kernel
theorem dX6_halfAfter_6 : decode cX6_halfAfter 6 = .ok (.getfield 37, 3) := by decide +kernel
theorem dX6_halfAfter_9 : decode cX6_halfAfter 9 = .ok (.getfield 103, 3) := by decide +kernel
theorem dX6_halfAfter_12 : decode cX6_halfAfter 12 = .ok (.iload_n 1, 1) := by decide +kernel
theorem dX6_halfAfter_13 : decode cX6_halfAfter 13 = .ok (.laload, 1) := by decide +kernel
theorem dX6_halfAfter_14 : decode cX6_halfAfter 14 = .ok (.goto 12, 3) := by decide +kernel
theorem dX6_halfAfter_17 : decode cX6_halfAfter 17 = .ok (.aload_n 0, 1) := by decide +kernel
theorem dX6_halfAfter_18 : decode cX6_halfAfter 18 = .ok (.getfield 37, 3) := by decide +kernel
theorem dX6_halfAfter_21 : decode cX6_halfAfter 21 = .ok (.getfield 107, 3) := by decide +kernel
theorem dX6_halfAfter_24 : decode cX6_halfAfter 24 = .ok (.iload_n 1, 1) := by decide +kernel
theorem dX6_halfAfter_25 : decode cX6_halfAfter 25 = .ok (.laload, 1) := by decide +kernel
theorem dX6_halfAfter_26 : decode cX6_halfAfter 26 = .ok (.lstore 5, 2) := by decide +kernel
theorem dX6_halfAfter_28 : decode cX6_halfAfter 28 = .ok (.iload_n 2, 1) := by decide +kernel
theorem dX6_halfAfter_29 : decode cX6_halfAfter 29 = .ok (.iconst 4, 1) := by decide +kernel
theorem dX6_halfAfter_30 : decode cX6_halfAfter 30 = .ok (.if_icmp .lt 7, 3) := by decide +kernel
theorem dX6_halfAfter_33 : decode cX6_halfAfter 33 = .ok (.iconst 1, 1) := by decide +kernel
theorem dX6_halfAfter_34 : decode cX6_halfAfter 34 = .ok (.goto 4, 3) := by decide +kernel
theorem dX6_halfAfter_37 : decode cX6_halfAfter 37 = .ok (.iconst 0, 1) := by decide +kernel
theorem dX6_halfAfter_38 : decode cX6_halfAfter 38 = .ok (.iload 4, 2) := by decide +kernel
theorem dX6_halfAfter_40 : decode cX6_halfAfter 40 = .ok (.if_icmp .ne 20, 3) := by decide +kernel
theorem dX6_halfAfter_43 : decode cX6_halfAfter 43 = .ok (.lload 5, 2) := by decide +kernel
theorem dX6_halfAfter_45 : decode cX6_halfAfter 45 = .ok (.iload_n 2, 1) := by decide +kernel
theorem dX6_halfAfter_46 : decode cX6_halfAfter 46 = .ok (.invokestatic 110, 3) := by decide +kernel
theorem dX6_halfAfter_49 : decode cX6_halfAfter 49 = .ok (.aload_n 0, 1) := by decide +kernel
theorem dX6_halfAfter_50 : decode cX6_halfAfter 50 = .ok (.getfield 12, 3) := by decide +kernel
theorem dX6_halfAfter_53 : decode cX6_halfAfter 53 = .ok (.iload_n 2, 1) := by decide +kernel
theorem dX6_halfAfter_54 : decode cX6_halfAfter 54 = .ok (.invokestatic 114, 3) := by decide +kernel
theorem dX6_halfAfter_57 : decode cX6_halfAfter 57 = .ok (.lor, 1) := by decide +kernel
theorem dX6_halfAfter_58 : decode cX6_halfAfter 58 = .ok (.lstore 5, 2) := by decide +kernel
theorem dX6_halfAfter_60 : decode cX6_halfAfter 60 = .ok (.iload_n 3, 1) := by decide +kernel
theorem dX6_halfAfter_61 : decode cX6_halfAfter 61 = .ok (.iconst 4, 1) := by decide +kernel
theorem dX6_halfAfter_62 : decode cX6_halfAfter 62 = .ok (.if_icmp .lt 7, 3) := by decide +kernel
theorem dX6_halfAfter_65 : decode cX6_halfAfter 65 = .ok (.iconst 1, 1) := by decide +kernel
theorem dX6_halfAfter_66 : decode cX6_halfAfter 66 = .ok (.goto 4, 3) := by decide +kernel
theorem dX6_halfAfter_69 : decode cX6_halfAfter 69 = .ok (.iconst 0, 1) := by decide +kernel
theorem dX6_halfAfter_70 : decode cX6_halfAfter 70 = .ok (.iload 4, 2) := by decide +kernel
theorem dX6_halfAfter_72 : decode cX6_halfAfter 72 = .ok (.if_icmp .ne 20, 3) := by decide +kernel
theorem dX6_halfAfter_75 : decode cX6_halfAfter 75 = .ok (.lload 5, 2) := by decide +kernel
theorem dX6_halfAfter_77 : decode cX6_halfAfter 77 = .ok (.iload_n 3, 1) := by decide +kernel
theorem dX6_halfAfter_78 : decode cX6_halfAfter 78 = .ok (.invokestatic 110, 3) := by decide +kernel
theorem dX6_halfAfter_81 : decode cX6_halfAfter 81 = .ok (.aload_n 0, 1) := by decide +kernel
theorem dX6_halfAfter_82 : decode cX6_halfAfter 82 = .ok (.getfield 12, 3) := by decide +kernel
theorem dX6_halfAfter_85 : decode cX6_halfAfter 85 = .ok (.iload_n 3, 1) := by decide +kernel
theorem dX6_halfAfter_86 : decode cX6_halfAfter 86 = .ok (.invokestatic 114, 3) := by decide +kernel
theorem dX6_halfAfter_89 : decode cX6_halfAfter 89 = .ok (.lor, 1) := by decide +kernel
theorem dX6_halfAfter_90 : decode cX6_halfAfter 90 = .ok (.lstore 5, 2) := by decide +kernel
theorem dX6_halfAfter_92 : decode cX6_halfAfter 92 = .ok (.lload 5, 2) := by decide +kernel
theorem dX6_halfAfter_94 : decode cX6_halfAfter 94 = .ok (.lreturn, 1) := by decide +kernel
theorem dX6_unpackAll_0 : decode cX6_unpackAll 0 = .ok (.iconst 0, 1) := by decide +kernel
theorem dX6_unpackAll_1 : decode cX6_unpackAll 1 = .ok (.istore_n 3, 1) := by decide +kernel
theorem dX6_unpackAll_2 : decode cX6_unpackAll 2 = .ok (.iload_n 3, 1) := by decide +kernel
theorem dX6_unpackAll_3 : decode cX6_unpackAll 3 = .ok (.aload_n 1, 1) := by decide +kernel
theorem dX6_unpackAll_4 : decode cX6_unpackAll 4 = .ok (.getfield 63, 3) := by decide +kernel
theorem dX6_unpackAll_7 : decode cX6_unpackAll 7 = .ok (.if_icmp .ge 22, 3) := by decide +kernel
theorem dX6_unpackAll_10 : decode cX6_unpackAll 10 = .ok (.aload_n 0, 1) := by decide +kernel
theorem dX6_unpackAll_11 : decode cX6_unpackAll 11 = .ok (.getfield 37, 3) := by decide +kernel
theorem dX6_unpackAll_14 : decode cX6_unpackAll 14 = .ok (.iload_n 2, 1) := by decide +kernel
theorem dX6_unpackAll_15 : decode cX6_unpackAll 15 = .ok (.iload_n 3, 1) := by decide +kernel
theorem dX6_unpackAll_16 : decode cX6_unpackAll 16 = .ok (.aload_n 0, 1) := by decide +kernel
theorem dX6_unpackAll_17 : decode cX6_unpackAll 17 = .ok (.getfield 12, 3) := by decide +kernel
theorem dX6_unpackAll_20 : decode cX6_unpackAll 20 = .ok (.invokevirtual 95, 3) := by decide +kernel
theorem dX6_unpackAll_23 : decode cX6_unpackAll 23 = .ok (.iinc 3 1, 3) := by decide +kernel
theorem dX6_unpackAll_26 : decode cX6_unpackAll 26 = .ok (.goto (-24), 3) := by decide +kernel
theorem dX6_unpackAll_29 : decode cX6_unpackAll 29 = .ok (.return_, 1) := by decide +kernel
theorem dX6_fillWay_0 : decode cX6_fillWay 0 = .ok (.iload_n 1, 1) := by decide +kernel
theorem dX6_fillWay_1 : decode cX6_fillWay 1 = .ok (.istore_n 3, 1) := by decide +kernel
theorem dX6_fillWay_2 : decode cX6_fillWay 2 = .ok (.aload_n 0, 1) := by decide +kernel
theorem dX6_fillWay_3 : decode cX6_fillWay 3 = .ok (.getfield 30, 3) := by decide +kernel
theorem dX6_fillWay_6 : decode cX6_fillWay 6 = .ok (.iload_n 1, 1) := by decide +kernel
theorem dX6_fillWay_7 : decode cX6_fillWay 7 = .ok (.iaload, 1) := by decide +kernel
theorem dX6_fillWay_8 : decode cX6_fillWay 8 = .ok (.istore 4, 2) := by decide +kernel
theorem dX6_fillWay_10 : decode cX6_fillWay 10 = .ok (.iload 4, 2) := by decide +kernel
theorem dX6_fillWay_12 : decode cX6_fillWay 12 = .ok (.ifCond .le 40, 3) := by decide +kernel
theorem dX6_fillWay_15 : decode cX6_fillWay 15 = .ok (.iload_n 3, 1) := by decide +kernel
theorem dX6_fillWay_16 : decode cX6_fillWay 16 = .ok (.ifCond .lt 36, 3) := by decide +kernel
theorem dX6_fillWay_19 : decode cX6_fillWay 19 = .ok (.iload 4, 2) := by decide +kernel
theorem dX6_fillWay_21 : decode cX6_fillWay 21 = .ok (.aload_n 2, 1) := by decide +kernel
theorem dX6_fillWay_22 : decode cX6_fillWay 22 = .ok (.arraylength, 1) := by decide +kernel
theorem dX6_fillWay_23 : decode cX6_fillWay 23 = .ok (.if_icmp .gt 16, 3) := by decide +kernel
theorem dX6_fillWay_26 : decode cX6_fillWay 26 = .ok (.aload_n 2, 1) := by decide +kernel
theorem dX6_fillWay_27 : decode cX6_fillWay 27 = .ok (.iload 4, 2) := by decide +kernel
theorem dX6_fillWay_29 : decode cX6_fillWay 29 = .ok (.iconst 1, 1) := by decide +kernel
theorem dX6_fillWay_30 : decode cX6_fillWay 30 = .ok (.isub, 1) := by decide +kernel
theorem dX6_fillWay_31 : decode cX6_fillWay 31 = .ok (.aload_n 0, 1) := by decide +kernel
theorem dX6_fillWay_32 : decode cX6_fillWay 32 = .ok (.getfield 27, 3) := by decide +kernel
theorem dX6_fillWay_35 : decode cX6_fillWay 35 = .ok (.iload_n 3, 1) := by decide +kernel
theorem dX6_fillWay_36 : decode cX6_fillWay 36 = .ok (.iaload, 1) := by decide +kernel
theorem dX6_fillWay_37 : decode cX6_fillWay 37 = .ok (.i2l, 1) := by decide +kernel
theorem dX6_fillWay_38 : decode cX6_fillWay 38 = .ok (.lastore, 1) := by decide +kernel
theorem dX6_fillWay_39 : decode cX6_fillWay 39 = .ok (.aload_n 0, 1) := by decide +kernel
theorem dX6_fillWay_40 : decode cX6_fillWay 40 = .ok (.getfield 24, 3) := by decide +kernel
theorem dX6_fillWay_43 : decode cX6_fillWay 43 = .ok (.iload_n 3, 1) := by decide +kernel
theorem dX6_fillWay_44 : decode cX6_fillWay 44 = .ok (.iaload, 1) := by decide +kernel
theorem dX6_fillWay_45 : decode cX6_fillWay 45 = .ok (.istore_n 3, 1) := by decide +kernel
theorem dX6_fillWay_46 : decode cX6_fillWay 46 = .ok (.iinc 4 (-1), 3) := by decide +kernel
theorem dX6_fillWay_49 : decode cX6_fillWay 49 = .ok (.goto (-39), 3) := by decide +kernel
theorem dX6_fillWay_52 : decode cX6_fillWay 52 = .ok (.return_, 1) := by decide +kernel
theorem dX6_firstStrong_0 : decode cX6_firstStrong 0 = .ok (.iconst 0, 1) := by decide +kernel
theorem dX6_firstStrong_1 : decode cX6_firstStrong 1 = .ok (.istore_n 3, 1) := by decide +kernel
theorem dX6_firstStrong_2 : decode cX6_firstStrong 2 = .ok (.iload_n 3, 1) := by decide +kernel
theorem dX6_firstStrong_3 : decode cX6_firstStrong 3 = .ok (.aload_n 0, 1) := by decide +kernel
theorem dX6_firstStrong_4 : decode cX6_firstStrong 4 = .ok (.getfield 37, 3) := by decide +kernel
theorem dX6_firstStrong_7 : decode cX6_firstStrong 7 = .ok (.getfield 52, 3) := by decide +kernel
theorem dX6_firstStrong_10 : decode cX6_firstStrong 10 = .ok (.if_icmp .ge 69, 3) := by decide +kernel
theorem dX6_firstStrong_13 : decode cX6_firstStrong 13 = .ok (.aload_n 0, 1) := by decide +kernel
theorem dX6_firstStrong_14 : decode cX6_firstStrong 14 = .ok (.aload_n 1, 1) := by decide +kernel
theorem dX6_firstStrong_15 : decode cX6_firstStrong 15 = .ok (.iload_n 3, 1) := by decide +kernel
theorem dX6_firstStrong_16 : decode cX6_firstStrong 16 = .ok (.invokevirtual 59, 3) := by decide +kernel
theorem dX6_firstStrong_19 : decode cX6_firstStrong 19 = .ok (.iconst 1, 1) := by decide +kernel
theorem dX6_firstStrong_20 : decode cX6_firstStrong 20 = .ok (.istore 4, 2) := by decide +kernel
theorem dX6_firstStrong_22 : decode cX6_firstStrong 22 = .ok (.iconst 0, 1) := by decide +kernel
theorem dX6_firstStrong_23 : decode cX6_firstStrong 23 = .ok (.istore 5, 2) := by decide +kernel
theorem dX6_firstStrong_25 : decode cX6_firstStrong 25 = .ok (.iload 5, 2) := by decide +kernel
theorem dX6_firstStrong_27 : decode cX6_firstStrong 27 = .ok (.aload_n 1, 1) := by decide +kernel
theorem dX6_firstStrong_28 : decode cX6_firstStrong 28 = .ok (.getfield 63, 3) := by decide +kernel
theorem dX6_firstStrong_31 : decode cX6_firstStrong 31 = .ok (.if_icmp .ge 35, 3) := by decide +kernel
theorem dX6_firstStrong_34 : decode cX6_firstStrong 34 = .ok (.iload 4, 2) := by decide +kernel
theorem dX6_firstStrong_36 : decode cX6_firstStrong 36 = .ok (.ifCond .eq 30, 3) := by decide +kernel
theorem dX6_firstStrong_39 : decode cX6_firstStrong 39 = .ok (.aload_n 1, 1) := by decide +kernel
theorem dX6_firstStrong_40 : decode cX6_firstStrong 40 = .ok (.aload_n 0, 1) := by decide +kernel
theorem dX6_firstStrong_41 : decode cX6_firstStrong 41 = .ok (.getfield 12, 3) := by decide +kernel
theorem dX6_firstStrong_44 : decode cX6_firstStrong 44 = .ok (.iload 5, 2) := by decide +kernel
theorem dX6_firstStrong_46 : decode cX6_firstStrong 46 = .ok (.invokevirtual 68, 3) := by decide +kernel
theorem dX6_firstStrong_49 : decode cX6_firstStrong 49 = .ok (.iload_n 2, 1) := by decide +kernel
theorem dX6_firstStrong_50 : decode cX6_firstStrong 50 = .ok (.if_icmp .lt 7, 3) := by decide +kernel
theorem dX6_firstStrong_53 : decode cX6_firstStrong 53 = .ok (.iconst 1, 1) := by decide +kernel
theorem dX6_firstStrong_54 : decode cX6_firstStrong 54 = .ok (.goto 4, 3) := by decide +kernel
theorem dX6_firstStrong_57 : decode cX6_firstStrong 57 = .ok (.iconst 0, 1) := by decide +kernel
theorem dX6_firstStrong_58 : decode cX6_firstStrong 58 = .ok (.istore 4, 2) := by decide +kernel
theorem dX6_firstStrong_60 : decode cX6_firstStrong 60 = .ok (.iinc 5 1, 3) := by decide +kernel
theorem dX6_firstStrong_63 : decode cX6_firstStrong 63 = .ok (.goto (-38), 3) := by decide +kernel
theorem dX6_firstStrong_66 : decode cX6_firstStrong 66 = .ok (.iload 4, 2) := by decide +kernel
theorem dX6_firstStrong_68 : decode cX6_firstStrong 68 = .ok (.ifCond .eq 5, 3) := by decide +kernel
theorem dX6_firstStrong_71 : decode cX6_firstStrong 71 = .ok (.iload_n 3, 1) := by decide +kernel
theorem dX6_firstStrong_72 : decode cX6_firstStrong 72 = .ok (.ireturn, 1) := by decide +kernel
theorem dX6_firstStrong_73 : decode cX6_firstStrong 73 = .ok (.iinc 3 1, 3) := by decide +kernel
theorem dX6_firstStrong_76 : decode cX6_firstStrong 76 = .ok (.goto (-74), 3) := by decide +kernel
theorem dX6_firstStrong_79 : decode cX6_firstStrong 79 = .ok (.iconst (-1), 1) := by decide +kernel
theorem dX6_firstStrong_80 : decode cX6_firstStrong 80 = .ok (.ireturn, 1) := by decide +kernel
theorem dX6_greatestPower_0 : decode cX6_greatestPower 0 = .ok (.iconst 0, 1) := by decide +kernel
theorem dX6_greatestPower_1 : decode cX6_greatestPower 1 = .ok (.istore_n 3, 1) := by decide +kernel
theorem dX6_greatestPower_2 : decode cX6_greatestPower 2 = .ok (.iconst 0, 1) := by decide +kernel
theorem dX6_greatestPower_3 : decode cX6_greatestPower 3 = .ok (.istore 4, 2) := by decide +kernel
theorem dX6_greatestPower_5 : decode cX6_greatestPower 5 = .ok (.iload 4, 2) := by decide +kernel
theorem dX6_greatestPower_7 : decode cX6_greatestPower 7 = .ok (.aload_n 0, 1) := by decide +kernel
theorem dX6_greatestPower_8 : decode cX6_greatestPower 8 = .ok (.getfield 37, 3) := by decide +kernel
theorem dX6_greatestPower_11 : decode cX6_greatestPower 11 = .ok (.getfield 52, 3) := by decide +kernel
theorem dX6_greatestPower_14 : decode cX6_greatestPower 14 = .ok (.if_icmp .ge 47, 3) := by decide +kernel
theorem dX6_greatestPower_17 : decode cX6_greatestPower 17 = .ok (.aload_n 0, 1) := by decide +kernel
theorem dX6_greatestPower_18 : decode cX6_greatestPower 18 = .ok (.aload_n 1, 1) := by decide +kernel
theorem dX6_greatestPower_19 : decode cX6_greatestPower 19 = .ok (.iload 4, 2) := by decide +kernel
theorem dX6_greatestPower_21 : decode cX6_greatestPower 21 = .ok (.invokevirtual 59, 3) := by decide +kernel
theorem dX6_greatestPower_24 : decode cX6_greatestPower 24 = .ok (.aload_n 1, 1) := by decide +kernel
theorem dX6_greatestPower_25 : decode cX6_greatestPower 25 = .ok (.aload_n 0, 1) := by decide +kernel
theorem dX6_greatestPower_26 : decode cX6_greatestPower 26 = .ok (.getfield 12, 3) := by decide +kernel
theorem dX6_greatestPower_29 : decode cX6_greatestPower 29 = .ok (.iload_n 2, 1) := by decide +kernel
theorem dX6_greatestPower_30 : decode cX6_greatestPower 30 = .ok (.invokevirtual 68, 3) := by decide +kernel
theorem dX6_greatestPower_33 : decode cX6_greatestPower 33 = .ok (.istore 5, 2) := by decide +kernel
theorem dX6_greatestPower_35 : decode cX6_greatestPower 35 = .ok (.iload 4, 2) := by decide +kernel
theorem dX6_greatestPower_37 : decode cX6_greatestPower 37 = .ok (.ifCond .eq 9, 3) := by decide +kernel
theorem dX6_greatestPower_40 : decode cX6_greatestPower 40 = .ok (.iload 5, 2) := by decide +kernel
theorem dX6_greatestPower_42 : decode cX6_greatestPower 42 = .ok (.iload_n 3, 1) := by decide +kernel
theorem dX6_greatestPower_43 : decode cX6_greatestPower 43 = .ok (.if_icmp .le 12, 3) := by decide +kernel
theorem dX6_greatestPower_46 : decode cX6_greatestPower 46 = .ok (.iload 5, 2) := by decide +kernel
theorem dX6_greatestPower_48 : decode cX6_greatestPower 48 = .ok (.istore_n 3, 1) := by decide +kernel
theorem dX6_greatestPower_49 : decode cX6_greatestPower 49 = .ok (.aload_n 0, 1) := by decide +kernel
theorem dX6_greatestPower_50 : decode cX6_greatestPower 50 = .ok (.iload 4, 2) := by decide +kernel
theorem dX6_greatestPower_52 : decode cX6_greatestPower 52 = .ok (.putfield 33, 3) := by decide +kernel
theorem dX6_greatestPower_55 : decode cX6_greatestPower 55 = .ok (.iinc 4 1, 3) := by decide +kernel
theorem dX6_greatestPower_58 : decode cX6_greatestPower 58 = .ok (.goto (-53), 3) := by decide +kernel
theorem dX6_greatestPower_61 : decode cX6_greatestPower 61 = .ok (.iload_n 3, 1) := by decide +kernel
theorem dX6_greatestPower_62 : decode cX6_greatestPower 62 = .ok (.ireturn, 1) := by decide +kernel
theorem dX6_leastGap_0 : decode cX6_leastGap 0 = .ok (.iconst 0, 1) := by decide +kernel
theorem dX6_leastGap_1 : decode cX6_leastGap 1 = .ok (.istore_n 2, 1) := by decide +kernel
theorem dX6_leastGap_2 : decode cX6_leastGap 2 = .ok (.iconst 0, 1) := by decide +kernel
theorem dX6_leastGap_3 : decode cX6_leastGap 3 = .ok (.istore_n 3, 1) := by decide +kernel
theorem dX6_leastGap_4 : decode cX6_leastGap 4 = .ok (.iload_n 3, 1) := by decide +kernel
theorem dX6_leastGap_5 : decode cX6_leastGap 5 = .ok (.aload_n 0, 1) := by decide +kernel
theorem dX6_leastGap_6 : decode cX6_leastGap 6 = .ok (.getfield 37, 3) := by decide +kernel
theorem dX6_leastGap_9 : decode cX6_leastGap 9 = .ok (.getfield 52, 3) := by decide +kernel
theorem dX6_leastGap_12 : decode cX6_leastGap 12 = .ok (.if_icmp .ge 68, 3) := by decide +kernel
theorem dX6_leastGap_15 : decode cX6_leastGap 15 = .ok (.aload_n 0, 1) := by decide +kernel
theorem dX6_leastGap_16 : decode cX6_leastGap 16 = .ok (.aload_n 1, 1) := by decide +kernel
theorem dX6_leastGap_17 : decode cX6_leastGap 17 = .ok (.iload_n 3, 1) := by decide +kernel
theorem dX6_leastGap_18 : decode cX6_leastGap 18 = .ok (.invokevirtual 59, 3) := by decide +kernel
theorem dX6_leastGap_21 : decode cX6_leastGap 21 = .ok (.aload_n 1, 1) := by decide +kernel
theorem dX6_leastGap_22 : decode cX6_leastGap 22 = .ok (.aload_n 0, 1) := by decide +kernel
theorem dX6_leastGap_23 : decode cX6_leastGap 23 = .ok (.getfield 12, 3) := by decide +kernel
theorem dX6_leastGap_26 : decode cX6_leastGap 26 = .ok (.aload_n 1, 1) := by decide +kernel
theorem dX6_leastGap_27 : decode cX6_leastGap 27 = .ok (.aload_n 0, 1) := by decide +kernel
theorem dX6_leastGap_28 : decode cX6_leastGap 28 = .ok (.getfield 12, 3) := by decide +kernel
theorem dX6_leastGap_31 : decode cX6_leastGap 31 = .ok (.invokevirtual 118, 3) := by decide +kernel
theorem dX6_leastGap_34 : decode cX6_leastGap 34 = .ok (.invokevirtual 68, 3) := by decide +kernel
theorem dX6_leastGap_37 : decode cX6_leastGap 37 = .ok (.aload_n 1, 1) := by decide +kernel
theorem dX6_leastGap_38 : decode cX6_leastGap 38 = .ok (.aload_n 0, 1) := by decide +kernel
theorem dX6_leastGap_39 : decode cX6_leastGap 39 = .ok (.getfield 12, 3) := by decide +kernel
theorem dX6_leastGap_42 : decode cX6_leastGap 42 = .ok (.aload_n 1, 1) := by decide +kernel
theorem dX6_leastGap_43 : decode cX6_leastGap 43 = .ok (.aload_n 0, 1) := by decide +kernel
theorem dX6_leastGap_44 : decode cX6_leastGap 44 = .ok (.getfield 12, 3) := by decide +kernel
theorem dX6_leastGap_47 : decode cX6_leastGap 47 = .ok (.invokevirtual 121, 3) := by decide +kernel
theorem dX6_leastGap_50 : decode cX6_leastGap 50 = .ok (.invokevirtual 68, 3) := by decide +kernel
theorem dX6_leastGap_53 : decode cX6_leastGap 53 = .ok (.isub, 1) := by decide +kernel
theorem dX6_leastGap_54 : decode cX6_leastGap 54 = .ok (.istore 4, 2) := by decide +kernel
theorem dX6_leastGap_56 : decode cX6_leastGap 56 = .ok (.iload_n 3, 1) := by decide +kernel
theorem dX6_leastGap_57 : decode cX6_leastGap 57 = .ok (.ifCond .eq 9, 3) := by decide +kernel
theorem dX6_leastGap_60 : decode cX6_leastGap 60 = .ok (.iload 4, 2) := by decide +kernel
theorem dX6_leastGap_62 : decode cX6_leastGap 62 = .ok (.iload_n 2, 1) := by decide +kernel
theorem dX6_leastGap_63 : decode cX6_leastGap 63 = .ok (.if_icmp .ge 11, 3) := by decide +kernel
theorem dX6_leastGap_66 : decode cX6_leastGap 66 = .ok (.iload 4, 2) := by decide +kernel
theorem dX6_leastGap_68 : decode cX6_leastGap 68 = .ok (.istore_n 2, 1) := by decide +kernel
theorem dX6_leastGap_69 : decode cX6_leastGap 69 = .ok (.aload_n 0, 1) := by decide +kernel
theorem dX6_leastGap_70 : decode cX6_leastGap 70 = .ok (.iload_n 3, 1) := by decide +kernel
theorem dX6_leastGap_71 : decode cX6_leastGap 71 = .ok (.putfield 33, 3) := by decide +kernel
theorem dX6_leastGap_74 : decode cX6_leastGap 74 = .ok (.iinc 3 1, 3) := by decide +kernel
theorem dX6_leastGap_77 : decode cX6_leastGap 77 = .ok (.goto (-73), 3) := by decide +kernel
theorem dX6_leastGap_80 : decode cX6_leastGap 80 = .ok (.iload_n 2, 1) := by decide +kernel
theorem dX6_leastGap_81 : decode cX6_leastGap 81 = .ok (.ireturn, 1) := by decide +kernel
theorem dX7_init_0 : decode cX7_init 0 = .ok (.aload_n 0, 1) := by decide +kernel
theorem dX7_init_1 : decode cX7_init 1 = .ok (.invokespecial 3, 3) := by decide +kernel
theorem dX7_init_4 : decode cX7_init 4 = .ok (.aload_n 0, 1) := by decide +kernel
theorem dX7_init_5 : decode cX7_init 5 = .ok (.new 9, 3) := by decide +kernel
theorem dX7_init_8 : decode cX7_init 8 = .ok (.dup, 1) := by decide +kernel
theorem dX7_init_9 : decode cX7_init 9 = .ok (.invokespecial 11, 3) := by decide +kernel
theorem dX7_init_12 : decode cX7_init 12 = .ok (.putfield 12, 3) := by decide +kernel
theorem dX7_init_15 : decode cX7_init 15 = .ok (.aload_n 0, 1) := by decide +kernel
theorem dX7_init_16 : decode cX7_init 16 = .ok (.bipush 8, 2) := by decide +kernel
theorem dX7_init_18 : decode cX7_init 18 = .ok (.newarray .int, 2) := by decide +kernel
theorem dX7_init_20 : decode cX7_init 20 = .ok (.putfield 18, 3) := by decide +kernel
theorem dX7_init_23 : decode cX7_init 23 = .ok (.aload_n 0, 1) := by decide +kernel
theorem dX7_init_24 : decode cX7_init 24 = .ok (.iconst 0, 1) := by decide +kernel
theorem dX7_init_25 : decode cX7_init 25 = .ok (.putfield 22, 3) := by decide +kernel
theorem dX7_init_28 : decode cX7_init 28 = .ok (.aload_n 0, 1) := by decide +kernel
theorem dX7_init_29 : decode cX7_init 29 = .ok (.iconst 0, 1) := by decide +kernel
theorem dX7_init_30 : decode cX7_init 30 = .ok (.putfield 26, 3) := by decide +kernel
theorem dX7_init_33 : decode cX7_init 33 = .ok (.aload_n 0, 1) := by decide +kernel
theorem dX7_init_34 : decode cX7_init 34 = .ok (.lconst 0, 1) := by decide +kernel
theorem dX7_init_35 : decode cX7_init 35 = .ok (.putfield 29, 3) := by decide +kernel
theorem dX7_init_38 : decode cX7_init 38 = .ok (.aload_n 0, 1) := by decide +kernel
theorem dX7_init_39 : decode cX7_init 39 = .ok (.aload_n 1, 1) := by decide +kernel
theorem dX7_init_40 : decode cX7_init 40 = .ok (.putfield 33, 3) := by decide +kernel
theorem dX7_init_43 : decode cX7_init 43 = .ok (.return_, 1) := by decide +kernel
theorem dX7_findLoop_0 : decode cX7_findLoop 0 = .ok (.aload_n 0, 1) := by decide +kernel
theorem dX7_findLoop_1 : decode cX7_findLoop 1 = .ok (.getfield 12, 3) := by decide +kernel
theorem dX7_findLoop_4 : decode cX7_findLoop 4 = .ok (.aload_n 3, 1) := by decide +kernel
theorem dX7_findLoop_5 : decode cX7_findLoop 5 = .ok (.invokevirtual 37, 3) := by decide +kernel
theorem dX7_findLoop_8 : decode cX7_findLoop 8 = .ok (.aload_n 0, 1) := by decide +kernel
theorem dX7_findLoop_9 : decode cX7_findLoop 9 = .ok (.getfield 33, 3) := by decide +kernel
theorem dX7_findLoop_12 : decode cX7_findLoop 12 = .ok (.invokevirtual 41, 3) := by decide +kernel
theorem dX7_findLoop_15 : decode cX7_findLoop 15 = .ok (.aload_n 0, 1) := by decide +kernel
theorem dX7_findLoop_16 : decode cX7_findLoop 16 = .ok (.getfield 33, 3) := by decide +kernel
theorem dX7_findLoop_19 : decode cX7_findLoop 19 = .ok (.aload_n 0, 1) := by decide +kernel
theorem dX7_findLoop_20 : decode cX7_findLoop 20 = .ok (.getfield 12, 3) := by decide +kernel
theorem dX7_findLoop_23 : decode cX7_findLoop 23 = .ok (.invokevirtual 46, 3) := by decide +kernel
theorem dX7_findLoop_26 : decode cX7_findLoop 26 = .ok (.pop, 1) := by decide +kernel
theorem dX7_findLoop_27 : decode cX7_findLoop 27 = .ok (.iconst 1, 1) := by decide +kernel
theorem dX7_findLoop_28 : decode cX7_findLoop 28 = .ok (.istore 4, 2) := by decide +kernel
theorem dX7_findLoop_30 : decode cX7_findLoop 30 = .ok (.iload 4, 2) := by decide +kernel
theorem dX7_findLoop_32 : decode cX7_findLoop 32 = .ok (.sipush 2000, 3) := by decide +kernel
theorem dX7_findLoop_35 : decode cX7_findLoop 35 = .ok (.if_icmp .gt 55, 3) := by decide +kernel
theorem dX7_findLoop_38 : decode cX7_findLoop 38 = .ok (.aload_n 0, 1) := by decide +kernel
theorem dX7_findLoop_39 : decode cX7_findLoop 39 = .ok (.aload_n 1, 1) := by decide +kernel
theorem dX7_findLoop_40 : decode cX7_findLoop 40 = .ok (.aload_n 2, 1) := by decide +kernel
theorem dX7_findLoop_41 : decode cX7_findLoop 41 = .ok (.invokevirtual 50, 3) := by decide +kernel
theorem dX7_findLoop_44 : decode cX7_findLoop 44 = .ok (.aload_n 0, 1) := by decide +kernel
theorem dX7_findLoop_45 : decode cX7_findLoop 45 = .ok (.getfield 33, 3) := by decide +kernel
theorem dX7_findLoop_48 : decode cX7_findLoop 48 = .ok (.aload_n 0, 1) := by decide +kernel
theorem dX7_findLoop_49 : decode cX7_findLoop 49 = .ok (.getfield 12, 3) := by decide +kernel
theorem dX7_findLoop_52 : decode cX7_findLoop 52 = .ok (.invokevirtual 46, 3) := by decide +kernel
theorem dX7_findLoop_55 : decode cX7_findLoop 55 = .ok (.istore 5, 2) := by decide +kernel
theorem dX7_findLoop_57 : decode cX7_findLoop 57 = .ok (.aload_n 0, 1) := by decide +kernel
theorem dX7_findLoop_58 : decode cX7_findLoop 58 = .ok (.getfield 33, 3) := by decide +kernel
theorem dX7_findLoop_61 : decode cX7_findLoop 61 = .ok (.getfield 54, 3) := by decide +kernel
theorem dX7_findLoop_64 : decode cX7_findLoop 64 = .ok (.ifCond .ne 20, 3) := by decide +kernel
theorem dX7_findLoop_67 : decode cX7_findLoop 67 = .ok (.aload_n 0, 1) := by decide +kernel
theorem dX7_findLoop_68 : decode cX7_findLoop 68 = .ok (.iload 5, 2) := by decide +kernel
theorem dX7_findLoop_70 : decode cX7_findLoop 70 = .ok (.putfield 22, 3) := by decide +kernel
theorem dX7_findLoop_73 : decode cX7_findLoop 73 = .ok (.aload_n 0, 1) := by decide +kernel
theorem dX7_findLoop_74 : decode cX7_findLoop 74 = .ok (.iload 4, 2) := by decide +kernel
theorem dX7_findLoop_76 : decode cX7_findLoop 76 = .ok (.iload 5, 2) := by decide +kernel
theorem dX7_findLoop_78 : decode cX7_findLoop 78 = .ok (.isub, 1) := by decide +kernel
theorem dX7_findLoop_79 : decode cX7_findLoop 79 = .ok (.putfield 26, 3) := by decide +kernel
theorem dX7_findLoop_82 : decode cX7_findLoop 82 = .ok (.iconst 1, 1) := by decide +kernel
theorem dX7_findLoop_83 : decode cX7_findLoop 83 = .ok (.ireturn, 1) := by decide +kernel
theorem dX7_findLoop_84 : decode cX7_findLoop 84 = .ok (.iinc 4 1, 3) := by decide +kernel
theorem dX7_findLoop_87 : decode cX7_findLoop 87 = .ok (.goto (-57), 3) := by decide +kernel
theorem dX7_findLoop_90 : decode cX7_findLoop 90 = .ok (.iconst 0, 1) := by decide +kernel
theorem dX7_findLoop_91 : decode cX7_findLoop 91 = .ok (.ireturn, 1) := by decide +kernel
theorem dX7_playTurn_0 : decode cX7_playTurn 0 = .ok (.iconst 0, 1) := by decide +kernel
theorem dX7_playTurn_1 : decode cX7_playTurn 1 = .ok (.istore_n 3, 1) := by decide +kernel
theorem dX7_playTurn_2 : decode cX7_playTurn 2 = .ok (.iload_n 3, 1) := by decide +kernel
theorem dX7_playTurn_3 : decode cX7_playTurn 3 = .ok (.aload_n 2, 1) := by decide +kernel
theorem dX7_playTurn_4 : decode cX7_playTurn 4 = .ok (.getfield 58, 3) := by decide +kernel
theorem dX7_playTurn_7 : decode cX7_playTurn 7 = .ok (.if_icmp .ge 60, 3) := by decide +kernel
theorem dX7_playTurn_10 : decode cX7_playTurn 10 = .ok (.aload_n 1, 1) := by decide +kernel
theorem dX7_playTurn_11 : decode cX7_playTurn 11 = .ok (.aload_n 0, 1) := by decide +kernel
theorem dX7_playTurn_12 : decode cX7_playTurn 12 = .ok (.getfield 12, 3) := by decide +kernel
theorem dX7_playTurn_15 : decode cX7_playTurn 15 = .ok (.aload_n 2, 1) := by decide +kernel
theorem dX7_playTurn_16 : decode cX7_playTurn 16 = .ok (.getfield 63, 3) := by decide +kernel
theorem dX7_playTurn_19 : decode cX7_playTurn 19 = .ok (.iload_n 3, 1) := by decide +kernel
theorem dX7_playTurn_20 : decode cX7_playTurn 20 = .ok (.iaload, 1) := by decide +kernel
theorem dX7_playTurn_21 : decode cX7_playTurn 21 = .ok (.aload_n 2, 1) := by decide +kernel
theorem dX7_playTurn_22 : decode cX7_playTurn 22 = .ok (.getfield 66, 3) := by decide +kernel
theorem dX7_playTurn_25 : decode cX7_playTurn 25 = .ok (.iload_n 3, 1) := by decide +kernel
theorem dX7_playTurn_26 : decode cX7_playTurn 26 = .ok (.iaload, 1) := by decide +kernel
theorem dX7_playTurn_27 : decode cX7_playTurn 27 = .ok (.aload_n 2, 1) := by decide +kernel
theorem dX7_playTurn_28 : decode cX7_playTurn 28 = .ok (.getfield 69, 3) := by decide +kernel
theorem dX7_playTurn_31 : decode cX7_playTurn 31 = .ok (.iload_n 3, 1) := by decide +kernel
theorem dX7_playTurn_32 : decode cX7_playTurn 32 = .ok (.iaload, 1) := by decide +kernel
theorem dX7_playTurn_33 : decode cX7_playTurn 33 = .ok (.invokevirtual 72, 3) := by decide +kernel
theorem dX7_playTurn_36 : decode cX7_playTurn 36 = .ok (.istore 4, 2) := by decide +kernel
theorem dX7_playTurn_38 : decode cX7_playTurn 38 = .ok (.aload_n 1, 1) := by decide +kernel
theorem dX7_playTurn_39 : decode cX7_playTurn 39 = .ok (.aload_n 0, 1) := by decide +kernel
theorem dX7_playTurn_40 : decode cX7_playTurn 40 = .ok (.getfield 12, 3) := by decide +kernel
theorem dX7_playTurn_43 : decode cX7_playTurn 43 = .ok (.aload_n 2, 1) := by decide +kernel
theorem dX7_playTurn_44 : decode cX7_playTurn 44 = .ok (.getfield 63, 3) := by decide +kernel
theorem dX7_playTurn_47 : decode cX7_playTurn 47 = .ok (.iload_n 3, 1) := by decide +kernel
theorem dX7_playTurn_48 : decode cX7_playTurn 48 = .ok (.iaload, 1) := by decide +kernel
theorem dX7_playTurn_49 : decode cX7_playTurn 49 = .ok (.aload_n 2, 1) := by decide +kernel
theorem dX7_playTurn_50 : decode cX7_playTurn 50 = .ok (.getfield 66, 3) := by decide +kernel
theorem dX7_playTurn_53 : decode cX7_playTurn 53 = .ok (.iload_n 3, 1) := by decide +kernel
theorem dX7_playTurn_54 : decode cX7_playTurn 54 = .ok (.iaload, 1) := by decide +kernel
theorem dX7_playTurn_55 : decode cX7_playTurn 55 = .ok (.iload 4, 2) := by decide +kernel
theorem dX7_playTurn_57 : decode cX7_playTurn 57 = .ok (.iconst 0, 1) := by decide +kernel
theorem dX7_playTurn_58 : decode cX7_playTurn 58 = .ok (.invokevirtual 78, 3) := by decide +kernel
theorem dX7_playTurn_61 : decode cX7_playTurn 61 = .ok (.iinc 3 1, 3) := by decide +kernel
theorem dX7_playTurn_64 : decode cX7_playTurn 64 = .ok (.goto (-62), 3) := by decide +kernel
theorem dX7_playTurn_67 : decode cX7_playTurn 67 = .ok (.return_, 1) := by decide +kernel
theorem dX7_loopSum_0 : decode cX7_loopSum 0 = .ok (.iconst 0, 1) := by decide +kernel
theorem dX7_loopSum_1 : decode cX7_loopSum 1 = .ok (.istore_n 3, 1) := by decide +kernel
theorem dX7_loopSum_2 : decode cX7_loopSum 2 = .ok (.aload_n 0, 1) := by decide +kernel
theorem dX7_loopSum_3 : decode cX7_loopSum 3 = .ok (.getfield 22, 3) := by decide +kernel
theorem dX7_loopSum_6 : decode cX7_loopSum 6 = .ok (.istore 4, 2) := by decide +kernel
theorem dX7_loopSum_8 : decode cX7_loopSum 8 = .ok (.iload 4, 2) := by decide +kernel
theorem dX7_loopSum_10 : decode cX7_loopSum 10 = .ok (.aload_n 0, 1) := by decide +kernel
theorem dX7_loopSum_11 : decode cX7_loopSum 11 = .ok (.getfield 33, 3) := by decide +kernel
theorem dX7_loopSum_14 : decode cX7_loopSum 14 = .ok (.getfield 82, 3) := by decide +kernel
theorem dX7_loopSum_17 : decode cX7_loopSum 17 = .ok (.if_icmp .ge 23, 3) := by decide +kernel
theorem dX7_loopSum_20 : decode cX7_loopSum 20 = .ok (.iload_n 3, 1) := by decide +kernel
theorem dX7_loopSum_21 : decode cX7_loopSum 21 = .ok (.aload_n 0, 1) := by decide +kernel
theorem dX7_loopSum_22 : decode cX7_loopSum 22 = .ok (.getfield 33, 3) := by decide +kernel
theorem dX7_loopSum_25 : decode cX7_loopSum 25 = .ok (.iload 4, 2) := by decide +kernel
theorem dX7_loopSum_27 : decode cX7_loopSum 27 = .ok (.iload_n 1, 1) := by decide +kernel
theorem dX7_loopSum_28 : decode cX7_loopSum 28 = .ok (.iload_n 2, 1) := by decide +kernel
theorem dX7_loopSum_29 : decode cX7_loopSum 29 = .ok (.invokevirtual 85, 3) := by decide +kernel
theorem dX7_loopSum_32 : decode cX7_loopSum 32 = .ok (.iadd, 1) := by decide +kernel
theorem dX7_loopSum_33 : decode cX7_loopSum 33 = .ok (.istore_n 3, 1) := by decide +kernel
theorem dX7_loopSum_34 : decode cX7_loopSum 34 = .ok (.iinc 4 1, 3) := by decide +kernel
theorem dX7_loopSum_37 : decode cX7_loopSum 37 = .ok (.goto (-29), 3) := by decide +kernel
theorem dX7_loopSum_40 : decode cX7_loopSum 40 = .ok (.iload_n 3, 1) := by decide +kernel
theorem dX7_loopSum_41 : decode cX7_loopSum 41 = .ok (.ireturn, 1) := by decide +kernel
theorem dX7_follow_0 : decode cX7_follow 0 = .ok (.aload_n 0, 1) := by decide +kernel
theorem dX7_follow_1 : decode cX7_follow 1 = .ok (.getfield 12, 3) := by decide +kernel
theorem dX7_follow_4 : decode cX7_follow 4 = .ok (.aload_n 3, 1) := by decide +kernel
theorem dX7_follow_5 : decode cX7_follow 5 = .ok (.invokevirtual 37, 3) := by decide +kernel
theorem dX7_follow_8 : decode cX7_follow 8 = .ok (.iconst 0, 1) := by decide +kernel
theorem dX7_follow_9 : decode cX7_follow 9 = .ok (.istore 6, 2) := by decide +kernel
theorem dX7_follow_11 : decode cX7_follow 11 = .ok (.iload 6, 2) := by decide +kernel
theorem dX7_follow_13 : decode cX7_follow 13 = .ok (.bipush 8, 2) := by decide +kernel
theorem dX7_follow_15 : decode cX7_follow 15 = .ok (.if_icmp .ge 17, 3) := by decide +kernel
theorem dX7_follow_18 : decode cX7_follow 18 = .ok (.aload_n 0, 1) := by decide +kernel
theorem dX7_follow_19 : decode cX7_follow 19 = .ok (.getfield 18, 3) := by decide +kernel
theorem dX7_follow_22 : decode cX7_follow 22 = .ok (.iload 6, 2) := by decide +kernel
theorem dX7_follow_24 : decode cX7_follow 24 = .ok (.iconst 0, 1) := by decide +kernel
theorem dX7_follow_25 : decode cX7_follow 25 = .ok (.iastore, 1) := by decide +kernel
theorem dX7_follow_26 : decode cX7_follow 26 = .ok (.iinc 6 1, 3) := by decide +kernel
theorem dX7_follow_29 : decode cX7_follow 29 = .ok (.goto (-18), 3) := by decide +kernel
theorem dX7_follow_32 : decode cX7_follow 32 = .ok (.aload_n 0, 1) := by decide +kernel
theorem dX7_follow_33 : decode cX7_follow 33 = .ok (.lconst 1, 1) := by decide +kernel
theorem dX7_follow_34 : decode cX7_follow 34 = .ok (.putfield 29, 3) := by decide +kernel
theorem dX7_follow_37 : decode cX7_follow 37 = .ok (.iconst 0, 1) := by decide +kernel
theorem dX7_follow_38 : decode cX7_follow 38 = .ok (.istore 6, 2) := by decide +kernel
theorem dX7_follow_40 : decode cX7_follow 40 = .ok (.iconst 0, 1) := by decide +kernel
theorem dX7_follow_41 : decode cX7_follow 41 = .ok (.istore 7, 2) := by decide +kernel
theorem dX7_follow_43 : decode cX7_follow 43 = .ok (.iload 7, 2) := by decide +kernel
theorem dX7_follow_45 : decode cX7_follow 45 = .ok (.iload 4, 2) := by decide +kernel
theorem dX7_follow_47 : decode cX7_follow 47 = .ok (.if_icmp .ge 62, 3) := by decide +kernel
theorem dX7_follow_50 : decode cX7_follow 50 = .ok (.aload_n 0, 1) := by decide +kernel
theorem dX7_follow_51 : decode cX7_follow 51 = .ok (.getfield 29, 3) := by decide +kernel
theorem dX7_follow_54 : decode cX7_follow 54 = .ok (.lconst 0, 1) := by decide +kernel
theorem dX7_follow_55 : decode cX7_follow 55 = .ok (.lcmp, 1) := by decide +kernel
theorem dX7_follow_56 : decode cX7_follow 56 = .ok (.ifCond .le 53, 3) := by decide +kernel
theorem dX7_follow_59 : decode cX7_follow 59 = .ok (.aload_n 0, 1) := by decide +kernel
theorem dX7_follow_60 : decode cX7_follow 60 = .ok (.aload_n 1, 1) := by decide +kernel
theorem dX7_follow_61 : decode cX7_follow 61 = .ok (.aload_n 2, 1) := by decide +kernel
theorem dX7_follow_62 : decode cX7_follow 62 = .ok (.iload 6, 2) := by decide +kernel
theorem dX7_follow_64 : decode cX7_follow 64 = .ok (.iload 5, 2) := by decide +kernel
theorem dX7_follow_66 : decode cX7_follow 66 = .ok (.iload 7, 2) := by decide +kernel
theorem dX7_follow_68 : decode cX7_follow 68 = .ok (.ishr, 1) := by decide +kernel
theorem dX7_follow_69 : decode cX7_follow 69 = .ok (.iconst 1, 1) := by decide +kernel
theorem dX7_follow_70 : decode cX7_follow 70 = .ok (.iand, 1) := by decide +kernel
theorem dX7_follow_71 : decode cX7_follow 71 = .ok (.ifCond .eq 7, 3) := by decide +kernel
theorem dX7_follow_74 : decode cX7_follow 74 = .ok (.iconst 1, 1) := by decide +kernel
theorem dX7_follow_75 : decode cX7_follow 75 = .ok (.goto 4, 3) := by decide +kernel
theorem dX7_follow_78 : decode cX7_follow 78 = .ok (.iconst 0, 1) := by decide +kernel
theorem dX7_follow_79 : decode cX7_follow 79 = .ok (.invokevirtual 89, 3) := by decide +kernel
theorem dX7_follow_82 : decode cX7_follow 82 = .ok (.iload 6, 2) := by decide +kernel
theorem dX7_follow_84 : decode cX7_follow 84 = .ok (.iconst 1, 1) := by decide +kernel
theorem dX7_follow_85 : decode cX7_follow 85 = .ok (.iadd, 1) := by decide +kernel
theorem dX7_follow_86 : decode cX7_follow 86 = .ok (.aload_n 2, 1) := by decide +kernel
theorem dX7_follow_87 : decode cX7_follow 87 = .ok (.getfield 58, 3) := by decide +kernel
theorem dX7_follow_90 : decode cX7_follow 90 = .ok (.if_icmp .ge 10, 3) := by decide +kernel
theorem dX7_follow_93 : decode cX7_follow 93 = .ok (.iload 6, 2) := by decide +kernel
theorem dX7_follow_95 : decode cX7_follow 95 = .ok (.iconst 1, 1) := by decide +kernel
theorem dX7_follow_96 : decode cX7_follow 96 = .ok (.iadd, 1) := by decide +kernel
theorem dX7_follow_97 : decode cX7_follow 97 = .ok (.goto 4, 3) := by decide +kernel
theorem dX7_follow_100 : decode cX7_follow 100 = .ok (.iconst 0, 1) := by decide +kernel
theorem dX7_follow_101 : decode cX7_follow 101 = .ok (.istore 6, 2) := by decide +kernel
theorem dX7_follow_103 : decode cX7_follow 103 = .ok (.iinc 7 1, 3) := by decide +kernel
theorem dX7_follow_106 : decode cX7_follow 106 = .ok (.goto (-63), 3) := by decide +kernel
theorem dX7_follow_109 : decode cX7_follow 109 = .ok (.aload_n 0, 1) := by decide +kernel
theorem dX7_follow_110 : decode cX7_follow 110 = .ok (.getfield 29, 3) := by decide +kernel
theorem dX7_follow_113 : decode cX7_follow 113 = .ok (.lreturn, 1) := by decide +kernel
theorem dX7_followGame_0 : decode cX7_followGame 0 = .ok (.aload_n 2, 1) := by decide +kernel
theorem dX7_followGame_1 : decode cX7_followGame 1 = .ok (.getfield 63, 3) := by decide +kernel
theorem dX7_followGame_4 : decode cX7_followGame 4 = .ok (.iload_n 3, 1) := by decide +kernel
theorem dX7_followGame_5 : decode cX7_followGame 5 = .ok (.iaload, 1) := by decide +kernel
theorem dX7_followGame_6 : decode cX7_followGame 6 = .ok (.istore 5, 2) := by decide +kernel
theorem dX7_followGame_8 : decode cX7_followGame 8 = .ok (.aload_n 2, 1) := by decide +kernel
theorem dX7_followGame_9 : decode cX7_followGame 9 = .ok (.getfield 66, 3) := by decide +kernel
theorem dX7_followGame_12 : decode cX7_followGame 12 = .ok (.iload_n 3, 1) := by decide +kernel
theorem dX7_followGame_13 : decode cX7_followGame 13 = .ok (.iaload, 1) := by decide +kernel
theorem dX7_followGame_14 : decode cX7_followGame 14 = .ok (.istore 6, 2) := by decide +kernel
theorem dX7_followGame_16 : decode cX7_followGame 16 = .ok (.aload_n 2, 1) := by decide +kernel
theorem dX7_followGame_17 : decode cX7_followGame 17 = .ok (.getfield 69, 3) := by decide +kernel
theorem dX7_followGame_20 : decode cX7_followGame 20 = .ok (.iload_n 3, 1) := by decide +kernel
theorem dX7_followGame_21 : decode cX7_followGame 21 = .ok (.iaload, 1) := by decide +kernel
theorem dX7_followGame_22 : decode cX7_followGame 22 = .ok (.ifCond .eq 8, 3) := by decide +kernel
theorem dX7_followGame_25 : decode cX7_followGame 25 = .ok (.bipush 100, 2) := by decide +kernel
theorem dX7_followGame_27 : decode cX7_followGame 27 = .ok (.goto 15, 3) := by decide +kernel
theorem dX7_followGame_30 : decode cX7_followGame 30 = .ok (.aload_n 1, 1) := by decide +kernel
theorem dX7_followGame_31 : decode cX7_followGame 31 = .ok (.aload_n 0, 1) := by decide +kernel
theorem dX7_followGame_32 : decode cX7_followGame 32 = .ok (.getfield 12, 3) := by decide +kernel
theorem dX7_followGame_35 : decode cX7_followGame 35 = .ok (.iload 5, 2) := by decide +kernel
theorem dX7_followGame_37 : decode cX7_followGame 37 = .ok (.iload 6, 2) := by decide +kernel
theorem dX7_followGame_39 : decode cX7_followGame 39 = .ok (.invokevirtual 93, 3) := by decide +kernel
theorem dX7_followGame_42 : decode cX7_followGame 42 = .ok (.istore 7, 2) := by decide +kernel
theorem dX7_followGame_44 : decode cX7_followGame 44 = .ok (.aload_n 0, 1) := by decide +kernel
theorem dX7_followGame_45 : decode cX7_followGame 45 = .ok (.dup, 1) := by decide +kernel
theorem dX7_followGame_46 : decode cX7_followGame 46 = .ok (.getfield 29, 3) := by decide +kernel
theorem dX7_followGame_49 : decode cX7_followGame 49 = .ok (.iload 4, 2) := by decide +kernel
theorem dX7_followGame_51 : decode cX7_followGame 51 = .ok (.ifCond .eq 12, 3) := by decide +kernel
theorem dX7_followGame_54 : decode cX7_followGame 54 = .ok (.bipush 100, 2) := by decide +kernel
theorem dX7_followGame_56 : decode cX7_followGame 56 = .ok (.iload 7, 2) := by decide +kernel
theorem dX7_followGame_58 : decode cX7_followGame 58 = .ok (.isub, 1) := by decide +kernel
theorem dX7_followGame_59 : decode cX7_followGame 59 = .ok (.i2l, 1) := by decide +kernel
theorem dX7_followGame_60 : decode cX7_followGame 60 = .ok (.goto 6, 3) := by decide +kernel
theorem dX7_followGame_63 : decode cX7_followGame 63 = .ok (.iload 7, 2) := by decide +kernel
theorem dX7_followGame_65 : decode cX7_followGame 65 = .ok (.i2l, 1) := by decide +kernel
theorem dX7_followGame_66 : decode cX7_followGame 66 = .ok (.lmul, 1) := by decide +kernel
theorem dX7_followGame_67 : decode cX7_followGame 67 = .ok (.putfield 29, 3) := by decide +kernel
theorem dX7_followGame_70 : decode cX7_followGame 70 = .ok (.iload 4, 2) := by decide +kernel
theorem dX7_followGame_72 : decode cX7_followGame 72 = .ok (.ifCond .eq 7, 3) := by decide +kernel
theorem dX7_followGame_75 : decode cX7_followGame 75 = .ok (.iconst 1, 1) := by decide +kernel
theorem dX7_followGame_76 : decode cX7_followGame 76 = .ok (.goto 4, 3) := by decide +kernel
theorem dX7_followGame_79 : decode cX7_followGame 79 = .ok (.iconst 0, 1) := by decide +kernel
theorem dX7_followGame_80 : decode cX7_followGame 80 = .ok (.istore 8, 2) := by decide +kernel
theorem dX7_followGame_82 : decode cX7_followGame 82 = .ok (.aload_n 2, 1) := by decide +kernel
theorem dX7_followGame_83 : decode cX7_followGame 83 = .ok (.getfield 69, 3) := by decide +kernel
theorem dX7_followGame_86 : decode cX7_followGame 86 = .ok (.iload_n 3, 1) := by decide +kernel
theorem dX7_followGame_87 : decode cX7_followGame 87 = .ok (.iaload, 1) := by decide +kernel
theorem dX7_followGame_88 : decode cX7_followGame 88 = .ok (.ifCond .eq 23, 3) := by decide +kernel
theorem dX7_followGame_91 : decode cX7_followGame 91 = .ok (.aload_n 1, 1) := by decide +kernel
theorem dX7_followGame_92 : decode cX7_followGame 92 = .ok (.aload_n 0, 1) := by decide +kernel
theorem dX7_followGame_93 : decode cX7_followGame 93 = .ok (.getfield 12, 3) := by decide +kernel
theorem dX7_followGame_96 : decode cX7_followGame 96 = .ok (.iload 5, 2) := by decide +kernel
theorem dX7_followGame_98 : decode cX7_followGame 98 = .ok (.iload 6, 2) := by decide +kernel
theorem dX7_followGame_100 : decode cX7_followGame 100 = .ok (.aload_n 2, 1) := by decide +kernel
theorem dX7_followGame_101 : decode cX7_followGame 101 = .ok (.getfield 69, 3) := by decide +kernel
theorem dX7_followGame_104 : decode cX7_followGame 104 = .ok (.iload_n 3, 1) := by decide +kernel
theorem dX7_followGame_105 : decode cX7_followGame 105 = .ok (.iaload, 1) := by decide +kernel
theorem dX7_followGame_106 : decode cX7_followGame 106 = .ok (.invokevirtual 72, 3) := by decide +kernel
theorem dX7_followGame_109 : decode cX7_followGame 109 = .ok (.istore 8, 2) := by decide +kernel
theorem dX7_followGame_111 : decode cX7_followGame 111 = .ok (.iload 8, 2) := by decide +kernel
theorem dX7_followGame_113 : decode cX7_followGame 113 = .ok (.iconst 2, 1) := by decide +kernel
theorem dX7_followGame_114 : decode cX7_followGame 114 = .ok (.if_icmp .eq 24, 3) := by decide +kernel
theorem dX7_followGame_117 : decode cX7_followGame 117 = .ok (.aload_n 0, 1) := by decide +kernel
theorem dX7_followGame_118 : decode cX7_followGame 118 = .ok (.getfield 18, 3) := by decide +kernel
theorem dX7_followGame_121 : decode cX7_followGame 121 = .ok (.iload 8, 2) := by decide +kernel
theorem dX7_followGame_123 : decode cX7_followGame 123 = .ok (.ifCond .ne 8, 3) := by decide +kernel
theorem dX7_followGame_126 : decode cX7_followGame 126 = .ok (.iload 5, 2) := by decide +kernel
theorem dX7_followGame_128 : decode cX7_followGame 128 = .ok (.goto 5, 3) := by decide +kernel
theorem dX7_followGame_131 : decode cX7_followGame 131 = .ok (.iload 6, 2) := by decide +kernel
theorem dX7_followGame_133 : decode cX7_followGame 133 = .ok (.dup2, 1) := by decide +kernel
theorem dX7_followGame_134 : decode cX7_followGame 134 = .ok (.iaload, 1) := by decide +kernel
theorem dX7_followGame_135 : decode cX7_followGame 135 = .ok (.iconst 1, 1) := by decide +kernel
theorem dX7_followGame_136 : decode cX7_followGame 136 = .ok (.iadd, 1) := by decide +kernel
theorem dX7_followGame_137 : decode cX7_followGame 137 = .ok (.iastore, 1) := by decide +kernel
theorem dX7_followGame_138 : decode cX7_followGame 138 = .ok (.aload_n 1, 1) := by decide +kernel
theorem dX7_followGame_139 : decode cX7_followGame 139 = .ok (.aload_n 0, 1) := by decide +kernel
theorem dX7_followGame_140 : decode cX7_followGame 140 = .ok (.getfield 12, 3) := by decide +kernel
theorem dX7_followGame_143 : decode cX7_followGame 143 = .ok (.iload 5, 2) := by decide +kernel
theorem dX7_followGame_145 : decode cX7_followGame 145 = .ok (.iload 6, 2) := by decide +kernel
theorem dX7_followGame_147 : decode cX7_followGame 147 = .ok (.iload 8, 2) := by decide +kernel
theorem dX7_followGame_149 : decode cX7_followGame 149 = .ok (.iconst 1, 1) := by decide +kernel
theorem dX7_followGame_150 : decode cX7_followGame 150 = .ok (.invokevirtual 78, 3) := by decide +kernel
theorem dX7_followGame_153 : decode cX7_followGame 153 = .ok (.return_, 1) := by decide +kernel
theorem dX8_init_0 : decode cX8_init 0 = .ok (.aload_n 0, 1) := by decide +kernel
theorem dX8_init_1 : decode cX8_init 1 = .ok (.invokespecial 3, 3) := by decide +kernel
theorem dX8_init_4 : decode cX8_init 4 = .ok (.aload_n 0, 1) := by decide +kernel
theorem dX8_init_5 : decode cX8_init 5 = .ok (.bipush 32, 2) := by decide +kernel
theorem dX8_init_7 : decode cX8_init 7 = .ok (.newarray .int, 2) := by decide +kernel
theorem dX8_init_9 : decode cX8_init 9 = .ok (.putfield 9, 3) := by decide +kernel
theorem dX8_init_12 : decode cX8_init 12 = .ok (.aload_n 0, 1) := by decide +kernel
theorem dX8_init_13 : decode cX8_init 13 = .ok (.bipush 8, 2) := by decide +kernel
theorem dX8_init_15 : decode cX8_init 15 = .ok (.newarray .int, 2) := by decide +kernel
theorem dX8_init_17 : decode cX8_init 17 = .ok (.putfield 15, 3) := by decide +kernel
theorem dX8_init_20 : decode cX8_init 20 = .ok (.aload_n 0, 1) := by decide +kernel
theorem dX8_init_21 : decode cX8_init 21 = .ok (.bipush 8, 2) := by decide +kernel
theorem dX8_init_23 : decode cX8_init 23 = .ok (.newarray .int, 2) := by decide +kernel
theorem dX8_init_25 : decode cX8_init 25 = .ok (.putfield 18, 3) := by decide +kernel
theorem dX8_init_28 : decode cX8_init 28 = .ok (.aload_n 0, 1) := by decide +kernel
theorem dX8_init_29 : decode cX8_init 29 = .ok (.bipush 8, 2) := by decide +kernel
theorem dX8_init_31 : decode cX8_init 31 = .ok (.newarray .int, 2) := by decide +kernel
theorem dX8_init_33 : decode cX8_init 33 = .ok (.putfield 21, 3) := by decide +kernel
theorem dX8_init_36 : decode cX8_init 36 = .ok (.aload_n 0, 1) := by decide +kernel
theorem dX8_init_37 : decode cX8_init 37 = .ok (.iconst 1, 1) := by decide +kernel
theorem dX8_init_38 : decode cX8_init 38 = .ok (.putfield 24, 3) := by decide +kernel
theorem dX8_init_41 : decode cX8_init 41 = .ok (.return_, 1) := by decide +kernel
theorem dX8_skillOf_0 : decode cX8_skillOf 0 = .ok (.iload_n 1, 1) := by decide +kernel
theorem dX8_skillOf_1 : decode cX8_skillOf 1 = .ok (.iconst 4, 1) := by decide +kernel
theorem dX8_skillOf_2 : decode cX8_skillOf 2 = .ok (.imul, 1) := by decide +kernel
theorem dX8_skillOf_3 : decode cX8_skillOf 3 = .ok (.iload_n 2, 1) := by decide +kernel
theorem dX8_skillOf_4 : decode cX8_skillOf 4 = .ok (.iadd, 1) := by decide +kernel
theorem dX8_skillOf_5 : decode cX8_skillOf 5 = .ok (.istore_n 3, 1) := by decide +kernel
theorem dX8_skillOf_6 : decode cX8_skillOf 6 = .ok (.iload_n 3, 1) := by decide +kernel
theorem dX8_skillOf_7 : decode cX8_skillOf 7 = .ok (.ifCond .lt 21, 3) := by decide +kernel
theorem dX8_skillOf_10 : decode cX8_skillOf 10 = .ok (.iload_n 3, 1) := by decide +kernel
theorem dX8_skillOf_11 : decode cX8_skillOf 11 = .ok (.aload_n 0, 1) := by decide +kernel
theorem dX8_skillOf_12 : decode cX8_skillOf 12 = .ok (.getfield 9, 3) := by decide +kernel
theorem dX8_skillOf_15 : decode cX8_skillOf 15 = .ok (.arraylength, 1) := by decide +kernel
theorem dX8_skillOf_16 : decode cX8_skillOf 16 = .ok (.if_icmp .ge 12, 3) := by decide +kernel
theorem dX8_skillOf_19 : decode cX8_skillOf 19 = .ok (.aload_n 0, 1) := by decide +kernel
theorem dX8_skillOf_20 : decode cX8_skillOf 20 = .ok (.getfield 9, 3) := by decide +kernel
theorem dX8_skillOf_23 : decode cX8_skillOf 23 = .ok (.iload_n 3, 1) := by decide +kernel
theorem dX8_skillOf_24 : decode cX8_skillOf 24 = .ok (.iaload, 1) := by decide +kernel
theorem dX8_skillOf_25 : decode cX8_skillOf 25 = .ok (.goto 4, 3) := by decide +kernel
theorem dX8_skillOf_28 : decode cX8_skillOf 28 = .ok (.iconst 0, 1) := by decide +kernel
theorem dX8_skillOf_29 : decode cX8_skillOf 29 = .ok (.ireturn, 1) := by decide +kernel
theorem dX8_putSkill_0 : decode cX8_putSkill 0 = .ok (.iload_n 1, 1) := by decide +kernel
theorem dX8_putSkill_1 : decode cX8_putSkill 1 = .ok (.iconst 4, 1) := by decide +kernel
theorem dX8_putSkill_2 : decode cX8_putSkill 2 = .ok (.imul, 1) := by decide +kernel
theorem dX8_putSkill_3 : decode cX8_putSkill 3 = .ok (.iload_n 2, 1) := by decide +kernel
theorem dX8_putSkill_4 : decode cX8_putSkill 4 = .ok (.iadd, 1) := by decide +kernel
theorem dX8_putSkill_5 : decode cX8_putSkill 5 = .ok (.istore 4, 2) := by decide +kernel
theorem dX8_putSkill_7 : decode cX8_putSkill 7 = .ok (.iload 4, 2) := by decide +kernel
theorem dX8_putSkill_9 : decode cX8_putSkill 9 = .ok (.ifCond .lt 21, 3) := by decide +kernel
theorem dX8_putSkill_12 : decode cX8_putSkill 12 = .ok (.iload 4, 2) := by decide +kernel
theorem dX8_putSkill_14 : decode cX8_putSkill 14 = .ok (.aload_n 0, 1) := by decide +kernel
theorem dX8_putSkill_15 : decode cX8_putSkill 15 = .ok (.getfield 9, 3) := by decide +kernel
theorem dX8_putSkill_18 : decode cX8_putSkill 18 = .ok (.arraylength, 1) := by decide +kernel
theorem dX8_putSkill_19 : decode cX8_putSkill 19 = .ok (.if_icmp .ge 11, 3) := by decide +kernel
theorem dX8_putSkill_22 : decode cX8_putSkill 22 = .ok (.aload_n 0, 1) := by decide +kernel
theorem dX8_putSkill_23 : decode cX8_putSkill 23 = .ok (.getfield 9, 3) := by decide +kernel
theorem dX8_putSkill_26 : decode cX8_putSkill 26 = .ok (.iload 4, 2) := by decide +kernel
theorem dX8_putSkill_28 : decode cX8_putSkill 28 = .ok (.iload_n 3, 1) := by decide +kernel
theorem dX8_putSkill_29 : decode cX8_putSkill 29 = .ok (.iastore, 1) := by decide +kernel
theorem dX8_putSkill_30 : decode cX8_putSkill 30 = .ok (.return_, 1) := by decide +kernel
theorem dX8_sum_0 : decode cX8_sum 0 = .ok (.iconst 0, 1) := by decide +kernel
theorem dX8_sum_1 : decode cX8_sum 1 = .ok (.istore_n 3, 1) := by decide +kernel
theorem dX8_sum_2 : decode cX8_sum 2 = .ok (.iload_n 1, 1) := by decide +kernel
theorem dX8_sum_3 : decode cX8_sum 3 = .ok (.iconst 4, 1) := by decide +kernel
theorem dX8_sum_4 : decode cX8_sum 4 = .ok (.imul, 1) := by decide +kernel
theorem dX8_sum_5 : decode cX8_sum 5 = .ok (.iload_n 2, 1) := by decide +kernel
theorem dX8_sum_6 : decode cX8_sum 6 = .ok (.iadd, 1) := by decide +kernel
theorem dX8_sum_7 : decode cX8_sum 7 = .ok (.aload_n 0, 1) := by decide +kernel
theorem dX8_sum_8 : decode cX8_sum 8 = .ok (.getfield 9, 3) := by decide +kernel
theorem dX8_sum_11 : decode cX8_sum 11 = .ok (.arraylength, 1) := by decide +kernel
theorem dX8_sum_12 : decode cX8_sum 12 = .ok (.invokestatic 28, 3) := by decide +kernel
theorem dX8_sum_15 : decode cX8_sum 15 = .ok (.istore 4, 2) := by decide +kernel
theorem dX8_sum_17 : decode cX8_sum 17 = .ok (.iload_n 1, 1) := by decide +kernel
theorem dX8_sum_18 : decode cX8_sum 18 = .ok (.iconst 0, 1) := by decide +kernel
theorem dX8_sum_19 : decode cX8_sum 19 = .ok (.invokestatic 34, 3) := by decide +kernel
theorem dX8_sum_22 : decode cX8_sum 22 = .ok (.iconst 4, 1) := by decide +kernel
theorem dX8_sum_23 : decode cX8_sum 23 = .ok (.imul, 1) := by decide +kernel
theorem dX8_sum_24 : decode cX8_sum 24 = .ok (.istore 5, 2) := by decide +kernel
theorem dX8_sum_26 : decode cX8_sum 26 = .ok (.iload 5, 2) := by decide +kernel
theorem dX8_sum_28 : decode cX8_sum 28 = .ok (.iload 4, 2) := by decide +kernel
theorem dX8_sum_30 : decode cX8_sum 30 = .ok (.if_icmp .ge 19, 3) := by decide +kernel
theorem dX8_sum_33 : decode cX8_sum 33 = .ok (.iload_n 3, 1) := by decide +kernel
theorem dX8_sum_34 : decode cX8_sum 34 = .ok (.aload_n 0, 1) := by decide +kernel
theorem dX8_sum_35 : decode cX8_sum 35 = .ok (.getfield 9, 3) := by decide +kernel
theorem dX8_sum_38 : decode cX8_sum 38 = .ok (.iload 5, 2) := by decide +kernel
theorem dX8_sum_40 : decode cX8_sum 40 = .ok (.iaload, 1) := by decide +kernel
theorem dX8_sum_41 : decode cX8_sum 41 = .ok (.iadd, 1) := by decide +kernel
theorem dX8_sum_42 : decode cX8_sum 42 = .ok (.istore_n 3, 1) := by decide +kernel
theorem dX8_sum_43 : decode cX8_sum 43 = .ok (.iinc 5 1, 3) := by decide +kernel
theorem dX8_sum_46 : decode cX8_sum 46 = .ok (.goto (-20), 3) := by decide +kernel
theorem dX8_sum_49 : decode cX8_sum 49 = .ok (.iload_n 3, 1) := by decide +kernel
theorem dX8_sum_50 : decode cX8_sum 50 = .ok (.ireturn, 1) := by decide +kernel
theorem dX8_greatest_0 : decode cX8_greatest 0 = .ok (.iconst 0, 1) := by decide +kernel
theorem dX8_greatest_1 : decode cX8_greatest 1 = .ok (.istore_n 3, 1) := by decide +kernel
theorem dX8_greatest_2 : decode cX8_greatest 2 = .ok (.iload_n 1, 1) := by decide +kernel
theorem dX8_greatest_3 : decode cX8_greatest 3 = .ok (.iconst 4, 1) := by decide +kernel
theorem dX8_greatest_4 : decode cX8_greatest 4 = .ok (.imul, 1) := by decide +kernel
theorem dX8_greatest_5 : decode cX8_greatest 5 = .ok (.iload_n 2, 1) := by decide +kernel
theorem dX8_greatest_6 : decode cX8_greatest 6 = .ok (.iadd, 1) := by decide +kernel
theorem dX8_greatest_7 : decode cX8_greatest 7 = .ok (.aload_n 0, 1) := by decide +kernel
theorem dX8_greatest_8 : decode cX8_greatest 8 = .ok (.getfield 9, 3) := by decide +kernel
theorem dX8_greatest_11 : decode cX8_greatest 11 = .ok (.arraylength, 1) := by decide +kernel
theorem dX8_greatest_12 : decode cX8_greatest 12 = .ok (.invokestatic 28, 3) := by decide +kernel
theorem dX8_greatest_15 : decode cX8_greatest 15 = .ok (.istore 4, 2) := by decide +kernel
theorem dX8_greatest_17 : decode cX8_greatest 17 = .ok (.iload_n 1, 1) := by decide +kernel
theorem dX8_greatest_18 : decode cX8_greatest 18 = .ok (.iconst 0, 1) := by decide +kernel
theorem dX8_greatest_19 : decode cX8_greatest 19 = .ok (.invokestatic 34, 3) := by decide +kernel
theorem dX8_greatest_22 : decode cX8_greatest 22 = .ok (.iconst 4, 1) := by decide +kernel
theorem dX8_greatest_23 : decode cX8_greatest 23 = .ok (.imul, 1) := by decide +kernel
theorem dX8_greatest_24 : decode cX8_greatest 24 = .ok (.istore 5, 2) := by decide +kernel
theorem dX8_greatest_26 : decode cX8_greatest 26 = .ok (.iload 5, 2) := by decide +kernel
theorem dX8_greatest_28 : decode cX8_greatest 28 = .ok (.iload 4, 2) := by decide +kernel
theorem dX8_greatest_30 : decode cX8_greatest 30 = .ok (.if_icmp .ge 21, 3) := by decide +kernel
theorem dX8_greatest_33 : decode cX8_greatest 33 = .ok (.iload_n 3, 1) := by decide +kernel
theorem dX8_greatest_34 : decode cX8_greatest 34 = .ok (.aload_n 0, 1) := by decide +kernel
theorem dX8_greatest_35 : decode cX8_greatest 35 = .ok (.getfield 9, 3) := by decide +kernel
theorem dX8_greatest_38 : decode cX8_greatest 38 = .ok (.iload 5, 2) := by decide +kernel
theorem dX8_greatest_40 : decode cX8_greatest 40 = .ok (.iaload, 1) := by decide +kernel
theorem dX8_greatest_41 : decode cX8_greatest 41 = .ok (.invokestatic 34, 3) := by decide +kernel
theorem dX8_greatest_44 : decode cX8_greatest 44 = .ok (.istore_n 3, 1) := by decide +kernel
theorem dX8_greatest_45 : decode cX8_greatest 45 = .ok (.iinc 5 1, 3) := by decide +kernel
theorem dX8_greatest_48 : decode cX8_greatest 48 = .ok (.goto (-22), 3) := by decide +kernel
theorem dX8_greatest_51 : decode cX8_greatest 51 = .ok (.iload_n 3, 1) := by decide +kernel
theorem dX8_greatest_52 : decode cX8_greatest 52 = .ok (.ireturn, 1) := by decide +kernel
theorem dX8_least_0 : decode cX8_least 0 = .ok (.bipush 7, 2) := by decide +kernel
theorem dX8_least_2 : decode cX8_least 2 = .ok (.istore_n 3, 1) := by decide +kernel
theorem dX8_least_3 : decode cX8_least 3 = .ok (.iload_n 1, 1) := by decide +kernel
theorem dX8_least_4 : decode cX8_least 4 = .ok (.iconst 4, 1) := by decide +kernel
theorem dX8_least_5 : decode cX8_least 5 = .ok (.imul, 1) := by decide +kernel
theorem dX8_least_6 : decode cX8_least 6 = .ok (.iload_n 2, 1) := by decide +kernel
theorem dX8_least_7 : decode cX8_least 7 = .ok (.iadd, 1) := by decide +kernel
theorem dX8_least_8 : decode cX8_least 8 = .ok (.aload_n 0, 1) := by decide +kernel
theorem dX8_least_9 : decode cX8_least 9 = .ok (.getfield 9, 3) := by decide +kernel
theorem dX8_least_12 : decode cX8_least 12 = .ok (.arraylength, 1) := by decide +kernel
theorem dX8_least_13 : decode cX8_least 13 = .ok (.invokestatic 28, 3) := by decide +kernel
theorem dX8_least_16 : decode cX8_least 16 = .ok (.istore 4, 2) := by decide +kernel
theorem dX8_least_18 : decode cX8_least 18 = .ok (.iload_n 1, 1) := by decide +kernel
theorem dX8_least_19 : decode cX8_least 19 = .ok (.iconst 0, 1) := by decide +kernel
theorem dX8_least_20 : decode cX8_least 20 = .ok (.invokestatic 34, 3) := by decide +kernel
theorem dX8_least_23 : decode cX8_least 23 = .ok (.iconst 4, 1) := by decide +kernel
theorem dX8_least_24 : decode cX8_least 24 = .ok (.imul, 1) := by decide +kernel
theorem dX8_least_25 : decode cX8_least 25 = .ok (.istore 5, 2) := by decide +kernel
theorem dX8_least_27 : decode cX8_least 27 = .ok (.iload 5, 2) := by decide +kernel
theorem dX8_least_29 : decode cX8_least 29 = .ok (.iload 4, 2) := by decide +kernel
theorem dX8_least_31 : decode cX8_least 31 = .ok (.if_icmp .ge 21, 3) := by decide +kernel
theorem dX8_least_34 : decode cX8_least 34 = .ok (.iload_n 3, 1) := by decide +kernel
theorem dX8_least_35 : decode cX8_least 35 = .ok (.aload_n 0, 1) := by decide +kernel
theorem dX8_least_36 : decode cX8_least 36 = .ok (.getfield 9, 3) := by decide +kernel
theorem dX8_least_39 : decode cX8_least 39 = .ok (.iload 5, 2) := by decide +kernel
theorem dX8_least_41 : decode cX8_least 41 = .ok (.iaload, 1) := by decide +kernel
theorem dX8_least_42 : decode cX8_least 42 = .ok (.invokestatic 28, 3) := by decide +kernel
theorem dX8_least_45 : decode cX8_least 45 = .ok (.istore_n 3, 1) := by decide +kernel
theorem dX8_least_46 : decode cX8_least 46 = .ok (.iinc 5 1, 3) := by decide +kernel
theorem dX8_least_49 : decode cX8_least 49 = .ok (.goto (-22), 3) := by decide +kernel
theorem dX8_least_52 : decode cX8_least 52 = .ok (.iload_n 3, 1) := by decide +kernel
theorem dX8_least_53 : decode cX8_least 53 = .ok (.ireturn, 1) := by decide +kernel
theorem dX8_furthestArt_0 : decode cX8_furthestArt 0 = .ok (.iconst (-1), 1) := by decide +kernel
theorem dX8_furthestArt_1 : decode cX8_furthestArt 1 = .ok (.istore 4, 2) := by decide +kernel
theorem dX8_furthestArt_3 : decode cX8_furthestArt 3 = .ok (.iconst 0, 1) := by decide +kernel
theorem dX8_furthestArt_4 : decode cX8_furthestArt 4 = .ok (.istore 5, 2) := by decide +kernel
theorem dX8_furthestArt_6 : decode cX8_furthestArt 6 = .ok (.iload_n 1, 1) := by decide +kernel
theorem dX8_furthestArt_7 : decode cX8_furthestArt 7 = .ok (.iconst 0, 1) := by decide +kernel
theorem dX8_furthestArt_8 : decode cX8_furthestArt 8 = .ok (.invokestatic 34, 3) := by decide +kernel
theorem dX8_furthestArt_11 : decode cX8_furthestArt 11 = .ok (.iconst 4, 1) := by decide +kernel
theorem dX8_furthestArt_12 : decode cX8_furthestArt 12 = .ok (.imul, 1) := by decide +kernel
theorem dX8_furthestArt_13 : decode cX8_furthestArt 13 = .ok (.istore 6, 2) := by decide +kernel
theorem dX8_furthestArt_15 : decode cX8_furthestArt 15 = .ok (.iload_n 2, 1) := by decide +kernel
theorem dX8_furthestArt_16 : decode cX8_furthestArt 16 = .ok (.iconst 0, 1) := by decide +kernel
theorem dX8_furthestArt_17 : decode cX8_furthestArt 17 = .ok (.invokestatic 34, 3) := by decide +kernel
theorem dX8_furthestArt_20 : decode cX8_furthestArt 20 = .ok (.iconst 4, 1) := by decide +kernel
theorem dX8_furthestArt_21 : decode cX8_furthestArt 21 = .ok (.imul, 1) := by decide +kernel
theorem dX8_furthestArt_22 : decode cX8_furthestArt 22 = .ok (.istore 7, 2) := by decide +kernel
theorem dX8_furthestArt_24 : decode cX8_furthestArt 24 = .ok (.iconst 0, 1) := by decide +kernel
theorem dX8_furthestArt_25 : decode cX8_furthestArt 25 = .ok (.istore 8, 2) := by decide +kernel
theorem dX8_furthestArt_27 : decode cX8_furthestArt 27 = .ok (.iload 8, 2) := by decide +kernel
theorem dX8_furthestArt_29 : decode cX8_furthestArt 29 = .ok (.iload_n 3, 1) := by decide +kernel
theorem dX8_furthestArt_30 : decode cX8_furthestArt 30 = .ok (.if_icmp .ge 73, 3) := by decide +kernel
theorem dX8_furthestArt_33 : decode cX8_furthestArt 33 = .ok (.iload 6, 2) := by decide +kernel
theorem dX8_furthestArt_35 : decode cX8_furthestArt 35 = .ok (.iload 8, 2) := by decide +kernel
theorem dX8_furthestArt_37 : decode cX8_furthestArt 37 = .ok (.iadd, 1) := by decide +kernel
theorem dX8_furthestArt_38 : decode cX8_furthestArt 38 = .ok (.aload_n 0, 1) := by decide +kernel
theorem dX8_furthestArt_39 : decode cX8_furthestArt 39 = .ok (.getfield 9, 3) := by decide +kernel
theorem dX8_furthestArt_42 : decode cX8_furthestArt 42 = .ok (.arraylength, 1) := by decide +kernel
theorem dX8_furthestArt_43 : decode cX8_furthestArt 43 = .ok (.if_icmp .ge 60, 3) := by decide +kernel
theorem dX8_furthestArt_46 : decode cX8_furthestArt 46 = .ok (.iload 7, 2) := by decide +kernel
theorem dX8_furthestArt_48 : decode cX8_furthestArt 48 = .ok (.iload 8, 2) := by decide +kernel
theorem dX8_furthestArt_50 : decode cX8_furthestArt 50 = .ok (.iadd, 1) := by decide +kernel
theorem dX8_furthestArt_51 : decode cX8_furthestArt 51 = .ok (.aload_n 0, 1) := by decide +kernel
theorem dX8_furthestArt_52 : decode cX8_furthestArt 52 = .ok (.getfield 9, 3) := by decide +kernel
theorem dX8_furthestArt_55 : decode cX8_furthestArt 55 = .ok (.arraylength, 1) := by decide +kernel
theorem dX8_furthestArt_56 : decode cX8_furthestArt 56 = .ok (.if_icmp .ge 47, 3) := by decide +kernel
theorem dX8_furthestArt_59 : decode cX8_furthestArt 59 = .ok (.aload_n 0, 1) := by decide +kernel
theorem dX8_furthestArt_60 : decode cX8_furthestArt 60 = .ok (.getfield 9, 3) := by decide +kernel
theorem dX8_furthestArt_63 : decode cX8_furthestArt 63 = .ok (.iload 6, 2) := by decide +kernel
theorem dX8_furthestArt_65 : decode cX8_furthestArt 65 = .ok (.iload 8, 2) := by decide +kernel
theorem dX8_furthestArt_67 : decode cX8_furthestArt 67 = .ok (.iadd, 1) := by decide +kernel
theorem dX8_furthestArt_68 : decode cX8_furthestArt 68 = .ok (.iaload, 1) := by decide +kernel
theorem dX8_furthestArt_69 : decode cX8_furthestArt 69 = .ok (.aload_n 0, 1) := by decide +kernel
theorem dX8_furthestArt_70 : decode cX8_furthestArt 70 = .ok (.getfield 9, 3) := by decide +kernel
theorem dX8_furthestArt_73 : decode cX8_furthestArt 73 = .ok (.iload 7, 2) := by decide +kernel
theorem dX8_furthestArt_75 : decode cX8_furthestArt 75 = .ok (.iload 8, 2) := by decide +kernel
theorem dX8_furthestArt_77 : decode cX8_furthestArt 77 = .ok (.iadd, 1) := by decide +kernel
theorem dX8_furthestArt_78 : decode cX8_furthestArt 78 = .ok (.iaload, 1) := by decide +kernel
theorem dX8_furthestArt_79 : decode cX8_furthestArt 79 = .ok (.isub, 1) := by decide +kernel
theorem dX8_furthestArt_80 : decode cX8_furthestArt 80 = .ok (.istore 9, 2) := by decide +kernel
theorem dX8_furthestArt_82 : decode cX8_furthestArt 82 = .ok (.iload 9, 2) := by decide +kernel
theorem dX8_furthestArt_84 : decode cX8_furthestArt 84 = .ok (.iload 5, 2) := by decide +kernel
theorem dX8_furthestArt_86 : decode cX8_furthestArt 86 = .ok (.if_icmp .le 11, 3) := by decide +kernel
theorem dX8_furthestArt_89 : decode cX8_furthestArt 89 = .ok (.iload 9, 2) := by decide +kernel
theorem dX8_furthestArt_91 : decode cX8_furthestArt 91 = .ok (.istore 5, 2) := by decide +kernel
theorem dX8_furthestArt_93 : decode cX8_furthestArt 93 = .ok (.iload 8, 2) := by decide +kernel
theorem dX8_furthestArt_95 : decode cX8_furthestArt 95 = .ok (.istore 4, 2) := by decide +kernel
theorem dX8_furthestArt_97 : decode cX8_furthestArt 97 = .ok (.iinc 8 1, 3) := by decide +kernel
theorem dX8_furthestArt_100 : decode cX8_furthestArt 100 = .ok (.goto (-73), 3) := by decide +kernel
theorem dX8_furthestArt_103 : decode cX8_furthestArt 103 = .ok (.iload 4, 2) := by decide +kernel
theorem dX8_furthestArt_105 : decode cX8_furthestArt 105 = .ok (.ireturn, 1) := by decide +kernel
theorem dX8_copy_0 : decode cX8_copy 0 = .ok (.aload_n 1, 1) := by decide +kernel
theorem dX8_copy_1 : decode cX8_copy 1 = .ok (.getfield 9, 3) := by decide +kernel
theorem dX8_copy_4 : decode cX8_copy 4 = .ok (.iconst 0, 1) := by decide +kernel
theorem dX8_copy_5 : decode cX8_copy 5 = .ok (.aload_n 0, 1) := by decide +kernel
theorem dX8_copy_6 : decode cX8_copy 6 = .ok (.getfield 9, 3) := by decide +kernel
theorem dX8_copy_9 : decode cX8_copy 9 = .ok (.iconst 0, 1) := by decide +kernel
theorem dX8_copy_10 : decode cX8_copy 10 = .ok (.aload_n 0, 1) := by decide +kernel
theorem dX8_copy_11 : decode cX8_copy 11 = .ok (.getfield 9, 3) := by decide +kernel
theorem dX8_copy_14 : decode cX8_copy 14 = .ok (.arraylength, 1) := by decide +kernel
theorem dX8_copy_15 : decode cX8_copy 15 = .ok (.invokestatic 37, 3) := by decide +kernel
theorem dX8_copy_18 : decode cX8_copy 18 = .ok (.aload_n 1, 1) := by decide +kernel
theorem dX8_copy_19 : decode cX8_copy 19 = .ok (.getfield 15, 3) := by decide +kernel
theorem dX8_copy_22 : decode cX8_copy 22 = .ok (.iconst 0, 1) := by decide +kernel
theorem dX8_copy_23 : decode cX8_copy 23 = .ok (.aload_n 0, 1) := by decide +kernel
theorem dX8_copy_24 : decode cX8_copy 24 = .ok (.getfield 15, 3) := by decide +kernel
theorem dX8_copy_27 : decode cX8_copy 27 = .ok (.iconst 0, 1) := by decide +kernel
theorem dX8_copy_28 : decode cX8_copy 28 = .ok (.bipush 8, 2) := by decide +kernel
theorem dX8_copy_30 : decode cX8_copy 30 = .ok (.invokestatic 37, 3) := by decide +kernel
theorem dX8_copy_33 : decode cX8_copy 33 = .ok (.aload_n 1, 1) := by decide +kernel
theorem dX8_copy_34 : decode cX8_copy 34 = .ok (.getfield 18, 3) := by decide +kernel
theorem dX8_copy_37 : decode cX8_copy 37 = .ok (.iconst 0, 1) := by decide +kernel
theorem dX8_copy_38 : decode cX8_copy 38 = .ok (.aload_n 0, 1) := by decide +kernel
theorem dX8_copy_39 : decode cX8_copy 39 = .ok (.getfield 18, 3) := by decide +kernel
theorem dX8_copy_42 : decode cX8_copy 42 = .ok (.iconst 0, 1) := by decide +kernel
theorem dX8_copy_43 : decode cX8_copy 43 = .ok (.bipush 8, 2) := by decide +kernel
theorem dX8_copy_45 : decode cX8_copy 45 = .ok (.invokestatic 37, 3) := by decide +kernel
theorem dX8_copy_48 : decode cX8_copy 48 = .ok (.aload_n 1, 1) := by decide +kernel
theorem dX8_copy_49 : decode cX8_copy 49 = .ok (.getfield 21, 3) := by decide +kernel
theorem dX8_copy_52 : decode cX8_copy 52 = .ok (.iconst 0, 1) := by decide +kernel
theorem dX8_copy_53 : decode cX8_copy 53 = .ok (.aload_n 0, 1) := by decide +kernel
theorem dX8_copy_54 : decode cX8_copy 54 = .ok (.getfield 21, 3) := by decide +kernel
theorem dX8_copy_57 : decode cX8_copy 57 = .ok (.iconst 0, 1) := by decide +kernel
theorem dX8_copy_58 : decode cX8_copy 58 = .ok (.bipush 8, 2) := by decide +kernel
theorem dX8_copy_60 : decode cX8_copy 60 = .ok (.invokestatic 37, 3) := by decide +kernel
theorem dX8_copy_63 : decode cX8_copy 63 = .ok (.aload_n 0, 1) := by decide +kernel
theorem dX8_copy_64 : decode cX8_copy 64 = .ok (.aload_n 1, 1) := by decide +kernel
theorem dX8_copy_65 : decode cX8_copy 65 = .ok (.getfield 24, 3) := by decide +kernel
theorem dX8_copy_68 : decode cX8_copy 68 = .ok (.putfield 24, 3) := by decide +kernel
theorem dX8_copy_71 : decode cX8_copy 71 = .ok (.return_, 1) := by decide +kernel
theorem dX8_copySkills_0 : decode cX8_copySkills 0 = .ok (.iconst 0, 1) := by decide +kernel
theorem dX8_copySkills_1 : decode cX8_copySkills 1 = .ok (.istore_n 3, 1) := by decide +kernel
theorem dX8_copySkills_2 : decode cX8_copySkills 2 = .ok (.iload_n 3, 1) := by decide +kernel
theorem dX8_copySkills_3 : decode cX8_copySkills 3 = .ok (.iconst 4, 1) := by decide +kernel
theorem dX8_copySkills_4 : decode cX8_copySkills 4 = .ok (.if_icmp .ge 21, 3) := by decide +kernel
theorem dX8_copySkills_7 : decode cX8_copySkills 7 = .ok (.aload_n 0, 1) := by decide +kernel
theorem dX8_copySkills_8 : decode cX8_copySkills 8 = .ok (.iload_n 2, 1) := by decide +kernel
theorem dX8_copySkills_9 : decode cX8_copySkills 9 = .ok (.iload_n 3, 1) := by decide +kernel
theorem dX8_copySkills_10 : decode cX8_copySkills 10 = .ok (.aload_n 1, 1) := by decide +kernel
theorem dX8_copySkills_11 : decode cX8_copySkills 11 = .ok (.iload_n 2, 1) := by decide +kernel
theorem dX8_copySkills_12 : decode cX8_copySkills 12 = .ok (.iload_n 3, 1) := by decide +kernel
theorem dX8_copySkills_13 : decode cX8_copySkills 13 = .ok (.invokevirtual 43, 3) := by decide +kernel
theorem dX8_copySkills_16 : decode cX8_copySkills 16 = .ok (.invokevirtual 46, 3) := by decide +kernel
theorem dX8_copySkills_19 : decode cX8_copySkills 19 = .ok (.iinc 3 1, 3) := by decide +kernel
theorem dX8_copySkills_22 : decode cX8_copySkills 22 = .ok (.goto (-20), 3) := by decide +kernel
theorem dX8_copySkills_25 : decode cX8_copySkills 25 = .ok (.return_, 1) := by decide +kernel
theorem dX8_clearSide_0 : decode cX8_clearSide 0 = .ok (.iconst 0, 1) := by decide +kernel
theorem dX8_clearSide_1 : decode cX8_clearSide 1 = .ok (.istore_n 2, 1) := by decide +kernel
theorem dX8_clearSide_2 : decode cX8_clearSide 2 = .ok (.iload_n 2, 1) := by decide +kernel
theorem dX8_clearSide_3 : decode cX8_clearSide 3 = .ok (.iconst 4, 1) := by decide +kernel
theorem dX8_clearSide_4 : decode cX8_clearSide 4 = .ok (.if_icmp .ge 16, 3) := by decide +kernel
theorem dX8_clearSide_7 : decode cX8_clearSide 7 = .ok (.aload_n 0, 1) := by decide +kernel
theorem dX8_clearSide_8 : decode cX8_clearSide 8 = .ok (.iload_n 1, 1) := by decide +kernel
theorem dX8_clearSide_9 : decode cX8_clearSide 9 = .ok (.iload_n 2, 1) := by decide +kernel
theorem dX8_clearSide_10 : decode cX8_clearSide 10 = .ok (.iconst 0, 1) := by decide +kernel
theorem dX8_clearSide_11 : decode cX8_clearSide 11 = .ok (.invokevirtual 46, 3) := by decide +kernel
theorem dX8_clearSide_14 : decode cX8_clearSide 14 = .ok (.iinc 2 1, 3) := by decide +kernel
theorem dX8_clearSide_17 : decode cX8_clearSide 17 = .ok (.goto (-15), 3) := by decide +kernel
theorem dX8_clearSide_20 : decode cX8_clearSide 20 = .ok (.aload_n 0, 1) := by decide +kernel
theorem dX8_clearSide_21 : decode cX8_clearSide 21 = .ok (.getfield 15, 3) := by decide +kernel
theorem dX8_clearSide_24 : decode cX8_clearSide 24 = .ok (.iload_n 1, 1) := by decide +kernel
theorem dX8_clearSide_25 : decode cX8_clearSide 25 = .ok (.iconst 0, 1) := by decide +kernel
theorem dX8_clearSide_26 : decode cX8_clearSide 26 = .ok (.iastore, 1) := by decide +kernel
theorem dX8_clearSide_27 : decode cX8_clearSide 27 = .ok (.aload_n 0, 1) := by decide +kernel
theorem dX8_clearSide_28 : decode cX8_clearSide 28 = .ok (.getfield 18, 3) := by decide +kernel
theorem dX8_clearSide_31 : decode cX8_clearSide 31 = .ok (.iload_n 1, 1) := by decide +kernel
theorem dX8_clearSide_32 : decode cX8_clearSide 32 = .ok (.iconst 0, 1) := by decide +kernel
theorem dX8_clearSide_33 : decode cX8_clearSide 33 = .ok (.iastore, 1) := by decide +kernel
theorem dX8_clearSide_34 : decode cX8_clearSide 34 = .ok (.aload_n 0, 1) := by decide +kernel
theorem dX8_clearSide_35 : decode cX8_clearSide 35 = .ok (.getfield 21, 3) := by decide +kernel
theorem dX8_clearSide_38 : decode cX8_clearSide 38 = .ok (.iload_n 1, 1) := by decide +kernel
theorem dX8_clearSide_39 : decode cX8_clearSide 39 = .ok (.iconst 0, 1) := by decide +kernel
theorem dX8_clearSide_40 : decode cX8_clearSide 40 = .ok (.iastore, 1) := by decide +kernel
theorem dX8_clearSide_41 : decode cX8_clearSide 41 = .ok (.return_, 1) := by decide +kernel
theorem dX9_init_0 : decode cX9_init 0 = .ok (.aload_n 0, 1) := by decide +kernel
theorem dX9_init_1 : decode cX9_init 1 = .ok (.invokespecial 3, 3) := by decide +kernel
theorem dX9_init_4 : decode cX9_init 4 = .ok (.aload_n 0, 1) := by decide +kernel
theorem dX9_init_5 : decode cX9_init 5 = .ok (.sipush 3000, 3) := by decide +kernel
theorem dX9_init_8 : decode cX9_init 8 = .ok (.newarray .long, 2) := by decide +kernel
theorem dX9_init_10 : decode cX9_init 10 = .ok (.putfield 11, 3) := by decide +kernel
theorem dX9_init_13 : decode cX9_init 13 = .ok (.aload_n 0, 1) := by decide +kernel
theorem dX9_init_14 : decode cX9_init 14 = .ok (.sipush 3000, 3) := by decide +kernel
theorem dX9_init_17 : decode cX9_init 17 = .ok (.newarray .long, 2) := by decide +kernel
theorem dX9_init_19 : decode cX9_init 19 = .ok (.putfield 15, 3) := by decide +kernel
theorem dX9_init_22 : decode cX9_init 22 = .ok (.aload_n 0, 1) := by decide +kernel
theorem dX9_init_23 : decode cX9_init 23 = .ok (.sipush 8192, 3) := by decide +kernel
theorem dX9_init_26 : decode cX9_init 26 = .ok (.newarray .int, 2) := by decide +kernel
theorem dX9_init_28 : decode cX9_init 28 = .ok (.putfield 18, 3) := by decide +kernel
theorem dX9_init_31 : decode cX9_init 31 = .ok (.aload_n 0, 1) := by decide +kernel
theorem dX9_init_32 : decode cX9_init 32 = .ok (.sipush 3000, 3) := by decide +kernel
theorem dX9_init_35 : decode cX9_init 35 = .ok (.newarray .int, 2) := by decide +kernel
theorem dX9_init_37 : decode cX9_init 37 = .ok (.putfield 22, 3) := by decide +kernel
theorem dX9_init_40 : decode cX9_init 40 = .ok (.aload_n 0, 1) := by decide +kernel
theorem dX9_init_41 : decode cX9_init 41 = .ok (.iconst 0, 1) := by decide +kernel
theorem dX9_init_42 : decode cX9_init 42 = .ok (.putfield 25, 3) := by decide +kernel
theorem dX9_init_45 : decode cX9_init 45 = .ok (.aload_n 0, 1) := by decide +kernel
theorem dX9_init_46 : decode cX9_init 46 = .ok (.iconst 0, 1) := by decide +kernel
theorem dX9_init_47 : decode cX9_init 47 = .ok (.putfield 29, 3) := by decide +kernel
theorem dX9_init_50 : decode cX9_init 50 = .ok (.return_, 1) := by decide +kernel
theorem dX9_clear_0 : decode cX9_clear 0 = .ok (.iconst 0, 1) := by decide +kernel
theorem dX9_clear_1 : decode cX9_clear 1 = .ok (.istore_n 1, 1) := by decide +kernel
theorem dX9_clear_2 : decode cX9_clear 2 = .ok (.iload_n 1, 1) := by decide +kernel
theorem dX9_clear_3 : decode cX9_clear 3 = .ok (.aload_n 0, 1) := by decide +kernel
theorem dX9_clear_4 : decode cX9_clear 4 = .ok (.getfield 25, 3) := by decide +kernel
theorem dX9_clear_7 : decode cX9_clear 7 = .ok (.if_icmp .ge 21, 3) := by decide +kernel
theorem dX9_clear_10 : decode cX9_clear 10 = .ok (.aload_n 0, 1) := by decide +kernel
theorem dX9_clear_11 : decode cX9_clear 11 = .ok (.getfield 18, 3) := by decide +kernel
theorem dX9_clear_14 : decode cX9_clear 14 = .ok (.aload_n 0, 1) := by decide +kernel
theorem dX9_clear_15 : decode cX9_clear 15 = .ok (.getfield 22, 3) := by decide +kernel
theorem dX9_clear_18 : decode cX9_clear 18 = .ok (.iload_n 1, 1) := by decide +kernel
theorem dX9_clear_19 : decode cX9_clear 19 = .ok (.iaload, 1) := by decide +kernel
theorem dX9_clear_20 : decode cX9_clear 20 = .ok (.iconst 0, 1) := by decide +kernel
theorem dX9_clear_21 : decode cX9_clear 21 = .ok (.iastore, 1) := by decide +kernel
theorem dX9_clear_22 : decode cX9_clear 22 = .ok (.iinc 1 1, 3) := by decide +kernel
theorem dX9_clear_25 : decode cX9_clear 25 = .ok (.goto (-23), 3) := by decide +kernel
theorem dX9_clear_28 : decode cX9_clear 28 = .ok (.aload_n 0, 1) := by decide +kernel
theorem dX9_clear_29 : decode cX9_clear 29 = .ok (.iconst 0, 1) := by decide +kernel
theorem dX9_clear_30 : decode cX9_clear 30 = .ok (.putfield 25, 3) := by decide +kernel
theorem dX9_clear_33 : decode cX9_clear 33 = .ok (.return_, 1) := by decide +kernel
theorem dX9_put_0 : decode cX9_put 0 = .ok (.lload_n 1, 1) := by decide +kernel
theorem dX9_put_1 : decode cX9_put 1 = .ok (.ldc2_w 33, 3) := by decide +kernel
theorem dX9_put_4 : decode cX9_put 4 = .ok (.lmul, 1) := by decide +kernel
theorem dX9_put_5 : decode cX9_put 5 = .ok (.lload_n 3, 1) := by decide +kernel
theorem dX9_put_6 : decode cX9_put 6 = .ok (.ldc2_w 35, 3) := by decide +kernel
theorem dX9_put_9 : decode cX9_put 9 = .ok (.lmul, 1) := by decide +kernel
theorem dX9_put_10 : decode cX9_put 10 = .ok (.lxor, 1) := by decide +kernel
theorem dX9_put_11 : decode cX9_put 11 = .ok (.bipush 40, 2) := by decide +kernel
theorem dX9_put_13 : decode cX9_put 13 = .ok (.lushr, 1) := by decide +kernel
theorem dX9_put_14 : decode cX9_put 14 = .ok (.l2i, 1) := by decide +kernel
theorem dX9_put_15 : decode cX9_put 15 = .ok (.sipush 8191, 3) := by decide +kernel
theorem dX9_put_18 : decode cX9_put 18 = .ok (.iand, 1) := by decide +kernel
theorem dX9_put_19 : decode cX9_put 19 = .ok (.istore 5, 2) := by decide +kernel
theorem dX9_put_21 : decode cX9_put 21 = .ok (.aload_n 0, 1) := by decide +kernel
theorem dX9_put_22 : decode cX9_put 22 = .ok (.iconst 0, 1) := by decide +kernel
theorem dX9_put_23 : decode cX9_put 23 = .ok (.putfield 29, 3) := by decide +kernel
theorem dX9_put_26 : decode cX9_put 26 = .ok (.iconst 0, 1) := by decide +kernel
theorem dX9_put_27 : decode cX9_put 27 = .ok (.istore 6, 2) := by decide +kernel
theorem dX9_put_29 : decode cX9_put 29 = .ok (.iload 6, 2) := by decide +kernel
theorem dX9_put_31 : decode cX9_put 31 = .ok (.sipush 8192, 3) := by decide +kernel
theorem dX9_put_34 : decode cX9_put 34 = .ok (.if_icmp .ge 67, 3) := by decide +kernel
theorem dX9_put_37 : decode cX9_put 37 = .ok (.aload_n 0, 1) := by decide +kernel
theorem dX9_put_38 : decode cX9_put 38 = .ok (.getfield 18, 3) := by decide +kernel
theorem dX9_put_41 : decode cX9_put 41 = .ok (.iload 5, 2) := by decide +kernel
theorem dX9_put_43 : decode cX9_put 43 = .ok (.iaload, 1) := by decide +kernel
theorem dX9_put_44 : decode cX9_put 44 = .ok (.ifCond .eq 57, 3) := by decide +kernel
theorem dX9_put_47 : decode cX9_put 47 = .ok (.aload_n 0, 1) := by decide +kernel
theorem dX9_put_48 : decode cX9_put 48 = .ok (.getfield 18, 3) := by decide +kernel
theorem dX9_put_51 : decode cX9_put 51 = .ok (.iload 5, 2) := by decide +kernel
theorem dX9_put_53 : decode cX9_put 53 = .ok (.iaload, 1) := by decide +kernel
theorem dX9_put_54 : decode cX9_put 54 = .ok (.iconst 1, 1) := by decide +kernel
theorem dX9_put_55 : decode cX9_put 55 = .ok (.isub, 1) := by decide +kernel
theorem dX9_put_56 : decode cX9_put 56 = .ok (.istore 7, 2) := by decide +kernel
theorem dX9_put_58 : decode cX9_put 58 = .ok (.aload_n 0, 1) := by decide +kernel
theorem dX9_put_59 : decode cX9_put 59 = .ok (.getfield 11, 3) := by decide +kernel
theorem dX9_put_62 : decode cX9_put 62 = .ok (.iload 7, 2) := by decide +kernel
theorem dX9_put_64 : decode cX9_put 64 = .ok (.laload, 1) := by decide +kernel
theorem dX9_put_65 : decode cX9_put 65 = .ok (.lload_n 1, 1) := by decide +kernel
theorem dX9_put_66 : decode cX9_put 66 = .ok (.lcmp, 1) := by decide +kernel
theorem dX9_put_67 : decode cX9_put 67 = .ok (.ifCond .ne 18, 3) := by decide +kernel
theorem dX9_put_70 : decode cX9_put 70 = .ok (.aload_n 0, 1) := by decide +kernel
theorem dX9_put_71 : decode cX9_put 71 = .ok (.getfield 15, 3) := by decide +kernel
theorem dX9_put_74 : decode cX9_put 74 = .ok (.iload 7, 2) := by decide +kernel
theorem dX9_put_76 : decode cX9_put 76 = .ok (.laload, 1) := by decide +kernel
theorem dX9_put_77 : decode cX9_put 77 = .ok (.lload_n 3, 1) := by decide +kernel
theorem dX9_put_78 : decode cX9_put 78 = .ok (.lcmp, 1) := by decide +kernel
theorem dX9_put_79 : decode cX9_put 79 = .ok (.ifCond .ne 6, 3) := by decide +kernel
theorem dX9_put_82 : decode cX9_put 82 = .ok (.iload 7, 2) := by decide +kernel
theorem dX9_put_84 : decode cX9_put 84 = .ok (.ireturn, 1) := by decide +kernel
theorem dX9_put_85 : decode cX9_put 85 = .ok (.iload 5, 2) := by decide +kernel
theorem dX9_put_87 : decode cX9_put 87 = .ok (.iconst 1, 1) := by decide +kernel
theorem dX9_put_88 : decode cX9_put 88 = .ok (.iadd, 1) := by decide +kernel
theorem dX9_put_89 : decode cX9_put 89 = .ok (.sipush 8191, 3) := by decide +kernel
theorem dX9_put_92 : decode cX9_put 92 = .ok (.iand, 1) := by decide +kernel
theorem dX9_put_93 : decode cX9_put 93 = .ok (.istore 5, 2) := by decide +kernel
theorem dX9_put_95 : decode cX9_put 95 = .ok (.iinc 6 1, 3) := by decide +kernel
theorem dX9_put_98 : decode cX9_put 98 = .ok (.goto (-69), 3) := by decide +kernel
theorem dX9_put_101 : decode cX9_put 101 = .ok (.aload_n 0, 1) := by decide +kernel
theorem dX9_put_102 : decode cX9_put 102 = .ok (.getfield 25, 3) := by decide +kernel
theorem dX9_put_105 : decode cX9_put 105 = .ok (.sipush 3000, 3) := by decide +kernel
theorem dX9_put_108 : decode cX9_put 108 = .ok (.if_icmp .lt 5, 3) := by decide +kernel
theorem dX9_put_111 : decode cX9_put 111 = .ok (.iconst (-1), 1) := by decide +kernel
theorem dX9_put_112 : decode cX9_put 112 = .ok (.ireturn, 1) := by decide +kernel
theorem dX9_put_113 : decode cX9_put 113 = .ok (.aload_n 0, 1) := by decide +kernel
theorem dX9_put_114 : decode cX9_put 114 = .ok (.getfield 11, 3) := by decide +kernel
theorem dX9_put_117 : decode cX9_put 117 = .ok (.aload_n 0, 1) := by decide +kernel
theorem dX9_put_118 : decode cX9_put 118 = .ok (.getfield 25, 3) := by decide +kernel
theorem dX9_put_121 : decode cX9_put 121 = .ok (.lload_n 1, 1) := by decide +kernel
theorem dX9_put_122 : decode cX9_put 122 = .ok (.lastore, 1) := by decide +kernel
theorem dX9_put_123 : decode cX9_put 123 = .ok (.aload_n 0, 1) := by decide +kernel
theorem dX9_put_124 : decode cX9_put 124 = .ok (.getfield 15, 3) := by decide +kernel
theorem dX9_put_127 : decode cX9_put 127 = .ok (.aload_n 0, 1) := by decide +kernel
theorem dX9_put_128 : decode cX9_put 128 = .ok (.getfield 25, 3) := by decide +kernel
theorem dX9_put_131 : decode cX9_put 131 = .ok (.lload_n 3, 1) := by decide +kernel
theorem dX9_put_132 : decode cX9_put 132 = .ok (.lastore, 1) := by decide +kernel
theorem dX9_put_133 : decode cX9_put 133 = .ok (.aload_n 0, 1) := by decide +kernel
theorem dX9_put_134 : decode cX9_put 134 = .ok (.getfield 22, 3) := by decide +kernel
theorem dX9_put_137 : decode cX9_put 137 = .ok (.aload_n 0, 1) := by decide +kernel
theorem dX9_put_138 : decode cX9_put 138 = .ok (.getfield 25, 3) := by decide +kernel
theorem dX9_put_141 : decode cX9_put 141 = .ok (.iload 5, 2) := by decide +kernel
theorem dX9_put_143 : decode cX9_put 143 = .ok (.iastore, 1) := by decide +kernel
theorem dX9_put_144 : decode cX9_put 144 = .ok (.aload_n 0, 1) := by decide +kernel
theorem dX9_put_145 : decode cX9_put 145 = .ok (.dup, 1) := by decide +kernel
theorem dX9_put_146 : decode cX9_put 146 = .ok (.getfield 25, 3) := by decide +kernel
theorem dX9_put_149 : decode cX9_put 149 = .ok (.iconst 1, 1) := by decide +kernel
theorem dX9_put_150 : decode cX9_put 150 = .ok (.iadd, 1) := by decide +kernel
theorem dX9_put_151 : decode cX9_put 151 = .ok (.putfield 25, 3) := by decide +kernel
theorem dX9_put_154 : decode cX9_put 154 = .ok (.aload_n 0, 1) := by decide +kernel
theorem dX9_put_155 : decode cX9_put 155 = .ok (.getfield 18, 3) := by decide +kernel
theorem dX9_put_158 : decode cX9_put 158 = .ok (.iload 5, 2) := by decide +kernel
theorem dX9_put_160 : decode cX9_put 160 = .ok (.aload_n 0, 1) := by decide +kernel
theorem dX9_put_161 : decode cX9_put 161 = .ok (.getfield 25, 3) := by decide +kernel
theorem dX9_put_164 : decode cX9_put 164 = .ok (.iastore, 1) := by decide +kernel
theorem dX9_put_165 : decode cX9_put 165 = .ok (.aload_n 0, 1) := by decide +kernel
theorem dX9_put_166 : decode cX9_put 166 = .ok (.iconst 1, 1) := by decide +kernel
theorem dX9_put_167 : decode cX9_put 167 = .ok (.putfield 29, 3) := by decide +kernel
theorem dX9_put_170 : decode cX9_put 170 = .ok (.aload_n 0, 1) := by decide +kernel
theorem dX9_put_171 : decode cX9_put 171 = .ok (.getfield 25, 3) := by decide +kernel
theorem dX9_put_174 : decode cX9_put 174 = .ok (.iconst 1, 1) := by decide +kernel
theorem dX9_put_175 : decode cX9_put 175 = .ok (.isub, 1) := by decide +kernel
theorem dX9_put_176 : decode cX9_put 176 = .ok (.ireturn, 1) := by decide +kernel
theorem dX9_putSkillsOf_0 : decode cX9_putSkillsOf 0 = .ok (.lconst 0, 1) := by decide +kernel
theorem dX9_putSkillsOf_1 : decode cX9_putSkillsOf 1 = .ok (.lstore_n 2, 1) := by decide +kernel
theorem dX9_putSkillsOf_2 : decode cX9_putSkillsOf 2 = .ok (.lconst 0, 1) := by decide +kernel
theorem dX9_putSkillsOf_3 : decode cX9_putSkillsOf 3 = .ok (.lstore 4, 2) := by decide +kernel
theorem dX9_putSkillsOf_5 : decode cX9_putSkillsOf 5 = .ok (.iconst 0, 1) := by decide +kernel
theorem dX9_putSkillsOf_6 : decode cX9_putSkillsOf 6 = .ok (.istore 6, 2) := by decide +kernel
theorem dX9_putSkillsOf_8 : decode cX9_putSkillsOf 8 = .ok (.iload 6, 2) := by decide +kernel
theorem dX9_putSkillsOf_10 : decode cX9_putSkillsOf 10 = .ok (.iconst 4, 1) := by decide +kernel
theorem dX9_putSkillsOf_11 : decode cX9_putSkillsOf 11 = .ok (.if_icmp .ge 31, 3) := by decide +kernel
theorem dX9_putSkillsOf_14 : decode cX9_putSkillsOf 14 = .ok (.lload_n 2, 1) := by decide +kernel
theorem dX9_putSkillsOf_15 : decode cX9_putSkillsOf 15 = .ok (.aload_n 1, 1) := by decide +kernel
theorem dX9_putSkillsOf_16 : decode cX9_putSkillsOf 16 = .ok (.iload 6, 2) := by decide +kernel
theorem dX9_putSkillsOf_18 : decode cX9_putSkillsOf 18 = .ok (.invokestatic 37, 3) := by decide +kernel
theorem dX9_putSkillsOf_21 : decode cX9_putSkillsOf 21 = .ok (.lor, 1) := by decide +kernel
theorem dX9_putSkillsOf_22 : decode cX9_putSkillsOf 22 = .ok (.lstore_n 2, 1) := by decide +kernel
theorem dX9_putSkillsOf_23 : decode cX9_putSkillsOf 23 = .ok (.lload 4, 2) := by decide +kernel
theorem dX9_putSkillsOf_25 : decode cX9_putSkillsOf 25 = .ok (.aload_n 1, 1) := by decide +kernel
theorem dX9_putSkillsOf_26 : decode cX9_putSkillsOf 26 = .ok (.iload 6, 2) := by decide +kernel
theorem dX9_putSkillsOf_28 : decode cX9_putSkillsOf 28 = .ok (.iconst 4, 1) := by decide +kernel
theorem dX9_putSkillsOf_29 : decode cX9_putSkillsOf 29 = .ok (.iadd, 1) := by decide +kernel
theorem dX9_putSkillsOf_30 : decode cX9_putSkillsOf 30 = .ok (.invokestatic 37, 3) := by decide +kernel
theorem dX9_putSkillsOf_33 : decode cX9_putSkillsOf 33 = .ok (.lor, 1) := by decide +kernel
theorem dX9_putSkillsOf_34 : decode cX9_putSkillsOf 34 = .ok (.lstore 4, 2) := by decide +kernel
theorem dX9_putSkillsOf_36 : decode cX9_putSkillsOf 36 = .ok (.iinc 6 1, 3) := by decide +kernel
theorem dX9_putSkillsOf_39 : decode cX9_putSkillsOf 39 = .ok (.goto (-31), 3) := by decide +kernel
theorem dX9_putSkillsOf_42 : decode cX9_putSkillsOf 42 = .ok (.aload_n 0, 1) := by decide +kernel
theorem dX9_putSkillsOf_43 : decode cX9_putSkillsOf 43 = .ok (.lload_n 2, 1) := by decide +kernel
theorem dX9_putSkillsOf_44 : decode cX9_putSkillsOf 44 = .ok (.lload 4, 2) := by decide +kernel
theorem dX9_putSkillsOf_46 : decode cX9_putSkillsOf 46 = .ok (.invokevirtual 41, 3) := by decide +kernel
theorem dX9_putSkillsOf_49 : decode cX9_putSkillsOf 49 = .ok (.ireturn, 1) := by decide +kernel
theorem dX9_packed_0 : decode cX9_packed 0 = .ok (.lconst 0, 1) := by decide +kernel
theorem dX9_packed_1 : decode cX9_packed 1 = .ok (.lstore_n 2, 1) := by decide +kernel
theorem dX9_packed_2 : decode cX9_packed 2 = .ok (.iconst 3, 1) := by decide +kernel
theorem dX9_packed_3 : decode cX9_packed 3 = .ok (.istore 4, 2) := by decide +kernel
theorem dX9_packed_5 : decode cX9_packed 5 = .ok (.iload 4, 2) := by decide +kernel
theorem dX9_packed_7 : decode cX9_packed 7 = .ok (.ifCond .lt 22, 3) := by decide +kernel
theorem dX9_packed_10 : decode cX9_packed 10 = .ok (.lload_n 2, 1) := by decide +kernel
theorem dX9_packed_11 : decode cX9_packed 11 = .ok (.iconst 3, 1) := by decide +kernel
theorem dX9_packed_12 : decode cX9_packed 12 = .ok (.lshl, 1) := by decide +kernel
theorem dX9_packed_13 : decode cX9_packed 13 = .ok (.aload_n 0, 1) := by decide +kernel
theorem dX9_packed_14 : decode cX9_packed 14 = .ok (.iload_n 1, 1) := by decide +kernel
theorem dX9_packed_15 : decode cX9_packed 15 = .ok (.iload 4, 2) := by decide +kernel
theorem dX9_packed_17 : decode cX9_packed 17 = .ok (.invokevirtual 45, 3) := by decide +kernel
theorem dX9_packed_20 : decode cX9_packed 20 = .ok (.i2l, 1) := by decide +kernel
theorem dX9_packed_21 : decode cX9_packed 21 = .ok (.lor, 1) := by decide +kernel
theorem dX9_packed_22 : decode cX9_packed 22 = .ok (.lstore_n 2, 1) := by decide +kernel
theorem dX9_packed_23 : decode cX9_packed 23 = .ok (.iinc 4 (-1), 3) := by decide +kernel
theorem dX9_packed_26 : decode cX9_packed 26 = .ok (.goto (-21), 3) := by decide +kernel
theorem dX9_packed_29 : decode cX9_packed 29 = .ok (.lload_n 2, 1) := by decide +kernel
theorem dX9_packed_30 : decode cX9_packed 30 = .ok (.iload_n 1, 1) := by decide +kernel
theorem dX9_packed_31 : decode cX9_packed 31 = .ok (.iconst 4, 1) := by decide +kernel
theorem dX9_packed_32 : decode cX9_packed 32 = .ok (.irem, 1) := by decide +kernel
theorem dX9_packed_33 : decode cX9_packed 33 = .ok (.bipush 12, 2) := by decide +kernel
theorem dX9_packed_35 : decode cX9_packed 35 = .ok (.imul, 1) := by decide +kernel
theorem dX9_packed_36 : decode cX9_packed 36 = .ok (.lshl, 1) := by decide +kernel
theorem dX9_packed_37 : decode cX9_packed 37 = .ok (.lreturn, 1) := by decide +kernel
theorem dX9_without_0 : decode cX9_without 0 = .ok (.lload_n 0, 1) := by decide +kernel
theorem dX9_without_1 : decode cX9_without 1 = .ok (.ldc2_w 51, 3) := by decide +kernel
theorem dX9_without_4 : decode cX9_without 4 = .ok (.iload_n 2, 1) := by decide +kernel
theorem dX9_without_5 : decode cX9_without 5 = .ok (.iconst 4, 1) := by decide +kernel
theorem dX9_without_6 : decode cX9_without 6 = .ok (.irem, 1) := by decide +kernel
theorem dX9_without_7 : decode cX9_without 7 = .ok (.bipush 12, 2) := by decide +kernel
theorem dX9_without_9 : decode cX9_without 9 = .ok (.imul, 1) := by decide +kernel
theorem dX9_without_10 : decode cX9_without 10 = .ok (.lshl, 1) := by decide +kernel
theorem dX9_without_11 : decode cX9_without 11 = .ok (.ldc2_w 53, 3) := by decide +kernel
theorem dX9_without_14 : decode cX9_without 14 = .ok (.lxor, 1) := by decide +kernel
theorem dX9_without_15 : decode cX9_without 15 = .ok (.land, 1) := by decide +kernel
theorem dX9_without_16 : decode cX9_without 16 = .ok (.lreturn, 1) := by decide +kernel
theorem dX9_skillIn_0 : decode cX9_skillIn 0 = .ok (.iload_n 2, 1) := by decide +kernel
theorem dX9_skillIn_1 : decode cX9_skillIn 1 = .ok (.iconst 4, 1) := by decide +kernel
theorem dX9_skillIn_2 : decode cX9_skillIn 2 = .ok (.if_icmp .ge 12, 3) := by decide +kernel
theorem dX9_skillIn_5 : decode cX9_skillIn 5 = .ok (.aload_n 0, 1) := by decide +kernel
theorem dX9_skillIn_6 : decode cX9_skillIn 6 = .ok (.getfield 11, 3) := by decide +kernel
theorem dX9_skillIn_9 : decode cX9_skillIn 9 = .ok (.iload_n 1, 1) := by decide +kernel
theorem dX9_skillIn_10 : decode cX9_skillIn 10 = .ok (.laload, 1) := by decide +kernel
theorem dX9_skillIn_11 : decode cX9_skillIn 11 = .ok (.goto 9, 3) := by decide +kernel
theorem dX9_skillIn_14 : decode cX9_skillIn 14 = .ok (.aload_n 0, 1) := by decide +kernel
theorem dX9_skillIn_15 : decode cX9_skillIn 15 = .ok (.getfield 15, 3) := by decide +kernel
theorem dX9_skillIn_18 : decode cX9_skillIn 18 = .ok (.iload_n 1, 1) := by decide +kernel
theorem dX9_skillIn_19 : decode cX9_skillIn 19 = .ok (.laload, 1) := by decide +kernel
theorem dX9_skillIn_20 : decode cX9_skillIn 20 = .ok (.lstore 4, 2) := by decide +kernel
theorem dX9_skillIn_22 : decode cX9_skillIn 22 = .ok (.lload 4, 2) := by decide +kernel
theorem dX9_skillIn_24 : decode cX9_skillIn 24 = .ok (.iload_n 2, 1) := by decide +kernel
theorem dX9_skillIn_25 : decode cX9_skillIn 25 = .ok (.iconst 4, 1) := by decide +kernel
theorem dX9_skillIn_26 : decode cX9_skillIn 26 = .ok (.irem, 1) := by decide +kernel
theorem dX9_skillIn_27 : decode cX9_skillIn 27 = .ok (.bipush 12, 2) := by decide +kernel
theorem dX9_skillIn_29 : decode cX9_skillIn 29 = .ok (.imul, 1) := by decide +kernel
theorem dX9_skillIn_30 : decode cX9_skillIn 30 = .ok (.iconst 3, 1) := by decide +kernel
theorem dX9_skillIn_31 : decode cX9_skillIn 31 = .ok (.iload_n 3, 1) := by decide +kernel
theorem dX9_skillIn_32 : decode cX9_skillIn 32 = .ok (.imul, 1) := by decide +kernel
theorem dX9_skillIn_33 : decode cX9_skillIn 33 = .ok (.iadd, 1) := by decide +kernel
theorem dX9_skillIn_34 : decode cX9_skillIn 34 = .ok (.lushr, 1) := by decide +kernel
theorem dX9_skillIn_35 : decode cX9_skillIn 35 = .ok (.l2i, 1) := by decide +kernel
theorem dX9_skillIn_36 : decode cX9_skillIn 36 = .ok (.bipush 7, 2) := by decide +kernel
theorem dX9_skillIn_38 : decode cX9_skillIn 38 = .ok (.iand, 1) := by decide +kernel
theorem dX9_skillIn_39 : decode cX9_skillIn 39 = .ok (.ireturn, 1) := by decide +kernel
theorem dX9_unpack_0 : decode cX9_unpack 0 = .ok (.iconst 0, 1) := by decide +kernel
theorem dX9_unpack_1 : decode cX9_unpack 1 = .ok (.istore 4, 2) := by decide +kernel
theorem dX9_unpack_3 : decode cX9_unpack 3 = .ok (.iload 4, 2) := by decide +kernel
theorem dX9_unpack_5 : decode cX9_unpack 5 = .ok (.iconst 4, 1) := by decide +kernel
theorem dX9_unpack_6 : decode cX9_unpack 6 = .ok (.if_icmp .ge 24, 3) := by decide +kernel
theorem dX9_unpack_9 : decode cX9_unpack 9 = .ok (.aload_n 3, 1) := by decide +kernel
theorem dX9_unpack_10 : decode cX9_unpack 10 = .ok (.iload_n 2, 1) := by decide +kernel
theorem dX9_unpack_11 : decode cX9_unpack 11 = .ok (.iload 4, 2) := by decide +kernel
theorem dX9_unpack_13 : decode cX9_unpack 13 = .ok (.aload_n 0, 1) := by decide +kernel
theorem dX9_unpack_14 : decode cX9_unpack 14 = .ok (.iload_n 1, 1) := by decide +kernel
theorem dX9_unpack_15 : decode cX9_unpack 15 = .ok (.iload_n 2, 1) := by decide +kernel
theorem dX9_unpack_16 : decode cX9_unpack 16 = .ok (.iload 4, 2) := by decide +kernel
theorem dX9_unpack_18 : decode cX9_unpack 18 = .ok (.invokevirtual 55, 3) := by decide +kernel
theorem dX9_unpack_21 : decode cX9_unpack 21 = .ok (.invokevirtual 59, 3) := by decide +kernel
theorem dX9_unpack_24 : decode cX9_unpack 24 = .ok (.iinc 4 1, 3) := by decide +kernel
theorem dX9_unpack_27 : decode cX9_unpack 27 = .ok (.goto (-24), 3) := by decide +kernel
theorem dX9_unpack_30 : decode cX9_unpack 30 = .ok (.return_, 1) := by decide +kernel
theorem dX9_total_0 : decode cX9_total 0 = .ok (.iconst 0, 1) := by decide +kernel
theorem dX9_total_1 : decode cX9_total 1 = .ok (.istore_n 2, 1) := by decide +kernel
theorem dX9_total_2 : decode cX9_total 2 = .ok (.iconst 0, 1) := by decide +kernel
theorem dX9_total_3 : decode cX9_total 3 = .ok (.istore_n 3, 1) := by decide +kernel
theorem dX9_total_4 : decode cX9_total 4 = .ok (.iload_n 3, 1) := by decide +kernel
theorem dX9_total_5 : decode cX9_total 5 = .ok (.bipush 8, 2) := by decide +kernel
theorem dX9_total_7 : decode cX9_total 7 = .ok (.if_icmp .ge 35, 3) := by decide +kernel
theorem dX9_total_10 : decode cX9_total 10 = .ok (.iconst 0, 1) := by decide +kernel
theorem dX9_total_11 : decode cX9_total 11 = .ok (.istore 4, 2) := by decide +kernel
theorem dX9_total_13 : decode cX9_total 13 = .ok (.iload 4, 2) := by decide +kernel
theorem dX9_total_15 : decode cX9_total 15 = .ok (.iconst 4, 1) := by decide +kernel
theorem dX9_total_16 : decode cX9_total 16 = .ok (.if_icmp .ge 20, 3) := by decide +kernel
theorem dX9_total_19 : decode cX9_total 19 = .ok (.iload_n 2, 1) := by decide +kernel
theorem dX9_total_20 : decode cX9_total 20 = .ok (.aload_n 0, 1) := by decide +kernel
theorem dX9_total_21 : decode cX9_total 21 = .ok (.iload_n 1, 1) := by decide +kernel
theorem dX9_total_22 : decode cX9_total 22 = .ok (.iload_n 3, 1) := by decide +kernel
theorem dX9_total_23 : decode cX9_total 23 = .ok (.iload 4, 2) := by decide +kernel
theorem dX9_total_25 : decode cX9_total 25 = .ok (.invokevirtual 55, 3) := by decide +kernel
theorem dX9_total_28 : decode cX9_total 28 = .ok (.iadd, 1) := by decide +kernel
theorem dX9_total_29 : decode cX9_total 29 = .ok (.istore_n 2, 1) := by decide +kernel
theorem dX9_total_30 : decode cX9_total 30 = .ok (.iinc 4 1, 3) := by decide +kernel
theorem dX9_total_33 : decode cX9_total 33 = .ok (.goto (-20), 3) := by decide +kernel
theorem dX9_total_36 : decode cX9_total 36 = .ok (.iinc 3 1, 3) := by decide +kernel
theorem dX9_total_39 : decode cX9_total 39 = .ok (.goto (-35), 3) := by decide +kernel
theorem dX9_total_42 : decode cX9_total 42 = .ok (.iload_n 2, 1) := by decide +kernel
theorem dX9_total_43 : decode cX9_total 43 = .ok (.ireturn, 1) := by decide +kernel
theorem dX9_firstWith_0 : decode cX9_firstWith 0 = .ok (.iconst 0, 1) := by decide +kernel
theorem dX9_firstWith_1 : decode cX9_firstWith 1 = .ok (.istore 4, 2) := by decide +kernel
theorem dX9_firstWith_3 : decode cX9_firstWith 3 = .ok (.iload 4, 2) := by decide +kernel
theorem dX9_firstWith_5 : decode cX9_firstWith 5 = .ok (.aload_n 0, 1) := by decide +kernel
theorem dX9_firstWith_6 : decode cX9_firstWith 6 = .ok (.getfield 25, 3) := by decide +kernel
theorem dX9_firstWith_9 : decode cX9_firstWith 9 = .ok (.if_icmp .ge 24, 3) := by decide +kernel
theorem dX9_firstWith_12 : decode cX9_firstWith 12 = .ok (.aload_n 0, 1) := by decide +kernel
theorem dX9_firstWith_13 : decode cX9_firstWith 13 = .ok (.iload 4, 2) := by decide +kernel
theorem dX9_firstWith_15 : decode cX9_firstWith 15 = .ok (.iload_n 1, 1) := by decide +kernel
theorem dX9_firstWith_16 : decode cX9_firstWith 16 = .ok (.iload_n 2, 1) := by decide +kernel
theorem dX9_firstWith_17 : decode cX9_firstWith 17 = .ok (.invokevirtual 55, 3) := by decide +kernel
theorem dX9_firstWith_20 : decode cX9_firstWith 20 = .ok (.iload_n 3, 1) := by decide +kernel
theorem dX9_firstWith_21 : decode cX9_firstWith 21 = .ok (.if_icmp .lt 6, 3) := by decide +kernel
theorem dX9_firstWith_24 : decode cX9_firstWith 24 = .ok (.iload 4, 2) := by decide +kernel
theorem dX9_firstWith_26 : decode cX9_firstWith 26 = .ok (.ireturn, 1) := by decide +kernel
theorem dX9_firstWith_27 : decode cX9_firstWith 27 = .ok (.iinc 4 1, 3) := by decide +kernel
theorem dX9_firstWith_30 : decode cX9_firstWith 30 = .ok (.goto (-27), 3) := by decide +kernel
theorem dX9_firstWith_33 : decode cX9_firstWith 33 = .ok (.iconst (-1), 1) := by decide +kernel
theorem dX9_firstWith_34 : decode cX9_firstWith 34 = .ok (.ireturn, 1) := by decide +kernel
theorem dX10_init_0 : decode cX10_init 0 = .ok (.aload_n 0, 1) := by decide +kernel
theorem dX10_init_1 : decode cX10_init 1 = .ok (.invokespecial 1, 3) := by decide +kernel
theorem dX10_init_4 : decode cX10_init 4 = .ok (.aload_n 0, 1) := by decide +kernel
theorem dX10_init_5 : decode cX10_init 5 = .ok (.bipush 80, 2) := by decide +kernel
theorem dX10_init_7 : decode cX10_init 7 = .ok (.newarray .char, 2) := by decide +kernel
theorem dX10_init_9 : decode cX10_init 9 = .ok (.putfield 9, 3) := by decide +kernel
theorem dX10_init_12 : decode cX10_init 12 = .ok (.aload_n 0, 1) := by decide +kernel
theorem dX10_init_13 : decode cX10_init 13 = .ok (.iconst 0, 1) := by decide +kernel
theorem dX10_init_14 : decode cX10_init 14 = .ok (.putfield 13, 3) := by decide +kernel
theorem dX10_init_17 : decode cX10_init 17 = .ok (.return_, 1) := by decide +kernel
theorem dX10_add_0 : decode cX10_add 0 = .ok (.aload_n 0, 1) := by decide +kernel
theorem dX10_add_1 : decode cX10_add 1 = .ok (.getfield 13, 3) := by decide +kernel
theorem dX10_add_4 : decode cX10_add 4 = .ok (.bipush 76, 2) := by decide +kernel
theorem dX10_add_6 : decode cX10_add 6 = .ok (.if_icmp .le 5, 3) := by decide +kernel
theorem dX10_add_9 : decode cX10_add 9 = .ok (.iconst 0, 1) := by decide +kernel
theorem dX10_add_10 : decode cX10_add 10 = .ok (.ireturn, 1) := by decide +kernel
theorem dX10_add_11 : decode cX10_add 11 = .ok (.iconst 0, 1) := by decide +kernel
theorem dX10_add_12 : decode cX10_add 12 = .ok (.istore_n 2, 1) := by decide +kernel
theorem dX10_add_13 : decode cX10_add 13 = .ok (.iload_n 2, 1) := by decide +kernel
theorem dX10_add_14 : decode cX10_add 14 = .ok (.iconst 4, 1) := by decide +kernel
theorem dX10_add_15 : decode cX10_add 15 = .ok (.if_icmp .ge 42, 3) := by decide +kernel
theorem dX10_add_18 : decode cX10_add 18 = .ok (.aload_n 0, 1) := by decide +kernel
theorem dX10_add_19 : decode cX10_add 19 = .ok (.getfield 9, 3) := by decide +kernel
theorem dX10_add_22 : decode cX10_add 22 = .ok (.aload_n 0, 1) := by decide +kernel
theorem dX10_add_23 : decode cX10_add 23 = .ok (.getfield 13, 3) := by decide +kernel
theorem dX10_add_26 : decode cX10_add 26 = .ok (.iload_n 1, 1) := by decide +kernel
theorem dX10_add_27 : decode cX10_add 27 = .ok (.bipush 24, 2) := by decide +kernel
theorem dX10_add_29 : decode cX10_add 29 = .ok (.bipush 8, 2) := by decide +kernel
theorem dX10_add_31 : decode cX10_add 31 = .ok (.iload_n 2, 1) := by decide +kernel
theorem dX10_add_32 : decode cX10_add 32 = .ok (.imul, 1) := by decide +kernel
theorem dX10_add_33 : decode cX10_add 33 = .ok (.isub, 1) := by decide +kernel
theorem dX10_add_34 : decode cX10_add 34 = .ok (.iushr, 1) := by decide +kernel
theorem dX10_add_35 : decode cX10_add 35 = .ok (.sipush 255, 3) := by decide +kernel
theorem dX10_add_38 : decode cX10_add 38 = .ok (.iand, 1) := by decide +kernel
theorem dX10_add_39 : decode cX10_add 39 = .ok (.i2c, 1) := by decide +kernel
theorem dX10_add_40 : decode cX10_add 40 = .ok (.castore, 1) := by decide +kernel
theorem dX10_add_41 : decode cX10_add 41 = .ok (.aload_n 0, 1) := by decide +kernel
theorem dX10_add_42 : decode cX10_add 42 = .ok (.dup, 1) := by decide +kernel
theorem dX10_add_43 : decode cX10_add 43 = .ok (.getfield 13, 3) := by decide +kernel
theorem dX10_add_46 : decode cX10_add 46 = .ok (.iconst 1, 1) := by decide +kernel
theorem dX10_add_47 : decode cX10_add 47 = .ok (.iadd, 1) := by decide +kernel
theorem dX10_add_48 : decode cX10_add 48 = .ok (.putfield 13, 3) := by decide +kernel
theorem dX10_add_51 : decode cX10_add 51 = .ok (.iinc 2 1, 3) := by decide +kernel
theorem dX10_add_54 : decode cX10_add 54 = .ok (.goto (-41), 3) := by decide +kernel
theorem dX10_add_57 : decode cX10_add 57 = .ok (.iconst 1, 1) := by decide +kernel
theorem dX10_add_58 : decode cX10_add 58 = .ok (.ireturn, 1) := by decide +kernel
theorem dX10_cut_0 : decode cX10_cut 0 = .ok (.iload_n 1, 1) := by decide +kernel
theorem dX10_cut_1 : decode cX10_cut 1 = .ok (.ifCond .lt 11, 3) := by decide +kernel
theorem dX10_cut_4 : decode cX10_cut 4 = .ok (.iload_n 1, 1) := by decide +kernel
theorem dX10_cut_5 : decode cX10_cut 5 = .ok (.aload_n 0, 1) := by decide +kernel
theorem dX10_cut_6 : decode cX10_cut 6 = .ok (.getfield 13, 3) := by decide +kernel
theorem dX10_cut_9 : decode cX10_cut 9 = .ok (.if_icmp .le 5, 3) := by decide +kernel
theorem dX10_cut_12 : decode cX10_cut 12 = .ok (.iconst 0, 1) := by decide +kernel
theorem dX10_cut_13 : decode cX10_cut 13 = .ok (.ireturn, 1) := by decide +kernel
theorem dX10_cut_14 : decode cX10_cut 14 = .ok (.aload_n 0, 1) := by decide +kernel
theorem dX10_cut_15 : decode cX10_cut 15 = .ok (.iload_n 1, 1) := by decide +kernel
theorem dX10_cut_16 : decode cX10_cut 16 = .ok (.putfield 13, 3) := by decide +kernel
theorem dX10_cut_19 : decode cX10_cut 19 = .ok (.iconst 1, 1) := by decide +kernel
theorem dX10_cut_20 : decode cX10_cut 20 = .ok (.ireturn, 1) := by decide +kernel
theorem dJ6_bitCount_0f7a4_0 : decode cJ6_bitCount_0f7a4 0 = .ok (.iload_n 0, 1) := by decide +kernel
theorem dJ6_bitCount_0f7a4_1 : decode cJ6_bitCount_0f7a4 1 = .ok (.iload_n 0, 1) := by decide +kernel
theorem dJ6_bitCount_0f7a4_2 : decode cJ6_bitCount_0f7a4 2 = .ok (.iconst 1, 1) := by decide +kernel
theorem dJ6_bitCount_0f7a4_3 : decode cJ6_bitCount_0f7a4 3 = .ok (.iushr, 1) := by decide +kernel
theorem dJ6_bitCount_0f7a4_4 : decode cJ6_bitCount_0f7a4 4 = .ok (.ldc_w 265, 3) := by decide +kernel
theorem dJ6_bitCount_0f7a4_7 : decode cJ6_bitCount_0f7a4 7 = .ok (.iand, 1) := by decide +kernel
theorem dJ6_bitCount_0f7a4_8 : decode cJ6_bitCount_0f7a4 8 = .ok (.isub, 1) := by decide +kernel
theorem dJ6_bitCount_0f7a4_9 : decode cJ6_bitCount_0f7a4 9 = .ok (.istore_n 0, 1) := by decide +kernel
theorem dJ6_bitCount_0f7a4_10 : decode cJ6_bitCount_0f7a4 10 = .ok (.iload_n 0, 1) := by decide +kernel
theorem dJ6_bitCount_0f7a4_11 : decode cJ6_bitCount_0f7a4 11 = .ok (.ldc_w 266, 3) := by decide +kernel
theorem dJ6_bitCount_0f7a4_14 : decode cJ6_bitCount_0f7a4 14 = .ok (.iand, 1) := by decide +kernel
theorem dJ6_bitCount_0f7a4_15 : decode cJ6_bitCount_0f7a4 15 = .ok (.iload_n 0, 1) := by decide +kernel
theorem dJ6_bitCount_0f7a4_16 : decode cJ6_bitCount_0f7a4 16 = .ok (.iconst 2, 1) := by decide +kernel
theorem dJ6_bitCount_0f7a4_17 : decode cJ6_bitCount_0f7a4 17 = .ok (.iushr, 1) := by decide +kernel
theorem dJ6_bitCount_0f7a4_18 : decode cJ6_bitCount_0f7a4 18 = .ok (.ldc_w 266, 3) := by decide +kernel
theorem dJ6_bitCount_0f7a4_21 : decode cJ6_bitCount_0f7a4 21 = .ok (.iand, 1) := by decide +kernel
theorem dJ6_bitCount_0f7a4_22 : decode cJ6_bitCount_0f7a4 22 = .ok (.iadd, 1) := by decide +kernel
theorem dJ6_bitCount_0f7a4_23 : decode cJ6_bitCount_0f7a4 23 = .ok (.istore_n 0, 1) := by decide +kernel
theorem dJ6_bitCount_0f7a4_24 : decode cJ6_bitCount_0f7a4 24 = .ok (.iload_n 0, 1) := by decide +kernel
theorem dJ6_bitCount_0f7a4_25 : decode cJ6_bitCount_0f7a4 25 = .ok (.iload_n 0, 1) := by decide +kernel
theorem dJ6_bitCount_0f7a4_26 : decode cJ6_bitCount_0f7a4 26 = .ok (.iconst 4, 1) := by decide +kernel
theorem dJ6_bitCount_0f7a4_27 : decode cJ6_bitCount_0f7a4 27 = .ok (.iushr, 1) := by decide +kernel
theorem dJ6_bitCount_0f7a4_28 : decode cJ6_bitCount_0f7a4 28 = .ok (.iadd, 1) := by decide +kernel
theorem dJ6_bitCount_0f7a4_29 : decode cJ6_bitCount_0f7a4 29 = .ok (.ldc_w 267, 3) := by decide +kernel
theorem dJ6_bitCount_0f7a4_32 : decode cJ6_bitCount_0f7a4 32 = .ok (.iand, 1) := by decide +kernel
theorem dJ6_bitCount_0f7a4_33 : decode cJ6_bitCount_0f7a4 33 = .ok (.istore_n 0, 1) := by decide +kernel
theorem dJ6_bitCount_0f7a4_34 : decode cJ6_bitCount_0f7a4 34 = .ok (.iload_n 0, 1) := by decide +kernel
theorem dJ6_bitCount_0f7a4_35 : decode cJ6_bitCount_0f7a4 35 = .ok (.iload_n 0, 1) := by decide +kernel
theorem dJ6_bitCount_0f7a4_36 : decode cJ6_bitCount_0f7a4 36 = .ok (.bipush 8, 2) := by decide +kernel
theorem dJ6_bitCount_0f7a4_38 : decode cJ6_bitCount_0f7a4 38 = .ok (.iushr, 1) := by decide +kernel
theorem dJ6_bitCount_0f7a4_39 : decode cJ6_bitCount_0f7a4 39 = .ok (.iadd, 1) := by decide +kernel
theorem dJ6_bitCount_0f7a4_40 : decode cJ6_bitCount_0f7a4 40 = .ok (.istore_n 0, 1) := by decide +kernel
theorem dJ6_bitCount_0f7a4_41 : decode cJ6_bitCount_0f7a4 41 = .ok (.iload_n 0, 1) := by decide +kernel
theorem dJ6_bitCount_0f7a4_42 : decode cJ6_bitCount_0f7a4 42 = .ok (.iload_n 0, 1) := by decide +kernel
theorem dJ6_bitCount_0f7a4_43 : decode cJ6_bitCount_0f7a4 43 = .ok (.bipush 16, 2) := by decide +kernel
theorem dJ6_bitCount_0f7a4_45 : decode cJ6_bitCount_0f7a4 45 = .ok (.iushr, 1) := by decide +kernel
theorem dJ6_bitCount_0f7a4_46 : decode cJ6_bitCount_0f7a4 46 = .ok (.iadd, 1) := by decide +kernel
theorem dJ6_bitCount_0f7a4_47 : decode cJ6_bitCount_0f7a4 47 = .ok (.istore_n 0, 1) := by decide +kernel
theorem dJ6_bitCount_0f7a4_48 : decode cJ6_bitCount_0f7a4 48 = .ok (.iload_n 0, 1) := by decide +kernel
theorem dJ6_bitCount_0f7a4_49 : decode cJ6_bitCount_0f7a4 49 = .ok (.bipush 63, 2) := by decide +kernel
theorem dJ6_bitCount_0f7a4_51 : decode cJ6_bitCount_0f7a4 51 = .ok (.iand, 1) := by decide +kernel
theorem dJ6_bitCount_0f7a4_52 : decode cJ6_bitCount_0f7a4 52 = .ok (.ireturn, 1) := by decide +kernel
theorem dJ9_max_7cf53_0 : decode cJ9_max_7cf53 0 = .ok (.iload_n 0, 1) := by decide +kernel
theorem dJ9_max_7cf53_1 : decode cJ9_max_7cf53 1 = .ok (.iload_n 1, 1) := by decide +kernel
theorem dJ9_max_7cf53_2 : decode cJ9_max_7cf53 2 = .ok (.if_icmp .lt 7, 3) := by decide +kernel
theorem dJ9_max_7cf53_5 : decode cJ9_max_7cf53 5 = .ok (.iload_n 0, 1) := by decide +kernel
theorem dJ9_max_7cf53_6 : decode cJ9_max_7cf53 6 = .ok (.goto 4, 3) := by decide +kernel
theorem dJ9_max_7cf53_9 : decode cJ9_max_7cf53 9 = .ok (.iload_n 1, 1) := by decide +kernel
theorem dJ9_max_7cf53_10 : decode cJ9_max_7cf53 10 = .ok (.ireturn, 1) := by decide +kernel
theorem dJ9_min_7cf53_0 : decode cJ9_min_7cf53 0 = .ok (.iload_n 0, 1) := by decide +kernel
theorem dJ9_min_7cf53_1 : decode cJ9_min_7cf53 1 = .ok (.iload_n 1, 1) := by decide +kernel
theorem dJ9_min_7cf53_2 : decode cJ9_min_7cf53 2 = .ok (.if_icmp .gt 7, 3) := by decide +kernel
theorem dJ9_min_7cf53_5 : decode cJ9_min_7cf53 5 = .ok (.iload_n 0, 1) := by decide +kernel
theorem dJ9_min_7cf53_6 : decode cJ9_min_7cf53 6 = .ok (.goto 4, 3) := by decide +kernel
theorem dJ9_min_7cf53_9 : decode cJ9_min_7cf53 9 = .ok (.iload_n 1, 1) := by decide +kernel
theorem dJ9_min_7cf53_10 : decode cJ9_min_7cf53 10 = .ok (.ireturn, 1) := by decide +kernel
