theorem dX0_init_0 : decode cX0_init 0 = .ok (.aload_n 0, 1) := by decide +kernel
theorem dX0_init_1 : decode cX0_init 1 = .ok (.invokespecial 3, 3) := by decide +kernel
theorem dX0_init_4 : decode cX0_init 4 = .ok (.aload_n 0, 1) := by decide +kernel
theorem dX0_init_5 : decode cX0_init 5 = .ok (.aload_n 1, 1) := by decide +kernel
theorem dX0_init_6 : decode cX0_init 6 = .ok (.putfield 9, 3) := by decide +kernel
theorem dX0_init_9 : decode cX0_init 9 = .ok (.aload_n 0, 1) := by decide +kernel
theorem dX0_init_10 : decode cX0_init 10 = .ok (.bipush 100, 2) := by decide +kernel
theorem dX0_init_12 : decode cX0_init 12 = .ok (.newarray .int, 2) := by decide +kernel
theorem dX0_init_14 : decode cX0_init 14 = .ok (.putfield 15, 3) := by decide +kernel
theorem dX0_init_17 : decode cX0_init 17 = .ok (.aload_n 0, 1) := by decide +kernel
theorem dX0_init_18 : decode cX0_init 18 = .ok (.bipush 100, 2) := by decide +kernel
theorem dX0_init_20 : decode cX0_init 20 = .ok (.newarray .int, 2) := by decide +kernel
theorem dX0_init_22 : decode cX0_init 22 = .ok (.putfield 19, 3) := by decide +kernel
theorem dX0_init_25 : decode cX0_init 25 = .ok (.aload_n 0, 1) := by decide +kernel
theorem dX0_init_26 : decode cX0_init 26 = .ok (.bipush 100, 2) := by decide +kernel
theorem dX0_init_28 : decode cX0_init 28 = .ok (.newarray .int, 2) := by decide +kernel
theorem dX0_init_30 : decode cX0_init 30 = .ok (.putfield 22, 3) := by decide +kernel
theorem dX0_init_33 : decode cX0_init 33 = .ok (.return_, 1) := by decide +kernel
theorem dX0_match_0 : decode cX0_match 0 = .ok (.aload_n 0, 1) := by decide +kernel
theorem dX0_match_1 : decode cX0_match 1 = .ok (.iconst 0, 1) := by decide +kernel
theorem dX0_match_2 : decode cX0_match 2 = .ok (.putfield 25, 3) := by decide +kernel
theorem dX0_match_5 : decode cX0_match 5 = .ok (.iconst 0, 1) := by decide +kernel
theorem dX0_match_6 : decode cX0_match 6 = .ok (.istore 4, 2) := by decide +kernel
theorem dX0_match_8 : decode cX0_match 8 = .ok (.iload 4, 2) := by decide +kernel
theorem dX0_match_10 : decode cX0_match 10 = .ok (.bipush 100, 2) := by decide +kernel
theorem dX0_match_12 : decode cX0_match 12 = .ok (.if_icmp .ge 18, 3) := by decide +kernel
theorem dX0_match_15 : decode cX0_match 15 = .ok (.aload_n 0, 1) := by decide +kernel
theorem dX0_match_16 : decode cX0_match 16 = .ok (.getfield 15, 3) := by decide +kernel
theorem dX0_match_19 : decode cX0_match 19 = .ok (.iload 4, 2) := by decide +kernel
theorem dX0_match_21 : decode cX0_match 21 = .ok (.iload 4, 2) := by decide +kernel
theorem dX0_match_23 : decode cX0_match 23 = .ok (.iastore, 1) := by decide +kernel
theorem dX0_match_24 : decode cX0_match 24 = .ok (.iinc 4 1, 3) := by decide +kernel
theorem dX0_match_27 : decode cX0_match 27 = .ok (.goto (-19), 3) := by decide +kernel
theorem dX0_match_30 : decode cX0_match 30 = .ok (.aload_n 0, 1) := by decide +kernel
theorem dX0_match_31 : decode cX0_match 31 = .ok (.iload_n 2, 1) := by decide +kernel
theorem dX0_match_32 : decode cX0_match 32 = .ok (.iload_n 3, 1) := by decide +kernel
theorem dX0_match_33 : decode cX0_match 33 = .ok (.invokevirtual 29, 3) := by decide +kernel
theorem dX0_match_36 : decode cX0_match 36 = .ok (.iconst 0, 1) := by decide +kernel
theorem dX0_match_37 : decode cX0_match 37 = .ok (.istore 4, 2) := by decide +kernel
theorem dX0_match_39 : decode cX0_match 39 = .ok (.iload 4, 2) := by decide +kernel
theorem dX0_match_41 : decode cX0_match 41 = .ok (.aload_n 0, 1) := by decide +kernel
theorem dX0_match_42 : decode cX0_match 42 = .ok (.getfield 25, 3) := by decide +kernel
theorem dX0_match_45 : decode cX0_match 45 = .ok (.if_icmp .ge 40, 3) := by decide +kernel
theorem dX0_match_48 : decode cX0_match 48 = .ok (.iload 4, 2) := by decide +kernel
theorem dX0_match_50 : decode cX0_match 50 = .ok (.bipush 100, 2) := by decide +kernel
theorem dX0_match_52 : decode cX0_match 52 = .ok (.if_icmp .ge 33, 3) := by decide +kernel
theorem dX0_match_55 : decode cX0_match 55 = .ok (.aload_n 0, 1) := by decide +kernel
theorem dX0_match_56 : decode cX0_match 56 = .ok (.aload_n 1, 1) := by decide +kernel
theorem dX0_match_57 : decode cX0_match 57 = .ok (.aload_n 0, 1) := by decide +kernel
theorem dX0_match_58 : decode cX0_match 58 = .ok (.getfield 19, 3) := by decide +kernel
theorem dX0_match_61 : decode cX0_match 61 = .ok (.iload 4, 2) := by decide +kernel
theorem dX0_match_63 : decode cX0_match 63 = .ok (.iaload, 1) := by decide +kernel
theorem dX0_match_64 : decode cX0_match 64 = .ok (.aload_n 0, 1) := by decide +kernel
theorem dX0_match_65 : decode cX0_match 65 = .ok (.getfield 22, 3) := by decide +kernel
theorem dX0_match_68 : decode cX0_match 68 = .ok (.iload 4, 2) := by decide +kernel
theorem dX0_match_70 : decode cX0_match 70 = .ok (.iaload, 1) := by decide +kernel
theorem dX0_match_71 : decode cX0_match 71 = .ok (.invokevirtual 33, 3) := by decide +kernel
theorem dX0_match_74 : decode cX0_match 74 = .ok (.ifCond .ne 5, 3) := by decide +kernel
theorem dX0_match_77 : decode cX0_match 77 = .ok (.iconst 0, 1) := by decide +kernel
theorem dX0_match_78 : decode cX0_match 78 = .ok (.ireturn, 1) := by decide +kernel
theorem dX0_match_79 : decode cX0_match 79 = .ok (.iinc 4 1, 3) := by decide +kernel
theorem dX0_match_82 : decode cX0_match 82 = .ok (.goto (-43), 3) := by decide +kernel
theorem dX0_match_85 : decode cX0_match 85 = .ok (.iconst 1, 1) := by decide +kernel
theorem dX0_match_86 : decode cX0_match 86 = .ok (.ireturn, 1) := by decide +kernel
theorem dX0_matchPair_0 : decode cX0_matchPair 0 = .ok (.aload_n 1, 1) := by decide +kernel
theorem dX0_matchPair_1 : decode cX0_matchPair 1 = .ok (.iload_n 2, 1) := by decide +kernel
theorem dX0_matchPair_2 : decode cX0_matchPair 2 = .ok (.invokevirtual 37, 3) := by decide +kernel
theorem dX0_matchPair_5 : decode cX0_matchPair 5 = .ok (.aload_n 1, 1) := by decide +kernel
theorem dX0_matchPair_6 : decode cX0_matchPair 6 = .ok (.iload_n 3, 1) := by decide +kernel
theorem dX0_matchPair_7 : decode cX0_matchPair 7 = .ok (.invokevirtual 37, 3) := by decide +kernel
theorem dX0_matchPair_10 : decode cX0_matchPair 10 = .ok (.if_icmp .eq 5, 3) := by decide +kernel
theorem dX0_matchPair_13 : decode cX0_matchPair 13 = .ok (.iconst 0, 1) := by decide +kernel
theorem dX0_matchPair_14 : decode cX0_matchPair 14 = .ok (.ireturn, 1) := by decide +kernel
theorem dX0_matchPair_15 : decode cX0_matchPair 15 = .ok (.iconst 0, 1) := by decide +kernel
theorem dX0_matchPair_16 : decode cX0_matchPair 16 = .ok (.istore 4, 2) := by decide +kernel
theorem dX0_matchPair_18 : decode cX0_matchPair 18 = .ok (.iload 4, 2) := by decide +kernel
theorem dX0_matchPair_20 : decode cX0_matchPair 20 = .ok (.aload_n 0, 1) := by decide +kernel
theorem dX0_matchPair_21 : decode cX0_matchPair 21 = .ok (.getfield 9, 3) := by decide +kernel
theorem dX0_matchPair_24 : decode cX0_matchPair 24 = .ok (.invokevirtual 43, 3) := by decide +kernel
theorem dX0_matchPair_27 : decode cX0_matchPair 27 = .ok (.if_icmp .ge 39, 3) := by decide +kernel
theorem dX0_matchPair_30 : decode cX0_matchPair 30 = .ok (.aload_n 0, 1) := by decide +kernel
theorem dX0_matchPair_31 : decode cX0_matchPair 31 = .ok (.getfield 9, 3) := by decide +kernel
theorem dX0_matchPair_34 : decode cX0_matchPair 34 = .ok (.iload 4, 2) := by decide +kernel
theorem dX0_matchPair_36 : decode cX0_matchPair 36 = .ok (.iconst 1, 1) := by decide +kernel
theorem dX0_matchPair_37 : decode cX0_matchPair 37 = .ok (.invokevirtual 49, 3) := by decide +kernel
theorem dX0_matchPair_40 : decode cX0_matchPair 40 = .ok (.ifCond .eq 20, 3) := by decide +kernel
theorem dX0_matchPair_43 : decode cX0_matchPair 43 = .ok (.aload_n 0, 1) := by decide +kernel
theorem dX0_matchPair_44 : decode cX0_matchPair 44 = .ok (.aload_n 1, 1) := by decide +kernel
theorem dX0_matchPair_45 : decode cX0_matchPair 45 = .ok (.invokevirtual 53, 3) := by decide +kernel
theorem dX0_matchPair_48 : decode cX0_matchPair 48 = .ok (.iload 4, 2) := by decide +kernel
theorem dX0_matchPair_50 : decode cX0_matchPair 50 = .ok (.iload_n 2, 1) := by decide +kernel
theorem dX0_matchPair_51 : decode cX0_matchPair 51 = .ok (.iload_n 3, 1) := by decide +kernel
theorem dX0_matchPair_52 : decode cX0_matchPair 52 = .ok (.invokevirtual 57, 3) := by decide +kernel
theorem dX0_matchPair_55 : decode cX0_matchPair 55 = .ok (.ifCond .ne 5, 3) := by decide +kernel
theorem dX0_matchPair_58 : decode cX0_matchPair 58 = .ok (.iconst 0, 1) := by decide +kernel
theorem dX0_matchPair_59 : decode cX0_matchPair 59 = .ok (.ireturn, 1) := by decide +kernel
theorem dX0_matchPair_60 : decode cX0_matchPair 60 = .ok (.iinc 4 1, 3) := by decide +kernel
theorem dX0_matchPair_63 : decode cX0_matchPair 63 = .ok (.goto (-45), 3) := by decide +kernel
theorem dX0_matchPair_66 : decode cX0_matchPair 66 = .ok (.iconst 1, 1) := by decide +kernel
theorem dX0_matchPair_67 : decode cX0_matchPair 67 = .ok (.ireturn, 1) := by decide +kernel
theorem dX0_matchRows_0 : decode cX0_matchRows 0 = .ok (.aload_n 1, 1) := by decide +kernel
theorem dX0_matchRows_1 : decode cX0_matchRows 1 = .ok (.iload_n 2, 1) := by decide +kernel
theorem dX0_matchRows_2 : decode cX0_matchRows 2 = .ok (.iload_n 3, 1) := by decide +kernel
theorem dX0_matchRows_3 : decode cX0_matchRows 3 = .ok (.invokevirtual 61, 3) := by decide +kernel
theorem dX0_matchRows_6 : decode cX0_matchRows 6 = .ok (.istore 5, 2) := by decide +kernel
theorem dX0_matchRows_8 : decode cX0_matchRows 8 = .ok (.iload 5, 2) := by decide +kernel
theorem dX0_matchRows_10 : decode cX0_matchRows 10 = .ok (.aload_n 1, 1) := by decide +kernel
theorem dX0_matchRows_11 : decode cX0_matchRows 11 = .ok (.iload_n 2, 1) := by decide +kernel
theorem dX0_matchRows_12 : decode cX0_matchRows 12 = .ok (.iload 4, 2) := by decide +kernel
theorem dX0_matchRows_14 : decode cX0_matchRows 14 = .ok (.invokevirtual 61, 3) := by decide +kernel
theorem dX0_matchRows_17 : decode cX0_matchRows 17 = .ok (.if_icmp .eq 5, 3) := by decide +kernel
theorem dX0_matchRows_20 : decode cX0_matchRows 20 = .ok (.iconst 0, 1) := by decide +kernel
theorem dX0_matchRows_21 : decode cX0_matchRows 21 = .ok (.ireturn, 1) := by decide +kernel
theorem dX0_matchRows_22 : decode cX0_matchRows 22 = .ok (.iconst 0, 1) := by decide +kernel
theorem dX0_matchRows_23 : decode cX0_matchRows 23 = .ok (.istore 6, 2) := by decide +kernel
theorem dX0_matchRows_25 : decode cX0_matchRows 25 = .ok (.iload 6, 2) := by decide +kernel
theorem dX0_matchRows_27 : decode cX0_matchRows 27 = .ok (.iload 5, 2) := by decide +kernel
theorem dX0_matchRows_29 : decode cX0_matchRows 29 = .ok (.if_icmp .ge 30, 3) := by decide +kernel
theorem dX0_matchRows_32 : decode cX0_matchRows 32 = .ok (.aload_n 0, 1) := by decide +kernel
theorem dX0_matchRows_33 : decode cX0_matchRows 33 = .ok (.aload_n 1, 1) := by decide +kernel
theorem dX0_matchRows_34 : decode cX0_matchRows 34 = .ok (.iload_n 2, 1) := by decide +kernel
theorem dX0_matchRows_35 : decode cX0_matchRows 35 = .ok (.iload_n 3, 1) := by decide +kernel
theorem dX0_matchRows_36 : decode cX0_matchRows 36 = .ok (.iload 6, 2) := by decide +kernel
theorem dX0_matchRows_38 : decode cX0_matchRows 38 = .ok (.invokevirtual 67, 3) := by decide +kernel
theorem dX0_matchRows_41 : decode cX0_matchRows 41 = .ok (.aload_n 1, 1) := by decide +kernel
theorem dX0_matchRows_42 : decode cX0_matchRows 42 = .ok (.iload_n 2, 1) := by decide +kernel
theorem dX0_matchRows_43 : decode cX0_matchRows 43 = .ok (.iload 4, 2) := by decide +kernel
theorem dX0_matchRows_45 : decode cX0_matchRows 45 = .ok (.iload 6, 2) := by decide +kernel
theorem dX0_matchRows_47 : decode cX0_matchRows 47 = .ok (.invokevirtual 67, 3) := by decide +kernel
theorem dX0_matchRows_50 : decode cX0_matchRows 50 = .ok (.invokevirtual 29, 3) := by decide +kernel
theorem dX0_matchRows_53 : decode cX0_matchRows 53 = .ok (.iinc 6 1, 3) := by decide +kernel
theorem dX0_matchRows_56 : decode cX0_matchRows 56 = .ok (.goto (-31), 3) := by decide +kernel
theorem dX0_matchRows_59 : decode cX0_matchRows 59 = .ok (.iconst 1, 1) := by decide +kernel
theorem dX0_matchRows_60 : decode cX0_matchRows 60 = .ok (.ireturn, 1) := by decide +kernel
theorem dX0_demand_0 : decode cX0_demand 0 = .ok (.iload_n 1, 1) := by decide +kernel
theorem dX0_demand_1 : decode cX0_demand 1 = .ok (.invokestatic 71, 3) := by decide +kernel
theorem dX0_demand_4 : decode cX0_demand 4 = .ok (.ifCond .eq 19, 3) := by decide +kernel
theorem dX0_demand_7 : decode cX0_demand 7 = .ok (.iload_n 2, 1) := by decide +kernel
theorem dX0_demand_8 : decode cX0_demand 8 = .ok (.invokestatic 71, 3) := by decide +kernel
theorem dX0_demand_11 : decode cX0_demand 11 = .ok (.ifCond .eq 12, 3) := by decide +kernel
theorem dX0_demand_14 : decode cX0_demand 14 = .ok (.aload_n 0, 1) := by decide +kernel
theorem dX0_demand_15 : decode cX0_demand 15 = .ok (.getfield 25, 3) := by decide +kernel
theorem dX0_demand_18 : decode cX0_demand 18 = .ok (.bipush 100, 2) := by decide +kernel
theorem dX0_demand_20 : decode cX0_demand 20 = .ok (.if_icmp .lt 4, 3) := by decide +kernel
theorem dX0_demand_23 : decode cX0_demand 23 = .ok (.return_, 1) := by decide +kernel
theorem dX0_demand_24 : decode cX0_demand 24 = .ok (.aload_n 0, 1) := by decide +kernel
theorem dX0_demand_25 : decode cX0_demand 25 = .ok (.getfield 15, 3) := by decide +kernel
theorem dX0_demand_28 : decode cX0_demand 28 = .ok (.iload_n 1, 1) := by decide +kernel
theorem dX0_demand_29 : decode cX0_demand 29 = .ok (.iaload, 1) := by decide +kernel
theorem dX0_demand_30 : decode cX0_demand 30 = .ok (.aload_n 0, 1) := by decide +kernel
theorem dX0_demand_31 : decode cX0_demand 31 = .ok (.getfield 15, 3) := by decide +kernel
theorem dX0_demand_34 : decode cX0_demand 34 = .ok (.iload_n 2, 1) := by decide +kernel
theorem dX0_demand_35 : decode cX0_demand 35 = .ok (.iaload, 1) := by decide +kernel
theorem dX0_demand_36 : decode cX0_demand 36 = .ok (.if_icmp .ne 4, 3) := by decide +kernel
theorem dX0_demand_39 : decode cX0_demand 39 = .ok (.return_, 1) := by decide +kernel
theorem dX0_demand_40 : decode cX0_demand 40 = .ok (.aload_n 0, 1) := by decide +kernel
theorem dX0_demand_41 : decode cX0_demand 41 = .ok (.getfield 19, 3) := by decide +kernel
theorem dX0_demand_44 : decode cX0_demand 44 = .ok (.aload_n 0, 1) := by decide +kernel
theorem dX0_demand_45 : decode cX0_demand 45 = .ok (.getfield 25, 3) := by decide +kernel
theorem dX0_demand_48 : decode cX0_demand 48 = .ok (.iload_n 1, 1) := by decide +kernel
theorem dX0_demand_49 : decode cX0_demand 49 = .ok (.iastore, 1) := by decide +kernel
theorem dX0_demand_50 : decode cX0_demand 50 = .ok (.aload_n 0, 1) := by decide +kernel
theorem dX0_demand_51 : decode cX0_demand 51 = .ok (.getfield 22, 3) := by decide +kernel
theorem dX0_demand_54 : decode cX0_demand 54 = .ok (.aload_n 0, 1) := by decide +kernel
theorem dX0_demand_55 : decode cX0_demand 55 = .ok (.getfield 25, 3) := by decide +kernel
theorem dX0_demand_58 : decode cX0_demand 58 = .ok (.iload_n 2, 1) := by decide +kernel
theorem dX0_demand_59 : decode cX0_demand 59 = .ok (.iastore, 1) := by decide +kernel
theorem dX0_demand_60 : decode cX0_demand 60 = .ok (.aload_n 0, 1) := by decide +kernel
theorem dX0_demand_61 : decode cX0_demand 61 = .ok (.dup, 1) := by decide +kernel
theorem dX0_demand_62 : decode cX0_demand 62 = .ok (.getfield 25, 3) := by decide +kernel
theorem dX0_demand_65 : decode cX0_demand 65 = .ok (.iconst 1, 1) := by decide +kernel
theorem dX0_demand_66 : decode cX0_demand 66 = .ok (.iadd, 1) := by decide +kernel
theorem dX0_demand_67 : decode cX0_demand 67 = .ok (.putfield 25, 3) := by decide +kernel
theorem dX0_demand_70 : decode cX0_demand 70 = .ok (.aload_n 0, 1) := by decide +kernel
theorem dX0_demand_71 : decode cX0_demand 71 = .ok (.getfield 15, 3) := by decide +kernel
theorem dX0_demand_74 : decode cX0_demand 74 = .ok (.iload_n 2, 1) := by decide +kernel
theorem dX0_demand_75 : decode cX0_demand 75 = .ok (.iaload, 1) := by decide +kernel
theorem dX0_demand_76 : decode cX0_demand 76 = .ok (.istore_n 3, 1) := by decide +kernel
theorem dX0_demand_77 : decode cX0_demand 77 = .ok (.iconst 0, 1) := by decide +kernel
theorem dX0_demand_78 : decode cX0_demand 78 = .ok (.istore 4, 2) := by decide +kernel
theorem dX0_demand_80 : decode cX0_demand 80 = .ok (.iload 4, 2) := by decide +kernel
theorem dX0_demand_82 : decode cX0_demand 82 = .ok (.bipush 100, 2) := by decide +kernel
theorem dX0_demand_84 : decode cX0_demand 84 = .ok (.if_icmp .ge 33, 3) := by decide +kernel
theorem dX0_demand_87 : decode cX0_demand 87 = .ok (.aload_n 0, 1) := by decide +kernel
theorem dX0_demand_88 : decode cX0_demand 88 = .ok (.getfield 15, 3) := by decide +kernel
theorem dX0_demand_91 : decode cX0_demand 91 = .ok (.iload 4, 2) := by decide +kernel
theorem dX0_demand_93 : decode cX0_demand 93 = .ok (.iaload, 1) := by decide +kernel
theorem dX0_demand_94 : decode cX0_demand 94 = .ok (.iload_n 3, 1) := by decide +kernel
theorem dX0_demand_95 : decode cX0_demand 95 = .ok (.if_icmp .ne 16, 3) := by decide +kernel
theorem dX0_demand_98 : decode cX0_demand 98 = .ok (.aload_n 0, 1) := by decide +kernel
theorem dX0_demand_99 : decode cX0_demand 99 = .ok (.getfield 15, 3) := by decide +kernel
theorem dX0_demand_102 : decode cX0_demand 102 = .ok (.iload 4, 2) := by decide +kernel
theorem dX0_demand_104 : decode cX0_demand 104 = .ok (.aload_n 0, 1) := by decide +kernel
theorem dX0_demand_105 : decode cX0_demand 105 = .ok (.getfield 15, 3) := by decide +kernel
theorem dX0_demand_108 : decode cX0_demand 108 = .ok (.iload_n 1, 1) := by decide +kernel
theorem dX0_demand_109 : decode cX0_demand 109 = .ok (.iaload, 1) := by decide +kernel
theorem dX0_demand_110 : decode cX0_demand 110 = .ok (.iastore, 1) := by decide +kernel
theorem dX0_demand_111 : decode cX0_demand 111 = .ok (.iinc 4 1, 3) := by decide +kernel
theorem dX0_demand_114 : decode cX0_demand 114 = .ok (.goto (-34), 3) := by decide +kernel
theorem dX0_demand_117 : decode cX0_demand 117 = .ok (.return_, 1) := by decide +kernel
theorem dX1_init_0 : decode cX1_init 0 = .ok (.aload_n 0, 1) := by decide +kernel
theorem dX1_init_1 : decode cX1_init 1 = .ok (.invokespecial 3, 3) := by decide +kernel
theorem dX1_init_4 : decode cX1_init 4 = .ok (.aload_n 0, 1) := by decide +kernel
theorem dX1_init_5 : decode cX1_init 5 = .ok (.bipush 100, 2) := by decide +kernel
theorem dX1_init_7 : decode cX1_init 7 = .ok (.newarray .int, 2) := by decide +kernel
theorem dX1_init_9 : decode cX1_init 9 = .ok (.putfield 9, 3) := by decide +kernel
theorem dX1_init_12 : decode cX1_init 12 = .ok (.aload_n 0, 1) := by decide +kernel
theorem dX1_init_13 : decode cX1_init 13 = .ok (.bipush 100, 2) := by decide +kernel
theorem dX1_init_15 : decode cX1_init 15 = .ok (.newarray .int, 2) := by decide +kernel
theorem dX1_init_17 : decode cX1_init 17 = .ok (.putfield 15, 3) := by decide +kernel
theorem dX1_init_20 : decode cX1_init 20 = .ok (.aload_n 0, 1) := by decide +kernel
theorem dX1_init_21 : decode cX1_init 21 = .ok (.new 18, 3) := by decide +kernel
theorem dX1_init_24 : decode cX1_init 24 = .ok (.dup, 1) := by decide +kernel
theorem dX1_init_25 : decode cX1_init 25 = .ok (.invokespecial 20, 3) := by decide +kernel
theorem dX1_init_28 : decode cX1_init 28 = .ok (.putfield 21, 3) := by decide +kernel
theorem dX1_init_31 : decode cX1_init 31 = .ok (.aload_n 0, 1) := by decide +kernel
theorem dX1_init_32 : decode cX1_init 32 = .ok (.new 18, 3) := by decide +kernel
theorem dX1_init_35 : decode cX1_init 35 = .ok (.dup, 1) := by decide +kernel
theorem dX1_init_36 : decode cX1_init 36 = .ok (.invokespecial 20, 3) := by decide +kernel
theorem dX1_init_39 : decode cX1_init 39 = .ok (.putfield 25, 3) := by decide +kernel
theorem dX1_init_42 : decode cX1_init 42 = .ok (.iconst 0, 1) := by decide +kernel
theorem dX1_init_43 : decode cX1_init 43 = .ok (.istore_n 1, 1) := by decide +kernel
theorem dX1_init_44 : decode cX1_init 44 = .ok (.iload_n 1, 1) := by decide +kernel
theorem dX1_init_45 : decode cX1_init 45 = .ok (.bipush 100, 2) := by decide +kernel
theorem dX1_init_47 : decode cX1_init 47 = .ok (.if_icmp .ge 16, 3) := by decide +kernel
theorem dX1_init_50 : decode cX1_init 50 = .ok (.aload_n 0, 1) := by decide +kernel
theorem dX1_init_51 : decode cX1_init 51 = .ok (.getfield 9, 3) := by decide +kernel
theorem dX1_init_54 : decode cX1_init 54 = .ok (.iload_n 1, 1) := by decide +kernel
theorem dX1_init_55 : decode cX1_init 55 = .ok (.iconst (-1), 1) := by decide +kernel
theorem dX1_init_56 : decode cX1_init 56 = .ok (.iastore, 1) := by decide +kernel
theorem dX1_init_57 : decode cX1_init 57 = .ok (.iinc 1 1, 3) := by decide +kernel
theorem dX1_init_60 : decode cX1_init 60 = .ok (.goto (-16), 3) := by decide +kernel
theorem dX1_init_63 : decode cX1_init 63 = .ok (.return_, 1) := by decide +kernel
theorem dX1_has_0 : decode cX1_has 0 = .ok (.aload_n 0, 1) := by decide +kernel
theorem dX1_has_1 : decode cX1_has 1 = .ok (.getfield 21, 3) := by decide +kernel
theorem dX1_has_4 : decode cX1_has 4 = .ok (.areturn, 1) := by decide +kernel
theorem dX1_had_0 : decode cX1_had 0 = .ok (.aload_n 0, 1) := by decide +kernel
theorem dX1_had_1 : decode cX1_had 1 = .ok (.getfield 25, 3) := by decide +kernel
theorem dX1_had_4 : decode cX1_had 4 = .ok (.areturn, 1) := by decide +kernel
theorem dX1_objects_0 : decode cX1_objects 0 = .ok (.aload_n 0, 1) := by decide +kernel
theorem dX1_objects_1 : decode cX1_objects 1 = .ok (.getfield 28, 3) := by decide +kernel
theorem dX1_objects_4 : decode cX1_objects 4 = .ok (.ireturn, 1) := by decide +kernel
theorem dX1_pairs_0 : decode cX1_pairs 0 = .ok (.aload_n 0, 1) := by decide +kernel
theorem dX1_pairs_1 : decode cX1_pairs 1 = .ok (.getfield 32, 3) := by decide +kernel
theorem dX1_pairs_4 : decode cX1_pairs 4 = .ok (.ireturn, 1) := by decide +kernel
theorem dX1_slotOf_0 : decode cX1_slotOf 0 = .ok (.iload_n 1, 1) := by decide +kernel
theorem dX1_slotOf_1 : decode cX1_slotOf 1 = .ok (.ifCond .ge 7, 3) := by decide +kernel
theorem dX1_slotOf_4 : decode cX1_slotOf 4 = .ok (.iconst (-1), 1) := by decide +kernel
theorem dX1_slotOf_5 : decode cX1_slotOf 5 = .ok (.goto 8, 3) := by decide +kernel
theorem dX1_slotOf_8 : decode cX1_slotOf 8 = .ok (.aload_n 0, 1) := by decide +kernel
theorem dX1_slotOf_9 : decode cX1_slotOf 9 = .ok (.iload_n 1, 1) := by decide +kernel
theorem dX1_slotOf_10 : decode cX1_slotOf 10 = .ok (.invokevirtual 35, 3) := by decide +kernel
theorem dX1_slotOf_13 : decode cX1_slotOf 13 = .ok (.ireturn, 1) := by decide +kernel
theorem dX1_numberOf_0 : decode cX1_numberOf 0 = .ok (.iload_n 1, 1) := by decide +kernel
theorem dX1_numberOf_1 : decode cX1_numberOf 1 = .ok (.invokestatic 39, 3) := by decide +kernel
theorem dX1_numberOf_4 : decode cX1_numberOf 4 = .ok (.ifCond .eq 12, 3) := by decide +kernel
theorem dX1_numberOf_7 : decode cX1_numberOf 7 = .ok (.aload_n 0, 1) := by decide +kernel
theorem dX1_numberOf_8 : decode cX1_numberOf 8 = .ok (.getfield 9, 3) := by decide +kernel
theorem dX1_numberOf_11 : decode cX1_numberOf 11 = .ok (.iload_n 1, 1) := by decide +kernel
theorem dX1_numberOf_12 : decode cX1_numberOf 12 = .ok (.iaload, 1) := by decide +kernel
theorem dX1_numberOf_13 : decode cX1_numberOf 13 = .ok (.goto 4, 3) := by decide +kernel
theorem dX1_numberOf_16 : decode cX1_numberOf 16 = .ok (.iconst (-1), 1) := by decide +kernel
theorem dX1_numberOf_17 : decode cX1_numberOf 17 = .ok (.ireturn, 1) := by decide +kernel
theorem dX1_kindOf_0 : decode cX1_kindOf 0 = .ok (.iload_n 1, 1) := by decide +kernel
theorem dX1_kindOf_1 : decode cX1_kindOf 1 = .ok (.invokestatic 39, 3) := by decide +kernel
theorem dX1_kindOf_4 : decode cX1_kindOf 4 = .ok (.ifCond .eq 12, 3) := by decide +kernel
theorem dX1_kindOf_7 : decode cX1_kindOf 7 = .ok (.aload_n 0, 1) := by decide +kernel
theorem dX1_kindOf_8 : decode cX1_kindOf 8 = .ok (.getfield 15, 3) := by decide +kernel
theorem dX1_kindOf_11 : decode cX1_kindOf 11 = .ok (.iload_n 1, 1) := by decide +kernel
theorem dX1_kindOf_12 : decode cX1_kindOf 12 = .ok (.iaload, 1) := by decide +kernel
theorem dX1_kindOf_13 : decode cX1_kindOf 13 = .ok (.goto 4, 3) := by decide +kernel
theorem dX1_kindOf_16 : decode cX1_kindOf 16 = .ok (.iconst (-1), 1) := by decide +kernel
theorem dX1_kindOf_17 : decode cX1_kindOf 17 = .ok (.ireturn, 1) := by decide +kernel
theorem dX1_admit_0 : decode cX1_admit 0 = .ok (.aload_n 0, 1) := by decide +kernel
theorem dX1_admit_1 : decode cX1_admit 1 = .ok (.iconst (-1), 1) := by decide +kernel
theorem dX1_admit_2 : decode cX1_admit 2 = .ok (.invokevirtual 35, 3) := by decide +kernel
theorem dX1_admit_5 : decode cX1_admit 5 = .ok (.istore_n 3, 1) := by decide +kernel
theorem dX1_admit_6 : decode cX1_admit 6 = .ok (.iload_n 3, 1) := by decide +kernel
theorem dX1_admit_7 : decode cX1_admit 7 = .ok (.iconst (-1), 1) := by decide +kernel
theorem dX1_admit_8 : decode cX1_admit 8 = .ok (.if_icmp .eq 27, 3) := by decide +kernel
theorem dX1_admit_11 : decode cX1_admit 11 = .ok (.aload_n 0, 1) := by decide +kernel
theorem dX1_admit_12 : decode cX1_admit 12 = .ok (.getfield 9, 3) := by decide +kernel
theorem dX1_admit_15 : decode cX1_admit 15 = .ok (.iload_n 3, 1) := by decide +kernel
theorem dX1_admit_16 : decode cX1_admit 16 = .ok (.iload_n 1, 1) := by decide +kernel
theorem dX1_admit_17 : decode cX1_admit 17 = .ok (.iastore, 1) := by decide +kernel
theorem dX1_admit_18 : decode cX1_admit 18 = .ok (.aload_n 0, 1) := by decide +kernel
theorem dX1_admit_19 : decode cX1_admit 19 = .ok (.getfield 15, 3) := by decide +kernel
theorem dX1_admit_22 : decode cX1_admit 22 = .ok (.iload_n 3, 1) := by decide +kernel
theorem dX1_admit_23 : decode cX1_admit 23 = .ok (.iload_n 2, 1) := by decide +kernel
theorem dX1_admit_24 : decode cX1_admit 24 = .ok (.iastore, 1) := by decide +kernel
theorem dX1_admit_25 : decode cX1_admit 25 = .ok (.aload_n 0, 1) := by decide +kernel
theorem dX1_admit_26 : decode cX1_admit 26 = .ok (.dup, 1) := by decide +kernel
theorem dX1_admit_27 : decode cX1_admit 27 = .ok (.getfield 28, 3) := by decide +kernel
theorem dX1_admit_30 : decode cX1_admit 30 = .ok (.iconst 1, 1) := by decide +kernel
theorem dX1_admit_31 : decode cX1_admit 31 = .ok (.iadd, 1) := by decide +kernel
theorem dX1_admit_32 : decode cX1_admit 32 = .ok (.putfield 28, 3) := by decide +kernel
theorem dX1_admit_35 : decode cX1_admit 35 = .ok (.iload_n 3, 1) := by decide +kernel
theorem dX1_admit_36 : decode cX1_admit 36 = .ok (.ireturn, 1) := by decide +kernel
theorem dX1_remove_0 : decode cX1_remove 0 = .ok (.aload_n 0, 1) := by decide +kernel
theorem dX1_remove_1 : decode cX1_remove 1 = .ok (.iload_n 1, 1) := by decide +kernel
theorem dX1_remove_2 : decode cX1_remove 2 = .ok (.invokevirtual 45, 3) := by decide +kernel
theorem dX1_remove_5 : decode cX1_remove 5 = .ok (.iconst (-1), 1) := by decide +kernel
theorem dX1_remove_6 : decode cX1_remove 6 = .ok (.if_icmp .ne 4, 3) := by decide +kernel
theorem dX1_remove_9 : decode cX1_remove 9 = .ok (.return_, 1) := by decide +kernel
theorem dX1_remove_10 : decode cX1_remove 10 = .ok (.iconst 0, 1) := by decide +kernel
theorem dX1_remove_11 : decode cX1_remove 11 = .ok (.istore_n 2, 1) := by decide +kernel
theorem dX1_remove_12 : decode cX1_remove 12 = .ok (.iload_n 2, 1) := by decide +kernel
theorem dX1_remove_13 : decode cX1_remove 13 = .ok (.bipush 10, 2) := by decide +kernel
theorem dX1_remove_15 : decode cX1_remove 15 = .ok (.if_icmp .ge 15, 3) := by decide +kernel
theorem dX1_remove_18 : decode cX1_remove 18 = .ok (.aload_n 0, 1) := by decide +kernel
theorem dX1_remove_19 : decode cX1_remove 19 = .ok (.iload_n 2, 1) := by decide +kernel
theorem dX1_remove_20 : decode cX1_remove 20 = .ok (.iload_n 1, 1) := by decide +kernel
theorem dX1_remove_21 : decode cX1_remove 21 = .ok (.invokevirtual 48, 3) := by decide +kernel
theorem dX1_remove_24 : decode cX1_remove 24 = .ok (.iinc 2 1, 3) := by decide +kernel
theorem dX1_remove_27 : decode cX1_remove 27 = .ok (.goto (-15), 3) := by decide +kernel
theorem dX1_remove_30 : decode cX1_remove 30 = .ok (.aload_n 0, 1) := by decide +kernel
theorem dX1_remove_31 : decode cX1_remove 31 = .ok (.getfield 9, 3) := by decide +kernel
theorem dX1_remove_34 : decode cX1_remove 34 = .ok (.iload_n 1, 1) := by decide +kernel
theorem dX1_remove_35 : decode cX1_remove 35 = .ok (.iconst (-1), 1) := by decide +kernel
theorem dX1_remove_36 : decode cX1_remove 36 = .ok (.iastore, 1) := by decide +kernel
theorem dX1_remove_37 : decode cX1_remove 37 = .ok (.aload_n 0, 1) := by decide +kernel
theorem dX1_remove_38 : decode cX1_remove 38 = .ok (.dup, 1) := by decide +kernel
theorem dX1_remove_39 : decode cX1_remove 39 = .ok (.getfield 28, 3) := by decide +kernel
theorem dX1_remove_42 : decode cX1_remove 42 = .ok (.iconst 1, 1) := by decide +kernel
theorem dX1_remove_43 : decode cX1_remove 43 = .ok (.isub, 1) := by decide +kernel
theorem dX1_remove_44 : decode cX1_remove 44 = .ok (.putfield 28, 3) := by decide +kernel
theorem dX1_remove_47 : decode cX1_remove 47 = .ok (.return_, 1) := by decide +kernel
theorem dX1_isJoined_0 : decode cX1_isJoined 0 = .ok (.aload_n 0, 1) := by decide +kernel
theorem dX1_isJoined_1 : decode cX1_isJoined 1 = .ok (.getfield 21, 3) := by decide +kernel
theorem dX1_isJoined_4 : decode cX1_isJoined 4 = .ok (.iload_n 1, 1) := by decide +kernel
theorem dX1_isJoined_5 : decode cX1_isJoined 5 = .ok (.iload_n 2, 1) := by decide +kernel
theorem dX1_isJoined_6 : decode cX1_isJoined 6 = .ok (.iload_n 3, 1) := by decide +kernel
theorem dX1_isJoined_7 : decode cX1_isJoined 7 = .ok (.invokevirtual 52, 3) := by decide +kernel
theorem dX1_isJoined_10 : decode cX1_isJoined 10 = .ok (.ireturn, 1) := by decide +kernel
theorem dX1_join_0 : decode cX1_join 0 = .ok (.aload_n 0, 1) := by decide +kernel
theorem dX1_join_1 : decode cX1_join 1 = .ok (.getfield 21, 3) := by decide +kernel
theorem dX1_join_4 : decode cX1_join 4 = .ok (.iload_n 1, 1) := by decide +kernel
theorem dX1_join_5 : decode cX1_join 5 = .ok (.iload_n 2, 1) := by decide +kernel
theorem dX1_join_6 : decode cX1_join 6 = .ok (.iload 4, 2) := by decide +kernel
theorem dX1_join_8 : decode cX1_join 8 = .ok (.iload_n 3, 1) := by decide +kernel
theorem dX1_join_9 : decode cX1_join 9 = .ok (.invokevirtual 56, 3) := by decide +kernel
theorem dX1_join_12 : decode cX1_join 12 = .ok (.aload_n 0, 1) := by decide +kernel
theorem dX1_join_13 : decode cX1_join 13 = .ok (.getfield 25, 3) := by decide +kernel
theorem dX1_join_16 : decode cX1_join 16 = .ok (.iload_n 1, 1) := by decide +kernel
theorem dX1_join_17 : decode cX1_join 17 = .ok (.iload_n 3, 1) := by decide +kernel
theorem dX1_join_18 : decode cX1_join 18 = .ok (.iload_n 2, 1) := by decide +kernel
theorem dX1_join_19 : decode cX1_join 19 = .ok (.invokevirtual 60, 3) := by decide +kernel
theorem dX1_join_22 : decode cX1_join 22 = .ok (.aload_n 0, 1) := by decide +kernel
theorem dX1_join_23 : decode cX1_join 23 = .ok (.dup, 1) := by decide +kernel
theorem dX1_join_24 : decode cX1_join 24 = .ok (.getfield 32, 3) := by decide +kernel
theorem dX1_join_27 : decode cX1_join 27 = .ok (.iconst 1, 1) := by decide +kernel
theorem dX1_join_28 : decode cX1_join 28 = .ok (.iadd, 1) := by decide +kernel
theorem dX1_join_29 : decode cX1_join 29 = .ok (.putfield 32, 3) := by decide +kernel
theorem dX1_join_32 : decode cX1_join 32 = .ok (.return_, 1) := by decide +kernel
theorem dX1_joinHas_0 : decode cX1_joinHas 0 = .ok (.aload_n 0, 1) := by decide +kernel
theorem dX1_joinHas_1 : decode cX1_joinHas 1 = .ok (.getfield 21, 3) := by decide +kernel
theorem dX1_joinHas_4 : decode cX1_joinHas 4 = .ok (.iload_n 1, 1) := by decide +kernel
theorem dX1_joinHas_5 : decode cX1_joinHas 5 = .ok (.iload_n 2, 1) := by decide +kernel
theorem dX1_joinHas_6 : decode cX1_joinHas 6 = .ok (.iload_n 3, 1) := by decide +kernel
theorem dX1_joinHas_7 : decode cX1_joinHas 7 = .ok (.invokevirtual 60, 3) := by decide +kernel
theorem dX1_joinHas_10 : decode cX1_joinHas 10 = .ok (.aload_n 0, 1) := by decide +kernel
theorem dX1_joinHas_11 : decode cX1_joinHas 11 = .ok (.dup, 1) := by decide +kernel
theorem dX1_joinHas_12 : decode cX1_joinHas 12 = .ok (.getfield 32, 3) := by decide +kernel
theorem dX1_joinHas_15 : decode cX1_joinHas 15 = .ok (.iconst 1, 1) := by decide +kernel
theorem dX1_joinHas_16 : decode cX1_joinHas 16 = .ok (.iadd, 1) := by decide +kernel
theorem dX1_joinHas_17 : decode cX1_joinHas 17 = .ok (.putfield 32, 3) := by decide +kernel
theorem dX1_joinHas_20 : decode cX1_joinHas 20 = .ok (.return_, 1) := by decide +kernel
theorem dX1_joinHad_0 : decode cX1_joinHad 0 = .ok (.aload_n 0, 1) := by decide +kernel
theorem dX1_joinHad_1 : decode cX1_joinHad 1 = .ok (.getfield 25, 3) := by decide +kernel
theorem dX1_joinHad_4 : decode cX1_joinHad 4 = .ok (.iload_n 1, 1) := by decide +kernel
theorem dX1_joinHad_5 : decode cX1_joinHad 5 = .ok (.iload_n 3, 1) := by decide +kernel
theorem dX1_joinHad_6 : decode cX1_joinHad 6 = .ok (.iload_n 2, 1) := by decide +kernel
theorem dX1_joinHad_7 : decode cX1_joinHad 7 = .ok (.invokevirtual 60, 3) := by decide +kernel
theorem dX1_joinHad_10 : decode cX1_joinHad 10 = .ok (.return_, 1) := by decide +kernel
theorem dX1_separate_0 : decode cX1_separate 0 = .ok (.aload_n 0, 1) := by decide +kernel
theorem dX1_separate_1 : decode cX1_separate 1 = .ok (.getfield 21, 3) := by decide +kernel
theorem dX1_separate_4 : decode cX1_separate 4 = .ok (.iload_n 1, 1) := by decide +kernel
theorem dX1_separate_5 : decode cX1_separate 5 = .ok (.iload_n 2, 1) := by decide +kernel
theorem dX1_separate_6 : decode cX1_separate 6 = .ok (.iload_n 3, 1) := by decide +kernel
theorem dX1_separate_7 : decode cX1_separate 7 = .ok (.invokevirtual 64, 3) := by decide +kernel
theorem dX1_separate_10 : decode cX1_separate 10 = .ok (.ifCond .ne 5, 3) := by decide +kernel
theorem dX1_separate_13 : decode cX1_separate 13 = .ok (.iconst 0, 1) := by decide +kernel
theorem dX1_separate_14 : decode cX1_separate 14 = .ok (.ireturn, 1) := by decide +kernel
theorem dX1_separate_15 : decode cX1_separate 15 = .ok (.aload_n 0, 1) := by decide +kernel
theorem dX1_separate_16 : decode cX1_separate 16 = .ok (.getfield 25, 3) := by decide +kernel
theorem dX1_separate_19 : decode cX1_separate 19 = .ok (.iload_n 1, 1) := by decide +kernel
theorem dX1_separate_20 : decode cX1_separate 20 = .ok (.iload_n 3, 1) := by decide +kernel
theorem dX1_separate_21 : decode cX1_separate 21 = .ok (.iload_n 2, 1) := by decide +kernel
theorem dX1_separate_22 : decode cX1_separate 22 = .ok (.invokevirtual 64, 3) := by decide +kernel
theorem dX1_separate_25 : decode cX1_separate 25 = .ok (.pop, 1) := by decide +kernel
theorem dX1_separate_26 : decode cX1_separate 26 = .ok (.aload_n 0, 1) := by decide +kernel
theorem dX1_separate_27 : decode cX1_separate 27 = .ok (.dup, 1) := by decide +kernel
theorem dX1_separate_28 : decode cX1_separate 28 = .ok (.getfield 32, 3) := by decide +kernel
theorem dX1_separate_31 : decode cX1_separate 31 = .ok (.iconst 1, 1) := by decide +kernel
theorem dX1_separate_32 : decode cX1_separate 32 = .ok (.isub, 1) := by decide +kernel
theorem dX1_separate_33 : decode cX1_separate 33 = .ok (.putfield 32, 3) := by decide +kernel
theorem dX1_separate_36 : decode cX1_separate 36 = .ok (.iconst 1, 1) := by decide +kernel
theorem dX1_separate_37 : decode cX1_separate 37 = .ok (.ireturn, 1) := by decide +kernel
theorem dX1_takeFrom_0 : decode cX1_takeFrom 0 = .ok (.aload_n 1, 1) := by decide +kernel
theorem dX1_takeFrom_1 : decode cX1_takeFrom 1 = .ok (.getfield 9, 3) := by decide +kernel
theorem dX1_takeFrom_4 : decode cX1_takeFrom 4 = .ok (.iconst 0, 1) := by decide +kernel
theorem dX1_takeFrom_5 : decode cX1_takeFrom 5 = .ok (.aload_n 0, 1) := by decide +kernel
theorem dX1_takeFrom_6 : decode cX1_takeFrom 6 = .ok (.getfield 9, 3) := by decide +kernel
theorem dX1_takeFrom_9 : decode cX1_takeFrom 9 = .ok (.iconst 0, 1) := by decide +kernel
theorem dX1_takeFrom_10 : decode cX1_takeFrom 10 = .ok (.bipush 100, 2) := by decide +kernel
theorem dX1_takeFrom_12 : decode cX1_takeFrom 12 = .ok (.invokestatic 67, 3) := by decide +kernel
theorem dX1_takeFrom_15 : decode cX1_takeFrom 15 = .ok (.aload_n 1, 1) := by decide +kernel
theorem dX1_takeFrom_16 : decode cX1_takeFrom 16 = .ok (.getfield 15, 3) := by decide +kernel
theorem dX1_takeFrom_19 : decode cX1_takeFrom 19 = .ok (.iconst 0, 1) := by decide +kernel
theorem dX1_takeFrom_20 : decode cX1_takeFrom 20 = .ok (.aload_n 0, 1) := by decide +kernel
theorem dX1_takeFrom_21 : decode cX1_takeFrom 21 = .ok (.getfield 15, 3) := by decide +kernel
theorem dX1_takeFrom_24 : decode cX1_takeFrom 24 = .ok (.iconst 0, 1) := by decide +kernel
theorem dX1_takeFrom_25 : decode cX1_takeFrom 25 = .ok (.bipush 100, 2) := by decide +kernel
theorem dX1_takeFrom_27 : decode cX1_takeFrom 27 = .ok (.invokestatic 67, 3) := by decide +kernel
theorem dX1_takeFrom_30 : decode cX1_takeFrom 30 = .ok (.aload_n 0, 1) := by decide +kernel
theorem dX1_takeFrom_31 : decode cX1_takeFrom 31 = .ok (.getfield 21, 3) := by decide +kernel
theorem dX1_takeFrom_34 : decode cX1_takeFrom 34 = .ok (.aload_n 1, 1) := by decide +kernel
theorem dX1_takeFrom_35 : decode cX1_takeFrom 35 = .ok (.getfield 21, 3) := by decide +kernel
theorem dX1_takeFrom_38 : decode cX1_takeFrom 38 = .ok (.invokevirtual 73, 3) := by decide +kernel
theorem dX1_takeFrom_41 : decode cX1_takeFrom 41 = .ok (.aload_n 0, 1) := by decide +kernel
theorem dX1_takeFrom_42 : decode cX1_takeFrom 42 = .ok (.getfield 25, 3) := by decide +kernel
theorem dX1_takeFrom_45 : decode cX1_takeFrom 45 = .ok (.aload_n 1, 1) := by decide +kernel
theorem dX1_takeFrom_46 : decode cX1_takeFrom 46 = .ok (.getfield 25, 3) := by decide +kernel
theorem dX1_takeFrom_49 : decode cX1_takeFrom 49 = .ok (.invokevirtual 73, 3) := by decide +kernel
theorem dX1_takeFrom_52 : decode cX1_takeFrom 52 = .ok (.aload_n 0, 1) := by decide +kernel
theorem dX1_takeFrom_53 : decode cX1_takeFrom 53 = .ok (.aload_n 1, 1) := by decide +kernel
theorem dX1_takeFrom_54 : decode cX1_takeFrom 54 = .ok (.getfield 28, 3) := by decide +kernel
theorem dX1_takeFrom_57 : decode cX1_takeFrom 57 = .ok (.putfield 28, 3) := by decide +kernel
theorem dX1_takeFrom_60 : decode cX1_takeFrom 60 = .ok (.aload_n 0, 1) := by decide +kernel
theorem dX1_takeFrom_61 : decode cX1_takeFrom 61 = .ok (.aload_n 1, 1) := by decide +kernel
theorem dX1_takeFrom_62 : decode cX1_takeFrom 62 = .ok (.getfield 32, 3) := by decide +kernel
theorem dX1_takeFrom_65 : decode cX1_takeFrom 65 = .ok (.putfield 32, 3) := by decide +kernel
theorem dX1_takeFrom_68 : decode cX1_takeFrom 68 = .ok (.return_, 1) := by decide +kernel
theorem dX1_slotBearing_0 : decode cX1_slotBearing 0 = .ok (.iconst 0, 1) := by decide +kernel
theorem dX1_slotBearing_1 : decode cX1_slotBearing 1 = .ok (.istore_n 2, 1) := by decide +kernel
theorem dX1_slotBearing_2 : decode cX1_slotBearing 2 = .ok (.iload_n 2, 1) := by decide +kernel
theorem dX1_slotBearing_3 : decode cX1_slotBearing 3 = .ok (.bipush 100, 2) := by decide +kernel
theorem dX1_slotBearing_5 : decode cX1_slotBearing 5 = .ok (.if_icmp .ge 21, 3) := by decide +kernel
theorem dX1_slotBearing_8 : decode cX1_slotBearing 8 = .ok (.aload_n 0, 1) := by decide +kernel
theorem dX1_slotBearing_9 : decode cX1_slotBearing 9 = .ok (.getfield 9, 3) := by decide +kernel
theorem dX1_slotBearing_12 : decode cX1_slotBearing 12 = .ok (.iload_n 2, 1) := by decide +kernel
theorem dX1_slotBearing_13 : decode cX1_slotBearing 13 = .ok (.iaload, 1) := by decide +kernel
theorem dX1_slotBearing_14 : decode cX1_slotBearing 14 = .ok (.iload_n 1, 1) := by decide +kernel
theorem dX1_slotBearing_15 : decode cX1_slotBearing 15 = .ok (.if_icmp .ne 5, 3) := by decide +kernel
theorem dX1_slotBearing_18 : decode cX1_slotBearing 18 = .ok (.iload_n 2, 1) := by decide +kernel
theorem dX1_slotBearing_19 : decode cX1_slotBearing 19 = .ok (.ireturn, 1) := by decide +kernel
theorem dX1_slotBearing_20 : decode cX1_slotBearing 20 = .ok (.iinc 2 1, 3) := by decide +kernel
theorem dX1_slotBearing_23 : decode cX1_slotBearing 23 = .ok (.goto (-21), 3) := by decide +kernel
theorem dX1_slotBearing_26 : decode cX1_slotBearing 26 = .ok (.iconst (-1), 1) := by decide +kernel
theorem dX1_slotBearing_27 : decode cX1_slotBearing 27 = .ok (.ireturn, 1) := by decide +kernel
theorem dX1_separateAll_0 : decode cX1_separateAll 0 = .ok (.aload_n 0, 1) := by decide +kernel
theorem dX1_separateAll_1 : decode cX1_separateAll 1 = .ok (.getfield 21, 3) := by decide +kernel
theorem dX1_separateAll_4 : decode cX1_separateAll 4 = .ok (.iload_n 1, 1) := by decide +kernel
theorem dX1_separateAll_5 : decode cX1_separateAll 5 = .ok (.iload_n 2, 1) := by decide +kernel
theorem dX1_separateAll_6 : decode cX1_separateAll 6 = .ok (.invokevirtual 77, 3) := by decide +kernel
theorem dX1_separateAll_9 : decode cX1_separateAll 9 = .ok (.iconst 1, 1) := by decide +kernel
theorem dX1_separateAll_10 : decode cX1_separateAll 10 = .ok (.isub, 1) := by decide +kernel
theorem dX1_separateAll_11 : decode cX1_separateAll 11 = .ok (.istore_n 3, 1) := by decide +kernel
theorem dX1_separateAll_12 : decode cX1_separateAll 12 = .ok (.iload_n 3, 1) := by decide +kernel
theorem dX1_separateAll_13 : decode cX1_separateAll 13 = .ok (.ifCond .lt 26, 3) := by decide +kernel
theorem dX1_separateAll_16 : decode cX1_separateAll 16 = .ok (.aload_n 0, 1) := by decide +kernel
theorem dX1_separateAll_17 : decode cX1_separateAll 17 = .ok (.iload_n 1, 1) := by decide +kernel
theorem dX1_separateAll_18 : decode cX1_separateAll 18 = .ok (.iload_n 2, 1) := by decide +kernel
theorem dX1_separateAll_19 : decode cX1_separateAll 19 = .ok (.aload_n 0, 1) := by decide +kernel
theorem dX1_separateAll_20 : decode cX1_separateAll 20 = .ok (.getfield 21, 3) := by decide +kernel
theorem dX1_separateAll_23 : decode cX1_separateAll 23 = .ok (.iload_n 1, 1) := by decide +kernel
theorem dX1_separateAll_24 : decode cX1_separateAll 24 = .ok (.iload_n 2, 1) := by decide +kernel
theorem dX1_separateAll_25 : decode cX1_separateAll 25 = .ok (.iload_n 3, 1) := by decide +kernel
theorem dX1_separateAll_26 : decode cX1_separateAll 26 = .ok (.invokevirtual 81, 3) := by decide +kernel
theorem dX1_separateAll_29 : decode cX1_separateAll 29 = .ok (.invokevirtual 85, 3) := by decide +kernel
theorem dX1_separateAll_32 : decode cX1_separateAll 32 = .ok (.pop, 1) := by decide +kernel
theorem dX1_separateAll_33 : decode cX1_separateAll 33 = .ok (.iinc 3 (-1), 3) := by decide +kernel
theorem dX1_separateAll_36 : decode cX1_separateAll 36 = .ok (.goto (-24), 3) := by decide +kernel
theorem dX1_separateAll_39 : decode cX1_separateAll 39 = .ok (.aload_n 0, 1) := by decide +kernel
theorem dX1_separateAll_40 : decode cX1_separateAll 40 = .ok (.getfield 25, 3) := by decide +kernel
theorem dX1_separateAll_43 : decode cX1_separateAll 43 = .ok (.iload_n 1, 1) := by decide +kernel
theorem dX1_separateAll_44 : decode cX1_separateAll 44 = .ok (.iload_n 2, 1) := by decide +kernel
theorem dX1_separateAll_45 : decode cX1_separateAll 45 = .ok (.invokevirtual 77, 3) := by decide +kernel
theorem dX1_separateAll_48 : decode cX1_separateAll 48 = .ok (.iconst 1, 1) := by decide +kernel
theorem dX1_separateAll_49 : decode cX1_separateAll 49 = .ok (.isub, 1) := by decide +kernel
theorem dX1_separateAll_50 : decode cX1_separateAll 50 = .ok (.istore_n 3, 1) := by decide +kernel
theorem dX1_separateAll_51 : decode cX1_separateAll 51 = .ok (.iload_n 3, 1) := by decide +kernel
theorem dX1_separateAll_52 : decode cX1_separateAll 52 = .ok (.ifCond .lt 26, 3) := by decide +kernel
theorem dX1_separateAll_55 : decode cX1_separateAll 55 = .ok (.aload_n 0, 1) := by decide +kernel
theorem dX1_separateAll_56 : decode cX1_separateAll 56 = .ok (.iload_n 1, 1) := by decide +kernel
theorem dX1_separateAll_57 : decode cX1_separateAll 57 = .ok (.aload_n 0, 1) := by decide +kernel
theorem dX1_separateAll_58 : decode cX1_separateAll 58 = .ok (.getfield 25, 3) := by decide +kernel
theorem dX1_separateAll_61 : decode cX1_separateAll 61 = .ok (.iload_n 1, 1) := by decide +kernel
theorem dX1_separateAll_62 : decode cX1_separateAll 62 = .ok (.iload_n 2, 1) := by decide +kernel
theorem dX1_separateAll_63 : decode cX1_separateAll 63 = .ok (.iload_n 3, 1) := by decide +kernel
theorem dX1_separateAll_64 : decode cX1_separateAll 64 = .ok (.invokevirtual 81, 3) := by decide +kernel
theorem dX1_separateAll_67 : decode cX1_separateAll 67 = .ok (.iload_n 2, 1) := by decide +kernel
theorem dX1_separateAll_68 : decode cX1_separateAll 68 = .ok (.invokevirtual 85, 3) := by decide +kernel
theorem dX1_separateAll_71 : decode cX1_separateAll 71 = .ok (.pop, 1) := by decide +kernel
theorem dX1_separateAll_72 : decode cX1_separateAll 72 = .ok (.iinc 3 (-1), 3) := by decide +kernel
theorem dX1_separateAll_75 : decode cX1_separateAll 75 = .ok (.goto (-24), 3) := by decide +kernel
theorem dX1_separateAll_78 : decode cX1_separateAll 78 = .ok (.return_, 1) := by decide +kernel
theorem dX2_init_0 : decode cX2_init 0 = .ok (.aload_n 0, 1) := by decide +kernel
theorem dX2_init_1 : decode cX2_init 1 = .ok (.invokespecial 3, 3) := by decide +kernel
theorem dX2_init_4 : decode cX2_init 4 = .ok (.aload_n 0, 1) := by decide +kernel
theorem dX2_init_5 : decode cX2_init 5 = .ok (.aload_n 1, 1) := by decide +kernel
theorem dX2_init_6 : decode cX2_init 6 = .ok (.putfield 9, 3) := by decide +kernel
theorem dX2_init_9 : decode cX2_init 9 = .ok (.aload_n 0, 1) := by decide +kernel
theorem dX2_init_10 : decode cX2_init 10 = .ok (.aload_n 2, 1) := by decide +kernel
theorem dX2_init_11 : decode cX2_init 11 = .ok (.putfield 15, 3) := by decide +kernel
theorem dX2_init_14 : decode cX2_init 14 = .ok (.aload_n 0, 1) := by decide +kernel
theorem dX2_init_15 : decode cX2_init 15 = .ok (.new 19, 3) := by decide +kernel
theorem dX2_init_18 : decode cX2_init 18 = .ok (.dup, 1) := by decide +kernel
theorem dX2_init_19 : decode cX2_init 19 = .ok (.invokespecial 21, 3) := by decide +kernel
theorem dX2_init_22 : decode cX2_init 22 = .ok (.putfield 22, 3) := by decide +kernel
theorem dX2_init_25 : decode cX2_init 25 = .ok (.aload_n 0, 1) := by decide +kernel
theorem dX2_init_26 : decode cX2_init 26 = .ok (.new 19, 3) := by decide +kernel
theorem dX2_init_29 : decode cX2_init 29 = .ok (.dup, 1) := by decide +kernel
theorem dX2_init_30 : decode cX2_init 30 = .ok (.invokespecial 21, 3) := by decide +kernel
theorem dX2_init_33 : decode cX2_init 33 = .ok (.putfield 26, 3) := by decide +kernel
theorem dX2_init_36 : decode cX2_init 36 = .ok (.aload_n 0, 1) := by decide +kernel
theorem dX2_init_37 : decode cX2_init 37 = .ok (.new 19, 3) := by decide +kernel
theorem dX2_init_40 : decode cX2_init 40 = .ok (.dup, 1) := by decide +kernel
theorem dX2_init_41 : decode cX2_init 41 = .ok (.invokespecial 21, 3) := by decide +kernel
theorem dX2_init_44 : decode cX2_init 44 = .ok (.putfield 29, 3) := by decide +kernel
theorem dX2_init_47 : decode cX2_init 47 = .ok (.return_, 1) := by decide +kernel
theorem dX2_gather_0 : decode cX2_gather 0 = .ok (.aload_n 0, 1) := by decide +kernel
theorem dX2_gather_1 : decode cX2_gather 1 = .ok (.getfield 22, 3) := by decide +kernel
theorem dX2_gather_4 : decode cX2_gather 4 = .ok (.invokevirtual 32, 3) := by decide +kernel
theorem dX2_gather_7 : decode cX2_gather 7 = .ok (.aload_n 0, 1) := by decide +kernel
theorem dX2_gather_8 : decode cX2_gather 8 = .ok (.getfield 22, 3) := by decide +kernel
theorem dX2_gather_11 : decode cX2_gather 11 = .ok (.iload_n 2, 1) := by decide +kernel
theorem dX2_gather_12 : decode cX2_gather 12 = .ok (.invokevirtual 35, 3) := by decide +kernel
theorem dX2_gather_15 : decode cX2_gather 15 = .ok (.iconst 0, 1) := by decide +kernel
theorem dX2_gather_16 : decode cX2_gather 16 = .ok (.istore_n 3, 1) := by decide +kernel
theorem dX2_gather_17 : decode cX2_gather 17 = .ok (.iload_n 3, 1) := by decide +kernel
theorem dX2_gather_18 : decode cX2_gather 18 = .ok (.aload_n 0, 1) := by decide +kernel
theorem dX2_gather_19 : decode cX2_gather 19 = .ok (.getfield 22, 3) := by decide +kernel
theorem dX2_gather_22 : decode cX2_gather 22 = .ok (.invokevirtual 39, 3) := by decide +kernel
theorem dX2_gather_25 : decode cX2_gather 25 = .ok (.if_icmp .ge 50, 3) := by decide +kernel
theorem dX2_gather_28 : decode cX2_gather 28 = .ok (.iload_n 3, 1) := by decide +kernel
theorem dX2_gather_29 : decode cX2_gather 29 = .ok (.bipush 100, 2) := by decide +kernel
theorem dX2_gather_31 : decode cX2_gather 31 = .ok (.if_icmp .ge 44, 3) := by decide +kernel
theorem dX2_gather_34 : decode cX2_gather 34 = .ok (.aload_n 0, 1) := by decide +kernel
theorem dX2_gather_35 : decode cX2_gather 35 = .ok (.getfield 26, 3) := by decide +kernel
theorem dX2_gather_38 : decode cX2_gather 38 = .ok (.invokevirtual 32, 3) := by decide +kernel
theorem dX2_gather_41 : decode cX2_gather 41 = .ok (.aload_n 0, 1) := by decide +kernel
theorem dX2_gather_42 : decode cX2_gather 42 = .ok (.getfield 15, 3) := by decide +kernel
theorem dX2_gather_45 : decode cX2_gather 45 = .ok (.aload_n 1, 1) := by decide +kernel
theorem dX2_gather_46 : decode cX2_gather 46 = .ok (.invokevirtual 43, 3) := by decide +kernel
theorem dX2_gather_49 : decode cX2_gather 49 = .ok (.aload_n 0, 1) := by decide +kernel
theorem dX2_gather_50 : decode cX2_gather 50 = .ok (.getfield 22, 3) := by decide +kernel
theorem dX2_gather_53 : decode cX2_gather 53 = .ok (.iload_n 3, 1) := by decide +kernel
theorem dX2_gather_54 : decode cX2_gather 54 = .ok (.invokevirtual 49, 3) := by decide +kernel
theorem dX2_gather_57 : decode cX2_gather 57 = .ok (.aload_n 0, 1) := by decide +kernel
theorem dX2_gather_58 : decode cX2_gather 58 = .ok (.getfield 26, 3) := by decide +kernel
theorem dX2_gather_61 : decode cX2_gather 61 = .ok (.invokevirtual 53, 3) := by decide +kernel
theorem dX2_gather_64 : decode cX2_gather 64 = .ok (.aload_n 0, 1) := by decide +kernel
theorem dX2_gather_65 : decode cX2_gather 65 = .ok (.aload_n 1, 1) := by decide +kernel
theorem dX2_gather_66 : decode cX2_gather 66 = .ok (.invokevirtual 59, 3) := by decide +kernel
theorem dX2_gather_69 : decode cX2_gather 69 = .ok (.iinc 3 1, 3) := by decide +kernel
theorem dX2_gather_72 : decode cX2_gather 72 = .ok (.goto (-55), 3) := by decide +kernel
theorem dX2_gather_75 : decode cX2_gather 75 = .ok (.return_, 1) := by decide +kernel
theorem dX2_firstBarred_0 : decode cX2_firstBarred 0 = .ok (.aload_n 0, 1) := by decide +kernel
theorem dX2_firstBarred_1 : decode cX2_firstBarred 1 = .ok (.getfield 15, 3) := by decide +kernel
theorem dX2_firstBarred_4 : decode cX2_firstBarred 4 = .ok (.aload_n 1, 1) := by decide +kernel
theorem dX2_firstBarred_5 : decode cX2_firstBarred 5 = .ok (.invokevirtual 43, 3) := by decide +kernel
theorem dX2_firstBarred_8 : decode cX2_firstBarred 8 = .ok (.iload_n 2, 1) := by decide +kernel
theorem dX2_firstBarred_9 : decode cX2_firstBarred 9 = .ok (.invokevirtual 63, 3) := by decide +kernel
theorem dX2_firstBarred_12 : decode cX2_firstBarred 12 = .ok (.astore_n 3, 1) := by decide +kernel
theorem dX2_firstBarred_13 : decode cX2_firstBarred 13 = .ok (.iconst (-1), 1) := by decide +kernel
theorem dX2_firstBarred_14 : decode cX2_firstBarred 14 = .ok (.istore 4, 2) := by decide +kernel
theorem dX2_firstBarred_16 : decode cX2_firstBarred 16 = .ok (.iconst 0, 1) := by decide +kernel
theorem dX2_firstBarred_17 : decode cX2_firstBarred 17 = .ok (.istore 5, 2) := by decide +kernel
theorem dX2_firstBarred_19 : decode cX2_firstBarred 19 = .ok (.iload 5, 2) := by decide +kernel
theorem dX2_firstBarred_21 : decode cX2_firstBarred 21 = .ok (.aload_n 3, 1) := by decide +kernel
theorem dX2_firstBarred_22 : decode cX2_firstBarred 22 = .ok (.invokevirtual 39, 3) := by decide +kernel
theorem dX2_firstBarred_25 : decode cX2_firstBarred 25 = .ok (.if_icmp .ge 74, 3) := by decide +kernel
theorem dX2_firstBarred_28 : decode cX2_firstBarred 28 = .ok (.aload_n 3, 1) := by decide +kernel
theorem dX2_firstBarred_29 : decode cX2_firstBarred 29 = .ok (.iload 5, 2) := by decide +kernel
theorem dX2_firstBarred_31 : decode cX2_firstBarred 31 = .ok (.invokevirtual 49, 3) := by decide +kernel
theorem dX2_firstBarred_34 : decode cX2_firstBarred 34 = .ok (.istore 6, 2) := by decide +kernel
theorem dX2_firstBarred_36 : decode cX2_firstBarred 36 = .ok (.aload_n 0, 1) := by decide +kernel
theorem dX2_firstBarred_37 : decode cX2_firstBarred 37 = .ok (.getfield 22, 3) := by decide +kernel
theorem dX2_firstBarred_40 : decode cX2_firstBarred 40 = .ok (.iload 6, 2) := by decide +kernel
theorem dX2_firstBarred_42 : decode cX2_firstBarred 42 = .ok (.invokevirtual 67, 3) := by decide +kernel
theorem dX2_firstBarred_45 : decode cX2_firstBarred 45 = .ok (.ifCond .eq 18, 3) := by decide +kernel
theorem dX2_firstBarred_48 : decode cX2_firstBarred 48 = .ok (.aload_n 0, 1) := by decide +kernel
theorem dX2_firstBarred_49 : decode cX2_firstBarred 49 = .ok (.aload_n 1, 1) := by decide +kernel
theorem dX2_firstBarred_50 : decode cX2_firstBarred 50 = .ok (.iload 6, 2) := by decide +kernel
theorem dX2_firstBarred_52 : decode cX2_firstBarred 52 = .ok (.invokevirtual 71, 3) := by decide +kernel
theorem dX2_firstBarred_55 : decode cX2_firstBarred 55 = .ok (.iconst (-1), 1) := by decide +kernel
theorem dX2_firstBarred_56 : decode cX2_firstBarred 56 = .ok (.if_icmp .eq 7, 3) := by decide +kernel
theorem dX2_firstBarred_59 : decode cX2_firstBarred 59 = .ok (.iconst 1, 1) := by decide +kernel
theorem dX2_firstBarred_60 : decode cX2_firstBarred 60 = .ok (.goto 4, 3) := by decide +kernel
theorem dX2_firstBarred_63 : decode cX2_firstBarred 63 = .ok (.iconst 0, 1) := by decide +kernel
theorem dX2_firstBarred_64 : decode cX2_firstBarred 64 = .ok (.istore 7, 2) := by decide +kernel
theorem dX2_firstBarred_66 : decode cX2_firstBarred 66 = .ok (.iload 7, 2) := by decide +kernel
theorem dX2_firstBarred_68 : decode cX2_firstBarred 68 = .ok (.ifCond .eq 25, 3) := by decide +kernel
theorem dX2_firstBarred_71 : decode cX2_firstBarred 71 = .ok (.iload 4, 2) := by decide +kernel
theorem dX2_firstBarred_73 : decode cX2_firstBarred 73 = .ok (.iconst (-1), 1) := by decide +kernel
theorem dX2_firstBarred_74 : decode cX2_firstBarred 74 = .ok (.if_icmp .eq 15, 3) := by decide +kernel
theorem dX2_firstBarred_77 : decode cX2_firstBarred 77 = .ok (.aload_n 0, 1) := by decide +kernel
theorem dX2_firstBarred_78 : decode cX2_firstBarred 78 = .ok (.aload_n 1, 1) := by decide +kernel
theorem dX2_firstBarred_79 : decode cX2_firstBarred 79 = .ok (.iload 6, 2) := by decide +kernel
theorem dX2_firstBarred_81 : decode cX2_firstBarred 81 = .ok (.iload 4, 2) := by decide +kernel
theorem dX2_firstBarred_83 : decode cX2_firstBarred 83 = .ok (.invokevirtual 75, 3) := by decide +kernel
theorem dX2_firstBarred_86 : decode cX2_firstBarred 86 = .ok (.ifCond .eq 7, 3) := by decide +kernel
theorem dX2_firstBarred_89 : decode cX2_firstBarred 89 = .ok (.iload 6, 2) := by decide +kernel
theorem dX2_firstBarred_91 : decode cX2_firstBarred 91 = .ok (.istore 4, 2) := by decide +kernel
theorem dX2_firstBarred_93 : decode cX2_firstBarred 93 = .ok (.iinc 5 1, 3) := by decide +kernel
theorem dX2_firstBarred_96 : decode cX2_firstBarred 96 = .ok (.goto (-77), 3) := by decide +kernel
theorem dX2_firstBarred_99 : decode cX2_firstBarred 99 = .ok (.iload 4, 2) := by decide +kernel
theorem dX2_firstBarred_101 : decode cX2_firstBarred 101 = .ok (.ireturn, 1) := by decide +kernel
theorem dX2_leastBar_0 : decode cX2_leastBar 0 = .ok (.iconst (-1), 1) := by decide +kernel
theorem dX2_leastBar_1 : decode cX2_leastBar 1 = .ok (.istore_n 3, 1) := by decide +kernel
theorem dX2_leastBar_2 : decode cX2_leastBar 2 = .ok (.iconst 0, 1) := by decide +kernel
theorem dX2_leastBar_3 : decode cX2_leastBar 3 = .ok (.istore 4, 2) := by decide +kernel
theorem dX2_leastBar_5 : decode cX2_leastBar 5 = .ok (.iload 4, 2) := by decide +kernel
theorem dX2_leastBar_7 : decode cX2_leastBar 7 = .ok (.aload_n 0, 1) := by decide +kernel
theorem dX2_leastBar_8 : decode cX2_leastBar 8 = .ok (.getfield 9, 3) := by decide +kernel
theorem dX2_leastBar_11 : decode cX2_leastBar 11 = .ok (.invokevirtual 79, 3) := by decide +kernel
theorem dX2_leastBar_14 : decode cX2_leastBar 14 = .ok (.if_icmp .ge 114, 3) := by decide +kernel
theorem dX2_leastBar_17 : decode cX2_leastBar 17 = .ok (.aload_n 0, 1) := by decide +kernel
theorem dX2_leastBar_18 : decode cX2_leastBar 18 = .ok (.getfield 9, 3) := by decide +kernel
theorem dX2_leastBar_21 : decode cX2_leastBar 21 = .ok (.iload 4, 2) := by decide +kernel
theorem dX2_leastBar_23 : decode cX2_leastBar 23 = .ok (.iconst 2, 1) := by decide +kernel
theorem dX2_leastBar_24 : decode cX2_leastBar 24 = .ok (.invokevirtual 84, 3) := by decide +kernel
theorem dX2_leastBar_27 : decode cX2_leastBar 27 = .ok (.ifCond .eq 16, 3) := by decide +kernel
theorem dX2_leastBar_30 : decode cX2_leastBar 30 = .ok (.aload_n 1, 1) := by decide +kernel
theorem dX2_leastBar_31 : decode cX2_leastBar 31 = .ok (.invokevirtual 43, 3) := by decide +kernel
theorem dX2_leastBar_34 : decode cX2_leastBar 34 = .ok (.iload 4, 2) := by decide +kernel
theorem dX2_leastBar_36 : decode cX2_leastBar 36 = .ok (.iload_n 2, 1) := by decide +kernel
theorem dX2_leastBar_37 : decode cX2_leastBar 37 = .ok (.invokevirtual 88, 3) := by decide +kernel
theorem dX2_leastBar_40 : decode cX2_leastBar 40 = .ok (.goto 4, 3) := by decide +kernel
theorem dX2_leastBar_43 : decode cX2_leastBar 43 = .ok (.iconst 0, 1) := by decide +kernel
theorem dX2_leastBar_44 : decode cX2_leastBar 44 = .ok (.istore 5, 2) := by decide +kernel
theorem dX2_leastBar_46 : decode cX2_leastBar 46 = .ok (.iconst 0, 1) := by decide +kernel
theorem dX2_leastBar_47 : decode cX2_leastBar 47 = .ok (.istore 6, 2) := by decide +kernel
theorem dX2_leastBar_49 : decode cX2_leastBar 49 = .ok (.iload 6, 2) := by decide +kernel
theorem dX2_leastBar_51 : decode cX2_leastBar 51 = .ok (.iload 5, 2) := by decide +kernel
theorem dX2_leastBar_53 : decode cX2_leastBar 53 = .ok (.if_icmp .ge 69, 3) := by decide +kernel
theorem dX2_leastBar_56 : decode cX2_leastBar 56 = .ok (.aload_n 1, 1) := by decide +kernel
theorem dX2_leastBar_57 : decode cX2_leastBar 57 = .ok (.invokevirtual 43, 3) := by decide +kernel
theorem dX2_leastBar_60 : decode cX2_leastBar 60 = .ok (.iload 4, 2) := by decide +kernel
theorem dX2_leastBar_62 : decode cX2_leastBar 62 = .ok (.iload_n 2, 1) := by decide +kernel
theorem dX2_leastBar_63 : decode cX2_leastBar 63 = .ok (.iload 6, 2) := by decide +kernel
theorem dX2_leastBar_65 : decode cX2_leastBar 65 = .ok (.invokevirtual 94, 3) := by decide +kernel
theorem dX2_leastBar_68 : decode cX2_leastBar 68 = .ok (.istore 7, 2) := by decide +kernel
theorem dX2_leastBar_70 : decode cX2_leastBar 70 = .ok (.aload_n 0, 1) := by decide +kernel
theorem dX2_leastBar_71 : decode cX2_leastBar 71 = .ok (.getfield 22, 3) := by decide +kernel
theorem dX2_leastBar_74 : decode cX2_leastBar 74 = .ok (.iload 7, 2) := by decide +kernel
theorem dX2_leastBar_76 : decode cX2_leastBar 76 = .ok (.invokevirtual 67, 3) := by decide +kernel
theorem dX2_leastBar_79 : decode cX2_leastBar 79 = .ok (.ifCond .ne 7, 3) := by decide +kernel
theorem dX2_leastBar_82 : decode cX2_leastBar 82 = .ok (.iconst 1, 1) := by decide +kernel
theorem dX2_leastBar_83 : decode cX2_leastBar 83 = .ok (.goto 4, 3) := by decide +kernel
theorem dX2_leastBar_86 : decode cX2_leastBar 86 = .ok (.iconst 0, 1) := by decide +kernel
theorem dX2_leastBar_87 : decode cX2_leastBar 87 = .ok (.istore 8, 2) := by decide +kernel
theorem dX2_leastBar_89 : decode cX2_leastBar 89 = .ok (.iload 8, 2) := by decide +kernel
theorem dX2_leastBar_91 : decode cX2_leastBar 91 = .ok (.ifCond .eq 25, 3) := by decide +kernel
theorem dX2_leastBar_94 : decode cX2_leastBar 94 = .ok (.iload_n 3, 1) := by decide +kernel
theorem dX2_leastBar_95 : decode cX2_leastBar 95 = .ok (.iconst (-1), 1) := by decide +kernel
theorem dX2_leastBar_96 : decode cX2_leastBar 96 = .ok (.if_icmp .eq 17, 3) := by decide +kernel
theorem dX2_leastBar_99 : decode cX2_leastBar 99 = .ok (.aload_n 1, 1) := by decide +kernel
theorem dX2_leastBar_100 : decode cX2_leastBar 100 = .ok (.iload 7, 2) := by decide +kernel
theorem dX2_leastBar_102 : decode cX2_leastBar 102 = .ok (.invokevirtual 97, 3) := by decide +kernel
theorem dX2_leastBar_105 : decode cX2_leastBar 105 = .ok (.aload_n 1, 1) := by decide +kernel
theorem dX2_leastBar_106 : decode cX2_leastBar 106 = .ok (.iload_n 3, 1) := by decide +kernel
theorem dX2_leastBar_107 : decode cX2_leastBar 107 = .ok (.invokevirtual 97, 3) := by decide +kernel
theorem dX2_leastBar_110 : decode cX2_leastBar 110 = .ok (.if_icmp .ge 6, 3) := by decide +kernel
theorem dX2_leastBar_113 : decode cX2_leastBar 113 = .ok (.iload 7, 2) := by decide +kernel
theorem dX2_leastBar_115 : decode cX2_leastBar 115 = .ok (.istore_n 3, 1) := by decide +kernel
theorem dX2_leastBar_116 : decode cX2_leastBar 116 = .ok (.iinc 6 1, 3) := by decide +kernel
theorem dX2_leastBar_119 : decode cX2_leastBar 119 = .ok (.goto (-70), 3) := by decide +kernel
theorem dX2_leastBar_122 : decode cX2_leastBar 122 = .ok (.iinc 4 1, 3) := by decide +kernel
theorem dX2_leastBar_125 : decode cX2_leastBar 125 = .ok (.goto (-120), 3) := by decide +kernel
theorem dX2_leastBar_128 : decode cX2_leastBar 128 = .ok (.iload_n 3, 1) := by decide +kernel
theorem dX2_leastBar_129 : decode cX2_leastBar 129 = .ok (.ireturn, 1) := by decide +kernel
theorem dX2_removeAll_0 : decode cX2_removeAll 0 = .ok (.iconst 0, 1) := by decide +kernel
theorem dX2_removeAll_1 : decode cX2_removeAll 1 = .ok (.istore_n 2, 1) := by decide +kernel
theorem dX2_removeAll_2 : decode cX2_removeAll 2 = .ok (.iload_n 2, 1) := by decide +kernel
theorem dX2_removeAll_3 : decode cX2_removeAll 3 = .ok (.aload_n 0, 1) := by decide +kernel
theorem dX2_removeAll_4 : decode cX2_removeAll 4 = .ok (.getfield 22, 3) := by decide +kernel
theorem dX2_removeAll_7 : decode cX2_removeAll 7 = .ok (.invokevirtual 39, 3) := by decide +kernel
theorem dX2_removeAll_10 : decode cX2_removeAll 10 = .ok (.if_icmp .ge 21, 3) := by decide +kernel
theorem dX2_removeAll_13 : decode cX2_removeAll 13 = .ok (.aload_n 1, 1) := by decide +kernel
theorem dX2_removeAll_14 : decode cX2_removeAll 14 = .ok (.aload_n 0, 1) := by decide +kernel
theorem dX2_removeAll_15 : decode cX2_removeAll 15 = .ok (.getfield 22, 3) := by decide +kernel
theorem dX2_removeAll_18 : decode cX2_removeAll 18 = .ok (.iload_n 2, 1) := by decide +kernel
theorem dX2_removeAll_19 : decode cX2_removeAll 19 = .ok (.invokevirtual 49, 3) := by decide +kernel
theorem dX2_removeAll_22 : decode cX2_removeAll 22 = .ok (.invokevirtual 100, 3) := by decide +kernel
theorem dX2_removeAll_25 : decode cX2_removeAll 25 = .ok (.iinc 2 1, 3) := by decide +kernel
theorem dX2_removeAll_28 : decode cX2_removeAll 28 = .ok (.goto (-26), 3) := by decide +kernel
theorem dX2_removeAll_31 : decode cX2_removeAll 31 = .ok (.aload_n 0, 1) := by decide +kernel
theorem dX2_removeAll_32 : decode cX2_removeAll 32 = .ok (.getfield 22, 3) := by decide +kernel
theorem dX2_removeAll_35 : decode cX2_removeAll 35 = .ok (.invokevirtual 39, 3) := by decide +kernel
theorem dX2_removeAll_38 : decode cX2_removeAll 38 = .ok (.ireturn, 1) := by decide +kernel
theorem dX2_addThoseWithoutOwner_0 : decode cX2_addThoseWithoutOwner 0 = .ok (.iconst 0, 1) := by decide +kernel
theorem dX2_addThoseWithoutOwner_1 : decode cX2_addThoseWithoutOwner 1 = .ok (.istore_n 2, 1) := by decide +kernel
theorem dX2_addThoseWithoutOwner_2 : decode cX2_addThoseWithoutOwner 2 = .ok (.iload_n 2, 1) := by decide +kernel
theorem dX2_addThoseWithoutOwner_3 : decode cX2_addThoseWithoutOwner 3 = .ok (.aload_n 0, 1) := by decide +kernel
theorem dX2_addThoseWithoutOwner_4 : decode cX2_addThoseWithoutOwner 4 = .ok (.getfield 26, 3) := by decide +kernel
theorem dX2_addThoseWithoutOwner_7 : decode cX2_addThoseWithoutOwner 7 = .ok (.invokevirtual 39, 3) := by decide +kernel
theorem dX2_addThoseWithoutOwner_10 : decode cX2_addThoseWithoutOwner 10 = .ok (.if_icmp .ge 61, 3) := by decide +kernel
theorem dX2_addThoseWithoutOwner_13 : decode cX2_addThoseWithoutOwner 13 = .ok (.aload_n 0, 1) := by decide +kernel
theorem dX2_addThoseWithoutOwner_14 : decode cX2_addThoseWithoutOwner 14 = .ok (.getfield 29, 3) := by decide +kernel
theorem dX2_addThoseWithoutOwner_17 : decode cX2_addThoseWithoutOwner 17 = .ok (.invokevirtual 32, 3) := by decide +kernel
theorem dX2_addThoseWithoutOwner_20 : decode cX2_addThoseWithoutOwner 20 = .ok (.aload_n 0, 1) := by decide +kernel
theorem dX2_addThoseWithoutOwner_21 : decode cX2_addThoseWithoutOwner 21 = .ok (.getfield 15, 3) := by decide +kernel
theorem dX2_addThoseWithoutOwner_24 : decode cX2_addThoseWithoutOwner 24 = .ok (.aload_n 1, 1) := by decide +kernel
theorem dX2_addThoseWithoutOwner_25 : decode cX2_addThoseWithoutOwner 25 = .ok (.invokevirtual 103, 3) := by decide +kernel
theorem dX2_addThoseWithoutOwner_28 : decode cX2_addThoseWithoutOwner 28 = .ok (.aload_n 0, 1) := by decide +kernel
theorem dX2_addThoseWithoutOwner_29 : decode cX2_addThoseWithoutOwner 29 = .ok (.getfield 26, 3) := by decide +kernel
theorem dX2_addThoseWithoutOwner_32 : decode cX2_addThoseWithoutOwner 32 = .ok (.iload_n 2, 1) := by decide +kernel
theorem dX2_addThoseWithoutOwner_33 : decode cX2_addThoseWithoutOwner 33 = .ok (.invokevirtual 49, 3) := by decide +kernel
theorem dX2_addThoseWithoutOwner_36 : decode cX2_addThoseWithoutOwner 36 = .ok (.aload_n 0, 1) := by decide +kernel
theorem dX2_addThoseWithoutOwner_37 : decode cX2_addThoseWithoutOwner 37 = .ok (.getfield 29, 3) := by decide +kernel
theorem dX2_addThoseWithoutOwner_40 : decode cX2_addThoseWithoutOwner 40 = .ok (.invokevirtual 53, 3) := by decide +kernel
theorem dX2_addThoseWithoutOwner_43 : decode cX2_addThoseWithoutOwner 43 = .ok (.aload_n 0, 1) := by decide +kernel
theorem dX2_addThoseWithoutOwner_44 : decode cX2_addThoseWithoutOwner 44 = .ok (.invokevirtual 106, 3) := by decide +kernel
theorem dX2_addThoseWithoutOwner_47 : decode cX2_addThoseWithoutOwner 47 = .ok (.ifCond .eq 18, 3) := by decide +kernel
theorem dX2_addThoseWithoutOwner_50 : decode cX2_addThoseWithoutOwner 50 = .ok (.aload_n 0, 1) := by decide +kernel
theorem dX2_addThoseWithoutOwner_51 : decode cX2_addThoseWithoutOwner 51 = .ok (.getfield 22, 3) := by decide +kernel
theorem dX2_addThoseWithoutOwner_54 : decode cX2_addThoseWithoutOwner 54 = .ok (.aload_n 0, 1) := by decide +kernel
theorem dX2_addThoseWithoutOwner_55 : decode cX2_addThoseWithoutOwner 55 = .ok (.getfield 26, 3) := by decide +kernel
theorem dX2_addThoseWithoutOwner_58 : decode cX2_addThoseWithoutOwner 58 = .ok (.iload_n 2, 1) := by decide +kernel
theorem dX2_addThoseWithoutOwner_59 : decode cX2_addThoseWithoutOwner 59 = .ok (.invokevirtual 49, 3) := by decide +kernel
theorem dX2_addThoseWithoutOwner_62 : decode cX2_addThoseWithoutOwner 62 = .ok (.invokevirtual 35, 3) := by decide +kernel
theorem dX2_addThoseWithoutOwner_65 : decode cX2_addThoseWithoutOwner 65 = .ok (.iinc 2 1, 3) := by decide +kernel
theorem dX2_addThoseWithoutOwner_68 : decode cX2_addThoseWithoutOwner 68 = .ok (.goto (-66), 3) := by decide +kernel
theorem dX2_addThoseWithoutOwner_71 : decode cX2_addThoseWithoutOwner 71 = .ok (.return_, 1) := by decide +kernel
theorem dX2_areOwnersGone_0 : decode cX2_areOwnersGone 0 = .ok (.iconst 0, 1) := by decide +kernel
theorem dX2_areOwnersGone_1 : decode cX2_areOwnersGone 1 = .ok (.istore_n 1, 1) := by decide +kernel
theorem dX2_areOwnersGone_2 : decode cX2_areOwnersGone 2 = .ok (.iload_n 1, 1) := by decide +kernel
theorem dX2_areOwnersGone_3 : decode cX2_areOwnersGone 3 = .ok (.aload_n 0, 1) := by decide +kernel
theorem dX2_areOwnersGone_4 : decode cX2_areOwnersGone 4 = .ok (.getfield 29, 3) := by decide +kernel
theorem dX2_areOwnersGone_7 : decode cX2_areOwnersGone 7 = .ok (.invokevirtual 39, 3) := by decide +kernel
theorem dX2_areOwnersGone_10 : decode cX2_areOwnersGone 10 = .ok (.if_icmp .ge 29, 3) := by decide +kernel
theorem dX2_areOwnersGone_13 : decode cX2_areOwnersGone 13 = .ok (.aload_n 0, 1) := by decide +kernel
theorem dX2_areOwnersGone_14 : decode cX2_areOwnersGone 14 = .ok (.getfield 22, 3) := by decide +kernel
theorem dX2_areOwnersGone_17 : decode cX2_areOwnersGone 17 = .ok (.aload_n 0, 1) := by decide +kernel
theorem dX2_areOwnersGone_18 : decode cX2_areOwnersGone 18 = .ok (.getfield 29, 3) := by decide +kernel
theorem dX2_areOwnersGone_21 : decode cX2_areOwnersGone 21 = .ok (.iload_n 1, 1) := by decide +kernel
theorem dX2_areOwnersGone_22 : decode cX2_areOwnersGone 22 = .ok (.invokevirtual 49, 3) := by decide +kernel
theorem dX2_areOwnersGone_25 : decode cX2_areOwnersGone 25 = .ok (.invokevirtual 67, 3) := by decide +kernel
theorem dX2_areOwnersGone_28 : decode cX2_areOwnersGone 28 = .ok (.ifCond .ne 5, 3) := by decide +kernel
theorem dX2_areOwnersGone_31 : decode cX2_areOwnersGone 31 = .ok (.iconst 0, 1) := by decide +kernel
theorem dX2_areOwnersGone_32 : decode cX2_areOwnersGone 32 = .ok (.ireturn, 1) := by decide +kernel
theorem dX2_areOwnersGone_33 : decode cX2_areOwnersGone 33 = .ok (.iinc 1 1, 3) := by decide +kernel
theorem dX2_areOwnersGone_36 : decode cX2_areOwnersGone 36 = .ok (.goto (-34), 3) := by decide +kernel
theorem dX2_areOwnersGone_39 : decode cX2_areOwnersGone 39 = .ok (.iconst 1, 1) := by decide +kernel
theorem dX2_areOwnersGone_40 : decode cX2_areOwnersGone 40 = .ok (.ireturn, 1) := by decide +kernel
theorem dX2_isBefore_0 : decode cX2_isBefore 0 = .ok (.aload_n 0, 1) := by decide +kernel
theorem dX2_isBefore_1 : decode cX2_isBefore 1 = .ok (.getfield 15, 3) := by decide +kernel
theorem dX2_isBefore_4 : decode cX2_isBefore 4 = .ok (.iload_n 2, 1) := by decide +kernel
theorem dX2_isBefore_5 : decode cX2_isBefore 5 = .ok (.invokevirtual 110, 3) := by decide +kernel
theorem dX2_isBefore_8 : decode cX2_isBefore 8 = .ok (.istore 4, 2) := by decide +kernel
theorem dX2_isBefore_10 : decode cX2_isBefore 10 = .ok (.aload_n 0, 1) := by decide +kernel
theorem dX2_isBefore_11 : decode cX2_isBefore 11 = .ok (.getfield 15, 3) := by decide +kernel
theorem dX2_isBefore_14 : decode cX2_isBefore 14 = .ok (.iload_n 3, 1) := by decide +kernel
theorem dX2_isBefore_15 : decode cX2_isBefore 15 = .ok (.invokevirtual 110, 3) := by decide +kernel
theorem dX2_isBefore_18 : decode cX2_isBefore 18 = .ok (.istore 5, 2) := by decide +kernel
theorem dX2_isBefore_20 : decode cX2_isBefore 20 = .ok (.iload 4, 2) := by decide +kernel
theorem dX2_isBefore_22 : decode cX2_isBefore 22 = .ok (.iload 5, 2) := by decide +kernel
theorem dX2_isBefore_24 : decode cX2_isBefore 24 = .ok (.if_icmp .lt 23, 3) := by decide +kernel
theorem dX2_isBefore_27 : decode cX2_isBefore 27 = .ok (.iload 4, 2) := by decide +kernel
theorem dX2_isBefore_29 : decode cX2_isBefore 29 = .ok (.iload 5, 2) := by decide +kernel
theorem dX2_isBefore_31 : decode cX2_isBefore 31 = .ok (.if_icmp .ne 20, 3) := by decide +kernel
theorem dX2_isBefore_34 : decode cX2_isBefore 34 = .ok (.aload_n 1, 1) := by decide +kernel
theorem dX2_isBefore_35 : decode cX2_isBefore 35 = .ok (.iload_n 2, 1) := by decide +kernel
theorem dX2_isBefore_36 : decode cX2_isBefore 36 = .ok (.invokevirtual 97, 3) := by decide +kernel
theorem dX2_isBefore_39 : decode cX2_isBefore 39 = .ok (.aload_n 1, 1) := by decide +kernel
theorem dX2_isBefore_40 : decode cX2_isBefore 40 = .ok (.iload_n 3, 1) := by decide +kernel
theorem dX2_isBefore_41 : decode cX2_isBefore 41 = .ok (.invokevirtual 97, 3) := by decide +kernel
theorem dX2_isBefore_44 : decode cX2_isBefore 44 = .ok (.if_icmp .ge 7, 3) := by decide +kernel
theorem dX2_isBefore_47 : decode cX2_isBefore 47 = .ok (.iconst 1, 1) := by decide +kernel
theorem dX2_isBefore_48 : decode cX2_isBefore 48 = .ok (.goto 4, 3) := by decide +kernel
theorem dX2_isBefore_51 : decode cX2_isBefore 51 = .ok (.iconst 0, 1) := by decide +kernel
theorem dX2_isBefore_52 : decode cX2_isBefore 52 = .ok (.ireturn, 1) := by decide +kernel
theorem dX3_init_0 : decode cX3_init 0 = .ok (.aload_n 0, 1) := by decide +kernel
theorem dX3_init_1 : decode cX3_init 1 = .ok (.invokespecial 3, 3) := by decide +kernel
theorem dX3_init_4 : decode cX3_init 4 = .ok (.aload_n 0, 1) := by decide +kernel
theorem dX3_init_5 : decode cX3_init 5 = .ok (.sipush 2000, 3) := by decide +kernel
theorem dX3_init_8 : decode cX3_init 8 = .ok (.newarray .long, 2) := by decide +kernel
theorem dX3_init_10 : decode cX3_init 10 = .ok (.putfield 11, 3) := by decide +kernel
theorem dX3_init_13 : decode cX3_init 13 = .ok (.aload_n 0, 1) := by decide +kernel
theorem dX3_init_14 : decode cX3_init 14 = .ok (.sipush 1000, 3) := by decide +kernel
theorem dX3_init_17 : decode cX3_init 17 = .ok (.newarray .int, 2) := by decide +kernel
theorem dX3_init_19 : decode cX3_init 19 = .ok (.putfield 15, 3) := by decide +kernel
theorem dX3_init_22 : decode cX3_init 22 = .ok (.return_, 1) := by decide +kernel
theorem dX3_lengthOf_0 : decode cX3_lengthOf 0 = .ok (.iload_n 1, 1) := by decide +kernel
theorem dX3_lengthOf_1 : decode cX3_lengthOf 1 = .ok (.iload_n 2, 1) := by decide +kernel
theorem dX3_lengthOf_2 : decode cX3_lengthOf 2 = .ok (.invokestatic 19, 3) := by decide +kernel
theorem dX3_lengthOf_5 : decode cX3_lengthOf 5 = .ok (.ifCond .eq 16, 3) := by decide +kernel
theorem dX3_lengthOf_8 : decode cX3_lengthOf 8 = .ok (.aload_n 0, 1) := by decide +kernel
theorem dX3_lengthOf_9 : decode cX3_lengthOf 9 = .ok (.getfield 15, 3) := by decide +kernel
theorem dX3_lengthOf_12 : decode cX3_lengthOf 12 = .ok (.iload_n 1, 1) := by decide +kernel
theorem dX3_lengthOf_13 : decode cX3_lengthOf 13 = .ok (.iload_n 2, 1) := by decide +kernel
theorem dX3_lengthOf_14 : decode cX3_lengthOf 14 = .ok (.invokestatic 23, 3) := by decide +kernel
theorem dX3_lengthOf_17 : decode cX3_lengthOf 17 = .ok (.iaload, 1) := by decide +kernel
theorem dX3_lengthOf_18 : decode cX3_lengthOf 18 = .ok (.goto 4, 3) := by decide +kernel
theorem dX3_lengthOf_21 : decode cX3_lengthOf 21 = .ok (.iconst 0, 1) := by decide +kernel
theorem dX3_lengthOf_22 : decode cX3_lengthOf 22 = .ok (.ireturn, 1) := by decide +kernel
theorem dX3_get_0 : decode cX3_get 0 = .ok (.iload_n 3, 1) := by decide +kernel
theorem dX3_get_1 : decode cX3_get 1 = .ok (.ifCond .lt 26, 3) := by decide +kernel
theorem dX3_get_4 : decode cX3_get 4 = .ok (.iload_n 3, 1) := by decide +kernel
theorem dX3_get_5 : decode cX3_get 5 = .ok (.aload_n 0, 1) := by decide +kernel
theorem dX3_get_6 : decode cX3_get 6 = .ok (.iload_n 1, 1) := by decide +kernel
theorem dX3_get_7 : decode cX3_get 7 = .ok (.iload_n 2, 1) := by decide +kernel
theorem dX3_get_8 : decode cX3_get 8 = .ok (.invokevirtual 27, 3) := by decide +kernel
theorem dX3_get_11 : decode cX3_get 11 = .ok (.if_icmp .ge 16, 3) := by decide +kernel
theorem dX3_get_14 : decode cX3_get 14 = .ok (.aload_n 0, 1) := by decide +kernel
theorem dX3_get_15 : decode cX3_get 15 = .ok (.iload_n 1, 1) := by decide +kernel
theorem dX3_get_16 : decode cX3_get 16 = .ok (.iload_n 2, 1) := by decide +kernel
theorem dX3_get_17 : decode cX3_get 17 = .ok (.invokestatic 23, 3) := by decide +kernel
theorem dX3_get_20 : decode cX3_get 20 = .ok (.iload_n 3, 1) := by decide +kernel
theorem dX3_get_21 : decode cX3_get 21 = .ok (.invokevirtual 30, 3) := by decide +kernel
theorem dX3_get_24 : decode cX3_get 24 = .ok (.goto 4, 3) := by decide +kernel
theorem dX3_get_27 : decode cX3_get 27 = .ok (.iconst (-1), 1) := by decide +kernel
theorem dX3_get_28 : decode cX3_get 28 = .ok (.ireturn, 1) := by decide +kernel
theorem dX3_holds_0 : decode cX3_holds 0 = .ok (.aload_n 0, 1) := by decide +kernel
theorem dX3_holds_1 : decode cX3_holds 1 = .ok (.iload_n 1, 1) := by decide +kernel
theorem dX3_holds_2 : decode cX3_holds 2 = .ok (.iload_n 2, 1) := by decide +kernel
theorem dX3_holds_3 : decode cX3_holds 3 = .ok (.invokevirtual 27, 3) := by decide +kernel
theorem dX3_holds_6 : decode cX3_holds 6 = .ok (.istore 4, 2) := by decide +kernel
theorem dX3_holds_8 : decode cX3_holds 8 = .ok (.iconst 0, 1) := by decide +kernel
theorem dX3_holds_9 : decode cX3_holds 9 = .ok (.istore 5, 2) := by decide +kernel
theorem dX3_holds_11 : decode cX3_holds 11 = .ok (.iload 5, 2) := by decide +kernel
theorem dX3_holds_13 : decode cX3_holds 13 = .ok (.iload 4, 2) := by decide +kernel
theorem dX3_holds_15 : decode cX3_holds 15 = .ok (.if_icmp .ge 26, 3) := by decide +kernel
theorem dX3_holds_18 : decode cX3_holds 18 = .ok (.aload_n 0, 1) := by decide +kernel
theorem dX3_holds_19 : decode cX3_holds 19 = .ok (.iload_n 1, 1) := by decide +kernel
theorem dX3_holds_20 : decode cX3_holds 20 = .ok (.iload_n 2, 1) := by decide +kernel
theorem dX3_holds_21 : decode cX3_holds 21 = .ok (.invokestatic 23, 3) := by decide +kernel
theorem dX3_holds_24 : decode cX3_holds 24 = .ok (.iload 5, 2) := by decide +kernel
theorem dX3_holds_26 : decode cX3_holds 26 = .ok (.invokevirtual 30, 3) := by decide +kernel
theorem dX3_holds_29 : decode cX3_holds 29 = .ok (.iload_n 3, 1) := by decide +kernel
theorem dX3_holds_30 : decode cX3_holds 30 = .ok (.if_icmp .ne 5, 3) := by decide +kernel
theorem dX3_holds_33 : decode cX3_holds 33 = .ok (.iconst 1, 1) := by decide +kernel
theorem dX3_holds_34 : decode cX3_holds 34 = .ok (.ireturn, 1) := by decide +kernel
theorem dX3_holds_35 : decode cX3_holds 35 = .ok (.iinc 5 1, 3) := by decide +kernel
theorem dX3_holds_38 : decode cX3_holds 38 = .ok (.goto (-27), 3) := by decide +kernel
theorem dX3_holds_41 : decode cX3_holds 41 = .ok (.iconst 0, 1) := by decide +kernel
theorem dX3_holds_42 : decode cX3_holds 42 = .ok (.ireturn, 1) := by decide +kernel
theorem dX3_addTo_0 : decode cX3_addTo 0 = .ok (.aload_n 0, 1) := by decide +kernel
theorem dX3_addTo_1 : decode cX3_addTo 1 = .ok (.iload_n 2, 1) := by decide +kernel
theorem dX3_addTo_2 : decode cX3_addTo 2 = .ok (.iload_n 3, 1) := by decide +kernel
theorem dX3_addTo_3 : decode cX3_addTo 3 = .ok (.invokevirtual 27, 3) := by decide +kernel
theorem dX3_addTo_6 : decode cX3_addTo 6 = .ok (.istore 4, 2) := by decide +kernel
theorem dX3_addTo_8 : decode cX3_addTo 8 = .ok (.iconst 0, 1) := by decide +kernel
theorem dX3_addTo_9 : decode cX3_addTo 9 = .ok (.istore 5, 2) := by decide +kernel
theorem dX3_addTo_11 : decode cX3_addTo 11 = .ok (.iload 5, 2) := by decide +kernel
theorem dX3_addTo_13 : decode cX3_addTo 13 = .ok (.iload 4, 2) := by decide +kernel
theorem dX3_addTo_15 : decode cX3_addTo 15 = .ok (.if_icmp .ge 24, 3) := by decide +kernel
theorem dX3_addTo_18 : decode cX3_addTo 18 = .ok (.aload_n 1, 1) := by decide +kernel
theorem dX3_addTo_19 : decode cX3_addTo 19 = .ok (.aload_n 0, 1) := by decide +kernel
theorem dX3_addTo_20 : decode cX3_addTo 20 = .ok (.iload_n 2, 1) := by decide +kernel
theorem dX3_addTo_21 : decode cX3_addTo 21 = .ok (.iload_n 3, 1) := by decide +kernel
theorem dX3_addTo_22 : decode cX3_addTo 22 = .ok (.invokestatic 23, 3) := by decide +kernel
theorem dX3_addTo_25 : decode cX3_addTo 25 = .ok (.iload 5, 2) := by decide +kernel
theorem dX3_addTo_27 : decode cX3_addTo 27 = .ok (.invokevirtual 30, 3) := by decide +kernel
theorem dX3_addTo_30 : decode cX3_addTo 30 = .ok (.invokevirtual 33, 3) := by decide +kernel
theorem dX3_addTo_33 : decode cX3_addTo 33 = .ok (.iinc 5 1, 3) := by decide +kernel
theorem dX3_addTo_36 : decode cX3_addTo 36 = .ok (.goto (-25), 3) := by decide +kernel
theorem dX3_addTo_39 : decode cX3_addTo 39 = .ok (.return_, 1) := by decide +kernel
theorem dX3_insert_0 : decode cX3_insert 0 = .ok (.iload_n 1, 1) := by decide +kernel
theorem dX3_insert_1 : decode cX3_insert 1 = .ok (.iload_n 2, 1) := by decide +kernel
theorem dX3_insert_2 : decode cX3_insert 2 = .ok (.invokestatic 19, 3) := by decide +kernel
theorem dX3_insert_5 : decode cX3_insert 5 = .ok (.ifCond .eq 11, 3) := by decide +kernel
theorem dX3_insert_8 : decode cX3_insert 8 = .ok (.iload 4, 2) := by decide +kernel
theorem dX3_insert_10 : decode cX3_insert 10 = .ok (.invokestatic 39, 3) := by decide +kernel
theorem dX3_insert_13 : decode cX3_insert 13 = .ok (.ifCond .ne 4, 3) := by decide +kernel
theorem dX3_insert_16 : decode cX3_insert 16 = .ok (.return_, 1) := by decide +kernel
theorem dX3_insert_17 : decode cX3_insert 17 = .ok (.iload_n 1, 1) := by decide +kernel
theorem dX3_insert_18 : decode cX3_insert 18 = .ok (.iload_n 2, 1) := by decide +kernel
theorem dX3_insert_19 : decode cX3_insert 19 = .ok (.invokestatic 23, 3) := by decide +kernel
theorem dX3_insert_22 : decode cX3_insert 22 = .ok (.istore 5, 2) := by decide +kernel
theorem dX3_insert_24 : decode cX3_insert 24 = .ok (.aload_n 0, 1) := by decide +kernel
theorem dX3_insert_25 : decode cX3_insert 25 = .ok (.getfield 15, 3) := by decide +kernel
theorem dX3_insert_28 : decode cX3_insert 28 = .ok (.iload 5, 2) := by decide +kernel
theorem dX3_insert_30 : decode cX3_insert 30 = .ok (.iaload, 1) := by decide +kernel
theorem dX3_insert_31 : decode cX3_insert 31 = .ok (.istore 6, 2) := by decide +kernel
theorem dX3_insert_33 : decode cX3_insert 33 = .ok (.iload_n 3, 1) := by decide +kernel
theorem dX3_insert_34 : decode cX3_insert 34 = .ok (.ifCond .lt 16, 3) := by decide +kernel
theorem dX3_insert_37 : decode cX3_insert 37 = .ok (.iload_n 3, 1) := by decide +kernel
theorem dX3_insert_38 : decode cX3_insert 38 = .ok (.iload 6, 2) := by decide +kernel
theorem dX3_insert_40 : decode cX3_insert 40 = .ok (.if_icmp .gt 10, 3) := by decide +kernel
theorem dX3_insert_43 : decode cX3_insert 43 = .ok (.iload 6, 2) := by decide +kernel
theorem dX3_insert_45 : decode cX3_insert 45 = .ok (.bipush 12, 2) := by decide +kernel
theorem dX3_insert_47 : decode cX3_insert 47 = .ok (.if_icmp .lt 4, 3) := by decide +kernel
theorem dX3_insert_50 : decode cX3_insert 50 = .ok (.return_, 1) := by decide +kernel
theorem dX3_insert_51 : decode cX3_insert 51 = .ok (.iload 6, 2) := by decide +kernel
theorem dX3_insert_53 : decode cX3_insert 53 = .ok (.istore 7, 2) := by decide +kernel
theorem dX3_insert_55 : decode cX3_insert 55 = .ok (.iload 7, 2) := by decide +kernel
theorem dX3_insert_57 : decode cX3_insert 57 = .ok (.iload_n 3, 1) := by decide +kernel
theorem dX3_insert_58 : decode cX3_insert 58 = .ok (.if_icmp .le 27, 3) := by decide +kernel
theorem dX3_insert_61 : decode cX3_insert 61 = .ok (.aload_n 0, 1) := by decide +kernel
theorem dX3_insert_62 : decode cX3_insert 62 = .ok (.iload 5, 2) := by decide +kernel
theorem dX3_insert_64 : decode cX3_insert 64 = .ok (.iload 7, 2) := by decide +kernel
theorem dX3_insert_66 : decode cX3_insert 66 = .ok (.aload_n 0, 1) := by decide +kernel
theorem dX3_insert_67 : decode cX3_insert 67 = .ok (.iload 5, 2) := by decide +kernel
theorem dX3_insert_69 : decode cX3_insert 69 = .ok (.iload 7, 2) := by decide +kernel
theorem dX3_insert_71 : decode cX3_insert 71 = .ok (.iconst 1, 1) := by decide +kernel
theorem dX3_insert_72 : decode cX3_insert 72 = .ok (.isub, 1) := by decide +kernel
theorem dX3_insert_73 : decode cX3_insert 73 = .ok (.invokevirtual 30, 3) := by decide +kernel
theorem dX3_insert_76 : decode cX3_insert 76 = .ok (.invokevirtual 43, 3) := by decide +kernel
theorem dX3_insert_79 : decode cX3_insert 79 = .ok (.iinc 7 (-1), 3) := by decide +kernel
theorem dX3_insert_82 : decode cX3_insert 82 = .ok (.goto (-27), 3) := by decide +kernel
theorem dX3_insert_85 : decode cX3_insert 85 = .ok (.aload_n 0, 1) := by decide +kernel
theorem dX3_insert_86 : decode cX3_insert 86 = .ok (.iload 5, 2) := by decide +kernel
theorem dX3_insert_88 : decode cX3_insert 88 = .ok (.iload_n 3, 1) := by decide +kernel
theorem dX3_insert_89 : decode cX3_insert 89 = .ok (.iload 4, 2) := by decide +kernel
theorem dX3_insert_91 : decode cX3_insert 91 = .ok (.invokevirtual 43, 3) := by decide +kernel
theorem dX3_insert_94 : decode cX3_insert 94 = .ok (.aload_n 0, 1) := by decide +kernel
theorem dX3_insert_95 : decode cX3_insert 95 = .ok (.getfield 15, 3) := by decide +kernel
theorem dX3_insert_98 : decode cX3_insert 98 = .ok (.iload 5, 2) := by decide +kernel
theorem dX3_insert_100 : decode cX3_insert 100 = .ok (.iload 6, 2) := by decide +kernel
theorem dX3_insert_102 : decode cX3_insert 102 = .ok (.iconst 1, 1) := by decide +kernel
theorem dX3_insert_103 : decode cX3_insert 103 = .ok (.iadd, 1) := by decide +kernel
theorem dX3_insert_104 : decode cX3_insert 104 = .ok (.iastore, 1) := by decide +kernel
theorem dX3_insert_105 : decode cX3_insert 105 = .ok (.return_, 1) := by decide +kernel
theorem dX3_append_0 : decode cX3_append 0 = .ok (.aload_n 0, 1) := by decide +kernel
theorem dX3_append_1 : decode cX3_append 1 = .ok (.iload_n 1, 1) := by decide +kernel
theorem dX3_append_2 : decode cX3_append 2 = .ok (.iload_n 2, 1) := by decide +kernel
theorem dX3_append_3 : decode cX3_append 3 = .ok (.aload_n 0, 1) := by decide +kernel
theorem dX3_append_4 : decode cX3_append 4 = .ok (.iload_n 1, 1) := by decide +kernel
theorem dX3_append_5 : decode cX3_append 5 = .ok (.iload_n 2, 1) := by decide +kernel
theorem dX3_append_6 : decode cX3_append 6 = .ok (.invokevirtual 27, 3) := by decide +kernel
theorem dX3_append_9 : decode cX3_append 9 = .ok (.iload_n 3, 1) := by decide +kernel
theorem dX3_append_10 : decode cX3_append 10 = .ok (.invokevirtual 47, 3) := by decide +kernel
theorem dX3_append_13 : decode cX3_append 13 = .ok (.return_, 1) := by decide +kernel
theorem dX3_remove_0 : decode cX3_remove 0 = .ok (.iload_n 1, 1) := by decide +kernel
theorem dX3_remove_1 : decode cX3_remove 1 = .ok (.iload_n 2, 1) := by decide +kernel
theorem dX3_remove_2 : decode cX3_remove 2 = .ok (.invokestatic 19, 3) := by decide +kernel
theorem dX3_remove_5 : decode cX3_remove 5 = .ok (.ifCond .ne 5, 3) := by decide +kernel
theorem dX3_remove_8 : decode cX3_remove 8 = .ok (.iconst 0, 1) := by decide +kernel
theorem dX3_remove_9 : decode cX3_remove 9 = .ok (.ireturn, 1) := by decide +kernel
theorem dX3_remove_10 : decode cX3_remove 10 = .ok (.iload_n 1, 1) := by decide +kernel
theorem dX3_remove_11 : decode cX3_remove 11 = .ok (.iload_n 2, 1) := by decide +kernel
theorem dX3_remove_12 : decode cX3_remove 12 = .ok (.invokestatic 23, 3) := by decide +kernel
theorem dX3_remove_15 : decode cX3_remove 15 = .ok (.istore 4, 2) := by decide +kernel
theorem dX3_remove_17 : decode cX3_remove 17 = .ok (.aload_n 0, 1) := by decide +kernel
theorem dX3_remove_18 : decode cX3_remove 18 = .ok (.getfield 15, 3) := by decide +kernel
theorem dX3_remove_21 : decode cX3_remove 21 = .ok (.iload 4, 2) := by decide +kernel
theorem dX3_remove_23 : decode cX3_remove 23 = .ok (.iaload, 1) := by decide +kernel
theorem dX3_remove_24 : decode cX3_remove 24 = .ok (.istore 5, 2) := by decide +kernel
theorem dX3_remove_26 : decode cX3_remove 26 = .ok (.iconst 0, 1) := by decide +kernel
theorem dX3_remove_27 : decode cX3_remove 27 = .ok (.istore 6, 2) := by decide +kernel
theorem dX3_remove_29 : decode cX3_remove 29 = .ok (.iconst 0, 1) := by decide +kernel
theorem dX3_remove_30 : decode cX3_remove 30 = .ok (.istore 7, 2) := by decide +kernel
theorem dX3_remove_32 : decode cX3_remove 32 = .ok (.iload 7, 2) := by decide +kernel
theorem dX3_remove_34 : decode cX3_remove 34 = .ok (.iload 5, 2) := by decide +kernel
theorem dX3_remove_36 : decode cX3_remove 36 = .ok (.if_icmp .ge 38, 3) := by decide +kernel
theorem dX3_remove_39 : decode cX3_remove 39 = .ok (.aload_n 0, 1) := by decide +kernel
theorem dX3_remove_40 : decode cX3_remove 40 = .ok (.iload 4, 2) := by decide +kernel
theorem dX3_remove_42 : decode cX3_remove 42 = .ok (.iload 7, 2) := by decide +kernel
theorem dX3_remove_44 : decode cX3_remove 44 = .ok (.invokevirtual 30, 3) := by decide +kernel
theorem dX3_remove_47 : decode cX3_remove 47 = .ok (.istore 8, 2) := by decide +kernel
theorem dX3_remove_49 : decode cX3_remove 49 = .ok (.iload 8, 2) := by decide +kernel
theorem dX3_remove_51 : decode cX3_remove 51 = .ok (.iload_n 3, 1) := by decide +kernel
theorem dX3_remove_52 : decode cX3_remove 52 = .ok (.if_icmp .eq 16, 3) := by decide +kernel
theorem dX3_remove_55 : decode cX3_remove 55 = .ok (.aload_n 0, 1) := by decide +kernel
theorem dX3_remove_56 : decode cX3_remove 56 = .ok (.iload 4, 2) := by decide +kernel
theorem dX3_remove_58 : decode cX3_remove 58 = .ok (.iload 6, 2) := by decide +kernel
theorem dX3_remove_60 : decode cX3_remove 60 = .ok (.iload 8, 2) := by decide +kernel
theorem dX3_remove_62 : decode cX3_remove 62 = .ok (.invokevirtual 43, 3) := by decide +kernel
theorem dX3_remove_65 : decode cX3_remove 65 = .ok (.iinc 6 1, 3) := by decide +kernel
theorem dX3_remove_68 : decode cX3_remove 68 = .ok (.iinc 7 1, 3) := by decide +kernel
theorem dX3_remove_71 : decode cX3_remove 71 = .ok (.goto (-39), 3) := by decide +kernel
theorem dX3_remove_74 : decode cX3_remove 74 = .ok (.aload_n 0, 1) := by decide +kernel
theorem dX3_remove_75 : decode cX3_remove 75 = .ok (.getfield 15, 3) := by decide +kernel
theorem dX3_remove_78 : decode cX3_remove 78 = .ok (.iload 4, 2) := by decide +kernel
theorem dX3_remove_80 : decode cX3_remove 80 = .ok (.iload 6, 2) := by decide +kernel
theorem dX3_remove_82 : decode cX3_remove 82 = .ok (.iastore, 1) := by decide +kernel
theorem dX3_remove_83 : decode cX3_remove 83 = .ok (.iload 6, 2) := by decide +kernel
theorem dX3_remove_85 : decode cX3_remove 85 = .ok (.iload 5, 2) := by decide +kernel
theorem dX3_remove_87 : decode cX3_remove 87 = .ok (.if_icmp .ge 7, 3) := by decide +kernel
theorem dX3_remove_90 : decode cX3_remove 90 = .ok (.iconst 1, 1) := by decide +kernel
theorem dX3_remove_91 : decode cX3_remove 91 = .ok (.goto 4, 3) := by decide +kernel
theorem dX3_remove_94 : decode cX3_remove 94 = .ok (.iconst 0, 1) := by decide +kernel
theorem dX3_remove_95 : decode cX3_remove 95 = .ok (.ireturn, 1) := by decide +kernel
theorem dX3_takeFrom_0 : decode cX3_takeFrom 0 = .ok (.aload_n 1, 1) := by decide +kernel
theorem dX3_takeFrom_1 : decode cX3_takeFrom 1 = .ok (.getfield 11, 3) := by decide +kernel
theorem dX3_takeFrom_4 : decode cX3_takeFrom 4 = .ok (.iconst 0, 1) := by decide +kernel
theorem dX3_takeFrom_5 : decode cX3_takeFrom 5 = .ok (.aload_n 0, 1) := by decide +kernel
theorem dX3_takeFrom_6 : decode cX3_takeFrom 6 = .ok (.getfield 11, 3) := by decide +kernel
theorem dX3_takeFrom_9 : decode cX3_takeFrom 9 = .ok (.iconst 0, 1) := by decide +kernel
theorem dX3_takeFrom_10 : decode cX3_takeFrom 10 = .ok (.aload_n 0, 1) := by decide +kernel
theorem dX3_takeFrom_11 : decode cX3_takeFrom 11 = .ok (.getfield 11, 3) := by decide +kernel
theorem dX3_takeFrom_14 : decode cX3_takeFrom 14 = .ok (.arraylength, 1) := by decide +kernel
theorem dX3_takeFrom_15 : decode cX3_takeFrom 15 = .ok (.invokestatic 51, 3) := by decide +kernel
theorem dX3_takeFrom_18 : decode cX3_takeFrom 18 = .ok (.aload_n 1, 1) := by decide +kernel
theorem dX3_takeFrom_19 : decode cX3_takeFrom 19 = .ok (.getfield 15, 3) := by decide +kernel
theorem dX3_takeFrom_22 : decode cX3_takeFrom 22 = .ok (.iconst 0, 1) := by decide +kernel
theorem dX3_takeFrom_23 : decode cX3_takeFrom 23 = .ok (.aload_n 0, 1) := by decide +kernel
theorem dX3_takeFrom_24 : decode cX3_takeFrom 24 = .ok (.getfield 15, 3) := by decide +kernel
theorem dX3_takeFrom_27 : decode cX3_takeFrom 27 = .ok (.iconst 0, 1) := by decide +kernel
theorem dX3_takeFrom_28 : decode cX3_takeFrom 28 = .ok (.aload_n 0, 1) := by decide +kernel
theorem dX3_takeFrom_29 : decode cX3_takeFrom 29 = .ok (.getfield 15, 3) := by decide +kernel
theorem dX3_takeFrom_32 : decode cX3_takeFrom 32 = .ok (.arraylength, 1) := by decide +kernel
theorem dX3_takeFrom_33 : decode cX3_takeFrom 33 = .ok (.invokestatic 51, 3) := by decide +kernel
theorem dX3_takeFrom_36 : decode cX3_takeFrom 36 = .ok (.return_, 1) := by decide +kernel
theorem dX3_isRow_0 : decode cX3_isRow 0 = .ok (.iload_n 0, 1) := by decide +kernel
theorem dX3_isRow_1 : decode cX3_isRow 1 = .ok (.ifCond .lt 23, 3) := by decide +kernel
theorem dX3_isRow_4 : decode cX3_isRow 4 = .ok (.iload_n 0, 1) := by decide +kernel
theorem dX3_isRow_5 : decode cX3_isRow 5 = .ok (.bipush 10, 2) := by decide +kernel
theorem dX3_isRow_7 : decode cX3_isRow 7 = .ok (.if_icmp .ge 17, 3) := by decide +kernel
theorem dX3_isRow_10 : decode cX3_isRow 10 = .ok (.iload_n 1, 1) := by decide +kernel
theorem dX3_isRow_11 : decode cX3_isRow 11 = .ok (.ifCond .lt 13, 3) := by decide +kernel
theorem dX3_isRow_14 : decode cX3_isRow 14 = .ok (.iload_n 1, 1) := by decide +kernel
theorem dX3_isRow_15 : decode cX3_isRow 15 = .ok (.bipush 100, 2) := by decide +kernel
theorem dX3_isRow_17 : decode cX3_isRow 17 = .ok (.if_icmp .ge 7, 3) := by decide +kernel
theorem dX3_isRow_20 : decode cX3_isRow 20 = .ok (.iconst 1, 1) := by decide +kernel
theorem dX3_isRow_21 : decode cX3_isRow 21 = .ok (.goto 4, 3) := by decide +kernel
theorem dX3_isRow_24 : decode cX3_isRow 24 = .ok (.iconst 0, 1) := by decide +kernel
theorem dX3_isRow_25 : decode cX3_isRow 25 = .ok (.ireturn, 1) := by decide +kernel
theorem dX3_rowOf_0 : decode cX3_rowOf 0 = .ok (.iload_n 0, 1) := by decide +kernel
theorem dX3_rowOf_1 : decode cX3_rowOf 1 = .ok (.bipush 100, 2) := by decide +kernel
theorem dX3_rowOf_3 : decode cX3_rowOf 3 = .ok (.imul, 1) := by decide +kernel
theorem dX3_rowOf_4 : decode cX3_rowOf 4 = .ok (.iload_n 1, 1) := by decide +kernel
theorem dX3_rowOf_5 : decode cX3_rowOf 5 = .ok (.iadd, 1) := by decide +kernel
theorem dX3_rowOf_6 : decode cX3_rowOf 6 = .ok (.ireturn, 1) := by decide +kernel
theorem dX3_read_0 : decode cX3_read 0 = .ok (.aload_n 0, 1) := by decide +kernel
theorem dX3_read_1 : decode cX3_read 1 = .ok (.getfield 11, 3) := by decide +kernel
theorem dX3_read_4 : decode cX3_read 4 = .ok (.iload_n 1, 1) := by decide +kernel
theorem dX3_read_5 : decode cX3_read 5 = .ok (.iconst 2, 1) := by decide +kernel
theorem dX3_read_6 : decode cX3_read 6 = .ok (.imul, 1) := by decide +kernel
theorem dX3_read_7 : decode cX3_read 7 = .ok (.iload_n 2, 1) := by decide +kernel
theorem dX3_read_8 : decode cX3_read 8 = .ok (.bipush 6, 2) := by decide +kernel
theorem dX3_read_10 : decode cX3_read 10 = .ok (.idiv, 1) := by decide +kernel
theorem dX3_read_11 : decode cX3_read 11 = .ok (.iadd, 1) := by decide +kernel
theorem dX3_read_12 : decode cX3_read 12 = .ok (.laload, 1) := by decide +kernel
theorem dX3_read_13 : decode cX3_read 13 = .ok (.lstore_n 3, 1) := by decide +kernel
theorem dX3_read_14 : decode cX3_read 14 = .ok (.iload_n 2, 1) := by decide +kernel
theorem dX3_read_15 : decode cX3_read 15 = .ok (.bipush 6, 2) := by decide +kernel
theorem dX3_read_17 : decode cX3_read 17 = .ok (.irem, 1) := by decide +kernel
theorem dX3_read_18 : decode cX3_read 18 = .ok (.bipush 8, 2) := by decide +kernel
theorem dX3_read_20 : decode cX3_read 20 = .ok (.imul, 1) := by decide +kernel
theorem dX3_read_21 : decode cX3_read 21 = .ok (.istore 5, 2) := by decide +kernel
theorem dX3_read_23 : decode cX3_read 23 = .ok (.lload_n 3, 1) := by decide +kernel
theorem dX3_read_24 : decode cX3_read 24 = .ok (.iload 5, 2) := by decide +kernel
theorem dX3_read_26 : decode cX3_read 26 = .ok (.lushr, 1) := by decide +kernel
theorem dX3_read_27 : decode cX3_read 27 = .ok (.ldc2_w 57, 3) := by decide +kernel
theorem dX3_read_30 : decode cX3_read 30 = .ok (.land, 1) := by decide +kernel
theorem dX3_read_31 : decode cX3_read 31 = .ok (.l2i, 1) := by decide +kernel
theorem dX3_read_32 : decode cX3_read 32 = .ok (.ireturn, 1) := by decide +kernel
theorem dX3_write_0 : decode cX3_write 0 = .ok (.iload_n 1, 1) := by decide +kernel
theorem dX3_write_1 : decode cX3_write 1 = .ok (.iconst 2, 1) := by decide +kernel
theorem dX3_write_2 : decode cX3_write 2 = .ok (.imul, 1) := by decide +kernel
theorem dX3_write_3 : decode cX3_write 3 = .ok (.iload_n 2, 1) := by decide +kernel
theorem dX3_write_4 : decode cX3_write 4 = .ok (.bipush 6, 2) := by decide +kernel
theorem dX3_write_6 : decode cX3_write 6 = .ok (.idiv, 1) := by decide +kernel
theorem dX3_write_7 : decode cX3_write 7 = .ok (.iadd, 1) := by decide +kernel
theorem dX3_write_8 : decode cX3_write 8 = .ok (.istore 4, 2) := by decide +kernel
theorem dX3_write_10 : decode cX3_write 10 = .ok (.iload_n 2, 1) := by decide +kernel
theorem dX3_write_11 : decode cX3_write 11 = .ok (.bipush 6, 2) := by decide +kernel
theorem dX3_write_13 : decode cX3_write 13 = .ok (.irem, 1) := by decide +kernel
theorem dX3_write_14 : decode cX3_write 14 = .ok (.bipush 8, 2) := by decide +kernel
theorem dX3_write_16 : decode cX3_write 16 = .ok (.imul, 1) := by decide +kernel
theorem dX3_write_17 : decode cX3_write 17 = .ok (.istore 5, 2) := by decide +kernel
theorem dX3_write_19 : decode cX3_write 19 = .ok (.aload_n 0, 1) := by decide +kernel
theorem dX3_write_20 : decode cX3_write 20 = .ok (.getfield 11, 3) := by decide +kernel
theorem dX3_write_23 : decode cX3_write 23 = .ok (.iload 4, 2) := by decide +kernel
theorem dX3_write_25 : decode cX3_write 25 = .ok (.laload, 1) := by decide +kernel
theorem dX3_write_26 : decode cX3_write 26 = .ok (.ldc2_w 57, 3) := by decide +kernel
theorem dX3_write_29 : decode cX3_write 29 = .ok (.iload 5, 2) := by decide +kernel
theorem dX3_write_31 : decode cX3_write 31 = .ok (.lshl, 1) := by decide +kernel
theorem dX3_write_32 : decode cX3_write 32 = .ok (.ldc2_w 59, 3) := by decide +kernel
theorem dX3_write_35 : decode cX3_write 35 = .ok (.lxor, 1) := by decide +kernel
theorem dX3_write_36 : decode cX3_write 36 = .ok (.land, 1) := by decide +kernel
theorem dX3_write_37 : decode cX3_write 37 = .ok (.lstore 6, 2) := by decide +kernel
theorem dX3_write_39 : decode cX3_write 39 = .ok (.aload_n 0, 1) := by decide +kernel
theorem dX3_write_40 : decode cX3_write 40 = .ok (.getfield 11, 3) := by decide +kernel
theorem dX3_write_43 : decode cX3_write 43 = .ok (.iload 4, 2) := by decide +kernel
theorem dX3_write_45 : decode cX3_write 45 = .ok (.lload 6, 2) := by decide +kernel
theorem dX3_write_47 : decode cX3_write 47 = .ok (.iload_n 3, 1) := by decide +kernel
theorem dX3_write_48 : decode cX3_write 48 = .ok (.i2l, 1) := by decide +kernel
theorem dX3_write_49 : decode cX3_write 49 = .ok (.iload 5, 2) := by decide +kernel
theorem dX3_write_51 : decode cX3_write 51 = .ok (.lshl, 1) := by decide +kernel
theorem dX3_write_52 : decode cX3_write 52 = .ok (.lor, 1) := by decide +kernel
theorem dX3_write_53 : decode cX3_write 53 = .ok (.lastore, 1) := by decide +kernel
theorem dX3_write_54 : decode cX3_write 54 = .ok (.return_, 1) := by decide +kernel
theorem dX4_init_0 : decode cX4_init 0 = .ok (.aload_n 0, 1) := by decide +kernel
theorem dX4_init_1 : decode cX4_init 1 = .ok (.invokespecial 3, 3) := by decide +kernel
theorem dX4_init_4 : decode cX4_init 4 = .ok (.aload_n 0, 1) := by decide +kernel
theorem dX4_init_5 : decode cX4_init 5 = .ok (.bipush 100, 2) := by decide +kernel
theorem dX4_init_7 : decode cX4_init 7 = .ok (.newarray .boolean, 2) := by decide +kernel
theorem dX4_init_9 : decode cX4_init 9 = .ok (.putfield 9, 3) := by decide +kernel
theorem dX4_init_12 : decode cX4_init 12 = .ok (.aload_n 0, 1) := by decide +kernel
theorem dX4_init_13 : decode cX4_init 13 = .ok (.bipush 100, 2) := by decide +kernel
theorem dX4_init_15 : decode cX4_init 15 = .ok (.newarray .int, 2) := by decide +kernel
theorem dX4_init_17 : decode cX4_init 17 = .ok (.putfield 15, 3) := by decide +kernel
theorem dX4_init_20 : decode cX4_init 20 = .ok (.return_, 1) := by decide +kernel
theorem dX4_isSlot_0 : decode cX4_isSlot 0 = .ok (.iload_n 0, 1) := by decide +kernel
theorem dX4_isSlot_1 : decode cX4_isSlot 1 = .ok (.ifCond .lt 13, 3) := by decide +kernel
theorem dX4_isSlot_4 : decode cX4_isSlot 4 = .ok (.iload_n 0, 1) := by decide +kernel
theorem dX4_isSlot_5 : decode cX4_isSlot 5 = .ok (.bipush 100, 2) := by decide +kernel
theorem dX4_isSlot_7 : decode cX4_isSlot 7 = .ok (.if_icmp .ge 7, 3) := by decide +kernel
theorem dX4_isSlot_10 : decode cX4_isSlot 10 = .ok (.iconst 1, 1) := by decide +kernel
theorem dX4_isSlot_11 : decode cX4_isSlot 11 = .ok (.goto 4, 3) := by decide +kernel
theorem dX4_isSlot_14 : decode cX4_isSlot 14 = .ok (.iconst 0, 1) := by decide +kernel
theorem dX4_isSlot_15 : decode cX4_isSlot 15 = .ok (.ireturn, 1) := by decide +kernel
theorem dX4_length_0 : decode cX4_length 0 = .ok (.aload_n 0, 1) := by decide +kernel
theorem dX4_length_1 : decode cX4_length 1 = .ok (.getfield 19, 3) := by decide +kernel
theorem dX4_length_4 : decode cX4_length 4 = .ok (.ireturn, 1) := by decide +kernel
theorem dX4_get_0 : decode cX4_get 0 = .ok (.iload_n 1, 1) := by decide +kernel
theorem dX4_get_1 : decode cX4_get 1 = .ok (.ifCond .lt 20, 3) := by decide +kernel
theorem dX4_get_4 : decode cX4_get 4 = .ok (.iload_n 1, 1) := by decide +kernel
theorem dX4_get_5 : decode cX4_get 5 = .ok (.aload_n 0, 1) := by decide +kernel
theorem dX4_get_6 : decode cX4_get 6 = .ok (.getfield 19, 3) := by decide +kernel
theorem dX4_get_9 : decode cX4_get 9 = .ok (.if_icmp .ge 12, 3) := by decide +kernel
theorem dX4_get_12 : decode cX4_get 12 = .ok (.aload_n 0, 1) := by decide +kernel
theorem dX4_get_13 : decode cX4_get 13 = .ok (.getfield 15, 3) := by decide +kernel
theorem dX4_get_16 : decode cX4_get 16 = .ok (.iload_n 1, 1) := by decide +kernel
theorem dX4_get_17 : decode cX4_get 17 = .ok (.iaload, 1) := by decide +kernel
theorem dX4_get_18 : decode cX4_get 18 = .ok (.goto 4, 3) := by decide +kernel
theorem dX4_get_21 : decode cX4_get 21 = .ok (.iconst (-1), 1) := by decide +kernel
theorem dX4_get_22 : decode cX4_get 22 = .ok (.ireturn, 1) := by decide +kernel
theorem dX4_holds_0 : decode cX4_holds 0 = .ok (.iload_n 1, 1) := by decide +kernel
theorem dX4_holds_1 : decode cX4_holds 1 = .ok (.invokestatic 23, 3) := by decide +kernel
theorem dX4_holds_4 : decode cX4_holds 4 = .ok (.ifCond .eq 16, 3) := by decide +kernel
theorem dX4_holds_7 : decode cX4_holds 7 = .ok (.aload_n 0, 1) := by decide +kernel
theorem dX4_holds_8 : decode cX4_holds 8 = .ok (.getfield 9, 3) := by decide +kernel
theorem dX4_holds_11 : decode cX4_holds 11 = .ok (.iload_n 1, 1) := by decide +kernel
theorem dX4_holds_12 : decode cX4_holds 12 = .ok (.baload, 1) := by decide +kernel
theorem dX4_holds_13 : decode cX4_holds 13 = .ok (.ifCond .eq 7, 3) := by decide +kernel
theorem dX4_holds_16 : decode cX4_holds 16 = .ok (.iconst 1, 1) := by decide +kernel
theorem dX4_holds_17 : decode cX4_holds 17 = .ok (.goto 4, 3) := by decide +kernel
theorem dX4_holds_20 : decode cX4_holds 20 = .ok (.iconst 0, 1) := by decide +kernel
theorem dX4_holds_21 : decode cX4_holds 21 = .ok (.ireturn, 1) := by decide +kernel
theorem dX4_add_0 : decode cX4_add 0 = .ok (.iload_n 1, 1) := by decide +kernel
theorem dX4_add_1 : decode cX4_add 1 = .ok (.invokestatic 23, 3) := by decide +kernel
theorem dX4_add_4 : decode cX4_add 4 = .ok (.ifCond .eq 48, 3) := by decide +kernel
theorem dX4_add_7 : decode cX4_add 7 = .ok (.aload_n 0, 1) := by decide +kernel
theorem dX4_add_8 : decode cX4_add 8 = .ok (.getfield 9, 3) := by decide +kernel
theorem dX4_add_11 : decode cX4_add 11 = .ok (.iload_n 1, 1) := by decide +kernel
theorem dX4_add_12 : decode cX4_add 12 = .ok (.baload, 1) := by decide +kernel
theorem dX4_add_13 : decode cX4_add 13 = .ok (.ifCond .ne 39, 3) := by decide +kernel
theorem dX4_add_16 : decode cX4_add 16 = .ok (.aload_n 0, 1) := by decide +kernel
theorem dX4_add_17 : decode cX4_add 17 = .ok (.getfield 19, 3) := by decide +kernel
theorem dX4_add_20 : decode cX4_add 20 = .ok (.bipush 100, 2) := by decide +kernel
theorem dX4_add_22 : decode cX4_add 22 = .ok (.if_icmp .ge 30, 3) := by decide +kernel
theorem dX4_add_25 : decode cX4_add 25 = .ok (.aload_n 0, 1) := by decide +kernel
theorem dX4_add_26 : decode cX4_add 26 = .ok (.getfield 9, 3) := by decide +kernel
theorem dX4_add_29 : decode cX4_add 29 = .ok (.iload_n 1, 1) := by decide +kernel
theorem dX4_add_30 : decode cX4_add 30 = .ok (.iconst 1, 1) := by decide +kernel
theorem dX4_add_31 : decode cX4_add 31 = .ok (.bastore, 1) := by decide +kernel
theorem dX4_add_32 : decode cX4_add 32 = .ok (.aload_n 0, 1) := by decide +kernel
theorem dX4_add_33 : decode cX4_add 33 = .ok (.getfield 15, 3) := by decide +kernel
theorem dX4_add_36 : decode cX4_add 36 = .ok (.aload_n 0, 1) := by decide +kernel
theorem dX4_add_37 : decode cX4_add 37 = .ok (.getfield 19, 3) := by decide +kernel
theorem dX4_add_40 : decode cX4_add 40 = .ok (.iload_n 1, 1) := by decide +kernel
theorem dX4_add_41 : decode cX4_add 41 = .ok (.iastore, 1) := by decide +kernel
theorem dX4_add_42 : decode cX4_add 42 = .ok (.aload_n 0, 1) := by decide +kernel
theorem dX4_add_43 : decode cX4_add 43 = .ok (.dup, 1) := by decide +kernel
theorem dX4_add_44 : decode cX4_add 44 = .ok (.getfield 19, 3) := by decide +kernel
theorem dX4_add_47 : decode cX4_add 47 = .ok (.iconst 1, 1) := by decide +kernel
theorem dX4_add_48 : decode cX4_add 48 = .ok (.iadd, 1) := by decide +kernel
theorem dX4_add_49 : decode cX4_add 49 = .ok (.putfield 19, 3) := by decide +kernel
theorem dX4_add_52 : decode cX4_add 52 = .ok (.return_, 1) := by decide +kernel
theorem dX4_clear_0 : decode cX4_clear 0 = .ok (.iconst 0, 1) := by decide +kernel
theorem dX4_clear_1 : decode cX4_clear 1 = .ok (.istore_n 1, 1) := by decide +kernel
theorem dX4_clear_2 : decode cX4_clear 2 = .ok (.iload_n 1, 1) := by decide +kernel
theorem dX4_clear_3 : decode cX4_clear 3 = .ok (.aload_n 0, 1) := by decide +kernel
theorem dX4_clear_4 : decode cX4_clear 4 = .ok (.getfield 19, 3) := by decide +kernel
theorem dX4_clear_7 : decode cX4_clear 7 = .ok (.if_icmp .ge 30, 3) := by decide +kernel
theorem dX4_clear_10 : decode cX4_clear 10 = .ok (.aload_n 0, 1) := by decide +kernel
theorem dX4_clear_11 : decode cX4_clear 11 = .ok (.getfield 15, 3) := by decide +kernel
theorem dX4_clear_14 : decode cX4_clear 14 = .ok (.iload_n 1, 1) := by decide +kernel
theorem dX4_clear_15 : decode cX4_clear 15 = .ok (.iaload, 1) := by decide +kernel
theorem dX4_clear_16 : decode cX4_clear 16 = .ok (.istore_n 2, 1) := by decide +kernel
theorem dX4_clear_17 : decode cX4_clear 17 = .ok (.iload_n 2, 1) := by decide +kernel
theorem dX4_clear_18 : decode cX4_clear 18 = .ok (.invokestatic 23, 3) := by decide +kernel
theorem dX4_clear_21 : decode cX4_clear 21 = .ok (.ifCond .eq 10, 3) := by decide +kernel
theorem dX4_clear_24 : decode cX4_clear 24 = .ok (.aload_n 0, 1) := by decide +kernel
theorem dX4_clear_25 : decode cX4_clear 25 = .ok (.getfield 9, 3) := by decide +kernel
theorem dX4_clear_28 : decode cX4_clear 28 = .ok (.iload_n 2, 1) := by decide +kernel
theorem dX4_clear_29 : decode cX4_clear 29 = .ok (.iconst 0, 1) := by decide +kernel
theorem dX4_clear_30 : decode cX4_clear 30 = .ok (.bastore, 1) := by decide +kernel
theorem dX4_clear_31 : decode cX4_clear 31 = .ok (.iinc 1 1, 3) := by decide +kernel
theorem dX4_clear_34 : decode cX4_clear 34 = .ok (.goto (-32), 3) := by decide +kernel
theorem dX4_clear_37 : decode cX4_clear 37 = .ok (.aload_n 0, 1) := by decide +kernel
theorem dX4_clear_38 : decode cX4_clear 38 = .ok (.iconst 0, 1) := by decide +kernel
theorem dX4_clear_39 : decode cX4_clear 39 = .ok (.putfield 19, 3) := by decide +kernel
theorem dX4_clear_42 : decode cX4_clear 42 = .ok (.return_, 1) := by decide +kernel
theorem dX5_init_0 : decode cX5_init 0 = .ok (.aload_n 0, 1) := by decide +kernel
theorem dX5_init_1 : decode cX5_init 1 = .ok (.invokespecial 3, 3) := by decide +kernel
theorem dX5_init_4 : decode cX5_init 4 = .ok (.aload_n 0, 1) := by decide +kernel
theorem dX5_init_5 : decode cX5_init 5 = .ok (.bipush 10, 2) := by decide +kernel
theorem dX5_init_7 : decode cX5_init 7 = .ok (.newarray .int, 2) := by decide +kernel
theorem dX5_init_9 : decode cX5_init 9 = .ok (.putfield 9, 3) := by decide +kernel
theorem dX5_init_12 : decode cX5_init 12 = .ok (.aload_n 0, 1) := by decide +kernel
theorem dX5_init_13 : decode cX5_init 13 = .ok (.bipush 10, 2) := by decide +kernel
theorem dX5_init_15 : decode cX5_init 15 = .ok (.newarray .int, 2) := by decide +kernel
theorem dX5_init_17 : decode cX5_init 17 = .ok (.putfield 15, 3) := by decide +kernel
theorem dX5_init_20 : decode cX5_init 20 = .ok (.aload_n 0, 1) := by decide +kernel
theorem dX5_init_21 : decode cX5_init 21 = .ok (.bipush 10, 2) := by decide +kernel
theorem dX5_init_23 : decode cX5_init 23 = .ok (.newarray .int, 2) := by decide +kernel
theorem dX5_init_25 : decode cX5_init 25 = .ok (.putfield 18, 3) := by decide +kernel
theorem dX5_init_28 : decode cX5_init 28 = .ok (.aload_n 0, 1) := by decide +kernel
theorem dX5_init_29 : decode cX5_init 29 = .ok (.bipush 10, 2) := by decide +kernel
theorem dX5_init_31 : decode cX5_init 31 = .ok (.newarray .int, 2) := by decide +kernel
theorem dX5_init_33 : decode cX5_init 33 = .ok (.putfield 21, 3) := by decide +kernel
theorem dX5_init_36 : decode cX5_init 36 = .ok (.return_, 1) := by decide +kernel
theorem dX5_howMany_0 : decode cX5_howMany 0 = .ok (.aload_n 0, 1) := by decide +kernel
theorem dX5_howMany_1 : decode cX5_howMany 1 = .ok (.getfield 24, 3) := by decide +kernel
theorem dX5_howMany_4 : decode cX5_howMany 4 = .ok (.ireturn, 1) := by decide +kernel
theorem dX5_knows_0 : decode cX5_knows 0 = .ok (.iload_n 1, 1) := by decide +kernel
theorem dX5_knows_1 : decode cX5_knows 1 = .ok (.ifCond .lt 15, 3) := by decide +kernel
theorem dX5_knows_4 : decode cX5_knows 4 = .ok (.iload_n 1, 1) := by decide +kernel
theorem dX5_knows_5 : decode cX5_knows 5 = .ok (.aload_n 0, 1) := by decide +kernel
theorem dX5_knows_6 : decode cX5_knows 6 = .ok (.getfield 24, 3) := by decide +kernel
theorem dX5_knows_9 : decode cX5_knows 9 = .ok (.if_icmp .ge 7, 3) := by decide +kernel
theorem dX5_knows_12 : decode cX5_knows 12 = .ok (.iconst 1, 1) := by decide +kernel
theorem dX5_knows_13 : decode cX5_knows 13 = .ok (.goto 4, 3) := by decide +kernel
theorem dX5_knows_16 : decode cX5_knows 16 = .ok (.iconst 0, 1) := by decide +kernel
theorem dX5_knows_17 : decode cX5_knows 17 = .ok (.ireturn, 1) := by decide +kernel
theorem dX5_tell_0 : decode cX5_tell 0 = .ok (.aload_n 0, 1) := by decide +kernel
theorem dX5_tell_1 : decode cX5_tell 1 = .ok (.getfield 24, 3) := by decide +kernel
theorem dX5_tell_4 : decode cX5_tell 4 = .ok (.bipush 10, 2) := by decide +kernel
theorem dX5_tell_6 : decode cX5_tell 6 = .ok (.if_icmp .lt 5, 3) := by decide +kernel
theorem dX5_tell_9 : decode cX5_tell 9 = .ok (.iconst (-1), 1) := by decide +kernel
theorem dX5_tell_10 : decode cX5_tell 10 = .ok (.ireturn, 1) := by decide +kernel
theorem dX5_tell_11 : decode cX5_tell 11 = .ok (.aload_n 0, 1) := by decide +kernel
theorem dX5_tell_12 : decode cX5_tell 12 = .ok (.getfield 9, 3) := by decide +kernel
theorem dX5_tell_15 : decode cX5_tell 15 = .ok (.aload_n 0, 1) := by decide +kernel
theorem dX5_tell_16 : decode cX5_tell 16 = .ok (.getfield 24, 3) := by decide +kernel
theorem dX5_tell_19 : decode cX5_tell 19 = .ok (.iload_n 1, 1) := by decide +kernel
theorem dX5_tell_20 : decode cX5_tell 20 = .ok (.iastore, 1) := by decide +kernel
theorem dX5_tell_21 : decode cX5_tell 21 = .ok (.aload_n 0, 1) := by decide +kernel
theorem dX5_tell_22 : decode cX5_tell 22 = .ok (.getfield 15, 3) := by decide +kernel
theorem dX5_tell_25 : decode cX5_tell 25 = .ok (.aload_n 0, 1) := by decide +kernel
theorem dX5_tell_26 : decode cX5_tell 26 = .ok (.getfield 24, 3) := by decide +kernel
theorem dX5_tell_29 : decode cX5_tell 29 = .ok (.iload_n 2, 1) := by decide +kernel
theorem dX5_tell_30 : decode cX5_tell 30 = .ok (.iastore, 1) := by decide +kernel
theorem dX5_tell_31 : decode cX5_tell 31 = .ok (.aload_n 0, 1) := by decide +kernel
theorem dX5_tell_32 : decode cX5_tell 32 = .ok (.getfield 18, 3) := by decide +kernel
theorem dX5_tell_35 : decode cX5_tell 35 = .ok (.aload_n 0, 1) := by decide +kernel
theorem dX5_tell_36 : decode cX5_tell 36 = .ok (.getfield 24, 3) := by decide +kernel
theorem dX5_tell_39 : decode cX5_tell 39 = .ok (.iload_n 3, 1) := by decide +kernel
theorem dX5_tell_40 : decode cX5_tell 40 = .ok (.iastore, 1) := by decide +kernel
theorem dX5_tell_41 : decode cX5_tell 41 = .ok (.aload_n 0, 1) := by decide +kernel
theorem dX5_tell_42 : decode cX5_tell 42 = .ok (.getfield 21, 3) := by decide +kernel
theorem dX5_tell_45 : decode cX5_tell 45 = .ok (.aload_n 0, 1) := by decide +kernel
theorem dX5_tell_46 : decode cX5_tell 46 = .ok (.getfield 24, 3) := by decide +kernel
theorem dX5_tell_49 : decode cX5_tell 49 = .ok (.iload 4, 2) := by decide +kernel
theorem dX5_tell_51 : decode cX5_tell 51 = .ok (.iastore, 1) := by decide +kernel
theorem dX5_tell_52 : decode cX5_tell 52 = .ok (.aload_n 0, 1) := by decide +kernel
theorem dX5_tell_53 : decode cX5_tell 53 = .ok (.dup, 1) := by decide +kernel
theorem dX5_tell_54 : decode cX5_tell 54 = .ok (.getfield 24, 3) := by decide +kernel
theorem dX5_tell_57 : decode cX5_tell 57 = .ok (.iconst 1, 1) := by decide +kernel
theorem dX5_tell_58 : decode cX5_tell 58 = .ok (.iadd, 1) := by decide +kernel
theorem dX5_tell_59 : decode cX5_tell 59 = .ok (.putfield 24, 3) := by decide +kernel
theorem dX5_tell_62 : decode cX5_tell 62 = .ok (.aload_n 0, 1) := by decide +kernel
theorem dX5_tell_63 : decode cX5_tell 63 = .ok (.getfield 24, 3) := by decide +kernel
theorem dX5_tell_66 : decode cX5_tell 66 = .ok (.iconst 1, 1) := by decide +kernel
theorem dX5_tell_67 : decode cX5_tell 67 = .ok (.isub, 1) := by decide +kernel
theorem dX5_tell_68 : decode cX5_tell 68 = .ok (.ireturn, 1) := by decide +kernel
theorem dX5_fromKind_0 : decode cX5_fromKind 0 = .ok (.aload_n 0, 1) := by decide +kernel
theorem dX5_fromKind_1 : decode cX5_fromKind 1 = .ok (.iload_n 1, 1) := by decide +kernel
theorem dX5_fromKind_2 : decode cX5_fromKind 2 = .ok (.invokevirtual 28, 3) := by decide +kernel
theorem dX5_fromKind_5 : decode cX5_fromKind 5 = .ok (.ifCond .eq 12, 3) := by decide +kernel
theorem dX5_fromKind_8 : decode cX5_fromKind 8 = .ok (.aload_n 0, 1) := by decide +kernel
theorem dX5_fromKind_9 : decode cX5_fromKind 9 = .ok (.getfield 9, 3) := by decide +kernel
theorem dX5_fromKind_12 : decode cX5_fromKind 12 = .ok (.iload_n 1, 1) := by decide +kernel
theorem dX5_fromKind_13 : decode cX5_fromKind 13 = .ok (.iaload, 1) := by decide +kernel
theorem dX5_fromKind_14 : decode cX5_fromKind 14 = .ok (.goto 4, 3) := by decide +kernel
theorem dX5_fromKind_17 : decode cX5_fromKind 17 = .ok (.iconst (-1), 1) := by decide +kernel
theorem dX5_fromKind_18 : decode cX5_fromKind 18 = .ok (.ireturn, 1) := by decide +kernel
theorem dX5_toKind_0 : decode cX5_toKind 0 = .ok (.aload_n 0, 1) := by decide +kernel
theorem dX5_toKind_1 : decode cX5_toKind 1 = .ok (.iload_n 1, 1) := by decide +kernel
theorem dX5_toKind_2 : decode cX5_toKind 2 = .ok (.invokevirtual 28, 3) := by decide +kernel
theorem dX5_toKind_5 : decode cX5_toKind 5 = .ok (.ifCond .eq 12, 3) := by decide +kernel
theorem dX5_toKind_8 : decode cX5_toKind 8 = .ok (.aload_n 0, 1) := by decide +kernel
theorem dX5_toKind_9 : decode cX5_toKind 9 = .ok (.getfield 15, 3) := by decide +kernel
theorem dX5_toKind_12 : decode cX5_toKind 12 = .ok (.iload_n 1, 1) := by decide +kernel
theorem dX5_toKind_13 : decode cX5_toKind 13 = .ok (.iaload, 1) := by decide +kernel
theorem dX5_toKind_14 : decode cX5_toKind 14 = .ok (.goto 4, 3) := by decide +kernel
theorem dX5_toKind_17 : decode cX5_toKind 17 = .ok (.iconst (-1), 1) := by decide +kernel
theorem dX5_toKind_18 : decode cX5_toKind 18 = .ok (.ireturn, 1) := by decide +kernel
theorem dX5_hasForm_0 : decode cX5_hasForm 0 = .ok (.aload_n 0, 1) := by decide +kernel
theorem dX5_hasForm_1 : decode cX5_hasForm 1 = .ok (.iload_n 1, 1) := by decide +kernel
theorem dX5_hasForm_2 : decode cX5_hasForm 2 = .ok (.invokevirtual 28, 3) := by decide +kernel
theorem dX5_hasForm_5 : decode cX5_hasForm 5 = .ok (.ifCond .eq 17, 3) := by decide +kernel
theorem dX5_hasForm_8 : decode cX5_hasForm 8 = .ok (.aload_n 0, 1) := by decide +kernel
theorem dX5_hasForm_9 : decode cX5_hasForm 9 = .ok (.getfield 18, 3) := by decide +kernel
theorem dX5_hasForm_12 : decode cX5_hasForm 12 = .ok (.iload_n 1, 1) := by decide +kernel
theorem dX5_hasForm_13 : decode cX5_hasForm 13 = .ok (.iaload, 1) := by decide +kernel
theorem dX5_hasForm_14 : decode cX5_hasForm 14 = .ok (.iload_n 2, 1) := by decide +kernel
theorem dX5_hasForm_15 : decode cX5_hasForm 15 = .ok (.if_icmp .ne 7, 3) := by decide +kernel
theorem dX5_hasForm_18 : decode cX5_hasForm 18 = .ok (.iconst 1, 1) := by decide +kernel
theorem dX5_hasForm_19 : decode cX5_hasForm 19 = .ok (.goto 4, 3) := by decide +kernel
theorem dX5_hasForm_22 : decode cX5_hasForm 22 = .ok (.iconst 0, 1) := by decide +kernel
theorem dX5_hasForm_23 : decode cX5_hasForm 23 = .ok (.ireturn, 1) := by decide +kernel
theorem dX5_hasRule_0 : decode cX5_hasRule 0 = .ok (.aload_n 0, 1) := by decide +kernel
theorem dX5_hasRule_1 : decode cX5_hasRule 1 = .ok (.iload_n 1, 1) := by decide +kernel
theorem dX5_hasRule_2 : decode cX5_hasRule 2 = .ok (.invokevirtual 28, 3) := by decide +kernel
theorem dX5_hasRule_5 : decode cX5_hasRule 5 = .ok (.ifCond .eq 17, 3) := by decide +kernel
theorem dX5_hasRule_8 : decode cX5_hasRule 8 = .ok (.aload_n 0, 1) := by decide +kernel
theorem dX5_hasRule_9 : decode cX5_hasRule 9 = .ok (.getfield 21, 3) := by decide +kernel
theorem dX5_hasRule_12 : decode cX5_hasRule 12 = .ok (.iload_n 1, 1) := by decide +kernel
theorem dX5_hasRule_13 : decode cX5_hasRule 13 = .ok (.iaload, 1) := by decide +kernel
theorem dX5_hasRule_14 : decode cX5_hasRule 14 = .ok (.iload_n 2, 1) := by decide +kernel
theorem dX5_hasRule_15 : decode cX5_hasRule 15 = .ok (.if_icmp .ne 7, 3) := by decide +kernel
theorem dX5_hasRule_18 : decode cX5_hasRule 18 = .ok (.iconst 1, 1) := by decide +kernel
theorem dX5_hasRule_19 : decode cX5_hasRule 19 = .ok (.goto 4, 3) := by decide +kernel
theorem dX5_hasRule_22 : decode cX5_hasRule 22 = .ok (.iconst 0, 1) := by decide +kernel
theorem dX5_hasRule_23 : decode cX5_hasRule 23 = .ok (.ireturn, 1) := by decide +kernel
theorem dX6_init_0 : decode cX6_init 0 = .ok (.aload_n 0, 1) := by decide +kernel
theorem dX6_init_1 : decode cX6_init 1 = .ok (.invokespecial 3, 3) := by decide +kernel
theorem dX6_init_4 : decode cX6_init 4 = .ok (.aload_n 0, 1) := by decide +kernel
theorem dX6_init_5 : decode cX6_init 5 = .ok (.bipush 100, 2) := by decide +kernel
theorem dX6_init_7 : decode cX6_init 7 = .ok (.newarray .int, 2) := by decide +kernel
theorem dX6_init_9 : decode cX6_init 9 = .ok (.putfield 9, 3) := by decide +kernel
theorem dX6_init_12 : decode cX6_init 12 = .ok (.return_, 1) := by decide +kernel
theorem dX6_length_0 : decode cX6_length 0 = .ok (.aload_n 0, 1) := by decide +kernel
theorem dX6_length_1 : decode cX6_length 1 = .ok (.getfield 15, 3) := by decide +kernel
theorem dX6_length_4 : decode cX6_length 4 = .ok (.ireturn, 1) := by decide +kernel
theorem dX6_get_0 : decode cX6_get 0 = .ok (.iload_n 1, 1) := by decide +kernel
theorem dX6_get_1 : decode cX6_get 1 = .ok (.ifCond .lt 20, 3) := by decide +kernel
theorem dX6_get_4 : decode cX6_get 4 = .ok (.iload_n 1, 1) := by decide +kernel
theorem dX6_get_5 : decode cX6_get 5 = .ok (.aload_n 0, 1) := by decide +kernel
theorem dX6_get_6 : decode cX6_get 6 = .ok (.getfield 15, 3) := by decide +kernel
theorem dX6_get_9 : decode cX6_get 9 = .ok (.if_icmp .ge 12, 3) := by decide +kernel
theorem dX6_get_12 : decode cX6_get 12 = .ok (.aload_n 0, 1) := by decide +kernel
theorem dX6_get_13 : decode cX6_get 13 = .ok (.getfield 9, 3) := by decide +kernel
theorem dX6_get_16 : decode cX6_get 16 = .ok (.iload_n 1, 1) := by decide +kernel
theorem dX6_get_17 : decode cX6_get 17 = .ok (.iaload, 1) := by decide +kernel
theorem dX6_get_18 : decode cX6_get 18 = .ok (.goto 4, 3) := by decide +kernel
theorem dX6_get_21 : decode cX6_get 21 = .ok (.iconst (-1), 1) := by decide +kernel
theorem dX6_get_22 : decode cX6_get 22 = .ok (.ireturn, 1) := by decide +kernel
theorem dX6_clear_0 : decode cX6_clear 0 = .ok (.aload_n 0, 1) := by decide +kernel
theorem dX6_clear_1 : decode cX6_clear 1 = .ok (.iconst 0, 1) := by decide +kernel
theorem dX6_clear_2 : decode cX6_clear 2 = .ok (.putfield 15, 3) := by decide +kernel
theorem dX6_clear_5 : decode cX6_clear 5 = .ok (.return_, 1) := by decide +kernel
theorem dX6_add_0 : decode cX6_add 0 = .ok (.aload_n 0, 1) := by decide +kernel
theorem dX6_add_1 : decode cX6_add 1 = .ok (.getfield 15, 3) := by decide +kernel
theorem dX6_add_4 : decode cX6_add 4 = .ok (.bipush 100, 2) := by decide +kernel
theorem dX6_add_6 : decode cX6_add 6 = .ok (.if_icmp .ge 23, 3) := by decide +kernel
theorem dX6_add_9 : decode cX6_add 9 = .ok (.aload_n 0, 1) := by decide +kernel
theorem dX6_add_10 : decode cX6_add 10 = .ok (.getfield 9, 3) := by decide +kernel
theorem dX6_add_13 : decode cX6_add 13 = .ok (.aload_n 0, 1) := by decide +kernel
theorem dX6_add_14 : decode cX6_add 14 = .ok (.getfield 15, 3) := by decide +kernel
theorem dX6_add_17 : decode cX6_add 17 = .ok (.iload_n 1, 1) := by decide +kernel
theorem dX6_add_18 : decode cX6_add 18 = .ok (.iastore, 1) := by decide +kernel
theorem dX6_add_19 : decode cX6_add 19 = .ok (.aload_n 0, 1) := by decide +kernel
theorem dX6_add_20 : decode cX6_add 20 = .ok (.dup, 1) := by decide +kernel
theorem dX6_add_21 : decode cX6_add 21 = .ok (.getfield 15, 3) := by decide +kernel
theorem dX6_add_24 : decode cX6_add 24 = .ok (.iconst 1, 1) := by decide +kernel
theorem dX6_add_25 : decode cX6_add 25 = .ok (.iadd, 1) := by decide +kernel
theorem dX6_add_26 : decode cX6_add 26 = .ok (.putfield 15, 3) := by decide +kernel
theorem dX6_add_29 : decode cX6_add 29 = .ok (.return_, 1) := by decide +kernel
theorem dX7_init_0 : decode cX7_init 0 = .ok (.aload_n 0, 1) := by decide +kernel
theorem dX7_init_1 : decode cX7_init 1 = .ok (.invokespecial 3, 3) := by decide +kernel
theorem dX7_init_4 : decode cX7_init 4 = .ok (.aload_n 0, 1) := by decide +kernel
theorem dX7_init_5 : decode cX7_init 5 = .ok (.aload_n 1, 1) := by decide +kernel
theorem dX7_init_6 : decode cX7_init 6 = .ok (.putfield 9, 3) := by decide +kernel
theorem dX7_init_9 : decode cX7_init 9 = .ok (.aload_n 0, 1) := by decide +kernel
theorem dX7_init_10 : decode cX7_init 10 = .ok (.aload_n 2, 1) := by decide +kernel
theorem dX7_init_11 : decode cX7_init 11 = .ok (.putfield 15, 3) := by decide +kernel
theorem dX7_init_14 : decode cX7_init 14 = .ok (.aload_n 0, 1) := by decide +kernel
theorem dX7_init_15 : decode cX7_init 15 = .ok (.new 19, 3) := by decide +kernel
theorem dX7_init_18 : decode cX7_init 18 = .ok (.dup, 1) := by decide +kernel
theorem dX7_init_19 : decode cX7_init 19 = .ok (.invokespecial 21, 3) := by decide +kernel
theorem dX7_init_22 : decode cX7_init 22 = .ok (.putfield 22, 3) := by decide +kernel
theorem dX7_init_25 : decode cX7_init 25 = .ok (.aload_n 0, 1) := by decide +kernel
theorem dX7_init_26 : decode cX7_init 26 = .ok (.bipush 100, 2) := by decide +kernel
theorem dX7_init_28 : decode cX7_init 28 = .ok (.newarray .int, 2) := by decide +kernel
theorem dX7_init_30 : decode cX7_init 30 = .ok (.putfield 26, 3) := by decide +kernel
theorem dX7_init_33 : decode cX7_init 33 = .ok (.return_, 1) := by decide +kernel
theorem dX7_gather_0 : decode cX7_gather 0 = .ok (.aload_n 0, 1) := by decide +kernel
theorem dX7_gather_1 : decode cX7_gather 1 = .ok (.getfield 15, 3) := by decide +kernel
theorem dX7_gather_4 : decode cX7_gather 4 = .ok (.aload_n 1, 1) := by decide +kernel
theorem dX7_gather_5 : decode cX7_gather 5 = .ok (.invokevirtual 30, 3) := by decide +kernel
theorem dX7_gather_8 : decode cX7_gather 8 = .ok (.iload_n 2, 1) := by decide +kernel
theorem dX7_gather_9 : decode cX7_gather 9 = .ok (.invokevirtual 36, 3) := by decide +kernel
theorem dX7_gather_12 : decode cX7_gather 12 = .ok (.astore_n 3, 1) := by decide +kernel
theorem dX7_gather_13 : decode cX7_gather 13 = .ok (.aload_n 0, 1) := by decide +kernel
theorem dX7_gather_14 : decode cX7_gather 14 = .ok (.getfield 22, 3) := by decide +kernel
theorem dX7_gather_17 : decode cX7_gather 17 = .ok (.invokevirtual 42, 3) := by decide +kernel
theorem dX7_gather_20 : decode cX7_gather 20 = .ok (.iconst 0, 1) := by decide +kernel
theorem dX7_gather_21 : decode cX7_gather 21 = .ok (.istore 4, 2) := by decide +kernel
theorem dX7_gather_23 : decode cX7_gather 23 = .ok (.iload 4, 2) := by decide +kernel
theorem dX7_gather_25 : decode cX7_gather 25 = .ok (.aload_n 3, 1) := by decide +kernel
theorem dX7_gather_26 : decode cX7_gather 26 = .ok (.invokevirtual 45, 3) := by decide +kernel
theorem dX7_gather_29 : decode cX7_gather 29 = .ok (.if_icmp .ge 22, 3) := by decide +kernel
theorem dX7_gather_32 : decode cX7_gather 32 = .ok (.aload_n 0, 1) := by decide +kernel
theorem dX7_gather_33 : decode cX7_gather 33 = .ok (.getfield 22, 3) := by decide +kernel
theorem dX7_gather_36 : decode cX7_gather 36 = .ok (.aload_n 0, 1) := by decide +kernel
theorem dX7_gather_37 : decode cX7_gather 37 = .ok (.aload_n 1, 1) := by decide +kernel
theorem dX7_gather_38 : decode cX7_gather 38 = .ok (.aload_n 3, 1) := by decide +kernel
theorem dX7_gather_39 : decode cX7_gather 39 = .ok (.invokevirtual 49, 3) := by decide +kernel
theorem dX7_gather_42 : decode cX7_gather 42 = .ok (.invokevirtual 53, 3) := by decide +kernel
theorem dX7_gather_45 : decode cX7_gather 45 = .ok (.iinc 4 1, 3) := by decide +kernel
theorem dX7_gather_48 : decode cX7_gather 48 = .ok (.goto (-25), 3) := by decide +kernel
theorem dX7_gather_51 : decode cX7_gather 51 = .ok (.return_, 1) := by decide +kernel
theorem dX7_fit_0 : decode cX7_fit 0 = .ok (.aload_n 1, 1) := by decide +kernel
theorem dX7_fit_1 : decode cX7_fit 1 = .ok (.invokevirtual 57, 3) := by decide +kernel
theorem dX7_fit_4 : decode cX7_fit 4 = .ok (.aload_n 0, 1) := by decide +kernel
theorem dX7_fit_5 : decode cX7_fit 5 = .ok (.getfield 22, 3) := by decide +kernel
theorem dX7_fit_8 : decode cX7_fit 8 = .ok (.invokevirtual 45, 3) := by decide +kernel
theorem dX7_fit_11 : decode cX7_fit 11 = .ok (.iadd, 1) := by decide +kernel
theorem dX7_fit_12 : decode cX7_fit 12 = .ok (.bipush 100, 2) := by decide +kernel
theorem dX7_fit_14 : decode cX7_fit 14 = .ok (.if_icmp .le 5, 3) := by decide +kernel
theorem dX7_fit_17 : decode cX7_fit 17 = .ok (.iconst 0, 1) := by decide +kernel
theorem dX7_fit_18 : decode cX7_fit 18 = .ok (.ireturn, 1) := by decide +kernel
theorem dX7_fit_19 : decode cX7_fit 19 = .ok (.iconst 0, 1) := by decide +kernel
theorem dX7_fit_20 : decode cX7_fit 20 = .ok (.istore_n 2, 1) := by decide +kernel
theorem dX7_fit_21 : decode cX7_fit 21 = .ok (.iload_n 2, 1) := by decide +kernel
theorem dX7_fit_22 : decode cX7_fit 22 = .ok (.aload_n 0, 1) := by decide +kernel
theorem dX7_fit_23 : decode cX7_fit 23 = .ok (.getfield 9, 3) := by decide +kernel
theorem dX7_fit_26 : decode cX7_fit 26 = .ok (.invokevirtual 60, 3) := by decide +kernel
theorem dX7_fit_29 : decode cX7_fit 29 = .ok (.if_icmp .ge 74, 3) := by decide +kernel
theorem dX7_fit_32 : decode cX7_fit 32 = .ok (.iconst 0, 1) := by decide +kernel
theorem dX7_fit_33 : decode cX7_fit 33 = .ok (.istore_n 3, 1) := by decide +kernel
theorem dX7_fit_34 : decode cX7_fit 34 = .ok (.iload_n 3, 1) := by decide +kernel
theorem dX7_fit_35 : decode cX7_fit 35 = .ok (.bipush 100, 2) := by decide +kernel
theorem dX7_fit_37 : decode cX7_fit 37 = .ok (.if_icmp .ge 60, 3) := by decide +kernel
theorem dX7_fit_40 : decode cX7_fit 40 = .ok (.aload_n 0, 1) := by decide +kernel
theorem dX7_fit_41 : decode cX7_fit 41 = .ok (.iload_n 2, 1) := by decide +kernel
theorem dX7_fit_42 : decode cX7_fit 42 = .ok (.invokevirtual 65, 3) := by decide +kernel
theorem dX7_fit_45 : decode cX7_fit 45 = .ok (.ifCond .eq 24, 3) := by decide +kernel
theorem dX7_fit_48 : decode cX7_fit 48 = .ok (.aload_n 0, 1) := by decide +kernel
theorem dX7_fit_49 : decode cX7_fit 49 = .ok (.getfield 22, 3) := by decide +kernel
theorem dX7_fit_52 : decode cX7_fit 52 = .ok (.iload_n 3, 1) := by decide +kernel
theorem dX7_fit_53 : decode cX7_fit 53 = .ok (.invokevirtual 69, 3) := by decide +kernel
theorem dX7_fit_56 : decode cX7_fit 56 = .ok (.ifCond .ne 13, 3) := by decide +kernel
theorem dX7_fit_59 : decode cX7_fit 59 = .ok (.aload_n 0, 1) := by decide +kernel
theorem dX7_fit_60 : decode cX7_fit 60 = .ok (.aload_n 1, 1) := by decide +kernel
theorem dX7_fit_61 : decode cX7_fit 61 = .ok (.iload_n 2, 1) := by decide +kernel
theorem dX7_fit_62 : decode cX7_fit 62 = .ok (.iload_n 3, 1) := by decide +kernel
theorem dX7_fit_63 : decode cX7_fit 63 = .ok (.invokevirtual 72, 3) := by decide +kernel
theorem dX7_fit_66 : decode cX7_fit 66 = .ok (.goto 4, 3) := by decide +kernel
theorem dX7_fit_69 : decode cX7_fit 69 = .ok (.iconst 0, 1) := by decide +kernel
theorem dX7_fit_70 : decode cX7_fit 70 = .ok (.istore 4, 2) := by decide +kernel
theorem dX7_fit_72 : decode cX7_fit 72 = .ok (.aload_n 1, 1) := by decide +kernel
theorem dX7_fit_73 : decode cX7_fit 73 = .ok (.invokevirtual 76, 3) := by decide +kernel
theorem dX7_fit_76 : decode cX7_fit 76 = .ok (.iload_n 2, 1) := by decide +kernel
theorem dX7_fit_77 : decode cX7_fit 77 = .ok (.iload_n 3, 1) := by decide +kernel
theorem dX7_fit_78 : decode cX7_fit 78 = .ok (.invokevirtual 79, 3) := by decide +kernel
theorem dX7_fit_81 : decode cX7_fit 81 = .ok (.iload 4, 2) := by decide +kernel
theorem dX7_fit_83 : decode cX7_fit 83 = .ok (.iadd, 1) := by decide +kernel
theorem dX7_fit_84 : decode cX7_fit 84 = .ok (.bipush 12, 2) := by decide +kernel
theorem dX7_fit_86 : decode cX7_fit 86 = .ok (.if_icmp .le 5, 3) := by decide +kernel
theorem dX7_fit_89 : decode cX7_fit 89 = .ok (.iconst 0, 1) := by decide +kernel
theorem dX7_fit_90 : decode cX7_fit 90 = .ok (.ireturn, 1) := by decide +kernel
theorem dX7_fit_91 : decode cX7_fit 91 = .ok (.iinc 3 1, 3) := by decide +kernel
theorem dX7_fit_94 : decode cX7_fit 94 = .ok (.goto (-60), 3) := by decide +kernel
theorem dX7_fit_97 : decode cX7_fit 97 = .ok (.iinc 2 1, 3) := by decide +kernel
theorem dX7_fit_100 : decode cX7_fit 100 = .ok (.goto (-79), 3) := by decide +kernel
theorem dX7_fit_103 : decode cX7_fit 103 = .ok (.iconst 1, 1) := by decide +kernel
theorem dX7_fit_104 : decode cX7_fit 104 = .ok (.ireturn, 1) := by decide +kernel
theorem dX7_build_0 : decode cX7_build 0 = .ok (.iconst 0, 1) := by decide +kernel
theorem dX7_build_1 : decode cX7_build 1 = .ok (.istore_n 3, 1) := by decide +kernel
theorem dX7_build_2 : decode cX7_build 2 = .ok (.iload_n 3, 1) := by decide +kernel
theorem dX7_build_3 : decode cX7_build 3 = .ok (.aload_n 0, 1) := by decide +kernel
theorem dX7_build_4 : decode cX7_build 4 = .ok (.getfield 22, 3) := by decide +kernel
theorem dX7_build_7 : decode cX7_build 7 = .ok (.invokevirtual 45, 3) := by decide +kernel
theorem dX7_build_10 : decode cX7_build 10 = .ok (.if_icmp .ge 47, 3) := by decide +kernel
theorem dX7_build_13 : decode cX7_build 13 = .ok (.aload_n 0, 1) := by decide +kernel
theorem dX7_build_14 : decode cX7_build 14 = .ok (.getfield 22, 3) := by decide +kernel
theorem dX7_build_17 : decode cX7_build 17 = .ok (.iload_n 3, 1) := by decide +kernel
theorem dX7_build_18 : decode cX7_build 18 = .ok (.invokevirtual 85, 3) := by decide +kernel
theorem dX7_build_21 : decode cX7_build 21 = .ok (.istore 4, 2) := by decide +kernel
theorem dX7_build_23 : decode cX7_build 23 = .ok (.iload 4, 2) := by decide +kernel
theorem dX7_build_25 : decode cX7_build 25 = .ok (.invokestatic 89, 3) := by decide +kernel
theorem dX7_build_28 : decode cX7_build 28 = .ok (.ifCond .eq 23, 3) := by decide +kernel
theorem dX7_build_31 : decode cX7_build 31 = .ok (.aload_n 0, 1) := by decide +kernel
theorem dX7_build_32 : decode cX7_build 32 = .ok (.getfield 26, 3) := by decide +kernel
theorem dX7_build_35 : decode cX7_build 35 = .ok (.iload 4, 2) := by decide +kernel
theorem dX7_build_37 : decode cX7_build 37 = .ok (.aload_n 1, 1) := by decide +kernel
theorem dX7_build_38 : decode cX7_build 38 = .ok (.iload_n 2, 1) := by decide +kernel
theorem dX7_build_39 : decode cX7_build 39 = .ok (.iload_n 3, 1) := by decide +kernel
theorem dX7_build_40 : decode cX7_build 40 = .ok (.iadd, 1) := by decide +kernel
theorem dX7_build_41 : decode cX7_build 41 = .ok (.aload_n 1, 1) := by decide +kernel
theorem dX7_build_42 : decode cX7_build 42 = .ok (.iload 4, 2) := by decide +kernel
theorem dX7_build_44 : decode cX7_build 44 = .ok (.invokevirtual 92, 3) := by decide +kernel
theorem dX7_build_47 : decode cX7_build 47 = .ok (.invokevirtual 95, 3) := by decide +kernel
theorem dX7_build_50 : decode cX7_build 50 = .ok (.iastore, 1) := by decide +kernel
theorem dX7_build_51 : decode cX7_build 51 = .ok (.iinc 3 1, 3) := by decide +kernel
theorem dX7_build_54 : decode cX7_build 54 = .ok (.goto (-52), 3) := by decide +kernel
theorem dX7_build_57 : decode cX7_build 57 = .ok (.iconst 0, 1) := by decide +kernel
theorem dX7_build_58 : decode cX7_build 58 = .ok (.istore_n 3, 1) := by decide +kernel
theorem dX7_build_59 : decode cX7_build 59 = .ok (.iload_n 3, 1) := by decide +kernel
theorem dX7_build_60 : decode cX7_build 60 = .ok (.aload_n 0, 1) := by decide +kernel
theorem dX7_build_61 : decode cX7_build 61 = .ok (.getfield 9, 3) := by decide +kernel
theorem dX7_build_64 : decode cX7_build 64 = .ok (.invokevirtual 60, 3) := by decide +kernel
theorem dX7_build_67 : decode cX7_build 67 = .ok (.if_icmp .ge 69, 3) := by decide +kernel
theorem dX7_build_70 : decode cX7_build 70 = .ok (.iconst 0, 1) := by decide +kernel
theorem dX7_build_71 : decode cX7_build 71 = .ok (.istore 4, 2) := by decide +kernel
theorem dX7_build_73 : decode cX7_build 73 = .ok (.iload 4, 2) := by decide +kernel
theorem dX7_build_75 : decode cX7_build 75 = .ok (.aload_n 0, 1) := by decide +kernel
theorem dX7_build_76 : decode cX7_build 76 = .ok (.getfield 22, 3) := by decide +kernel
theorem dX7_build_79 : decode cX7_build 79 = .ok (.invokevirtual 45, 3) := by decide +kernel
theorem dX7_build_82 : decode cX7_build 82 = .ok (.if_icmp .ge 24, 3) := by decide +kernel
theorem dX7_build_85 : decode cX7_build 85 = .ok (.aload_n 0, 1) := by decide +kernel
theorem dX7_build_86 : decode cX7_build 86 = .ok (.aload_n 1, 1) := by decide +kernel
theorem dX7_build_87 : decode cX7_build 87 = .ok (.iload_n 3, 1) := by decide +kernel
theorem dX7_build_88 : decode cX7_build 88 = .ok (.aload_n 0, 1) := by decide +kernel
theorem dX7_build_89 : decode cX7_build 89 = .ok (.getfield 22, 3) := by decide +kernel
theorem dX7_build_92 : decode cX7_build 92 = .ok (.iload 4, 2) := by decide +kernel
theorem dX7_build_94 : decode cX7_build 94 = .ok (.invokevirtual 85, 3) := by decide +kernel
theorem dX7_build_97 : decode cX7_build 97 = .ok (.invokevirtual 98, 3) := by decide +kernel
theorem dX7_build_100 : decode cX7_build 100 = .ok (.iinc 4 1, 3) := by decide +kernel
theorem dX7_build_103 : decode cX7_build 103 = .ok (.goto (-30), 3) := by decide +kernel
theorem dX7_build_106 : decode cX7_build 106 = .ok (.iconst 0, 1) := by decide +kernel
theorem dX7_build_107 : decode cX7_build 107 = .ok (.istore 4, 2) := by decide +kernel
theorem dX7_build_109 : decode cX7_build 109 = .ok (.iload 4, 2) := by decide +kernel
theorem dX7_build_111 : decode cX7_build 111 = .ok (.bipush 100, 2) := by decide +kernel
theorem dX7_build_113 : decode cX7_build 113 = .ok (.if_icmp .ge 17, 3) := by decide +kernel
theorem dX7_build_116 : decode cX7_build 116 = .ok (.aload_n 0, 1) := by decide +kernel
theorem dX7_build_117 : decode cX7_build 117 = .ok (.aload_n 1, 1) := by decide +kernel
theorem dX7_build_118 : decode cX7_build 118 = .ok (.iload_n 3, 1) := by decide +kernel
theorem dX7_build_119 : decode cX7_build 119 = .ok (.iload 4, 2) := by decide +kernel
theorem dX7_build_121 : decode cX7_build 121 = .ok (.invokevirtual 102, 3) := by decide +kernel
theorem dX7_build_124 : decode cX7_build 124 = .ok (.iinc 4 1, 3) := by decide +kernel
theorem dX7_build_127 : decode cX7_build 127 = .ok (.goto (-18), 3) := by decide +kernel
theorem dX7_build_130 : decode cX7_build 130 = .ok (.iinc 3 1, 3) := by decide +kernel
theorem dX7_build_133 : decode cX7_build 133 = .ok (.goto (-74), 3) := by decide +kernel
theorem dX7_build_136 : decode cX7_build 136 = .ok (.iload_n 2, 1) := by decide +kernel
theorem dX7_build_137 : decode cX7_build 137 = .ok (.aload_n 0, 1) := by decide +kernel
theorem dX7_build_138 : decode cX7_build 138 = .ok (.getfield 22, 3) := by decide +kernel
theorem dX7_build_141 : decode cX7_build 141 = .ok (.invokevirtual 45, 3) := by decide +kernel
theorem dX7_build_144 : decode cX7_build 144 = .ok (.iadd, 1) := by decide +kernel
theorem dX7_build_145 : decode cX7_build 145 = .ok (.ireturn, 1) := by decide +kernel
theorem dX7_twinOf_0 : decode cX7_twinOf 0 = .ok (.aload_n 0, 1) := by decide +kernel
theorem dX7_twinOf_1 : decode cX7_twinOf 1 = .ok (.getfield 22, 3) := by decide +kernel
theorem dX7_twinOf_4 : decode cX7_twinOf 4 = .ok (.iload_n 1, 1) := by decide +kernel
theorem dX7_twinOf_5 : decode cX7_twinOf 5 = .ok (.invokevirtual 69, 3) := by decide +kernel
theorem dX7_twinOf_8 : decode cX7_twinOf 8 = .ok (.ifCond .eq 12, 3) := by decide +kernel
theorem dX7_twinOf_11 : decode cX7_twinOf 11 = .ok (.aload_n 0, 1) := by decide +kernel
theorem dX7_twinOf_12 : decode cX7_twinOf 12 = .ok (.getfield 26, 3) := by decide +kernel
theorem dX7_twinOf_15 : decode cX7_twinOf 15 = .ok (.iload_n 1, 1) := by decide +kernel
theorem dX7_twinOf_16 : decode cX7_twinOf 16 = .ok (.iaload, 1) := by decide +kernel
theorem dX7_twinOf_17 : decode cX7_twinOf 17 = .ok (.goto 4, 3) := by decide +kernel
theorem dX7_twinOf_20 : decode cX7_twinOf 20 = .ok (.iconst (-1), 1) := by decide +kernel
theorem dX7_twinOf_21 : decode cX7_twinOf 21 = .ok (.ireturn, 1) := by decide +kernel
theorem dX7_leastMissing_0 : decode cX7_leastMissing 0 = .ok (.iconst (-1), 1) := by decide +kernel
theorem dX7_leastMissing_1 : decode cX7_leastMissing 1 = .ok (.istore_n 3, 1) := by decide +kernel
theorem dX7_leastMissing_2 : decode cX7_leastMissing 2 = .ok (.iconst 0, 1) := by decide +kernel
theorem dX7_leastMissing_3 : decode cX7_leastMissing 3 = .ok (.istore 4, 2) := by decide +kernel
theorem dX7_leastMissing_5 : decode cX7_leastMissing 5 = .ok (.iload 4, 2) := by decide +kernel
theorem dX7_leastMissing_7 : decode cX7_leastMissing 7 = .ok (.aload_n 2, 1) := by decide +kernel
theorem dX7_leastMissing_8 : decode cX7_leastMissing 8 = .ok (.invokevirtual 45, 3) := by decide +kernel
theorem dX7_leastMissing_11 : decode cX7_leastMissing 11 = .ok (.if_icmp .ge 63, 3) := by decide +kernel
theorem dX7_leastMissing_14 : decode cX7_leastMissing 14 = .ok (.aload_n 2, 1) := by decide +kernel
theorem dX7_leastMissing_15 : decode cX7_leastMissing 15 = .ok (.iload 4, 2) := by decide +kernel
theorem dX7_leastMissing_17 : decode cX7_leastMissing 17 = .ok (.invokevirtual 85, 3) := by decide +kernel
theorem dX7_leastMissing_20 : decode cX7_leastMissing 20 = .ok (.istore 5, 2) := by decide +kernel
theorem dX7_leastMissing_22 : decode cX7_leastMissing 22 = .ok (.aload_n 0, 1) := by decide +kernel
theorem dX7_leastMissing_23 : decode cX7_leastMissing 23 = .ok (.getfield 22, 3) := by decide +kernel
theorem dX7_leastMissing_26 : decode cX7_leastMissing 26 = .ok (.iload 5, 2) := by decide +kernel
theorem dX7_leastMissing_28 : decode cX7_leastMissing 28 = .ok (.invokevirtual 69, 3) := by decide +kernel
theorem dX7_leastMissing_31 : decode cX7_leastMissing 31 = .ok (.ifCond .ne 7, 3) := by decide +kernel
theorem dX7_leastMissing_34 : decode cX7_leastMissing 34 = .ok (.iconst 1, 1) := by decide +kernel
theorem dX7_leastMissing_35 : decode cX7_leastMissing 35 = .ok (.goto 4, 3) := by decide +kernel
theorem dX7_leastMissing_38 : decode cX7_leastMissing 38 = .ok (.iconst 0, 1) := by decide +kernel
theorem dX7_leastMissing_39 : decode cX7_leastMissing 39 = .ok (.istore 6, 2) := by decide +kernel
theorem dX7_leastMissing_41 : decode cX7_leastMissing 41 = .ok (.iload 6, 2) := by decide +kernel
theorem dX7_leastMissing_43 : decode cX7_leastMissing 43 = .ok (.ifCond .eq 25, 3) := by decide +kernel
theorem dX7_leastMissing_46 : decode cX7_leastMissing 46 = .ok (.iload_n 3, 1) := by decide +kernel
theorem dX7_leastMissing_47 : decode cX7_leastMissing 47 = .ok (.iconst (-1), 1) := by decide +kernel
theorem dX7_leastMissing_48 : decode cX7_leastMissing 48 = .ok (.if_icmp .eq 17, 3) := by decide +kernel
theorem dX7_leastMissing_51 : decode cX7_leastMissing 51 = .ok (.aload_n 1, 1) := by decide +kernel
theorem dX7_leastMissing_52 : decode cX7_leastMissing 52 = .ok (.iload 5, 2) := by decide +kernel
theorem dX7_leastMissing_54 : decode cX7_leastMissing 54 = .ok (.invokevirtual 105, 3) := by decide +kernel
theorem dX7_leastMissing_57 : decode cX7_leastMissing 57 = .ok (.aload_n 1, 1) := by decide +kernel
theorem dX7_leastMissing_58 : decode cX7_leastMissing 58 = .ok (.iload_n 3, 1) := by decide +kernel
theorem dX7_leastMissing_59 : decode cX7_leastMissing 59 = .ok (.invokevirtual 105, 3) := by decide +kernel
theorem dX7_leastMissing_62 : decode cX7_leastMissing 62 = .ok (.if_icmp .ge 6, 3) := by decide +kernel
theorem dX7_leastMissing_65 : decode cX7_leastMissing 65 = .ok (.iload 5, 2) := by decide +kernel
theorem dX7_leastMissing_67 : decode cX7_leastMissing 67 = .ok (.istore_n 3, 1) := by decide +kernel
theorem dX7_leastMissing_68 : decode cX7_leastMissing 68 = .ok (.iinc 4 1, 3) := by decide +kernel
theorem dX7_leastMissing_71 : decode cX7_leastMissing 71 = .ok (.goto (-66), 3) := by decide +kernel
theorem dX7_leastMissing_74 : decode cX7_leastMissing 74 = .ok (.iload_n 3, 1) := by decide +kernel
theorem dX7_leastMissing_75 : decode cX7_leastMissing 75 = .ok (.ireturn, 1) := by decide +kernel
theorem dX7_keepsOutsiders_0 : decode cX7_keepsOutsiders 0 = .ok (.aload_n 0, 1) := by decide +kernel
theorem dX7_keepsOutsiders_1 : decode cX7_keepsOutsiders 1 = .ok (.getfield 9, 3) := by decide +kernel
theorem dX7_keepsOutsiders_4 : decode cX7_keepsOutsiders 4 = .ok (.iload_n 1, 1) := by decide +kernel
theorem dX7_keepsOutsiders_5 : decode cX7_keepsOutsiders 5 = .ok (.iconst 2, 1) := by decide +kernel
theorem dX7_keepsOutsiders_6 : decode cX7_keepsOutsiders 6 = .ok (.invokevirtual 108, 3) := by decide +kernel
theorem dX7_keepsOutsiders_9 : decode cX7_keepsOutsiders 9 = .ok (.ifCond .eq 19, 3) := by decide +kernel
theorem dX7_keepsOutsiders_12 : decode cX7_keepsOutsiders 12 = .ok (.aload_n 0, 1) := by decide +kernel
theorem dX7_keepsOutsiders_13 : decode cX7_keepsOutsiders 13 = .ok (.getfield 9, 3) := by decide +kernel
theorem dX7_keepsOutsiders_16 : decode cX7_keepsOutsiders 16 = .ok (.iload_n 1, 1) := by decide +kernel
theorem dX7_keepsOutsiders_17 : decode cX7_keepsOutsiders 17 = .ok (.iconst 1, 1) := by decide +kernel
theorem dX7_keepsOutsiders_18 : decode cX7_keepsOutsiders 18 = .ok (.invokevirtual 112, 3) := by decide +kernel
theorem dX7_keepsOutsiders_21 : decode cX7_keepsOutsiders 21 = .ok (.ifCond .ne 7, 3) := by decide +kernel
theorem dX7_keepsOutsiders_24 : decode cX7_keepsOutsiders 24 = .ok (.iconst 1, 1) := by decide +kernel
theorem dX7_keepsOutsiders_25 : decode cX7_keepsOutsiders 25 = .ok (.goto 4, 3) := by decide +kernel
theorem dX7_keepsOutsiders_28 : decode cX7_keepsOutsiders 28 = .ok (.iconst 0, 1) := by decide +kernel
theorem dX7_keepsOutsiders_29 : decode cX7_keepsOutsiders 29 = .ok (.ireturn, 1) := by decide +kernel
theorem dX7_howManyOldHave_0 : decode cX7_howManyOldHave 0 = .ok (.iconst 0, 1) := by decide +kernel
theorem dX7_howManyOldHave_1 : decode cX7_howManyOldHave 1 = .ok (.istore 4, 2) := by decide +kernel
theorem dX7_howManyOldHave_3 : decode cX7_howManyOldHave 3 = .ok (.iconst 0, 1) := by decide +kernel
theorem dX7_howManyOldHave_4 : decode cX7_howManyOldHave 4 = .ok (.istore 5, 2) := by decide +kernel
theorem dX7_howManyOldHave_6 : decode cX7_howManyOldHave 6 = .ok (.iload 5, 2) := by decide +kernel
theorem dX7_howManyOldHave_8 : decode cX7_howManyOldHave 8 = .ok (.aload_n 1, 1) := by decide +kernel
theorem dX7_howManyOldHave_9 : decode cX7_howManyOldHave 9 = .ok (.invokevirtual 76, 3) := by decide +kernel
theorem dX7_howManyOldHave_12 : decode cX7_howManyOldHave 12 = .ok (.iload_n 2, 1) := by decide +kernel
theorem dX7_howManyOldHave_13 : decode cX7_howManyOldHave 13 = .ok (.iload_n 3, 1) := by decide +kernel
theorem dX7_howManyOldHave_14 : decode cX7_howManyOldHave 14 = .ok (.invokevirtual 79, 3) := by decide +kernel
theorem dX7_howManyOldHave_17 : decode cX7_howManyOldHave 17 = .ok (.if_icmp .ge 33, 3) := by decide +kernel
theorem dX7_howManyOldHave_20 : decode cX7_howManyOldHave 20 = .ok (.aload_n 0, 1) := by decide +kernel
theorem dX7_howManyOldHave_21 : decode cX7_howManyOldHave 21 = .ok (.getfield 22, 3) := by decide +kernel
theorem dX7_howManyOldHave_24 : decode cX7_howManyOldHave 24 = .ok (.aload_n 1, 1) := by decide +kernel
theorem dX7_howManyOldHave_25 : decode cX7_howManyOldHave 25 = .ok (.invokevirtual 76, 3) := by decide +kernel
theorem dX7_howManyOldHave_28 : decode cX7_howManyOldHave 28 = .ok (.iload_n 2, 1) := by decide +kernel
theorem dX7_howManyOldHave_29 : decode cX7_howManyOldHave 29 = .ok (.iload_n 3, 1) := by decide +kernel
theorem dX7_howManyOldHave_30 : decode cX7_howManyOldHave 30 = .ok (.iload 5, 2) := by decide +kernel
theorem dX7_howManyOldHave_32 : decode cX7_howManyOldHave 32 = .ok (.invokevirtual 115, 3) := by decide +kernel
theorem dX7_howManyOldHave_35 : decode cX7_howManyOldHave 35 = .ok (.invokevirtual 69, 3) := by decide +kernel
theorem dX7_howManyOldHave_38 : decode cX7_howManyOldHave 38 = .ok (.ifCond .eq 6, 3) := by decide +kernel
theorem dX7_howManyOldHave_41 : decode cX7_howManyOldHave 41 = .ok (.iinc 4 1, 3) := by decide +kernel
theorem dX7_howManyOldHave_44 : decode cX7_howManyOldHave 44 = .ok (.iinc 5 1, 3) := by decide +kernel
theorem dX7_howManyOldHave_47 : decode cX7_howManyOldHave 47 = .ok (.goto (-41), 3) := by decide +kernel
theorem dX7_howManyOldHave_50 : decode cX7_howManyOldHave 50 = .ok (.iload 4, 2) := by decide +kernel
theorem dX7_howManyOldHave_52 : decode cX7_howManyOldHave 52 = .ok (.ireturn, 1) := by decide +kernel
theorem dX7_standIn_0 : decode cX7_standIn 0 = .ok (.aload_n 0, 1) := by decide +kernel
theorem dX7_standIn_1 : decode cX7_standIn 1 = .ok (.getfield 22, 3) := by decide +kernel
theorem dX7_standIn_4 : decode cX7_standIn 4 = .ok (.iload_n 2, 1) := by decide +kernel
theorem dX7_standIn_5 : decode cX7_standIn 5 = .ok (.invokevirtual 69, 3) := by decide +kernel
theorem dX7_standIn_8 : decode cX7_standIn 8 = .ok (.ifCond .eq 9, 3) := by decide +kernel
theorem dX7_standIn_11 : decode cX7_standIn 11 = .ok (.aload_n 0, 1) := by decide +kernel
theorem dX7_standIn_12 : decode cX7_standIn 12 = .ok (.iload_n 2, 1) := by decide +kernel
theorem dX7_standIn_13 : decode cX7_standIn 13 = .ok (.invokevirtual 118, 3) := by decide +kernel
theorem dX7_standIn_16 : decode cX7_standIn 16 = .ok (.ireturn, 1) := by decide +kernel
theorem dX7_standIn_17 : decode cX7_standIn 17 = .ok (.aload_n 0, 1) := by decide +kernel
theorem dX7_standIn_18 : decode cX7_standIn 18 = .ok (.iload_n 1, 1) := by decide +kernel
theorem dX7_standIn_19 : decode cX7_standIn 19 = .ok (.invokevirtual 65, 3) := by decide +kernel
theorem dX7_standIn_22 : decode cX7_standIn 22 = .ok (.ifCond .eq 7, 3) := by decide +kernel
theorem dX7_standIn_25 : decode cX7_standIn 25 = .ok (.iload_n 2, 1) := by decide +kernel
theorem dX7_standIn_26 : decode cX7_standIn 26 = .ok (.goto 4, 3) := by decide +kernel
theorem dX7_standIn_29 : decode cX7_standIn 29 = .ok (.iconst (-1), 1) := by decide +kernel
theorem dX7_standIn_30 : decode cX7_standIn 30 = .ok (.ireturn, 1) := by decide +kernel
theorem dX7_copyHas_0 : decode cX7_copyHas 0 = .ok (.aload_n 1, 1) := by decide +kernel
theorem dX7_copyHas_1 : decode cX7_copyHas 1 = .ok (.invokevirtual 30, 3) := by decide +kernel
theorem dX7_copyHas_4 : decode cX7_copyHas 4 = .ok (.iload_n 2, 1) := by decide +kernel
theorem dX7_copyHas_5 : decode cX7_copyHas 5 = .ok (.iload_n 3, 1) := by decide +kernel
theorem dX7_copyHas_6 : decode cX7_copyHas 6 = .ok (.invokevirtual 79, 3) := by decide +kernel
theorem dX7_copyHas_9 : decode cX7_copyHas 9 = .ok (.istore 4, 2) := by decide +kernel
theorem dX7_copyHas_11 : decode cX7_copyHas 11 = .ok (.iconst 0, 1) := by decide +kernel
theorem dX7_copyHas_12 : decode cX7_copyHas 12 = .ok (.istore 5, 2) := by decide +kernel
theorem dX7_copyHas_14 : decode cX7_copyHas 14 = .ok (.iload 5, 2) := by decide +kernel
theorem dX7_copyHas_16 : decode cX7_copyHas 16 = .ok (.iload 4, 2) := by decide +kernel
theorem dX7_copyHas_18 : decode cX7_copyHas 18 = .ok (.if_icmp .ge 45, 3) := by decide +kernel
theorem dX7_copyHas_21 : decode cX7_copyHas 21 = .ok (.aload_n 0, 1) := by decide +kernel
theorem dX7_copyHas_22 : decode cX7_copyHas 22 = .ok (.iload_n 2, 1) := by decide +kernel
theorem dX7_copyHas_23 : decode cX7_copyHas 23 = .ok (.aload_n 1, 1) := by decide +kernel
theorem dX7_copyHas_24 : decode cX7_copyHas 24 = .ok (.invokevirtual 30, 3) := by decide +kernel
theorem dX7_copyHas_27 : decode cX7_copyHas 27 = .ok (.iload_n 2, 1) := by decide +kernel
theorem dX7_copyHas_28 : decode cX7_copyHas 28 = .ok (.iload_n 3, 1) := by decide +kernel
theorem dX7_copyHas_29 : decode cX7_copyHas 29 = .ok (.iload 5, 2) := by decide +kernel
theorem dX7_copyHas_31 : decode cX7_copyHas 31 = .ok (.invokevirtual 115, 3) := by decide +kernel
theorem dX7_copyHas_34 : decode cX7_copyHas 34 = .ok (.invokevirtual 121, 3) := by decide +kernel
theorem dX7_copyHas_37 : decode cX7_copyHas 37 = .ok (.istore 6, 2) := by decide +kernel
theorem dX7_copyHas_39 : decode cX7_copyHas 39 = .ok (.iload 6, 2) := by decide +kernel
theorem dX7_copyHas_41 : decode cX7_copyHas 41 = .ok (.iconst (-1), 1) := by decide +kernel
theorem dX7_copyHas_42 : decode cX7_copyHas 42 = .ok (.if_icmp .eq 15, 3) := by decide +kernel
theorem dX7_copyHas_45 : decode cX7_copyHas 45 = .ok (.aload_n 1, 1) := by decide +kernel
theorem dX7_copyHas_46 : decode cX7_copyHas 46 = .ok (.iload_n 2, 1) := by decide +kernel
theorem dX7_copyHas_47 : decode cX7_copyHas 47 = .ok (.aload_n 0, 1) := by decide +kernel
theorem dX7_copyHas_48 : decode cX7_copyHas 48 = .ok (.iload_n 3, 1) := by decide +kernel
theorem dX7_copyHas_49 : decode cX7_copyHas 49 = .ok (.invokevirtual 118, 3) := by decide +kernel
theorem dX7_copyHas_52 : decode cX7_copyHas 52 = .ok (.iload 6, 2) := by decide +kernel
theorem dX7_copyHas_54 : decode cX7_copyHas 54 = .ok (.invokevirtual 124, 3) := by decide +kernel
theorem dX7_copyHas_57 : decode cX7_copyHas 57 = .ok (.iinc 5 1, 3) := by decide +kernel
theorem dX7_copyHas_60 : decode cX7_copyHas 60 = .ok (.goto (-46), 3) := by decide +kernel
theorem dX7_copyHas_63 : decode cX7_copyHas 63 = .ok (.return_, 1) := by decide +kernel
theorem dX7_copyHad_0 : decode cX7_copyHad 0 = .ok (.aload_n 0, 1) := by decide +kernel
theorem dX7_copyHad_1 : decode cX7_copyHad 1 = .ok (.iload_n 2, 1) := by decide +kernel
theorem dX7_copyHad_2 : decode cX7_copyHad 2 = .ok (.iload_n 3, 1) := by decide +kernel
theorem dX7_copyHad_3 : decode cX7_copyHad 3 = .ok (.invokevirtual 121, 3) := by decide +kernel
theorem dX7_copyHad_6 : decode cX7_copyHad 6 = .ok (.istore 4, 2) := by decide +kernel
theorem dX7_copyHad_8 : decode cX7_copyHad 8 = .ok (.iload 4, 2) := by decide +kernel
theorem dX7_copyHad_10 : decode cX7_copyHad 10 = .ok (.iconst (-1), 1) := by decide +kernel
theorem dX7_copyHad_11 : decode cX7_copyHad 11 = .ok (.if_icmp .ne 7, 3) := by decide +kernel
theorem dX7_copyHad_14 : decode cX7_copyHad 14 = .ok (.iconst 0, 1) := by decide +kernel
theorem dX7_copyHad_15 : decode cX7_copyHad 15 = .ok (.goto 12, 3) := by decide +kernel
theorem dX7_copyHad_18 : decode cX7_copyHad 18 = .ok (.aload_n 1, 1) := by decide +kernel
theorem dX7_copyHad_19 : decode cX7_copyHad 19 = .ok (.invokevirtual 76, 3) := by decide +kernel
theorem dX7_copyHad_22 : decode cX7_copyHad 22 = .ok (.iload_n 2, 1) := by decide +kernel
theorem dX7_copyHad_23 : decode cX7_copyHad 23 = .ok (.iload_n 3, 1) := by decide +kernel
theorem dX7_copyHad_24 : decode cX7_copyHad 24 = .ok (.invokevirtual 79, 3) := by decide +kernel
theorem dX7_copyHad_27 : decode cX7_copyHad 27 = .ok (.istore 5, 2) := by decide +kernel
theorem dX7_copyHad_29 : decode cX7_copyHad 29 = .ok (.iconst 0, 1) := by decide +kernel
theorem dX7_copyHad_30 : decode cX7_copyHad 30 = .ok (.istore 6, 2) := by decide +kernel
theorem dX7_copyHad_32 : decode cX7_copyHad 32 = .ok (.iload 6, 2) := by decide +kernel
theorem dX7_copyHad_34 : decode cX7_copyHad 34 = .ok (.iload 5, 2) := by decide +kernel
theorem dX7_copyHad_36 : decode cX7_copyHad 36 = .ok (.if_icmp .ge 47, 3) := by decide +kernel
theorem dX7_copyHad_39 : decode cX7_copyHad 39 = .ok (.aload_n 1, 1) := by decide +kernel
theorem dX7_copyHad_40 : decode cX7_copyHad 40 = .ok (.invokevirtual 76, 3) := by decide +kernel
theorem dX7_copyHad_43 : decode cX7_copyHad 43 = .ok (.iload_n 2, 1) := by decide +kernel
theorem dX7_copyHad_44 : decode cX7_copyHad 44 = .ok (.iload_n 3, 1) := by decide +kernel
theorem dX7_copyHad_45 : decode cX7_copyHad 45 = .ok (.iload 6, 2) := by decide +kernel
theorem dX7_copyHad_47 : decode cX7_copyHad 47 = .ok (.invokevirtual 115, 3) := by decide +kernel
theorem dX7_copyHad_50 : decode cX7_copyHad 50 = .ok (.istore 7, 2) := by decide +kernel
theorem dX7_copyHad_52 : decode cX7_copyHad 52 = .ok (.aload_n 0, 1) := by decide +kernel
theorem dX7_copyHad_53 : decode cX7_copyHad 53 = .ok (.getfield 22, 3) := by decide +kernel
theorem dX7_copyHad_56 : decode cX7_copyHad 56 = .ok (.iload 7, 2) := by decide +kernel
theorem dX7_copyHad_58 : decode cX7_copyHad 58 = .ok (.invokevirtual 69, 3) := by decide +kernel
theorem dX7_copyHad_61 : decode cX7_copyHad 61 = .ok (.ifCond .eq 16, 3) := by decide +kernel
theorem dX7_copyHad_64 : decode cX7_copyHad 64 = .ok (.aload_n 1, 1) := by decide +kernel
theorem dX7_copyHad_65 : decode cX7_copyHad 65 = .ok (.iload_n 2, 1) := by decide +kernel
theorem dX7_copyHad_66 : decode cX7_copyHad 66 = .ok (.aload_n 0, 1) := by decide +kernel
theorem dX7_copyHad_67 : decode cX7_copyHad 67 = .ok (.iload 7, 2) := by decide +kernel
theorem dX7_copyHad_69 : decode cX7_copyHad 69 = .ok (.invokevirtual 118, 3) := by decide +kernel
theorem dX7_copyHad_72 : decode cX7_copyHad 72 = .ok (.iload 4, 2) := by decide +kernel
theorem dX7_copyHad_74 : decode cX7_copyHad 74 = .ok (.invokevirtual 128, 3) := by decide +kernel
theorem dX7_copyHad_77 : decode cX7_copyHad 77 = .ok (.iinc 6 1, 3) := by decide +kernel
theorem dX7_copyHad_80 : decode cX7_copyHad 80 = .ok (.goto (-48), 3) := by decide +kernel
theorem dX7_copyHad_83 : decode cX7_copyHad 83 = .ok (.return_, 1) := by decide +kernel
theorem dX8_init_0 : decode cX8_init 0 = .ok (.aload_n 0, 1) := by decide +kernel
theorem dX8_init_1 : decode cX8_init 1 = .ok (.invokespecial 3, 3) := by decide +kernel
theorem dX8_init_4 : decode cX8_init 4 = .ok (.aload_n 0, 1) := by decide +kernel
theorem dX8_init_5 : decode cX8_init 5 = .ok (.aload_n 1, 1) := by decide +kernel
theorem dX8_init_6 : decode cX8_init 6 = .ok (.putfield 9, 3) := by decide +kernel
theorem dX8_init_9 : decode cX8_init 9 = .ok (.aload_n 0, 1) := by decide +kernel
theorem dX8_init_10 : decode cX8_init 10 = .ok (.bipush 100, 2) := by decide +kernel
theorem dX8_init_12 : decode cX8_init 12 = .ok (.newarray .int, 2) := by decide +kernel
theorem dX8_init_14 : decode cX8_init 14 = .ok (.putfield 15, 3) := by decide +kernel
theorem dX8_init_17 : decode cX8_init 17 = .ok (.aload_n 0, 1) := by decide +kernel
theorem dX8_init_18 : decode cX8_init 18 = .ok (.new 19, 3) := by decide +kernel
theorem dX8_init_21 : decode cX8_init 21 = .ok (.dup, 1) := by decide +kernel
theorem dX8_init_22 : decode cX8_init 22 = .ok (.invokespecial 21, 3) := by decide +kernel
theorem dX8_init_25 : decode cX8_init 25 = .ok (.putfield 22, 3) := by decide +kernel
theorem dX8_init_28 : decode cX8_init 28 = .ok (.aload_n 0, 1) := by decide +kernel
theorem dX8_init_29 : decode cX8_init 29 = .ok (.new 19, 3) := by decide +kernel
theorem dX8_init_32 : decode cX8_init 32 = .ok (.dup, 1) := by decide +kernel
theorem dX8_init_33 : decode cX8_init 33 = .ok (.invokespecial 21, 3) := by decide +kernel
theorem dX8_init_36 : decode cX8_init 36 = .ok (.putfield 26, 3) := by decide +kernel
theorem dX8_init_39 : decode cX8_init 39 = .ok (.return_, 1) := by decide +kernel
theorem dX8_addOwning_0 : decode cX8_addOwning 0 = .ok (.iconst 0, 1) := by decide +kernel
theorem dX8_addOwning_1 : decode cX8_addOwning 1 = .ok (.istore 4, 2) := by decide +kernel
theorem dX8_addOwning_3 : decode cX8_addOwning 3 = .ok (.iload 4, 2) := by decide +kernel
theorem dX8_addOwning_5 : decode cX8_addOwning 5 = .ok (.aload_n 0, 1) := by decide +kernel
theorem dX8_addOwning_6 : decode cX8_addOwning 6 = .ok (.getfield 9, 3) := by decide +kernel
theorem dX8_addOwning_9 : decode cX8_addOwning 9 = .ok (.invokevirtual 29, 3) := by decide +kernel
theorem dX8_addOwning_12 : decode cX8_addOwning 12 = .ok (.if_icmp .ge 30, 3) := by decide +kernel
theorem dX8_addOwning_15 : decode cX8_addOwning 15 = .ok (.aload_n 0, 1) := by decide +kernel
theorem dX8_addOwning_16 : decode cX8_addOwning 16 = .ok (.getfield 9, 3) := by decide +kernel
theorem dX8_addOwning_19 : decode cX8_addOwning 19 = .ok (.iload 4, 2) := by decide +kernel
theorem dX8_addOwning_21 : decode cX8_addOwning 21 = .ok (.iconst 1, 1) := by decide +kernel
theorem dX8_addOwning_22 : decode cX8_addOwning 22 = .ok (.invokevirtual 35, 3) := by decide +kernel
theorem dX8_addOwning_25 : decode cX8_addOwning 25 = .ok (.ifCond .eq 11, 3) := by decide +kernel
theorem dX8_addOwning_28 : decode cX8_addOwning 28 = .ok (.aload_n 1, 1) := by decide +kernel
theorem dX8_addOwning_29 : decode cX8_addOwning 29 = .ok (.aload_n 3, 1) := by decide +kernel
theorem dX8_addOwning_30 : decode cX8_addOwning 30 = .ok (.iload 4, 2) := by decide +kernel
theorem dX8_addOwning_32 : decode cX8_addOwning 32 = .ok (.iload_n 2, 1) := by decide +kernel
theorem dX8_addOwning_33 : decode cX8_addOwning 33 = .ok (.invokevirtual 39, 3) := by decide +kernel
theorem dX8_addOwning_36 : decode cX8_addOwning 36 = .ok (.iinc 4 1, 3) := by decide +kernel
theorem dX8_addOwning_39 : decode cX8_addOwning 39 = .ok (.goto (-36), 3) := by decide +kernel
theorem dX8_addOwning_42 : decode cX8_addOwning 42 = .ok (.return_, 1) := by decide +kernel
theorem dX8_howManyOwning_0 : decode cX8_howManyOwning 0 = .ok (.aload_n 0, 1) := by decide +kernel
theorem dX8_howManyOwning_1 : decode cX8_howManyOwning 1 = .ok (.getfield 22, 3) := by decide +kernel
theorem dX8_howManyOwning_4 : decode cX8_howManyOwning 4 = .ok (.invokevirtual 45, 3) := by decide +kernel
theorem dX8_howManyOwning_7 : decode cX8_howManyOwning 7 = .ok (.aload_n 0, 1) := by decide +kernel
theorem dX8_howManyOwning_8 : decode cX8_howManyOwning 8 = .ok (.aload_n 1, 1) := by decide +kernel
theorem dX8_howManyOwning_9 : decode cX8_howManyOwning 9 = .ok (.iload_n 2, 1) := by decide +kernel
theorem dX8_howManyOwning_10 : decode cX8_howManyOwning 10 = .ok (.aload_n 0, 1) := by decide +kernel
theorem dX8_howManyOwning_11 : decode cX8_howManyOwning 11 = .ok (.getfield 22, 3) := by decide +kernel
theorem dX8_howManyOwning_14 : decode cX8_howManyOwning 14 = .ok (.invokevirtual 48, 3) := by decide +kernel
theorem dX8_howManyOwning_17 : decode cX8_howManyOwning 17 = .ok (.aload_n 0, 1) := by decide +kernel
theorem dX8_howManyOwning_18 : decode cX8_howManyOwning 18 = .ok (.getfield 22, 3) := by decide +kernel
theorem dX8_howManyOwning_21 : decode cX8_howManyOwning 21 = .ok (.invokevirtual 52, 3) := by decide +kernel
theorem dX8_howManyOwning_24 : decode cX8_howManyOwning 24 = .ok (.ireturn, 1) := by decide +kernel
theorem dX8_howManyNear_0 : decode cX8_howManyNear 0 = .ok (.aload_n 0, 1) := by decide +kernel
theorem dX8_howManyNear_1 : decode cX8_howManyNear 1 = .ok (.getfield 22, 3) := by decide +kernel
theorem dX8_howManyNear_4 : decode cX8_howManyNear 4 = .ok (.invokevirtual 45, 3) := by decide +kernel
theorem dX8_howManyNear_7 : decode cX8_howManyNear 7 = .ok (.iconst 0, 1) := by decide +kernel
theorem dX8_howManyNear_8 : decode cX8_howManyNear 8 = .ok (.istore_n 3, 1) := by decide +kernel
theorem dX8_howManyNear_9 : decode cX8_howManyNear 9 = .ok (.iload_n 3, 1) := by decide +kernel
theorem dX8_howManyNear_10 : decode cX8_howManyNear 10 = .ok (.aload_n 0, 1) := by decide +kernel
theorem dX8_howManyNear_11 : decode cX8_howManyNear 11 = .ok (.getfield 9, 3) := by decide +kernel
theorem dX8_howManyNear_14 : decode cX8_howManyNear 14 = .ok (.invokevirtual 29, 3) := by decide +kernel
theorem dX8_howManyNear_17 : decode cX8_howManyNear 17 = .ok (.if_icmp .ge 35, 3) := by decide +kernel
theorem dX8_howManyNear_20 : decode cX8_howManyNear 20 = .ok (.aload_n 1, 1) := by decide +kernel
theorem dX8_howManyNear_21 : decode cX8_howManyNear 21 = .ok (.invokevirtual 55, 3) := by decide +kernel
theorem dX8_howManyNear_24 : decode cX8_howManyNear 24 = .ok (.aload_n 0, 1) := by decide +kernel
theorem dX8_howManyNear_25 : decode cX8_howManyNear 25 = .ok (.getfield 22, 3) := by decide +kernel
theorem dX8_howManyNear_28 : decode cX8_howManyNear 28 = .ok (.iload_n 3, 1) := by decide +kernel
theorem dX8_howManyNear_29 : decode cX8_howManyNear 29 = .ok (.iload_n 2, 1) := by decide +kernel
theorem dX8_howManyNear_30 : decode cX8_howManyNear 30 = .ok (.invokevirtual 39, 3) := by decide +kernel
theorem dX8_howManyNear_33 : decode cX8_howManyNear 33 = .ok (.aload_n 1, 1) := by decide +kernel
theorem dX8_howManyNear_34 : decode cX8_howManyNear 34 = .ok (.invokevirtual 61, 3) := by decide +kernel
theorem dX8_howManyNear_37 : decode cX8_howManyNear 37 = .ok (.aload_n 0, 1) := by decide +kernel
theorem dX8_howManyNear_38 : decode cX8_howManyNear 38 = .ok (.getfield 22, 3) := by decide +kernel
theorem dX8_howManyNear_41 : decode cX8_howManyNear 41 = .ok (.iload_n 3, 1) := by decide +kernel
theorem dX8_howManyNear_42 : decode cX8_howManyNear 42 = .ok (.iload_n 2, 1) := by decide +kernel
theorem dX8_howManyNear_43 : decode cX8_howManyNear 43 = .ok (.invokevirtual 39, 3) := by decide +kernel
theorem dX8_howManyNear_46 : decode cX8_howManyNear 46 = .ok (.iinc 3 1, 3) := by decide +kernel
theorem dX8_howManyNear_49 : decode cX8_howManyNear 49 = .ok (.goto (-40), 3) := by decide +kernel
theorem dX8_howManyNear_52 : decode cX8_howManyNear 52 = .ok (.aload_n 0, 1) := by decide +kernel
theorem dX8_howManyNear_53 : decode cX8_howManyNear 53 = .ok (.getfield 22, 3) := by decide +kernel
theorem dX8_howManyNear_56 : decode cX8_howManyNear 56 = .ok (.invokevirtual 52, 3) := by decide +kernel
theorem dX8_howManyNear_59 : decode cX8_howManyNear 59 = .ok (.ireturn, 1) := by decide +kernel
theorem dX8_howManyUnder_0 : decode cX8_howManyUnder 0 = .ok (.aload_n 0, 1) := by decide +kernel
theorem dX8_howManyUnder_1 : decode cX8_howManyUnder 1 = .ok (.aload_n 1, 1) := by decide +kernel
theorem dX8_howManyUnder_2 : decode cX8_howManyUnder 2 = .ok (.invokevirtual 55, 3) := by decide +kernel
theorem dX8_howManyUnder_5 : decode cX8_howManyUnder 5 = .ok (.iload_n 2, 1) := by decide +kernel
theorem dX8_howManyUnder_6 : decode cX8_howManyUnder 6 = .ok (.invokevirtual 64, 3) := by decide +kernel
theorem dX8_howManyUnder_9 : decode cX8_howManyUnder 9 = .ok (.invokevirtual 52, 3) := by decide +kernel
theorem dX8_howManyUnder_12 : decode cX8_howManyUnder 12 = .ok (.iconst 1, 1) := by decide +kernel
theorem dX8_howManyUnder_13 : decode cX8_howManyUnder 13 = .ok (.isub, 1) := by decide +kernel
theorem dX8_howManyUnder_14 : decode cX8_howManyUnder 14 = .ok (.ireturn, 1) := by decide +kernel
theorem dX8_howDeep_0 : decode cX8_howDeep 0 = .ok (.aload_n 0, 1) := by decide +kernel
theorem dX8_howDeep_1 : decode cX8_howDeep 1 = .ok (.getfield 22, 3) := by decide +kernel
theorem dX8_howDeep_4 : decode cX8_howDeep 4 = .ok (.invokevirtual 45, 3) := by decide +kernel
theorem dX8_howDeep_7 : decode cX8_howDeep 7 = .ok (.aload_n 0, 1) := by decide +kernel
theorem dX8_howDeep_8 : decode cX8_howDeep 8 = .ok (.getfield 22, 3) := by decide +kernel
theorem dX8_howDeep_11 : decode cX8_howDeep 11 = .ok (.iload_n 2, 1) := by decide +kernel
theorem dX8_howDeep_12 : decode cX8_howDeep 12 = .ok (.invokevirtual 68, 3) := by decide +kernel
theorem dX8_howDeep_15 : decode cX8_howDeep 15 = .ok (.iconst 0, 1) := by decide +kernel
theorem dX8_howDeep_16 : decode cX8_howDeep 16 = .ok (.istore_n 3, 1) := by decide +kernel
theorem dX8_howDeep_17 : decode cX8_howDeep 17 = .ok (.iload_n 3, 1) := by decide +kernel
theorem dX8_howDeep_18 : decode cX8_howDeep 18 = .ok (.bipush 100, 2) := by decide +kernel
theorem dX8_howDeep_20 : decode cX8_howDeep 20 = .ok (.if_icmp .ge 90, 3) := by decide +kernel
theorem dX8_howDeep_23 : decode cX8_howDeep 23 = .ok (.aload_n 0, 1) := by decide +kernel
theorem dX8_howDeep_24 : decode cX8_howDeep 24 = .ok (.getfield 26, 3) := by decide +kernel
theorem dX8_howDeep_27 : decode cX8_howDeep 27 = .ok (.invokevirtual 45, 3) := by decide +kernel
theorem dX8_howDeep_30 : decode cX8_howDeep 30 = .ok (.iconst 0, 1) := by decide +kernel
theorem dX8_howDeep_31 : decode cX8_howDeep 31 = .ok (.istore 4, 2) := by decide +kernel
theorem dX8_howDeep_33 : decode cX8_howDeep 33 = .ok (.iload 4, 2) := by decide +kernel
theorem dX8_howDeep_35 : decode cX8_howDeep 35 = .ok (.aload_n 0, 1) := by decide +kernel
theorem dX8_howDeep_36 : decode cX8_howDeep 36 = .ok (.getfield 22, 3) := by decide +kernel
theorem dX8_howDeep_39 : decode cX8_howDeep 39 = .ok (.invokevirtual 52, 3) := by decide +kernel
theorem dX8_howDeep_42 : decode cX8_howDeep 42 = .ok (.if_icmp .ge 30, 3) := by decide +kernel
theorem dX8_howDeep_45 : decode cX8_howDeep 45 = .ok (.aload_n 0, 1) := by decide +kernel
theorem dX8_howDeep_46 : decode cX8_howDeep 46 = .ok (.aload_n 1, 1) := by decide +kernel
theorem dX8_howDeep_47 : decode cX8_howDeep 47 = .ok (.invokevirtual 61, 3) := by decide +kernel
theorem dX8_howDeep_50 : decode cX8_howDeep 50 = .ok (.aload_n 0, 1) := by decide +kernel
theorem dX8_howDeep_51 : decode cX8_howDeep 51 = .ok (.getfield 22, 3) := by decide +kernel
theorem dX8_howDeep_54 : decode cX8_howDeep 54 = .ok (.iload 4, 2) := by decide +kernel
theorem dX8_howDeep_56 : decode cX8_howDeep 56 = .ok (.invokevirtual 72, 3) := by decide +kernel
theorem dX8_howDeep_59 : decode cX8_howDeep 59 = .ok (.aload_n 0, 1) := by decide +kernel
theorem dX8_howDeep_60 : decode cX8_howDeep 60 = .ok (.getfield 26, 3) := by decide +kernel
theorem dX8_howDeep_63 : decode cX8_howDeep 63 = .ok (.invokevirtual 48, 3) := by decide +kernel
theorem dX8_howDeep_66 : decode cX8_howDeep 66 = .ok (.iinc 4 1, 3) := by decide +kernel
theorem dX8_howDeep_69 : decode cX8_howDeep 69 = .ok (.goto (-36), 3) := by decide +kernel
theorem dX8_howDeep_72 : decode cX8_howDeep 72 = .ok (.aload_n 0, 1) := by decide +kernel
theorem dX8_howDeep_73 : decode cX8_howDeep 73 = .ok (.getfield 26, 3) := by decide +kernel
theorem dX8_howDeep_76 : decode cX8_howDeep 76 = .ok (.invokevirtual 52, 3) := by decide +kernel
theorem dX8_howDeep_79 : decode cX8_howDeep 79 = .ok (.ifCond .ne 5, 3) := by decide +kernel
theorem dX8_howDeep_82 : decode cX8_howDeep 82 = .ok (.iload_n 3, 1) := by decide +kernel
theorem dX8_howDeep_83 : decode cX8_howDeep 83 = .ok (.ireturn, 1) := by decide +kernel
theorem dX8_howDeep_84 : decode cX8_howDeep 84 = .ok (.aload_n 0, 1) := by decide +kernel
theorem dX8_howDeep_85 : decode cX8_howDeep 85 = .ok (.getfield 26, 3) := by decide +kernel
theorem dX8_howDeep_88 : decode cX8_howDeep 88 = .ok (.astore 4, 2) := by decide +kernel
theorem dX8_howDeep_90 : decode cX8_howDeep 90 = .ok (.aload_n 0, 1) := by decide +kernel
theorem dX8_howDeep_91 : decode cX8_howDeep 91 = .ok (.aload_n 0, 1) := by decide +kernel
theorem dX8_howDeep_92 : decode cX8_howDeep 92 = .ok (.getfield 22, 3) := by decide +kernel
theorem dX8_howDeep_95 : decode cX8_howDeep 95 = .ok (.putfield 26, 3) := by decide +kernel
theorem dX8_howDeep_98 : decode cX8_howDeep 98 = .ok (.aload_n 0, 1) := by decide +kernel
theorem dX8_howDeep_99 : decode cX8_howDeep 99 = .ok (.aload 4, 2) := by decide +kernel
theorem dX8_howDeep_101 : decode cX8_howDeep 101 = .ok (.putfield 22, 3) := by decide +kernel
theorem dX8_howDeep_104 : decode cX8_howDeep 104 = .ok (.iinc 3 1, 3) := by decide +kernel
theorem dX8_howDeep_107 : decode cX8_howDeep 107 = .ok (.goto (-90), 3) := by decide +kernel
theorem dX8_howDeep_110 : decode cX8_howDeep 110 = .ok (.bipush 100, 2) := by decide +kernel
theorem dX8_howDeep_112 : decode cX8_howDeep 112 = .ok (.ireturn, 1) := by decide +kernel
theorem dX8_spread_0 : decode cX8_spread 0 = .ok (.aload_n 0, 1) := by decide +kernel
theorem dX8_spread_1 : decode cX8_spread 1 = .ok (.getfield 22, 3) := by decide +kernel
theorem dX8_spread_4 : decode cX8_spread 4 = .ok (.invokevirtual 45, 3) := by decide +kernel
theorem dX8_spread_7 : decode cX8_spread 7 = .ok (.aload_n 0, 1) := by decide +kernel
theorem dX8_spread_8 : decode cX8_spread 8 = .ok (.getfield 22, 3) := by decide +kernel
theorem dX8_spread_11 : decode cX8_spread 11 = .ok (.iload_n 2, 1) := by decide +kernel
theorem dX8_spread_12 : decode cX8_spread 12 = .ok (.invokevirtual 68, 3) := by decide +kernel
theorem dX8_spread_15 : decode cX8_spread 15 = .ok (.aload_n 0, 1) := by decide +kernel
theorem dX8_spread_16 : decode cX8_spread 16 = .ok (.iconst 0, 1) := by decide +kernel
theorem dX8_spread_17 : decode cX8_spread 17 = .ok (.iconst 0, 1) := by decide +kernel
theorem dX8_spread_18 : decode cX8_spread 18 = .ok (.invokevirtual 76, 3) := by decide +kernel
theorem dX8_spread_21 : decode cX8_spread 21 = .ok (.iconst 0, 1) := by decide +kernel
theorem dX8_spread_22 : decode cX8_spread 22 = .ok (.istore_n 3, 1) := by decide +kernel
theorem dX8_spread_23 : decode cX8_spread 23 = .ok (.iload_n 3, 1) := by decide +kernel
theorem dX8_spread_24 : decode cX8_spread 24 = .ok (.aload_n 0, 1) := by decide +kernel
theorem dX8_spread_25 : decode cX8_spread 25 = .ok (.getfield 22, 3) := by decide +kernel
theorem dX8_spread_28 : decode cX8_spread 28 = .ok (.invokevirtual 52, 3) := by decide +kernel
theorem dX8_spread_31 : decode cX8_spread 31 = .ok (.if_icmp .ge 59, 3) := by decide +kernel
theorem dX8_spread_34 : decode cX8_spread 34 = .ok (.iload_n 3, 1) := by decide +kernel
theorem dX8_spread_35 : decode cX8_spread 35 = .ok (.bipush 100, 2) := by decide +kernel
theorem dX8_spread_37 : decode cX8_spread 37 = .ok (.if_icmp .ge 53, 3) := by decide +kernel
theorem dX8_spread_40 : decode cX8_spread 40 = .ok (.aload_n 0, 1) := by decide +kernel
theorem dX8_spread_41 : decode cX8_spread 41 = .ok (.getfield 22, 3) := by decide +kernel
theorem dX8_spread_44 : decode cX8_spread 44 = .ok (.iload_n 3, 1) := by decide +kernel
theorem dX8_spread_45 : decode cX8_spread 45 = .ok (.invokevirtual 72, 3) := by decide +kernel
theorem dX8_spread_48 : decode cX8_spread 48 = .ok (.istore 4, 2) := by decide +kernel
theorem dX8_spread_50 : decode cX8_spread 50 = .ok (.aload_n 0, 1) := by decide +kernel
theorem dX8_spread_51 : decode cX8_spread 51 = .ok (.getfield 22, 3) := by decide +kernel
theorem dX8_spread_54 : decode cX8_spread 54 = .ok (.invokevirtual 52, 3) := by decide +kernel
theorem dX8_spread_57 : decode cX8_spread 57 = .ok (.istore 5, 2) := by decide +kernel
theorem dX8_spread_59 : decode cX8_spread 59 = .ok (.aload_n 0, 1) := by decide +kernel
theorem dX8_spread_60 : decode cX8_spread 60 = .ok (.aload_n 1, 1) := by decide +kernel
theorem dX8_spread_61 : decode cX8_spread 61 = .ok (.iload 4, 2) := by decide +kernel
theorem dX8_spread_63 : decode cX8_spread 63 = .ok (.aload_n 0, 1) := by decide +kernel
theorem dX8_spread_64 : decode cX8_spread 64 = .ok (.getfield 22, 3) := by decide +kernel
theorem dX8_spread_67 : decode cX8_spread 67 = .ok (.invokevirtual 48, 3) := by decide +kernel
theorem dX8_spread_70 : decode cX8_spread 70 = .ok (.aload_n 0, 1) := by decide +kernel
theorem dX8_spread_71 : decode cX8_spread 71 = .ok (.iload 5, 2) := by decide +kernel
theorem dX8_spread_73 : decode cX8_spread 73 = .ok (.aload_n 0, 1) := by decide +kernel
theorem dX8_spread_74 : decode cX8_spread 74 = .ok (.iload 4, 2) := by decide +kernel
theorem dX8_spread_76 : decode cX8_spread 76 = .ok (.invokevirtual 80, 3) := by decide +kernel
theorem dX8_spread_79 : decode cX8_spread 79 = .ok (.iconst 1, 1) := by decide +kernel
theorem dX8_spread_80 : decode cX8_spread 80 = .ok (.iadd, 1) := by decide +kernel
theorem dX8_spread_81 : decode cX8_spread 81 = .ok (.invokevirtual 76, 3) := by decide +kernel
theorem dX8_spread_84 : decode cX8_spread 84 = .ok (.iinc 3 1, 3) := by decide +kernel
theorem dX8_spread_87 : decode cX8_spread 87 = .ok (.goto (-64), 3) := by decide +kernel
theorem dX8_spread_90 : decode cX8_spread 90 = .ok (.aload_n 0, 1) := by decide +kernel
theorem dX8_spread_91 : decode cX8_spread 91 = .ok (.getfield 22, 3) := by decide +kernel
theorem dX8_spread_94 : decode cX8_spread 94 = .ok (.areturn, 1) := by decide +kernel
theorem dX8_stepsTo_0 : decode cX8_stepsTo 0 = .ok (.aload_n 0, 1) := by decide +kernel
theorem dX8_stepsTo_1 : decode cX8_stepsTo 1 = .ok (.getfield 22, 3) := by decide +kernel
theorem dX8_stepsTo_4 : decode cX8_stepsTo 4 = .ok (.iload_n 1, 1) := by decide +kernel
theorem dX8_stepsTo_5 : decode cX8_stepsTo 5 = .ok (.invokevirtual 83, 3) := by decide +kernel
theorem dX8_stepsTo_8 : decode cX8_stepsTo 8 = .ok (.ifCond .eq 12, 3) := by decide +kernel
theorem dX8_stepsTo_11 : decode cX8_stepsTo 11 = .ok (.aload_n 0, 1) := by decide +kernel
theorem dX8_stepsTo_12 : decode cX8_stepsTo 12 = .ok (.getfield 15, 3) := by decide +kernel
theorem dX8_stepsTo_15 : decode cX8_stepsTo 15 = .ok (.iload_n 1, 1) := by decide +kernel
theorem dX8_stepsTo_16 : decode cX8_stepsTo 16 = .ok (.iaload, 1) := by decide +kernel
theorem dX8_stepsTo_17 : decode cX8_stepsTo 17 = .ok (.goto 4, 3) := by decide +kernel
theorem dX8_stepsTo_20 : decode cX8_stepsTo 20 = .ok (.iconst (-1), 1) := by decide +kernel
theorem dX8_stepsTo_21 : decode cX8_stepsTo 21 = .ok (.ireturn, 1) := by decide +kernel
theorem dX8_findWay_0 : decode cX8_findWay 0 = .ok (.aload_n 0, 1) := by decide +kernel
theorem dX8_findWay_1 : decode cX8_findWay 1 = .ok (.aload_n 1, 1) := by decide +kernel
theorem dX8_findWay_2 : decode cX8_findWay 2 = .ok (.invokevirtual 61, 3) := by decide +kernel
theorem dX8_findWay_5 : decode cX8_findWay 5 = .ok (.iload_n 3, 1) := by decide +kernel
theorem dX8_findWay_6 : decode cX8_findWay 6 = .ok (.invokevirtual 64, 3) := by decide +kernel
theorem dX8_findWay_9 : decode cX8_findWay 9 = .ok (.pop, 1) := by decide +kernel
theorem dX8_findWay_10 : decode cX8_findWay 10 = .ok (.aload_n 0, 1) := by decide +kernel
theorem dX8_findWay_11 : decode cX8_findWay 11 = .ok (.getfield 22, 3) := by decide +kernel
theorem dX8_findWay_14 : decode cX8_findWay 14 = .ok (.iload_n 2, 1) := by decide +kernel
theorem dX8_findWay_15 : decode cX8_findWay 15 = .ok (.invokevirtual 83, 3) := by decide +kernel
theorem dX8_findWay_18 : decode cX8_findWay 18 = .ok (.ifCond .ne 5, 3) := by decide +kernel
theorem dX8_findWay_21 : decode cX8_findWay 21 = .ok (.iconst 0, 1) := by decide +kernel
theorem dX8_findWay_22 : decode cX8_findWay 22 = .ok (.ireturn, 1) := by decide +kernel
theorem dX8_findWay_23 : decode cX8_findWay 23 = .ok (.aload 4, 2) := by decide +kernel
theorem dX8_findWay_25 : decode cX8_findWay 25 = .ok (.invokevirtual 87, 3) := by decide +kernel
theorem dX8_findWay_28 : decode cX8_findWay 28 = .ok (.aload 4, 2) := by decide +kernel
theorem dX8_findWay_30 : decode cX8_findWay 30 = .ok (.aload_n 1, 1) := by decide +kernel
theorem dX8_findWay_31 : decode cX8_findWay 31 = .ok (.iload_n 2, 1) := by decide +kernel
theorem dX8_findWay_32 : decode cX8_findWay 32 = .ok (.invokevirtual 90, 3) := by decide +kernel
theorem dX8_findWay_35 : decode cX8_findWay 35 = .ok (.invokevirtual 93, 3) := by decide +kernel
theorem dX8_findWay_38 : decode cX8_findWay 38 = .ok (.iload_n 2, 1) := by decide +kernel
theorem dX8_findWay_39 : decode cX8_findWay 39 = .ok (.istore 5, 2) := by decide +kernel
theorem dX8_findWay_41 : decode cX8_findWay 41 = .ok (.aload_n 0, 1) := by decide +kernel
theorem dX8_findWay_42 : decode cX8_findWay 42 = .ok (.iload_n 2, 1) := by decide +kernel
theorem dX8_findWay_43 : decode cX8_findWay 43 = .ok (.invokevirtual 80, 3) := by decide +kernel
theorem dX8_findWay_46 : decode cX8_findWay 46 = .ok (.iconst 1, 1) := by decide +kernel
theorem dX8_findWay_47 : decode cX8_findWay 47 = .ok (.isub, 1) := by decide +kernel
theorem dX8_findWay_48 : decode cX8_findWay 48 = .ok (.istore 6, 2) := by decide +kernel
theorem dX8_findWay_50 : decode cX8_findWay 50 = .ok (.iload 6, 2) := by decide +kernel
theorem dX8_findWay_52 : decode cX8_findWay 52 = .ok (.ifCond .lt 31, 3) := by decide +kernel
theorem dX8_findWay_55 : decode cX8_findWay 55 = .ok (.aload_n 0, 1) := by decide +kernel
theorem dX8_findWay_56 : decode cX8_findWay 56 = .ok (.aload_n 1, 1) := by decide +kernel
theorem dX8_findWay_57 : decode cX8_findWay 57 = .ok (.iload 5, 2) := by decide +kernel
theorem dX8_findWay_59 : decode cX8_findWay 59 = .ok (.iload 6, 2) := by decide +kernel
theorem dX8_findWay_61 : decode cX8_findWay 61 = .ok (.invokevirtual 94, 3) := by decide +kernel
theorem dX8_findWay_64 : decode cX8_findWay 64 = .ok (.istore 5, 2) := by decide +kernel
theorem dX8_findWay_66 : decode cX8_findWay 66 = .ok (.aload 4, 2) := by decide +kernel
theorem dX8_findWay_68 : decode cX8_findWay 68 = .ok (.aload_n 1, 1) := by decide +kernel
theorem dX8_findWay_69 : decode cX8_findWay 69 = .ok (.iload 5, 2) := by decide +kernel
theorem dX8_findWay_71 : decode cX8_findWay 71 = .ok (.invokevirtual 90, 3) := by decide +kernel
theorem dX8_findWay_74 : decode cX8_findWay 74 = .ok (.invokevirtual 93, 3) := by decide +kernel
theorem dX8_findWay_77 : decode cX8_findWay 77 = .ok (.iinc 6 (-1), 3) := by decide +kernel
theorem dX8_findWay_80 : decode cX8_findWay 80 = .ok (.goto (-30), 3) := by decide +kernel
theorem dX8_findWay_83 : decode cX8_findWay 83 = .ok (.iconst 1, 1) := by decide +kernel
theorem dX8_findWay_84 : decode cX8_findWay 84 = .ok (.ireturn, 1) := by decide +kernel
theorem dX8_leastStep_0 : decode cX8_leastStep 0 = .ok (.aload_n 0, 1) := by decide +kernel
theorem dX8_leastStep_1 : decode cX8_leastStep 1 = .ok (.getfield 26, 3) := by decide +kernel
theorem dX8_leastStep_4 : decode cX8_leastStep 4 = .ok (.invokevirtual 45, 3) := by decide +kernel
theorem dX8_leastStep_7 : decode cX8_leastStep 7 = .ok (.aload_n 0, 1) := by decide +kernel
theorem dX8_leastStep_8 : decode cX8_leastStep 8 = .ok (.aload_n 1, 1) := by decide +kernel
theorem dX8_leastStep_9 : decode cX8_leastStep 9 = .ok (.invokevirtual 55, 3) := by decide +kernel
theorem dX8_leastStep_12 : decode cX8_leastStep 12 = .ok (.iload_n 2, 1) := by decide +kernel
theorem dX8_leastStep_13 : decode cX8_leastStep 13 = .ok (.aload_n 0, 1) := by decide +kernel
theorem dX8_leastStep_14 : decode cX8_leastStep 14 = .ok (.getfield 26, 3) := by decide +kernel
theorem dX8_leastStep_17 : decode cX8_leastStep 17 = .ok (.invokevirtual 48, 3) := by decide +kernel
theorem dX8_leastStep_20 : decode cX8_leastStep 20 = .ok (.iconst (-1), 1) := by decide +kernel
theorem dX8_leastStep_21 : decode cX8_leastStep 21 = .ok (.istore 4, 2) := by decide +kernel
theorem dX8_leastStep_23 : decode cX8_leastStep 23 = .ok (.iconst 0, 1) := by decide +kernel
theorem dX8_leastStep_24 : decode cX8_leastStep 24 = .ok (.istore 5, 2) := by decide +kernel
theorem dX8_leastStep_26 : decode cX8_leastStep 26 = .ok (.iload 5, 2) := by decide +kernel
theorem dX8_leastStep_28 : decode cX8_leastStep 28 = .ok (.aload_n 0, 1) := by decide +kernel
theorem dX8_leastStep_29 : decode cX8_leastStep 29 = .ok (.getfield 26, 3) := by decide +kernel
theorem dX8_leastStep_32 : decode cX8_leastStep 32 = .ok (.invokevirtual 52, 3) := by decide +kernel
theorem dX8_leastStep_35 : decode cX8_leastStep 35 = .ok (.if_icmp .ge 67, 3) := by decide +kernel
theorem dX8_leastStep_38 : decode cX8_leastStep 38 = .ok (.aload_n 0, 1) := by decide +kernel
theorem dX8_leastStep_39 : decode cX8_leastStep 39 = .ok (.getfield 26, 3) := by decide +kernel
theorem dX8_leastStep_42 : decode cX8_leastStep 42 = .ok (.iload 5, 2) := by decide +kernel
theorem dX8_leastStep_44 : decode cX8_leastStep 44 = .ok (.invokevirtual 72, 3) := by decide +kernel
theorem dX8_leastStep_47 : decode cX8_leastStep 47 = .ok (.istore 6, 2) := by decide +kernel
theorem dX8_leastStep_49 : decode cX8_leastStep 49 = .ok (.aload_n 0, 1) := by decide +kernel
theorem dX8_leastStep_50 : decode cX8_leastStep 50 = .ok (.iload 6, 2) := by decide +kernel
theorem dX8_leastStep_52 : decode cX8_leastStep 52 = .ok (.invokevirtual 80, 3) := by decide +kernel
theorem dX8_leastStep_55 : decode cX8_leastStep 55 = .ok (.iload_n 3, 1) := by decide +kernel
theorem dX8_leastStep_56 : decode cX8_leastStep 56 = .ok (.if_icmp .ne 7, 3) := by decide +kernel
theorem dX8_leastStep_59 : decode cX8_leastStep 59 = .ok (.iconst 1, 1) := by decide +kernel
theorem dX8_leastStep_60 : decode cX8_leastStep 60 = .ok (.goto 4, 3) := by decide +kernel
theorem dX8_leastStep_63 : decode cX8_leastStep 63 = .ok (.iconst 0, 1) := by decide +kernel
theorem dX8_leastStep_64 : decode cX8_leastStep 64 = .ok (.istore 7, 2) := by decide +kernel
theorem dX8_leastStep_66 : decode cX8_leastStep 66 = .ok (.iload 7, 2) := by decide +kernel
theorem dX8_leastStep_68 : decode cX8_leastStep 68 = .ok (.ifCond .eq 28, 3) := by decide +kernel
theorem dX8_leastStep_71 : decode cX8_leastStep 71 = .ok (.iload 4, 2) := by decide +kernel
theorem dX8_leastStep_73 : decode cX8_leastStep 73 = .ok (.iconst (-1), 1) := by decide +kernel
theorem dX8_leastStep_74 : decode cX8_leastStep 74 = .ok (.if_icmp .eq 18, 3) := by decide +kernel
theorem dX8_leastStep_77 : decode cX8_leastStep 77 = .ok (.aload_n 1, 1) := by decide +kernel
theorem dX8_leastStep_78 : decode cX8_leastStep 78 = .ok (.iload 6, 2) := by decide +kernel
theorem dX8_leastStep_80 : decode cX8_leastStep 80 = .ok (.invokevirtual 90, 3) := by decide +kernel
theorem dX8_leastStep_83 : decode cX8_leastStep 83 = .ok (.aload_n 1, 1) := by decide +kernel
theorem dX8_leastStep_84 : decode cX8_leastStep 84 = .ok (.iload 4, 2) := by decide +kernel
theorem dX8_leastStep_86 : decode cX8_leastStep 86 = .ok (.invokevirtual 90, 3) := by decide +kernel
theorem dX8_leastStep_89 : decode cX8_leastStep 89 = .ok (.if_icmp .ge 7, 3) := by decide +kernel
theorem dX8_leastStep_92 : decode cX8_leastStep 92 = .ok (.iload 6, 2) := by decide +kernel
theorem dX8_leastStep_94 : decode cX8_leastStep 94 = .ok (.istore 4, 2) := by decide +kernel
theorem dX8_leastStep_96 : decode cX8_leastStep 96 = .ok (.iinc 5 1, 3) := by decide +kernel
theorem dX8_leastStep_99 : decode cX8_leastStep 99 = .ok (.goto (-73), 3) := by decide +kernel
theorem dX8_leastStep_102 : decode cX8_leastStep 102 = .ok (.iload 4, 2) := by decide +kernel
theorem dX8_leastStep_104 : decode cX8_leastStep 104 = .ok (.ireturn, 1) := by decide +kernel
theorem dX8_noteSteps_0 : decode cX8_noteSteps 0 = .ok (.iload_n 1, 1) := by decide +kernel
theorem dX8_noteSteps_1 : decode cX8_noteSteps 1 = .ok (.istore_n 3, 1) := by decide +kernel
theorem dX8_noteSteps_2 : decode cX8_noteSteps 2 = .ok (.iload_n 3, 1) := by decide +kernel
theorem dX8_noteSteps_3 : decode cX8_noteSteps 3 = .ok (.aload_n 0, 1) := by decide +kernel
theorem dX8_noteSteps_4 : decode cX8_noteSteps 4 = .ok (.getfield 22, 3) := by decide +kernel
theorem dX8_noteSteps_7 : decode cX8_noteSteps 7 = .ok (.invokevirtual 52, 3) := by decide +kernel
theorem dX8_noteSteps_10 : decode cX8_noteSteps 10 = .ok (.if_icmp .ge 35, 3) := by decide +kernel
theorem dX8_noteSteps_13 : decode cX8_noteSteps 13 = .ok (.aload_n 0, 1) := by decide +kernel
theorem dX8_noteSteps_14 : decode cX8_noteSteps 14 = .ok (.getfield 22, 3) := by decide +kernel
theorem dX8_noteSteps_17 : decode cX8_noteSteps 17 = .ok (.iload_n 3, 1) := by decide +kernel
theorem dX8_noteSteps_18 : decode cX8_noteSteps 18 = .ok (.invokevirtual 72, 3) := by decide +kernel
theorem dX8_noteSteps_21 : decode cX8_noteSteps 21 = .ok (.istore 4, 2) := by decide +kernel
theorem dX8_noteSteps_23 : decode cX8_noteSteps 23 = .ok (.iload 4, 2) := by decide +kernel
theorem dX8_noteSteps_25 : decode cX8_noteSteps 25 = .ok (.invokestatic 98, 3) := by decide +kernel
theorem dX8_noteSteps_28 : decode cX8_noteSteps 28 = .ok (.ifCond .eq 11, 3) := by decide +kernel
theorem dX8_noteSteps_31 : decode cX8_noteSteps 31 = .ok (.aload_n 0, 1) := by decide +kernel
theorem dX8_noteSteps_32 : decode cX8_noteSteps 32 = .ok (.getfield 15, 3) := by decide +kernel
theorem dX8_noteSteps_35 : decode cX8_noteSteps 35 = .ok (.iload 4, 2) := by decide +kernel
theorem dX8_noteSteps_37 : decode cX8_noteSteps 37 = .ok (.iload_n 2, 1) := by decide +kernel
theorem dX8_noteSteps_38 : decode cX8_noteSteps 38 = .ok (.iastore, 1) := by decide +kernel
theorem dX8_noteSteps_39 : decode cX8_noteSteps 39 = .ok (.iinc 3 1, 3) := by decide +kernel
theorem dX8_noteSteps_42 : decode cX8_noteSteps 42 = .ok (.goto (-40), 3) := by decide +kernel
theorem dX8_noteSteps_45 : decode cX8_noteSteps 45 = .ok (.return_, 1) := by decide +kernel
