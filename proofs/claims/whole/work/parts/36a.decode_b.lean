theorem dX9_init_0 : decode cX9_init 0 = .ok (.aload_n 0, 1) := by decide +kernel
theorem dX9_init_1 : decode cX9_init 1 = .ok (.invokespecial 1, 3) := by decide +kernel
theorem dX9_init_4 : decode cX9_init 4 = .ok (.aload_n 0, 1) := by decide +kernel
theorem dX9_init_5 : decode cX9_init 5 = .ok (.new 7, 3) := by decide +kernel
theorem dX9_init_8 : decode cX9_init 8 = .ok (.dup, 1) := by decide +kernel
theorem dX9_init_9 : decode cX9_init 9 = .ok (.invokespecial 9, 3) := by decide +kernel
theorem dX9_init_12 : decode cX9_init 12 = .ok (.putfield 10, 3) := by decide +kernel
theorem dX9_init_15 : decode cX9_init 15 = .ok (.aload_n 0, 1) := by decide +kernel
theorem dX9_init_16 : decode cX9_init 16 = .ok (.new 16, 3) := by decide +kernel
theorem dX9_init_19 : decode cX9_init 19 = .ok (.dup, 1) := by decide +kernel
theorem dX9_init_20 : decode cX9_init 20 = .ok (.invokespecial 18, 3) := by decide +kernel
theorem dX9_init_23 : decode cX9_init 23 = .ok (.putfield 19, 3) := by decide +kernel
theorem dX9_init_26 : decode cX9_init 26 = .ok (.aload_n 0, 1) := by decide +kernel
theorem dX9_init_27 : decode cX9_init 27 = .ok (.new 23, 3) := by decide +kernel
theorem dX9_init_30 : decode cX9_init 30 = .ok (.dup, 1) := by decide +kernel
theorem dX9_init_31 : decode cX9_init 31 = .ok (.aload_n 0, 1) := by decide +kernel
theorem dX9_init_32 : decode cX9_init 32 = .ok (.getfield 10, 3) := by decide +kernel
theorem dX9_init_35 : decode cX9_init 35 = .ok (.invokespecial 25, 3) := by decide +kernel
theorem dX9_init_38 : decode cX9_init 38 = .ok (.putfield 28, 3) := by decide +kernel
theorem dX9_init_41 : decode cX9_init 41 = .ok (.aload_n 0, 1) := by decide +kernel
theorem dX9_init_42 : decode cX9_init 42 = .ok (.new 32, 3) := by decide +kernel
theorem dX9_init_45 : decode cX9_init 45 = .ok (.dup, 1) := by decide +kernel
theorem dX9_init_46 : decode cX9_init 46 = .ok (.aload_n 0, 1) := by decide +kernel
theorem dX9_init_47 : decode cX9_init 47 = .ok (.getfield 10, 3) := by decide +kernel
theorem dX9_init_50 : decode cX9_init 50 = .ok (.aload_n 0, 1) := by decide +kernel
theorem dX9_init_51 : decode cX9_init 51 = .ok (.getfield 28, 3) := by decide +kernel
theorem dX9_init_54 : decode cX9_init 54 = .ok (.invokespecial 34, 3) := by decide +kernel
theorem dX9_init_57 : decode cX9_init 57 = .ok (.putfield 37, 3) := by decide +kernel
theorem dX9_init_60 : decode cX9_init 60 = .ok (.aload_n 0, 1) := by decide +kernel
theorem dX9_init_61 : decode cX9_init 61 = .ok (.new 41, 3) := by decide +kernel
theorem dX9_init_64 : decode cX9_init 64 = .ok (.dup, 1) := by decide +kernel
theorem dX9_init_65 : decode cX9_init 65 = .ok (.aload_n 0, 1) := by decide +kernel
theorem dX9_init_66 : decode cX9_init 66 = .ok (.getfield 10, 3) := by decide +kernel
theorem dX9_init_69 : decode cX9_init 69 = .ok (.aload_n 0, 1) := by decide +kernel
theorem dX9_init_70 : decode cX9_init 70 = .ok (.getfield 28, 3) := by decide +kernel
theorem dX9_init_73 : decode cX9_init 73 = .ok (.invokespecial 43, 3) := by decide +kernel
theorem dX9_init_76 : decode cX9_init 76 = .ok (.putfield 44, 3) := by decide +kernel
theorem dX9_init_79 : decode cX9_init 79 = .ok (.aload_n 0, 1) := by decide +kernel
theorem dX9_init_80 : decode cX9_init 80 = .ok (.new 48, 3) := by decide +kernel
theorem dX9_init_83 : decode cX9_init 83 = .ok (.dup, 1) := by decide +kernel
theorem dX9_init_84 : decode cX9_init 84 = .ok (.aload_n 0, 1) := by decide +kernel
theorem dX9_init_85 : decode cX9_init 85 = .ok (.getfield 10, 3) := by decide +kernel
theorem dX9_init_88 : decode cX9_init 88 = .ok (.invokespecial 50, 3) := by decide +kernel
theorem dX9_init_91 : decode cX9_init 91 = .ok (.putfield 51, 3) := by decide +kernel
theorem dX9_init_94 : decode cX9_init 94 = .ok (.aload_n 0, 1) := by decide +kernel
theorem dX9_init_95 : decode cX9_init 95 = .ok (.bipush 12, 2) := by decide +kernel
theorem dX9_init_97 : decode cX9_init 97 = .ok (.anewarray 55, 3) := by decide +kernel
theorem dX9_init_100 : decode cX9_init 100 = .ok (.putfield 57, 3) := by decide +kernel
theorem dX9_init_103 : decode cX9_init 103 = .ok (.aload_n 0, 1) := by decide +kernel
theorem dX9_init_104 : decode cX9_init 104 = .ok (.new 55, 3) := by decide +kernel
theorem dX9_init_107 : decode cX9_init 107 = .ok (.dup, 1) := by decide +kernel
theorem dX9_init_108 : decode cX9_init 108 = .ok (.invokespecial 61, 3) := by decide +kernel
theorem dX9_init_111 : decode cX9_init 111 = .ok (.putfield 62, 3) := by decide +kernel
theorem dX9_init_114 : decode cX9_init 114 = .ok (.return_, 1) := by decide +kernel
theorem dX9_link_0 : decode cX9_link 0 = .ok (.iload_n 1, 1) := by decide +kernel
theorem dX9_link_1 : decode cX9_link 1 = .ok (.bipush 10, 2) := by decide +kernel
theorem dX9_link_3 : decode cX9_link 3 = .ok (.invokestatic 66, 3) := by decide +kernel
theorem dX9_link_6 : decode cX9_link 6 = .ok (.iload_n 2, 1) := by decide +kernel
theorem dX9_link_7 : decode cX9_link 7 = .ok (.bipush 10, 2) := by decide +kernel
theorem dX9_link_9 : decode cX9_link 9 = .ok (.invokestatic 66, 3) := by decide +kernel
theorem dX9_link_12 : decode cX9_link 12 = .ok (.iload_n 3, 1) := by decide +kernel
theorem dX9_link_13 : decode cX9_link 13 = .ok (.iconst 3, 1) := by decide +kernel
theorem dX9_link_14 : decode cX9_link 14 = .ok (.invokestatic 66, 3) := by decide +kernel
theorem dX9_link_17 : decode cX9_link 17 = .ok (.iload 4, 2) := by decide +kernel
theorem dX9_link_19 : decode cX9_link 19 = .ok (.iconst 3, 1) := by decide +kernel
theorem dX9_link_20 : decode cX9_link 20 = .ok (.invokestatic 66, 3) := by decide +kernel
theorem dX9_link_23 : decode cX9_link 23 = .ok (.aload_n 0, 1) := by decide +kernel
theorem dX9_link_24 : decode cX9_link 24 = .ok (.getfield 10, 3) := by decide +kernel
theorem dX9_link_27 : decode cX9_link 27 = .ok (.invokevirtual 70, 3) := by decide +kernel
theorem dX9_link_30 : decode cX9_link 30 = .ok (.bipush 10, 2) := by decide +kernel
theorem dX9_link_32 : decode cX9_link 32 = .ok (.if_icmp .lt 13, 3) := by decide +kernel
theorem dX9_link_35 : decode cX9_link 35 = .ok (.new 74, 3) := by decide +kernel
theorem dX9_link_38 : decode cX9_link 38 = .ok (.dup, 1) := by decide +kernel
theorem dX9_link_39 : decode cX9_link 39 = .ok (.ldc 76, 2) := by decide +kernel
theorem dX9_link_41 : decode cX9_link 41 = .ok (.invokespecial 78, 3) := by decide +kernel
theorem dX9_link_44 : decode cX9_link 44 = .ok (.athrow, 1) := by decide +kernel
theorem dX9_link_45 : decode cX9_link 45 = .ok (.aload_n 0, 1) := by decide +kernel
theorem dX9_link_46 : decode cX9_link 46 = .ok (.getfield 10, 3) := by decide +kernel
theorem dX9_link_49 : decode cX9_link 49 = .ok (.iload_n 1, 1) := by decide +kernel
theorem dX9_link_50 : decode cX9_link 50 = .ok (.iload_n 2, 1) := by decide +kernel
theorem dX9_link_51 : decode cX9_link 51 = .ok (.iload_n 3, 1) := by decide +kernel
theorem dX9_link_52 : decode cX9_link 52 = .ok (.iload 4, 2) := by decide +kernel
theorem dX9_link_54 : decode cX9_link 54 = .ok (.invokevirtual 81, 3) := by decide +kernel
theorem dX9_link_57 : decode cX9_link 57 = .ok (.ireturn, 1) := by decide +kernel
theorem dX9_make_0 : decode cX9_make 0 = .ok (.iload_n 1, 1) := by decide +kernel
theorem dX9_make_1 : decode cX9_make 1 = .ok (.bipush 10, 2) := by decide +kernel
theorem dX9_make_3 : decode cX9_make 3 = .ok (.invokestatic 66, 3) := by decide +kernel
theorem dX9_make_6 : decode cX9_make 6 = .ok (.aload_n 0, 1) := by decide +kernel
theorem dX9_make_7 : decode cX9_make 7 = .ok (.getfield 62, 3) := by decide +kernel
theorem dX9_make_10 : decode cX9_make 10 = .ok (.invokevirtual 85, 3) := by decide +kernel
theorem dX9_make_13 : decode cX9_make 13 = .ok (.bipush 100, 2) := by decide +kernel
theorem dX9_make_15 : decode cX9_make 15 = .ok (.if_icmp .lt 13, 3) := by decide +kernel
theorem dX9_make_18 : decode cX9_make 18 = .ok (.new 74, 3) := by decide +kernel
theorem dX9_make_21 : decode cX9_make 21 = .ok (.dup, 1) := by decide +kernel
theorem dX9_make_22 : decode cX9_make 22 = .ok (.ldc 88, 2) := by decide +kernel
theorem dX9_make_24 : decode cX9_make 24 = .ok (.invokespecial 78, 3) := by decide +kernel
theorem dX9_make_27 : decode cX9_make 27 = .ok (.athrow, 1) := by decide +kernel
theorem dX9_make_28 : decode cX9_make 28 = .ok (.aload_n 0, 1) := by decide +kernel
theorem dX9_make_29 : decode cX9_make 29 = .ok (.getfield 90, 3) := by decide +kernel
theorem dX9_make_32 : decode cX9_make 32 = .ok (.istore_n 2, 1) := by decide +kernel
theorem dX9_make_33 : decode cX9_make 33 = .ok (.aload_n 0, 1) := by decide +kernel
theorem dX9_make_34 : decode cX9_make 34 = .ok (.dup, 1) := by decide +kernel
theorem dX9_make_35 : decode cX9_make 35 = .ok (.getfield 90, 3) := by decide +kernel
theorem dX9_make_38 : decode cX9_make 38 = .ok (.iconst 1, 1) := by decide +kernel
theorem dX9_make_39 : decode cX9_make 39 = .ok (.iadd, 1) := by decide +kernel
theorem dX9_make_40 : decode cX9_make 40 = .ok (.putfield 90, 3) := by decide +kernel
theorem dX9_make_43 : decode cX9_make 43 = .ok (.aload_n 0, 1) := by decide +kernel
theorem dX9_make_44 : decode cX9_make 44 = .ok (.getfield 62, 3) := by decide +kernel
theorem dX9_make_47 : decode cX9_make 47 = .ok (.iload_n 2, 1) := by decide +kernel
theorem dX9_make_48 : decode cX9_make 48 = .ok (.iload_n 1, 1) := by decide +kernel
theorem dX9_make_49 : decode cX9_make 49 = .ok (.invokevirtual 94, 3) := by decide +kernel
theorem dX9_make_52 : decode cX9_make 52 = .ok (.pop, 1) := by decide +kernel
theorem dX9_make_53 : decode cX9_make 53 = .ok (.iload_n 2, 1) := by decide +kernel
theorem dX9_make_54 : decode cX9_make 54 = .ok (.ireturn, 1) := by decide +kernel
theorem dX9_set_0 : decode cX9_set 0 = .ok (.aload_n 0, 1) := by decide +kernel
theorem dX9_set_1 : decode cX9_set 1 = .ok (.iload_n 1, 1) := by decide +kernel
theorem dX9_set_2 : decode cX9_set 2 = .ok (.invokevirtual 98, 3) := by decide +kernel
theorem dX9_set_5 : decode cX9_set 5 = .ok (.iload 4, 2) := by decide +kernel
theorem dX9_set_7 : decode cX9_set 7 = .ok (.iconst (-1), 1) := by decide +kernel
theorem dX9_set_8 : decode cX9_set 8 = .ok (.if_icmp .ge 13, 3) := by decide +kernel
theorem dX9_set_11 : decode cX9_set 11 = .ok (.new 102, 3) := by decide +kernel
theorem dX9_set_14 : decode cX9_set 14 = .ok (.dup, 1) := by decide +kernel
theorem dX9_set_15 : decode cX9_set 15 = .ok (.ldc 104, 2) := by decide +kernel
theorem dX9_set_17 : decode cX9_set 17 = .ok (.invokespecial 106, 3) := by decide +kernel
theorem dX9_set_20 : decode cX9_set 20 = .ok (.athrow, 1) := by decide +kernel
theorem dX9_set_21 : decode cX9_set 21 = .ok (.aload_n 0, 1) := by decide +kernel
theorem dX9_set_22 : decode cX9_set 22 = .ok (.iload_n 2, 1) := by decide +kernel
theorem dX9_set_23 : decode cX9_set 23 = .ok (.invokevirtual 107, 3) := by decide +kernel
theorem dX9_set_26 : decode cX9_set 26 = .ok (.istore 5, 2) := by decide +kernel
theorem dX9_set_28 : decode cX9_set 28 = .ok (.aload_n 0, 1) := by decide +kernel
theorem dX9_set_29 : decode cX9_set 29 = .ok (.iload_n 3, 1) := by decide +kernel
theorem dX9_set_30 : decode cX9_set 30 = .ok (.invokevirtual 107, 3) := by decide +kernel
theorem dX9_set_33 : decode cX9_set 33 = .ok (.istore 6, 2) := by decide +kernel
theorem dX9_set_35 : decode cX9_set 35 = .ok (.aload_n 0, 1) := by decide +kernel
theorem dX9_set_36 : decode cX9_set 36 = .ok (.iload 5, 2) := by decide +kernel
theorem dX9_set_38 : decode cX9_set 38 = .ok (.aload_n 0, 1) := by decide +kernel
theorem dX9_set_39 : decode cX9_set 39 = .ok (.getfield 10, 3) := by decide +kernel
theorem dX9_set_42 : decode cX9_set 42 = .ok (.iload_n 1, 1) := by decide +kernel
theorem dX9_set_43 : decode cX9_set 43 = .ok (.invokevirtual 111, 3) := by decide +kernel
theorem dX9_set_46 : decode cX9_set 46 = .ok (.invokevirtual 114, 3) := by decide +kernel
theorem dX9_set_49 : decode cX9_set 49 = .ok (.aload_n 0, 1) := by decide +kernel
theorem dX9_set_50 : decode cX9_set 50 = .ok (.iload 6, 2) := by decide +kernel
theorem dX9_set_52 : decode cX9_set 52 = .ok (.aload_n 0, 1) := by decide +kernel
theorem dX9_set_53 : decode cX9_set 53 = .ok (.getfield 10, 3) := by decide +kernel
theorem dX9_set_56 : decode cX9_set 56 = .ok (.iload_n 1, 1) := by decide +kernel
theorem dX9_set_57 : decode cX9_set 57 = .ok (.invokevirtual 117, 3) := by decide +kernel
theorem dX9_set_60 : decode cX9_set 60 = .ok (.invokevirtual 114, 3) := by decide +kernel
theorem dX9_set_63 : decode cX9_set 63 = .ok (.aload_n 0, 1) := by decide +kernel
theorem dX9_set_64 : decode cX9_set 64 = .ok (.getfield 62, 3) := by decide +kernel
theorem dX9_set_67 : decode cX9_set 67 = .ok (.iload_n 1, 1) := by decide +kernel
theorem dX9_set_68 : decode cX9_set 68 = .ok (.iload 5, 2) := by decide +kernel
theorem dX9_set_70 : decode cX9_set 70 = .ok (.iload 6, 2) := by decide +kernel
theorem dX9_set_72 : decode cX9_set 72 = .ok (.invokevirtual 120, 3) := by decide +kernel
theorem dX9_set_75 : decode cX9_set 75 = .ok (.ifCond .eq 17, 3) := by decide +kernel
theorem dX9_set_78 : decode cX9_set 78 = .ok (.aload_n 0, 1) := by decide +kernel
theorem dX9_set_79 : decode cX9_set 79 = .ok (.iload_n 1, 1) := by decide +kernel
theorem dX9_set_80 : decode cX9_set 80 = .ok (.iload 5, 2) := by decide +kernel
theorem dX9_set_82 : decode cX9_set 82 = .ok (.iload 6, 2) := by decide +kernel
theorem dX9_set_84 : decode cX9_set 84 = .ok (.iload 4, 2) := by decide +kernel
theorem dX9_set_86 : decode cX9_set 86 = .ok (.invokevirtual 124, 3) := by decide +kernel
theorem dX9_set_89 : decode cX9_set 89 = .ok (.goto 58, 3) := by decide +kernel
theorem dX9_set_92 : decode cX9_set 92 = .ok (.aload_n 0, 1) := by decide +kernel
theorem dX9_set_93 : decode cX9_set 93 = .ok (.getfield 10, 3) := by decide +kernel
theorem dX9_set_96 : decode cX9_set 96 = .ok (.iload_n 1, 1) := by decide +kernel
theorem dX9_set_97 : decode cX9_set 97 = .ok (.iconst 1, 1) := by decide +kernel
theorem dX9_set_98 : decode cX9_set 98 = .ok (.invokevirtual 128, 3) := by decide +kernel
theorem dX9_set_101 : decode cX9_set 101 = .ok (.ifCond .eq 35, 3) := by decide +kernel
theorem dX9_set_104 : decode cX9_set 104 = .ok (.aload_n 0, 1) := by decide +kernel
theorem dX9_set_105 : decode cX9_set 105 = .ok (.getfield 28, 3) := by decide +kernel
theorem dX9_set_108 : decode cX9_set 108 = .ok (.aload_n 0, 1) := by decide +kernel
theorem dX9_set_109 : decode cX9_set 109 = .ok (.getfield 62, 3) := by decide +kernel
theorem dX9_set_112 : decode cX9_set 112 = .ok (.iload 6, 2) := by decide +kernel
theorem dX9_set_114 : decode cX9_set 114 = .ok (.iload 5, 2) := by decide +kernel
theorem dX9_set_116 : decode cX9_set 116 = .ok (.aload_n 0, 1) := by decide +kernel
theorem dX9_set_117 : decode cX9_set 117 = .ok (.getfield 19, 3) := by decide +kernel
theorem dX9_set_120 : decode cX9_set 120 = .ok (.invokevirtual 132, 3) := by decide +kernel
theorem dX9_set_123 : decode cX9_set 123 = .ok (.ifCond .eq 13, 3) := by decide +kernel
theorem dX9_set_126 : decode cX9_set 126 = .ok (.new 136, 3) := by decide +kernel
theorem dX9_set_129 : decode cX9_set 129 = .ok (.dup, 1) := by decide +kernel
theorem dX9_set_130 : decode cX9_set 130 = .ok (.ldc 138, 2) := by decide +kernel
theorem dX9_set_132 : decode cX9_set 132 = .ok (.invokespecial 140, 3) := by decide +kernel
theorem dX9_set_135 : decode cX9_set 135 = .ok (.athrow, 1) := by decide +kernel
theorem dX9_set_136 : decode cX9_set 136 = .ok (.aload_n 0, 1) := by decide +kernel
theorem dX9_set_137 : decode cX9_set 137 = .ok (.iload_n 1, 1) := by decide +kernel
theorem dX9_set_138 : decode cX9_set 138 = .ok (.iload 5, 2) := by decide +kernel
theorem dX9_set_140 : decode cX9_set 140 = .ok (.iload 6, 2) := by decide +kernel
theorem dX9_set_142 : decode cX9_set 142 = .ok (.iload 4, 2) := by decide +kernel
theorem dX9_set_144 : decode cX9_set 144 = .ok (.invokevirtual 141, 3) := by decide +kernel
theorem dX9_set_147 : decode cX9_set 147 = .ok (.aload_n 0, 1) := by decide +kernel
theorem dX9_set_148 : decode cX9_set 148 = .ok (.getfield 62, 3) := by decide +kernel
theorem dX9_set_151 : decode cX9_set 151 = .ok (.invokevirtual 144, 3) := by decide +kernel
theorem dX9_set_154 : decode cX9_set 154 = .ok (.iload_n 1, 1) := by decide +kernel
theorem dX9_set_155 : decode cX9_set 155 = .ok (.iload 5, 2) := by decide +kernel
theorem dX9_set_157 : decode cX9_set 157 = .ok (.invokevirtual 148, 3) := by decide +kernel
theorem dX9_set_160 : decode cX9_set 160 = .ok (.ireturn, 1) := by decide +kernel
theorem dX9_cut_0 : decode cX9_cut 0 = .ok (.aload_n 0, 1) := by decide +kernel
theorem dX9_cut_1 : decode cX9_cut 1 = .ok (.iload_n 1, 1) := by decide +kernel
theorem dX9_cut_2 : decode cX9_cut 2 = .ok (.invokevirtual 98, 3) := by decide +kernel
theorem dX9_cut_5 : decode cX9_cut 5 = .ok (.aload_n 0, 1) := by decide +kernel
theorem dX9_cut_6 : decode cX9_cut 6 = .ok (.iload_n 2, 1) := by decide +kernel
theorem dX9_cut_7 : decode cX9_cut 7 = .ok (.invokevirtual 107, 3) := by decide +kernel
theorem dX9_cut_10 : decode cX9_cut 10 = .ok (.istore 4, 2) := by decide +kernel
theorem dX9_cut_12 : decode cX9_cut 12 = .ok (.aload_n 0, 1) := by decide +kernel
theorem dX9_cut_13 : decode cX9_cut 13 = .ok (.iload_n 3, 1) := by decide +kernel
theorem dX9_cut_14 : decode cX9_cut 14 = .ok (.invokevirtual 107, 3) := by decide +kernel
theorem dX9_cut_17 : decode cX9_cut 17 = .ok (.istore 5, 2) := by decide +kernel
theorem dX9_cut_19 : decode cX9_cut 19 = .ok (.aload_n 0, 1) := by decide +kernel
theorem dX9_cut_20 : decode cX9_cut 20 = .ok (.iload 4, 2) := by decide +kernel
theorem dX9_cut_22 : decode cX9_cut 22 = .ok (.aload_n 0, 1) := by decide +kernel
theorem dX9_cut_23 : decode cX9_cut 23 = .ok (.getfield 10, 3) := by decide +kernel
theorem dX9_cut_26 : decode cX9_cut 26 = .ok (.iload_n 1, 1) := by decide +kernel
theorem dX9_cut_27 : decode cX9_cut 27 = .ok (.invokevirtual 111, 3) := by decide +kernel
theorem dX9_cut_30 : decode cX9_cut 30 = .ok (.invokevirtual 114, 3) := by decide +kernel
theorem dX9_cut_33 : decode cX9_cut 33 = .ok (.aload_n 0, 1) := by decide +kernel
theorem dX9_cut_34 : decode cX9_cut 34 = .ok (.iload 5, 2) := by decide +kernel
theorem dX9_cut_36 : decode cX9_cut 36 = .ok (.aload_n 0, 1) := by decide +kernel
theorem dX9_cut_37 : decode cX9_cut 37 = .ok (.getfield 10, 3) := by decide +kernel
theorem dX9_cut_40 : decode cX9_cut 40 = .ok (.iload_n 1, 1) := by decide +kernel
theorem dX9_cut_41 : decode cX9_cut 41 = .ok (.invokevirtual 117, 3) := by decide +kernel
theorem dX9_cut_44 : decode cX9_cut 44 = .ok (.invokevirtual 114, 3) := by decide +kernel
theorem dX9_cut_47 : decode cX9_cut 47 = .ok (.aload_n 0, 1) := by decide +kernel
theorem dX9_cut_48 : decode cX9_cut 48 = .ok (.getfield 62, 3) := by decide +kernel
theorem dX9_cut_51 : decode cX9_cut 51 = .ok (.iload_n 1, 1) := by decide +kernel
theorem dX9_cut_52 : decode cX9_cut 52 = .ok (.iload 4, 2) := by decide +kernel
theorem dX9_cut_54 : decode cX9_cut 54 = .ok (.iload 5, 2) := by decide +kernel
theorem dX9_cut_56 : decode cX9_cut 56 = .ok (.invokevirtual 153, 3) := by decide +kernel
theorem dX9_cut_59 : decode cX9_cut 59 = .ok (.ifCond .eq 7, 3) := by decide +kernel
theorem dX9_cut_62 : decode cX9_cut 62 = .ok (.iconst 1, 1) := by decide +kernel
theorem dX9_cut_63 : decode cX9_cut 63 = .ok (.goto 4, 3) := by decide +kernel
theorem dX9_cut_66 : decode cX9_cut 66 = .ok (.iconst 0, 1) := by decide +kernel
theorem dX9_cut_67 : decode cX9_cut 67 = .ok (.ireturn, 1) := by decide +kernel
theorem dX9_drop_0 : decode cX9_drop 0 = .ok (.aload_n 0, 1) := by decide +kernel
theorem dX9_drop_1 : decode cX9_drop 1 = .ok (.iload_n 1, 1) := by decide +kernel
theorem dX9_drop_2 : decode cX9_drop 2 = .ok (.invokevirtual 107, 3) := by decide +kernel
theorem dX9_drop_5 : decode cX9_drop 5 = .ok (.istore_n 2, 1) := by decide +kernel
theorem dX9_drop_6 : decode cX9_drop 6 = .ok (.aload_n 0, 1) := by decide +kernel
theorem dX9_drop_7 : decode cX9_drop 7 = .ok (.getfield 37, 3) := by decide +kernel
theorem dX9_drop_10 : decode cX9_drop 10 = .ok (.aload_n 0, 1) := by decide +kernel
theorem dX9_drop_11 : decode cX9_drop 11 = .ok (.getfield 62, 3) := by decide +kernel
theorem dX9_drop_14 : decode cX9_drop 14 = .ok (.iload_n 2, 1) := by decide +kernel
theorem dX9_drop_15 : decode cX9_drop 15 = .ok (.invokevirtual 156, 3) := by decide +kernel
theorem dX9_drop_18 : decode cX9_drop 18 = .ok (.aload_n 0, 1) := by decide +kernel
theorem dX9_drop_19 : decode cX9_drop 19 = .ok (.getfield 37, 3) := by decide +kernel
theorem dX9_drop_22 : decode cX9_drop 22 = .ok (.aload_n 0, 1) := by decide +kernel
theorem dX9_drop_23 : decode cX9_drop 23 = .ok (.getfield 62, 3) := by decide +kernel
theorem dX9_drop_26 : decode cX9_drop 26 = .ok (.iload_n 2, 1) := by decide +kernel
theorem dX9_drop_27 : decode cX9_drop 27 = .ok (.invokevirtual 160, 3) := by decide +kernel
theorem dX9_drop_30 : decode cX9_drop 30 = .ok (.istore_n 3, 1) := by decide +kernel
theorem dX9_drop_31 : decode cX9_drop 31 = .ok (.iload_n 3, 1) := by decide +kernel
theorem dX9_drop_32 : decode cX9_drop 32 = .ok (.iconst (-1), 1) := by decide +kernel
theorem dX9_drop_33 : decode cX9_drop 33 = .ok (.if_icmp .eq 57, 3) := by decide +kernel
theorem dX9_drop_36 : decode cX9_drop 36 = .ok (.aload_n 0, 1) := by decide +kernel
theorem dX9_drop_37 : decode cX9_drop 37 = .ok (.getfield 28, 3) := by decide +kernel
theorem dX9_drop_40 : decode cX9_drop 40 = .ok (.aload_n 0, 1) := by decide +kernel
theorem dX9_drop_41 : decode cX9_drop 41 = .ok (.getfield 62, 3) := by decide +kernel
theorem dX9_drop_44 : decode cX9_drop 44 = .ok (.iload_n 2, 1) := by decide +kernel
theorem dX9_drop_45 : decode cX9_drop 45 = .ok (.iload_n 3, 1) := by decide +kernel
theorem dX9_drop_46 : decode cX9_drop 46 = .ok (.aload_n 0, 1) := by decide +kernel
theorem dX9_drop_47 : decode cX9_drop 47 = .ok (.getfield 19, 3) := by decide +kernel
theorem dX9_drop_50 : decode cX9_drop 50 = .ok (.invokevirtual 132, 3) := by decide +kernel
theorem dX9_drop_53 : decode cX9_drop 53 = .ok (.pop, 1) := by decide +kernel
theorem dX9_drop_54 : decode cX9_drop 54 = .ok (.aload_n 0, 1) := by decide +kernel
theorem dX9_drop_55 : decode cX9_drop 55 = .ok (.getfield 19, 3) := by decide +kernel
theorem dX9_drop_58 : decode cX9_drop 58 = .ok (.aload_n 0, 1) := by decide +kernel
theorem dX9_drop_59 : decode cX9_drop 59 = .ok (.getfield 62, 3) := by decide +kernel
theorem dX9_drop_62 : decode cX9_drop 62 = .ok (.aload_n 0, 1) := by decide +kernel
theorem dX9_drop_63 : decode cX9_drop 63 = .ok (.getfield 37, 3) := by decide +kernel
theorem dX9_drop_66 : decode cX9_drop 66 = .ok (.aload_n 0, 1) := by decide +kernel
theorem dX9_drop_67 : decode cX9_drop 67 = .ok (.getfield 62, 3) := by decide +kernel
theorem dX9_drop_70 : decode cX9_drop 70 = .ok (.iload_n 3, 1) := by decide +kernel
theorem dX9_drop_71 : decode cX9_drop 71 = .ok (.invokevirtual 164, 3) := by decide +kernel
theorem dX9_drop_74 : decode cX9_drop 74 = .ok (.invokevirtual 167, 3) := by decide +kernel
theorem dX9_drop_77 : decode cX9_drop 77 = .ok (.invokevirtual 170, 3) := by decide +kernel
theorem dX9_drop_80 : decode cX9_drop 80 = .ok (.new 74, 3) := by decide +kernel
theorem dX9_drop_83 : decode cX9_drop 83 = .ok (.dup, 1) := by decide +kernel
theorem dX9_drop_84 : decode cX9_drop 84 = .ok (.ldc 173, 2) := by decide +kernel
theorem dX9_drop_86 : decode cX9_drop 86 = .ok (.invokespecial 78, 3) := by decide +kernel
theorem dX9_drop_89 : decode cX9_drop 89 = .ok (.athrow, 1) := by decide +kernel
theorem dX9_drop_90 : decode cX9_drop 90 = .ok (.aload_n 0, 1) := by decide +kernel
theorem dX9_drop_91 : decode cX9_drop 91 = .ok (.getfield 37, 3) := by decide +kernel
theorem dX9_drop_94 : decode cX9_drop 94 = .ok (.aload_n 0, 1) := by decide +kernel
theorem dX9_drop_95 : decode cX9_drop 95 = .ok (.getfield 62, 3) := by decide +kernel
theorem dX9_drop_98 : decode cX9_drop 98 = .ok (.invokevirtual 175, 3) := by decide +kernel
theorem dX9_drop_101 : decode cX9_drop 101 = .ok (.ireturn, 1) := by decide +kernel
theorem dX9_copy_0 : decode cX9_copy 0 = .ok (.aload_n 0, 1) := by decide +kernel
theorem dX9_copy_1 : decode cX9_copy 1 = .ok (.iload_n 1, 1) := by decide +kernel
theorem dX9_copy_2 : decode cX9_copy 2 = .ok (.invokevirtual 107, 3) := by decide +kernel
theorem dX9_copy_5 : decode cX9_copy 5 = .ok (.istore_n 2, 1) := by decide +kernel
theorem dX9_copy_6 : decode cX9_copy 6 = .ok (.aload_n 0, 1) := by decide +kernel
theorem dX9_copy_7 : decode cX9_copy 7 = .ok (.getfield 44, 3) := by decide +kernel
theorem dX9_copy_10 : decode cX9_copy 10 = .ok (.aload_n 0, 1) := by decide +kernel
theorem dX9_copy_11 : decode cX9_copy 11 = .ok (.getfield 62, 3) := by decide +kernel
theorem dX9_copy_14 : decode cX9_copy 14 = .ok (.iload_n 2, 1) := by decide +kernel
theorem dX9_copy_15 : decode cX9_copy 15 = .ok (.invokevirtual 179, 3) := by decide +kernel
theorem dX9_copy_18 : decode cX9_copy 18 = .ok (.aload_n 0, 1) := by decide +kernel
theorem dX9_copy_19 : decode cX9_copy 19 = .ok (.getfield 44, 3) := by decide +kernel
theorem dX9_copy_22 : decode cX9_copy 22 = .ok (.aload_n 0, 1) := by decide +kernel
theorem dX9_copy_23 : decode cX9_copy 23 = .ok (.getfield 62, 3) := by decide +kernel
theorem dX9_copy_26 : decode cX9_copy 26 = .ok (.invokevirtual 180, 3) := by decide +kernel
theorem dX9_copy_29 : decode cX9_copy 29 = .ok (.ifCond .ne 13, 3) := by decide +kernel
theorem dX9_copy_32 : decode cX9_copy 32 = .ok (.new 74, 3) := by decide +kernel
theorem dX9_copy_35 : decode cX9_copy 35 = .ok (.dup, 1) := by decide +kernel
theorem dX9_copy_36 : decode cX9_copy 36 = .ok (.ldc 184, 2) := by decide +kernel
theorem dX9_copy_38 : decode cX9_copy 38 = .ok (.invokespecial 78, 3) := by decide +kernel
theorem dX9_copy_41 : decode cX9_copy 41 = .ok (.athrow, 1) := by decide +kernel
theorem dX9_copy_42 : decode cX9_copy 42 = .ok (.aload_n 0, 1) := by decide +kernel
theorem dX9_copy_43 : decode cX9_copy 43 = .ok (.aload_n 0, 1) := by decide +kernel
theorem dX9_copy_44 : decode cX9_copy 44 = .ok (.getfield 44, 3) := by decide +kernel
theorem dX9_copy_47 : decode cX9_copy 47 = .ok (.aload_n 0, 1) := by decide +kernel
theorem dX9_copy_48 : decode cX9_copy 48 = .ok (.getfield 62, 3) := by decide +kernel
theorem dX9_copy_51 : decode cX9_copy 51 = .ok (.aload_n 0, 1) := by decide +kernel
theorem dX9_copy_52 : decode cX9_copy 52 = .ok (.getfield 90, 3) := by decide +kernel
theorem dX9_copy_55 : decode cX9_copy 55 = .ok (.invokevirtual 186, 3) := by decide +kernel
theorem dX9_copy_58 : decode cX9_copy 58 = .ok (.putfield 90, 3) := by decide +kernel
theorem dX9_copy_61 : decode cX9_copy 61 = .ok (.aload_n 0, 1) := by decide +kernel
theorem dX9_copy_62 : decode cX9_copy 62 = .ok (.getfield 62, 3) := by decide +kernel
theorem dX9_copy_65 : decode cX9_copy 65 = .ok (.aload_n 0, 1) := by decide +kernel
theorem dX9_copy_66 : decode cX9_copy 66 = .ok (.getfield 44, 3) := by decide +kernel
theorem dX9_copy_69 : decode cX9_copy 69 = .ok (.iload_n 2, 1) := by decide +kernel
theorem dX9_copy_70 : decode cX9_copy 70 = .ok (.invokevirtual 189, 3) := by decide +kernel
theorem dX9_copy_73 : decode cX9_copy 73 = .ok (.invokevirtual 167, 3) := by decide +kernel
theorem dX9_copy_76 : decode cX9_copy 76 = .ok (.ireturn, 1) := by decide +kernel
theorem dX9_alike_0 : decode cX9_alike 0 = .ok (.aload_n 0, 1) := by decide +kernel
theorem dX9_alike_1 : decode cX9_alike 1 = .ok (.iload_n 1, 1) := by decide +kernel
theorem dX9_alike_2 : decode cX9_alike 2 = .ok (.invokevirtual 107, 3) := by decide +kernel
theorem dX9_alike_5 : decode cX9_alike 5 = .ok (.istore_n 3, 1) := by decide +kernel
theorem dX9_alike_6 : decode cX9_alike 6 = .ok (.aload_n 0, 1) := by decide +kernel
theorem dX9_alike_7 : decode cX9_alike 7 = .ok (.iload_n 2, 1) := by decide +kernel
theorem dX9_alike_8 : decode cX9_alike 8 = .ok (.invokevirtual 107, 3) := by decide +kernel
theorem dX9_alike_11 : decode cX9_alike 11 = .ok (.istore 4, 2) := by decide +kernel
theorem dX9_alike_13 : decode cX9_alike 13 = .ok (.aload_n 0, 1) := by decide +kernel
theorem dX9_alike_14 : decode cX9_alike 14 = .ok (.getfield 51, 3) := by decide +kernel
theorem dX9_alike_17 : decode cX9_alike 17 = .ok (.aload_n 0, 1) := by decide +kernel
theorem dX9_alike_18 : decode cX9_alike 18 = .ok (.getfield 62, 3) := by decide +kernel
theorem dX9_alike_21 : decode cX9_alike 21 = .ok (.iload_n 3, 1) := by decide +kernel
theorem dX9_alike_22 : decode cX9_alike 22 = .ok (.iload 4, 2) := by decide +kernel
theorem dX9_alike_24 : decode cX9_alike 24 = .ok (.invokevirtual 192, 3) := by decide +kernel
theorem dX9_alike_27 : decode cX9_alike 27 = .ok (.ireturn, 1) := by decide +kernel
theorem dX9_at_0 : decode cX9_at 0 = .ok (.aload_n 0, 1) := by decide +kernel
theorem dX9_at_1 : decode cX9_at 1 = .ok (.iload_n 1, 1) := by decide +kernel
theorem dX9_at_2 : decode cX9_at 2 = .ok (.invokevirtual 98, 3) := by decide +kernel
theorem dX9_at_5 : decode cX9_at 5 = .ok (.aload_n 0, 1) := by decide +kernel
theorem dX9_at_6 : decode cX9_at 6 = .ok (.iload_n 2, 1) := by decide +kernel
theorem dX9_at_7 : decode cX9_at 7 = .ok (.invokevirtual 107, 3) := by decide +kernel
theorem dX9_at_10 : decode cX9_at 10 = .ok (.istore 4, 2) := by decide +kernel
theorem dX9_at_12 : decode cX9_at 12 = .ok (.aload_n 0, 1) := by decide +kernel
theorem dX9_at_13 : decode cX9_at 13 = .ok (.iload 4, 2) := by decide +kernel
theorem dX9_at_15 : decode cX9_at 15 = .ok (.aload_n 0, 1) := by decide +kernel
theorem dX9_at_16 : decode cX9_at 16 = .ok (.getfield 10, 3) := by decide +kernel
theorem dX9_at_19 : decode cX9_at 19 = .ok (.iload_n 1, 1) := by decide +kernel
theorem dX9_at_20 : decode cX9_at 20 = .ok (.invokevirtual 111, 3) := by decide +kernel
theorem dX9_at_23 : decode cX9_at 23 = .ok (.invokevirtual 114, 3) := by decide +kernel
theorem dX9_at_26 : decode cX9_at 26 = .ok (.aload_n 0, 1) := by decide +kernel
theorem dX9_at_27 : decode cX9_at 27 = .ok (.aload_n 0, 1) := by decide +kernel
theorem dX9_at_28 : decode cX9_at 28 = .ok (.getfield 62, 3) := by decide +kernel
theorem dX9_at_31 : decode cX9_at 31 = .ok (.invokevirtual 144, 3) := by decide +kernel
theorem dX9_at_34 : decode cX9_at 34 = .ok (.iload_n 1, 1) := by decide +kernel
theorem dX9_at_35 : decode cX9_at 35 = .ok (.iload 4, 2) := by decide +kernel
theorem dX9_at_37 : decode cX9_at 37 = .ok (.iload_n 3, 1) := by decide +kernel
theorem dX9_at_38 : decode cX9_at 38 = .ok (.invokevirtual 196, 3) := by decide +kernel
theorem dX9_at_41 : decode cX9_at 41 = .ok (.ireturn, 1) := by decide +kernel
theorem dX9_back_0 : decode cX9_back 0 = .ok (.aload_n 0, 1) := by decide +kernel
theorem dX9_back_1 : decode cX9_back 1 = .ok (.iload_n 1, 1) := by decide +kernel
theorem dX9_back_2 : decode cX9_back 2 = .ok (.invokevirtual 98, 3) := by decide +kernel
theorem dX9_back_5 : decode cX9_back 5 = .ok (.aload_n 0, 1) := by decide +kernel
theorem dX9_back_6 : decode cX9_back 6 = .ok (.iload_n 2, 1) := by decide +kernel
theorem dX9_back_7 : decode cX9_back 7 = .ok (.invokevirtual 107, 3) := by decide +kernel
theorem dX9_back_10 : decode cX9_back 10 = .ok (.istore 4, 2) := by decide +kernel
theorem dX9_back_12 : decode cX9_back 12 = .ok (.aload_n 0, 1) := by decide +kernel
theorem dX9_back_13 : decode cX9_back 13 = .ok (.iload 4, 2) := by decide +kernel
theorem dX9_back_15 : decode cX9_back 15 = .ok (.aload_n 0, 1) := by decide +kernel
theorem dX9_back_16 : decode cX9_back 16 = .ok (.getfield 10, 3) := by decide +kernel
theorem dX9_back_19 : decode cX9_back 19 = .ok (.iload_n 1, 1) := by decide +kernel
theorem dX9_back_20 : decode cX9_back 20 = .ok (.invokevirtual 117, 3) := by decide +kernel
theorem dX9_back_23 : decode cX9_back 23 = .ok (.invokevirtual 114, 3) := by decide +kernel
theorem dX9_back_26 : decode cX9_back 26 = .ok (.aload_n 0, 1) := by decide +kernel
theorem dX9_back_27 : decode cX9_back 27 = .ok (.aload_n 0, 1) := by decide +kernel
theorem dX9_back_28 : decode cX9_back 28 = .ok (.getfield 62, 3) := by decide +kernel
theorem dX9_back_31 : decode cX9_back 31 = .ok (.invokevirtual 200, 3) := by decide +kernel
theorem dX9_back_34 : decode cX9_back 34 = .ok (.iload_n 1, 1) := by decide +kernel
theorem dX9_back_35 : decode cX9_back 35 = .ok (.iload 4, 2) := by decide +kernel
theorem dX9_back_37 : decode cX9_back 37 = .ok (.iload_n 3, 1) := by decide +kernel
theorem dX9_back_38 : decode cX9_back 38 = .ok (.invokevirtual 196, 3) := by decide +kernel
theorem dX9_back_41 : decode cX9_back 41 = .ok (.ireturn, 1) := by decide +kernel
theorem dX9_ask_0 : decode cX9_ask 0 = .ok (.iload_n 2, 1) := by decide +kernel
theorem dX9_ask_1 : decode cX9_ask 1 = .ok (.bipush 6, 2) := by decide +kernel
theorem dX9_ask_3 : decode cX9_ask 3 = .ok (.invokestatic 66, 3) := by decide +kernel
theorem dX9_ask_6 : decode cX9_ask 6 = .ok (.aload_n 0, 1) := by decide +kernel
theorem dX9_ask_7 : decode cX9_ask 7 = .ok (.iload_n 1, 1) := by decide +kernel
theorem dX9_ask_8 : decode cX9_ask 8 = .ok (.invokevirtual 107, 3) := by decide +kernel
theorem dX9_ask_11 : decode cX9_ask 11 = .ok (.istore_n 3, 1) := by decide +kernel
theorem dX9_ask_12 : decode cX9_ask 12 = .ok (.iload_n 2, 1) := by decide +kernel
theorem dX9_ask_13 : decode cX9_ask 13 = .ok (.tableswitch 102 0 4 #[35, 44, 60, 73, 86], 35) := by decide +kernel
theorem dX9_ask_48 : decode cX9_ask 48 = .ok (.aload_n 0, 1) := by decide +kernel
theorem dX9_ask_49 : decode cX9_ask 49 = .ok (.getfield 62, 3) := by decide +kernel
theorem dX9_ask_52 : decode cX9_ask 52 = .ok (.iload_n 3, 1) := by decide +kernel
theorem dX9_ask_53 : decode cX9_ask 53 = .ok (.invokevirtual 203, 3) := by decide +kernel
theorem dX9_ask_56 : decode cX9_ask 56 = .ok (.ireturn, 1) := by decide +kernel
theorem dX9_ask_57 : decode cX9_ask 57 = .ok (.aload_n 0, 1) := by decide +kernel
theorem dX9_ask_58 : decode cX9_ask 58 = .ok (.getfield 28, 3) := by decide +kernel
theorem dX9_ask_61 : decode cX9_ask 61 = .ok (.aload_n 0, 1) := by decide +kernel
theorem dX9_ask_62 : decode cX9_ask 62 = .ok (.getfield 62, 3) := by decide +kernel
theorem dX9_ask_65 : decode cX9_ask 65 = .ok (.invokevirtual 200, 3) := by decide +kernel
theorem dX9_ask_68 : decode cX9_ask 68 = .ok (.iload_n 3, 1) := by decide +kernel
theorem dX9_ask_69 : decode cX9_ask 69 = .ok (.invokevirtual 206, 3) := by decide +kernel
theorem dX9_ask_72 : decode cX9_ask 72 = .ok (.ireturn, 1) := by decide +kernel
theorem dX9_ask_73 : decode cX9_ask 73 = .ok (.aload_n 0, 1) := by decide +kernel
theorem dX9_ask_74 : decode cX9_ask 74 = .ok (.getfield 28, 3) := by decide +kernel
theorem dX9_ask_77 : decode cX9_ask 77 = .ok (.aload_n 0, 1) := by decide +kernel
theorem dX9_ask_78 : decode cX9_ask 78 = .ok (.getfield 62, 3) := by decide +kernel
theorem dX9_ask_81 : decode cX9_ask 81 = .ok (.iload_n 3, 1) := by decide +kernel
theorem dX9_ask_82 : decode cX9_ask 82 = .ok (.invokevirtual 210, 3) := by decide +kernel
theorem dX9_ask_85 : decode cX9_ask 85 = .ok (.ireturn, 1) := by decide +kernel
theorem dX9_ask_86 : decode cX9_ask 86 = .ok (.aload_n 0, 1) := by decide +kernel
theorem dX9_ask_87 : decode cX9_ask 87 = .ok (.getfield 28, 3) := by decide +kernel
theorem dX9_ask_90 : decode cX9_ask 90 = .ok (.aload_n 0, 1) := by decide +kernel
theorem dX9_ask_91 : decode cX9_ask 91 = .ok (.getfield 62, 3) := by decide +kernel
theorem dX9_ask_94 : decode cX9_ask 94 = .ok (.iload_n 3, 1) := by decide +kernel
theorem dX9_ask_95 : decode cX9_ask 95 = .ok (.invokevirtual 213, 3) := by decide +kernel
theorem dX9_ask_98 : decode cX9_ask 98 = .ok (.ireturn, 1) := by decide +kernel
theorem dX9_ask_99 : decode cX9_ask 99 = .ok (.aload_n 0, 1) := by decide +kernel
theorem dX9_ask_100 : decode cX9_ask 100 = .ok (.getfield 28, 3) := by decide +kernel
theorem dX9_ask_103 : decode cX9_ask 103 = .ok (.aload_n 0, 1) := by decide +kernel
theorem dX9_ask_104 : decode cX9_ask 104 = .ok (.getfield 62, 3) := by decide +kernel
theorem dX9_ask_107 : decode cX9_ask 107 = .ok (.invokevirtual 144, 3) := by decide +kernel
theorem dX9_ask_110 : decode cX9_ask 110 = .ok (.iload_n 3, 1) := by decide +kernel
theorem dX9_ask_111 : decode cX9_ask 111 = .ok (.invokevirtual 206, 3) := by decide +kernel
theorem dX9_ask_114 : decode cX9_ask 114 = .ok (.ireturn, 1) := by decide +kernel
theorem dX9_ask_115 : decode cX9_ask 115 = .ok (.aload_n 0, 1) := by decide +kernel
theorem dX9_ask_116 : decode cX9_ask 116 = .ok (.getfield 28, 3) := by decide +kernel
theorem dX9_ask_119 : decode cX9_ask 119 = .ok (.aload_n 0, 1) := by decide +kernel
theorem dX9_ask_120 : decode cX9_ask 120 = .ok (.getfield 62, 3) := by decide +kernel
theorem dX9_ask_123 : decode cX9_ask 123 = .ok (.iload_n 3, 1) := by decide +kernel
theorem dX9_ask_124 : decode cX9_ask 124 = .ok (.invokevirtual 216, 3) := by decide +kernel
theorem dX9_ask_127 : decode cX9_ask 127 = .ok (.ireturn, 1) := by decide +kernel
theorem dX9_size_0 : decode cX9_size 0 = .ok (.aload_n 0, 1) := by decide +kernel
theorem dX9_size_1 : decode cX9_size 1 = .ok (.iload_n 1, 1) := by decide +kernel
theorem dX9_size_2 : decode cX9_size 2 = .ok (.invokevirtual 98, 3) := by decide +kernel
theorem dX9_size_5 : decode cX9_size 5 = .ok (.iload_n 3, 1) := by decide +kernel
theorem dX9_size_6 : decode cX9_size 6 = .ok (.iconst 2, 1) := by decide +kernel
theorem dX9_size_7 : decode cX9_size 7 = .ok (.invokestatic 66, 3) := by decide +kernel
theorem dX9_size_10 : decode cX9_size 10 = .ok (.aload_n 0, 1) := by decide +kernel
theorem dX9_size_11 : decode cX9_size 11 = .ok (.iload_n 2, 1) := by decide +kernel
theorem dX9_size_12 : decode cX9_size 12 = .ok (.invokevirtual 107, 3) := by decide +kernel
theorem dX9_size_15 : decode cX9_size 15 = .ok (.istore 4, 2) := by decide +kernel
theorem dX9_size_17 : decode cX9_size 17 = .ok (.aload_n 0, 1) := by decide +kernel
theorem dX9_size_18 : decode cX9_size 18 = .ok (.iload 4, 2) := by decide +kernel
theorem dX9_size_20 : decode cX9_size 20 = .ok (.iload_n 3, 1) := by decide +kernel
theorem dX9_size_21 : decode cX9_size 21 = .ok (.ifCond .ne 14, 3) := by decide +kernel
theorem dX9_size_24 : decode cX9_size 24 = .ok (.aload_n 0, 1) := by decide +kernel
theorem dX9_size_25 : decode cX9_size 25 = .ok (.getfield 10, 3) := by decide +kernel
theorem dX9_size_28 : decode cX9_size 28 = .ok (.iload_n 1, 1) := by decide +kernel
theorem dX9_size_29 : decode cX9_size 29 = .ok (.invokevirtual 111, 3) := by decide +kernel
theorem dX9_size_32 : decode cX9_size 32 = .ok (.goto 11, 3) := by decide +kernel
theorem dX9_size_35 : decode cX9_size 35 = .ok (.aload_n 0, 1) := by decide +kernel
theorem dX9_size_36 : decode cX9_size 36 = .ok (.getfield 10, 3) := by decide +kernel
theorem dX9_size_39 : decode cX9_size 39 = .ok (.iload_n 1, 1) := by decide +kernel
theorem dX9_size_40 : decode cX9_size 40 = .ok (.invokevirtual 117, 3) := by decide +kernel
theorem dX9_size_43 : decode cX9_size 43 = .ok (.invokevirtual 114, 3) := by decide +kernel
theorem dX9_size_46 : decode cX9_size 46 = .ok (.iload_n 3, 1) := by decide +kernel
theorem dX9_size_47 : decode cX9_size 47 = .ok (.ifCond .ne 13, 3) := by decide +kernel
theorem dX9_size_50 : decode cX9_size 50 = .ok (.aload_n 0, 1) := by decide +kernel
theorem dX9_size_51 : decode cX9_size 51 = .ok (.getfield 62, 3) := by decide +kernel
theorem dX9_size_54 : decode cX9_size 54 = .ok (.invokevirtual 144, 3) := by decide +kernel
theorem dX9_size_57 : decode cX9_size 57 = .ok (.goto 10, 3) := by decide +kernel
theorem dX9_size_60 : decode cX9_size 60 = .ok (.aload_n 0, 1) := by decide +kernel
theorem dX9_size_61 : decode cX9_size 61 = .ok (.getfield 62, 3) := by decide +kernel
theorem dX9_size_64 : decode cX9_size 64 = .ok (.invokevirtual 200, 3) := by decide +kernel
theorem dX9_size_67 : decode cX9_size 67 = .ok (.astore 5, 2) := by decide +kernel
theorem dX9_size_69 : decode cX9_size 69 = .ok (.aload 5, 2) := by decide +kernel
theorem dX9_size_71 : decode cX9_size 71 = .ok (.iload_n 1, 1) := by decide +kernel
theorem dX9_size_72 : decode cX9_size 72 = .ok (.iload 4, 2) := by decide +kernel
theorem dX9_size_74 : decode cX9_size 74 = .ok (.invokevirtual 148, 3) := by decide +kernel
theorem dX9_size_77 : decode cX9_size 77 = .ok (.ireturn, 1) := by decide +kernel
theorem dX9_way_0 : decode cX9_way 0 = .ok (.aload_n 0, 1) := by decide +kernel
theorem dX9_way_1 : decode cX9_way 1 = .ok (.iload_n 1, 1) := by decide +kernel
theorem dX9_way_2 : decode cX9_way 2 = .ok (.invokevirtual 107, 3) := by decide +kernel
theorem dX9_way_5 : decode cX9_way 5 = .ok (.istore_n 3, 1) := by decide +kernel
theorem dX9_way_6 : decode cX9_way 6 = .ok (.aload_n 0, 1) := by decide +kernel
theorem dX9_way_7 : decode cX9_way 7 = .ok (.iload_n 2, 1) := by decide +kernel
theorem dX9_way_8 : decode cX9_way 8 = .ok (.invokevirtual 107, 3) := by decide +kernel
theorem dX9_way_11 : decode cX9_way 11 = .ok (.istore 4, 2) := by decide +kernel
theorem dX9_way_13 : decode cX9_way 13 = .ok (.aload_n 0, 1) := by decide +kernel
theorem dX9_way_14 : decode cX9_way 14 = .ok (.getfield 28, 3) := by decide +kernel
theorem dX9_way_17 : decode cX9_way 17 = .ok (.aload_n 0, 1) := by decide +kernel
theorem dX9_way_18 : decode cX9_way 18 = .ok (.getfield 62, 3) := by decide +kernel
theorem dX9_way_21 : decode cX9_way 21 = .ok (.iload_n 3, 1) := by decide +kernel
theorem dX9_way_22 : decode cX9_way 22 = .ok (.iload 4, 2) := by decide +kernel
theorem dX9_way_24 : decode cX9_way 24 = .ok (.aload_n 0, 1) := by decide +kernel
theorem dX9_way_25 : decode cX9_way 25 = .ok (.getfield 19, 3) := by decide +kernel
theorem dX9_way_28 : decode cX9_way 28 = .ok (.invokevirtual 132, 3) := by decide +kernel
theorem dX9_way_31 : decode cX9_way 31 = .ok (.ifCond .ne 10, 3) := by decide +kernel
theorem dX9_way_34 : decode cX9_way 34 = .ok (.aload_n 0, 1) := by decide +kernel
theorem dX9_way_35 : decode cX9_way 35 = .ok (.getfield 19, 3) := by decide +kernel
theorem dX9_way_38 : decode cX9_way 38 = .ok (.invokevirtual 219, 3) := by decide +kernel
theorem dX9_way_41 : decode cX9_way 41 = .ok (.aload_n 0, 1) := by decide +kernel
theorem dX9_way_42 : decode cX9_way 42 = .ok (.getfield 19, 3) := by decide +kernel
theorem dX9_way_45 : decode cX9_way 45 = .ok (.invokevirtual 222, 3) := by decide +kernel
theorem dX9_way_48 : decode cX9_way 48 = .ok (.iconst 1, 1) := by decide +kernel
theorem dX9_way_49 : decode cX9_way 49 = .ok (.isub, 1) := by decide +kernel
theorem dX9_way_50 : decode cX9_way 50 = .ok (.ireturn, 1) := by decide +kernel
theorem dX9_path_0 : decode cX9_path 0 = .ok (.iload_n 1, 1) := by decide +kernel
theorem dX9_path_1 : decode cX9_path 1 = .ok (.ifCond .lt 14, 3) := by decide +kernel
theorem dX9_path_4 : decode cX9_path 4 = .ok (.iload_n 1, 1) := by decide +kernel
theorem dX9_path_5 : decode cX9_path 5 = .ok (.aload_n 0, 1) := by decide +kernel
theorem dX9_path_6 : decode cX9_path 6 = .ok (.getfield 19, 3) := by decide +kernel
theorem dX9_path_9 : decode cX9_path 9 = .ok (.invokevirtual 222, 3) := by decide +kernel
theorem dX9_path_12 : decode cX9_path 12 = .ok (.if_icmp .lt 13, 3) := by decide +kernel
theorem dX9_path_15 : decode cX9_path 15 = .ok (.new 225, 3) := by decide +kernel
theorem dX9_path_18 : decode cX9_path 18 = .ok (.dup, 1) := by decide +kernel
theorem dX9_path_19 : decode cX9_path 19 = .ok (.ldc 227, 2) := by decide +kernel
theorem dX9_path_21 : decode cX9_path 21 = .ok (.invokespecial 229, 3) := by decide +kernel
theorem dX9_path_24 : decode cX9_path 24 = .ok (.athrow, 1) := by decide +kernel
theorem dX9_path_25 : decode cX9_path 25 = .ok (.aload_n 0, 1) := by decide +kernel
theorem dX9_path_26 : decode cX9_path 26 = .ok (.getfield 19, 3) := by decide +kernel
theorem dX9_path_29 : decode cX9_path 29 = .ok (.iload_n 1, 1) := by decide +kernel
theorem dX9_path_30 : decode cX9_path 30 = .ok (.invokevirtual 230, 3) := by decide +kernel
theorem dX9_path_33 : decode cX9_path 33 = .ok (.ireturn, 1) := by decide +kernel
theorem dX9_begin_0 : decode cX9_begin 0 = .ok (.aload_n 0, 1) := by decide +kernel
theorem dX9_begin_1 : decode cX9_begin 1 = .ok (.getfield 233, 3) := by decide +kernel
theorem dX9_begin_4 : decode cX9_begin 4 = .ok (.bipush 12, 2) := by decide +kernel
theorem dX9_begin_6 : decode cX9_begin 6 = .ok (.if_icmp .lt 13, 3) := by decide +kernel
theorem dX9_begin_9 : decode cX9_begin 9 = .ok (.new 74, 3) := by decide +kernel
theorem dX9_begin_12 : decode cX9_begin 12 = .ok (.dup, 1) := by decide +kernel
theorem dX9_begin_13 : decode cX9_begin 13 = .ok (.ldc 236, 2) := by decide +kernel
theorem dX9_begin_15 : decode cX9_begin 15 = .ok (.invokespecial 78, 3) := by decide +kernel
theorem dX9_begin_18 : decode cX9_begin 18 = .ok (.athrow, 1) := by decide +kernel
theorem dX9_begin_19 : decode cX9_begin 19 = .ok (.aload_n 0, 1) := by decide +kernel
theorem dX9_begin_20 : decode cX9_begin 20 = .ok (.getfield 57, 3) := by decide +kernel
theorem dX9_begin_23 : decode cX9_begin 23 = .ok (.aload_n 0, 1) := by decide +kernel
theorem dX9_begin_24 : decode cX9_begin 24 = .ok (.getfield 233, 3) := by decide +kernel
theorem dX9_begin_27 : decode cX9_begin 27 = .ok (.aaload, 1) := by decide +kernel
theorem dX9_begin_28 : decode cX9_begin 28 = .ok (.astore_n 1, 1) := by decide +kernel
theorem dX9_begin_29 : decode cX9_begin 29 = .ok (.aload_n 1, 1) := by decide +kernel
theorem dX9_begin_30 : decode cX9_begin 30 = .ok (.ifnonnull 21, 3) := by decide +kernel
theorem dX9_begin_33 : decode cX9_begin 33 = .ok (.new 55, 3) := by decide +kernel
theorem dX9_begin_36 : decode cX9_begin 36 = .ok (.dup, 1) := by decide +kernel
theorem dX9_begin_37 : decode cX9_begin 37 = .ok (.invokespecial 61, 3) := by decide +kernel
theorem dX9_begin_40 : decode cX9_begin 40 = .ok (.astore_n 1, 1) := by decide +kernel
theorem dX9_begin_41 : decode cX9_begin 41 = .ok (.aload_n 0, 1) := by decide +kernel
theorem dX9_begin_42 : decode cX9_begin 42 = .ok (.getfield 57, 3) := by decide +kernel
theorem dX9_begin_45 : decode cX9_begin 45 = .ok (.aload_n 0, 1) := by decide +kernel
theorem dX9_begin_46 : decode cX9_begin 46 = .ok (.getfield 233, 3) := by decide +kernel
theorem dX9_begin_49 : decode cX9_begin 49 = .ok (.aload_n 1, 1) := by decide +kernel
theorem dX9_begin_50 : decode cX9_begin 50 = .ok (.aastore, 1) := by decide +kernel
theorem dX9_begin_51 : decode cX9_begin 51 = .ok (.aload_n 1, 1) := by decide +kernel
theorem dX9_begin_52 : decode cX9_begin 52 = .ok (.aload_n 0, 1) := by decide +kernel
theorem dX9_begin_53 : decode cX9_begin 53 = .ok (.getfield 62, 3) := by decide +kernel
theorem dX9_begin_56 : decode cX9_begin 56 = .ok (.invokevirtual 238, 3) := by decide +kernel
theorem dX9_begin_59 : decode cX9_begin 59 = .ok (.aload_n 0, 1) := by decide +kernel
theorem dX9_begin_60 : decode cX9_begin 60 = .ok (.dup, 1) := by decide +kernel
theorem dX9_begin_61 : decode cX9_begin 61 = .ok (.getfield 233, 3) := by decide +kernel
theorem dX9_begin_64 : decode cX9_begin 64 = .ok (.iconst 1, 1) := by decide +kernel
theorem dX9_begin_65 : decode cX9_begin 65 = .ok (.iadd, 1) := by decide +kernel
theorem dX9_begin_66 : decode cX9_begin 66 = .ok (.putfield 233, 3) := by decide +kernel
theorem dX9_begin_69 : decode cX9_begin 69 = .ok (.aload_n 0, 1) := by decide +kernel
theorem dX9_begin_70 : decode cX9_begin 70 = .ok (.getfield 233, 3) := by decide +kernel
theorem dX9_begin_73 : decode cX9_begin 73 = .ok (.ireturn, 1) := by decide +kernel
theorem dX9_end_0 : decode cX9_end 0 = .ok (.aload_n 0, 1) := by decide +kernel
theorem dX9_end_1 : decode cX9_end 1 = .ok (.getfield 233, 3) := by decide +kernel
theorem dX9_end_4 : decode cX9_end 4 = .ok (.ifCond .gt 13, 3) := by decide +kernel
theorem dX9_end_7 : decode cX9_end 7 = .ok (.new 74, 3) := by decide +kernel
theorem dX9_end_10 : decode cX9_end 10 = .ok (.dup, 1) := by decide +kernel
theorem dX9_end_11 : decode cX9_end 11 = .ok (.ldc 242, 2) := by decide +kernel
theorem dX9_end_13 : decode cX9_end 13 = .ok (.invokespecial 78, 3) := by decide +kernel
theorem dX9_end_16 : decode cX9_end 16 = .ok (.athrow, 1) := by decide +kernel
theorem dX9_end_17 : decode cX9_end 17 = .ok (.aload_n 0, 1) := by decide +kernel
theorem dX9_end_18 : decode cX9_end 18 = .ok (.dup, 1) := by decide +kernel
theorem dX9_end_19 : decode cX9_end 19 = .ok (.getfield 233, 3) := by decide +kernel
theorem dX9_end_22 : decode cX9_end 22 = .ok (.iconst 1, 1) := by decide +kernel
theorem dX9_end_23 : decode cX9_end 23 = .ok (.isub, 1) := by decide +kernel
theorem dX9_end_24 : decode cX9_end 24 = .ok (.putfield 233, 3) := by decide +kernel
theorem dX9_end_27 : decode cX9_end 27 = .ok (.aload_n 0, 1) := by decide +kernel
theorem dX9_end_28 : decode cX9_end 28 = .ok (.getfield 57, 3) := by decide +kernel
theorem dX9_end_31 : decode cX9_end 31 = .ok (.aload_n 0, 1) := by decide +kernel
theorem dX9_end_32 : decode cX9_end 32 = .ok (.getfield 233, 3) := by decide +kernel
theorem dX9_end_35 : decode cX9_end 35 = .ok (.aaload, 1) := by decide +kernel
theorem dX9_end_36 : decode cX9_end 36 = .ok (.astore_n 2, 1) := by decide +kernel
theorem dX9_end_37 : decode cX9_end 37 = .ok (.iload_n 1, 1) := by decide +kernel
theorem dX9_end_38 : decode cX9_end 38 = .ok (.ifCond .ne 25, 3) := by decide +kernel
theorem dX9_end_41 : decode cX9_end 41 = .ok (.aload_n 2, 1) := by decide +kernel
theorem dX9_end_42 : decode cX9_end 42 = .ok (.ifnull 21, 3) := by decide +kernel
theorem dX9_end_45 : decode cX9_end 45 = .ok (.aload_n 0, 1) := by decide +kernel
theorem dX9_end_46 : decode cX9_end 46 = .ok (.getfield 57, 3) := by decide +kernel
theorem dX9_end_49 : decode cX9_end 49 = .ok (.aload_n 0, 1) := by decide +kernel
theorem dX9_end_50 : decode cX9_end 50 = .ok (.getfield 233, 3) := by decide +kernel
theorem dX9_end_53 : decode cX9_end 53 = .ok (.aload_n 0, 1) := by decide +kernel
theorem dX9_end_54 : decode cX9_end 54 = .ok (.getfield 62, 3) := by decide +kernel
theorem dX9_end_57 : decode cX9_end 57 = .ok (.aastore, 1) := by decide +kernel
theorem dX9_end_58 : decode cX9_end 58 = .ok (.aload_n 0, 1) := by decide +kernel
theorem dX9_end_59 : decode cX9_end 59 = .ok (.aload_n 2, 1) := by decide +kernel
theorem dX9_end_60 : decode cX9_end 60 = .ok (.putfield 62, 3) := by decide +kernel
theorem dX9_end_63 : decode cX9_end 63 = .ok (.aload_n 0, 1) := by decide +kernel
theorem dX9_end_64 : decode cX9_end 64 = .ok (.getfield 233, 3) := by decide +kernel
theorem dX9_end_67 : decode cX9_end 67 = .ok (.ireturn, 1) := by decide +kernel
theorem dX9_count_0 : decode cX9_count 0 = .ok (.iload_n 1, 1) := by decide +kernel
theorem dX9_count_1 : decode cX9_count 1 = .ok (.bipush 6, 2) := by decide +kernel
theorem dX9_count_3 : decode cX9_count 3 = .ok (.invokestatic 66, 3) := by decide +kernel
theorem dX9_count_6 : decode cX9_count 6 = .ok (.iload_n 1, 1) := by decide +kernel
theorem dX9_count_7 : decode cX9_count 7 = .ok (.tableswitch 67 0 4 #[33, 41, 49, 54, 59], 33) := by decide +kernel
theorem dX9_count_40 : decode cX9_count 40 = .ok (.aload_n 0, 1) := by decide +kernel
theorem dX9_count_41 : decode cX9_count 41 = .ok (.getfield 10, 3) := by decide +kernel
theorem dX9_count_44 : decode cX9_count 44 = .ok (.invokevirtual 70, 3) := by decide +kernel
theorem dX9_count_47 : decode cX9_count 47 = .ok (.ireturn, 1) := by decide +kernel
theorem dX9_count_48 : decode cX9_count 48 = .ok (.aload_n 0, 1) := by decide +kernel
theorem dX9_count_49 : decode cX9_count 49 = .ok (.getfield 62, 3) := by decide +kernel
theorem dX9_count_52 : decode cX9_count 52 = .ok (.invokevirtual 85, 3) := by decide +kernel
theorem dX9_count_55 : decode cX9_count 55 = .ok (.ireturn, 1) := by decide +kernel
theorem dX9_count_56 : decode cX9_count 56 = .ok (.aload_n 0, 1) := by decide +kernel
theorem dX9_count_57 : decode cX9_count 57 = .ok (.getfield 90, 3) := by decide +kernel
theorem dX9_count_60 : decode cX9_count 60 = .ok (.ireturn, 1) := by decide +kernel
theorem dX9_count_61 : decode cX9_count 61 = .ok (.aload_n 0, 1) := by decide +kernel
theorem dX9_count_62 : decode cX9_count 62 = .ok (.getfield 233, 3) := by decide +kernel
theorem dX9_count_65 : decode cX9_count 65 = .ok (.ireturn, 1) := by decide +kernel
theorem dX9_count_66 : decode cX9_count 66 = .ok (.aload_n 0, 1) := by decide +kernel
theorem dX9_count_67 : decode cX9_count 67 = .ok (.getfield 19, 3) := by decide +kernel
theorem dX9_count_70 : decode cX9_count 70 = .ok (.invokevirtual 222, 3) := by decide +kernel
theorem dX9_count_73 : decode cX9_count 73 = .ok (.ireturn, 1) := by decide +kernel
theorem dX9_count_74 : decode cX9_count 74 = .ok (.aload_n 0, 1) := by decide +kernel
theorem dX9_count_75 : decode cX9_count 75 = .ok (.getfield 62, 3) := by decide +kernel
theorem dX9_count_78 : decode cX9_count 78 = .ok (.invokevirtual 244, 3) := by decide +kernel
theorem dX9_count_81 : decode cX9_count 81 = .ok (.ireturn, 1) := by decide +kernel
theorem dX9_needBelow_0 : decode cX9_needBelow 0 = .ok (.iload_n 0, 1) := by decide +kernel
theorem dX9_needBelow_1 : decode cX9_needBelow 1 = .ok (.ifCond .lt 8, 3) := by decide +kernel
theorem dX9_needBelow_4 : decode cX9_needBelow 4 = .ok (.iload_n 0, 1) := by decide +kernel
theorem dX9_needBelow_5 : decode cX9_needBelow 5 = .ok (.iload_n 1, 1) := by decide +kernel
theorem dX9_needBelow_6 : decode cX9_needBelow 6 = .ok (.if_icmp .lt 13, 3) := by decide +kernel
theorem dX9_needBelow_9 : decode cX9_needBelow 9 = .ok (.new 102, 3) := by decide +kernel
theorem dX9_needBelow_12 : decode cX9_needBelow 12 = .ok (.dup, 1) := by decide +kernel
theorem dX9_needBelow_13 : decode cX9_needBelow 13 = .ok (.ldc 247, 2) := by decide +kernel
theorem dX9_needBelow_15 : decode cX9_needBelow 15 = .ok (.invokespecial 106, 3) := by decide +kernel
theorem dX9_needBelow_18 : decode cX9_needBelow 18 = .ok (.athrow, 1) := by decide +kernel
theorem dX9_needBelow_19 : decode cX9_needBelow 19 = .ok (.return_, 1) := by decide +kernel
theorem dX9_needLink_0 : decode cX9_needLink 0 = .ok (.aload_n 0, 1) := by decide +kernel
theorem dX9_needLink_1 : decode cX9_needLink 1 = .ok (.getfield 10, 3) := by decide +kernel
theorem dX9_needLink_4 : decode cX9_needLink 4 = .ok (.iload_n 1, 1) := by decide +kernel
theorem dX9_needLink_5 : decode cX9_needLink 5 = .ok (.invokevirtual 249, 3) := by decide +kernel
theorem dX9_needLink_8 : decode cX9_needLink 8 = .ok (.ifCond .ne 13, 3) := by decide +kernel
theorem dX9_needLink_11 : decode cX9_needLink 11 = .ok (.new 102, 3) := by decide +kernel
theorem dX9_needLink_14 : decode cX9_needLink 14 = .ok (.dup, 1) := by decide +kernel
theorem dX9_needLink_15 : decode cX9_needLink 15 = .ok (.ldc 253, 2) := by decide +kernel
theorem dX9_needLink_17 : decode cX9_needLink 17 = .ok (.invokespecial 106, 3) := by decide +kernel
theorem dX9_needLink_20 : decode cX9_needLink 20 = .ok (.athrow, 1) := by decide +kernel
theorem dX9_needLink_21 : decode cX9_needLink 21 = .ok (.return_, 1) := by decide +kernel
theorem dX9_slotThere_0 : decode cX9_slotThere 0 = .ok (.aload_n 0, 1) := by decide +kernel
theorem dX9_slotThere_1 : decode cX9_slotThere 1 = .ok (.getfield 62, 3) := by decide +kernel
theorem dX9_slotThere_4 : decode cX9_slotThere 4 = .ok (.iload_n 1, 1) := by decide +kernel
theorem dX9_slotThere_5 : decode cX9_slotThere 5 = .ok (.invokevirtual 255, 3) := by decide +kernel
theorem dX9_slotThere_8 : decode cX9_slotThere 8 = .ok (.istore_n 2, 1) := by decide +kernel
theorem dX9_slotThere_9 : decode cX9_slotThere 9 = .ok (.iload_n 2, 1) := by decide +kernel
theorem dX9_slotThere_10 : decode cX9_slotThere 10 = .ok (.iconst (-1), 1) := by decide +kernel
theorem dX9_slotThere_11 : decode cX9_slotThere 11 = .ok (.if_icmp .ne 14, 3) := by decide +kernel
theorem dX9_slotThere_14 : decode cX9_slotThere 14 = .ok (.new 258, 3) := by decide +kernel
theorem dX9_slotThere_17 : decode cX9_slotThere 17 = .ok (.dup, 1) := by decide +kernel
theorem dX9_slotThere_18 : decode cX9_slotThere 18 = .ok (.ldc_w 260, 3) := by decide +kernel
theorem dX9_slotThere_21 : decode cX9_slotThere 21 = .ok (.invokespecial 262, 3) := by decide +kernel
theorem dX9_slotThere_24 : decode cX9_slotThere 24 = .ok (.athrow, 1) := by decide +kernel
theorem dX9_slotThere_25 : decode cX9_slotThere 25 = .ok (.iload_n 2, 1) := by decide +kernel
theorem dX9_slotThere_26 : decode cX9_slotThere 26 = .ok (.ireturn, 1) := by decide +kernel
theorem dX9_needKind_0 : decode cX9_needKind 0 = .ok (.aload_n 0, 1) := by decide +kernel
theorem dX9_needKind_1 : decode cX9_needKind 1 = .ok (.getfield 62, 3) := by decide +kernel
theorem dX9_needKind_4 : decode cX9_needKind 4 = .ok (.iload_n 1, 1) := by decide +kernel
theorem dX9_needKind_5 : decode cX9_needKind 5 = .ok (.invokevirtual 203, 3) := by decide +kernel
theorem dX9_needKind_8 : decode cX9_needKind 8 = .ok (.iload_n 2, 1) := by decide +kernel
theorem dX9_needKind_9 : decode cX9_needKind 9 = .ok (.if_icmp .eq 14, 3) := by decide +kernel
theorem dX9_needKind_12 : decode cX9_needKind 12 = .ok (.new 263, 3) := by decide +kernel
theorem dX9_needKind_15 : decode cX9_needKind 15 = .ok (.dup, 1) := by decide +kernel
theorem dX9_needKind_16 : decode cX9_needKind 16 = .ok (.ldc_w 265, 3) := by decide +kernel
theorem dX9_needKind_19 : decode cX9_needKind 19 = .ok (.invokespecial 267, 3) := by decide +kernel
theorem dX9_needKind_22 : decode cX9_needKind 22 = .ok (.athrow, 1) := by decide +kernel
theorem dX9_needKind_23 : decode cX9_needKind 23 = .ok (.return_, 1) := by decide +kernel
theorem dX9_numberInRow_0 : decode cX9_numberInRow 0 = .ok (.aload_n 1, 1) := by decide +kernel
theorem dX9_numberInRow_1 : decode cX9_numberInRow 1 = .ok (.iload_n 2, 1) := by decide +kernel
theorem dX9_numberInRow_2 : decode cX9_numberInRow 2 = .ok (.iload_n 3, 1) := by decide +kernel
theorem dX9_numberInRow_3 : decode cX9_numberInRow 3 = .ok (.iload 4, 2) := by decide +kernel
theorem dX9_numberInRow_5 : decode cX9_numberInRow 5 = .ok (.invokevirtual 268, 3) := by decide +kernel
theorem dX9_numberInRow_8 : decode cX9_numberInRow 8 = .ok (.istore 5, 2) := by decide +kernel
theorem dX9_numberInRow_10 : decode cX9_numberInRow 10 = .ok (.iload 5, 2) := by decide +kernel
theorem dX9_numberInRow_12 : decode cX9_numberInRow 12 = .ok (.iconst (-1), 1) := by decide +kernel
theorem dX9_numberInRow_13 : decode cX9_numberInRow 13 = .ok (.if_icmp .ne 14, 3) := by decide +kernel
theorem dX9_numberInRow_16 : decode cX9_numberInRow 16 = .ok (.new 225, 3) := by decide +kernel
theorem dX9_numberInRow_19 : decode cX9_numberInRow 19 = .ok (.dup, 1) := by decide +kernel
theorem dX9_numberInRow_20 : decode cX9_numberInRow 20 = .ok (.ldc_w 271, 3) := by decide +kernel
theorem dX9_numberInRow_23 : decode cX9_numberInRow 23 = .ok (.invokespecial 229, 3) := by decide +kernel
theorem dX9_numberInRow_26 : decode cX9_numberInRow 26 = .ok (.athrow, 1) := by decide +kernel
theorem dX9_numberInRow_27 : decode cX9_numberInRow 27 = .ok (.aload_n 0, 1) := by decide +kernel
theorem dX9_numberInRow_28 : decode cX9_numberInRow 28 = .ok (.getfield 62, 3) := by decide +kernel
theorem dX9_numberInRow_31 : decode cX9_numberInRow 31 = .ok (.iload 5, 2) := by decide +kernel
theorem dX9_numberInRow_33 : decode cX9_numberInRow 33 = .ok (.invokevirtual 167, 3) := by decide +kernel
theorem dX9_numberInRow_36 : decode cX9_numberInRow 36 = .ok (.ireturn, 1) := by decide +kernel
theorem dX9_moveInRow_0 : decode cX9_moveInRow 0 = .ok (.aload_n 0, 1) := by decide +kernel
theorem dX9_moveInRow_1 : decode cX9_moveInRow 1 = .ok (.getfield 62, 3) := by decide +kernel
theorem dX9_moveInRow_4 : decode cX9_moveInRow 4 = .ok (.invokevirtual 144, 3) := by decide +kernel
theorem dX9_moveInRow_7 : decode cX9_moveInRow 7 = .ok (.iload_n 1, 1) := by decide +kernel
theorem dX9_moveInRow_8 : decode cX9_moveInRow 8 = .ok (.iload_n 2, 1) := by decide +kernel
theorem dX9_moveInRow_9 : decode cX9_moveInRow 9 = .ok (.invokevirtual 148, 3) := by decide +kernel
theorem dX9_moveInRow_12 : decode cX9_moveInRow 12 = .ok (.iconst 1, 1) := by decide +kernel
theorem dX9_moveInRow_13 : decode cX9_moveInRow 13 = .ok (.isub, 1) := by decide +kernel
theorem dX9_moveInRow_14 : decode cX9_moveInRow 14 = .ok (.istore 5, 2) := by decide +kernel
theorem dX9_moveInRow_16 : decode cX9_moveInRow 16 = .ok (.iload 4, 2) := by decide +kernel
theorem dX9_moveInRow_18 : decode cX9_moveInRow 18 = .ok (.iload 5, 2) := by decide +kernel
theorem dX9_moveInRow_20 : decode cX9_moveInRow 20 = .ok (.if_icmp .le 14, 3) := by decide +kernel
theorem dX9_moveInRow_23 : decode cX9_moveInRow 23 = .ok (.new 225, 3) := by decide +kernel
theorem dX9_moveInRow_26 : decode cX9_moveInRow 26 = .ok (.dup, 1) := by decide +kernel
theorem dX9_moveInRow_27 : decode cX9_moveInRow 27 = .ok (.ldc_w 273, 3) := by decide +kernel
theorem dX9_moveInRow_30 : decode cX9_moveInRow 30 = .ok (.invokespecial 229, 3) := by decide +kernel
theorem dX9_moveInRow_33 : decode cX9_moveInRow 33 = .ok (.athrow, 1) := by decide +kernel
theorem dX9_moveInRow_34 : decode cX9_moveInRow 34 = .ok (.aload_n 0, 1) := by decide +kernel
theorem dX9_moveInRow_35 : decode cX9_moveInRow 35 = .ok (.getfield 62, 3) := by decide +kernel
theorem dX9_moveInRow_38 : decode cX9_moveInRow 38 = .ok (.invokevirtual 144, 3) := by decide +kernel
theorem dX9_moveInRow_41 : decode cX9_moveInRow 41 = .ok (.iload_n 1, 1) := by decide +kernel
theorem dX9_moveInRow_42 : decode cX9_moveInRow 42 = .ok (.iload_n 2, 1) := by decide +kernel
theorem dX9_moveInRow_43 : decode cX9_moveInRow 43 = .ok (.iload_n 3, 1) := by decide +kernel
theorem dX9_moveInRow_44 : decode cX9_moveInRow 44 = .ok (.invokevirtual 275, 3) := by decide +kernel
theorem dX9_moveInRow_47 : decode cX9_moveInRow 47 = .ok (.pop, 1) := by decide +kernel
theorem dX9_moveInRow_48 : decode cX9_moveInRow 48 = .ok (.aload_n 0, 1) := by decide +kernel
theorem dX9_moveInRow_49 : decode cX9_moveInRow 49 = .ok (.getfield 62, 3) := by decide +kernel
theorem dX9_moveInRow_52 : decode cX9_moveInRow 52 = .ok (.invokevirtual 144, 3) := by decide +kernel
theorem dX9_moveInRow_55 : decode cX9_moveInRow 55 = .ok (.iload_n 1, 1) := by decide +kernel
theorem dX9_moveInRow_56 : decode cX9_moveInRow 56 = .ok (.iload_n 2, 1) := by decide +kernel
theorem dX9_moveInRow_57 : decode cX9_moveInRow 57 = .ok (.iload 4, 2) := by decide +kernel
theorem dX9_moveInRow_59 : decode cX9_moveInRow 59 = .ok (.iconst (-1), 1) := by decide +kernel
theorem dX9_moveInRow_60 : decode cX9_moveInRow 60 = .ok (.if_icmp .ne 8, 3) := by decide +kernel
theorem dX9_moveInRow_63 : decode cX9_moveInRow 63 = .ok (.iload 5, 2) := by decide +kernel
theorem dX9_moveInRow_65 : decode cX9_moveInRow 65 = .ok (.goto 5, 3) := by decide +kernel
theorem dX9_moveInRow_68 : decode cX9_moveInRow 68 = .ok (.iload 4, 2) := by decide +kernel
theorem dX9_moveInRow_70 : decode cX9_moveInRow 70 = .ok (.iload_n 3, 1) := by decide +kernel
theorem dX9_moveInRow_71 : decode cX9_moveInRow 71 = .ok (.invokevirtual 278, 3) := by decide +kernel
theorem dX9_moveInRow_74 : decode cX9_moveInRow 74 = .ok (.return_, 1) := by decide +kernel
theorem dX9_joinNew_0 : decode cX9_joinNew 0 = .ok (.aload_n 0, 1) := by decide +kernel
theorem dX9_joinNew_1 : decode cX9_joinNew 1 = .ok (.getfield 10, 3) := by decide +kernel
theorem dX9_joinNew_4 : decode cX9_joinNew 4 = .ok (.iload_n 1, 1) := by decide +kernel
theorem dX9_joinNew_5 : decode cX9_joinNew 5 = .ok (.iconst 0, 1) := by decide +kernel
theorem dX9_joinNew_6 : decode cX9_joinNew 6 = .ok (.invokevirtual 281, 3) := by decide +kernel
theorem dX9_joinNew_9 : decode cX9_joinNew 9 = .ok (.istore 5, 2) := by decide +kernel
theorem dX9_joinNew_11 : decode cX9_joinNew 11 = .ok (.aload_n 0, 1) := by decide +kernel
theorem dX9_joinNew_12 : decode cX9_joinNew 12 = .ok (.getfield 10, 3) := by decide +kernel
theorem dX9_joinNew_15 : decode cX9_joinNew 15 = .ok (.iload_n 1, 1) := by decide +kernel
theorem dX9_joinNew_16 : decode cX9_joinNew 16 = .ok (.iconst 2, 1) := by decide +kernel
theorem dX9_joinNew_17 : decode cX9_joinNew 17 = .ok (.invokevirtual 281, 3) := by decide +kernel
theorem dX9_joinNew_20 : decode cX9_joinNew 20 = .ok (.istore 6, 2) := by decide +kernel
theorem dX9_joinNew_22 : decode cX9_joinNew 22 = .ok (.iload 5, 2) := by decide +kernel
theorem dX9_joinNew_24 : decode cX9_joinNew 24 = .ok (.ifCond .eq 7, 3) := by decide +kernel
theorem dX9_joinNew_27 : decode cX9_joinNew 27 = .ok (.iconst 0, 1) := by decide +kernel
theorem dX9_joinNew_28 : decode cX9_joinNew 28 = .ok (.goto 15, 3) := by decide +kernel
theorem dX9_joinNew_31 : decode cX9_joinNew 31 = .ok (.aload_n 0, 1) := by decide +kernel
theorem dX9_joinNew_32 : decode cX9_joinNew 32 = .ok (.getfield 62, 3) := by decide +kernel
theorem dX9_joinNew_35 : decode cX9_joinNew 35 = .ok (.invokevirtual 144, 3) := by decide +kernel
theorem dX9_joinNew_38 : decode cX9_joinNew 38 = .ok (.iload_n 1, 1) := by decide +kernel
theorem dX9_joinNew_39 : decode cX9_joinNew 39 = .ok (.iload_n 2, 1) := by decide +kernel
theorem dX9_joinNew_40 : decode cX9_joinNew 40 = .ok (.invokevirtual 148, 3) := by decide +kernel
theorem dX9_joinNew_43 : decode cX9_joinNew 43 = .ok (.istore 7, 2) := by decide +kernel
theorem dX9_joinNew_45 : decode cX9_joinNew 45 = .ok (.iload 6, 2) := by decide +kernel
theorem dX9_joinNew_47 : decode cX9_joinNew 47 = .ok (.ifCond .eq 18, 3) := by decide +kernel
theorem dX9_joinNew_50 : decode cX9_joinNew 50 = .ok (.aload_n 0, 1) := by decide +kernel
theorem dX9_joinNew_51 : decode cX9_joinNew 51 = .ok (.getfield 62, 3) := by decide +kernel
theorem dX9_joinNew_54 : decode cX9_joinNew 54 = .ok (.invokevirtual 200, 3) := by decide +kernel
theorem dX9_joinNew_57 : decode cX9_joinNew 57 = .ok (.iload_n 1, 1) := by decide +kernel
theorem dX9_joinNew_58 : decode cX9_joinNew 58 = .ok (.iload_n 3, 1) := by decide +kernel
theorem dX9_joinNew_59 : decode cX9_joinNew 59 = .ok (.invokevirtual 148, 3) := by decide +kernel
theorem dX9_joinNew_62 : decode cX9_joinNew 62 = .ok (.goto 4, 3) := by decide +kernel
theorem dX9_joinNew_65 : decode cX9_joinNew 65 = .ok (.iconst 0, 1) := by decide +kernel
theorem dX9_joinNew_66 : decode cX9_joinNew 66 = .ok (.istore 8, 2) := by decide +kernel
theorem dX9_joinNew_68 : decode cX9_joinNew 68 = .ok (.iload 4, 2) := by decide +kernel
theorem dX9_joinNew_70 : decode cX9_joinNew 70 = .ok (.iload 7, 2) := by decide +kernel
theorem dX9_joinNew_72 : decode cX9_joinNew 72 = .ok (.if_icmp .le 14, 3) := by decide +kernel
theorem dX9_joinNew_75 : decode cX9_joinNew 75 = .ok (.new 225, 3) := by decide +kernel
theorem dX9_joinNew_78 : decode cX9_joinNew 78 = .ok (.dup, 1) := by decide +kernel
theorem dX9_joinNew_79 : decode cX9_joinNew 79 = .ok (.ldc_w 273, 3) := by decide +kernel
theorem dX9_joinNew_82 : decode cX9_joinNew 82 = .ok (.invokespecial 229, 3) := by decide +kernel
theorem dX9_joinNew_85 : decode cX9_joinNew 85 = .ok (.athrow, 1) := by decide +kernel
theorem dX9_joinNew_86 : decode cX9_joinNew 86 = .ok (.iload 7, 2) := by decide +kernel
theorem dX9_joinNew_88 : decode cX9_joinNew 88 = .ok (.bipush 12, 2) := by decide +kernel
theorem dX9_joinNew_90 : decode cX9_joinNew 90 = .ok (.if_icmp .ge 10, 3) := by decide +kernel
theorem dX9_joinNew_93 : decode cX9_joinNew 93 = .ok (.iload 8, 2) := by decide +kernel
theorem dX9_joinNew_95 : decode cX9_joinNew 95 = .ok (.bipush 12, 2) := by decide +kernel
theorem dX9_joinNew_97 : decode cX9_joinNew 97 = .ok (.if_icmp .lt 14, 3) := by decide +kernel
theorem dX9_joinNew_100 : decode cX9_joinNew 100 = .ok (.new 74, 3) := by decide +kernel
theorem dX9_joinNew_103 : decode cX9_joinNew 103 = .ok (.dup, 1) := by decide +kernel
theorem dX9_joinNew_104 : decode cX9_joinNew 104 = .ok (.ldc_w 284, 3) := by decide +kernel
theorem dX9_joinNew_107 : decode cX9_joinNew 107 = .ok (.invokespecial 78, 3) := by decide +kernel
theorem dX9_joinNew_110 : decode cX9_joinNew 110 = .ok (.athrow, 1) := by decide +kernel
theorem dX9_joinNew_111 : decode cX9_joinNew 111 = .ok (.iload 5, 2) := by decide +kernel
theorem dX9_joinNew_113 : decode cX9_joinNew 113 = .ok (.ifCond .eq 26, 3) := by decide +kernel
theorem dX9_joinNew_116 : decode cX9_joinNew 116 = .ok (.aload_n 0, 1) := by decide +kernel
theorem dX9_joinNew_117 : decode cX9_joinNew 117 = .ok (.getfield 62, 3) := by decide +kernel
theorem dX9_joinNew_120 : decode cX9_joinNew 120 = .ok (.iload_n 1, 1) := by decide +kernel
theorem dX9_joinNew_121 : decode cX9_joinNew 121 = .ok (.iload_n 2, 1) := by decide +kernel
theorem dX9_joinNew_122 : decode cX9_joinNew 122 = .ok (.aload_n 0, 1) := by decide +kernel
theorem dX9_joinNew_123 : decode cX9_joinNew 123 = .ok (.getfield 62, 3) := by decide +kernel
theorem dX9_joinNew_126 : decode cX9_joinNew 126 = .ok (.invokevirtual 144, 3) := by decide +kernel
theorem dX9_joinNew_129 : decode cX9_joinNew 129 = .ok (.iload_n 1, 1) := by decide +kernel
theorem dX9_joinNew_130 : decode cX9_joinNew 130 = .ok (.iload_n 2, 1) := by decide +kernel
theorem dX9_joinNew_131 : decode cX9_joinNew 131 = .ok (.iconst 0, 1) := by decide +kernel
theorem dX9_joinNew_132 : decode cX9_joinNew 132 = .ok (.invokevirtual 268, 3) := by decide +kernel
theorem dX9_joinNew_135 : decode cX9_joinNew 135 = .ok (.invokevirtual 153, 3) := by decide +kernel
theorem dX9_joinNew_138 : decode cX9_joinNew 138 = .ok (.pop, 1) := by decide +kernel
theorem dX9_joinNew_139 : decode cX9_joinNew 139 = .ok (.iload 6, 2) := by decide +kernel
theorem dX9_joinNew_141 : decode cX9_joinNew 141 = .ok (.ifCond .ne 26, 3) := by decide +kernel
theorem dX9_joinNew_144 : decode cX9_joinNew 144 = .ok (.aload_n 0, 1) := by decide +kernel
theorem dX9_joinNew_145 : decode cX9_joinNew 145 = .ok (.getfield 62, 3) := by decide +kernel
theorem dX9_joinNew_148 : decode cX9_joinNew 148 = .ok (.iload_n 1, 1) := by decide +kernel
theorem dX9_joinNew_149 : decode cX9_joinNew 149 = .ok (.aload_n 0, 1) := by decide +kernel
theorem dX9_joinNew_150 : decode cX9_joinNew 150 = .ok (.getfield 62, 3) := by decide +kernel
theorem dX9_joinNew_153 : decode cX9_joinNew 153 = .ok (.invokevirtual 200, 3) := by decide +kernel
theorem dX9_joinNew_156 : decode cX9_joinNew 156 = .ok (.iload_n 1, 1) := by decide +kernel
theorem dX9_joinNew_157 : decode cX9_joinNew 157 = .ok (.iload_n 3, 1) := by decide +kernel
theorem dX9_joinNew_158 : decode cX9_joinNew 158 = .ok (.iconst 0, 1) := by decide +kernel
theorem dX9_joinNew_159 : decode cX9_joinNew 159 = .ok (.invokevirtual 268, 3) := by decide +kernel
theorem dX9_joinNew_162 : decode cX9_joinNew 162 = .ok (.iload_n 3, 1) := by decide +kernel
theorem dX9_joinNew_163 : decode cX9_joinNew 163 = .ok (.invokevirtual 153, 3) := by decide +kernel
theorem dX9_joinNew_166 : decode cX9_joinNew 166 = .ok (.pop, 1) := by decide +kernel
theorem dX9_joinNew_167 : decode cX9_joinNew 167 = .ok (.aload_n 0, 1) := by decide +kernel
theorem dX9_joinNew_168 : decode cX9_joinNew 168 = .ok (.getfield 62, 3) := by decide +kernel
theorem dX9_joinNew_171 : decode cX9_joinNew 171 = .ok (.iload_n 1, 1) := by decide +kernel
theorem dX9_joinNew_172 : decode cX9_joinNew 172 = .ok (.iload_n 2, 1) := by decide +kernel
theorem dX9_joinNew_173 : decode cX9_joinNew 173 = .ok (.iload_n 3, 1) := by decide +kernel
theorem dX9_joinNew_174 : decode cX9_joinNew 174 = .ok (.iload 4, 2) := by decide +kernel
theorem dX9_joinNew_176 : decode cX9_joinNew 176 = .ok (.iconst (-1), 1) := by decide +kernel
theorem dX9_joinNew_177 : decode cX9_joinNew 177 = .ok (.if_icmp .ne 8, 3) := by decide +kernel
theorem dX9_joinNew_180 : decode cX9_joinNew 180 = .ok (.iload 7, 2) := by decide +kernel
theorem dX9_joinNew_182 : decode cX9_joinNew 182 = .ok (.goto 5, 3) := by decide +kernel
theorem dX9_joinNew_185 : decode cX9_joinNew 185 = .ok (.iload 4, 2) := by decide +kernel
theorem dX9_joinNew_187 : decode cX9_joinNew 187 = .ok (.invokevirtual 286, 3) := by decide +kernel
theorem dX9_joinNew_190 : decode cX9_joinNew 190 = .ok (.return_, 1) := by decide +kernel
