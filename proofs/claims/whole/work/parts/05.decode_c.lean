theorem dX9_copy_26 : decode cX9_copy 26 = .ok (.invokevirtual 180, 3) := by decide +kernel
theorem dX9_copy_29 : decode cX9_copy 29 = .ok (.ifCond .ne 13, 3) := by decide +kernel
theorem dX9_copy_32 : decode cX9_copy 32 = .ok (.new 74, 3) := by decide +kernel
theorem dX9_copy_35 : decode cX9_copy 35 = .ok (.dup, 1) := by decide +kernel
theorem dX9_copy_36 : decode cX9_copy 36 = .ok (.ldc 184, 2) := by decide +kernel
theorem dX9_copy_38 : decode cX9_copy 38 = .ok (.invokespecial 78, 3) := by decide +kernel
theorem dX9_copy_41 : decode cX9_copy 41 = .ok (.athrow, 1) := by decide +kernel
theorem dX9_copy_42 : decode cX9_copy 42 = .ok (.aload_n 0, 1) := by decide +kernel
theorem dX9_copy_43 : decode cX9_copy 43 = .ok (.aload_n 0, 1) := by decide +kernel
theorem dX9_copy_44 : decode cX9_copy 44 = .ok (.getfield 44, 3) := by decide +kernel
theorem dX9_copy_47 : decode cX9_copy 47 = .ok (.aload_n 0, 1) := by decide +kernel
theorem dX9_copy_48 : decode cX9_copy 48 = .ok (.getfield 62, 3) := by decide +kernel
theorem dX9_copy_51 : decode cX9_copy 51 = .ok (.aload_n 0, 1) := by decide +kernel
theorem dX9_copy_52 : decode cX9_copy 52 = .ok (.getfield 90, 3) := by decide +kernel
theorem dX9_copy_55 : decode cX9_copy 55 = .ok (.invokevirtual 186, 3) := by decide +kernel
theorem dX9_copy_58 : decode cX9_copy 58 = .ok (.putfield 90, 3) := by decide +kernel
theorem dX9_copy_61 : decode cX9_copy 61 = .ok (.aload_n 0, 1) := by decide +kernel
theorem dX9_copy_62 : decode cX9_copy 62 = .ok (.getfield 62, 3) := by decide +kernel
theorem dX9_copy_65 : decode cX9_copy 65 = .ok (.aload_n 0, 1) := by decide +kernel
theorem dX9_copy_66 : decode cX9_copy 66 = .ok (.getfield 44, 3) := by decide +kernel
theorem dX9_copy_69 : decode cX9_copy 69 = .ok (.iload_n 2, 1) := by decide +kernel
theorem dX9_copy_70 : decode cX9_copy 70 = .ok (.invokevirtual 189, 3) := by decide +kernel
theorem dX9_copy_73 : decode cX9_copy 73 = .ok (.invokevirtual 167, 3) := by decide +kernel
theorem dX9_copy_76 : decode cX9_copy 76 = .ok (.ireturn, 1) := by decide +kernel
theorem dX9_alike_0 : decode cX9_alike 0 = .ok (.aload_n 0, 1) := by decide +kernel
theorem dX9_alike_1 : decode cX9_alike 1 = .ok (.iload_n 1, 1) := by decide +kernel
theorem dX9_alike_2 : decode cX9_alike 2 = .ok (.invokevirtual 107, 3) := by decide +kernel
theorem dX9_alike_5 : decode cX9_alike 5 = .ok (.istore_n 3, 1) := by decide +kernel
theorem dX9_alike_6 : decode cX9_alike 6 = .ok (.aload_n 0, 1) := by decide +kernel
theorem dX9_alike_7 : decode cX9_alike 7 = .ok (.iload_n 2, 1) := by decide +kernel
theorem dX9_alike_8 : decode cX9_alike 8 = .ok (.invokevirtual 107, 3) := by decide +kernel
theorem dX9_alike_11 : decode cX9_alike 11 = .ok (.istore 4, 2) := by decide +kernel
theorem dX9_alike_13 : decode cX9_alike 13 = .ok (.aload_n 0, 1) := by decide +kernel
theorem dX9_alike_14 : decode cX9_alike 14 = .ok (.getfield 51, 3) := by decide +kernel
theorem dX9_alike_17 : decode cX9_alike 17 = .ok (.aload_n 0, 1) := by decide +kernel
theorem dX9_alike_18 : decode cX9_alike 18 = .ok (.getfield 62, 3) := by decide +kernel
theorem dX9_alike_21 : decode cX9_alike 21 = .ok (.iload_n 3, 1) := by decide +kernel
theorem dX9_alike_22 : decode cX9_alike 22 = .ok (.iload 4, 2) := by decide +kernel
theorem dX9_alike_24 : decode cX9_alike 24 = .ok (.invokevirtual 192, 3) := by decide +kernel
theorem dX9_alike_27 : decode cX9_alike 27 = .ok (.ireturn, 1) := by decide +kernel
theorem dX9_at_0 : decode cX9_at 0 = .ok (.aload_n 0, 1) := by decide +kernel
theorem dX9_at_1 : decode cX9_at 1 = .ok (.iload_n 1, 1) := by decide +kernel
theorem dX9_at_2 : decode cX9_at 2 = .ok (.invokevirtual 98, 3) := by decide +kernel
theorem dX9_at_5 : decode cX9_at 5 = .ok (.aload_n 0, 1) := by decide +kernel
theorem dX9_at_6 : decode cX9_at 6 = .ok (.iload_n 2, 1) := by decide +kernel
theorem dX9_at_7 : decode cX9_at 7 = .ok (.invokevirtual 107, 3) := by decide +kernel
theorem dX9_at_10 : decode cX9_at 10 = .ok (.istore 4, 2) := by decide +kernel
theorem dX9_at_12 : decode cX9_at 12 = .ok (.aload_n 0, 1) := by decide +kernel
theorem dX9_at_13 : decode cX9_at 13 = .ok (.iload 4, 2) := by decide +kernel
theorem dX9_at_15 : decode cX9_at 15 = .ok (.aload_n 0, 1) := by decide +kernel
theorem dX9_at_16 : decode cX9_at 16 = .ok (.getfield 10, 3) := by decide +kernel
theorem dX9_at_19 : decode cX9_at 19 = .ok (.iload_n 1, 1) := by decide +kernel
theorem dX9_at_20 : decode cX9_at 20 = .ok (.invokevirtual 111, 3) := by decide +kernel
theorem dX9_at_23 : decode cX9_at 23 = .ok (.invokevirtual 114, 3) := by decide +kernel
theorem dX9_at_26 : decode cX9_at 26 = .ok (.aload_n 0, 1) := by decide +kernel
theorem dX9_at_27 : decode cX9_at 27 = .ok (.aload_n 0, 1) := by decide +kernel
theorem dX9_at_28 : decode cX9_at 28 = .ok (.getfield 62, 3) := by decide +kernel
theorem dX9_at_31 : decode cX9_at 31 = .ok (.invokevirtual 144, 3) := by decide +kernel
theorem dX9_at_34 : decode cX9_at 34 = .ok (.iload_n 1, 1) := by decide +kernel
theorem dX9_at_35 : decode cX9_at 35 = .ok (.iload 4, 2) := by decide +kernel
theorem dX9_at_37 : decode cX9_at 37 = .ok (.iload_n 3, 1) := by decide +kernel
theorem dX9_at_38 : decode cX9_at 38 = .ok (.invokevirtual 196, 3) := by decide +kernel
theorem dX9_at_41 : decode cX9_at 41 = .ok (.ireturn, 1) := by decide +kernel
theorem dX9_back_0 : decode cX9_back 0 = .ok (.aload_n 0, 1) := by decide +kernel
theorem dX9_back_1 : decode cX9_back 1 = .ok (.iload_n 1, 1) := by decide +kernel
theorem dX9_back_2 : decode cX9_back 2 = .ok (.invokevirtual 98, 3) := by decide +kernel
theorem dX9_back_5 : decode cX9_back 5 = .ok (.aload_n 0, 1) := by decide +kernel
theorem dX9_back_6 : decode cX9_back 6 = .ok (.iload_n 2, 1) := by decide +kernel
theorem dX9_back_7 : decode cX9_back 7 = .ok (.invokevirtual 107, 3) := by decide +kernel
theorem dX9_back_10 : decode cX9_back 10 = .ok (.istore 4, 2) := by decide +kernel
theorem dX9_back_12 : decode cX9_back 12 = .ok (.aload_n 0, 1) := by decide +kernel
theorem dX9_back_13 : decode cX9_back 13 = .ok (.iload 4, 2) := by decide +kernel
theorem dX9_back_15 : decode cX9_back 15 = .ok (.aload_n 0, 1) := by decide +kernel
theorem dX9_back_16 : decode cX9_back 16 = .ok (.getfield 10, 3) := by decide +kernel
theorem dX9_back_19 : decode cX9_back 19 = .ok (.iload_n 1, 1) := by decide +kernel
theorem dX9_back_20 : decode cX9_back 20 = .ok (.invokevirtual 117, 3) := by decide +kernel
theorem dX9_back_23 : decode cX9_back 23 = .ok (.invokevirtual 114, 3) := by decide +kernel
theorem dX9_back_26 : decode cX9_back 26 = .ok (.aload_n 0, 1) := by decide +kernel
theorem dX9_back_27 : decode cX9_back 27 = .ok (.aload_n 0, 1) := by decide +kernel
theorem dX9_back_28 : decode cX9_back 28 = .ok (.getfield 62, 3) := by decide +kernel
theorem dX9_back_31 : decode cX9_back 31 = .ok (.invokevirtual 200, 3) := by decide +kernel
theorem dX9_back_34 : decode cX9_back 34 = .ok (.iload_n 1, 1) := by decide +kernel
theorem dX9_back_35 : decode cX9_back 35 = .ok (.iload 4, 2) := by decide +kernel
theorem dX9_back_37 : decode cX9_back 37 = .ok (.iload_n 3, 1) := by decide +kernel
theorem dX9_back_38 : decode cX9_back 38 = .ok (.invokevirtual 196, 3) := by decide +kernel
theorem dX9_back_41 : decode cX9_back 41 = .ok (.ireturn, 1) := by decide +kernel
theorem dX9_ask_0 : decode cX9_ask 0 = .ok (.iload_n 2, 1) := by decide +kernel
theorem dX9_ask_1 : decode cX9_ask 1 = .ok (.bipush 6, 2) := by decide +kernel
theorem dX9_ask_3 : decode cX9_ask 3 = .ok (.invokestatic 66, 3) := by decide +kernel
theorem dX9_ask_6 : decode cX9_ask 6 = .ok (.aload_n 0, 1) := by decide +kernel
theorem dX9_ask_7 : decode cX9_ask 7 = .ok (.iload_n 1, 1) := by decide +kernel
theorem dX9_ask_8 : decode cX9_ask 8 = .ok (.invokevirtual 107, 3) := by decide +kernel
theorem dX9_ask_11 : decode cX9_ask 11 = .ok (.istore_n 3, 1) := by decide +kernel
theorem dX9_ask_12 : decode cX9_ask 12 = .ok (.iload_n 2, 1) := by decide +kernel
theorem dX9_ask_13 : decode cX9_ask 13 = .ok (.tableswitch 102 0 4 #[35, 44, 60, 73, 86], 35) := by decide +kernel
theorem dX9_ask_48 : decode cX9_ask 48 = .ok (.aload_n 0, 1) := by decide +kernel
theorem dX9_ask_49 : decode cX9_ask 49 = .ok (.getfield 62, 3) := by decide +kernel
theorem dX9_ask_52 : decode cX9_ask 52 = .ok (.iload_n 3, 1) := by decide +kernel
theorem dX9_ask_53 : decode cX9_ask 53 = .ok (.invokevirtual 203, 3) := by decide +kernel
theorem dX9_ask_56 : decode cX9_ask 56 = .ok (.ireturn, 1) := by decide +kernel
theorem dX9_ask_57 : decode cX9_ask 57 = .ok (.aload_n 0, 1) := by decide +kernel
theorem dX9_ask_58 : decode cX9_ask 58 = .ok (.getfield 28, 3) := by decide +kernel
theorem dX9_ask_61 : decode cX9_ask 61 = .ok (.aload_n 0, 1) := by decide +kernel
theorem dX9_ask_62 : decode cX9_ask 62 = .ok (.getfield 62, 3) := by decide +kernel
theorem dX9_ask_65 : decode cX9_ask 65 = .ok (.invokevirtual 200, 3) := by decide +kernel
theorem dX9_ask_68 : decode cX9_ask 68 = .ok (.iload_n 3, 1) := by decide +kernel
theorem dX9_ask_69 : decode cX9_ask 69 = .ok (.invokevirtual 206, 3) := by decide +kernel
theorem dX9_ask_72 : decode cX9_ask 72 = .ok (.ireturn, 1) := by decide +kernel
theorem dX9_ask_73 : decode cX9_ask 73 = .ok (.aload_n 0, 1) := by decide +kernel
theorem dX9_ask_74 : decode cX9_ask 74 = .ok (.getfield 28, 3) := by decide +kernel
theorem dX9_ask_77 : decode cX9_ask 77 = .ok (.aload_n 0, 1) := by decide +kernel
theorem dX9_ask_78 : decode cX9_ask 78 = .ok (.getfield 62, 3) := by decide +kernel
theorem dX9_ask_81 : decode cX9_ask 81 = .ok (.iload_n 3, 1) := by decide +kernel
theorem dX9_ask_82 : decode cX9_ask 82 = .ok (.invokevirtual 210, 3) := by decide +kernel
theorem dX9_ask_85 : decode cX9_ask 85 = .ok (.ireturn, 1) := by decide +kernel
theorem dX9_ask_86 : decode cX9_ask 86 = .ok (.aload_n 0, 1) := by decide +kernel
theorem dX9_ask_87 : decode cX9_ask 87 = .ok (.getfield 28, 3) := by decide +kernel
theorem dX9_ask_90 : decode cX9_ask 90 = .ok (.aload_n 0, 1) := by decide +kernel
theorem dX9_ask_91 : decode cX9_ask 91 = .ok (.getfield 62, 3) := by decide +kernel
theorem dX9_ask_94 : decode cX9_ask 94 = .ok (.iload_n 3, 1) := by decide +kernel
theorem dX9_ask_95 : decode cX9_ask 95 = .ok (.invokevirtual 213, 3) := by decide +kernel
theorem dX9_ask_98 : decode cX9_ask 98 = .ok (.ireturn, 1) := by decide +kernel
theorem dX9_ask_99 : decode cX9_ask 99 = .ok (.aload_n 0, 1) := by decide +kernel
theorem dX9_ask_100 : decode cX9_ask 100 = .ok (.getfield 28, 3) := by decide +kernel
theorem dX9_ask_103 : decode cX9_ask 103 = .ok (.aload_n 0, 1) := by decide +kernel
theorem dX9_ask_104 : decode cX9_ask 104 = .ok (.getfield 62, 3) := by decide +kernel
theorem dX9_ask_107 : decode cX9_ask 107 = .ok (.invokevirtual 144, 3) := by decide +kernel
theorem dX9_ask_110 : decode cX9_ask 110 = .ok (.iload_n 3, 1) := by decide +kernel
theorem dX9_ask_111 : decode cX9_ask 111 = .ok (.invokevirtual 206, 3) := by decide +kernel
theorem dX9_ask_114 : decode cX9_ask 114 = .ok (.ireturn, 1) := by decide +kernel
theorem dX9_ask_115 : decode cX9_ask 115 = .ok (.aload_n 0, 1) := by decide +kernel
theorem dX9_ask_116 : decode cX9_ask 116 = .ok (.getfield 28, 3) := by decide +kernel
theorem dX9_ask_119 : decode cX9_ask 119 = .ok (.aload_n 0, 1) := by decide +kernel
theorem dX9_ask_120 : decode cX9_ask 120 = .ok (.getfield 62, 3) := by decide +kernel
theorem dX9_ask_123 : decode cX9_ask 123 = .ok (.iload_n 3, 1) := by decide +kernel
theorem dX9_ask_124 : decode cX9_ask 124 = .ok (.invokevirtual 216, 3) := by decide +kernel
theorem dX9_ask_127 : decode cX9_ask 127 = .ok (.ireturn, 1) := by decide +kernel
theorem dX9_size_0 : decode cX9_size 0 = .ok (.aload_n 0, 1) := by decide +kernel
theorem dX9_size_1 : decode cX9_size 1 = .ok (.iload_n 1, 1) := by decide +kernel
theorem dX9_size_2 : decode cX9_size 2 = .ok (.invokevirtual 98, 3) := by decide +kernel
theorem dX9_size_5 : decode cX9_size 5 = .ok (.iload_n 3, 1) := by decide +kernel
theorem dX9_size_6 : decode cX9_size 6 = .ok (.iconst 2, 1) := by decide +kernel
theorem dX9_size_7 : decode cX9_size 7 = .ok (.invokestatic 66, 3) := by decide +kernel
theorem dX9_size_10 : decode cX9_size 10 = .ok (.aload_n 0, 1) := by decide +kernel
theorem dX9_size_11 : decode cX9_size 11 = .ok (.iload_n 2, 1) := by decide +kernel
theorem dX9_size_12 : decode cX9_size 12 = .ok (.invokevirtual 107, 3) := by decide +kernel
theorem dX9_size_15 : decode cX9_size 15 = .ok (.istore 4, 2) := by decide +kernel
theorem dX9_size_17 : decode cX9_size 17 = .ok (.aload_n 0, 1) := by decide +kernel
theorem dX9_size_18 : decode cX9_size 18 = .ok (.iload 4, 2) := by decide +kernel
theorem dX9_size_20 : decode cX9_size 20 = .ok (.iload_n 3, 1) := by decide +kernel
theorem dX9_size_21 : decode cX9_size 21 = .ok (.ifCond .ne 14, 3) := by decide +kernel
theorem dX9_size_24 : decode cX9_size 24 = .ok (.aload_n 0, 1) := by decide +kernel
theorem dX9_size_25 : decode cX9_size 25 = .ok (.getfield 10, 3) := by decide +kernel
theorem dX9_size_28 : decode cX9_size 28 = .ok (.iload_n 1, 1) := by decide +kernel
theorem dX9_size_29 : decode cX9_size 29 = .ok (.invokevirtual 111, 3) := by decide +kernel
theorem dX9_size_32 : decode cX9_size 32 = .ok (.goto 11, 3) := by decide +kernel
theorem dX9_size_35 : decode cX9_size 35 = .ok (.aload_n 0, 1) := by decide +kernel
theorem dX9_size_36 : decode cX9_size 36 = .ok (.getfield 10, 3) := by decide +kernel
theorem dX9_size_39 : decode cX9_size 39 = .ok (.iload_n 1, 1) := by decide +kernel
theorem dX9_size_40 : decode cX9_size 40 = .ok (.invokevirtual 117, 3) := by decide +kernel
theorem dX9_size_43 : decode cX9_size 43 = .ok (.invokevirtual 114, 3) := by decide +kernel
theorem dX9_size_46 : decode cX9_size 46 = .ok (.iload_n 3, 1) := by decide +kernel
theorem dX9_size_47 : decode cX9_size 47 = .ok (.ifCond .ne 13, 3) := by decide +kernel
theorem dX9_size_50 : decode cX9_size 50 = .ok (.aload_n 0, 1) := by decide +kernel
theorem dX9_size_51 : decode cX9_size 51 = .ok (.getfield 62, 3) := by decide +kernel
theorem dX9_size_54 : decode cX9_size 54 = .ok (.invokevirtual 144, 3) := by decide +kernel
theorem dX9_size_57 : decode cX9_size 57 = .ok (.goto 10, 3) := by decide +kernel
theorem dX9_size_60 : decode cX9_size 60 = .ok (.aload_n 0, 1) := by decide +kernel
theorem dX9_size_61 : decode cX9_size 61 = .ok (.getfield 62, 3) := by decide +kernel
theorem dX9_size_64 : decode cX9_size 64 = .ok (.invokevirtual 200, 3) := by decide +kernel
theorem dX9_size_67 : decode cX9_size 67 = .ok (.astore 5, 2) := by decide +kernel
theorem dX9_size_69 : decode cX9_size 69 = .ok (.aload 5, 2) := by decide +kernel
theorem dX9_size_71 : decode cX9_size 71 = .ok (.iload_n 1, 1) := by decide +kernel
theorem dX9_size_72 : decode cX9_size 72 = .ok (.iload 4, 2) := by decide +kernel
theorem dX9_size_74 : decode cX9_size 74 = .ok (.invokevirtual 148, 3) := by decide +kernel
theorem dX9_size_77 : decode cX9_size 77 = .ok (.ireturn, 1) := by decide +kernel
theorem dX9_way_0 : decode cX9_way 0 = .ok (.aload_n 0, 1) := by decide +kernel
theorem dX9_way_1 : decode cX9_way 1 = .ok (.iload_n 1, 1) := by decide +kernel
theorem dX9_way_2 : decode cX9_way 2 = .ok (.invokevirtual 107, 3) := by decide +kernel
theorem dX9_way_5 : decode cX9_way 5 = .ok (.istore_n 3, 1) := by decide +kernel
theorem dX9_way_6 : decode cX9_way 6 = .ok (.aload_n 0, 1) := by decide +kernel
theorem dX9_way_7 : decode cX9_way 7 = .ok (.iload_n 2, 1) := by decide +kernel
theorem dX9_way_8 : decode cX9_way 8 = .ok (.invokevirtual 107, 3) := by decide +kernel
theorem dX9_way_11 : decode cX9_way 11 = .ok (.istore 4, 2) := by decide +kernel
theorem dX9_way_13 : decode cX9_way 13 = .ok (.aload_n 0, 1) := by decide +kernel
theorem dX9_way_14 : decode cX9_way 14 = .ok (.getfield 28, 3) := by decide +kernel
theorem dX9_way_17 : decode cX9_way 17 = .ok (.aload_n 0, 1) := by decide +kernel
theorem dX9_way_18 : decode cX9_way 18 = .ok (.getfield 62, 3) := by decide +kernel
theorem dX9_way_21 : decode cX9_way 21 = .ok (.iload_n 3, 1) := by decide +kernel
theorem dX9_way_22 : decode cX9_way 22 = .ok (.iload 4, 2) := by decide +kernel
theorem dX9_way_24 : decode cX9_way 24 = .ok (.aload_n 0, 1) := by decide +kernel
theorem dX9_way_25 : decode cX9_way 25 = .ok (.getfield 19, 3) := by decide +kernel
theorem dX9_way_28 : decode cX9_way 28 = .ok (.invokevirtual 132, 3) := by decide +kernel
theorem dX9_way_31 : decode cX9_way 31 = .ok (.ifCond .ne 10, 3) := by decide +kernel
theorem dX9_way_34 : decode cX9_way 34 = .ok (.aload_n 0, 1) := by decide +kernel
theorem dX9_way_35 : decode cX9_way 35 = .ok (.getfield 19, 3) := by decide +kernel
theorem dX9_way_38 : decode cX9_way 38 = .ok (.invokevirtual 219, 3) := by decide +kernel
theorem dX9_way_41 : decode cX9_way 41 = .ok (.aload_n 0, 1) := by decide +kernel
theorem dX9_way_42 : decode cX9_way 42 = .ok (.getfield 19, 3) := by decide +kernel
theorem dX9_way_45 : decode cX9_way 45 = .ok (.invokevirtual 222, 3) := by decide +kernel
theorem dX9_way_48 : decode cX9_way 48 = .ok (.iconst 1, 1) := by decide +kernel
theorem dX9_way_49 : decode cX9_way 49 = .ok (.isub, 1) := by decide +kernel
theorem dX9_way_50 : decode cX9_way 50 = .ok (.ireturn, 1) := by decide +kernel
theorem dX9_path_0 : decode cX9_path 0 = .ok (.iload_n 1, 1) := by decide +kernel
theorem dX9_path_1 : decode cX9_path 1 = .ok (.ifCond .lt 14, 3) := by decide +kernel
theorem dX9_path_4 : decode cX9_path 4 = .ok (.iload_n 1, 1) := by decide +kernel
theorem dX9_path_5 : decode cX9_path 5 = .ok (.aload_n 0, 1) := by decide +kernel
theorem dX9_path_6 : decode cX9_path 6 = .ok (.getfield 19, 3) := by decide +kernel
theorem dX9_path_9 : decode cX9_path 9 = .ok (.invokevirtual 222, 3) := by decide +kernel
theorem dX9_path_12 : decode cX9_path 12 = .ok (.if_icmp .lt 13, 3) := by decide +kernel
theorem dX9_path_15 : decode cX9_path 15 = .ok (.new 225, 3) := by decide +kernel
theorem dX9_path_18 : decode cX9_path 18 = .ok (.dup, 1) := by decide +kernel
theorem dX9_path_19 : decode cX9_path 19 = .ok (.ldc 227, 2) := by decide +kernel
theorem dX9_path_21 : decode cX9_path 21 = .ok (.invokespecial 229, 3) := by decide +kernel
theorem dX9_path_24 : decode cX9_path 24 = .ok (.athrow, 1) := by decide +kernel
theorem dX9_path_25 : decode cX9_path 25 = .ok (.aload_n 0, 1) := by decide +kernel
theorem dX9_path_26 : decode cX9_path 26 = .ok (.getfield 19, 3) := by decide +kernel
theorem dX9_path_29 : decode cX9_path 29 = .ok (.iload_n 1, 1) := by decide +kernel
theorem dX9_path_30 : decode cX9_path 30 = .ok (.invokevirtual 230, 3) := by decide +kernel
theorem dX9_path_33 : decode cX9_path 33 = .ok (.ireturn, 1) := by decide +kernel
theorem dX9_begin_0 : decode cX9_begin 0 = .ok (.aload_n 0, 1) := by decide +kernel
theorem dX9_begin_1 : decode cX9_begin 1 = .ok (.getfield 233, 3) := by decide +kernel
theorem dX9_begin_4 : decode cX9_begin 4 = .ok (.bipush 12, 2) := by decide +kernel
theorem dX9_begin_6 : decode cX9_begin 6 = .ok (.if_icmp .lt 13, 3) := by decide +kernel
theorem dX9_begin_9 : decode cX9_begin 9 = .ok (.new 74, 3) := by decide +kernel
theorem dX9_begin_12 : decode cX9_begin 12 = .ok (.dup, 1) := by decide +kernel
theorem dX9_begin_13 : decode cX9_begin 13 = .ok (.ldc 236, 2) := by decide +kernel
theorem dX9_begin_15 : decode cX9_begin 15 = .ok (.invokespecial 78, 3) := by decide +kernel
theorem dX9_begin_18 : decode cX9_begin 18 = .ok (.athrow, 1) := by decide +kernel
theorem dX9_begin_19 : decode cX9_begin 19 = .ok (.aload_n 0, 1) := by decide +kernel
theorem dX9_begin_20 : decode cX9_begin 20 = .ok (.getfield 57, 3) := by decide +kernel
theorem dX9_begin_23 : decode cX9_begin 23 = .ok (.aload_n 0, 1) := by decide +kernel
theorem dX9_begin_24 : decode cX9_begin 24 = .ok (.getfield 233, 3) := by decide +kernel
theorem dX9_begin_27 : decode cX9_begin 27 = .ok (.aaload, 1) := by decide +kernel
theorem dX9_begin_28 : decode cX9_begin 28 = .ok (.astore_n 1, 1) := by decide +kernel
theorem dX9_begin_29 : decode cX9_begin 29 = .ok (.aload_n 1, 1) := by decide +kernel
theorem dX9_begin_30 : decode cX9_begin 30 = .ok (.ifnonnull 21, 3) := by decide +kernel
theorem dX9_begin_33 : decode cX9_begin 33 = .ok (.new 55, 3) := by decide +kernel
theorem dX9_begin_36 : decode cX9_begin 36 = .ok (.dup, 1) := by decide +kernel
theorem dX9_begin_37 : decode cX9_begin 37 = .ok (.invokespecial 61, 3) := by decide +kernel
theorem dX9_begin_40 : decode cX9_begin 40 = .ok (.astore_n 1, 1) := by decide +kernel
theorem dX9_begin_41 : decode cX9_begin 41 = .ok (.aload_n 0, 1) := by decide +kernel
theorem dX9_begin_42 : decode cX9_begin 42 = .ok (.getfield 57, 3) := by decide +kernel
theorem dX9_begin_45 : decode cX9_begin 45 = .ok (.aload_n 0, 1) := by decide +kernel
theorem dX9_begin_46 : decode cX9_begin 46 = .ok (.getfield 233, 3) := by decide +kernel
theorem dX9_begin_49 : decode cX9_begin 49 = .ok (.aload_n 1, 1) := by decide +kernel
theorem dX9_begin_50 : decode cX9_begin 50 = .ok (.aastore, 1) := by decide +kernel
theorem dX9_begin_51 : decode cX9_begin 51 = .ok (.aload_n 1, 1) := by decide +kernel
theorem dX9_begin_52 : decode cX9_begin 52 = .ok (.aload_n 0, 1) := by decide +kernel
theorem dX9_begin_53 : decode cX9_begin 53 = .ok (.getfield 62, 3) := by decide +kernel
theorem dX9_begin_56 : decode cX9_begin 56 = .ok (.invokevirtual 238, 3) := by decide +kernel
theorem dX9_begin_59 : decode cX9_begin 59 = .ok (.aload_n 0, 1) := by decide +kernel
theorem dX9_begin_60 : decode cX9_begin 60 = .ok (.dup, 1) := by decide +kernel
theorem dX9_begin_61 : decode cX9_begin 61 = .ok (.getfield 233, 3) := by decide +kernel
theorem dX9_begin_64 : decode cX9_begin 64 = .ok (.iconst 1, 1) := by decide +kernel
theorem dX9_begin_65 : decode cX9_begin 65 = .ok (.iadd, 1) := by decide +kernel
theorem dX9_begin_66 : decode cX9_begin 66 = .ok (.putfield 233, 3) := by decide +kernel
theorem dX9_begin_69 : decode cX9_begin 69 = .ok (.aload_n 0, 1) := by decide +kernel
theorem dX9_begin_70 : decode cX9_begin 70 = .ok (.getfield 233, 3) := by decide +kernel
theorem dX9_begin_73 : decode cX9_begin 73 = .ok (.ireturn, 1) := by decide +kernel
theorem dX9_end_0 : decode cX9_end 0 = .ok (.aload_n 0, 1) := by decide +kernel
theorem dX9_end_1 : decode cX9_end 1 = .ok (.getfield 233, 3) := by decide +kernel
theorem dX9_end_4 : decode cX9_end 4 = .ok (.ifCond .gt 13, 3) := by decide +kernel
theorem dX9_end_7 : decode cX9_end 7 = .ok (.new 74, 3) := by decide +kernel
theorem dX9_end_10 : decode cX9_end 10 = .ok (.dup, 1) := by decide +kernel
theorem dX9_end_11 : decode cX9_end 11 = .ok (.ldc 242, 2) := by decide +kernel
theorem dX9_end_13 : decode cX9_end 13 = .ok (.invokespecial 78, 3) := by decide +kernel
theorem dX9_end_16 : decode cX9_end 16 = .ok (.athrow, 1) := by decide +kernel
theorem dX9_end_17 : decode cX9_end 17 = .ok (.aload_n 0, 1) := by decide +kernel
theorem dX9_end_18 : decode cX9_end 18 = .ok (.dup, 1) := by decide +kernel
theorem dX9_end_19 : decode cX9_end 19 = .ok (.getfield 233, 3) := by decide +kernel
theorem dX9_end_22 : decode cX9_end 22 = .ok (.iconst 1, 1) := by decide +kernel
theorem dX9_end_23 : decode cX9_end 23 = .ok (.isub, 1) := by decide +kernel
theorem dX9_end_24 : decode cX9_end 24 = .ok (.putfield 233, 3) := by decide +kernel
theorem dX9_end_27 : decode cX9_end 27 = .ok (.aload_n 0, 1) := by decide +kernel
theorem dX9_end_28 : decode cX9_end 28 = .ok (.getfield 57, 3) := by decide +kernel
theorem dX9_end_31 : decode cX9_end 31 = .ok (.aload_n 0, 1) := by decide +kernel
theorem dX9_end_32 : decode cX9_end 32 = .ok (.getfield 233, 3) := by decide +kernel
theorem dX9_end_35 : decode cX9_end 35 = .ok (.aaload, 1) := by decide +kernel
theorem dX9_end_36 : decode cX9_end 36 = .ok (.astore_n 2, 1) := by decide +kernel
theorem dX9_end_37 : decode cX9_end 37 = .ok (.iload_n 1, 1) := by decide +kernel
theorem dX9_end_38 : decode cX9_end 38 = .ok (.ifCond .ne 25, 3) := by decide +kernel
theorem dX9_end_41 : decode cX9_end 41 = .ok (.aload_n 2, 1) := by decide +kernel
theorem dX9_end_42 : decode cX9_end 42 = .ok (.ifnull 21, 3) := by decide +kernel
theorem dX9_end_45 : decode cX9_end 45 = .ok (.aload_n 0, 1) := by decide +kernel
theorem dX9_end_46 : decode cX9_end 46 = .ok (.getfield 57, 3) := by decide +kernel
theorem dX9_end_49 : decode cX9_end 49 = .ok (.aload_n 0, 1) := by decide +kernel
theorem dX9_end_50 : decode cX9_end 50 = .ok (.getfield 233, 3) := by decide +kernel
theorem dX9_end_53 : decode cX9_end 53 = .ok (.aload_n 0, 1) := by decide +kernel
theorem dX9_end_54 : decode cX9_end 54 = .ok (.getfield 62, 3) := by decide +kernel
theorem dX9_end_57 : decode cX9_end 57 = .ok (.aastore, 1) := by decide +kernel
theorem dX9_end_58 : decode cX9_end 58 = .ok (.aload_n 0, 1) := by decide +kernel
theorem dX9_end_59 : decode cX9_end 59 = .ok (.aload_n 2, 1) := by decide +kernel
theorem dX9_end_60 : decode cX9_end 60 = .ok (.putfield 62, 3) := by decide +kernel
theorem dX9_end_63 : decode cX9_end 63 = .ok (.aload_n 0, 1) := by decide +kernel
theorem dX9_end_64 : decode cX9_end 64 = .ok (.getfield 233, 3) := by decide +kernel
theorem dX9_end_67 : decode cX9_end 67 = .ok (.ireturn, 1) := by decide +kernel
theorem dX9_count_0 : decode cX9_count 0 = .ok (.iload_n 1, 1) := by decide +kernel
theorem dX9_count_1 : decode cX9_count 1 = .ok (.bipush 6, 2) := by decide +kernel
theorem dX9_count_3 : decode cX9_count 3 = .ok (.invokestatic 66, 3) := by decide +kernel
theorem dX9_count_6 : decode cX9_count 6 = .ok (.iload_n 1, 1) := by decide +kernel
theorem dX9_count_7 : decode cX9_count 7 = .ok (.tableswitch 67 0 4 #[33, 41, 49, 54, 59], 33) := by decide +kernel
theorem dX9_count_40 : decode cX9_count 40 = .ok (.aload_n 0, 1) := by decide +kernel
theorem dX9_count_41 : decode cX9_count 41 = .ok (.getfield 10, 3) := by decide +kernel
theorem dX9_count_44 : decode cX9_count 44 = .ok (.invokevirtual 70, 3) := by decide +kernel
theorem dX9_count_47 : decode cX9_count 47 = .ok (.ireturn, 1) := by decide +kernel
theorem dX9_count_48 : decode cX9_count 48 = .ok (.aload_n 0, 1) := by decide +kernel
theorem dX9_count_49 : decode cX9_count 49 = .ok (.getfield 62, 3) := by decide +kernel
theorem dX9_count_52 : decode cX9_count 52 = .ok (.invokevirtual 85, 3) := by decide +kernel
theorem dX9_count_55 : decode cX9_count 55 = .ok (.ireturn, 1) := by decide +kernel
theorem dX9_count_56 : decode cX9_count 56 = .ok (.aload_n 0, 1) := by decide +kernel
theorem dX9_count_57 : decode cX9_count 57 = .ok (.getfield 90, 3) := by decide +kernel
theorem dX9_count_60 : decode cX9_count 60 = .ok (.ireturn, 1) := by decide +kernel
theorem dX9_count_61 : decode cX9_count 61 = .ok (.aload_n 0, 1) := by decide +kernel
theorem dX9_count_62 : decode cX9_count 62 = .ok (.getfield 233, 3) := by decide +kernel
theorem dX9_count_65 : decode cX9_count 65 = .ok (.ireturn, 1) := by decide +kernel
theorem dX9_count_66 : decode cX9_count 66 = .ok (.aload_n 0, 1) := by decide +kernel
theorem dX9_count_67 : decode cX9_count 67 = .ok (.getfield 19, 3) := by decide +kernel
theorem dX9_count_70 : decode cX9_count 70 = .ok (.invokevirtual 222, 3) := by decide +kernel
theorem dX9_count_73 : decode cX9_count 73 = .ok (.ireturn, 1) := by decide +kernel
theorem dX9_count_74 : decode cX9_count 74 = .ok (.aload_n 0, 1) := by decide +kernel
theorem dX9_count_75 : decode cX9_count 75 = .ok (.getfield 62, 3) := by decide +kernel
theorem dX9_count_78 : decode cX9_count 78 = .ok (.invokevirtual 244, 3) := by decide +kernel
theorem dX9_count_81 : decode cX9_count 81 = .ok (.ireturn, 1) := by decide +kernel
theorem dX9_needBelow_0 : decode cX9_needBelow 0 = .ok (.iload_n 0, 1) := by decide +kernel
theorem dX9_needBelow_1 : decode cX9_needBelow 1 = .ok (.ifCond .lt 8, 3) := by decide +kernel
theorem dX9_needBelow_4 : decode cX9_needBelow 4 = .ok (.iload_n 0, 1) := by decide +kernel
theorem dX9_needBelow_5 : decode cX9_needBelow 5 = .ok (.iload_n 1, 1) := by decide +kernel
theorem dX9_needBelow_6 : decode cX9_needBelow 6 = .ok (.if_icmp .lt 13, 3) := by decide +kernel
theorem dX9_needBelow_9 : decode cX9_needBelow 9 = .ok (.new 102, 3) := by decide +kernel
theorem dX9_needBelow_12 : decode cX9_needBelow 12 = .ok (.dup, 1) := by decide +kernel
theorem dX9_needBelow_13 : decode cX9_needBelow 13 = .ok (.ldc 247, 2) := by decide +kernel
theorem dX9_needBelow_15 : decode cX9_needBelow 15 = .ok (.invokespecial 106, 3) := by decide +kernel
theorem dX9_needBelow_18 : decode cX9_needBelow 18 = .ok (.athrow, 1) := by decide +kernel
theorem dX9_needBelow_19 : decode cX9_needBelow 19 = .ok (.return_, 1) := by decide +kernel
theorem dX9_needLink_0 : decode cX9_needLink 0 = .ok (.aload_n 0, 1) := by decide +kernel
theorem dX9_needLink_1 : decode cX9_needLink 1 = .ok (.getfield 10, 3) := by decide +kernel
theorem dX9_needLink_4 : decode cX9_needLink 4 = .ok (.iload_n 1, 1) := by decide +kernel
theorem dX9_needLink_5 : decode cX9_needLink 5 = .ok (.invokevirtual 249, 3) := by decide +kernel
theorem dX9_needLink_8 : decode cX9_needLink 8 = .ok (.ifCond .ne 13, 3) := by decide +kernel
theorem dX9_needLink_11 : decode cX9_needLink 11 = .ok (.new 102, 3) := by decide +kernel
theorem dX9_needLink_14 : decode cX9_needLink 14 = .ok (.dup, 1) := by decide +kernel
theorem dX9_needLink_15 : decode cX9_needLink 15 = .ok (.ldc 253, 2) := by decide +kernel
theorem dX9_needLink_17 : decode cX9_needLink 17 = .ok (.invokespecial 106, 3) := by decide +kernel
theorem dX9_needLink_20 : decode cX9_needLink 20 = .ok (.athrow, 1) := by decide +kernel
theorem dX9_needLink_21 : decode cX9_needLink 21 = .ok (.return_, 1) := by decide +kernel
theorem dX9_slotThere_0 : decode cX9_slotThere 0 = .ok (.aload_n 0, 1) := by decide +kernel
theorem dX9_slotThere_1 : decode cX9_slotThere 1 = .ok (.getfield 62, 3) := by decide +kernel
theorem dX9_slotThere_4 : decode cX9_slotThere 4 = .ok (.iload_n 1, 1) := by decide +kernel
theorem dX9_slotThere_5 : decode cX9_slotThere 5 = .ok (.invokevirtual 255, 3) := by decide +kernel
theorem dX9_slotThere_8 : decode cX9_slotThere 8 = .ok (.istore_n 2, 1) := by decide +kernel
theorem dX9_slotThere_9 : decode cX9_slotThere 9 = .ok (.iload_n 2, 1) := by decide +kernel
theorem dX9_slotThere_10 : decode cX9_slotThere 10 = .ok (.iconst (-1), 1) := by decide +kernel
theorem dX9_slotThere_11 : decode cX9_slotThere 11 = .ok (.if_icmp .ne 14, 3) := by decide +kernel
theorem dX9_slotThere_14 : decode cX9_slotThere 14 = .ok (.new 258, 3) := by decide +kernel
theorem dX9_slotThere_17 : decode cX9_slotThere 17 = .ok (.dup, 1) := by decide +kernel
theorem dX9_slotThere_18 : decode cX9_slotThere 18 = .ok (.ldc_w 260, 3) := by decide +kernel
theorem dX9_slotThere_21 : decode cX9_slotThere 21 = .ok (.invokespecial 262, 3) := by decide +kernel
theorem dX9_slotThere_24 : decode cX9_slotThere 24 = .ok (.athrow, 1) := by decide +kernel
theorem dX9_slotThere_25 : decode cX9_slotThere 25 = .ok (.iload_n 2, 1) := by decide +kernel
theorem dX9_slotThere_26 : decode cX9_slotThere 26 = .ok (.ireturn, 1) := by decide +kernel
theorem dX9_needKind_0 : decode cX9_needKind 0 = .ok (.aload_n 0, 1) := by decide +kernel
theorem dX9_needKind_1 : decode cX9_needKind 1 = .ok (.getfield 62, 3) := by decide +kernel
theorem dX9_needKind_4 : decode cX9_needKind 4 = .ok (.iload_n 1, 1) := by decide +kernel
theorem dX9_needKind_5 : decode cX9_needKind 5 = .ok (.invokevirtual 203, 3) := by decide +kernel
theorem dX9_needKind_8 : decode cX9_needKind 8 = .ok (.iload_n 2, 1) := by decide +kernel
theorem dX9_needKind_9 : decode cX9_needKind 9 = .ok (.if_icmp .eq 14, 3) := by decide +kernel
theorem dX9_needKind_12 : decode cX9_needKind 12 = .ok (.new 263, 3) := by decide +kernel
theorem dX9_needKind_15 : decode cX9_needKind 15 = .ok (.dup, 1) := by decide +kernel
theorem dX9_needKind_16 : decode cX9_needKind 16 = .ok (.ldc_w 265, 3) := by decide +kernel
theorem dX9_needKind_19 : decode cX9_needKind 19 = .ok (.invokespecial 267, 3) := by decide +kernel
theorem dX9_needKind_22 : decode cX9_needKind 22 = .ok (.athrow, 1) := by decide +kernel
theorem dX9_needKind_23 : decode cX9_needKind 23 = .ok (.return_, 1) := by decide +kernel
theorem dX9_numberInRow_0 : decode cX9_numberInRow 0 = .ok (.aload_n 1, 1) := by decide +kernel
theorem dX9_numberInRow_1 : decode cX9_numberInRow 1 = .ok (.iload_n 2, 1) := by decide +kernel
theorem dX9_numberInRow_2 : decode cX9_numberInRow 2 = .ok (.iload_n 3, 1) := by decide +kernel
theorem dX9_numberInRow_3 : decode cX9_numberInRow 3 = .ok (.iload 4, 2) := by decide +kernel
theorem dX9_numberInRow_5 : decode cX9_numberInRow 5 = .ok (.invokevirtual 268, 3) := by decide +kernel
theorem dX9_numberInRow_8 : decode cX9_numberInRow 8 = .ok (.istore 5, 2) := by decide +kernel
theorem dX9_numberInRow_10 : decode cX9_numberInRow 10 = .ok (.iload 5, 2) := by decide +kernel
theorem dX9_numberInRow_12 : decode cX9_numberInRow 12 = .ok (.iconst (-1), 1) := by decide +kernel
theorem dX9_numberInRow_13 : decode cX9_numberInRow 13 = .ok (.if_icmp .ne 14, 3) := by decide +kernel
theorem dX9_numberInRow_16 : decode cX9_numberInRow 16 = .ok (.new 225, 3) := by decide +kernel
theorem dX9_numberInRow_19 : decode cX9_numberInRow 19 = .ok (.dup, 1) := by decide +kernel
theorem dX9_numberInRow_20 : decode cX9_numberInRow 20 = .ok (.ldc_w 271, 3) := by decide +kernel
theorem dX9_numberInRow_23 : decode cX9_numberInRow 23 = .ok (.invokespecial 229, 3) := by decide +kernel
theorem dX9_numberInRow_26 : decode cX9_numberInRow 26 = .ok (.athrow, 1) := by decide +kernel
theorem dX9_numberInRow_27 : decode cX9_numberInRow 27 = .ok (.aload_n 0, 1) := by decide +kernel
theorem dX9_numberInRow_28 : decode cX9_numberInRow 28 = .ok (.getfield 62, 3) := by decide +kernel
theorem dX9_numberInRow_31 : decode cX9_numberInRow 31 = .ok (.iload 5, 2) := by decide +kernel
theorem dX9_numberInRow_33 : decode cX9_numberInRow 33 = .ok (.invokevirtual 167, 3) := by decide +kernel
theorem dX9_numberInRow_36 : decode cX9_numberInRow 36 = .ok (.ireturn, 1) := by decide +kernel
theorem dX9_moveInRow_0 : decode cX9_moveInRow 0 = .ok (.aload_n 0, 1) := by decide +kernel
theorem dX9_moveInRow_1 : decode cX9_moveInRow 1 = .ok (.getfield 62, 3) := by decide +kernel
theorem dX9_moveInRow_4 : decode cX9_moveInRow 4 = .ok (.invokevirtual 144, 3) := by decide +kernel
theorem dX9_moveInRow_7 : decode cX9_moveInRow 7 = .ok (.iload_n 1, 1) := by decide +kernel
theorem dX9_moveInRow_8 : decode cX9_moveInRow 8 = .ok (.iload_n 2, 1) := by decide +kernel
theorem dX9_moveInRow_9 : decode cX9_moveInRow 9 = .ok (.invokevirtual 148, 3) := by decide +kernel
theorem dX9_moveInRow_12 : decode cX9_moveInRow 12 = .ok (.iconst 1, 1) := by decide +kernel
theorem dX9_moveInRow_13 : decode cX9_moveInRow 13 = .ok (.isub, 1) := by decide +kernel
theorem dX9_moveInRow_14 : decode cX9_moveInRow 14 = .ok (.istore 5, 2) := by decide +kernel
theorem dX9_moveInRow_16 : decode cX9_moveInRow 16 = .ok (.iload 4, 2) := by decide +kernel
theorem dX9_moveInRow_18 : decode cX9_moveInRow 18 = .ok (.iload 5, 2) := by decide +kernel
theorem dX9_moveInRow_20 : decode cX9_moveInRow 20 = .ok (.if_icmp .le 14, 3) := by decide +kernel
theorem dX9_moveInRow_23 : decode cX9_moveInRow 23 = .ok (.new 225, 3) := by decide +kernel
theorem dX9_moveInRow_26 : decode cX9_moveInRow 26 = .ok (.dup, 1) := by decide +kernel
theorem dX9_moveInRow_27 : decode cX9_moveInRow 27 = .ok (.ldc_w 273, 3) := by decide +kernel
theorem dX9_moveInRow_30 : decode cX9_moveInRow 30 = .ok (.invokespecial 229, 3) := by decide +kernel
theorem dX9_moveInRow_33 : decode cX9_moveInRow 33 = .ok (.athrow, 1) := by decide +kernel
theorem dX9_moveInRow_34 : decode cX9_moveInRow 34 = .ok (.aload_n 0, 1) := by decide +kernel
theorem dX9_moveInRow_35 : decode cX9_moveInRow 35 = .ok (.getfield 62, 3) := by decide +kernel
theorem dX9_moveInRow_38 : decode cX9_moveInRow 38 = .ok (.invokevirtual 144, 3) := by decide +kernel
theorem dX9_moveInRow_41 : decode cX9_moveInRow 41 = .ok (.iload_n 1, 1) := by decide +kernel
theorem dX9_moveInRow_42 : decode cX9_moveInRow 42 = .ok (.iload_n 2, 1) := by decide +kernel
theorem dX9_moveInRow_43 : decode cX9_moveInRow 43 = .ok (.iload_n 3, 1) := by decide +kernel
theorem dX9_moveInRow_44 : decode cX9_moveInRow 44 = .ok (.invokevirtual 275, 3) := by decide +kernel
theorem dX9_moveInRow_47 : decode cX9_moveInRow 47 = .ok (.pop, 1) := by decide +kernel
theorem dX9_moveInRow_48 : decode cX9_moveInRow 48 = .ok (.aload_n 0, 1) := by decide +kernel
theorem dX9_moveInRow_49 : decode cX9_moveInRow 49 = .ok (.getfield 62, 3) := by decide +kernel
theorem dX9_moveInRow_52 : decode cX9_moveInRow 52 = .ok (.invokevirtual 144, 3) := by decide +kernel
theorem dX9_moveInRow_55 : decode cX9_moveInRow 55 = .ok (.iload_n 1, 1) := by decide +kernel
theorem dX9_moveInRow_56 : decode cX9_moveInRow 56 = .ok (.iload_n 2, 1) := by decide +kernel
theorem dX9_moveInRow_57 : decode cX9_moveInRow 57 = .ok (.iload 4, 2) := by decide +kernel
theorem dX9_moveInRow_59 : decode cX9_moveInRow 59 = .ok (.iconst (-1), 1) := by decide +kernel
theorem dX9_moveInRow_60 : decode cX9_moveInRow 60 = .ok (.if_icmp .ne 8, 3) := by decide +kernel
theorem dX9_moveInRow_63 : decode cX9_moveInRow 63 = .ok (.iload 5, 2) := by decide +kernel
theorem dX9_moveInRow_65 : decode cX9_moveInRow 65 = .ok (.goto 5, 3) := by decide +kernel
theorem dX9_moveInRow_68 : decode cX9_moveInRow 68 = .ok (.iload 4, 2) := by decide +kernel
theorem dX9_moveInRow_70 : decode cX9_moveInRow 70 = .ok (.iload_n 3, 1) := by decide +kernel
theorem dX9_moveInRow_71 : decode cX9_moveInRow 71 = .ok (.invokevirtual 278, 3) := by decide +kernel
theorem dX9_moveInRow_74 : decode cX9_moveInRow 74 = .ok (.return_, 1) := by decide +kernel
theorem dX9_joinNew_0 : decode cX9_joinNew 0 = .ok (.aload_n 0, 1) := by decide +kernel
theorem dX9_joinNew_1 : decode cX9_joinNew 1 = .ok (.getfield 10, 3) := by decide +kernel
theorem dX9_joinNew_4 : decode cX9_joinNew 4 = .ok (.iload_n 1, 1) := by decide +kernel
theorem dX9_joinNew_5 : decode cX9_joinNew 5 = .ok (.iconst 0, 1) := by decide +kernel
theorem dX9_joinNew_6 : decode cX9_joinNew 6 = .ok (.invokevirtual 281, 3) := by decide +kernel
theorem dX9_joinNew_9 : decode cX9_joinNew 9 = .ok (.istore 5, 2) := by decide +kernel
theorem dX9_joinNew_11 : decode cX9_joinNew 11 = .ok (.aload_n 0, 1) := by decide +kernel
theorem dX9_joinNew_12 : decode cX9_joinNew 12 = .ok (.getfield 10, 3) := by decide +kernel
theorem dX9_joinNew_15 : decode cX9_joinNew 15 = .ok (.iload_n 1, 1) := by decide +kernel
theorem dX9_joinNew_16 : decode cX9_joinNew 16 = .ok (.iconst 2, 1) := by decide +kernel
theorem dX9_joinNew_17 : decode cX9_joinNew 17 = .ok (.invokevirtual 281, 3) := by decide +kernel
theorem dX9_joinNew_20 : decode cX9_joinNew 20 = .ok (.istore 6, 2) := by decide +kernel
theorem dX9_joinNew_22 : decode cX9_joinNew 22 = .ok (.iload 5, 2) := by decide +kernel
theorem dX9_joinNew_24 : decode cX9_joinNew 24 = .ok (.ifCond .eq 7, 3) := by decide +kernel
theorem dX9_joinNew_27 : decode cX9_joinNew 27 = .ok (.iconst 0, 1) := by decide +kernel
theorem dX9_joinNew_28 : decode cX9_joinNew 28 = .ok (.goto 15, 3) := by decide +kernel
theorem dX9_joinNew_31 : decode cX9_joinNew 31 = .ok (.aload_n 0, 1) := by decide +kernel
theorem dX9_joinNew_32 : decode cX9_joinNew 32 = .ok (.getfield 62, 3) := by decide +kernel
theorem dX9_joinNew_35 : decode cX9_joinNew 35 = .ok (.invokevirtual 144, 3) := by decide +kernel
theorem dX9_joinNew_38 : decode cX9_joinNew 38 = .ok (.iload_n 1, 1) := by decide +kernel
theorem dX9_joinNew_39 : decode cX9_joinNew 39 = .ok (.iload_n 2, 1) := by decide +kernel
theorem dX9_joinNew_40 : decode cX9_joinNew 40 = .ok (.invokevirtual 148, 3) := by decide +kernel
theorem dX9_joinNew_43 : decode cX9_joinNew 43 = .ok (.istore 7, 2) := by decide +kernel
theorem dX9_joinNew_45 : decode cX9_joinNew 45 = .ok (.iload 6, 2) := by decide +kernel
theorem dX9_joinNew_47 : decode cX9_joinNew 47 = .ok (.ifCond .eq 18, 3) := by decide +kernel
theorem dX9_joinNew_50 : decode cX9_joinNew 50 = .ok (.aload_n 0, 1) := by decide +kernel
theorem dX9_joinNew_51 : decode cX9_joinNew 51 = .ok (.getfield 62, 3) := by decide +kernel
theorem dX9_joinNew_54 : decode cX9_joinNew 54 = .ok (.invokevirtual 200, 3) := by decide +kernel
theorem dX9_joinNew_57 : decode cX9_joinNew 57 = .ok (.iload_n 1, 1) := by decide +kernel
theorem dX9_joinNew_58 : decode cX9_joinNew 58 = .ok (.iload_n 3, 1) := by decide +kernel
theorem dX9_joinNew_59 : decode cX9_joinNew 59 = .ok (.invokevirtual 148, 3) := by decide +kernel
theorem dX9_joinNew_62 : decode cX9_joinNew 62 = .ok (.goto 4, 3) := by decide +kernel
theorem dX9_joinNew_65 : decode cX9_joinNew 65 = .ok (.iconst 0, 1) := by decide +kernel
theorem dX9_joinNew_66 : decode cX9_joinNew 66 = .ok (.istore 8, 2) := by decide +kernel
theorem dX9_joinNew_68 : decode cX9_joinNew 68 = .ok (.iload 4, 2) := by decide +kernel
theorem dX9_joinNew_70 : decode cX9_joinNew 70 = .ok (.iload 7, 2) := by decide +kernel
theorem dX9_joinNew_72 : decode cX9_joinNew 72 = .ok (.if_icmp .le 14, 3) := by decide +kernel
theorem dX9_joinNew_75 : decode cX9_joinNew 75 = .ok (.new 225, 3) := by decide +kernel
theorem dX9_joinNew_78 : decode cX9_joinNew 78 = .ok (.dup, 1) := by decide +kernel
theorem dX9_joinNew_79 : decode cX9_joinNew 79 = .ok (.ldc_w 273, 3) := by decide +kernel
theorem dX9_joinNew_82 : decode cX9_joinNew 82 = .ok (.invokespecial 229, 3) := by decide +kernel
theorem dX9_joinNew_85 : decode cX9_joinNew 85 = .ok (.athrow, 1) := by decide +kernel
theorem dX9_joinNew_86 : decode cX9_joinNew 86 = .ok (.iload 7, 2) := by decide +kernel
theorem dX9_joinNew_88 : decode cX9_joinNew 88 = .ok (.bipush 12, 2) := by decide +kernel
theorem dX9_joinNew_90 : decode cX9_joinNew 90 = .ok (.if_icmp .ge 10, 3) := by decide +kernel
theorem dX9_joinNew_93 : decode cX9_joinNew 93 = .ok (.iload 8, 2) := by decide +kernel
theorem dX9_joinNew_95 : decode cX9_joinNew 95 = .ok (.bipush 12, 2) := by decide +kernel
theorem dX9_joinNew_97 : decode cX9_joinNew 97 = .ok (.if_icmp .lt 14, 3) := by decide +kernel
theorem dX9_joinNew_100 : decode cX9_joinNew 100 = .ok (.new 74, 3) := by decide +kernel
theorem dX9_joinNew_103 : decode cX9_joinNew 103 = .ok (.dup, 1) := by decide +kernel
theorem dX9_joinNew_104 : decode cX9_joinNew 104 = .ok (.ldc_w 284, 3) := by decide +kernel
theorem dX9_joinNew_107 : decode cX9_joinNew 107 = .ok (.invokespecial 78, 3) := by decide +kernel
theorem dX9_joinNew_110 : decode cX9_joinNew 110 = .ok (.athrow, 1) := by decide +kernel
theorem dX9_joinNew_111 : decode cX9_joinNew 111 = .ok (.iload 5, 2) := by decide +kernel
theorem dX9_joinNew_113 : decode cX9_joinNew 113 = .ok (.ifCond .eq 26, 3) := by decide +kernel
theorem dX9_joinNew_116 : decode cX9_joinNew 116 = .ok (.aload_n 0, 1) := by decide +kernel
theorem dX9_joinNew_117 : decode cX9_joinNew 117 = .ok (.getfield 62, 3) := by decide +kernel
theorem dX9_joinNew_120 : decode cX9_joinNew 120 = .ok (.iload_n 1, 1) := by decide +kernel
theorem dX9_joinNew_121 : decode cX9_joinNew 121 = .ok (.iload_n 2, 1) := by decide +kernel
theorem dX9_joinNew_122 : decode cX9_joinNew 122 = .ok (.aload_n 0, 1) := by decide +kernel
theorem dX9_joinNew_123 : decode cX9_joinNew 123 = .ok (.getfield 62, 3) := by decide +kernel
theorem dX9_joinNew_126 : decode cX9_joinNew 126 = .ok (.invokevirtual 144, 3) := by decide +kernel
theorem dX9_joinNew_129 : decode cX9_joinNew 129 = .ok (.iload_n 1, 1) := by decide +kernel
theorem dX9_joinNew_130 : decode cX9_joinNew 130 = .ok (.iload_n 2, 1) := by decide +kernel
theorem dX9_joinNew_131 : decode cX9_joinNew 131 = .ok (.iconst 0, 1) := by decide +kernel
theorem dX9_joinNew_132 : decode cX9_joinNew 132 = .ok (.invokevirtual 268, 3) := by decide +kernel
theorem dX9_joinNew_135 : decode cX9_joinNew 135 = .ok (.invokevirtual 153, 3) := by decide +kernel
theorem dX9_joinNew_138 : decode cX9_joinNew 138 = .ok (.pop, 1) := by decide +kernel
theorem dX9_joinNew_139 : decode cX9_joinNew 139 = .ok (.iload 6, 2) := by decide +kernel
theorem dX9_joinNew_141 : decode cX9_joinNew 141 = .ok (.ifCond .ne 26, 3) := by decide +kernel
theorem dX9_joinNew_144 : decode cX9_joinNew 144 = .ok (.aload_n 0, 1) := by decide +kernel
theorem dX9_joinNew_145 : decode cX9_joinNew 145 = .ok (.getfield 62, 3) := by decide +kernel
theorem dX9_joinNew_148 : decode cX9_joinNew 148 = .ok (.iload_n 1, 1) := by decide +kernel
theorem dX9_joinNew_149 : decode cX9_joinNew 149 = .ok (.aload_n 0, 1) := by decide +kernel
theorem dX9_joinNew_150 : decode cX9_joinNew 150 = .ok (.getfield 62, 3) := by decide +kernel
theorem dX9_joinNew_153 : decode cX9_joinNew 153 = .ok (.invokevirtual 200, 3) := by decide +kernel
theorem dX9_joinNew_156 : decode cX9_joinNew 156 = .ok (.iload_n 1, 1) := by decide +kernel
theorem dX9_joinNew_157 : decode cX9_joinNew 157 = .ok (.iload_n 3, 1) := by decide +kernel
theorem dX9_joinNew_158 : decode cX9_joinNew 158 = .ok (.iconst 0, 1) := by decide +kernel
theorem dX9_joinNew_159 : decode cX9_joinNew 159 = .ok (.invokevirtual 268, 3) := by decide +kernel
theorem dX9_joinNew_162 : decode cX9_joinNew 162 = .ok (.iload_n 3, 1) := by decide +kernel
theorem dX9_joinNew_163 : decode cX9_joinNew 163 = .ok (.invokevirtual 153, 3) := by decide +kernel
theorem dX9_joinNew_166 : decode cX9_joinNew 166 = .ok (.pop, 1) := by decide +kernel
theorem dX9_joinNew_167 : decode cX9_joinNew 167 = .ok (.aload_n 0, 1) := by decide +kernel
theorem dX9_joinNew_168 : decode cX9_joinNew 168 = .ok (.getfield 62, 3) := by decide +kernel
theorem dX9_joinNew_171 : decode cX9_joinNew 171 = .ok (.iload_n 1, 1) := by decide +kernel
theorem dX9_joinNew_172 : decode cX9_joinNew 172 = .ok (.iload_n 2, 1) := by decide +kernel
theorem dX9_joinNew_173 : decode cX9_joinNew 173 = .ok (.iload_n 3, 1) := by decide +kernel
theorem dX9_joinNew_174 : decode cX9_joinNew 174 = .ok (.iload 4, 2) := by decide +kernel
theorem dX9_joinNew_176 : decode cX9_joinNew 176 = .ok (.iconst (-1), 1) := by decide +kernel
theorem dX9_joinNew_177 : decode cX9_joinNew 177 = .ok (.if_icmp .ne 8, 3) := by decide +kernel
theorem dX9_joinNew_180 : decode cX9_joinNew 180 = .ok (.iload 7, 2) := by decide +kernel
theorem dX9_joinNew_182 : decode cX9_joinNew 182 = .ok (.goto 5, 3) := by decide +kernel
theorem dX9_joinNew_185 : decode cX9_joinNew 185 = .ok (.iload 4, 2) := by decide +kernel
theorem dX9_joinNew_187 : decode cX9_joinNew 187 = .ok (.invokevirtual 286, 3) := by decide +kernel
theorem dX9_joinNew_190 : decode cX9_joinNew 190 = .ok (.return_, 1) := by decide +kernel
theorem dX10_thrown_0 : decode cX10_thrown 0 = .ok (.aload_n 0, 1) := by decide +kernel
theorem dX10_thrown_1 : decode cX10_thrown 1 = .ok (.getfield 1, 3) := by decide +kernel
theorem dX10_thrown_4 : decode cX10_thrown 4 = .ok (.ireturn, 1) := by decide +kernel
theorem dX10_fails_0 : decode cX10_fails 0 = .ok (.aload_n 0, 1) := by decide +kernel
theorem dX10_fails_1 : decode cX10_fails 1 = .ok (.iload_n 1, 1) := by decide +kernel
theorem dX10_fails_2 : decode cX10_fails 2 = .ok (.putfield 1, 3) := by decide +kernel
theorem dX10_fails_5 : decode cX10_fails 5 = .ok (.iload_n 1, 1) := by decide +kernel
theorem dX10_fails_6 : decode cX10_fails 6 = .ok (.ifCond .eq 7, 3) := by decide +kernel
theorem dX10_fails_9 : decode cX10_fails 9 = .ok (.iconst 1, 1) := by decide +kernel
theorem dX10_fails_10 : decode cX10_fails 10 = .ok (.goto 4, 3) := by decide +kernel
theorem dX10_fails_13 : decode cX10_fails 13 = .ok (.iconst 0, 1) := by decide +kernel
theorem dX10_fails_14 : decode cX10_fails 14 = .ok (.ireturn, 1) := by decide +kernel
theorem dX10_init_0 : decode cX10_init 0 = .ok (.aload_n 0, 1) := by decide +kernel
theorem dX10_init_1 : decode cX10_init 1 = .ok (.invokespecial 7, 3) := by decide +kernel
theorem dX10_init_4 : decode cX10_init 4 = .ok (.aload_n 0, 1) := by decide +kernel
theorem dX10_init_5 : decode cX10_init 5 = .ok (.bipush 10, 2) := by decide +kernel
theorem dX10_init_7 : decode cX10_init 7 = .ok (.newarray .int, 2) := by decide +kernel
theorem dX10_init_9 : decode cX10_init 9 = .ok (.putfield 13, 3) := by decide +kernel
theorem dX10_init_12 : decode cX10_init 12 = .ok (.aload_n 0, 1) := by decide +kernel
theorem dX10_init_13 : decode cX10_init 13 = .ok (.bipush 10, 2) := by decide +kernel
theorem dX10_init_15 : decode cX10_init 15 = .ok (.newarray .int, 2) := by decide +kernel
theorem dX10_init_17 : decode cX10_init 17 = .ok (.putfield 17, 3) := by decide +kernel
theorem dX10_init_20 : decode cX10_init 20 = .ok (.aload_n 0, 1) := by decide +kernel
theorem dX10_init_21 : decode cX10_init 21 = .ok (.bipush 10, 2) := by decide +kernel
theorem dX10_init_23 : decode cX10_init 23 = .ok (.newarray .int, 2) := by decide +kernel
theorem dX10_init_25 : decode cX10_init 25 = .ok (.putfield 20, 3) := by decide +kernel
theorem dX10_init_28 : decode cX10_init 28 = .ok (.aload_n 0, 1) := by decide +kernel
theorem dX10_init_29 : decode cX10_init 29 = .ok (.bipush 10, 2) := by decide +kernel
theorem dX10_init_31 : decode cX10_init 31 = .ok (.newarray .int, 2) := by decide +kernel
theorem dX10_init_33 : decode cX10_init 33 = .ok (.putfield 23, 3) := by decide +kernel
theorem dX10_init_36 : decode cX10_init 36 = .ok (.aload_n 0, 1) := by decide +kernel
theorem dX10_init_37 : decode cX10_init 37 = .ok (.bipush 100, 2) := by decide +kernel
theorem dX10_init_39 : decode cX10_init 39 = .ok (.newarray .boolean, 2) := by decide +kernel
theorem dX10_init_41 : decode cX10_init 41 = .ok (.putfield 26, 3) := by decide +kernel
theorem dX10_init_44 : decode cX10_init 44 = .ok (.aload_n 0, 1) := by decide +kernel
theorem dX10_init_45 : decode cX10_init 45 = .ok (.bipush 100, 2) := by decide +kernel
theorem dX10_init_47 : decode cX10_init 47 = .ok (.newarray .int, 2) := by decide +kernel
theorem dX10_init_49 : decode cX10_init 49 = .ok (.putfield 30, 3) := by decide +kernel
theorem dX10_init_52 : decode cX10_init 52 = .ok (.aload_n 0, 1) := by decide +kernel
theorem dX10_init_53 : decode cX10_init 53 = .ok (.bipush 100, 2) := by decide +kernel
theorem dX10_init_55 : decode cX10_init 55 = .ok (.newarray .int, 2) := by decide +kernel
theorem dX10_init_57 : decode cX10_init 57 = .ok (.putfield 33, 3) := by decide +kernel
theorem dX10_init_60 : decode cX10_init 60 = .ok (.aload_n 0, 1) := by decide +kernel
theorem dX10_init_61 : decode cX10_init 61 = .ok (.sipush 1000, 3) := by decide +kernel
theorem dX10_init_64 : decode cX10_init 64 = .ok (.newarray .int, 2) := by decide +kernel
theorem dX10_init_66 : decode cX10_init 66 = .ok (.putfield 36, 3) := by decide +kernel
theorem dX10_init_69 : decode cX10_init 69 = .ok (.aload_n 0, 1) := by decide +kernel
theorem dX10_init_70 : decode cX10_init 70 = .ok (.sipush 1000, 3) := by decide +kernel
theorem dX10_init_73 : decode cX10_init 73 = .ok (.newarray .int, 2) := by decide +kernel
theorem dX10_init_75 : decode cX10_init 75 = .ok (.putfield 39, 3) := by decide +kernel
theorem dX10_init_78 : decode cX10_init 78 = .ok (.aload_n 0, 1) := by decide +kernel
theorem dX10_init_79 : decode cX10_init 79 = .ok (.sipush 12000, 3) := by decide +kernel
theorem dX10_init_82 : decode cX10_init 82 = .ok (.newarray .int, 2) := by decide +kernel
theorem dX10_init_84 : decode cX10_init 84 = .ok (.putfield 42, 3) := by decide +kernel
theorem dX10_init_87 : decode cX10_init 87 = .ok (.aload_n 0, 1) := by decide +kernel
theorem dX10_init_88 : decode cX10_init 88 = .ok (.sipush 12000, 3) := by decide +kernel
theorem dX10_init_91 : decode cX10_init 91 = .ok (.newarray .int, 2) := by decide +kernel
theorem dX10_init_93 : decode cX10_init 93 = .ok (.putfield 45, 3) := by decide +kernel
theorem dX10_init_96 : decode cX10_init 96 = .ok (.aload_n 0, 1) := by decide +kernel
theorem dX10_init_97 : decode cX10_init 97 = .ok (.bipush 101, 2) := by decide +kernel
theorem dX10_init_99 : decode cX10_init 99 = .ok (.newarray .int, 2) := by decide +kernel
theorem dX10_init_101 : decode cX10_init 101 = .ok (.putfield 48, 3) := by decide +kernel
theorem dX10_init_104 : decode cX10_init 104 = .ok (.aload_n 0, 1) := by decide +kernel
theorem dX10_init_105 : decode cX10_init 105 = .ok (.bipush 100, 2) := by decide +kernel
theorem dX10_init_107 : decode cX10_init 107 = .ok (.newarray .int, 2) := by decide +kernel
theorem dX10_init_109 : decode cX10_init 109 = .ok (.putfield 51, 3) := by decide +kernel
theorem dX10_init_112 : decode cX10_init 112 = .ok (.aload_n 0, 1) := by decide +kernel
theorem dX10_init_113 : decode cX10_init 113 = .ok (.bipush 100, 2) := by decide +kernel
theorem dX10_init_115 : decode cX10_init 115 = .ok (.newarray .int, 2) := by decide +kernel
theorem dX10_init_117 : decode cX10_init 117 = .ok (.putfield 54, 3) := by decide +kernel
theorem dX10_init_120 : decode cX10_init 120 = .ok (.aload_n 0, 1) := by decide +kernel
theorem dX10_init_121 : decode cX10_init 121 = .ok (.bipush 100, 2) := by decide +kernel
theorem dX10_init_123 : decode cX10_init 123 = .ok (.newarray .boolean, 2) := by decide +kernel
theorem dX10_init_125 : decode cX10_init 125 = .ok (.putfield 57, 3) := by decide +kernel
theorem dX10_init_128 : decode cX10_init 128 = .ok (.aload_n 0, 1) := by decide +kernel
theorem dX10_init_129 : decode cX10_init 129 = .ok (.bipush 100, 2) := by decide +kernel
theorem dX10_init_131 : decode cX10_init 131 = .ok (.newarray .boolean, 2) := by decide +kernel
theorem dX10_init_133 : decode cX10_init 133 = .ok (.putfield 60, 3) := by decide +kernel
theorem dX10_init_136 : decode cX10_init 136 = .ok (.aload_n 0, 1) := by decide +kernel
theorem dX10_init_137 : decode cX10_init 137 = .ok (.bipush 100, 2) := by decide +kernel
theorem dX10_init_139 : decode cX10_init 139 = .ok (.newarray .int, 2) := by decide +kernel
theorem dX10_init_141 : decode cX10_init 141 = .ok (.putfield 63, 3) := by decide +kernel
theorem dX10_init_144 : decode cX10_init 144 = .ok (.aload_n 0, 1) := by decide +kernel
theorem dX10_init_145 : decode cX10_init 145 = .ok (.bipush 100, 2) := by decide +kernel
theorem dX10_init_147 : decode cX10_init 147 = .ok (.newarray .int, 2) := by decide +kernel
theorem dX10_init_149 : decode cX10_init 149 = .ok (.putfield 66, 3) := by decide +kernel
theorem dX10_init_152 : decode cX10_init 152 = .ok (.aload_n 0, 1) := by decide +kernel
theorem dX10_init_153 : decode cX10_init 153 = .ok (.bipush 100, 2) := by decide +kernel
theorem dX10_init_155 : decode cX10_init 155 = .ok (.newarray .int, 2) := by decide +kernel
theorem dX10_init_157 : decode cX10_init 157 = .ok (.putfield 69, 3) := by decide +kernel
theorem dX10_init_160 : decode cX10_init 160 = .ok (.aload_n 0, 1) := by decide +kernel
theorem dX10_init_161 : decode cX10_init 161 = .ok (.sipush 10000, 3) := by decide +kernel
theorem dX10_init_164 : decode cX10_init 164 = .ok (.newarray .byte, 2) := by decide +kernel
theorem dX10_init_166 : decode cX10_init 166 = .ok (.putfield 72, 3) := by decide +kernel
theorem dX10_init_169 : decode cX10_init 169 = .ok (.aload_n 0, 1) := by decide +kernel
theorem dX10_init_170 : decode cX10_init 170 = .ok (.sipush 1024, 3) := by decide +kernel
theorem dX10_init_173 : decode cX10_init 173 = .ok (.newarray .int, 2) := by decide +kernel
theorem dX10_init_175 : decode cX10_init 175 = .ok (.putfield 76, 3) := by decide +kernel
theorem dX10_init_178 : decode cX10_init 178 = .ok (.aload_n 0, 1) := by decide +kernel
theorem dX10_init_179 : decode cX10_init 179 = .ok (.sipush 1024, 3) := by decide +kernel
theorem dX10_init_182 : decode cX10_init 182 = .ok (.newarray .int, 2) := by decide +kernel
theorem dX10_init_184 : decode cX10_init 184 = .ok (.putfield 79, 3) := by decide +kernel
theorem dX10_init_187 : decode cX10_init 187 = .ok (.aload_n 0, 1) := by decide +kernel
theorem dX10_init_188 : decode cX10_init 188 = .ok (.bipush 12, 2) := by decide +kernel
theorem dX10_init_190 : decode cX10_init 190 = .ok (.newarray .int, 2) := by decide +kernel
theorem dX10_init_192 : decode cX10_init 192 = .ok (.putfield 82, 3) := by decide +kernel
theorem dX10_init_195 : decode cX10_init 195 = .ok (.return_, 1) := by decide +kernel
theorem dX10_isLink_0 : decode cX10_isLink 0 = .ok (.iload_n 1, 1) := by decide +kernel
theorem dX10_isLink_1 : decode cX10_isLink 1 = .ok (.ifCond .lt 15, 3) := by decide +kernel
theorem dX10_isLink_4 : decode cX10_isLink 4 = .ok (.iload_n 1, 1) := by decide +kernel
theorem dX10_isLink_5 : decode cX10_isLink 5 = .ok (.aload_n 0, 1) := by decide +kernel
theorem dX10_isLink_6 : decode cX10_isLink 6 = .ok (.getfield 85, 3) := by decide +kernel
theorem dX10_isLink_9 : decode cX10_isLink 9 = .ok (.if_icmp .ge 7, 3) := by decide +kernel
theorem dX10_isLink_12 : decode cX10_isLink 12 = .ok (.iconst 1, 1) := by decide +kernel
theorem dX10_isLink_13 : decode cX10_isLink 13 = .ok (.goto 4, 3) := by decide +kernel
theorem dX10_isLink_16 : decode cX10_isLink 16 = .ok (.iconst 0, 1) := by decide +kernel
theorem dX10_isLink_17 : decode cX10_isLink 17 = .ok (.ireturn, 1) := by decide +kernel
theorem dX10_placeOf_0 : decode cX10_placeOf 0 = .ok (.iconst 0, 1) := by decide +kernel
theorem dX10_placeOf_1 : decode cX10_placeOf 1 = .ok (.istore_n 2, 1) := by decide +kernel
theorem dX10_placeOf_2 : decode cX10_placeOf 2 = .ok (.iload_n 2, 1) := by decide +kernel
theorem dX10_placeOf_3 : decode cX10_placeOf 3 = .ok (.bipush 100, 2) := by decide +kernel
theorem dX10_placeOf_5 : decode cX10_placeOf 5 = .ok (.if_icmp .ge 30, 3) := by decide +kernel
theorem dX10_placeOf_8 : decode cX10_placeOf 8 = .ok (.aload_n 0, 1) := by decide +kernel
theorem dX10_placeOf_9 : decode cX10_placeOf 9 = .ok (.getfield 26, 3) := by decide +kernel
theorem dX10_placeOf_12 : decode cX10_placeOf 12 = .ok (.iload_n 2, 1) := by decide +kernel
theorem dX10_placeOf_13 : decode cX10_placeOf 13 = .ok (.baload, 1) := by decide +kernel
theorem dX10_placeOf_14 : decode cX10_placeOf 14 = .ok (.ifCond .eq 15, 3) := by decide +kernel
theorem dX10_placeOf_17 : decode cX10_placeOf 17 = .ok (.aload_n 0, 1) := by decide +kernel
theorem dX10_placeOf_18 : decode cX10_placeOf 18 = .ok (.getfield 30, 3) := by decide +kernel
theorem dX10_placeOf_21 : decode cX10_placeOf 21 = .ok (.iload_n 2, 1) := by decide +kernel
theorem dX10_placeOf_22 : decode cX10_placeOf 22 = .ok (.iaload, 1) := by decide +kernel
theorem dX10_placeOf_23 : decode cX10_placeOf 23 = .ok (.iload_n 1, 1) := by decide +kernel
theorem dX10_placeOf_24 : decode cX10_placeOf 24 = .ok (.if_icmp .ne 5, 3) := by decide +kernel
theorem dX10_placeOf_27 : decode cX10_placeOf 27 = .ok (.iload_n 2, 1) := by decide +kernel
theorem dX10_placeOf_28 : decode cX10_placeOf 28 = .ok (.ireturn, 1) := by decide +kernel
theorem dX10_placeOf_29 : decode cX10_placeOf 29 = .ok (.iinc 2 1, 3) := by decide +kernel
theorem dX10_placeOf_32 : decode cX10_placeOf 32 = .ok (.goto (-30), 3) := by decide +kernel
theorem dX10_placeOf_35 : decode cX10_placeOf 35 = .ok (.iconst (-1), 1) := by decide +kernel
theorem dX10_placeOf_36 : decode cX10_placeOf 36 = .ok (.ireturn, 1) := by decide +kernel
theorem dX10_link_0 : decode cX10_link 0 = .ok (.iload_n 1, 1) := by decide +kernel
theorem dX10_link_1 : decode cX10_link 1 = .ok (.ifCond .lt 39, 3) := by decide +kernel
theorem dX10_link_4 : decode cX10_link 4 = .ok (.iload_n 1, 1) := by decide +kernel
theorem dX10_link_5 : decode cX10_link 5 = .ok (.bipush 9, 2) := by decide +kernel
theorem dX10_link_7 : decode cX10_link 7 = .ok (.if_icmp .gt 33, 3) := by decide +kernel
theorem dX10_link_10 : decode cX10_link 10 = .ok (.iload_n 2, 1) := by decide +kernel
theorem dX10_link_11 : decode cX10_link 11 = .ok (.ifCond .lt 29, 3) := by decide +kernel
theorem dX10_link_14 : decode cX10_link 14 = .ok (.iload_n 2, 1) := by decide +kernel
theorem dX10_link_15 : decode cX10_link 15 = .ok (.bipush 9, 2) := by decide +kernel
theorem dX10_link_17 : decode cX10_link 17 = .ok (.if_icmp .gt 23, 3) := by decide +kernel
theorem dX10_link_20 : decode cX10_link 20 = .ok (.iload_n 3, 1) := by decide +kernel
theorem dX10_link_21 : decode cX10_link 21 = .ok (.ifCond .lt 19, 3) := by decide +kernel
theorem dX10_link_24 : decode cX10_link 24 = .ok (.iload_n 3, 1) := by decide +kernel
theorem dX10_link_25 : decode cX10_link 25 = .ok (.iconst 2, 1) := by decide +kernel
theorem dX10_link_26 : decode cX10_link 26 = .ok (.if_icmp .gt 14, 3) := by decide +kernel
theorem dX10_link_29 : decode cX10_link 29 = .ok (.iload 4, 2) := by decide +kernel
theorem dX10_link_31 : decode cX10_link 31 = .ok (.ifCond .lt 9, 3) := by decide +kernel
theorem dX10_link_34 : decode cX10_link 34 = .ok (.iload 4, 2) := by decide +kernel
theorem dX10_link_36 : decode cX10_link 36 = .ok (.iconst 2, 1) := by decide +kernel
theorem dX10_link_37 : decode cX10_link 37 = .ok (.if_icmp .le 7, 3) := by decide +kernel
theorem dX10_link_40 : decode cX10_link 40 = .ok (.iconst 1, 1) := by decide +kernel
theorem dX10_link_41 : decode cX10_link 41 = .ok (.goto 4, 3) := by decide +kernel
theorem dX10_link_44 : decode cX10_link 44 = .ok (.iconst 0, 1) := by decide +kernel
theorem dX10_link_45 : decode cX10_link 45 = .ok (.istore 5, 2) := by decide +kernel
theorem dX10_link_47 : decode cX10_link 47 = .ok (.aload_n 0, 1) := by decide +kernel
theorem dX10_link_48 : decode cX10_link 48 = .ok (.iload 5, 2) := by decide +kernel
theorem dX10_link_50 : decode cX10_link 50 = .ok (.ifCond .eq 7, 3) := by decide +kernel
theorem dX10_link_53 : decode cX10_link 53 = .ok (.iconst 1, 1) := by decide +kernel
theorem dX10_link_54 : decode cX10_link 54 = .ok (.goto 17, 3) := by decide +kernel
theorem dX10_link_57 : decode cX10_link 57 = .ok (.aload_n 0, 1) := by decide +kernel
theorem dX10_link_58 : decode cX10_link 58 = .ok (.getfield 85, 3) := by decide +kernel
theorem dX10_link_61 : decode cX10_link 61 = .ok (.bipush 10, 2) := by decide +kernel
theorem dX10_link_63 : decode cX10_link 63 = .ok (.if_icmp .ne 7, 3) := by decide +kernel
theorem dX10_link_66 : decode cX10_link 66 = .ok (.iconst 2, 1) := by decide +kernel
theorem dX10_link_67 : decode cX10_link 67 = .ok (.goto 4, 3) := by decide +kernel
theorem dX10_link_70 : decode cX10_link 70 = .ok (.iconst 0, 1) := by decide +kernel
theorem dX10_link_71 : decode cX10_link 71 = .ok (.invokevirtual 88, 3) := by decide +kernel
theorem dX10_link_74 : decode cX10_link 74 = .ok (.ifCond .eq 5, 3) := by decide +kernel
theorem dX10_link_77 : decode cX10_link 77 = .ok (.iconst 0, 1) := by decide +kernel
theorem dX10_link_78 : decode cX10_link 78 = .ok (.ireturn, 1) := by decide +kernel
theorem dX10_link_79 : decode cX10_link 79 = .ok (.aload_n 0, 1) := by decide +kernel
theorem dX10_link_80 : decode cX10_link 80 = .ok (.getfield 13, 3) := by decide +kernel
theorem dX10_link_83 : decode cX10_link 83 = .ok (.aload_n 0, 1) := by decide +kernel
theorem dX10_link_84 : decode cX10_link 84 = .ok (.getfield 85, 3) := by decide +kernel
theorem dX10_link_87 : decode cX10_link 87 = .ok (.iload_n 1, 1) := by decide +kernel
theorem dX10_link_88 : decode cX10_link 88 = .ok (.iastore, 1) := by decide +kernel
theorem dX10_link_89 : decode cX10_link 89 = .ok (.aload_n 0, 1) := by decide +kernel
theorem dX10_link_90 : decode cX10_link 90 = .ok (.getfield 17, 3) := by decide +kernel
theorem dX10_link_93 : decode cX10_link 93 = .ok (.aload_n 0, 1) := by decide +kernel
theorem dX10_link_94 : decode cX10_link 94 = .ok (.getfield 85, 3) := by decide +kernel
theorem dX10_link_97 : decode cX10_link 97 = .ok (.iload_n 2, 1) := by decide +kernel
theorem dX10_link_98 : decode cX10_link 98 = .ok (.iastore, 1) := by decide +kernel
theorem dX10_link_99 : decode cX10_link 99 = .ok (.aload_n 0, 1) := by decide +kernel
theorem dX10_link_100 : decode cX10_link 100 = .ok (.getfield 20, 3) := by decide +kernel
theorem dX10_link_103 : decode cX10_link 103 = .ok (.aload_n 0, 1) := by decide +kernel
theorem dX10_link_104 : decode cX10_link 104 = .ok (.getfield 85, 3) := by decide +kernel
theorem dX10_link_107 : decode cX10_link 107 = .ok (.iload_n 3, 1) := by decide +kernel
theorem dX10_link_108 : decode cX10_link 108 = .ok (.iastore, 1) := by decide +kernel
theorem dX10_link_109 : decode cX10_link 109 = .ok (.aload_n 0, 1) := by decide +kernel
theorem dX10_link_110 : decode cX10_link 110 = .ok (.getfield 23, 3) := by decide +kernel
theorem dX10_link_113 : decode cX10_link 113 = .ok (.aload_n 0, 1) := by decide +kernel
theorem dX10_link_114 : decode cX10_link 114 = .ok (.getfield 85, 3) := by decide +kernel
theorem dX10_link_117 : decode cX10_link 117 = .ok (.iload 4, 2) := by decide +kernel
theorem dX10_link_119 : decode cX10_link 119 = .ok (.iastore, 1) := by decide +kernel
theorem dX10_link_120 : decode cX10_link 120 = .ok (.aload_n 0, 1) := by decide +kernel
theorem dX10_link_121 : decode cX10_link 121 = .ok (.dup, 1) := by decide +kernel
theorem dX10_link_122 : decode cX10_link 122 = .ok (.getfield 85, 3) := by decide +kernel
theorem dX10_link_125 : decode cX10_link 125 = .ok (.iconst 1, 1) := by decide +kernel
theorem dX10_link_126 : decode cX10_link 126 = .ok (.iadd, 1) := by decide +kernel
theorem dX10_link_127 : decode cX10_link 127 = .ok (.putfield 85, 3) := by decide +kernel
theorem dX10_link_130 : decode cX10_link 130 = .ok (.aload_n 0, 1) := by decide +kernel
theorem dX10_link_131 : decode cX10_link 131 = .ok (.getfield 85, 3) := by decide +kernel
theorem dX10_link_134 : decode cX10_link 134 = .ok (.iconst 1, 1) := by decide +kernel
theorem dX10_link_135 : decode cX10_link 135 = .ok (.isub, 1) := by decide +kernel
theorem dX10_link_136 : decode cX10_link 136 = .ok (.ireturn, 1) := by decide +kernel
theorem dX10_fresh_0 : decode cX10_fresh 0 = .ok (.iconst 0, 1) := by decide +kernel
theorem dX10_fresh_1 : decode cX10_fresh 1 = .ok (.istore_n 2, 1) := by decide +kernel
theorem dX10_fresh_2 : decode cX10_fresh 2 = .ok (.aload_n 0, 1) := by decide +kernel
theorem dX10_fresh_3 : decode cX10_fresh 3 = .ok (.getfield 26, 3) := by decide +kernel
theorem dX10_fresh_6 : decode cX10_fresh 6 = .ok (.iload_n 2, 1) := by decide +kernel
theorem dX10_fresh_7 : decode cX10_fresh 7 = .ok (.baload, 1) := by decide +kernel
theorem dX10_fresh_8 : decode cX10_fresh 8 = .ok (.ifCond .eq 9, 3) := by decide +kernel
theorem dX10_fresh_11 : decode cX10_fresh 11 = .ok (.iinc 2 1, 3) := by decide +kernel
theorem dX10_fresh_14 : decode cX10_fresh 14 = .ok (.goto (-12), 3) := by decide +kernel
theorem dX10_fresh_17 : decode cX10_fresh 17 = .ok (.aload_n 0, 1) := by decide +kernel
theorem dX10_fresh_18 : decode cX10_fresh 18 = .ok (.getfield 26, 3) := by decide +kernel
theorem dX10_fresh_21 : decode cX10_fresh 21 = .ok (.iload_n 2, 1) := by decide +kernel
theorem dX10_fresh_22 : decode cX10_fresh 22 = .ok (.iconst 1, 1) := by decide +kernel
theorem dX10_fresh_23 : decode cX10_fresh 23 = .ok (.bastore, 1) := by decide +kernel
theorem dX10_fresh_24 : decode cX10_fresh 24 = .ok (.aload_n 0, 1) := by decide +kernel
theorem dX10_fresh_25 : decode cX10_fresh 25 = .ok (.getfield 30, 3) := by decide +kernel
theorem dX10_fresh_28 : decode cX10_fresh 28 = .ok (.iload_n 2, 1) := by decide +kernel
theorem dX10_fresh_29 : decode cX10_fresh 29 = .ok (.aload_n 0, 1) := by decide +kernel
theorem dX10_fresh_30 : decode cX10_fresh 30 = .ok (.getfield 92, 3) := by decide +kernel
theorem dX10_fresh_33 : decode cX10_fresh 33 = .ok (.iastore, 1) := by decide +kernel
theorem dX10_fresh_34 : decode cX10_fresh 34 = .ok (.aload_n 0, 1) := by decide +kernel
theorem dX10_fresh_35 : decode cX10_fresh 35 = .ok (.getfield 33, 3) := by decide +kernel
theorem dX10_fresh_38 : decode cX10_fresh 38 = .ok (.iload_n 2, 1) := by decide +kernel
theorem dX10_fresh_39 : decode cX10_fresh 39 = .ok (.iload_n 1, 1) := by decide +kernel
theorem dX10_fresh_40 : decode cX10_fresh 40 = .ok (.iastore, 1) := by decide +kernel
theorem dX10_fresh_41 : decode cX10_fresh 41 = .ok (.aload_n 0, 1) := by decide +kernel
theorem dX10_fresh_42 : decode cX10_fresh 42 = .ok (.dup, 1) := by decide +kernel
theorem dX10_fresh_43 : decode cX10_fresh 43 = .ok (.getfield 92, 3) := by decide +kernel
theorem dX10_fresh_46 : decode cX10_fresh 46 = .ok (.iconst 1, 1) := by decide +kernel
theorem dX10_fresh_47 : decode cX10_fresh 47 = .ok (.iadd, 1) := by decide +kernel
theorem dX10_fresh_48 : decode cX10_fresh 48 = .ok (.putfield 92, 3) := by decide +kernel
theorem dX10_fresh_51 : decode cX10_fresh 51 = .ok (.aload_n 0, 1) := by decide +kernel
theorem dX10_fresh_52 : decode cX10_fresh 52 = .ok (.dup, 1) := by decide +kernel
theorem dX10_fresh_53 : decode cX10_fresh 53 = .ok (.getfield 95, 3) := by decide +kernel
theorem dX10_fresh_56 : decode cX10_fresh 56 = .ok (.iconst 1, 1) := by decide +kernel
theorem dX10_fresh_57 : decode cX10_fresh 57 = .ok (.iadd, 1) := by decide +kernel
theorem dX10_fresh_58 : decode cX10_fresh 58 = .ok (.putfield 95, 3) := by decide +kernel
theorem dX10_fresh_61 : decode cX10_fresh 61 = .ok (.iconst 0, 1) := by decide +kernel
theorem dX10_fresh_62 : decode cX10_fresh 62 = .ok (.istore_n 3, 1) := by decide +kernel
theorem dX10_fresh_63 : decode cX10_fresh 63 = .ok (.iload_n 3, 1) := by decide +kernel
theorem dX10_fresh_64 : decode cX10_fresh 64 = .ok (.bipush 10, 2) := by decide +kernel
theorem dX10_fresh_66 : decode cX10_fresh 66 = .ok (.if_icmp .ge 33, 3) := by decide +kernel
theorem dX10_fresh_69 : decode cX10_fresh 69 = .ok (.aload_n 0, 1) := by decide +kernel
theorem dX10_fresh_70 : decode cX10_fresh 70 = .ok (.getfield 36, 3) := by decide +kernel
theorem dX10_fresh_73 : decode cX10_fresh 73 = .ok (.iload_n 3, 1) := by decide +kernel
theorem dX10_fresh_74 : decode cX10_fresh 74 = .ok (.bipush 100, 2) := by decide +kernel
theorem dX10_fresh_76 : decode cX10_fresh 76 = .ok (.imul, 1) := by decide +kernel
theorem dX10_fresh_77 : decode cX10_fresh 77 = .ok (.iload_n 2, 1) := by decide +kernel
theorem dX10_fresh_78 : decode cX10_fresh 78 = .ok (.iadd, 1) := by decide +kernel
theorem dX10_fresh_79 : decode cX10_fresh 79 = .ok (.iconst 0, 1) := by decide +kernel
theorem dX10_fresh_80 : decode cX10_fresh 80 = .ok (.iastore, 1) := by decide +kernel
theorem dX10_fresh_81 : decode cX10_fresh 81 = .ok (.aload_n 0, 1) := by decide +kernel
theorem dX10_fresh_82 : decode cX10_fresh 82 = .ok (.getfield 39, 3) := by decide +kernel
theorem dX10_fresh_85 : decode cX10_fresh 85 = .ok (.iload_n 3, 1) := by decide +kernel
theorem dX10_fresh_86 : decode cX10_fresh 86 = .ok (.bipush 100, 2) := by decide +kernel
theorem dX10_fresh_88 : decode cX10_fresh 88 = .ok (.imul, 1) := by decide +kernel
theorem dX10_fresh_89 : decode cX10_fresh 89 = .ok (.iload_n 2, 1) := by decide +kernel
theorem dX10_fresh_90 : decode cX10_fresh 90 = .ok (.iadd, 1) := by decide +kernel
theorem dX10_fresh_91 : decode cX10_fresh 91 = .ok (.iconst 0, 1) := by decide +kernel
theorem dX10_fresh_92 : decode cX10_fresh 92 = .ok (.iastore, 1) := by decide +kernel
theorem dX10_fresh_93 : decode cX10_fresh 93 = .ok (.iinc 3 1, 3) := by decide +kernel
theorem dX10_fresh_96 : decode cX10_fresh 96 = .ok (.goto (-33), 3) := by decide +kernel
theorem dX10_fresh_99 : decode cX10_fresh 99 = .ok (.iload_n 2, 1) := by decide +kernel
theorem dX10_fresh_100 : decode cX10_fresh 100 = .ok (.ireturn, 1) := by decide +kernel
theorem dX10_make_0 : decode cX10_make 0 = .ok (.aload_n 0, 1) := by decide +kernel
theorem dX10_make_1 : decode cX10_make 1 = .ok (.iload_n 1, 1) := by decide +kernel
theorem dX10_make_2 : decode cX10_make 2 = .ok (.ifCond .lt 9, 3) := by decide +kernel
theorem dX10_make_5 : decode cX10_make 5 = .ok (.iload_n 1, 1) := by decide +kernel
theorem dX10_make_6 : decode cX10_make 6 = .ok (.bipush 9, 2) := by decide +kernel
theorem dX10_make_8 : decode cX10_make 8 = .ok (.if_icmp .le 7, 3) := by decide +kernel
theorem dX10_make_11 : decode cX10_make 11 = .ok (.iconst 1, 1) := by decide +kernel
theorem dX10_make_12 : decode cX10_make 12 = .ok (.goto 17, 3) := by decide +kernel
theorem dX10_make_15 : decode cX10_make 15 = .ok (.aload_n 0, 1) := by decide +kernel
theorem dX10_make_16 : decode cX10_make 16 = .ok (.getfield 95, 3) := by decide +kernel
theorem dX10_make_19 : decode cX10_make 19 = .ok (.bipush 100, 2) := by decide +kernel
theorem dX10_make_21 : decode cX10_make 21 = .ok (.if_icmp .ne 7, 3) := by decide +kernel
theorem dX10_make_24 : decode cX10_make 24 = .ok (.iconst 2, 1) := by decide +kernel
theorem dX10_make_25 : decode cX10_make 25 = .ok (.goto 4, 3) := by decide +kernel
theorem dX10_make_28 : decode cX10_make 28 = .ok (.iconst 0, 1) := by decide +kernel
theorem dX10_make_29 : decode cX10_make 29 = .ok (.invokevirtual 88, 3) := by decide +kernel
theorem dX10_make_32 : decode cX10_make 32 = .ok (.ifCond .eq 5, 3) := by decide +kernel
theorem dX10_make_35 : decode cX10_make 35 = .ok (.iconst 0, 1) := by decide +kernel
theorem dX10_make_36 : decode cX10_make 36 = .ok (.ireturn, 1) := by decide +kernel
theorem dX10_make_37 : decode cX10_make 37 = .ok (.aload_n 0, 1) := by decide +kernel
theorem dX10_make_38 : decode cX10_make 38 = .ok (.getfield 30, 3) := by decide +kernel
theorem dX10_make_41 : decode cX10_make 41 = .ok (.aload_n 0, 1) := by decide +kernel
theorem dX10_make_42 : decode cX10_make 42 = .ok (.iload_n 1, 1) := by decide +kernel
theorem dX10_make_43 : decode cX10_make 43 = .ok (.invokevirtual 98, 3) := by decide +kernel
theorem dX10_make_46 : decode cX10_make 46 = .ok (.iaload, 1) := by decide +kernel
theorem dX10_make_47 : decode cX10_make 47 = .ok (.ireturn, 1) := by decide +kernel
theorem dX10_indexIn_0 : decode cX10_indexIn 0 = .ok (.iconst 0, 1) := by decide +kernel
theorem dX10_indexIn_1 : decode cX10_indexIn 1 = .ok (.istore 5, 2) := by decide +kernel
theorem dX10_indexIn_3 : decode cX10_indexIn 3 = .ok (.iload 5, 2) := by decide +kernel
theorem dX10_indexIn_5 : decode cX10_indexIn 5 = .ok (.aload_n 2, 1) := by decide +kernel
theorem dX10_indexIn_6 : decode cX10_indexIn 6 = .ok (.iload_n 3, 1) := by decide +kernel
theorem dX10_indexIn_7 : decode cX10_indexIn 7 = .ok (.iaload, 1) := by decide +kernel
theorem dX10_indexIn_8 : decode cX10_indexIn 8 = .ok (.if_icmp .ge 26, 3) := by decide +kernel
theorem dX10_indexIn_11 : decode cX10_indexIn 11 = .ok (.aload_n 1, 1) := by decide +kernel
theorem dX10_indexIn_12 : decode cX10_indexIn 12 = .ok (.iload_n 3, 1) := by decide +kernel
theorem dX10_indexIn_13 : decode cX10_indexIn 13 = .ok (.bipush 12, 2) := by decide +kernel
theorem dX10_indexIn_15 : decode cX10_indexIn 15 = .ok (.imul, 1) := by decide +kernel
theorem dX10_indexIn_16 : decode cX10_indexIn 16 = .ok (.iload 5, 2) := by decide +kernel
theorem dX10_indexIn_18 : decode cX10_indexIn 18 = .ok (.iadd, 1) := by decide +kernel
theorem dX10_indexIn_19 : decode cX10_indexIn 19 = .ok (.iaload, 1) := by decide +kernel
theorem dX10_indexIn_20 : decode cX10_indexIn 20 = .ok (.iload 4, 2) := by decide +kernel
theorem dX10_indexIn_22 : decode cX10_indexIn 22 = .ok (.if_icmp .ne 6, 3) := by decide +kernel
theorem dX10_indexIn_25 : decode cX10_indexIn 25 = .ok (.iload 5, 2) := by decide +kernel
theorem dX10_indexIn_27 : decode cX10_indexIn 27 = .ok (.ireturn, 1) := by decide +kernel
theorem dX10_indexIn_28 : decode cX10_indexIn 28 = .ok (.iinc 5 1, 3) := by decide +kernel
theorem dX10_indexIn_31 : decode cX10_indexIn 31 = .ok (.goto (-28), 3) := by decide +kernel
theorem dX10_indexIn_34 : decode cX10_indexIn 34 = .ok (.iconst (-1), 1) := by decide +kernel
theorem dX10_indexIn_35 : decode cX10_indexIn 35 = .ok (.ireturn, 1) := by decide +kernel
theorem dX10_insert_0 : decode cX10_insert 0 = .ok (.aload_n 2, 1) := by decide +kernel
theorem dX10_insert_1 : decode cX10_insert 1 = .ok (.iload_n 3, 1) := by decide +kernel
theorem dX10_insert_2 : decode cX10_insert 2 = .ok (.iaload, 1) := by decide +kernel
theorem dX10_insert_3 : decode cX10_insert 3 = .ok (.istore 6, 2) := by decide +kernel
theorem dX10_insert_5 : decode cX10_insert 5 = .ok (.iload 6, 2) := by decide +kernel
theorem dX10_insert_7 : decode cX10_insert 7 = .ok (.iload 4, 2) := by decide +kernel
theorem dX10_insert_9 : decode cX10_insert 9 = .ok (.if_icmp .le 29, 3) := by decide +kernel
theorem dX10_insert_12 : decode cX10_insert 12 = .ok (.aload_n 1, 1) := by decide +kernel
theorem dX10_insert_13 : decode cX10_insert 13 = .ok (.iload_n 3, 1) := by decide +kernel
theorem dX10_insert_14 : decode cX10_insert 14 = .ok (.bipush 12, 2) := by decide +kernel
theorem dX10_insert_16 : decode cX10_insert 16 = .ok (.imul, 1) := by decide +kernel
theorem dX10_insert_17 : decode cX10_insert 17 = .ok (.iload 6, 2) := by decide +kernel
theorem dX10_insert_19 : decode cX10_insert 19 = .ok (.iadd, 1) := by decide +kernel
theorem dX10_insert_20 : decode cX10_insert 20 = .ok (.aload_n 1, 1) := by decide +kernel
theorem dX10_insert_21 : decode cX10_insert 21 = .ok (.iload_n 3, 1) := by decide +kernel
theorem dX10_insert_22 : decode cX10_insert 22 = .ok (.bipush 12, 2) := by decide +kernel
theorem dX10_insert_24 : decode cX10_insert 24 = .ok (.imul, 1) := by decide +kernel
theorem dX10_insert_25 : decode cX10_insert 25 = .ok (.iload 6, 2) := by decide +kernel
theorem dX10_insert_27 : decode cX10_insert 27 = .ok (.iadd, 1) := by decide +kernel
theorem dX10_insert_28 : decode cX10_insert 28 = .ok (.iconst 1, 1) := by decide +kernel
theorem dX10_insert_29 : decode cX10_insert 29 = .ok (.isub, 1) := by decide +kernel
theorem dX10_insert_30 : decode cX10_insert 30 = .ok (.iaload, 1) := by decide +kernel
theorem dX10_insert_31 : decode cX10_insert 31 = .ok (.iastore, 1) := by decide +kernel
theorem dX10_insert_32 : decode cX10_insert 32 = .ok (.iinc 6 (-1), 3) := by decide +kernel
theorem dX10_insert_35 : decode cX10_insert 35 = .ok (.goto (-30), 3) := by decide +kernel
theorem dX10_insert_38 : decode cX10_insert 38 = .ok (.aload_n 1, 1) := by decide +kernel
theorem dX10_insert_39 : decode cX10_insert 39 = .ok (.iload_n 3, 1) := by decide +kernel
theorem dX10_insert_40 : decode cX10_insert 40 = .ok (.bipush 12, 2) := by decide +kernel
theorem dX10_insert_42 : decode cX10_insert 42 = .ok (.imul, 1) := by decide +kernel
theorem dX10_insert_43 : decode cX10_insert 43 = .ok (.iload 4, 2) := by decide +kernel
theorem dX10_insert_45 : decode cX10_insert 45 = .ok (.iadd, 1) := by decide +kernel
theorem dX10_insert_46 : decode cX10_insert 46 = .ok (.iload 5, 2) := by decide +kernel
theorem dX10_insert_48 : decode cX10_insert 48 = .ok (.iastore, 1) := by decide +kernel
theorem dX10_insert_49 : decode cX10_insert 49 = .ok (.aload_n 2, 1) := by decide +kernel
theorem dX10_insert_50 : decode cX10_insert 50 = .ok (.iload_n 3, 1) := by decide +kernel
theorem dX10_insert_51 : decode cX10_insert 51 = .ok (.dup2, 1) := by decide +kernel
theorem dX10_insert_52 : decode cX10_insert 52 = .ok (.iaload, 1) := by decide +kernel
theorem dX10_insert_53 : decode cX10_insert 53 = .ok (.iconst 1, 1) := by decide +kernel
theorem dX10_insert_54 : decode cX10_insert 54 = .ok (.iadd, 1) := by decide +kernel
theorem dX10_insert_55 : decode cX10_insert 55 = .ok (.iastore, 1) := by decide +kernel
theorem dX10_insert_56 : decode cX10_insert 56 = .ok (.return_, 1) := by decide +kernel
theorem dX10_remove_0 : decode cX10_remove 0 = .ok (.aload_n 2, 1) := by decide +kernel
theorem dX10_remove_1 : decode cX10_remove 1 = .ok (.iload_n 3, 1) := by decide +kernel
theorem dX10_remove_2 : decode cX10_remove 2 = .ok (.dup2, 1) := by decide +kernel
theorem dX10_remove_3 : decode cX10_remove 3 = .ok (.iaload, 1) := by decide +kernel
theorem dX10_remove_4 : decode cX10_remove 4 = .ok (.iconst 1, 1) := by decide +kernel
theorem dX10_remove_5 : decode cX10_remove 5 = .ok (.isub, 1) := by decide +kernel
theorem dX10_remove_6 : decode cX10_remove 6 = .ok (.iastore, 1) := by decide +kernel
theorem dX10_remove_7 : decode cX10_remove 7 = .ok (.iload 4, 2) := by decide +kernel
theorem dX10_remove_9 : decode cX10_remove 9 = .ok (.istore 5, 2) := by decide +kernel
theorem dX10_remove_11 : decode cX10_remove 11 = .ok (.iload 5, 2) := by decide +kernel
theorem dX10_remove_13 : decode cX10_remove 13 = .ok (.aload_n 2, 1) := by decide +kernel
theorem dX10_remove_14 : decode cX10_remove 14 = .ok (.iload_n 3, 1) := by decide +kernel
theorem dX10_remove_15 : decode cX10_remove 15 = .ok (.iaload, 1) := by decide +kernel
theorem dX10_remove_16 : decode cX10_remove 16 = .ok (.if_icmp .ge 29, 3) := by decide +kernel
theorem dX10_remove_19 : decode cX10_remove 19 = .ok (.aload_n 1, 1) := by decide +kernel
theorem dX10_remove_20 : decode cX10_remove 20 = .ok (.iload_n 3, 1) := by decide +kernel
theorem dX10_remove_21 : decode cX10_remove 21 = .ok (.bipush 12, 2) := by decide +kernel
theorem dX10_remove_23 : decode cX10_remove 23 = .ok (.imul, 1) := by decide +kernel
theorem dX10_remove_24 : decode cX10_remove 24 = .ok (.iload 5, 2) := by decide +kernel
theorem dX10_remove_26 : decode cX10_remove 26 = .ok (.iadd, 1) := by decide +kernel
theorem dX10_remove_27 : decode cX10_remove 27 = .ok (.aload_n 1, 1) := by decide +kernel
theorem dX10_remove_28 : decode cX10_remove 28 = .ok (.iload_n 3, 1) := by decide +kernel
theorem dX10_remove_29 : decode cX10_remove 29 = .ok (.bipush 12, 2) := by decide +kernel
theorem dX10_remove_31 : decode cX10_remove 31 = .ok (.imul, 1) := by decide +kernel
theorem dX10_remove_32 : decode cX10_remove 32 = .ok (.iload 5, 2) := by decide +kernel
theorem dX10_remove_34 : decode cX10_remove 34 = .ok (.iadd, 1) := by decide +kernel
theorem dX10_remove_35 : decode cX10_remove 35 = .ok (.iconst 1, 1) := by decide +kernel
theorem dX10_remove_36 : decode cX10_remove 36 = .ok (.iadd, 1) := by decide +kernel
theorem dX10_remove_37 : decode cX10_remove 37 = .ok (.iaload, 1) := by decide +kernel
theorem dX10_remove_38 : decode cX10_remove 38 = .ok (.iastore, 1) := by decide +kernel
theorem dX10_remove_39 : decode cX10_remove 39 = .ok (.iinc 5 1, 3) := by decide +kernel
theorem dX10_remove_42 : decode cX10_remove 42 = .ok (.goto (-31), 3) := by decide +kernel
theorem dX10_remove_45 : decode cX10_remove 45 = .ok (.return_, 1) := by decide +kernel
theorem dX10_part_0 : decode cX10_part 0 = .ok (.aload_n 0, 1) := by decide +kernel
theorem dX10_part_1 : decode cX10_part 1 = .ok (.aload_n 0, 1) := by decide +kernel
theorem dX10_part_2 : decode cX10_part 2 = .ok (.getfield 42, 3) := by decide +kernel
theorem dX10_part_5 : decode cX10_part 5 = .ok (.aload_n 0, 1) := by decide +kernel
theorem dX10_part_6 : decode cX10_part 6 = .ok (.getfield 36, 3) := by decide +kernel
theorem dX10_part_9 : decode cX10_part 9 = .ok (.iload_n 1, 1) := by decide +kernel
theorem dX10_part_10 : decode cX10_part 10 = .ok (.bipush 100, 2) := by decide +kernel
theorem dX10_part_12 : decode cX10_part 12 = .ok (.imul, 1) := by decide +kernel
theorem dX10_part_13 : decode cX10_part 13 = .ok (.iload_n 2, 1) := by decide +kernel
theorem dX10_part_14 : decode cX10_part 14 = .ok (.iadd, 1) := by decide +kernel
theorem dX10_part_15 : decode cX10_part 15 = .ok (.aload_n 0, 1) := by decide +kernel
theorem dX10_part_16 : decode cX10_part 16 = .ok (.aload_n 0, 1) := by decide +kernel
theorem dX10_part_17 : decode cX10_part 17 = .ok (.getfield 42, 3) := by decide +kernel
theorem dX10_part_20 : decode cX10_part 20 = .ok (.aload_n 0, 1) := by decide +kernel
theorem dX10_part_21 : decode cX10_part 21 = .ok (.getfield 36, 3) := by decide +kernel
theorem dX10_part_24 : decode cX10_part 24 = .ok (.iload_n 1, 1) := by decide +kernel
theorem dX10_part_25 : decode cX10_part 25 = .ok (.bipush 100, 2) := by decide +kernel
theorem dX10_part_27 : decode cX10_part 27 = .ok (.imul, 1) := by decide +kernel
theorem dX10_part_28 : decode cX10_part 28 = .ok (.iload_n 2, 1) := by decide +kernel
theorem dX10_part_29 : decode cX10_part 29 = .ok (.iadd, 1) := by decide +kernel
theorem dX10_part_30 : decode cX10_part 30 = .ok (.iload_n 3, 1) := by decide +kernel
theorem dX10_part_31 : decode cX10_part 31 = .ok (.invokevirtual 102, 3) := by decide +kernel
theorem dX10_part_34 : decode cX10_part 34 = .ok (.invokevirtual 106, 3) := by decide +kernel
theorem dX10_part_37 : decode cX10_part 37 = .ok (.aload_n 0, 1) := by decide +kernel
theorem dX10_part_38 : decode cX10_part 38 = .ok (.aload_n 0, 1) := by decide +kernel
theorem dX10_part_39 : decode cX10_part 39 = .ok (.getfield 45, 3) := by decide +kernel
theorem dX10_part_42 : decode cX10_part 42 = .ok (.aload_n 0, 1) := by decide +kernel
theorem dX10_part_43 : decode cX10_part 43 = .ok (.getfield 39, 3) := by decide +kernel
theorem dX10_part_46 : decode cX10_part 46 = .ok (.iload_n 1, 1) := by decide +kernel
theorem dX10_part_47 : decode cX10_part 47 = .ok (.bipush 100, 2) := by decide +kernel
theorem dX10_part_49 : decode cX10_part 49 = .ok (.imul, 1) := by decide +kernel
theorem dX10_part_50 : decode cX10_part 50 = .ok (.iload_n 3, 1) := by decide +kernel
theorem dX10_part_51 : decode cX10_part 51 = .ok (.iadd, 1) := by decide +kernel
theorem dX10_part_52 : decode cX10_part 52 = .ok (.aload_n 0, 1) := by decide +kernel
theorem dX10_part_53 : decode cX10_part 53 = .ok (.aload_n 0, 1) := by decide +kernel
theorem dX10_part_54 : decode cX10_part 54 = .ok (.getfield 45, 3) := by decide +kernel
theorem dX10_part_57 : decode cX10_part 57 = .ok (.aload_n 0, 1) := by decide +kernel
theorem dX10_part_58 : decode cX10_part 58 = .ok (.getfield 39, 3) := by decide +kernel
theorem dX10_part_61 : decode cX10_part 61 = .ok (.iload_n 1, 1) := by decide +kernel
theorem dX10_part_62 : decode cX10_part 62 = .ok (.bipush 100, 2) := by decide +kernel
theorem dX10_part_64 : decode cX10_part 64 = .ok (.imul, 1) := by decide +kernel
theorem dX10_part_65 : decode cX10_part 65 = .ok (.iload_n 3, 1) := by decide +kernel
theorem dX10_part_66 : decode cX10_part 66 = .ok (.iadd, 1) := by decide +kernel
theorem dX10_part_67 : decode cX10_part 67 = .ok (.iload_n 2, 1) := by decide +kernel
theorem dX10_part_68 : decode cX10_part 68 = .ok (.invokevirtual 102, 3) := by decide +kernel
theorem dX10_part_71 : decode cX10_part 71 = .ok (.invokevirtual 106, 3) := by decide +kernel
theorem dX10_part_74 : decode cX10_part 74 = .ok (.return_, 1) := by decide +kernel
theorem dX10_isHad_0 : decode cX10_isHad 0 = .ok (.aload_n 0, 1) := by decide +kernel
theorem dX10_isHad_1 : decode cX10_isHad 1 = .ok (.aload_n 0, 1) := by decide +kernel
theorem dX10_isHad_2 : decode cX10_isHad 2 = .ok (.getfield 42, 3) := by decide +kernel
theorem dX10_isHad_5 : decode cX10_isHad 5 = .ok (.aload_n 0, 1) := by decide +kernel
theorem dX10_isHad_6 : decode cX10_isHad 6 = .ok (.getfield 36, 3) := by decide +kernel
theorem dX10_isHad_9 : decode cX10_isHad 9 = .ok (.iload_n 1, 1) := by decide +kernel
theorem dX10_isHad_10 : decode cX10_isHad 10 = .ok (.bipush 100, 2) := by decide +kernel
theorem dX10_isHad_12 : decode cX10_isHad 12 = .ok (.imul, 1) := by decide +kernel
theorem dX10_isHad_13 : decode cX10_isHad 13 = .ok (.iload_n 2, 1) := by decide +kernel
theorem dX10_isHad_14 : decode cX10_isHad 14 = .ok (.iadd, 1) := by decide +kernel
theorem dX10_isHad_15 : decode cX10_isHad 15 = .ok (.iload_n 3, 1) := by decide +kernel
theorem dX10_isHad_16 : decode cX10_isHad 16 = .ok (.invokevirtual 102, 3) := by decide +kernel
theorem dX10_isHad_19 : decode cX10_isHad 19 = .ok (.ifCond .lt 7, 3) := by decide +kernel
theorem dX10_isHad_22 : decode cX10_isHad 22 = .ok (.iconst 1, 1) := by decide +kernel
theorem dX10_isHad_23 : decode cX10_isHad 23 = .ok (.goto 4, 3) := by decide +kernel
theorem dX10_isHad_26 : decode cX10_isHad 26 = .ok (.iconst 0, 1) := by decide +kernel
theorem dX10_isHad_27 : decode cX10_isHad 27 = .ok (.ireturn, 1) := by decide +kernel
theorem dX10_owns_0 : decode cX10_owns 0 = .ok (.iconst 0, 1) := by decide +kernel
theorem dX10_owns_1 : decode cX10_owns 1 = .ok (.istore_n 3, 1) := by decide +kernel
theorem dX10_owns_2 : decode cX10_owns 2 = .ok (.iload_n 3, 1) := by decide +kernel
theorem dX10_owns_3 : decode cX10_owns 3 = .ok (.aload_n 0, 1) := by decide +kernel
theorem dX10_owns_4 : decode cX10_owns 4 = .ok (.getfield 85, 3) := by decide +kernel
theorem dX10_owns_7 : decode cX10_owns 7 = .ok (.if_icmp .ge 31, 3) := by decide +kernel
theorem dX10_owns_10 : decode cX10_owns 10 = .ok (.aload_n 0, 1) := by decide +kernel
theorem dX10_owns_11 : decode cX10_owns 11 = .ok (.getfield 23, 3) := by decide +kernel
theorem dX10_owns_14 : decode cX10_owns 14 = .ok (.iload_n 3, 1) := by decide +kernel
theorem dX10_owns_15 : decode cX10_owns 15 = .ok (.iaload, 1) := by decide +kernel
theorem dX10_owns_16 : decode cX10_owns 16 = .ok (.iconst 1, 1) := by decide +kernel
theorem dX10_owns_17 : decode cX10_owns 17 = .ok (.if_icmp .ne 15, 3) := by decide +kernel
theorem dX10_owns_20 : decode cX10_owns 20 = .ok (.aload_n 0, 1) := by decide +kernel
theorem dX10_owns_21 : decode cX10_owns 21 = .ok (.iload_n 3, 1) := by decide +kernel
theorem dX10_owns_22 : decode cX10_owns 22 = .ok (.iload_n 1, 1) := by decide +kernel
theorem dX10_owns_23 : decode cX10_owns 23 = .ok (.iload_n 2, 1) := by decide +kernel
theorem dX10_owns_24 : decode cX10_owns 24 = .ok (.invokevirtual 110, 3) := by decide +kernel
theorem dX10_owns_27 : decode cX10_owns 27 = .ok (.ifCond .eq 5, 3) := by decide +kernel
theorem dX10_owns_30 : decode cX10_owns 30 = .ok (.iconst 1, 1) := by decide +kernel
theorem dX10_owns_31 : decode cX10_owns 31 = .ok (.ireturn, 1) := by decide +kernel
theorem dX10_owns_32 : decode cX10_owns 32 = .ok (.iinc 3 1, 3) := by decide +kernel
theorem dX10_owns_35 : decode cX10_owns 35 = .ok (.goto (-33), 3) := by decide +kernel
theorem dX10_owns_38 : decode cX10_owns 38 = .ok (.iconst 0, 1) := by decide +kernel
theorem dX10_owns_39 : decode cX10_owns 39 = .ok (.ireturn, 1) := by decide +kernel
theorem dX10_measure_0 : decode cX10_measure 0 = .ok (.iconst 0, 1) := by decide +kernel
theorem dX10_measure_1 : decode cX10_measure 1 = .ok (.istore_n 3, 1) := by decide +kernel
theorem dX10_measure_2 : decode cX10_measure 2 = .ok (.iload_n 3, 1) := by decide +kernel
theorem dX10_measure_3 : decode cX10_measure 3 = .ok (.bipush 100, 2) := by decide +kernel
theorem dX10_measure_5 : decode cX10_measure 5 = .ok (.if_icmp .ge 16, 3) := by decide +kernel
theorem dX10_measure_8 : decode cX10_measure 8 = .ok (.aload_n 0, 1) := by decide +kernel
theorem dX10_measure_9 : decode cX10_measure 9 = .ok (.getfield 51, 3) := by decide +kernel
theorem dX10_measure_12 : decode cX10_measure 12 = .ok (.iload_n 3, 1) := by decide +kernel
theorem dX10_measure_13 : decode cX10_measure 13 = .ok (.iconst (-1), 1) := by decide +kernel
theorem dX10_measure_14 : decode cX10_measure 14 = .ok (.iastore, 1) := by decide +kernel
theorem dX10_measure_15 : decode cX10_measure 15 = .ok (.iinc 3 1, 3) := by decide +kernel
theorem dX10_measure_18 : decode cX10_measure 18 = .ok (.goto (-16), 3) := by decide +kernel
theorem dX10_measure_21 : decode cX10_measure 21 = .ok (.aload_n 0, 1) := by decide +kernel
theorem dX10_measure_22 : decode cX10_measure 22 = .ok (.getfield 51, 3) := by decide +kernel
theorem dX10_measure_25 : decode cX10_measure 25 = .ok (.iload_n 1, 1) := by decide +kernel
theorem dX10_measure_26 : decode cX10_measure 26 = .ok (.iconst 0, 1) := by decide +kernel
theorem dX10_measure_27 : decode cX10_measure 27 = .ok (.iastore, 1) := by decide +kernel
theorem dX10_measure_28 : decode cX10_measure 28 = .ok (.aload_n 0, 1) := by decide +kernel
theorem dX10_measure_29 : decode cX10_measure 29 = .ok (.getfield 54, 3) := by decide +kernel
theorem dX10_measure_32 : decode cX10_measure 32 = .ok (.iconst 0, 1) := by decide +kernel
theorem dX10_measure_33 : decode cX10_measure 33 = .ok (.iload_n 1, 1) := by decide +kernel
theorem dX10_measure_34 : decode cX10_measure 34 = .ok (.iastore, 1) := by decide +kernel
theorem dX10_measure_35 : decode cX10_measure 35 = .ok (.iconst 1, 1) := by decide +kernel
theorem dX10_measure_36 : decode cX10_measure 36 = .ok (.istore_n 3, 1) := by decide +kernel
theorem dX10_measure_37 : decode cX10_measure 37 = .ok (.iconst 0, 1) := by decide +kernel
theorem dX10_measure_38 : decode cX10_measure 38 = .ok (.istore 4, 2) := by decide +kernel
theorem dX10_measure_40 : decode cX10_measure 40 = .ok (.iload 4, 2) := by decide +kernel
theorem dX10_measure_42 : decode cX10_measure 42 = .ok (.iload_n 3, 1) := by decide +kernel
theorem dX10_measure_43 : decode cX10_measure 43 = .ok (.if_icmp .ge 150, 3) := by decide +kernel
theorem dX10_measure_46 : decode cX10_measure 46 = .ok (.aload_n 0, 1) := by decide +kernel
theorem dX10_measure_47 : decode cX10_measure 47 = .ok (.getfield 54, 3) := by decide +kernel
theorem dX10_measure_50 : decode cX10_measure 50 = .ok (.iload 4, 2) := by decide +kernel
theorem dX10_measure_52 : decode cX10_measure 52 = .ok (.iaload, 1) := by decide +kernel
theorem dX10_measure_53 : decode cX10_measure 53 = .ok (.istore 5, 2) := by decide +kernel
theorem dX10_measure_55 : decode cX10_measure 55 = .ok (.iconst 0, 1) := by decide +kernel
theorem dX10_measure_56 : decode cX10_measure 56 = .ok (.istore 6, 2) := by decide +kernel
theorem dX10_measure_58 : decode cX10_measure 58 = .ok (.iload 6, 2) := by decide +kernel
theorem dX10_measure_60 : decode cX10_measure 60 = .ok (.aload_n 0, 1) := by decide +kernel
theorem dX10_measure_61 : decode cX10_measure 61 = .ok (.getfield 85, 3) := by decide +kernel
theorem dX10_measure_64 : decode cX10_measure 64 = .ok (.if_icmp .ge 123, 3) := by decide +kernel
theorem dX10_measure_67 : decode cX10_measure 67 = .ok (.aload_n 0, 1) := by decide +kernel
theorem dX10_measure_68 : decode cX10_measure 68 = .ok (.getfield 23, 3) := by decide +kernel
theorem dX10_measure_71 : decode cX10_measure 71 = .ok (.iload 6, 2) := by decide +kernel
theorem dX10_measure_73 : decode cX10_measure 73 = .ok (.iaload, 1) := by decide +kernel
theorem dX10_measure_74 : decode cX10_measure 74 = .ok (.iconst 1, 1) := by decide +kernel
theorem dX10_measure_75 : decode cX10_measure 75 = .ok (.if_icmp .eq 6, 3) := by decide +kernel
theorem dX10_measure_78 : decode cX10_measure 78 = .ok (.goto 103, 3) := by decide +kernel
theorem dX10_measure_81 : decode cX10_measure 81 = .ok (.iload 6, 2) := by decide +kernel
theorem dX10_measure_83 : decode cX10_measure 83 = .ok (.bipush 100, 2) := by decide +kernel
theorem dX10_measure_85 : decode cX10_measure 85 = .ok (.imul, 1) := by decide +kernel
theorem dX10_measure_86 : decode cX10_measure 86 = .ok (.iload 5, 2) := by decide +kernel
theorem dX10_measure_88 : decode cX10_measure 88 = .ok (.iadd, 1) := by decide +kernel
theorem dX10_measure_89 : decode cX10_measure 89 = .ok (.istore 7, 2) := by decide +kernel
theorem dX10_measure_91 : decode cX10_measure 91 = .ok (.iconst 0, 1) := by decide +kernel
theorem dX10_measure_92 : decode cX10_measure 92 = .ok (.istore 8, 2) := by decide +kernel
theorem dX10_measure_94 : decode cX10_measure 94 = .ok (.iload 8, 2) := by decide +kernel
theorem dX10_measure_96 : decode cX10_measure 96 = .ok (.aload_n 0, 1) := by decide +kernel
theorem dX10_measure_97 : decode cX10_measure 97 = .ok (.getfield 39, 3) := by decide +kernel
theorem dX10_measure_100 : decode cX10_measure 100 = .ok (.iload 7, 2) := by decide +kernel
theorem dX10_measure_102 : decode cX10_measure 102 = .ok (.iaload, 1) := by decide +kernel
theorem dX10_measure_103 : decode cX10_measure 103 = .ok (.if_icmp .ge 78, 3) := by decide +kernel
theorem dX10_measure_106 : decode cX10_measure 106 = .ok (.aload_n 0, 1) := by decide +kernel
theorem dX10_measure_107 : decode cX10_measure 107 = .ok (.getfield 45, 3) := by decide +kernel
theorem dX10_measure_110 : decode cX10_measure 110 = .ok (.iload 7, 2) := by decide +kernel
theorem dX10_measure_112 : decode cX10_measure 112 = .ok (.bipush 12, 2) := by decide +kernel
theorem dX10_measure_114 : decode cX10_measure 114 = .ok (.imul, 1) := by decide +kernel
theorem dX10_measure_115 : decode cX10_measure 115 = .ok (.iload 8, 2) := by decide +kernel
theorem dX10_measure_117 : decode cX10_measure 117 = .ok (.iadd, 1) := by decide +kernel
theorem dX10_measure_118 : decode cX10_measure 118 = .ok (.iaload, 1) := by decide +kernel
theorem dX10_measure_119 : decode cX10_measure 119 = .ok (.istore 9, 2) := by decide +kernel
theorem dX10_measure_121 : decode cX10_measure 121 = .ok (.aload_n 0, 1) := by decide +kernel
theorem dX10_measure_122 : decode cX10_measure 122 = .ok (.getfield 51, 3) := by decide +kernel
theorem dX10_measure_125 : decode cX10_measure 125 = .ok (.iload 9, 2) := by decide +kernel
theorem dX10_measure_127 : decode cX10_measure 127 = .ok (.iaload, 1) := by decide +kernel
theorem dX10_measure_128 : decode cX10_measure 128 = .ok (.ifCond .ge 47, 3) := by decide +kernel
theorem dX10_measure_131 : decode cX10_measure 131 = .ok (.iload_n 2, 1) := by decide +kernel
theorem dX10_measure_132 : decode cX10_measure 132 = .ok (.ifCond .eq 16, 3) := by decide +kernel
theorem dX10_measure_135 : decode cX10_measure 135 = .ok (.aload_n 0, 1) := by decide +kernel
theorem dX10_measure_136 : decode cX10_measure 136 = .ok (.getfield 57, 3) := by decide +kernel
theorem dX10_measure_139 : decode cX10_measure 139 = .ok (.iload 9, 2) := by decide +kernel
theorem dX10_measure_141 : decode cX10_measure 141 = .ok (.baload, 1) := by decide +kernel
theorem dX10_measure_142 : decode cX10_measure 142 = .ok (.ifCond .ne 6, 3) := by decide +kernel
theorem dX10_measure_145 : decode cX10_measure 145 = .ok (.goto 30, 3) := by decide +kernel
theorem dX10_measure_148 : decode cX10_measure 148 = .ok (.aload_n 0, 1) := by decide +kernel
theorem dX10_measure_149 : decode cX10_measure 149 = .ok (.getfield 51, 3) := by decide +kernel
theorem dX10_measure_152 : decode cX10_measure 152 = .ok (.iload 9, 2) := by decide +kernel
theorem dX10_measure_154 : decode cX10_measure 154 = .ok (.aload_n 0, 1) := by decide +kernel
theorem dX10_measure_155 : decode cX10_measure 155 = .ok (.getfield 51, 3) := by decide +kernel
theorem dX10_measure_158 : decode cX10_measure 158 = .ok (.iload 5, 2) := by decide +kernel
theorem dX10_measure_160 : decode cX10_measure 160 = .ok (.iaload, 1) := by decide +kernel
theorem dX10_measure_161 : decode cX10_measure 161 = .ok (.iconst 1, 1) := by decide +kernel
theorem dX10_measure_162 : decode cX10_measure 162 = .ok (.iadd, 1) := by decide +kernel
theorem dX10_measure_163 : decode cX10_measure 163 = .ok (.iastore, 1) := by decide +kernel
theorem dX10_measure_164 : decode cX10_measure 164 = .ok (.aload_n 0, 1) := by decide +kernel
theorem dX10_measure_165 : decode cX10_measure 165 = .ok (.getfield 54, 3) := by decide +kernel
theorem dX10_measure_168 : decode cX10_measure 168 = .ok (.iload_n 3, 1) := by decide +kernel
theorem dX10_measure_169 : decode cX10_measure 169 = .ok (.iload 9, 2) := by decide +kernel
theorem dX10_measure_171 : decode cX10_measure 171 = .ok (.iastore, 1) := by decide +kernel
theorem dX10_measure_172 : decode cX10_measure 172 = .ok (.iinc 3 1, 3) := by decide +kernel
theorem dX10_measure_175 : decode cX10_measure 175 = .ok (.iinc 8 1, 3) := by decide +kernel
theorem dX10_measure_178 : decode cX10_measure 178 = .ok (.goto (-84), 3) := by decide +kernel
theorem dX10_measure_181 : decode cX10_measure 181 = .ok (.iinc 6 1, 3) := by decide +kernel
theorem dX10_measure_184 : decode cX10_measure 184 = .ok (.goto (-126), 3) := by decide +kernel
theorem dX10_measure_187 : decode cX10_measure 187 = .ok (.iinc 4 1, 3) := by decide +kernel
theorem dX10_measure_190 : decode cX10_measure 190 = .ok (.goto (-150), 3) := by decide +kernel
theorem dX10_measure_193 : decode cX10_measure 193 = .ok (.return_, 1) := by decide +kernel
theorem dX10_walk_0 : decode cX10_walk 0 = .ok (.aload_n 0, 1) := by decide +kernel
theorem dX10_walk_1 : decode cX10_walk 1 = .ok (.iconst 0, 1) := by decide +kernel
theorem dX10_walk_2 : decode cX10_walk 2 = .ok (.putfield 114, 3) := by decide +kernel
theorem dX10_walk_5 : decode cX10_walk 5 = .ok (.iload_n 1, 1) := by decide +kernel
theorem dX10_walk_6 : decode cX10_walk 6 = .ok (.istore_n 2, 1) := by decide +kernel
theorem dX10_walk_7 : decode cX10_walk 7 = .ok (.aload_n 0, 1) := by decide +kernel
theorem dX10_walk_8 : decode cX10_walk 8 = .ok (.iload_n 2, 1) := by decide +kernel
theorem dX10_walk_9 : decode cX10_walk 9 = .ok (.invokevirtual 117, 3) := by decide +kernel
theorem dX10_walk_12 : decode cX10_walk 12 = .ok (.aload_n 0, 1) := by decide +kernel
theorem dX10_walk_13 : decode cX10_walk 13 = .ok (.getfield 51, 3) := by decide +kernel
theorem dX10_walk_16 : decode cX10_walk 16 = .ok (.iload_n 2, 1) := by decide +kernel
theorem dX10_walk_17 : decode cX10_walk 17 = .ok (.iaload, 1) := by decide +kernel
theorem dX10_walk_18 : decode cX10_walk 18 = .ok (.ifCond .le 133, 3) := by decide +kernel
theorem dX10_walk_21 : decode cX10_walk 21 = .ok (.iconst (-1), 1) := by decide +kernel
theorem dX10_walk_22 : decode cX10_walk 22 = .ok (.istore_n 3, 1) := by decide +kernel
theorem dX10_walk_23 : decode cX10_walk 23 = .ok (.iconst 0, 1) := by decide +kernel
theorem dX10_walk_24 : decode cX10_walk 24 = .ok (.istore 4, 2) := by decide +kernel
theorem dX10_walk_26 : decode cX10_walk 26 = .ok (.iload 4, 2) := by decide +kernel
theorem dX10_walk_28 : decode cX10_walk 28 = .ok (.aload_n 0, 1) := by decide +kernel
theorem dX10_walk_29 : decode cX10_walk 29 = .ok (.getfield 85, 3) := by decide +kernel
theorem dX10_walk_32 : decode cX10_walk 32 = .ok (.if_icmp .ge 109, 3) := by decide +kernel
theorem dX10_walk_35 : decode cX10_walk 35 = .ok (.aload_n 0, 1) := by decide +kernel
theorem dX10_walk_36 : decode cX10_walk 36 = .ok (.getfield 23, 3) := by decide +kernel
theorem dX10_walk_39 : decode cX10_walk 39 = .ok (.iload 4, 2) := by decide +kernel
theorem dX10_walk_41 : decode cX10_walk 41 = .ok (.iaload, 1) := by decide +kernel
theorem dX10_walk_42 : decode cX10_walk 42 = .ok (.iconst 1, 1) := by decide +kernel
theorem dX10_walk_43 : decode cX10_walk 43 = .ok (.if_icmp .eq 6, 3) := by decide +kernel
theorem dX10_walk_46 : decode cX10_walk 46 = .ok (.goto 89, 3) := by decide +kernel
theorem dX10_walk_49 : decode cX10_walk 49 = .ok (.iload 4, 2) := by decide +kernel
theorem dX10_walk_51 : decode cX10_walk 51 = .ok (.bipush 100, 2) := by decide +kernel
theorem dX10_walk_53 : decode cX10_walk 53 = .ok (.imul, 1) := by decide +kernel
theorem dX10_walk_54 : decode cX10_walk 54 = .ok (.iload_n 2, 1) := by decide +kernel
theorem dX10_walk_55 : decode cX10_walk 55 = .ok (.iadd, 1) := by decide +kernel
theorem dX10_walk_56 : decode cX10_walk 56 = .ok (.istore 5, 2) := by decide +kernel
theorem dX10_walk_58 : decode cX10_walk 58 = .ok (.iconst 0, 1) := by decide +kernel
theorem dX10_walk_59 : decode cX10_walk 59 = .ok (.istore 6, 2) := by decide +kernel
theorem dX10_walk_61 : decode cX10_walk 61 = .ok (.iload 6, 2) := by decide +kernel
theorem dX10_walk_63 : decode cX10_walk 63 = .ok (.aload_n 0, 1) := by decide +kernel
theorem dX10_walk_64 : decode cX10_walk 64 = .ok (.getfield 36, 3) := by decide +kernel
theorem dX10_walk_67 : decode cX10_walk 67 = .ok (.iload 5, 2) := by decide +kernel
theorem dX10_walk_69 : decode cX10_walk 69 = .ok (.iaload, 1) := by decide +kernel
theorem dX10_walk_70 : decode cX10_walk 70 = .ok (.if_icmp .ge 65, 3) := by decide +kernel
