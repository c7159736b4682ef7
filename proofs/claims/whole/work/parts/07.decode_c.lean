theorem dX10_thrown_0 : decode cX10_thrown 0 = .ok (.aload_n 0, 1) := by decide +kernel
theorem dX10_thrown_1 : decode cX10_thrown 1 = .ok (.getfield 1, 3) := by decide +kernel
theorem dX10_thrown_4 : decode cX10_thrown 4 = .ok (.ireturn, 1) := by decide +kernel
theorem dX10_fails_0 : decode cX10_fails 0 = .ok (.aload_n 0, 1) := by decide +kernel
theorem dX10_fails_1 : decode cX10_fails 1 = .ok (.iload_n 1, 1) := by decide +kernel
theorem dX10_fails_2 : decode cX10_fails 2 = .ok (.putfield 1, 3) := by decide +kernel
theorem dX10_fails_5 : decode cX10_fails 5 = .ok (.iload_n 1, 1) := by decide +kernel
theorem dX10_fails_6 : decode cX10_fails 6 = .ok (.ifCond .eq 7, 3) := by decide +kernel
theorem dX10_fails_9 : decode cX10_fails 9 = .ok (.iconst 1, 1) := by decide +kernel
theorem dX10_fails_10 : decode cX10_fails 10 = .ok (.goto 4, 3) := by decide +kernel
theorem dX10_fails_13 : decode cX10_fails 13 = .ok (.iconst 0, 1) := by decide +kernel
theorem dX10_fails_14 : decode cX10_fails 14 = .ok (.ireturn, 1) := by decide +kernel
theorem dX10_init_0 : decode cX10_init 0 = .ok (.aload_n 0, 1) := by decide +kernel
theorem dX10_init_1 : decode cX10_init 1 = .ok (.invokespecial 7, 3) := by decide +kernel
theorem dX10_init_4 : decode cX10_init 4 = .ok (.aload_n 0, 1) := by decide +kernel
theorem dX10_init_5 : decode cX10_init 5 = .ok (.bipush 10, 2) := by decide +kernel
theorem dX10_init_7 : decode cX10_init 7 = .ok (.newarray .int, 2) := by decide +kernel
theorem dX10_init_9 : decode cX10_init 9 = .ok (.putfield 13, 3) := by decide +kernel
theorem dX10_init_12 : decode cX10_init 12 = .ok (.aload_n 0, 1) := by decide +kernel
theorem dX10_init_13 : decode cX10_init 13 = .ok (.bipush 10, 2) := by decide +kernel
theorem dX10_init_15 : decode cX10_init 15 = .ok (.newarray .int, 2) := by decide +kernel
theorem dX10_init_17 : decode cX10_init 17 = .ok (.putfield 17, 3) := by decide +kernel
theorem dX10_init_20 : decode cX10_init 20 = .ok (.aload_n 0, 1) := by decide +kernel
theorem dX10_init_21 : decode cX10_init 21 = .ok (.bipush 10, 2) := by decide +kernel
theorem dX10_init_23 : decode cX10_init 23 = .ok (.newarray .int, 2) := by decide +kernel
theorem dX10_init_25 : decode cX10_init 25 = .ok (.putfield 20, 3) := by decide +kernel
theorem dX10_init_28 : decode cX10_init 28 = .ok (.aload_n 0, 1) := by decide +kernel
theorem dX10_init_29 : decode cX10_init 29 = .ok (.bipush 10, 2) := by decide +kernel
theorem dX10_init_31 : decode cX10_init 31 = .ok (.newarray .int, 2) := by decide +kernel
theorem dX10_init_33 : decode cX10_init 33 = .ok (.putfield 23, 3) := by decide +kernel
theorem dX10_init_36 : decode cX10_init 36 = .ok (.aload_n 0, 1) := by decide +kernel
theorem dX10_init_37 : decode cX10_init 37 = .ok (.bipush 100, 2) := by decide +kernel
theorem dX10_init_39 : decode cX10_init 39 = .ok (.newarray .boolean, 2) := by decide +kernel
theorem dX10_init_41 : decode cX10_init 41 = .ok (.putfield 26, 3) := by decide +kernel
theorem dX10_init_44 : decode cX10_init 44 = .ok (.aload_n 0, 1) := by decide +kernel
theorem dX10_init_45 : decode cX10_init 45 = .ok (.bipush 100, 2) := by decide +kernel
theorem dX10_init_47 : decode cX10_init 47 = .ok (.newarray .int, 2) := by decide +kernel
theorem dX10_init_49 : decode cX10_init 49 = .ok (.putfield 30, 3) := by decide +kernel
theorem dX10_init_52 : decode cX10_init 52 = .ok (.aload_n 0, 1) := by decide +kernel
theorem dX10_init_53 : decode cX10_init 53 = .ok (.bipush 100, 2) := by decide +kernel
theorem dX10_init_55 : decode cX10_init 55 = .ok (.newarray .int, 2) := by decide +kernel
theorem dX10_init_57 : decode cX10_init 57 = .ok (.putfield 33, 3) := by decide +kernel
theorem dX10_init_60 : decode cX10_init 60 = .ok (.aload_n 0, 1) := by decide +kernel
theorem dX10_init_61 : decode cX10_init 61 = .ok (.sipush 1000, 3) := by decide +kernel
theorem dX10_init_64 : decode cX10_init 64 = .ok (.newarray .int, 2) := by decide +kernel
theorem dX10_init_66 : decode cX10_init 66 = .ok (.putfield 36, 3) := by decide +kernel
theorem dX10_init_69 : decode cX10_init 69 = .ok (.aload_n 0, 1) := by decide +kernel
theorem dX10_init_70 : decode cX10_init 70 = .ok (.sipush 1000, 3) := by decide +kernel
theorem dX10_init_73 : decode cX10_init 73 = .ok (.newarray .int, 2) := by decide +kernel
theorem dX10_init_75 : decode cX10_init 75 = .ok (.putfield 39, 3) := by decide +kernel
theorem dX10_init_78 : decode cX10_init 78 = .ok (.aload_n 0, 1) := by decide +kernel
theorem dX10_init_79 : decode cX10_init 79 = .ok (.sipush 12000, 3) := by decide +kernel
theorem dX10_init_82 : decode cX10_init 82 = .ok (.newarray .int, 2) := by decide +kernel
theorem dX10_init_84 : decode cX10_init 84 = .ok (.putfield 42, 3) := by decide +kernel
theorem dX10_init_87 : decode cX10_init 87 = .ok (.aload_n 0, 1) := by decide +kernel
theorem dX10_init_88 : decode cX10_init 88 = .ok (.sipush 12000, 3) := by decide +kernel
theorem dX10_init_91 : decode cX10_init 91 = .ok (.newarray .int, 2) := by decide +kernel
theorem dX10_init_93 : decode cX10_init 93 = .ok (.putfield 45, 3) := by decide +kernel
theorem dX10_init_96 : decode cX10_init 96 = .ok (.aload_n 0, 1) := by decide +kernel
theorem dX10_init_97 : decode cX10_init 97 = .ok (.bipush 101, 2) := by decide +kernel
theorem dX10_init_99 : decode cX10_init 99 = .ok (.newarray .int, 2) := by decide +kernel
theorem dX10_init_101 : decode cX10_init 101 = .ok (.putfield 48, 3) := by decide +kernel
theorem dX10_init_104 : decode cX10_init 104 = .ok (.aload_n 0, 1) := by decide +kernel
theorem dX10_init_105 : decode cX10_init 105 = .ok (.bipush 100, 2) := by decide +kernel
theorem dX10_init_107 : decode cX10_init 107 = .ok (.newarray .int, 2) := by decide +kernel
theorem dX10_init_109 : decode cX10_init 109 = .ok (.putfield 51, 3) := by decide +kernel
theorem dX10_init_112 : decode cX10_init 112 = .ok (.aload_n 0, 1) := by decide +kernel
theorem dX10_init_113 : decode cX10_init 113 = .ok (.bipush 100, 2) := by decide +kernel
theorem dX10_init_115 : decode cX10_init 115 = .ok (.newarray .int, 2) := by decide +kernel
theorem dX10_init_117 : decode cX10_init 117 = .ok (.putfield 54, 3) := by decide +kernel
theorem dX10_init_120 : decode cX10_init 120 = .ok (.aload_n 0, 1) := by decide +kernel
theorem dX10_init_121 : decode cX10_init 121 = .ok (.bipush 100, 2) := by decide +kernel
theorem dX10_init_123 : decode cX10_init 123 = .ok (.newarray .boolean, 2) := by decide +kernel
theorem dX10_init_125 : decode cX10_init 125 = .ok (.putfield 57, 3) := by decide +kernel
theorem dX10_init_128 : decode cX10_init 128 = .ok (.aload_n 0, 1) := by decide +kernel
theorem dX10_init_129 : decode cX10_init 129 = .ok (.bipush 100, 2) := by decide +kernel
theorem dX10_init_131 : decode cX10_init 131 = .ok (.newarray .boolean, 2) := by decide +kernel
theorem dX10_init_133 : decode cX10_init 133 = .ok (.putfield 60, 3) := by decide +kernel
theorem dX10_init_136 : decode cX10_init 136 = .ok (.aload_n 0, 1) := by decide +kernel
theorem dX10_init_137 : decode cX10_init 137 = .ok (.bipush 100, 2) := by decide +kernel
theorem dX10_init_139 : decode cX10_init 139 = .ok (.newarray .int, 2) := by decide +kernel
theorem dX10_init_141 : decode cX10_init 141 = .ok (.putfield 63, 3) := by decide +kernel
theorem dX10_init_144 : decode cX10_init 144 = .ok (.aload_n 0, 1) := by decide +kernel
theorem dX10_init_145 : decode cX10_init 145 = .ok (.bipush 100, 2) := by decide +kernel
theorem dX10_init_147 : decode cX10_init 147 = .ok (.newarray .int, 2) := by decide +kernel
theorem dX10_init_149 : decode cX10_init 149 = .ok (.putfield 66, 3) := by decide +kernel
theorem dX10_init_152 : decode cX10_init 152 = .ok (.aload_n 0, 1) := by decide +kernel
theorem dX10_init_153 : decode cX10_init 153 = .ok (.bipush 100, 2) := by decide +kernel
theorem dX10_init_155 : decode cX10_init 155 = .ok (.newarray .int, 2) := by decide +kernel
theorem dX10_init_157 : decode cX10_init 157 = .ok (.putfield 69, 3) := by decide +kernel
theorem dX10_init_160 : decode cX10_init 160 = .ok (.aload_n 0, 1) := by decide +kernel
theorem dX10_init_161 : decode cX10_init 161 = .ok (.sipush 10000, 3) := by decide +kernel
theorem dX10_init_164 : decode cX10_init 164 = .ok (.newarray .byte, 2) := by decide +kernel
theorem dX10_init_166 : decode cX10_init 166 = .ok (.putfield 72, 3) := by decide +kernel
theorem dX10_init_169 : decode cX10_init 169 = .ok (.aload_n 0, 1) := by decide +kernel
theorem dX10_init_170 : decode cX10_init 170 = .ok (.sipush 1024, 3) := by decide +kernel
theorem dX10_init_173 : decode cX10_init 173 = .ok (.newarray .int, 2) := by decide +kernel
theorem dX10_init_175 : decode cX10_init 175 = .ok (.putfield 76, 3) := by decide +kernel
theorem dX10_init_178 : decode cX10_init 178 = .ok (.aload_n 0, 1) := by decide +kernel
theorem dX10_init_179 : decode cX10_init 179 = .ok (.sipush 1024, 3) := by decide +kernel
theorem dX10_init_182 : decode cX10_init 182 = .ok (.newarray .int, 2) := by decide +kernel
theorem dX10_init_184 : decode cX10_init 184 = .ok (.putfield 79, 3) := by decide +kernel
theorem dX10_init_187 : decode cX10_init 187 = .ok (.aload_n 0, 1) := by decide +kernel
theorem dX10_init_188 : decode cX10_init 188 = .ok (.bipush 12, 2) := by decide +kernel
theorem dX10_init_190 : decode cX10_init 190 = .ok (.newarray .int, 2) := by decide +kernel
theorem dX10_init_192 : decode cX10_init 192 = .ok (.putfield 82, 3) := by decide +kernel
theorem dX10_init_195 : decode cX10_init 195 = .ok (.return_, 1) := by decide +kernel
theorem dX10_isLink_0 : decode cX10_isLink 0 = .ok (.iload_n 1, 1) := by decide +kernel
theorem dX10_isLink_1 : decode cX10_isLink 1 = .ok (.ifCond .lt 15, 3) := by decide +kernel
theorem dX10_isLink_4 : decode cX10_isLink 4 = .ok (.iload_n 1, 1) := by decide +kernel
theorem dX10_isLink_5 : decode cX10_isLink 5 = .ok (.aload_n 0, 1) := by decide +kernel
theorem dX10_isLink_6 : decode cX10_isLink 6 = .ok (.getfield 85, 3) := by decide +kernel
theorem dX10_isLink_9 : decode cX10_isLink 9 = .ok (.if_icmp .ge 7, 3) := by decide +kernel
theorem dX10_isLink_12 : decode cX10_isLink 12 = .ok (.iconst 1, 1) := by decide +kernel
theorem dX10_isLink_13 : decode cX10_isLink 13 = .ok (.goto 4, 3) := by decide +kernel
theorem dX10_isLink_16 : decode cX10_isLink 16 = .ok (.iconst 0, 1) := by decide +kernel
theorem dX10_isLink_17 : decode cX10_isLink 17 = .ok (.ireturn, 1) := by decide +kernel
theorem dX10_placeOf_0 : decode cX10_placeOf 0 = .ok (.iconst 0, 1) := by decide +kernel
theorem dX10_placeOf_1 : decode cX10_placeOf 1 = .ok (.istore_n 2, 1) := by decide +kernel
theorem dX10_placeOf_2 : decode cX10_placeOf 2 = .ok (.iload_n 2, 1) := by decide +kernel
theorem dX10_placeOf_3 : decode cX10_placeOf 3 = .ok (.bipush 100, 2) := by decide +kernel
theorem dX10_placeOf_5 : decode cX10_placeOf 5 = .ok (.if_icmp .ge 30, 3) := by decide +kernel
theorem dX10_placeOf_8 : decode cX10_placeOf 8 = .ok (.aload_n 0, 1) := by decide +kernel
theorem dX10_placeOf_9 : decode cX10_placeOf 9 = .ok (.getfield 26, 3) := by decide +kernel
theorem dX10_placeOf_12 : decode cX10_placeOf 12 = .ok (.iload_n 2, 1) := by decide +kernel
theorem dX10_placeOf_13 : decode cX10_placeOf 13 = .ok (.baload, 1) := by decide +kernel
theorem dX10_placeOf_14 : decode cX10_placeOf 14 = .ok (.ifCond .eq 15, 3) := by decide +kernel
theorem dX10_placeOf_17 : decode cX10_placeOf 17 = .ok (.aload_n 0, 1) := by decide +kernel
theorem dX10_placeOf_18 : decode cX10_placeOf 18 = .ok (.getfield 30, 3) := by decide +kernel
theorem dX10_placeOf_21 : decode cX10_placeOf 21 = .ok (.iload_n 2, 1) := by decide +kernel
theorem dX10_placeOf_22 : decode cX10_placeOf 22 = .ok (.iaload, 1) := by decide +kernel
theorem dX10_placeOf_23 : decode cX10_placeOf 23 = .ok (.iload_n 1, 1) := by decide +kernel
theorem dX10_placeOf_24 : decode cX10_placeOf 24 = .ok (.if_icmp .ne 5, 3) := by decide +kernel
theorem dX10_placeOf_27 : decode cX10_placeOf 27 = .ok (.iload_n 2, 1) := by decide +kernel
theorem dX10_placeOf_28 : decode cX10_placeOf 28 = .ok (.ireturn, 1) := by decide +kernel
theorem dX10_placeOf_29 : decode cX10_placeOf 29 = .ok (.iinc 2 1, 3) := by decide +kernel
theorem dX10_placeOf_32 : decode cX10_placeOf 32 = .ok (.goto (-30), 3) := by decide +kernel
theorem dX10_placeOf_35 : decode cX10_placeOf 35 = .ok (.iconst (-1), 1) := by decide +kernel
theorem dX10_placeOf_36 : decode cX10_placeOf 36 = .ok (.ireturn, 1) := by decide +kernel
theorem dX10_link_0 : decode cX10_link 0 = .ok (.iload_n 1, 1) := by decide +kernel
theorem dX10_link_1 : decode cX10_link 1 = .ok (.ifCond .lt 39, 3) := by decide +kernel
theorem dX10_link_4 : decode cX10_link 4 = .ok (.iload_n 1, 1) := by decide +kernel
theorem dX10_link_5 : decode cX10_link 5 = .ok (.bipush 9, 2) := by decide +kernel
theorem dX10_link_7 : decode cX10_link 7 = .ok (.if_icmp .gt 33, 3) := by decide +kernel
theorem dX10_link_10 : decode cX10_link 10 = .ok (.iload_n 2, 1) := by decide +kernel
theorem dX10_link_11 : decode cX10_link 11 = .ok (.ifCond .lt 29, 3) := by decide +kernel
theorem dX10_link_14 : decode cX10_link 14 = .ok (.iload_n 2, 1) := by decide +kernel
theorem dX10_link_15 : decode cX10_link 15 = .ok (.bipush 9, 2) := by decide +kernel
theorem dX10_link_17 : decode cX10_link 17 = .ok (.if_icmp .gt 23, 3) := by decide +kernel
theorem dX10_link_20 : decode cX10_link 20 = .ok (.iload_n 3, 1) := by decide +kernel
theorem dX10_link_21 : decode cX10_link 21 = .ok (.ifCond .lt 19, 3) := by decide +kernel
theorem dX10_link_24 : decode cX10_link 24 = .ok (.iload_n 3, 1) := by decide +kernel
theorem dX10_link_25 : decode cX10_link 25 = .ok (.iconst 2, 1) := by decide +kernel
theorem dX10_link_26 : decode cX10_link 26 = .ok (.if_icmp .gt 14, 3) := by decide +kernel
theorem dX10_link_29 : decode cX10_link 29 = .ok (.iload 4, 2) := by decide +kernel
theorem dX10_link_31 : decode cX10_link 31 = .ok (.ifCond .lt 9, 3) := by decide +kernel
theorem dX10_link_34 : decode cX10_link 34 = .ok (.iload 4, 2) := by decide +kernel
theorem dX10_link_36 : decode cX10_link 36 = .ok (.iconst 2, 1) := by decide +kernel
theorem dX10_link_37 : decode cX10_link 37 = .ok (.if_icmp .le 7, 3) := by decide +kernel
theorem dX10_link_40 : decode cX10_link 40 = .ok (.iconst 1, 1) := by decide +kernel
theorem dX10_link_41 : decode cX10_link 41 = .ok (.goto 4, 3) := by decide +kernel
theorem dX10_link_44 : decode cX10_link 44 = .ok (.iconst 0, 1) := by decide +kernel
theorem dX10_link_45 : decode cX10_link 45 = .ok (.istore 5, 2) := by decide +kernel
theorem dX10_link_47 : decode cX10_link 47 = .ok (.aload_n 0, 1) := by decide +kernel
theorem dX10_link_48 : decode cX10_link 48 = .ok (.iload 5, 2) := by decide +kernel
theorem dX10_link_50 : decode cX10_link 50 = .ok (.ifCond .eq 7, 3) := by decide +kernel
theorem dX10_link_53 : decode cX10_link 53 = .ok (.iconst 1, 1) := by decide +kernel
theorem dX10_link_54 : decode cX10_link 54 = .ok (.goto 17, 3) := by decide +kernel
theorem dX10_link_57 : decode cX10_link 57 = .ok (.aload_n 0, 1) := by decide +kernel
theorem dX10_link_58 : decode cX10_link 58 = .ok (.getfield 85, 3) := by decide +kernel
theorem dX10_link_61 : decode cX10_link 61 = .ok (.bipush 10, 2) := by decide +kernel
theorem dX10_link_63 : decode cX10_link 63 = .ok (.if_icmp .ne 7, 3) := by decide +kernel
theorem dX10_link_66 : decode cX10_link 66 = .ok (.iconst 2, 1) := by decide +kernel
theorem dX10_link_67 : decode cX10_link 67 = .ok (.goto 4, 3) := by decide +kernel
theorem dX10_link_70 : decode cX10_link 70 = .ok (.iconst 0, 1) := by decide +kernel
theorem dX10_link_71 : decode cX10_link 71 = .ok (.invokevirtual 88, 3) := by decide +kernel
theorem dX10_link_74 : decode cX10_link 74 = .ok (.ifCond .eq 5, 3) := by decide +kernel
theorem dX10_link_77 : decode cX10_link 77 = .ok (.iconst 0, 1) := by decide +kernel
theorem dX10_link_78 : decode cX10_link 78 = .ok (.ireturn, 1) := by decide +kernel
theorem dX10_link_79 : decode cX10_link 79 = .ok (.aload_n 0, 1) := by decide +kernel
theorem dX10_link_80 : decode cX10_link 80 = .ok (.getfield 13, 3) := by decide +kernel
theorem dX10_link_83 : decode cX10_link 83 = .ok (.aload_n 0, 1) := by decide +kernel
theorem dX10_link_84 : decode cX10_link 84 = .ok (.getfield 85, 3) := by decide +kernel
theorem dX10_link_87 : decode cX10_link 87 = .ok (.iload_n 1, 1) := by decide +kernel
theorem dX10_link_88 : decode cX10_link 88 = .ok (.iastore, 1) := by decide +kernel
theorem dX10_link_89 : decode cX10_link 89 = .ok (.aload_n 0, 1) := by decide +kernel
theorem dX10_link_90 : decode cX10_link 90 = .ok (.getfield 17, 3) := by decide +kernel
theorem dX10_link_93 : decode cX10_link 93 = .ok (.aload_n 0, 1) := by decide +kernel
theorem dX10_link_94 : decode cX10_link 94 = .ok (.getfield 85, 3) := by decide +kernel
theorem dX10_link_97 : decode cX10_link 97 = .ok (.iload_n 2, 1) := by decide +kernel
theorem dX10_link_98 : decode cX10_link 98 = .ok (.iastore, 1) := by decide +kernel
theorem dX10_link_99 : decode cX10_link 99 = .ok (.aload_n 0, 1) := by decide +kernel
theorem dX10_link_100 : decode cX10_link 100 = .ok (.getfield 20, 3) := by decide +kernel
theorem dX10_link_103 : decode cX10_link 103 = .ok (.aload_n 0, 1) := by decide +kernel
theorem dX10_link_104 : decode cX10_link 104 = .ok (.getfield 85, 3) := by decide +kernel
theorem dX10_link_107 : decode cX10_link 107 = .ok (.iload_n 3, 1) := by decide +kernel
theorem dX10_link_108 : decode cX10_link 108 = .ok (.iastore, 1) := by decide +kernel
theorem dX10_link_109 : decode cX10_link 109 = .ok (.aload_n 0, 1) := by decide +kernel
theorem dX10_link_110 : decode cX10_link 110 = .ok (.getfield 23, 3) := by decide +kernel
theorem dX10_link_113 : decode cX10_link 113 = .ok (.aload_n 0, 1) := by decide +kernel
theorem dX10_link_114 : decode cX10_link 114 = .ok (.getfield 85, 3) := by decide +kernel
theorem dX10_link_117 : decode cX10_link 117 = .ok (.iload 4, 2) := by decide +kernel
theorem dX10_link_119 : decode cX10_link 119 = .ok (.iastore, 1) := by decide +kernel
theorem dX10_link_120 : decode cX10_link 120 = .ok (.aload_n 0, 1) := by decide +kernel
theorem dX10_link_121 : decode cX10_link 121 = .ok (.dup, 1) := by decide +kernel
theorem dX10_link_122 : decode cX10_link 122 = .ok (.getfield 85, 3) := by decide +kernel
theorem dX10_link_125 : decode cX10_link 125 = .ok (.iconst 1, 1) := by decide +kernel
theorem dX10_link_126 : decode cX10_link 126 = .ok (.iadd, 1) := by decide +kernel
theorem dX10_link_127 : decode cX10_link 127 = .ok (.putfield 85, 3) := by decide +kernel
theorem dX10_link_130 : decode cX10_link 130 = .ok (.aload_n 0, 1) := by decide +kernel
theorem dX10_link_131 : decode cX10_link 131 = .ok (.getfield 85, 3) := by decide +kernel
theorem dX10_link_134 : decode cX10_link 134 = .ok (.iconst 1, 1) := by decide +kernel
theorem dX10_link_135 : decode cX10_link 135 = .ok (.isub, 1) := by decide +kernel
theorem dX10_link_136 : decode cX10_link 136 = .ok (.ireturn, 1) := by decide +kernel
theorem dX10_fresh_0 : decode cX10_fresh 0 = .ok (.iconst 0, 1) := by decide +kernel
theorem dX10_fresh_1 : decode cX10_fresh 1 = .ok (.istore_n 2, 1) := by decide +kernel
theorem dX10_fresh_2 : decode cX10_fresh 2 = .ok (.aload_n 0, 1) := by decide +kernel
theorem dX10_fresh_3 : decode cX10_fresh 3 = .ok (.getfield 26, 3) := by decide +kernel
theorem dX10_fresh_6 : decode cX10_fresh 6 = .ok (.iload_n 2, 1) := by decide +kernel
theorem dX10_fresh_7 : decode cX10_fresh 7 = .ok (.baload, 1) := by decide +kernel
theorem dX10_fresh_8 : decode cX10_fresh 8 = .ok (.ifCond .eq 9, 3) := by decide +kernel
theorem dX10_fresh_11 : decode cX10_fresh 11 = .ok (.iinc 2 1, 3) := by decide +kernel
theorem dX10_fresh_14 : decode cX10_fresh 14 = .ok (.goto (-12), 3) := by decide +kernel
theorem dX10_fresh_17 : decode cX10_fresh 17 = .ok (.aload_n 0, 1) := by decide +kernel
theorem dX10_fresh_18 : decode cX10_fresh 18 = .ok (.getfield 26, 3) := by decide +kernel
theorem dX10_fresh_21 : decode cX10_fresh 21 = .ok (.iload_n 2, 1) := by decide +kernel
theorem dX10_fresh_22 : decode cX10_fresh 22 = .ok (.iconst 1, 1) := by decide +kernel
theorem dX10_fresh_23 : decode cX10_fresh 23 = .ok (.bastore, 1) := by decide +kernel
theorem dX10_fresh_24 : decode cX10_fresh 24 = .ok (.aload_n 0, 1) := by decide +kernel
theorem dX10_fresh_25 : decode cX10_fresh 25 = .ok (.getfield 30, 3) := by decide +kernel
theorem dX10_fresh_28 : decode cX10_fresh 28 = .ok (.iload_n 2, 1) := by decide +kernel
theorem dX10_fresh_29 : decode cX10_fresh 29 = .ok (.aload_n 0, 1) := by decide +kernel
theorem dX10_fresh_30 : decode cX10_fresh 30 = .ok (.getfield 92, 3) := by decide +kernel
theorem dX10_fresh_33 : decode cX10_fresh 33 = .ok (.iastore, 1) := by decide +kernel
theorem dX10_fresh_34 : decode cX10_fresh 34 = .ok (.aload_n 0, 1) := by decide +kernel
theorem dX10_fresh_35 : decode cX10_fresh 35 = .ok (.getfield 33, 3) := by decide +kernel
theorem dX10_fresh_38 : decode cX10_fresh 38 = .ok (.iload_n 2, 1) := by decide +kernel
theorem dX10_fresh_39 : decode cX10_fresh 39 = .ok (.iload_n 1, 1) := by decide +kernel
theorem dX10_fresh_40 : decode cX10_fresh 40 = .ok (.iastore, 1) := by decide +kernel
theorem dX10_fresh_41 : decode cX10_fresh 41 = .ok (.aload_n 0, 1) := by decide +kernel
theorem dX10_fresh_42 : decode cX10_fresh 42 = .ok (.dup, 1) := by decide +kernel
theorem dX10_fresh_43 : decode cX10_fresh 43 = .ok (.getfield 92, 3) := by decide +kernel
theorem dX10_fresh_46 : decode cX10_fresh 46 = .ok (.iconst 1, 1) := by decide +kernel
theorem dX10_fresh_47 : decode cX10_fresh 47 = .ok (.iadd, 1) := by decide +kernel
theorem dX10_fresh_48 : decode cX10_fresh 48 = .ok (.putfield 92, 3) := by decide +kernel
theorem dX10_fresh_51 : decode cX10_fresh 51 = .ok (.aload_n 0, 1) := by decide +kernel
theorem dX10_fresh_52 : decode cX10_fresh 52 = .ok (.dup, 1) := by decide +kernel
theorem dX10_fresh_53 : decode cX10_fresh 53 = .ok (.getfield 95, 3) := by decide +kernel
theorem dX10_fresh_56 : decode cX10_fresh 56 = .ok (.iconst 1, 1) := by decide +kernel
theorem dX10_fresh_57 : decode cX10_fresh 57 = .ok (.iadd, 1) := by decide +kernel
theorem dX10_fresh_58 : decode cX10_fresh 58 = .ok (.putfield 95, 3) := by decide +kernel
theorem dX10_fresh_61 : decode cX10_fresh 61 = .ok (.iconst 0, 1) := by decide +kernel
theorem dX10_fresh_62 : decode cX10_fresh 62 = .ok (.istore_n 3, 1) := by decide +kernel
theorem dX10_fresh_63 : decode cX10_fresh 63 = .ok (.iload_n 3, 1) := by decide +kernel
theorem dX10_fresh_64 : decode cX10_fresh 64 = .ok (.bipush 10, 2) := by decide +kernel
theorem dX10_fresh_66 : decode cX10_fresh 66 = .ok (.if_icmp .ge 33, 3) := by decide +kernel
theorem dX10_fresh_69 : decode cX10_fresh 69 = .ok (.aload_n 0, 1) := by decide +kernel
theorem dX10_fresh_70 : decode cX10_fresh 70 = .ok (.getfield 36, 3) := by decide +kernel
theorem dX10_fresh_73 : decode cX10_fresh 73 = .ok (.iload_n 3, 1) := by decide +kernel
theorem dX10_fresh_74 : decode cX10_fresh 74 = .ok (.bipush 100, 2) := by decide +kernel
theorem dX10_fresh_76 : decode cX10_fresh 76 = .ok (.imul, 1) := by decide +kernel
theorem dX10_fresh_77 : decode cX10_fresh 77 = .ok (.iload_n 2, 1) := by decide +kernel
theorem dX10_fresh_78 : decode cX10_fresh 78 = .ok (.iadd, 1) := by decide +kernel
theorem dX10_fresh_79 : decode cX10_fresh 79 = .ok (.iconst 0, 1) := by decide +kernel
theorem dX10_fresh_80 : decode cX10_fresh 80 = .ok (.iastore, 1) := by decide +kernel
theorem dX10_fresh_81 : decode cX10_fresh 81 = .ok (.aload_n 0, 1) := by decide +kernel
theorem dX10_fresh_82 : decode cX10_fresh 82 = .ok (.getfield 39, 3) := by decide +kernel
theorem dX10_fresh_85 : decode cX10_fresh 85 = .ok (.iload_n 3, 1) := by decide +kernel
theorem dX10_fresh_86 : decode cX10_fresh 86 = .ok (.bipush 100, 2) := by decide +kernel
theorem dX10_fresh_88 : decode cX10_fresh 88 = .ok (.imul, 1) := by decide +kernel
theorem dX10_fresh_89 : decode cX10_fresh 89 = .ok (.iload_n 2, 1) := by decide +kernel
theorem dX10_fresh_90 : decode cX10_fresh 90 = .ok (.iadd, 1) := by decide +kernel
theorem dX10_fresh_91 : decode cX10_fresh 91 = .ok (.iconst 0, 1) := by decide +kernel
theorem dX10_fresh_92 : decode cX10_fresh 92 = .ok (.iastore, 1) := by decide +kernel
theorem dX10_fresh_93 : decode cX10_fresh 93 = .ok (.iinc 3 1, 3) := by decide +kernel
theorem dX10_fresh_96 : decode cX10_fresh 96 = .ok (.goto (-33), 3) := by decide +kernel
theorem dX10_fresh_99 : decode cX10_fresh 99 = .ok (.iload_n 2, 1) := by decide +kernel
theorem dX10_fresh_100 : decode cX10_fresh 100 = .ok (.ireturn, 1) := by decide +kernel
theorem dX10_make_0 : decode cX10_make 0 = .ok (.aload_n 0, 1) := by decide +kernel
theorem dX10_make_1 : decode cX10_make 1 = .ok (.iload_n 1, 1) := by decide +kernel
theorem dX10_make_2 : decode cX10_make 2 = .ok (.ifCond .lt 9, 3) := by decide +kernel
theorem dX10_make_5 : decode cX10_make 5 = .ok (.iload_n 1, 1) := by decide +kernel
theorem dX10_make_6 : decode cX10_make 6 = .ok (.bipush 9, 2) := by decide +kernel
theorem dX10_make_8 : decode cX10_make 8 = .ok (.if_icmp .le 7, 3) := by decide +kernel
theorem dX10_make_11 : decode cX10_make 11 = .ok (.iconst 1, 1) := by decide +kernel
theorem dX10_make_12 : decode cX10_make 12 = .ok (.goto 17, 3) := by decide +kernel
theorem dX10_make_15 : decode cX10_make 15 = .ok (.aload_n 0, 1) := by decide +kernel
theorem dX10_make_16 : decode cX10_make 16 = .ok (.getfield 95, 3) := by decide +kernel
theorem dX10_make_19 : decode cX10_make 19 = .ok (.bipush 100, 2) := by decide +kernel
theorem dX10_make_21 : decode cX10_make 21 = .ok (.if_icmp .ne 7, 3) := by decide +kernel
theorem dX10_make_24 : decode cX10_make 24 = .ok (.iconst 2, 1) := by decide +kernel
theorem dX10_make_25 : decode cX10_make 25 = .ok (.goto 4, 3) := by decide +kernel
theorem dX10_make_28 : decode cX10_make 28 = .ok (.iconst 0, 1) := by decide +kernel
theorem dX10_make_29 : decode cX10_make 29 = .ok (.invokevirtual 88, 3) := by decide +kernel
theorem dX10_make_32 : decode cX10_make 32 = .ok (.ifCond .eq 5, 3) := by decide +kernel
theorem dX10_make_35 : decode cX10_make 35 = .ok (.iconst 0, 1) := by decide +kernel
theorem dX10_make_36 : decode cX10_make 36 = .ok (.ireturn, 1) := by decide +kernel
theorem dX10_make_37 : decode cX10_make 37 = .ok (.aload_n 0, 1) := by decide +kernel
theorem dX10_make_38 : decode cX10_make 38 = .ok (.getfield 30, 3) := by decide +kernel
theorem dX10_make_41 : decode cX10_make 41 = .ok (.aload_n 0, 1) := by decide +kernel
theorem dX10_make_42 : decode cX10_make 42 = .ok (.iload_n 1, 1) := by decide +kernel
theorem dX10_make_43 : decode cX10_make 43 = .ok (.invokevirtual 98, 3) := by decide +kernel
theorem dX10_make_46 : decode cX10_make 46 = .ok (.iaload, 1) := by decide +kernel
theorem dX10_make_47 : decode cX10_make 47 = .ok (.ireturn, 1) := by decide +kernel
theorem dX10_indexIn_0 : decode cX10_indexIn 0 = .ok (.iconst 0, 1) := by decide +kernel
theorem dX10_indexIn_1 : decode cX10_indexIn 1 = .ok (.istore 5, 2) := by decide +kernel
theorem dX10_indexIn_3 : decode cX10_indexIn 3 = .ok (.iload 5, 2) := by decide +kernel
theorem dX10_indexIn_5 : decode cX10_indexIn 5 = .ok (.aload_n 2, 1) := by decide +kernel
theorem dX10_indexIn_6 : decode cX10_indexIn 6 = .ok (.iload_n 3, 1) := by decide +kernel
theorem dX10_indexIn_7 : decode cX10_indexIn 7 = .ok (.iaload, 1) := by decide +kernel
theorem dX10_indexIn_8 : decode cX10_indexIn 8 = .ok (.if_icmp .ge 26, 3) := by decide +kernel
theorem dX10_indexIn_11 : decode cX10_indexIn 11 = .ok (.aload_n 1, 1) := by decide +kernel
theorem dX10_indexIn_12 : decode cX10_indexIn 12 = .ok (.iload_n 3, 1) := by decide +kernel
theorem dX10_indexIn_13 : decode cX10_indexIn 13 = .ok (.bipush 12, 2) := by decide +kernel
theorem dX10_indexIn_15 : decode cX10_indexIn 15 = .ok (.imul, 1) := by decide +kernel
theorem dX10_indexIn_16 : decode cX10_indexIn 16 = .ok (.iload 5, 2) := by decide +kernel
theorem dX10_indexIn_18 : decode cX10_indexIn 18 = .ok (.iadd, 1) := by decide +kernel
theorem dX10_indexIn_19 : decode cX10_indexIn 19 = .ok (.iaload, 1) := by decide +kernel
theorem dX10_indexIn_20 : decode cX10_indexIn 20 = .ok (.iload 4, 2) := by decide +kernel
theorem dX10_indexIn_22 : decode cX10_indexIn 22 = .ok (.if_icmp .ne 6, 3) := by decide +kernel
theorem dX10_indexIn_25 : decode cX10_indexIn 25 = .ok (.iload 5, 2) := by decide +kernel
theorem dX10_indexIn_27 : decode cX10_indexIn 27 = .ok (.ireturn, 1) := by decide +kernel
theorem dX10_indexIn_28 : decode cX10_indexIn 28 = .ok (.iinc 5 1, 3) := by decide +kernel
theorem dX10_indexIn_31 : decode cX10_indexIn 31 = .ok (.goto (-28), 3) := by decide +kernel
theorem dX10_indexIn_34 : decode cX10_indexIn 34 = .ok (.iconst (-1), 1) := by decide +kernel
theorem dX10_indexIn_35 : decode cX10_indexIn 35 = .ok (.ireturn, 1) := by decide +kernel
theorem dX10_insert_0 : decode cX10_insert 0 = .ok (.aload_n 2, 1) := by decide +kernel
theorem dX10_insert_1 : decode cX10_insert 1 = .ok (.iload_n 3, 1) := by decide +kernel
theorem dX10_insert_2 : decode cX10_insert 2 = .ok (.iaload, 1) := by decide +kernel
theorem dX10_insert_3 : decode cX10_insert 3 = .ok (.istore 6, 2) := by decide +kernel
theorem dX10_insert_5 : decode cX10_insert 5 = .ok (.iload 6, 2) := by decide +kernel
theorem dX10_insert_7 : decode cX10_insert 7 = .ok (.iload 4, 2) := by decide +kernel
theorem dX10_insert_9 : decode cX10_insert 9 = .ok (.if_icmp .le 29, 3) := by decide +kernel
theorem dX10_insert_12 : decode cX10_insert 12 = .ok (.aload_n 1, 1) := by decide +kernel
theorem dX10_insert_13 : decode cX10_insert 13 = .ok (.iload_n 3, 1) := by decide +kernel
theorem dX10_insert_14 : decode cX10_insert 14 = .ok (.bipush 12, 2) := by decide +kernel
theorem dX10_insert_16 : decode cX10_insert 16 = .ok (.imul, 1) := by decide +kernel
theorem dX10_insert_17 : decode cX10_insert 17 = .ok (.iload 6, 2) := by decide +kernel
theorem dX10_insert_19 : decode cX10_insert 19 = .ok (.iadd, 1) := by decide +kernel
theorem dX10_insert_20 : decode cX10_insert 20 = .ok (.aload_n 1, 1) := by decide +kernel
theorem dX10_insert_21 : decode cX10_insert 21 = .ok (.iload_n 3, 1) := by decide +kernel
theorem dX10_insert_22 : decode cX10_insert 22 = .ok (.bipush 12, 2) := by decide +kernel
theorem dX10_insert_24 : decode cX10_insert 24 = .ok (.imul, 1) := by decide +kernel
theorem dX10_insert_25 : decode cX10_insert 25 = .ok (.iload 6, 2) := by decide +kernel
theorem dX10_insert_27 : decode cX10_insert 27 = .ok (.iadd, 1) := by decide +kernel
theorem dX10_insert_28 : decode cX10_insert 28 = .ok (.iconst 1, 1) := by decide +kernel
theorem dX10_insert_29 : decode cX10_insert 29 = .ok (.isub, 1) := by decide +kernel
theorem dX10_insert_30 : decode cX10_insert 30 = .ok (.iaload, 1) := by decide +kernel
theorem dX10_insert_31 : decode cX10_insert 31 = .ok (.iastore, 1) := by decide +kernel
theorem dX10_insert_32 : decode cX10_insert 32 = .ok (.iinc 6 (-1), 3) := by decide +kernel
theorem dX10_insert_35 : decode cX10_insert 35 = .ok (.goto (-30), 3) := by decide +kernel
theorem dX10_insert_38 : decode cX10_insert 38 = .ok (.aload_n 1, 1) := by decide +kernel
theorem dX10_insert_39 : decode cX10_insert 39 = .ok (.iload_n 3, 1) := by decide +kernel
theorem dX10_insert_40 : decode cX10_insert 40 = .ok (.bipush 12, 2) := by decide +kernel
theorem dX10_insert_42 : decode cX10_insert 42 = .ok (.imul, 1) := by decide +kernel
theorem dX10_insert_43 : decode cX10_insert 43 = .ok (.iload 4, 2) := by decide +kernel
theorem dX10_insert_45 : decode cX10_insert 45 = .ok (.iadd, 1) := by decide +kernel
theorem dX10_insert_46 : decode cX10_insert 46 = .ok (.iload 5, 2) := by decide +kernel
theorem dX10_insert_48 : decode cX10_insert 48 = .ok (.iastore, 1) := by decide +kernel
theorem dX10_insert_49 : decode cX10_insert 49 = .ok (.aload_n 2, 1) := by decide +kernel
theorem dX10_insert_50 : decode cX10_insert 50 = .ok (.iload_n 3, 1) := by decide +kernel
theorem dX10_insert_51 : decode cX10_insert 51 = .ok (.dup2, 1) := by decide +kernel
theorem dX10_insert_52 : decode cX10_insert 52 = .ok (.iaload, 1) := by decide +kernel
theorem dX10_insert_53 : decode cX10_insert 53 = .ok (.iconst 1, 1) := by decide +kernel
theorem dX10_insert_54 : decode cX10_insert 54 = .ok (.iadd, 1) := by decide +kernel
theorem dX10_insert_55 : decode cX10_insert 55 = .ok (.iastore, 1) := by decide +kernel
theorem dX10_insert_56 : decode cX10_insert 56 = .ok (.return_, 1) := by decide +kernel
theorem dX10_remove_0 : decode cX10_remove 0 = .ok (.aload_n 2, 1) := by decide +kernel
theorem dX10_remove_1 : decode cX10_remove 1 = .ok (.iload_n 3, 1) := by decide +kernel
theorem dX10_remove_2 : decode cX10_remove 2 = .ok (.dup2, 1) := by decide +kernel
theorem dX10_remove_3 : decode cX10_remove 3 = .ok (.iaload, 1) := by decide +kernel
theorem dX10_remove_4 : decode cX10_remove 4 = .ok (.iconst 1, 1) := by decide +kernel
theorem dX10_remove_5 : decode cX10_remove 5 = .ok (.isub, 1) := by decide +kernel
theorem dX10_remove_6 : decode cX10_remove 6 = .ok (.iastore, 1) := by decide +kernel
theorem dX10_remove_7 : decode cX10_remove 7 = .ok (.iload 4, 2) := by decide +kernel
theorem dX10_remove_9 : decode cX10_remove 9 = .ok (.istore 5, 2) := by decide +kernel
theorem dX10_remove_11 : decode cX10_remove 11 = .ok (.iload 5, 2) := by decide +kernel
theorem dX10_remove_13 : decode cX10_remove 13 = .ok (.aload_n 2, 1) := by decide +kernel
theorem dX10_remove_14 : decode cX10_remove 14 = .ok (.iload_n 3, 1) := by decide +kernel
theorem dX10_remove_15 : decode cX10_remove 15 = .ok (.iaload, 1) := by decide +kernel
theorem dX10_remove_16 : decode cX10_remove 16 = .ok (.if_icmp .ge 29, 3) := by decide +kernel
theorem dX10_remove_19 : decode cX10_remove 19 = .ok (.aload_n 1, 1) := by decide +kernel
theorem dX10_remove_20 : decode cX10_remove 20 = .ok (.iload_n 3, 1) := by decide +kernel
theorem dX10_remove_21 : decode cX10_remove 21 = .ok (.bipush 12, 2) := by decide +kernel
theorem dX10_remove_23 : decode cX10_remove 23 = .ok (.imul, 1) := by decide +kernel
theorem dX10_remove_24 : decode cX10_remove 24 = .ok (.iload 5, 2) := by decide +kernel
theorem dX10_remove_26 : decode cX10_remove 26 = .ok (.iadd, 1) := by decide +kernel
theorem dX10_remove_27 : decode cX10_remove 27 = .ok (.aload_n 1, 1) := by decide +kernel
theorem dX10_remove_28 : decode cX10_remove 28 = .ok (.iload_n 3, 1) := by decide +kernel
theorem dX10_remove_29 : decode cX10_remove 29 = .ok (.bipush 12, 2) := by decide +kernel
theorem dX10_remove_31 : decode cX10_remove 31 = .ok (.imul, 1) := by decide +kernel
theorem dX10_remove_32 : decode cX10_remove 32 = .ok (.iload 5, 2) := by decide +kernel
theorem dX10_remove_34 : decode cX10_remove 34 = .ok (.iadd, 1) := by decide +kernel
theorem dX10_remove_35 : decode cX10_remove 35 = .ok (.iconst 1, 1) := by decide +kernel
theorem dX10_remove_36 : decode cX10_remove 36 = .ok (.iadd, 1) := by decide +kernel
theorem dX10_remove_37 : decode cX10_remove 37 = .ok (.iaload, 1) := by decide +kernel
theorem dX10_remove_38 : decode cX10_remove 38 = .ok (.iastore, 1) := by decide +kernel
theorem dX10_remove_39 : decode cX10_remove 39 = .ok (.iinc 5 1, 3) := by decide +kernel
theorem dX10_remove_42 : decode cX10_remove 42 = .ok (.goto (-31), 3) := by decide +kernel
theorem dX10_remove_45 : decode cX10_remove 45 = .ok (.return_, 1) := by decide +kernel
theorem dX10_part_0 : decode cX10_part 0 = .ok (.aload_n 0, 1) := by decide +kernel
theorem dX10_part_1 : decode cX10_part 1 = .ok (.aload_n 0, 1) := by decide +kernel
theorem dX10_part_2 : decode cX10_part 2 = .ok (.getfield 42, 3) := by decide +kernel
theorem dX10_part_5 : decode cX10_part 5 = .ok (.aload_n 0, 1) := by decide +kernel
theorem dX10_part_6 : decode cX10_part 6 = .ok (.getfield 36, 3) := by decide +kernel
theorem dX10_part_9 : decode cX10_part 9 = .ok (.iload_n 1, 1) := by decide +kernel
theorem dX10_part_10 : decode cX10_part 10 = .ok (.bipush 100, 2) := by decide +kernel
theorem dX10_part_12 : decode cX10_part 12 = .ok (.imul, 1) := by decide +kernel
theorem dX10_part_13 : decode cX10_part 13 = .ok (.iload_n 2, 1) := by decide +kernel
theorem dX10_part_14 : decode cX10_part 14 = .ok (.iadd, 1) := by decide +kernel
theorem dX10_part_15 : decode cX10_part 15 = .ok (.aload_n 0, 1) := by decide +kernel
theorem dX10_part_16 : decode cX10_part 16 = .ok (.aload_n 0, 1) := by decide +kernel
theorem dX10_part_17 : decode cX10_part 17 = .ok (.getfield 42, 3) := by decide +kernel
theorem dX10_part_20 : decode cX10_part 20 = .ok (.aload_n 0, 1) := by decide +kernel
theorem dX10_part_21 : decode cX10_part 21 = .ok (.getfield 36, 3) := by decide +kernel
theorem dX10_part_24 : decode cX10_part 24 = .ok (.iload_n 1, 1) := by decide +kernel
theorem dX10_part_25 : decode cX10_part 25 = .ok (.bipush 100, 2) := by decide +kernel
theorem dX10_part_27 : decode cX10_part 27 = .ok (.imul, 1) := by decide +kernel
theorem dX10_part_28 : decode cX10_part 28 = .ok (.iload_n 2, 1) := by decide +kernel
theorem dX10_part_29 : decode cX10_part 29 = .ok (.iadd, 1) := by decide +kernel
theorem dX10_part_30 : decode cX10_part 30 = .ok (.iload_n 3, 1) := by decide +kernel
theorem dX10_part_31 : decode cX10_part 31 = .ok (.invokevirtual 102, 3) := by decide +kernel
theorem dX10_part_34 : decode cX10_part 34 = .ok (.invokevirtual 106, 3) := by decide +kernel
theorem dX10_part_37 : decode cX10_part 37 = .ok (.aload_n 0, 1) := by decide +kernel
theorem dX10_part_38 : decode cX10_part 38 = .ok (.aload_n 0, 1) := by decide +kernel
theorem dX10_part_39 : decode cX10_part 39 = .ok (.getfield 45, 3) := by decide +kernel
theorem dX10_part_42 : decode cX10_part 42 = .ok (.aload_n 0, 1) := by decide +kernel
theorem dX10_part_43 : decode cX10_part 43 = .ok (.getfield 39, 3) := by decide +kernel
theorem dX10_part_46 : decode cX10_part 46 = .ok (.iload_n 1, 1) := by decide +kernel
theorem dX10_part_47 : decode cX10_part 47 = .ok (.bipush 100, 2) := by decide +kernel
theorem dX10_part_49 : decode cX10_part 49 = .ok (.imul, 1) := by decide +kernel
theorem dX10_part_50 : decode cX10_part 50 = .ok (.iload_n 3, 1) := by decide +kernel
theorem dX10_part_51 : decode cX10_part 51 = .ok (.iadd, 1) := by decide +kernel
theorem dX10_part_52 : decode cX10_part 52 = .ok (.aload_n 0, 1) := by decide +kernel
theorem dX10_part_53 : decode cX10_part 53 = .ok (.aload_n 0, 1) := by decide +kernel
theorem dX10_part_54 : decode cX10_part 54 = .ok (.getfield 45, 3) := by decide +kernel
theorem dX10_part_57 : decode cX10_part 57 = .ok (.aload_n 0, 1) := by decide +kernel
theorem dX10_part_58 : decode cX10_part 58 = .ok (.getfield 39, 3) := by decide +kernel
theorem dX10_part_61 : decode cX10_part 61 = .ok (.iload_n 1, 1) := by decide +kernel
theorem dX10_part_62 : decode cX10_part 62 = .ok (.bipush 100, 2) := by decide +kernel
theorem dX10_part_64 : decode cX10_part 64 = .ok (.imul, 1) := by decide +kernel
theorem dX10_part_65 : decode cX10_part 65 = .ok (.iload_n 3, 1) := by decide +kernel
theorem dX10_part_66 : decode cX10_part 66 = .ok (.iadd, 1) := by decide +kernel
theorem dX10_part_67 : decode cX10_part 67 = .ok (.iload_n 2, 1) := by decide +kernel
theorem dX10_part_68 : decode cX10_part 68 = .ok (.invokevirtual 102, 3) := by decide +kernel
theorem dX10_part_71 : decode cX10_part 71 = .ok (.invokevirtual 106, 3) := by decide +kernel
theorem dX10_part_74 : decode cX10_part 74 = .ok (.return_, 1) := by decide +kernel
theorem dX10_isHad_0 : decode cX10_isHad 0 = .ok (.aload_n 0, 1) := by decide +kernel
theorem dX10_isHad_1 : decode cX10_isHad 1 = .ok (.aload_n 0, 1) := by decide +kernel
theorem dX10_isHad_2 : decode cX10_isHad 2 = .ok (.getfield 42, 3) := by decide +kernel
theorem dX10_isHad_5 : decode cX10_isHad 5 = .ok (.aload_n 0, 1) := by decide +kernel
theorem dX10_isHad_6 : decode cX10_isHad 6 = .ok (.getfield 36, 3) := by decide +kernel
theorem dX10_isHad_9 : decode cX10_isHad 9 = .ok (.iload_n 1, 1) := by decide +kernel
theorem dX10_isHad_10 : decode cX10_isHad 10 = .ok (.bipush 100, 2) := by decide +kernel
theorem dX10_isHad_12 : decode cX10_isHad 12 = .ok (.imul, 1) := by decide +kernel
theorem dX10_isHad_13 : decode cX10_isHad 13 = .ok (.iload_n 2, 1) := by decide +kernel
theorem dX10_isHad_14 : decode cX10_isHad 14 = .ok (.iadd, 1) := by decide +kernel
theorem dX10_isHad_15 : decode cX10_isHad 15 = .ok (.iload_n 3, 1) := by decide +kernel
theorem dX10_isHad_16 : decode cX10_isHad 16 = .ok (.invokevirtual 102, 3) := by decide +kernel
theorem dX10_isHad_19 : decode cX10_isHad 19 = .ok (.ifCond .lt 7, 3) := by decide +kernel
theorem dX10_isHad_22 : decode cX10_isHad 22 = .ok (.iconst 1, 1) := by decide +kernel
theorem dX10_isHad_23 : decode cX10_isHad 23 = .ok (.goto 4, 3) := by decide +kernel
theorem dX10_isHad_26 : decode cX10_isHad 26 = .ok (.iconst 0, 1) := by decide +kernel
theorem dX10_isHad_27 : decode cX10_isHad 27 = .ok (.ireturn, 1) := by decide +kernel
theorem dX10_owns_0 : decode cX10_owns 0 = .ok (.iconst 0, 1) := by decide +kernel
theorem dX10_owns_1 : decode cX10_owns 1 = .ok (.istore_n 3, 1) := by decide +kernel
theorem dX10_owns_2 : decode cX10_owns 2 = .ok (.iload_n 3, 1) := by decide +kernel
theorem dX10_owns_3 : decode cX10_owns 3 = .ok (.aload_n 0, 1) := by decide +kernel
theorem dX10_owns_4 : decode cX10_owns 4 = .ok (.getfield 85, 3) := by decide +kernel
theorem dX10_owns_7 : decode cX10_owns 7 = .ok (.if_icmp .ge 31, 3) := by decide +kernel
theorem dX10_owns_10 : decode cX10_owns 10 = .ok (.aload_n 0, 1) := by decide +kernel
theorem dX10_owns_11 : decode cX10_owns 11 = .ok (.getfield 23, 3) := by decide +kernel
theorem dX10_owns_14 : decode cX10_owns 14 = .ok (.iload_n 3, 1) := by decide +kernel
theorem dX10_owns_15 : decode cX10_owns 15 = .ok (.iaload, 1) := by decide +kernel
theorem dX10_owns_16 : decode cX10_owns 16 = .ok (.iconst 1, 1) := by decide +kernel
theorem dX10_owns_17 : decode cX10_owns 17 = .ok (.if_icmp .ne 15, 3) := by decide +kernel
theorem dX10_owns_20 : decode cX10_owns 20 = .ok (.aload_n 0, 1) := by decide +kernel
theorem dX10_owns_21 : decode cX10_owns 21 = .ok (.iload_n 3, 1) := by decide +kernel
theorem dX10_owns_22 : decode cX10_owns 22 = .ok (.iload_n 1, 1) := by decide +kernel
theorem dX10_owns_23 : decode cX10_owns 23 = .ok (.iload_n 2, 1) := by decide +kernel
theorem dX10_owns_24 : decode cX10_owns 24 = .ok (.invokevirtual 110, 3) := by decide +kernel
theorem dX10_owns_27 : decode cX10_owns 27 = .ok (.ifCond .eq 5, 3) := by decide +kernel
theorem dX10_owns_30 : decode cX10_owns 30 = .ok (.iconst 1, 1) := by decide +kernel
theorem dX10_owns_31 : decode cX10_owns 31 = .ok (.ireturn, 1) := by decide +kernel
theorem dX10_owns_32 : decode cX10_owns 32 = .ok (.iinc 3 1, 3) := by decide +kernel
theorem dX10_owns_35 : decode cX10_owns 35 = .ok (.goto (-33), 3) := by decide +kernel
theorem dX10_owns_38 : decode cX10_owns 38 = .ok (.iconst 0, 1) := by decide +kernel
theorem dX10_owns_39 : decode cX10_owns 39 = .ok (.ireturn, 1) := by decide +kernel
theorem dX10_measure_0 : decode cX10_measure 0 = .ok (.iconst 0, 1) := by decide +kernel
theorem dX10_measure_1 : decode cX10_measure 1 = .ok (.istore_n 3, 1) := by decide +kernel
theorem dX10_measure_2 : decode cX10_measure 2 = .ok (.iload_n 3, 1) := by decide +kernel
theorem dX10_measure_3 : decode cX10_measure 3 = .ok (.bipush 100, 2) := by decide +kernel
theorem dX10_measure_5 : decode cX10_measure 5 = .ok (.if_icmp .ge 16, 3) := by decide +kernel
theorem dX10_measure_8 : decode cX10_measure 8 = .ok (.aload_n 0, 1) := by decide +kernel
theorem dX10_measure_9 : decode cX10_measure 9 = .ok (.getfield 51, 3) := by decide +kernel
theorem dX10_measure_12 : decode cX10_measure 12 = .ok (.iload_n 3, 1) := by decide +kernel
theorem dX10_measure_13 : decode cX10_measure 13 = .ok (.iconst (-1), 1) := by decide +kernel
theorem dX10_measure_14 : decode cX10_measure 14 = .ok (.iastore, 1) := by decide +kernel
theorem dX10_measure_15 : decode cX10_measure 15 = .ok (.iinc 3 1, 3) := by decide +kernel
theorem dX10_measure_18 : decode cX10_measure 18 = .ok (.goto (-16), 3) := by decide +kernel
theorem dX10_measure_21 : decode cX10_measure 21 = .ok (.aload_n 0, 1) := by decide +kernel
theorem dX10_measure_22 : decode cX10_measure 22 = .ok (.getfield 51, 3) := by decide +kernel
theorem dX10_measure_25 : decode cX10_measure 25 = .ok (.iload_n 1, 1) := by decide +kernel
theorem dX10_measure_26 : decode cX10_measure 26 = .ok (.iconst 0, 1) := by decide +kernel
theorem dX10_measure_27 : decode cX10_measure 27 = .ok (.iastore, 1) := by decide +kernel
theorem dX10_measure_28 : decode cX10_measure 28 = .ok (.aload_n 0, 1) := by decide +kernel
theorem dX10_measure_29 : decode cX10_measure 29 = .ok (.getfield 54, 3) := by decide +kernel
theorem dX10_measure_32 : decode cX10_measure 32 = .ok (.iconst 0, 1) := by decide +kernel
theorem dX10_measure_33 : decode cX10_measure 33 = .ok (.iload_n 1, 1) := by decide +kernel
theorem dX10_measure_34 : decode cX10_measure 34 = .ok (.iastore, 1) := by decide +kernel
theorem dX10_measure_35 : decode cX10_measure 35 = .ok (.iconst 1, 1) := by decide +kernel
theorem dX10_measure_36 : decode cX10_measure 36 = .ok (.istore_n 3, 1) := by decide +kernel
theorem dX10_measure_37 : decode cX10_measure 37 = .ok (.iconst 0, 1) := by decide +kernel
theorem dX10_measure_38 : decode cX10_measure 38 = .ok (.istore 4, 2) := by decide +kernel
theorem dX10_measure_40 : decode cX10_measure 40 = .ok (.iload 4, 2) := by decide +kernel
theorem dX10_measure_42 : decode cX10_measure 42 = .ok (.iload_n 3, 1) := by decide +kernel
theorem dX10_measure_43 : decode cX10_measure 43 = .ok (.if_icmp .ge 150, 3) := by decide +kernel
theorem dX10_measure_46 : decode cX10_measure 46 = .ok (.aload_n 0, 1) := by decide +kernel
theorem dX10_measure_47 : decode cX10_measure 47 = .ok (.getfield 54, 3) := by decide +kernel
theorem dX10_measure_50 : decode cX10_measure 50 = .ok (.iload 4, 2) := by decide +kernel
theorem dX10_measure_52 : decode cX10_measure 52 = .ok (.iaload, 1) := by decide +kernel
theorem dX10_measure_53 : decode cX10_measure 53 = .ok (.istore 5, 2) := by decide +kernel
theorem dX10_measure_55 : decode cX10_measure 55 = .ok (.iconst 0, 1) := by decide +kernel
theorem dX10_measure_56 : decode cX10_measure 56 = .ok (.istore 6, 2) := by decide +kernel
theorem dX10_measure_58 : decode cX10_measure 58 = .ok (.iload 6, 2) := by decide +kernel
theorem dX10_measure_60 : decode cX10_measure 60 = .ok (.aload_n 0, 1) := by decide +kernel
theorem dX10_measure_61 : decode cX10_measure 61 = .ok (.getfield 85, 3) := by decide +kernel
theorem dX10_measure_64 : decode cX10_measure 64 = .ok (.if_icmp .ge 123, 3) := by decide +kernel
theorem dX10_measure_67 : decode cX10_measure 67 = .ok (.aload_n 0, 1) := by decide +kernel
theorem dX10_measure_68 : decode cX10_measure 68 = .ok (.getfield 23, 3) := by decide +kernel
theorem dX10_measure_71 : decode cX10_measure 71 = .ok (.iload 6, 2) := by decide +kernel
theorem dX10_measure_73 : decode cX10_measure 73 = .ok (.iaload, 1) := by decide +kernel
theorem dX10_measure_74 : decode cX10_measure 74 = .ok (.iconst 1, 1) := by decide +kernel
theorem dX10_measure_75 : decode cX10_measure 75 = .ok (.if_icmp .eq 6, 3) := by decide +kernel
theorem dX10_measure_78 : decode cX10_measure 78 = .ok (.goto 103, 3) := by decide +kernel
theorem dX10_measure_81 : decode cX10_measure 81 = .ok (.iload 6, 2) := by decide +kernel
theorem dX10_measure_83 : decode cX10_measure 83 = .ok (.bipush 100, 2) := by decide +kernel
theorem dX10_measure_85 : decode cX10_measure 85 = .ok (.imul, 1) := by decide +kernel
theorem dX10_measure_86 : decode cX10_measure 86 = .ok (.iload 5, 2) := by decide +kernel
theorem dX10_measure_88 : decode cX10_measure 88 = .ok (.iadd, 1) := by decide +kernel
theorem dX10_measure_89 : decode cX10_measure 89 = .ok (.istore 7, 2) := by decide +kernel
theorem dX10_measure_91 : decode cX10_measure 91 = .ok (.iconst 0, 1) := by decide +kernel
theorem dX10_measure_92 : decode cX10_measure 92 = .ok (.istore 8, 2) := by decide +kernel
theorem dX10_measure_94 : decode cX10_measure 94 = .ok (.iload 8, 2) := by decide +kernel
theorem dX10_measure_96 : decode cX10_measure 96 = .ok (.aload_n 0, 1) := by decide +kernel
theorem dX10_measure_97 : decode cX10_measure 97 = .ok (.getfield 39, 3) := by decide +kernel
theorem dX10_measure_100 : decode cX10_measure 100 = .ok (.iload 7, 2) := by decide +kernel
theorem dX10_measure_102 : decode cX10_measure 102 = .ok (.iaload, 1) := by decide +kernel
theorem dX10_measure_103 : decode cX10_measure 103 = .ok (.if_icmp .ge 78, 3) := by decide +kernel
theorem dX10_measure_106 : decode cX10_measure 106 = .ok (.aload_n 0, 1) := by decide +kernel
theorem dX10_measure_107 : decode cX10_measure 107 = .ok (.getfield 45, 3) := by decide +kernel
theorem dX10_measure_110 : decode cX10_measure 110 = .ok (.iload 7, 2) := by decide +kernel
theorem dX10_measure_112 : decode cX10_measure 112 = .ok (.bipush 12, 2) := by decide +kernel
theorem dX10_measure_114 : decode cX10_measure 114 = .ok (.imul, 1) := by decide +kernel
theorem dX10_measure_115 : decode cX10_measure 115 = .ok (.iload 8, 2) := by decide +kernel
theorem dX10_measure_117 : decode cX10_measure 117 = .ok (.iadd, 1) := by decide +kernel
theorem dX10_measure_118 : decode cX10_measure 118 = .ok (.iaload, 1) := by decide +kernel
theorem dX10_measure_119 : decode cX10_measure 119 = .ok (.istore 9, 2) := by decide +kernel
theorem dX10_measure_121 : decode cX10_measure 121 = .ok (.aload_n 0, 1) := by decide +kernel
theorem dX10_measure_122 : decode cX10_measure 122 = .ok (.getfield 51, 3) := by decide +kernel
theorem dX10_measure_125 : decode cX10_measure 125 = .ok (.iload 9, 2) := by decide +kernel
theorem dX10_measure_127 : decode cX10_measure 127 = .ok (.iaload, 1) := by decide +kernel
theorem dX10_measure_128 : decode cX10_measure 128 = .ok (.ifCond .ge 47, 3) := by decide +kernel
theorem dX10_measure_131 : decode cX10_measure 131 = .ok (.iload_n 2, 1) := by decide +kernel
theorem dX10_measure_132 : decode cX10_measure 132 = .ok (.ifCond .eq 16, 3) := by decide +kernel
theorem dX10_measure_135 : decode cX10_measure 135 = .ok (.aload_n 0, 1) := by decide +kernel
theorem dX10_measure_136 : decode cX10_measure 136 = .ok (.getfield 57, 3) := by decide +kernel
theorem dX10_measure_139 : decode cX10_measure 139 = .ok (.iload 9, 2) := by decide +kernel
theorem dX10_measure_141 : decode cX10_measure 141 = .ok (.baload, 1) := by decide +kernel
theorem dX10_measure_142 : decode cX10_measure 142 = .ok (.ifCond .ne 6, 3) := by decide +kernel
theorem dX10_measure_145 : decode cX10_measure 145 = .ok (.goto 30, 3) := by decide +kernel
theorem dX10_measure_148 : decode cX10_measure 148 = .ok (.aload_n 0, 1) := by decide +kernel
theorem dX10_measure_149 : decode cX10_measure 149 = .ok (.getfield 51, 3) := by decide +kernel
theorem dX10_measure_152 : decode cX10_measure 152 = .ok (.iload 9, 2) := by decide +kernel
theorem dX10_measure_154 : decode cX10_measure 154 = .ok (.aload_n 0, 1) := by decide +kernel
theorem dX10_measure_155 : decode cX10_measure 155 = .ok (.getfield 51, 3) := by decide +kernel
theorem dX10_measure_158 : decode cX10_measure 158 = .ok (.iload 5, 2) := by decide +kernel
theorem dX10_measure_160 : decode cX10_measure 160 = .ok (.iaload, 1) := by decide +kernel
theorem dX10_measure_161 : decode cX10_measure 161 = .ok (.iconst 1, 1) := by decide +kernel
theorem dX10_measure_162 : decode cX10_measure 162 = .ok (.iadd, 1) := by decide +kernel
theorem dX10_measure_163 : decode cX10_measure 163 = .ok (.iastore, 1) := by decide +kernel
theorem dX10_measure_164 : decode cX10_measure 164 = .ok (.aload_n 0, 1) := by decide +kernel
theorem dX10_measure_165 : decode cX10_measure 165 = .ok (.getfield 54, 3) := by decide +kernel
theorem dX10_measure_168 : decode cX10_measure 168 = .ok (.iload_n 3, 1) := by decide +kernel
theorem dX10_measure_169 : decode cX10_measure 169 = .ok (.iload 9, 2) := by decide +kernel
theorem dX10_measure_171 : decode cX10_measure 171 = .ok (.iastore, 1) := by decide +kernel
theorem dX10_measure_172 : decode cX10_measure 172 = .ok (.iinc 3 1, 3) := by decide +kernel
theorem dX10_measure_175 : decode cX10_measure 175 = .ok (.iinc 8 1, 3) := by decide +kernel
theorem dX10_measure_178 : decode cX10_measure 178 = .ok (.goto (-84), 3) := by decide +kernel
theorem dX10_measure_181 : decode cX10_measure 181 = .ok (.iinc 6 1, 3) := by decide +kernel
theorem dX10_measure_184 : decode cX10_measure 184 = .ok (.goto (-126), 3) := by decide +kernel
theorem dX10_measure_187 : decode cX10_measure 187 = .ok (.iinc 4 1, 3) := by decide +kernel
theorem dX10_measure_190 : decode cX10_measure 190 = .ok (.goto (-150), 3) := by decide +kernel
theorem dX10_measure_193 : decode cX10_measure 193 = .ok (.return_, 1) := by decide +kernel
theorem dX10_walk_0 : decode cX10_walk 0 = .ok (.aload_n 0, 1) := by decide +kernel
theorem dX10_walk_1 : decode cX10_walk 1 = .ok (.iconst 0, 1) := by decide +kernel
theorem dX10_walk_2 : decode cX10_walk 2 = .ok (.putfield 114, 3) := by decide +kernel
theorem dX10_walk_5 : decode cX10_walk 5 = .ok (.iload_n 1, 1) := by decide +kernel
theorem dX10_walk_6 : decode cX10_walk 6 = .ok (.istore_n 2, 1) := by decide +kernel
theorem dX10_walk_7 : decode cX10_walk 7 = .ok (.aload_n 0, 1) := by decide +kernel
theorem dX10_walk_8 : decode cX10_walk 8 = .ok (.iload_n 2, 1) := by decide +kernel
theorem dX10_walk_9 : decode cX10_walk 9 = .ok (.invokevirtual 117, 3) := by decide +kernel
theorem dX10_walk_12 : decode cX10_walk 12 = .ok (.aload_n 0, 1) := by decide +kernel
theorem dX10_walk_13 : decode cX10_walk 13 = .ok (.getfield 51, 3) := by decide +kernel
theorem dX10_walk_16 : decode cX10_walk 16 = .ok (.iload_n 2, 1) := by decide +kernel
theorem dX10_walk_17 : decode cX10_walk 17 = .ok (.iaload, 1) := by decide +kernel
theorem dX10_walk_18 : decode cX10_walk 18 = .ok (.ifCond .le 133, 3) := by decide +kernel
theorem dX10_walk_21 : decode cX10_walk 21 = .ok (.iconst (-1), 1) := by decide +kernel
theorem dX10_walk_22 : decode cX10_walk 22 = .ok (.istore_n 3, 1) := by decide +kernel
theorem dX10_walk_23 : decode cX10_walk 23 = .ok (.iconst 0, 1) := by decide +kernel
theorem dX10_walk_24 : decode cX10_walk 24 = .ok (.istore 4, 2) := by decide +kernel
theorem dX10_walk_26 : decode cX10_walk 26 = .ok (.iload 4, 2) := by decide +kernel
theorem dX10_walk_28 : decode cX10_walk 28 = .ok (.aload_n 0, 1) := by decide +kernel
theorem dX10_walk_29 : decode cX10_walk 29 = .ok (.getfield 85, 3) := by decide +kernel
theorem dX10_walk_32 : decode cX10_walk 32 = .ok (.if_icmp .ge 109, 3) := by decide +kernel
theorem dX10_walk_35 : decode cX10_walk 35 = .ok (.aload_n 0, 1) := by decide +kernel
theorem dX10_walk_36 : decode cX10_walk 36 = .ok (.getfield 23, 3) := by decide +kernel
theorem dX10_walk_39 : decode cX10_walk 39 = .ok (.iload 4, 2) := by decide +kernel
theorem dX10_walk_41 : decode cX10_walk 41 = .ok (.iaload, 1) := by decide +kernel
theorem dX10_walk_42 : decode cX10_walk 42 = .ok (.iconst 1, 1) := by decide +kernel
theorem dX10_walk_43 : decode cX10_walk 43 = .ok (.if_icmp .eq 6, 3) := by decide +kernel
theorem dX10_walk_46 : decode cX10_walk 46 = .ok (.goto 89, 3) := by decide +kernel
theorem dX10_walk_49 : decode cX10_walk 49 = .ok (.iload 4, 2) := by decide +kernel
theorem dX10_walk_51 : decode cX10_walk 51 = .ok (.bipush 100, 2) := by decide +kernel
theorem dX10_walk_53 : decode cX10_walk 53 = .ok (.imul, 1) := by decide +kernel
theorem dX10_walk_54 : decode cX10_walk 54 = .ok (.iload_n 2, 1) := by decide +kernel
theorem dX10_walk_55 : decode cX10_walk 55 = .ok (.iadd, 1) := by decide +kernel
theorem dX10_walk_56 : decode cX10_walk 56 = .ok (.istore 5, 2) := by decide +kernel
theorem dX10_walk_58 : decode cX10_walk 58 = .ok (.iconst 0, 1) := by decide +kernel
theorem dX10_walk_59 : decode cX10_walk 59 = .ok (.istore 6, 2) := by decide +kernel
theorem dX10_walk_61 : decode cX10_walk 61 = .ok (.iload 6, 2) := by decide +kernel
theorem dX10_walk_63 : decode cX10_walk 63 = .ok (.aload_n 0, 1) := by decide +kernel
theorem dX10_walk_64 : decode cX10_walk 64 = .ok (.getfield 36, 3) := by decide +kernel
theorem dX10_walk_67 : decode cX10_walk 67 = .ok (.iload 5, 2) := by decide +kernel
theorem dX10_walk_69 : decode cX10_walk 69 = .ok (.iaload, 1) := by decide +kernel
theorem dX10_walk_70 : decode cX10_walk 70 = .ok (.if_icmp .ge 65, 3) := by decide +kernel
theorem dX10_walk_73 : decode cX10_walk 73 = .ok (.aload_n 0, 1) := by decide +kernel
theorem dX10_walk_74 : decode cX10_walk 74 = .ok (.getfield 42, 3) := by decide +kernel
theorem dX10_walk_77 : decode cX10_walk 77 = .ok (.iload 5, 2) := by decide +kernel
theorem dX10_walk_79 : decode cX10_walk 79 = .ok (.bipush 12, 2) := by decide +kernel
theorem dX10_walk_81 : decode cX10_walk 81 = .ok (.imul, 1) := by decide +kernel
theorem dX10_walk_82 : decode cX10_walk 82 = .ok (.iload 6, 2) := by decide +kernel
theorem dX10_walk_84 : decode cX10_walk 84 = .ok (.iadd, 1) := by decide +kernel
theorem dX10_walk_85 : decode cX10_walk 85 = .ok (.iaload, 1) := by decide +kernel
theorem dX10_walk_86 : decode cX10_walk 86 = .ok (.istore 7, 2) := by decide +kernel
theorem dX10_walk_88 : decode cX10_walk 88 = .ok (.aload_n 0, 1) := by decide +kernel
theorem dX10_walk_89 : decode cX10_walk 89 = .ok (.getfield 51, 3) := by decide +kernel
theorem dX10_walk_92 : decode cX10_walk 92 = .ok (.iload 7, 2) := by decide +kernel
theorem dX10_walk_94 : decode cX10_walk 94 = .ok (.iaload, 1) := by decide +kernel
theorem dX10_walk_95 : decode cX10_walk 95 = .ok (.aload_n 0, 1) := by decide +kernel
theorem dX10_walk_96 : decode cX10_walk 96 = .ok (.getfield 51, 3) := by decide +kernel
theorem dX10_walk_99 : decode cX10_walk 99 = .ok (.iload_n 2, 1) := by decide +kernel
theorem dX10_walk_100 : decode cX10_walk 100 = .ok (.iaload, 1) := by decide +kernel
theorem dX10_walk_101 : decode cX10_walk 101 = .ok (.iconst 1, 1) := by decide +kernel
theorem dX10_walk_102 : decode cX10_walk 102 = .ok (.isub, 1) := by decide +kernel
theorem dX10_walk_103 : decode cX10_walk 103 = .ok (.if_icmp .ne 26, 3) := by decide +kernel
theorem dX10_walk_106 : decode cX10_walk 106 = .ok (.iload_n 3, 1) := by decide +kernel
theorem dX10_walk_107 : decode cX10_walk 107 = .ok (.ifCond .lt 19, 3) := by decide +kernel
theorem dX10_walk_110 : decode cX10_walk 110 = .ok (.aload_n 0, 1) := by decide +kernel
theorem dX10_walk_111 : decode cX10_walk 111 = .ok (.getfield 30, 3) := by decide +kernel
theorem dX10_walk_114 : decode cX10_walk 114 = .ok (.iload 7, 2) := by decide +kernel
theorem dX10_walk_116 : decode cX10_walk 116 = .ok (.iaload, 1) := by decide +kernel
theorem dX10_walk_117 : decode cX10_walk 117 = .ok (.aload_n 0, 1) := by decide +kernel
theorem dX10_walk_118 : decode cX10_walk 118 = .ok (.getfield 30, 3) := by decide +kernel
theorem dX10_walk_121 : decode cX10_walk 121 = .ok (.iload_n 3, 1) := by decide +kernel
theorem dX10_walk_122 : decode cX10_walk 122 = .ok (.iaload, 1) := by decide +kernel
theorem dX10_walk_123 : decode cX10_walk 123 = .ok (.if_icmp .ge 6, 3) := by decide +kernel
theorem dX10_walk_126 : decode cX10_walk 126 = .ok (.iload 7, 2) := by decide +kernel
theorem dX10_walk_128 : decode cX10_walk 128 = .ok (.istore_n 3, 1) := by decide +kernel
theorem dX10_walk_129 : decode cX10_walk 129 = .ok (.iinc 6 1, 3) := by decide +kernel
theorem dX10_walk_132 : decode cX10_walk 132 = .ok (.goto (-71), 3) := by decide +kernel
theorem dX10_walk_135 : decode cX10_walk 135 = .ok (.iinc 4 1, 3) := by decide +kernel
theorem dX10_walk_138 : decode cX10_walk 138 = .ok (.goto (-112), 3) := by decide +kernel
theorem dX10_walk_141 : decode cX10_walk 141 = .ok (.iload_n 3, 1) := by decide +kernel
theorem dX10_walk_142 : decode cX10_walk 142 = .ok (.istore_n 2, 1) := by decide +kernel
theorem dX10_walk_143 : decode cX10_walk 143 = .ok (.aload_n 0, 1) := by decide +kernel
theorem dX10_walk_144 : decode cX10_walk 144 = .ok (.iload_n 2, 1) := by decide +kernel
theorem dX10_walk_145 : decode cX10_walk 145 = .ok (.invokevirtual 117, 3) := by decide +kernel
theorem dX10_walk_148 : decode cX10_walk 148 = .ok (.goto (-136), 3) := by decide +kernel
theorem dX10_walk_151 : decode cX10_walk 151 = .ok (.return_, 1) := by decide +kernel
theorem dX10_add_0 : decode cX10_add 0 = .ok (.aload_n 0, 1) := by decide +kernel
theorem dX10_add_1 : decode cX10_add 1 = .ok (.getfield 48, 3) := by decide +kernel
theorem dX10_add_4 : decode cX10_add 4 = .ok (.aload_n 0, 1) := by decide +kernel
theorem dX10_add_5 : decode cX10_add 5 = .ok (.getfield 114, 3) := by decide +kernel
theorem dX10_add_8 : decode cX10_add 8 = .ok (.aload_n 0, 1) := by decide +kernel
theorem dX10_add_9 : decode cX10_add 9 = .ok (.getfield 30, 3) := by decide +kernel
theorem dX10_add_12 : decode cX10_add 12 = .ok (.iload_n 1, 1) := by decide +kernel
theorem dX10_add_13 : decode cX10_add 13 = .ok (.iaload, 1) := by decide +kernel
theorem dX10_add_14 : decode cX10_add 14 = .ok (.iastore, 1) := by decide +kernel
theorem dX10_add_15 : decode cX10_add 15 = .ok (.aload_n 0, 1) := by decide +kernel
theorem dX10_add_16 : decode cX10_add 16 = .ok (.dup, 1) := by decide +kernel
theorem dX10_add_17 : decode cX10_add 17 = .ok (.getfield 114, 3) := by decide +kernel
theorem dX10_add_20 : decode cX10_add 20 = .ok (.iconst 1, 1) := by decide +kernel
theorem dX10_add_21 : decode cX10_add 21 = .ok (.iadd, 1) := by decide +kernel
theorem dX10_add_22 : decode cX10_add 22 = .ok (.putfield 114, 3) := by decide +kernel
theorem dX10_add_25 : decode cX10_add 25 = .ok (.return_, 1) := by decide +kernel
theorem dX10_wrong_0 : decode cX10_wrong 0 = .ok (.aload_n 0, 1) := by decide +kernel
theorem dX10_wrong_1 : decode cX10_wrong 1 = .ok (.iload_n 1, 1) := by decide +kernel
theorem dX10_wrong_2 : decode cX10_wrong 2 = .ok (.invokevirtual 121, 3) := by decide +kernel
theorem dX10_wrong_5 : decode cX10_wrong 5 = .ok (.ifCond .ne 5, 3) := by decide +kernel
theorem dX10_wrong_8 : decode cX10_wrong 8 = .ok (.iconst 1, 1) := by decide +kernel
theorem dX10_wrong_9 : decode cX10_wrong 9 = .ok (.ireturn, 1) := by decide +kernel
theorem dX10_wrong_10 : decode cX10_wrong 10 = .ok (.aload_n 0, 1) := by decide +kernel
theorem dX10_wrong_11 : decode cX10_wrong 11 = .ok (.iload_n 2, 1) := by decide +kernel
theorem dX10_wrong_12 : decode cX10_wrong 12 = .ok (.invokevirtual 124, 3) := by decide +kernel
theorem dX10_wrong_15 : decode cX10_wrong 15 = .ok (.istore 4, 2) := by decide +kernel
theorem dX10_wrong_17 : decode cX10_wrong 17 = .ok (.aload_n 0, 1) := by decide +kernel
theorem dX10_wrong_18 : decode cX10_wrong 18 = .ok (.iload_n 3, 1) := by decide +kernel
theorem dX10_wrong_19 : decode cX10_wrong 19 = .ok (.invokevirtual 124, 3) := by decide +kernel
theorem dX10_wrong_22 : decode cX10_wrong 22 = .ok (.istore 5, 2) := by decide +kernel
theorem dX10_wrong_24 : decode cX10_wrong 24 = .ok (.iload 4, 2) := by decide +kernel
theorem dX10_wrong_26 : decode cX10_wrong 26 = .ok (.ifCond .lt 8, 3) := by decide +kernel
theorem dX10_wrong_29 : decode cX10_wrong 29 = .ok (.iload 5, 2) := by decide +kernel
theorem dX10_wrong_31 : decode cX10_wrong 31 = .ok (.ifCond .ge 5, 3) := by decide +kernel
theorem dX10_wrong_34 : decode cX10_wrong 34 = .ok (.iconst 2, 1) := by decide +kernel
theorem dX10_wrong_35 : decode cX10_wrong 35 = .ok (.ireturn, 1) := by decide +kernel
theorem dX10_wrong_36 : decode cX10_wrong 36 = .ok (.aload_n 0, 1) := by decide +kernel
theorem dX10_wrong_37 : decode cX10_wrong 37 = .ok (.getfield 33, 3) := by decide +kernel
theorem dX10_wrong_40 : decode cX10_wrong 40 = .ok (.iload 4, 2) := by decide +kernel
theorem dX10_wrong_42 : decode cX10_wrong 42 = .ok (.iaload, 1) := by decide +kernel
theorem dX10_wrong_43 : decode cX10_wrong 43 = .ok (.aload_n 0, 1) := by decide +kernel
theorem dX10_wrong_44 : decode cX10_wrong 44 = .ok (.getfield 13, 3) := by decide +kernel
theorem dX10_wrong_47 : decode cX10_wrong 47 = .ok (.iload_n 1, 1) := by decide +kernel
theorem dX10_wrong_48 : decode cX10_wrong 48 = .ok (.iaload, 1) := by decide +kernel
theorem dX10_wrong_49 : decode cX10_wrong 49 = .ok (.if_icmp .ne 19, 3) := by decide +kernel
theorem dX10_wrong_52 : decode cX10_wrong 52 = .ok (.aload_n 0, 1) := by decide +kernel
theorem dX10_wrong_53 : decode cX10_wrong 53 = .ok (.getfield 33, 3) := by decide +kernel
theorem dX10_wrong_56 : decode cX10_wrong 56 = .ok (.iload 5, 2) := by decide +kernel
theorem dX10_wrong_58 : decode cX10_wrong 58 = .ok (.iaload, 1) := by decide +kernel
theorem dX10_wrong_59 : decode cX10_wrong 59 = .ok (.aload_n 0, 1) := by decide +kernel
theorem dX10_wrong_60 : decode cX10_wrong 60 = .ok (.getfield 17, 3) := by decide +kernel
theorem dX10_wrong_63 : decode cX10_wrong 63 = .ok (.iload_n 1, 1) := by decide +kernel
theorem dX10_wrong_64 : decode cX10_wrong 64 = .ok (.iaload, 1) := by decide +kernel
theorem dX10_wrong_65 : decode cX10_wrong 65 = .ok (.if_icmp .eq 7, 3) := by decide +kernel
theorem dX10_wrong_68 : decode cX10_wrong 68 = .ok (.iconst 3, 1) := by decide +kernel
theorem dX10_wrong_69 : decode cX10_wrong 69 = .ok (.goto 4, 3) := by decide +kernel
theorem dX10_wrong_72 : decode cX10_wrong 72 = .ok (.iconst 0, 1) := by decide +kernel
theorem dX10_wrong_73 : decode cX10_wrong 73 = .ok (.ireturn, 1) := by decide +kernel
theorem dX10_set_0 : decode cX10_set 0 = .ok (.iload 4, 2) := by decide +kernel
theorem dX10_set_2 : decode cX10_set 2 = .ok (.iconst (-1), 1) := by decide +kernel
theorem dX10_set_3 : decode cX10_set 3 = .ok (.if_icmp .ge 7, 3) := by decide +kernel
theorem dX10_set_6 : decode cX10_set 6 = .ok (.iconst 1, 1) := by decide +kernel
theorem dX10_set_7 : decode cX10_set 7 = .ok (.goto 10, 3) := by decide +kernel
theorem dX10_set_10 : decode cX10_set 10 = .ok (.aload_n 0, 1) := by decide +kernel
theorem dX10_set_11 : decode cX10_set 11 = .ok (.iload_n 1, 1) := by decide +kernel
theorem dX10_set_12 : decode cX10_set 12 = .ok (.iload_n 2, 1) := by decide +kernel
theorem dX10_set_13 : decode cX10_set 13 = .ok (.iload_n 3, 1) := by decide +kernel
theorem dX10_set_14 : decode cX10_set 14 = .ok (.invokevirtual 127, 3) := by decide +kernel
theorem dX10_set_17 : decode cX10_set 17 = .ok (.istore 5, 2) := by decide +kernel
theorem dX10_set_19 : decode cX10_set 19 = .ok (.aload_n 0, 1) := by decide +kernel
theorem dX10_set_20 : decode cX10_set 20 = .ok (.iload 5, 2) := by decide +kernel
theorem dX10_set_22 : decode cX10_set 22 = .ok (.invokevirtual 88, 3) := by decide +kernel
theorem dX10_set_25 : decode cX10_set 25 = .ok (.ifCond .eq 5, 3) := by decide +kernel
theorem dX10_set_28 : decode cX10_set 28 = .ok (.iconst 0, 1) := by decide +kernel
theorem dX10_set_29 : decode cX10_set 29 = .ok (.ireturn, 1) := by decide +kernel
theorem dX10_set_30 : decode cX10_set 30 = .ok (.aload_n 0, 1) := by decide +kernel
theorem dX10_set_31 : decode cX10_set 31 = .ok (.iload_n 2, 1) := by decide +kernel
theorem dX10_set_32 : decode cX10_set 32 = .ok (.invokevirtual 124, 3) := by decide +kernel
theorem dX10_set_35 : decode cX10_set 35 = .ok (.istore 6, 2) := by decide +kernel
theorem dX10_set_37 : decode cX10_set 37 = .ok (.aload_n 0, 1) := by decide +kernel
theorem dX10_set_38 : decode cX10_set 38 = .ok (.iload_n 3, 1) := by decide +kernel
theorem dX10_set_39 : decode cX10_set 39 = .ok (.invokevirtual 124, 3) := by decide +kernel
theorem dX10_set_42 : decode cX10_set 42 = .ok (.istore 7, 2) := by decide +kernel
theorem dX10_set_44 : decode cX10_set 44 = .ok (.iload_n 1, 1) := by decide +kernel
theorem dX10_set_45 : decode cX10_set 45 = .ok (.bipush 100, 2) := by decide +kernel
theorem dX10_set_47 : decode cX10_set 47 = .ok (.imul, 1) := by decide +kernel
theorem dX10_set_48 : decode cX10_set 48 = .ok (.iload 6, 2) := by decide +kernel
theorem dX10_set_50 : decode cX10_set 50 = .ok (.iadd, 1) := by decide +kernel
theorem dX10_set_51 : decode cX10_set 51 = .ok (.istore 8, 2) := by decide +kernel
theorem dX10_set_53 : decode cX10_set 53 = .ok (.aload_n 0, 1) := by decide +kernel
theorem dX10_set_54 : decode cX10_set 54 = .ok (.aload_n 0, 1) := by decide +kernel
theorem dX10_set_55 : decode cX10_set 55 = .ok (.getfield 42, 3) := by decide +kernel
theorem dX10_set_58 : decode cX10_set 58 = .ok (.aload_n 0, 1) := by decide +kernel
theorem dX10_set_59 : decode cX10_set 59 = .ok (.getfield 36, 3) := by decide +kernel
theorem dX10_set_62 : decode cX10_set 62 = .ok (.iload 8, 2) := by decide +kernel
theorem dX10_set_64 : decode cX10_set 64 = .ok (.iload 7, 2) := by decide +kernel
theorem dX10_set_66 : decode cX10_set 66 = .ok (.invokevirtual 102, 3) := by decide +kernel
theorem dX10_set_69 : decode cX10_set 69 = .ok (.istore 9, 2) := by decide +kernel
theorem dX10_set_71 : decode cX10_set 71 = .ok (.iload 9, 2) := by decide +kernel
theorem dX10_set_73 : decode cX10_set 73 = .ok (.ifCond .lt 87, 3) := by decide +kernel
theorem dX10_set_76 : decode cX10_set 76 = .ok (.aload_n 0, 1) := by decide +kernel
theorem dX10_set_77 : decode cX10_set 77 = .ok (.getfield 36, 3) := by decide +kernel
theorem dX10_set_80 : decode cX10_set 80 = .ok (.iload 8, 2) := by decide +kernel
theorem dX10_set_82 : decode cX10_set 82 = .ok (.iaload, 1) := by decide +kernel
theorem dX10_set_83 : decode cX10_set 83 = .ok (.iconst 1, 1) := by decide +kernel
theorem dX10_set_84 : decode cX10_set 84 = .ok (.isub, 1) := by decide +kernel
theorem dX10_set_85 : decode cX10_set 85 = .ok (.istore 10, 2) := by decide +kernel
theorem dX10_set_87 : decode cX10_set 87 = .ok (.aload_n 0, 1) := by decide +kernel
theorem dX10_set_88 : decode cX10_set 88 = .ok (.iload 4, 2) := by decide +kernel
theorem dX10_set_90 : decode cX10_set 90 = .ok (.iload 10, 2) := by decide +kernel
theorem dX10_set_92 : decode cX10_set 92 = .ok (.if_icmp .le 7, 3) := by decide +kernel
theorem dX10_set_95 : decode cX10_set 95 = .ok (.iconst 5, 1) := by decide +kernel
theorem dX10_set_96 : decode cX10_set 96 = .ok (.goto 4, 3) := by decide +kernel
theorem dX10_set_99 : decode cX10_set 99 = .ok (.iconst 0, 1) := by decide +kernel
theorem dX10_set_100 : decode cX10_set 100 = .ok (.invokevirtual 88, 3) := by decide +kernel
theorem dX10_set_103 : decode cX10_set 103 = .ok (.ifCond .eq 5, 3) := by decide +kernel
theorem dX10_set_106 : decode cX10_set 106 = .ok (.iconst 0, 1) := by decide +kernel
theorem dX10_set_107 : decode cX10_set 107 = .ok (.ireturn, 1) := by decide +kernel
theorem dX10_set_108 : decode cX10_set 108 = .ok (.aload_n 0, 1) := by decide +kernel
theorem dX10_set_109 : decode cX10_set 109 = .ok (.aload_n 0, 1) := by decide +kernel
theorem dX10_set_110 : decode cX10_set 110 = .ok (.getfield 42, 3) := by decide +kernel
theorem dX10_set_113 : decode cX10_set 113 = .ok (.aload_n 0, 1) := by decide +kernel
theorem dX10_set_114 : decode cX10_set 114 = .ok (.getfield 36, 3) := by decide +kernel
theorem dX10_set_117 : decode cX10_set 117 = .ok (.iload 8, 2) := by decide +kernel
theorem dX10_set_119 : decode cX10_set 119 = .ok (.iload 9, 2) := by decide +kernel
theorem dX10_set_121 : decode cX10_set 121 = .ok (.invokevirtual 106, 3) := by decide +kernel
theorem dX10_set_124 : decode cX10_set 124 = .ok (.aload_n 0, 1) := by decide +kernel
theorem dX10_set_125 : decode cX10_set 125 = .ok (.aload_n 0, 1) := by decide +kernel
theorem dX10_set_126 : decode cX10_set 126 = .ok (.getfield 42, 3) := by decide +kernel
theorem dX10_set_129 : decode cX10_set 129 = .ok (.aload_n 0, 1) := by decide +kernel
theorem dX10_set_130 : decode cX10_set 130 = .ok (.getfield 36, 3) := by decide +kernel
theorem dX10_set_133 : decode cX10_set 133 = .ok (.iload 8, 2) := by decide +kernel
theorem dX10_set_135 : decode cX10_set 135 = .ok (.iload 4, 2) := by decide +kernel
theorem dX10_set_137 : decode cX10_set 137 = .ok (.ifCond .ge 8, 3) := by decide +kernel
theorem dX10_set_140 : decode cX10_set 140 = .ok (.iload 10, 2) := by decide +kernel
theorem dX10_set_142 : decode cX10_set 142 = .ok (.goto 5, 3) := by decide +kernel
theorem dX10_set_145 : decode cX10_set 145 = .ok (.iload 4, 2) := by decide +kernel
theorem dX10_set_147 : decode cX10_set 147 = .ok (.iload 7, 2) := by decide +kernel
theorem dX10_set_149 : decode cX10_set 149 = .ok (.invokevirtual 131, 3) := by decide +kernel
theorem dX10_set_152 : decode cX10_set 152 = .ok (.aload_n 0, 1) := by decide +kernel
theorem dX10_set_153 : decode cX10_set 153 = .ok (.getfield 36, 3) := by decide +kernel
theorem dX10_set_156 : decode cX10_set 156 = .ok (.iload 8, 2) := by decide +kernel
theorem dX10_set_158 : decode cX10_set 158 = .ok (.iaload, 1) := by decide +kernel
theorem dX10_set_159 : decode cX10_set 159 = .ok (.ireturn, 1) := by decide +kernel
theorem dX10_set_160 : decode cX10_set 160 = .ok (.aload_n 0, 1) := by decide +kernel
theorem dX10_set_161 : decode cX10_set 161 = .ok (.getfield 23, 3) := by decide +kernel
theorem dX10_set_164 : decode cX10_set 164 = .ok (.iload_n 1, 1) := by decide +kernel
theorem dX10_set_165 : decode cX10_set 165 = .ok (.iaload, 1) := by decide +kernel
theorem dX10_set_166 : decode cX10_set 166 = .ok (.iconst 1, 1) := by decide +kernel
theorem dX10_set_167 : decode cX10_set 167 = .ok (.if_icmp .ne 33, 3) := by decide +kernel
theorem dX10_set_170 : decode cX10_set 170 = .ok (.aload_n 0, 1) := by decide +kernel
theorem dX10_set_171 : decode cX10_set 171 = .ok (.iload 6, 2) := by decide +kernel
theorem dX10_set_173 : decode cX10_set 173 = .ok (.iconst 0, 1) := by decide +kernel
theorem dX10_set_174 : decode cX10_set 174 = .ok (.invokevirtual 135, 3) := by decide +kernel
theorem dX10_set_177 : decode cX10_set 177 = .ok (.aload_n 0, 1) := by decide +kernel
theorem dX10_set_178 : decode cX10_set 178 = .ok (.getfield 51, 3) := by decide +kernel
theorem dX10_set_181 : decode cX10_set 181 = .ok (.iload 7, 2) := by decide +kernel
theorem dX10_set_183 : decode cX10_set 183 = .ok (.iaload, 1) := by decide +kernel
theorem dX10_set_184 : decode cX10_set 184 = .ok (.ifCond .lt 16, 3) := by decide +kernel
theorem dX10_set_187 : decode cX10_set 187 = .ok (.aload_n 0, 1) := by decide +kernel
theorem dX10_set_188 : decode cX10_set 188 = .ok (.iload 7, 2) := by decide +kernel
theorem dX10_set_190 : decode cX10_set 190 = .ok (.invokevirtual 139, 3) := by decide +kernel
theorem dX10_set_193 : decode cX10_set 193 = .ok (.aload_n 0, 1) := by decide +kernel
theorem dX10_set_194 : decode cX10_set 194 = .ok (.iconst 4, 1) := by decide +kernel
theorem dX10_set_195 : decode cX10_set 195 = .ok (.putfield 1, 3) := by decide +kernel
theorem dX10_set_198 : decode cX10_set 198 = .ok (.iconst 0, 1) := by decide +kernel
theorem dX10_set_199 : decode cX10_set 199 = .ok (.ireturn, 1) := by decide +kernel
theorem dX10_set_200 : decode cX10_set 200 = .ok (.aload_n 0, 1) := by decide +kernel
theorem dX10_set_201 : decode cX10_set 201 = .ok (.getfield 20, 3) := by decide +kernel
theorem dX10_set_204 : decode cX10_set 204 = .ok (.iload_n 1, 1) := by decide +kernel
theorem dX10_set_205 : decode cX10_set 205 = .ok (.iaload, 1) := by decide +kernel
theorem dX10_set_206 : decode cX10_set 206 = .ok (.ifCond .ne 7, 3) := by decide +kernel
theorem dX10_set_209 : decode cX10_set 209 = .ok (.iconst 0, 1) := by decide +kernel
theorem dX10_set_210 : decode cX10_set 210 = .ok (.goto 10, 3) := by decide +kernel
theorem dX10_set_213 : decode cX10_set 213 = .ok (.aload_n 0, 1) := by decide +kernel
theorem dX10_set_214 : decode cX10_set 214 = .ok (.getfield 36, 3) := by decide +kernel
theorem dX10_set_217 : decode cX10_set 217 = .ok (.iload 8, 2) := by decide +kernel
theorem dX10_set_219 : decode cX10_set 219 = .ok (.iaload, 1) := by decide +kernel
theorem dX10_set_220 : decode cX10_set 220 = .ok (.istore 10, 2) := by decide +kernel
theorem dX10_set_222 : decode cX10_set 222 = .ok (.iload 10, 2) := by decide +kernel
theorem dX10_set_224 : decode cX10_set 224 = .ok (.bipush 12, 2) := by decide +kernel
theorem dX10_set_226 : decode cX10_set 226 = .ok (.if_icmp .eq 30, 3) := by decide +kernel
theorem dX10_set_229 : decode cX10_set 229 = .ok (.aload_n 0, 1) := by decide +kernel
theorem dX10_set_230 : decode cX10_set 230 = .ok (.getfield 20, 3) := by decide +kernel
theorem dX10_set_233 : decode cX10_set 233 = .ok (.iload_n 1, 1) := by decide +kernel
theorem dX10_set_234 : decode cX10_set 234 = .ok (.iaload, 1) := by decide +kernel
theorem dX10_set_235 : decode cX10_set 235 = .ok (.iconst 2, 1) := by decide +kernel
theorem dX10_set_236 : decode cX10_set 236 = .ok (.if_icmp .ne 24, 3) := by decide +kernel
theorem dX10_set_239 : decode cX10_set 239 = .ok (.aload_n 0, 1) := by decide +kernel
theorem dX10_set_240 : decode cX10_set 240 = .ok (.getfield 39, 3) := by decide +kernel
theorem dX10_set_243 : decode cX10_set 243 = .ok (.iload_n 1, 1) := by decide +kernel
theorem dX10_set_244 : decode cX10_set 244 = .ok (.bipush 100, 2) := by decide +kernel
theorem dX10_set_246 : decode cX10_set 246 = .ok (.imul, 1) := by decide +kernel
theorem dX10_set_247 : decode cX10_set 247 = .ok (.iload 7, 2) := by decide +kernel
theorem dX10_set_249 : decode cX10_set 249 = .ok (.iadd, 1) := by decide +kernel
theorem dX10_set_250 : decode cX10_set 250 = .ok (.iaload, 1) := by decide +kernel
theorem dX10_set_251 : decode cX10_set 251 = .ok (.bipush 12, 2) := by decide +kernel
theorem dX10_set_253 : decode cX10_set 253 = .ok (.if_icmp .ne 7, 3) := by decide +kernel
theorem dX10_set_256 : decode cX10_set 256 = .ok (.iconst 1, 1) := by decide +kernel
theorem dX10_set_257 : decode cX10_set 257 = .ok (.goto 4, 3) := by decide +kernel
theorem dX10_set_260 : decode cX10_set 260 = .ok (.iconst 0, 1) := by decide +kernel
theorem dX10_set_261 : decode cX10_set 261 = .ok (.istore 11, 2) := by decide +kernel
theorem dX10_set_263 : decode cX10_set 263 = .ok (.aload_n 0, 1) := by decide +kernel
theorem dX10_set_264 : decode cX10_set 264 = .ok (.iload 4, 2) := by decide +kernel
theorem dX10_set_266 : decode cX10_set 266 = .ok (.iload 10, 2) := by decide +kernel
theorem dX10_set_268 : decode cX10_set 268 = .ok (.if_icmp .le 7, 3) := by decide +kernel
theorem dX10_set_271 : decode cX10_set 271 = .ok (.iconst 5, 1) := by decide +kernel
theorem dX10_set_272 : decode cX10_set 272 = .ok (.goto 14, 3) := by decide +kernel
theorem dX10_set_275 : decode cX10_set 275 = .ok (.iload 11, 2) := by decide +kernel
theorem dX10_set_277 : decode cX10_set 277 = .ok (.ifCond .eq 8, 3) := by decide +kernel
theorem dX10_set_280 : decode cX10_set 280 = .ok (.bipush 6, 2) := by decide +kernel
theorem dX10_set_282 : decode cX10_set 282 = .ok (.goto 4, 3) := by decide +kernel
theorem dX10_set_285 : decode cX10_set 285 = .ok (.iconst 0, 1) := by decide +kernel
theorem dX10_set_286 : decode cX10_set 286 = .ok (.invokevirtual 88, 3) := by decide +kernel
theorem dX10_set_289 : decode cX10_set 289 = .ok (.ifCond .eq 5, 3) := by decide +kernel
theorem dX10_set_292 : decode cX10_set 292 = .ok (.iconst 0, 1) := by decide +kernel
theorem dX10_set_293 : decode cX10_set 293 = .ok (.ireturn, 1) := by decide +kernel
theorem dX10_set_294 : decode cX10_set 294 = .ok (.aload_n 0, 1) := by decide +kernel
theorem dX10_set_295 : decode cX10_set 295 = .ok (.getfield 20, 3) := by decide +kernel
theorem dX10_set_298 : decode cX10_set 298 = .ok (.iload_n 1, 1) := by decide +kernel
theorem dX10_set_299 : decode cX10_set 299 = .ok (.iaload, 1) := by decide +kernel
theorem dX10_set_300 : decode cX10_set 300 = .ok (.ifCond .ne 30, 3) := by decide +kernel
theorem dX10_set_303 : decode cX10_set 303 = .ok (.aload_n 0, 1) := by decide +kernel
theorem dX10_set_304 : decode cX10_set 304 = .ok (.getfield 36, 3) := by decide +kernel
theorem dX10_set_307 : decode cX10_set 307 = .ok (.iload 8, 2) := by decide +kernel
theorem dX10_set_309 : decode cX10_set 309 = .ok (.iaload, 1) := by decide +kernel
theorem dX10_set_310 : decode cX10_set 310 = .ok (.ifCond .le 20, 3) := by decide +kernel
theorem dX10_set_313 : decode cX10_set 313 = .ok (.aload_n 0, 1) := by decide +kernel
theorem dX10_set_314 : decode cX10_set 314 = .ok (.iload_n 1, 1) := by decide +kernel
theorem dX10_set_315 : decode cX10_set 315 = .ok (.iload 6, 2) := by decide +kernel
theorem dX10_set_317 : decode cX10_set 317 = .ok (.aload_n 0, 1) := by decide +kernel
theorem dX10_set_318 : decode cX10_set 318 = .ok (.getfield 42, 3) := by decide +kernel
theorem dX10_set_321 : decode cX10_set 321 = .ok (.iload 8, 2) := by decide +kernel
theorem dX10_set_323 : decode cX10_set 323 = .ok (.bipush 12, 2) := by decide +kernel
theorem dX10_set_325 : decode cX10_set 325 = .ok (.imul, 1) := by decide +kernel
theorem dX10_set_326 : decode cX10_set 326 = .ok (.iaload, 1) := by decide +kernel
theorem dX10_set_327 : decode cX10_set 327 = .ok (.invokevirtual 142, 3) := by decide +kernel
theorem dX10_set_330 : decode cX10_set 330 = .ok (.iload_n 1, 1) := by decide +kernel
theorem dX10_set_331 : decode cX10_set 331 = .ok (.bipush 100, 2) := by decide +kernel
theorem dX10_set_333 : decode cX10_set 333 = .ok (.imul, 1) := by decide +kernel
theorem dX10_set_334 : decode cX10_set 334 = .ok (.iload 7, 2) := by decide +kernel
theorem dX10_set_336 : decode cX10_set 336 = .ok (.iadd, 1) := by decide +kernel
theorem dX10_set_337 : decode cX10_set 337 = .ok (.istore 12, 2) := by decide +kernel
theorem dX10_set_339 : decode cX10_set 339 = .ok (.aload_n 0, 1) := by decide +kernel
theorem dX10_set_340 : decode cX10_set 340 = .ok (.getfield 20, 3) := by decide +kernel
theorem dX10_set_343 : decode cX10_set 343 = .ok (.iload_n 1, 1) := by decide +kernel
theorem dX10_set_344 : decode cX10_set 344 = .ok (.iaload, 1) := by decide +kernel
theorem dX10_set_345 : decode cX10_set 345 = .ok (.iconst 2, 1) := by decide +kernel
theorem dX10_set_346 : decode cX10_set 346 = .ok (.if_icmp .ge 30, 3) := by decide +kernel
theorem dX10_set_349 : decode cX10_set 349 = .ok (.aload_n 0, 1) := by decide +kernel
theorem dX10_set_350 : decode cX10_set 350 = .ok (.getfield 39, 3) := by decide +kernel
theorem dX10_set_353 : decode cX10_set 353 = .ok (.iload 12, 2) := by decide +kernel
theorem dX10_set_355 : decode cX10_set 355 = .ok (.iaload, 1) := by decide +kernel
theorem dX10_set_356 : decode cX10_set 356 = .ok (.ifCond .le 20, 3) := by decide +kernel
theorem dX10_set_359 : decode cX10_set 359 = .ok (.aload_n 0, 1) := by decide +kernel
theorem dX10_set_360 : decode cX10_set 360 = .ok (.iload_n 1, 1) := by decide +kernel
theorem dX10_set_361 : decode cX10_set 361 = .ok (.aload_n 0, 1) := by decide +kernel
theorem dX10_set_362 : decode cX10_set 362 = .ok (.getfield 45, 3) := by decide +kernel
theorem dX10_set_365 : decode cX10_set 365 = .ok (.iload 12, 2) := by decide +kernel
theorem dX10_set_367 : decode cX10_set 367 = .ok (.bipush 12, 2) := by decide +kernel
theorem dX10_set_369 : decode cX10_set 369 = .ok (.imul, 1) := by decide +kernel
theorem dX10_set_370 : decode cX10_set 370 = .ok (.iaload, 1) := by decide +kernel
theorem dX10_set_371 : decode cX10_set 371 = .ok (.iload 7, 2) := by decide +kernel
theorem dX10_set_373 : decode cX10_set 373 = .ok (.invokevirtual 142, 3) := by decide +kernel
theorem dX10_set_376 : decode cX10_set 376 = .ok (.aload_n 0, 1) := by decide +kernel
theorem dX10_set_377 : decode cX10_set 377 = .ok (.aload_n 0, 1) := by decide +kernel
theorem dX10_set_378 : decode cX10_set 378 = .ok (.getfield 42, 3) := by decide +kernel
theorem dX10_set_381 : decode cX10_set 381 = .ok (.aload_n 0, 1) := by decide +kernel
theorem dX10_set_382 : decode cX10_set 382 = .ok (.getfield 36, 3) := by decide +kernel
theorem dX10_set_385 : decode cX10_set 385 = .ok (.iload 8, 2) := by decide +kernel
theorem dX10_set_387 : decode cX10_set 387 = .ok (.iload 4, 2) := by decide +kernel
theorem dX10_set_389 : decode cX10_set 389 = .ok (.ifCond .ge 13, 3) := by decide +kernel
theorem dX10_set_392 : decode cX10_set 392 = .ok (.aload_n 0, 1) := by decide +kernel
theorem dX10_set_393 : decode cX10_set 393 = .ok (.getfield 36, 3) := by decide +kernel
theorem dX10_set_396 : decode cX10_set 396 = .ok (.iload 8, 2) := by decide +kernel
theorem dX10_set_398 : decode cX10_set 398 = .ok (.iaload, 1) := by decide +kernel
theorem dX10_set_399 : decode cX10_set 399 = .ok (.goto 5, 3) := by decide +kernel
theorem dX10_set_402 : decode cX10_set 402 = .ok (.iload 4, 2) := by decide +kernel
theorem dX10_set_404 : decode cX10_set 404 = .ok (.iload 7, 2) := by decide +kernel
theorem dX10_set_406 : decode cX10_set 406 = .ok (.invokevirtual 131, 3) := by decide +kernel
theorem dX10_set_409 : decode cX10_set 409 = .ok (.aload_n 0, 1) := by decide +kernel
theorem dX10_set_410 : decode cX10_set 410 = .ok (.aload_n 0, 1) := by decide +kernel
theorem dX10_set_411 : decode cX10_set 411 = .ok (.getfield 45, 3) := by decide +kernel
theorem dX10_set_414 : decode cX10_set 414 = .ok (.aload_n 0, 1) := by decide +kernel
theorem dX10_set_415 : decode cX10_set 415 = .ok (.getfield 39, 3) := by decide +kernel
theorem dX10_set_418 : decode cX10_set 418 = .ok (.iload 12, 2) := by decide +kernel
theorem dX10_set_420 : decode cX10_set 420 = .ok (.aload_n 0, 1) := by decide +kernel
theorem dX10_set_421 : decode cX10_set 421 = .ok (.getfield 39, 3) := by decide +kernel
theorem dX10_set_424 : decode cX10_set 424 = .ok (.iload 12, 2) := by decide +kernel
theorem dX10_set_426 : decode cX10_set 426 = .ok (.iaload, 1) := by decide +kernel
theorem dX10_set_427 : decode cX10_set 427 = .ok (.iload 6, 2) := by decide +kernel
theorem dX10_set_429 : decode cX10_set 429 = .ok (.invokevirtual 131, 3) := by decide +kernel
theorem dX10_set_432 : decode cX10_set 432 = .ok (.aload_n 0, 1) := by decide +kernel
theorem dX10_set_433 : decode cX10_set 433 = .ok (.getfield 36, 3) := by decide +kernel
theorem dX10_set_436 : decode cX10_set 436 = .ok (.iload 8, 2) := by decide +kernel
theorem dX10_set_438 : decode cX10_set 438 = .ok (.iaload, 1) := by decide +kernel
theorem dX10_set_439 : decode cX10_set 439 = .ok (.ireturn, 1) := by decide +kernel
theorem dX10_cut_0 : decode cX10_cut 0 = .ok (.aload_n 0, 1) := by decide +kernel
theorem dX10_cut_1 : decode cX10_cut 1 = .ok (.aload_n 0, 1) := by decide +kernel
theorem dX10_cut_2 : decode cX10_cut 2 = .ok (.iload_n 1, 1) := by decide +kernel
theorem dX10_cut_3 : decode cX10_cut 3 = .ok (.iload_n 2, 1) := by decide +kernel
theorem dX10_cut_4 : decode cX10_cut 4 = .ok (.iload_n 3, 1) := by decide +kernel
theorem dX10_cut_5 : decode cX10_cut 5 = .ok (.invokevirtual 127, 3) := by decide +kernel
theorem dX10_cut_8 : decode cX10_cut 8 = .ok (.invokevirtual 88, 3) := by decide +kernel
theorem dX10_cut_11 : decode cX10_cut 11 = .ok (.ifCond .eq 5, 3) := by decide +kernel
theorem dX10_cut_14 : decode cX10_cut 14 = .ok (.iconst 0, 1) := by decide +kernel
theorem dX10_cut_15 : decode cX10_cut 15 = .ok (.ireturn, 1) := by decide +kernel
theorem dX10_cut_16 : decode cX10_cut 16 = .ok (.aload_n 0, 1) := by decide +kernel
theorem dX10_cut_17 : decode cX10_cut 17 = .ok (.iload_n 2, 1) := by decide +kernel
theorem dX10_cut_18 : decode cX10_cut 18 = .ok (.invokevirtual 124, 3) := by decide +kernel
theorem dX10_cut_21 : decode cX10_cut 21 = .ok (.istore 4, 2) := by decide +kernel
theorem dX10_cut_23 : decode cX10_cut 23 = .ok (.aload_n 0, 1) := by decide +kernel
theorem dX10_cut_24 : decode cX10_cut 24 = .ok (.iload_n 3, 1) := by decide +kernel
theorem dX10_cut_25 : decode cX10_cut 25 = .ok (.invokevirtual 124, 3) := by decide +kernel
theorem dX10_cut_28 : decode cX10_cut 28 = .ok (.istore 5, 2) := by decide +kernel
theorem dX10_cut_30 : decode cX10_cut 30 = .ok (.aload_n 0, 1) := by decide +kernel
theorem dX10_cut_31 : decode cX10_cut 31 = .ok (.iload_n 1, 1) := by decide +kernel
theorem dX10_cut_32 : decode cX10_cut 32 = .ok (.iload 4, 2) := by decide +kernel
theorem dX10_cut_34 : decode cX10_cut 34 = .ok (.iload 5, 2) := by decide +kernel
theorem dX10_cut_36 : decode cX10_cut 36 = .ok (.invokevirtual 110, 3) := by decide +kernel
theorem dX10_cut_39 : decode cX10_cut 39 = .ok (.ifCond .ne 5, 3) := by decide +kernel
theorem dX10_cut_42 : decode cX10_cut 42 = .ok (.iconst 0, 1) := by decide +kernel
theorem dX10_cut_43 : decode cX10_cut 43 = .ok (.ireturn, 1) := by decide +kernel
theorem dX10_cut_44 : decode cX10_cut 44 = .ok (.aload_n 0, 1) := by decide +kernel
theorem dX10_cut_45 : decode cX10_cut 45 = .ok (.iload_n 1, 1) := by decide +kernel
theorem dX10_cut_46 : decode cX10_cut 46 = .ok (.iload 4, 2) := by decide +kernel
theorem dX10_cut_48 : decode cX10_cut 48 = .ok (.iload 5, 2) := by decide +kernel
theorem dX10_cut_50 : decode cX10_cut 50 = .ok (.invokevirtual 142, 3) := by decide +kernel
theorem dX10_cut_53 : decode cX10_cut 53 = .ok (.iconst 1, 1) := by decide +kernel
theorem dX10_cut_54 : decode cX10_cut 54 = .ok (.ireturn, 1) := by decide +kernel
theorem dX10_goesToo_0 : decode cX10_goesToo 0 = .ok (.iconst 0, 1) := by decide +kernel
theorem dX10_goesToo_1 : decode cX10_goesToo 1 = .ok (.istore_n 2, 1) := by decide +kernel
theorem dX10_goesToo_2 : decode cX10_goesToo 2 = .ok (.iconst 0, 1) := by decide +kernel
theorem dX10_goesToo_3 : decode cX10_goesToo 3 = .ok (.istore_n 3, 1) := by decide +kernel
theorem dX10_goesToo_4 : decode cX10_goesToo 4 = .ok (.iload_n 3, 1) := by decide +kernel
theorem dX10_goesToo_5 : decode cX10_goesToo 5 = .ok (.aload_n 0, 1) := by decide +kernel
theorem dX10_goesToo_6 : decode cX10_goesToo 6 = .ok (.getfield 85, 3) := by decide +kernel
theorem dX10_goesToo_9 : decode cX10_goesToo 9 = .ok (.if_icmp .ge 76, 3) := by decide +kernel
theorem dX10_goesToo_12 : decode cX10_goesToo 12 = .ok (.aload_n 0, 1) := by decide +kernel
theorem dX10_goesToo_13 : decode cX10_goesToo 13 = .ok (.getfield 23, 3) := by decide +kernel
theorem dX10_goesToo_16 : decode cX10_goesToo 16 = .ok (.iload_n 3, 1) := by decide +kernel
theorem dX10_goesToo_17 : decode cX10_goesToo 17 = .ok (.iaload, 1) := by decide +kernel
theorem dX10_goesToo_18 : decode cX10_goesToo 18 = .ok (.iconst 1, 1) := by decide +kernel
theorem dX10_goesToo_19 : decode cX10_goesToo 19 = .ok (.if_icmp .eq 6, 3) := by decide +kernel
theorem dX10_goesToo_22 : decode cX10_goesToo 22 = .ok (.goto 57, 3) := by decide +kernel
theorem dX10_goesToo_25 : decode cX10_goesToo 25 = .ok (.iload_n 3, 1) := by decide +kernel
theorem dX10_goesToo_26 : decode cX10_goesToo 26 = .ok (.bipush 100, 2) := by decide +kernel
theorem dX10_goesToo_28 : decode cX10_goesToo 28 = .ok (.imul, 1) := by decide +kernel
theorem dX10_goesToo_29 : decode cX10_goesToo 29 = .ok (.iload_n 1, 1) := by decide +kernel
theorem dX10_goesToo_30 : decode cX10_goesToo 30 = .ok (.iadd, 1) := by decide +kernel
theorem dX10_goesToo_31 : decode cX10_goesToo 31 = .ok (.istore 4, 2) := by decide +kernel
theorem dX10_goesToo_33 : decode cX10_goesToo 33 = .ok (.iconst 0, 1) := by decide +kernel
theorem dX10_goesToo_34 : decode cX10_goesToo 34 = .ok (.istore 5, 2) := by decide +kernel
theorem dX10_goesToo_36 : decode cX10_goesToo 36 = .ok (.iload 5, 2) := by decide +kernel
theorem dX10_goesToo_38 : decode cX10_goesToo 38 = .ok (.aload_n 0, 1) := by decide +kernel
theorem dX10_goesToo_39 : decode cX10_goesToo 39 = .ok (.getfield 39, 3) := by decide +kernel
theorem dX10_goesToo_42 : decode cX10_goesToo 42 = .ok (.iload 4, 2) := by decide +kernel
theorem dX10_goesToo_44 : decode cX10_goesToo 44 = .ok (.iaload, 1) := by decide +kernel
theorem dX10_goesToo_45 : decode cX10_goesToo 45 = .ok (.if_icmp .ge 34, 3) := by decide +kernel
theorem dX10_goesToo_48 : decode cX10_goesToo 48 = .ok (.aload_n 0, 1) := by decide +kernel
theorem dX10_goesToo_49 : decode cX10_goesToo 49 = .ok (.getfield 57, 3) := by decide +kernel
theorem dX10_goesToo_52 : decode cX10_goesToo 52 = .ok (.aload_n 0, 1) := by decide +kernel
theorem dX10_goesToo_53 : decode cX10_goesToo 53 = .ok (.getfield 45, 3) := by decide +kernel
theorem dX10_goesToo_56 : decode cX10_goesToo 56 = .ok (.iload 4, 2) := by decide +kernel
theorem dX10_goesToo_58 : decode cX10_goesToo 58 = .ok (.bipush 12, 2) := by decide +kernel
theorem dX10_goesToo_60 : decode cX10_goesToo 60 = .ok (.imul, 1) := by decide +kernel
theorem dX10_goesToo_61 : decode cX10_goesToo 61 = .ok (.iload 5, 2) := by decide +kernel
theorem dX10_goesToo_63 : decode cX10_goesToo 63 = .ok (.iadd, 1) := by decide +kernel
theorem dX10_goesToo_64 : decode cX10_goesToo 64 = .ok (.iaload, 1) := by decide +kernel
theorem dX10_goesToo_65 : decode cX10_goesToo 65 = .ok (.baload, 1) := by decide +kernel
theorem dX10_goesToo_66 : decode cX10_goesToo 66 = .ok (.ifCond .ne 5, 3) := by decide +kernel
theorem dX10_goesToo_69 : decode cX10_goesToo 69 = .ok (.iconst 0, 1) := by decide +kernel
theorem dX10_goesToo_70 : decode cX10_goesToo 70 = .ok (.ireturn, 1) := by decide +kernel
theorem dX10_goesToo_71 : decode cX10_goesToo 71 = .ok (.iconst 1, 1) := by decide +kernel
theorem dX10_goesToo_72 : decode cX10_goesToo 72 = .ok (.istore_n 2, 1) := by decide +kernel
theorem dX10_goesToo_73 : decode cX10_goesToo 73 = .ok (.iinc 5 1, 3) := by decide +kernel
theorem dX10_goesToo_76 : decode cX10_goesToo 76 = .ok (.goto (-40), 3) := by decide +kernel
theorem dX10_goesToo_79 : decode cX10_goesToo 79 = .ok (.iinc 3 1, 3) := by decide +kernel
theorem dX10_goesToo_82 : decode cX10_goesToo 82 = .ok (.goto (-78), 3) := by decide +kernel
theorem dX10_goesToo_85 : decode cX10_goesToo 85 = .ok (.iload_n 2, 1) := by decide +kernel
theorem dX10_goesToo_86 : decode cX10_goesToo 86 = .ok (.ireturn, 1) := by decide +kernel
theorem dX10_barred_0 : decode cX10_barred 0 = .ok (.iconst (-1), 1) := by decide +kernel
theorem dX10_barred_1 : decode cX10_barred 1 = .ok (.istore_n 2, 1) := by decide +kernel
theorem dX10_barred_2 : decode cX10_barred 2 = .ok (.iconst 0, 1) := by decide +kernel
theorem dX10_barred_3 : decode cX10_barred 3 = .ok (.istore_n 3, 1) := by decide +kernel
theorem dX10_barred_4 : decode cX10_barred 4 = .ok (.iload_n 3, 1) := by decide +kernel
theorem dX10_barred_5 : decode cX10_barred 5 = .ok (.aload_n 0, 1) := by decide +kernel
theorem dX10_barred_6 : decode cX10_barred 6 = .ok (.getfield 85, 3) := by decide +kernel
theorem dX10_barred_9 : decode cX10_barred 9 = .ok (.if_icmp .ge 99, 3) := by decide +kernel
theorem dX10_barred_12 : decode cX10_barred 12 = .ok (.aload_n 0, 1) := by decide +kernel
theorem dX10_barred_13 : decode cX10_barred 13 = .ok (.getfield 23, 3) := by decide +kernel
theorem dX10_barred_16 : decode cX10_barred 16 = .ok (.iload_n 3, 1) := by decide +kernel
theorem dX10_barred_17 : decode cX10_barred 17 = .ok (.iaload, 1) := by decide +kernel
theorem dX10_barred_18 : decode cX10_barred 18 = .ok (.iconst 2, 1) := by decide +kernel
theorem dX10_barred_19 : decode cX10_barred 19 = .ok (.if_icmp .eq 6, 3) := by decide +kernel
theorem dX10_barred_22 : decode cX10_barred 22 = .ok (.goto 80, 3) := by decide +kernel
theorem dX10_barred_25 : decode cX10_barred 25 = .ok (.iload_n 3, 1) := by decide +kernel
theorem dX10_barred_26 : decode cX10_barred 26 = .ok (.bipush 100, 2) := by decide +kernel
theorem dX10_barred_28 : decode cX10_barred 28 = .ok (.imul, 1) := by decide +kernel
theorem dX10_barred_29 : decode cX10_barred 29 = .ok (.iload_n 1, 1) := by decide +kernel
theorem dX10_barred_30 : decode cX10_barred 30 = .ok (.iadd, 1) := by decide +kernel
theorem dX10_barred_31 : decode cX10_barred 31 = .ok (.istore 4, 2) := by decide +kernel
theorem dX10_barred_33 : decode cX10_barred 33 = .ok (.iconst 0, 1) := by decide +kernel
theorem dX10_barred_34 : decode cX10_barred 34 = .ok (.istore 5, 2) := by decide +kernel
theorem dX10_barred_36 : decode cX10_barred 36 = .ok (.iload 5, 2) := by decide +kernel
theorem dX10_barred_38 : decode cX10_barred 38 = .ok (.aload_n 0, 1) := by decide +kernel
theorem dX10_barred_39 : decode cX10_barred 39 = .ok (.getfield 36, 3) := by decide +kernel
theorem dX10_barred_42 : decode cX10_barred 42 = .ok (.iload 4, 2) := by decide +kernel
theorem dX10_barred_44 : decode cX10_barred 44 = .ok (.iaload, 1) := by decide +kernel
theorem dX10_barred_45 : decode cX10_barred 45 = .ok (.if_icmp .ge 57, 3) := by decide +kernel
theorem dX10_barred_48 : decode cX10_barred 48 = .ok (.aload_n 0, 1) := by decide +kernel
theorem dX10_barred_49 : decode cX10_barred 49 = .ok (.getfield 42, 3) := by decide +kernel
theorem dX10_barred_52 : decode cX10_barred 52 = .ok (.iload 4, 2) := by decide +kernel
theorem dX10_barred_54 : decode cX10_barred 54 = .ok (.bipush 12, 2) := by decide +kernel
theorem dX10_barred_56 : decode cX10_barred 56 = .ok (.imul, 1) := by decide +kernel
theorem dX10_barred_57 : decode cX10_barred 57 = .ok (.iload 5, 2) := by decide +kernel
theorem dX10_barred_59 : decode cX10_barred 59 = .ok (.iadd, 1) := by decide +kernel
theorem dX10_barred_60 : decode cX10_barred 60 = .ok (.iaload, 1) := by decide +kernel
theorem dX10_barred_61 : decode cX10_barred 61 = .ok (.istore 6, 2) := by decide +kernel
theorem dX10_barred_63 : decode cX10_barred 63 = .ok (.aload_n 0, 1) := by decide +kernel
theorem dX10_barred_64 : decode cX10_barred 64 = .ok (.getfield 57, 3) := by decide +kernel
theorem dX10_barred_67 : decode cX10_barred 67 = .ok (.iload 6, 2) := by decide +kernel
theorem dX10_barred_69 : decode cX10_barred 69 = .ok (.baload, 1) := by decide +kernel
theorem dX10_barred_70 : decode cX10_barred 70 = .ok (.ifCond .ne 26, 3) := by decide +kernel
theorem dX10_barred_73 : decode cX10_barred 73 = .ok (.iload_n 2, 1) := by decide +kernel
theorem dX10_barred_74 : decode cX10_barred 74 = .ok (.ifCond .lt 19, 3) := by decide +kernel
theorem dX10_barred_77 : decode cX10_barred 77 = .ok (.aload_n 0, 1) := by decide +kernel
theorem dX10_barred_78 : decode cX10_barred 78 = .ok (.getfield 30, 3) := by decide +kernel
theorem dX10_barred_81 : decode cX10_barred 81 = .ok (.iload 6, 2) := by decide +kernel
theorem dX10_barred_83 : decode cX10_barred 83 = .ok (.iaload, 1) := by decide +kernel
theorem dX10_barred_84 : decode cX10_barred 84 = .ok (.aload_n 0, 1) := by decide +kernel
theorem dX10_barred_85 : decode cX10_barred 85 = .ok (.getfield 30, 3) := by decide +kernel
theorem dX10_barred_88 : decode cX10_barred 88 = .ok (.iload_n 2, 1) := by decide +kernel
theorem dX10_barred_89 : decode cX10_barred 89 = .ok (.iaload, 1) := by decide +kernel
theorem dX10_barred_90 : decode cX10_barred 90 = .ok (.if_icmp .ge 6, 3) := by decide +kernel
theorem dX10_barred_93 : decode cX10_barred 93 = .ok (.iload 6, 2) := by decide +kernel
theorem dX10_barred_95 : decode cX10_barred 95 = .ok (.istore_n 2, 1) := by decide +kernel
theorem dX10_barred_96 : decode cX10_barred 96 = .ok (.iinc 5 1, 3) := by decide +kernel
theorem dX10_barred_99 : decode cX10_barred 99 = .ok (.goto (-63), 3) := by decide +kernel
theorem dX10_barred_102 : decode cX10_barred 102 = .ok (.iinc 3 1, 3) := by decide +kernel
theorem dX10_barred_105 : decode cX10_barred 105 = .ok (.goto (-101), 3) := by decide +kernel
theorem dX10_barred_108 : decode cX10_barred 108 = .ok (.iload_n 2, 1) := by decide +kernel
theorem dX10_barred_109 : decode cX10_barred 109 = .ok (.ireturn, 1) := by decide +kernel
theorem dX10_drop_0 : decode cX10_drop 0 = .ok (.aload_n 0, 1) := by decide +kernel
theorem dX10_drop_1 : decode cX10_drop 1 = .ok (.aload_n 0, 1) := by decide +kernel
theorem dX10_drop_2 : decode cX10_drop 2 = .ok (.iload_n 1, 1) := by decide +kernel
theorem dX10_drop_3 : decode cX10_drop 3 = .ok (.invokevirtual 124, 3) := by decide +kernel
theorem dX10_drop_6 : decode cX10_drop 6 = .ok (.ifCond .ge 7, 3) := by decide +kernel
theorem dX10_drop_9 : decode cX10_drop 9 = .ok (.iconst 1, 1) := by decide +kernel
theorem dX10_drop_10 : decode cX10_drop 10 = .ok (.goto 4, 3) := by decide +kernel
theorem dX10_drop_13 : decode cX10_drop 13 = .ok (.iconst 0, 1) := by decide +kernel
theorem dX10_drop_14 : decode cX10_drop 14 = .ok (.invokevirtual 88, 3) := by decide +kernel
theorem dX10_drop_17 : decode cX10_drop 17 = .ok (.ifCond .eq 5, 3) := by decide +kernel
theorem dX10_drop_20 : decode cX10_drop 20 = .ok (.iconst 0, 1) := by decide +kernel
theorem dX10_drop_21 : decode cX10_drop 21 = .ok (.ireturn, 1) := by decide +kernel
theorem dX10_drop_22 : decode cX10_drop 22 = .ok (.aload_n 0, 1) := by decide +kernel
theorem dX10_drop_23 : decode cX10_drop 23 = .ok (.iload_n 1, 1) := by decide +kernel
theorem dX10_drop_24 : decode cX10_drop 24 = .ok (.invokevirtual 124, 3) := by decide +kernel
theorem dX10_drop_27 : decode cX10_drop 27 = .ok (.istore_n 2, 1) := by decide +kernel
theorem dX10_drop_28 : decode cX10_drop 28 = .ok (.iconst 0, 1) := by decide +kernel
theorem dX10_drop_29 : decode cX10_drop 29 = .ok (.istore_n 3, 1) := by decide +kernel
theorem dX10_drop_30 : decode cX10_drop 30 = .ok (.iload_n 3, 1) := by decide +kernel
theorem dX10_drop_31 : decode cX10_drop 31 = .ok (.bipush 100, 2) := by decide +kernel
theorem dX10_drop_33 : decode cX10_drop 33 = .ok (.if_icmp .ge 16, 3) := by decide +kernel
theorem dX10_drop_36 : decode cX10_drop 36 = .ok (.aload_n 0, 1) := by decide +kernel
theorem dX10_drop_37 : decode cX10_drop 37 = .ok (.getfield 57, 3) := by decide +kernel
theorem dX10_drop_40 : decode cX10_drop 40 = .ok (.iload_n 3, 1) := by decide +kernel
theorem dX10_drop_41 : decode cX10_drop 41 = .ok (.iconst 0, 1) := by decide +kernel
theorem dX10_drop_42 : decode cX10_drop 42 = .ok (.bastore, 1) := by decide +kernel
theorem dX10_drop_43 : decode cX10_drop 43 = .ok (.iinc 3 1, 3) := by decide +kernel
theorem dX10_drop_46 : decode cX10_drop 46 = .ok (.goto (-16), 3) := by decide +kernel
theorem dX10_drop_49 : decode cX10_drop 49 = .ok (.aload_n 0, 1) := by decide +kernel
theorem dX10_drop_50 : decode cX10_drop 50 = .ok (.getfield 57, 3) := by decide +kernel
theorem dX10_drop_53 : decode cX10_drop 53 = .ok (.iload_n 2, 1) := by decide +kernel
theorem dX10_drop_54 : decode cX10_drop 54 = .ok (.iconst 1, 1) := by decide +kernel
theorem dX10_drop_55 : decode cX10_drop 55 = .ok (.bastore, 1) := by decide +kernel
theorem dX10_drop_56 : decode cX10_drop 56 = .ok (.iconst 1, 1) := by decide +kernel
theorem dX10_drop_57 : decode cX10_drop 57 = .ok (.istore_n 3, 1) := by decide +kernel
theorem dX10_drop_58 : decode cX10_drop 58 = .ok (.iload_n 3, 1) := by decide +kernel
theorem dX10_drop_59 : decode cX10_drop 59 = .ok (.ifCond .eq 66, 3) := by decide +kernel
theorem dX10_drop_62 : decode cX10_drop 62 = .ok (.iconst 0, 1) := by decide +kernel
theorem dX10_drop_63 : decode cX10_drop 63 = .ok (.istore_n 3, 1) := by decide +kernel
theorem dX10_drop_64 : decode cX10_drop 64 = .ok (.iconst 0, 1) := by decide +kernel
theorem dX10_drop_65 : decode cX10_drop 65 = .ok (.istore 4, 2) := by decide +kernel
theorem dX10_drop_67 : decode cX10_drop 67 = .ok (.iload 4, 2) := by decide +kernel
theorem dX10_drop_69 : decode cX10_drop 69 = .ok (.bipush 100, 2) := by decide +kernel
theorem dX10_drop_71 : decode cX10_drop 71 = .ok (.if_icmp .ge 51, 3) := by decide +kernel
theorem dX10_drop_74 : decode cX10_drop 74 = .ok (.aload_n 0, 1) := by decide +kernel
theorem dX10_drop_75 : decode cX10_drop 75 = .ok (.getfield 26, 3) := by decide +kernel
theorem dX10_drop_78 : decode cX10_drop 78 = .ok (.iload 4, 2) := by decide +kernel
theorem dX10_drop_80 : decode cX10_drop 80 = .ok (.baload, 1) := by decide +kernel
theorem dX10_drop_81 : decode cX10_drop 81 = .ok (.ifCond .eq 35, 3) := by decide +kernel
theorem dX10_drop_84 : decode cX10_drop 84 = .ok (.aload_n 0, 1) := by decide +kernel
theorem dX10_drop_85 : decode cX10_drop 85 = .ok (.getfield 57, 3) := by decide +kernel
theorem dX10_drop_88 : decode cX10_drop 88 = .ok (.iload 4, 2) := by decide +kernel
theorem dX10_drop_90 : decode cX10_drop 90 = .ok (.baload, 1) := by decide +kernel
theorem dX10_drop_91 : decode cX10_drop 91 = .ok (.ifCond .ne 25, 3) := by decide +kernel
theorem dX10_drop_94 : decode cX10_drop 94 = .ok (.aload_n 0, 1) := by decide +kernel
theorem dX10_drop_95 : decode cX10_drop 95 = .ok (.iload 4, 2) := by decide +kernel
theorem dX10_drop_97 : decode cX10_drop 97 = .ok (.invokevirtual 146, 3) := by decide +kernel
theorem dX10_drop_100 : decode cX10_drop 100 = .ok (.ifCond .ne 6, 3) := by decide +kernel
theorem dX10_drop_103 : decode cX10_drop 103 = .ok (.goto 13, 3) := by decide +kernel
theorem dX10_drop_106 : decode cX10_drop 106 = .ok (.aload_n 0, 1) := by decide +kernel
theorem dX10_drop_107 : decode cX10_drop 107 = .ok (.getfield 57, 3) := by decide +kernel
theorem dX10_drop_110 : decode cX10_drop 110 = .ok (.iload 4, 2) := by decide +kernel
theorem dX10_drop_112 : decode cX10_drop 112 = .ok (.iconst 1, 1) := by decide +kernel
theorem dX10_drop_113 : decode cX10_drop 113 = .ok (.bastore, 1) := by decide +kernel
theorem dX10_drop_114 : decode cX10_drop 114 = .ok (.iconst 1, 1) := by decide +kernel
theorem dX10_drop_115 : decode cX10_drop 115 = .ok (.istore_n 3, 1) := by decide +kernel
theorem dX10_drop_116 : decode cX10_drop 116 = .ok (.iinc 4 1, 3) := by decide +kernel
theorem dX10_drop_119 : decode cX10_drop 119 = .ok (.goto (-52), 3) := by decide +kernel
theorem dX10_drop_122 : decode cX10_drop 122 = .ok (.goto (-64), 3) := by decide +kernel
theorem dX10_drop_125 : decode cX10_drop 125 = .ok (.aload_n 0, 1) := by decide +kernel
theorem dX10_drop_126 : decode cX10_drop 126 = .ok (.iload_n 2, 1) := by decide +kernel
theorem dX10_drop_127 : decode cX10_drop 127 = .ok (.invokevirtual 149, 3) := by decide +kernel
theorem dX10_drop_130 : decode cX10_drop 130 = .ok (.istore 4, 2) := by decide +kernel
theorem dX10_drop_132 : decode cX10_drop 132 = .ok (.iload 4, 2) := by decide +kernel
theorem dX10_drop_134 : decode cX10_drop 134 = .ok (.ifCond .lt 32, 3) := by decide +kernel
theorem dX10_drop_137 : decode cX10_drop 137 = .ok (.aload_n 0, 1) := by decide +kernel
theorem dX10_drop_138 : decode cX10_drop 138 = .ok (.iload 4, 2) := by decide +kernel
theorem dX10_drop_140 : decode cX10_drop 140 = .ok (.iconst 1, 1) := by decide +kernel
theorem dX10_drop_141 : decode cX10_drop 141 = .ok (.invokevirtual 135, 3) := by decide +kernel
theorem dX10_drop_144 : decode cX10_drop 144 = .ok (.aload_n 0, 1) := by decide +kernel
theorem dX10_drop_145 : decode cX10_drop 145 = .ok (.iload_n 2, 1) := by decide +kernel
theorem dX10_drop_146 : decode cX10_drop 146 = .ok (.invokevirtual 139, 3) := by decide +kernel
theorem dX10_drop_149 : decode cX10_drop 149 = .ok (.aload_n 0, 1) := by decide +kernel
theorem dX10_drop_150 : decode cX10_drop 150 = .ok (.aload_n 0, 1) := by decide +kernel
theorem dX10_drop_151 : decode cX10_drop 151 = .ok (.iload 4, 2) := by decide +kernel
theorem dX10_drop_153 : decode cX10_drop 153 = .ok (.invokevirtual 152, 3) := by decide +kernel
theorem dX10_drop_156 : decode cX10_drop 156 = .ok (.invokevirtual 117, 3) := by decide +kernel
theorem dX10_drop_159 : decode cX10_drop 159 = .ok (.aload_n 0, 1) := by decide +kernel
theorem dX10_drop_160 : decode cX10_drop 160 = .ok (.iconst 2, 1) := by decide +kernel
theorem dX10_drop_161 : decode cX10_drop 161 = .ok (.putfield 1, 3) := by decide +kernel
theorem dX10_drop_164 : decode cX10_drop 164 = .ok (.iconst 0, 1) := by decide +kernel
theorem dX10_drop_165 : decode cX10_drop 165 = .ok (.ireturn, 1) := by decide +kernel
theorem dX10_drop_166 : decode cX10_drop 166 = .ok (.iconst 0, 1) := by decide +kernel
theorem dX10_drop_167 : decode cX10_drop 167 = .ok (.istore 5, 2) := by decide +kernel
theorem dX10_drop_169 : decode cX10_drop 169 = .ok (.iconst 0, 1) := by decide +kernel
theorem dX10_drop_170 : decode cX10_drop 170 = .ok (.istore 6, 2) := by decide +kernel
theorem dX10_drop_172 : decode cX10_drop 172 = .ok (.iload 6, 2) := by decide +kernel
theorem dX10_drop_174 : decode cX10_drop 174 = .ok (.bipush 100, 2) := by decide +kernel
theorem dX10_drop_176 : decode cX10_drop 176 = .ok (.if_icmp .ge 31, 3) := by decide +kernel
theorem dX10_drop_179 : decode cX10_drop 179 = .ok (.aload_n 0, 1) := by decide +kernel
theorem dX10_drop_180 : decode cX10_drop 180 = .ok (.getfield 57, 3) := by decide +kernel
theorem dX10_drop_183 : decode cX10_drop 183 = .ok (.iload 6, 2) := by decide +kernel
theorem dX10_drop_185 : decode cX10_drop 185 = .ok (.baload, 1) := by decide +kernel
theorem dX10_drop_186 : decode cX10_drop 186 = .ok (.ifCond .ne 6, 3) := by decide +kernel
theorem dX10_drop_189 : decode cX10_drop 189 = .ok (.goto 12, 3) := by decide +kernel
theorem dX10_drop_192 : decode cX10_drop 192 = .ok (.aload_n 0, 1) := by decide +kernel
theorem dX10_drop_193 : decode cX10_drop 193 = .ok (.iload 6, 2) := by decide +kernel
theorem dX10_drop_195 : decode cX10_drop 195 = .ok (.invokevirtual 155, 3) := by decide +kernel
theorem dX10_drop_198 : decode cX10_drop 198 = .ok (.iinc 5 1, 3) := by decide +kernel
theorem dX10_drop_201 : decode cX10_drop 201 = .ok (.iinc 6 1, 3) := by decide +kernel
theorem dX10_drop_204 : decode cX10_drop 204 = .ok (.goto (-32), 3) := by decide +kernel
theorem dX10_drop_207 : decode cX10_drop 207 = .ok (.iload 5, 2) := by decide +kernel
theorem dX10_drop_209 : decode cX10_drop 209 = .ok (.ireturn, 1) := by decide +kernel
theorem dX10_firstBarred_0 : decode cX10_firstBarred 0 = .ok (.iconst (-1), 1) := by decide +kernel
theorem dX10_firstBarred_1 : decode cX10_firstBarred 1 = .ok (.istore_n 2, 1) := by decide +kernel
theorem dX10_firstBarred_2 : decode cX10_firstBarred 2 = .ok (.iconst 0, 1) := by decide +kernel
theorem dX10_firstBarred_3 : decode cX10_firstBarred 3 = .ok (.istore_n 3, 1) := by decide +kernel
theorem dX10_firstBarred_4 : decode cX10_firstBarred 4 = .ok (.iconst 0, 1) := by decide +kernel
theorem dX10_firstBarred_5 : decode cX10_firstBarred 5 = .ok (.istore 4, 2) := by decide +kernel
theorem dX10_firstBarred_7 : decode cX10_firstBarred 7 = .ok (.iload 4, 2) := by decide +kernel
theorem dX10_firstBarred_9 : decode cX10_firstBarred 9 = .ok (.bipush 100, 2) := by decide +kernel
theorem dX10_firstBarred_11 : decode cX10_firstBarred 11 = .ok (.if_icmp .ge 84, 3) := by decide +kernel
theorem dX10_firstBarred_14 : decode cX10_firstBarred 14 = .ok (.aload_n 0, 1) := by decide +kernel
theorem dX10_firstBarred_15 : decode cX10_firstBarred 15 = .ok (.getfield 57, 3) := by decide +kernel
theorem dX10_firstBarred_18 : decode cX10_firstBarred 18 = .ok (.iload 4, 2) := by decide +kernel
theorem dX10_firstBarred_20 : decode cX10_firstBarred 20 = .ok (.baload, 1) := by decide +kernel
theorem dX10_firstBarred_21 : decode cX10_firstBarred 21 = .ok (.ifCond .eq 68, 3) := by decide +kernel
theorem dX10_firstBarred_24 : decode cX10_firstBarred 24 = .ok (.aload_n 0, 1) := by decide +kernel
theorem dX10_firstBarred_25 : decode cX10_firstBarred 25 = .ok (.iload 4, 2) := by decide +kernel
theorem dX10_firstBarred_27 : decode cX10_firstBarred 27 = .ok (.invokevirtual 152, 3) := by decide +kernel
theorem dX10_firstBarred_30 : decode cX10_firstBarred 30 = .ok (.ifCond .ge 6, 3) := by decide +kernel
theorem dX10_firstBarred_33 : decode cX10_firstBarred 33 = .ok (.goto 56, 3) := by decide +kernel
theorem dX10_firstBarred_36 : decode cX10_firstBarred 36 = .ok (.aload_n 0, 1) := by decide +kernel
theorem dX10_firstBarred_37 : decode cX10_firstBarred 37 = .ok (.iload 4, 2) := by decide +kernel
theorem dX10_firstBarred_39 : decode cX10_firstBarred 39 = .ok (.iconst 1, 1) := by decide +kernel
theorem dX10_firstBarred_40 : decode cX10_firstBarred 40 = .ok (.invokevirtual 135, 3) := by decide +kernel
theorem dX10_firstBarred_43 : decode cX10_firstBarred 43 = .ok (.aload_n 0, 1) := by decide +kernel
theorem dX10_firstBarred_44 : decode cX10_firstBarred 44 = .ok (.getfield 51, 3) := by decide +kernel
theorem dX10_firstBarred_47 : decode cX10_firstBarred 47 = .ok (.iload_n 1, 1) := by decide +kernel
theorem dX10_firstBarred_48 : decode cX10_firstBarred 48 = .ok (.iaload, 1) := by decide +kernel
theorem dX10_firstBarred_49 : decode cX10_firstBarred 49 = .ok (.istore 5, 2) := by decide +kernel
theorem dX10_firstBarred_51 : decode cX10_firstBarred 51 = .ok (.iload_n 2, 1) := by decide +kernel
theorem dX10_firstBarred_52 : decode cX10_firstBarred 52 = .ok (.ifCond .lt 31, 3) := by decide +kernel
theorem dX10_firstBarred_55 : decode cX10_firstBarred 55 = .ok (.iload 5, 2) := by decide +kernel
theorem dX10_firstBarred_57 : decode cX10_firstBarred 57 = .ok (.iload_n 3, 1) := by decide +kernel
theorem dX10_firstBarred_58 : decode cX10_firstBarred 58 = .ok (.if_icmp .lt 25, 3) := by decide +kernel
theorem dX10_firstBarred_61 : decode cX10_firstBarred 61 = .ok (.iload 5, 2) := by decide +kernel
theorem dX10_firstBarred_63 : decode cX10_firstBarred 63 = .ok (.iload_n 3, 1) := by decide +kernel
theorem dX10_firstBarred_64 : decode cX10_firstBarred 64 = .ok (.if_icmp .ne 25, 3) := by decide +kernel
theorem dX10_firstBarred_67 : decode cX10_firstBarred 67 = .ok (.aload_n 0, 1) := by decide +kernel
theorem dX10_firstBarred_68 : decode cX10_firstBarred 68 = .ok (.getfield 30, 3) := by decide +kernel
theorem dX10_firstBarred_71 : decode cX10_firstBarred 71 = .ok (.iload 4, 2) := by decide +kernel
theorem dX10_firstBarred_73 : decode cX10_firstBarred 73 = .ok (.iaload, 1) := by decide +kernel
theorem dX10_firstBarred_74 : decode cX10_firstBarred 74 = .ok (.aload_n 0, 1) := by decide +kernel
theorem dX10_firstBarred_75 : decode cX10_firstBarred 75 = .ok (.getfield 30, 3) := by decide +kernel
theorem dX10_firstBarred_78 : decode cX10_firstBarred 78 = .ok (.iload_n 2, 1) := by decide +kernel
theorem dX10_firstBarred_79 : decode cX10_firstBarred 79 = .ok (.iaload, 1) := by decide +kernel
theorem dX10_firstBarred_80 : decode cX10_firstBarred 80 = .ok (.if_icmp .ge 9, 3) := by decide +kernel
theorem dX10_firstBarred_83 : decode cX10_firstBarred 83 = .ok (.iload 4, 2) := by decide +kernel
theorem dX10_firstBarred_85 : decode cX10_firstBarred 85 = .ok (.istore_n 2, 1) := by decide +kernel
theorem dX10_firstBarred_86 : decode cX10_firstBarred 86 = .ok (.iload 5, 2) := by decide +kernel
theorem dX10_firstBarred_88 : decode cX10_firstBarred 88 = .ok (.istore_n 3, 1) := by decide +kernel
theorem dX10_firstBarred_89 : decode cX10_firstBarred 89 = .ok (.iinc 4 1, 3) := by decide +kernel
theorem dX10_firstBarred_92 : decode cX10_firstBarred 92 = .ok (.goto (-85), 3) := by decide +kernel
theorem dX10_firstBarred_95 : decode cX10_firstBarred 95 = .ok (.iload_n 2, 1) := by decide +kernel
theorem dX10_firstBarred_96 : decode cX10_firstBarred 96 = .ok (.ireturn, 1) := by decide +kernel
theorem dX10_erase_0 : decode cX10_erase 0 = .ok (.iconst 0, 1) := by decide +kernel
theorem dX10_erase_1 : decode cX10_erase 1 = .ok (.istore_n 2, 1) := by decide +kernel
theorem dX10_erase_2 : decode cX10_erase 2 = .ok (.iload_n 2, 1) := by decide +kernel
theorem dX10_erase_3 : decode cX10_erase 3 = .ok (.aload_n 0, 1) := by decide +kernel
theorem dX10_erase_4 : decode cX10_erase 4 = .ok (.getfield 85, 3) := by decide +kernel
theorem dX10_erase_7 : decode cX10_erase 7 = .ok (.if_icmp .ge 70, 3) := by decide +kernel
theorem dX10_erase_10 : decode cX10_erase 10 = .ok (.iload_n 2, 1) := by decide +kernel
theorem dX10_erase_11 : decode cX10_erase 11 = .ok (.bipush 100, 2) := by decide +kernel
theorem dX10_erase_13 : decode cX10_erase 13 = .ok (.imul, 1) := by decide +kernel
theorem dX10_erase_14 : decode cX10_erase 14 = .ok (.iload_n 1, 1) := by decide +kernel
theorem dX10_erase_15 : decode cX10_erase 15 = .ok (.iadd, 1) := by decide +kernel
theorem dX10_erase_16 : decode cX10_erase 16 = .ok (.istore_n 3, 1) := by decide +kernel
theorem dX10_erase_17 : decode cX10_erase 17 = .ok (.aload_n 0, 1) := by decide +kernel
theorem dX10_erase_18 : decode cX10_erase 18 = .ok (.getfield 36, 3) := by decide +kernel
theorem dX10_erase_21 : decode cX10_erase 21 = .ok (.iload_n 3, 1) := by decide +kernel
theorem dX10_erase_22 : decode cX10_erase 22 = .ok (.iaload, 1) := by decide +kernel
theorem dX10_erase_23 : decode cX10_erase 23 = .ok (.ifCond .le 21, 3) := by decide +kernel
theorem dX10_erase_26 : decode cX10_erase 26 = .ok (.aload_n 0, 1) := by decide +kernel
theorem dX10_erase_27 : decode cX10_erase 27 = .ok (.iload_n 2, 1) := by decide +kernel
theorem dX10_erase_28 : decode cX10_erase 28 = .ok (.iload_n 1, 1) := by decide +kernel
theorem dX10_erase_29 : decode cX10_erase 29 = .ok (.aload_n 0, 1) := by decide +kernel
theorem dX10_erase_30 : decode cX10_erase 30 = .ok (.getfield 42, 3) := by decide +kernel
theorem dX10_erase_33 : decode cX10_erase 33 = .ok (.iload_n 3, 1) := by decide +kernel
theorem dX10_erase_34 : decode cX10_erase 34 = .ok (.bipush 12, 2) := by decide +kernel
theorem dX10_erase_36 : decode cX10_erase 36 = .ok (.imul, 1) := by decide +kernel
theorem dX10_erase_37 : decode cX10_erase 37 = .ok (.iaload, 1) := by decide +kernel
theorem dX10_erase_38 : decode cX10_erase 38 = .ok (.invokevirtual 142, 3) := by decide +kernel
theorem dX10_erase_41 : decode cX10_erase 41 = .ok (.goto (-24), 3) := by decide +kernel
theorem dX10_erase_44 : decode cX10_erase 44 = .ok (.aload_n 0, 1) := by decide +kernel
theorem dX10_erase_45 : decode cX10_erase 45 = .ok (.getfield 39, 3) := by decide +kernel
theorem dX10_erase_48 : decode cX10_erase 48 = .ok (.iload_n 3, 1) := by decide +kernel
theorem dX10_erase_49 : decode cX10_erase 49 = .ok (.iaload, 1) := by decide +kernel
theorem dX10_erase_50 : decode cX10_erase 50 = .ok (.ifCond .le 21, 3) := by decide +kernel
theorem dX10_erase_53 : decode cX10_erase 53 = .ok (.aload_n 0, 1) := by decide +kernel
theorem dX10_erase_54 : decode cX10_erase 54 = .ok (.iload_n 2, 1) := by decide +kernel
theorem dX10_erase_55 : decode cX10_erase 55 = .ok (.aload_n 0, 1) := by decide +kernel
theorem dX10_erase_56 : decode cX10_erase 56 = .ok (.getfield 45, 3) := by decide +kernel
theorem dX10_erase_59 : decode cX10_erase 59 = .ok (.iload_n 3, 1) := by decide +kernel
theorem dX10_erase_60 : decode cX10_erase 60 = .ok (.bipush 12, 2) := by decide +kernel
theorem dX10_erase_62 : decode cX10_erase 62 = .ok (.imul, 1) := by decide +kernel
theorem dX10_erase_63 : decode cX10_erase 63 = .ok (.iaload, 1) := by decide +kernel
theorem dX10_erase_64 : decode cX10_erase 64 = .ok (.iload_n 1, 1) := by decide +kernel
theorem dX10_erase_65 : decode cX10_erase 65 = .ok (.invokevirtual 142, 3) := by decide +kernel
theorem dX10_erase_68 : decode cX10_erase 68 = .ok (.goto (-24), 3) := by decide +kernel
theorem dX10_erase_71 : decode cX10_erase 71 = .ok (.iinc 2 1, 3) := by decide +kernel
theorem dX10_erase_74 : decode cX10_erase 74 = .ok (.goto (-72), 3) := by decide +kernel
theorem dX10_erase_77 : decode cX10_erase 77 = .ok (.aload_n 0, 1) := by decide +kernel
theorem dX10_erase_78 : decode cX10_erase 78 = .ok (.getfield 26, 3) := by decide +kernel
theorem dX10_erase_81 : decode cX10_erase 81 = .ok (.iload_n 1, 1) := by decide +kernel
theorem dX10_erase_82 : decode cX10_erase 82 = .ok (.iconst 0, 1) := by decide +kernel
theorem dX10_erase_83 : decode cX10_erase 83 = .ok (.bastore, 1) := by decide +kernel
theorem dX10_erase_84 : decode cX10_erase 84 = .ok (.aload_n 0, 1) := by decide +kernel
theorem dX10_erase_85 : decode cX10_erase 85 = .ok (.dup, 1) := by decide +kernel
theorem dX10_erase_86 : decode cX10_erase 86 = .ok (.getfield 95, 3) := by decide +kernel
theorem dX10_erase_89 : decode cX10_erase 89 = .ok (.iconst 1, 1) := by decide +kernel
theorem dX10_erase_90 : decode cX10_erase 90 = .ok (.isub, 1) := by decide +kernel
theorem dX10_erase_91 : decode cX10_erase 91 = .ok (.putfield 95, 3) := by decide +kernel
theorem dX10_erase_94 : decode cX10_erase 94 = .ok (.return_, 1) := by decide +kernel
theorem dX10_markUnder_0 : decode cX10_markUnder 0 = .ok (.iconst 0, 1) := by decide +kernel
theorem dX10_markUnder_1 : decode cX10_markUnder 1 = .ok (.istore_n 2, 1) := by decide +kernel
theorem dX10_markUnder_2 : decode cX10_markUnder 2 = .ok (.iload_n 2, 1) := by decide +kernel
theorem dX10_markUnder_3 : decode cX10_markUnder 3 = .ok (.bipush 100, 2) := by decide +kernel
theorem dX10_markUnder_5 : decode cX10_markUnder 5 = .ok (.if_icmp .ge 16, 3) := by decide +kernel
theorem dX10_markUnder_8 : decode cX10_markUnder 8 = .ok (.aload_n 0, 1) := by decide +kernel
theorem dX10_markUnder_9 : decode cX10_markUnder 9 = .ok (.getfield 60, 3) := by decide +kernel
theorem dX10_markUnder_12 : decode cX10_markUnder 12 = .ok (.iload_n 2, 1) := by decide +kernel
theorem dX10_markUnder_13 : decode cX10_markUnder 13 = .ok (.iconst 0, 1) := by decide +kernel
theorem dX10_markUnder_14 : decode cX10_markUnder 14 = .ok (.bastore, 1) := by decide +kernel
theorem dX10_markUnder_15 : decode cX10_markUnder 15 = .ok (.iinc 2 1, 3) := by decide +kernel
theorem dX10_markUnder_18 : decode cX10_markUnder 18 = .ok (.goto (-16), 3) := by decide +kernel
theorem dX10_markUnder_21 : decode cX10_markUnder 21 = .ok (.iconst 1, 1) := by decide +kernel
theorem dX10_markUnder_22 : decode cX10_markUnder 22 = .ok (.istore_n 2, 1) := by decide +kernel
theorem dX10_markUnder_23 : decode cX10_markUnder 23 = .ok (.aload_n 0, 1) := by decide +kernel
theorem dX10_markUnder_24 : decode cX10_markUnder 24 = .ok (.getfield 54, 3) := by decide +kernel
theorem dX10_markUnder_27 : decode cX10_markUnder 27 = .ok (.iconst 0, 1) := by decide +kernel
theorem dX10_markUnder_28 : decode cX10_markUnder 28 = .ok (.iload_n 1, 1) := by decide +kernel
theorem dX10_markUnder_29 : decode cX10_markUnder 29 = .ok (.iastore, 1) := by decide +kernel
theorem dX10_markUnder_30 : decode cX10_markUnder 30 = .ok (.iconst 0, 1) := by decide +kernel
theorem dX10_markUnder_31 : decode cX10_markUnder 31 = .ok (.istore_n 3, 1) := by decide +kernel
theorem dX10_markUnder_32 : decode cX10_markUnder 32 = .ok (.iconst 0, 1) := by decide +kernel
theorem dX10_markUnder_33 : decode cX10_markUnder 33 = .ok (.istore 4, 2) := by decide +kernel
theorem dX10_markUnder_35 : decode cX10_markUnder 35 = .ok (.iload 4, 2) := by decide +kernel
theorem dX10_markUnder_37 : decode cX10_markUnder 37 = .ok (.iload_n 2, 1) := by decide +kernel
theorem dX10_markUnder_38 : decode cX10_markUnder 38 = .ok (.if_icmp .ge 127, 3) := by decide +kernel
theorem dX10_markUnder_41 : decode cX10_markUnder 41 = .ok (.iconst 0, 1) := by decide +kernel
theorem dX10_markUnder_42 : decode cX10_markUnder 42 = .ok (.istore 5, 2) := by decide +kernel
theorem dX10_markUnder_44 : decode cX10_markUnder 44 = .ok (.iload 5, 2) := by decide +kernel
theorem dX10_markUnder_46 : decode cX10_markUnder 46 = .ok (.aload_n 0, 1) := by decide +kernel
theorem dX10_markUnder_47 : decode cX10_markUnder 47 = .ok (.getfield 85, 3) := by decide +kernel
theorem dX10_markUnder_50 : decode cX10_markUnder 50 = .ok (.if_icmp .ge 109, 3) := by decide +kernel
theorem dX10_markUnder_53 : decode cX10_markUnder 53 = .ok (.aload_n 0, 1) := by decide +kernel
theorem dX10_markUnder_54 : decode cX10_markUnder 54 = .ok (.getfield 23, 3) := by decide +kernel
theorem dX10_markUnder_57 : decode cX10_markUnder 57 = .ok (.iload 5, 2) := by decide +kernel
theorem dX10_markUnder_59 : decode cX10_markUnder 59 = .ok (.iaload, 1) := by decide +kernel
theorem dX10_markUnder_60 : decode cX10_markUnder 60 = .ok (.iconst 1, 1) := by decide +kernel
theorem dX10_markUnder_61 : decode cX10_markUnder 61 = .ok (.if_icmp .eq 6, 3) := by decide +kernel
theorem dX10_markUnder_64 : decode cX10_markUnder 64 = .ok (.goto 89, 3) := by decide +kernel
theorem dX10_markUnder_67 : decode cX10_markUnder 67 = .ok (.iload 5, 2) := by decide +kernel
theorem dX10_markUnder_69 : decode cX10_markUnder 69 = .ok (.bipush 100, 2) := by decide +kernel
theorem dX10_markUnder_71 : decode cX10_markUnder 71 = .ok (.imul, 1) := by decide +kernel
theorem dX10_markUnder_72 : decode cX10_markUnder 72 = .ok (.aload_n 0, 1) := by decide +kernel
theorem dX10_markUnder_73 : decode cX10_markUnder 73 = .ok (.getfield 54, 3) := by decide +kernel
theorem dX10_markUnder_76 : decode cX10_markUnder 76 = .ok (.iload 4, 2) := by decide +kernel
theorem dX10_markUnder_78 : decode cX10_markUnder 78 = .ok (.iaload, 1) := by decide +kernel
theorem dX10_markUnder_79 : decode cX10_markUnder 79 = .ok (.iadd, 1) := by decide +kernel
theorem dX10_markUnder_80 : decode cX10_markUnder 80 = .ok (.istore 6, 2) := by decide +kernel
theorem dX10_markUnder_82 : decode cX10_markUnder 82 = .ok (.iconst 0, 1) := by decide +kernel
theorem dX10_markUnder_83 : decode cX10_markUnder 83 = .ok (.istore 7, 2) := by decide +kernel
theorem dX10_markUnder_85 : decode cX10_markUnder 85 = .ok (.iload 7, 2) := by decide +kernel
theorem dX10_markUnder_87 : decode cX10_markUnder 87 = .ok (.aload_n 0, 1) := by decide +kernel
theorem dX10_markUnder_88 : decode cX10_markUnder 88 = .ok (.getfield 36, 3) := by decide +kernel
theorem dX10_markUnder_91 : decode cX10_markUnder 91 = .ok (.iload 6, 2) := by decide +kernel
theorem dX10_markUnder_93 : decode cX10_markUnder 93 = .ok (.iaload, 1) := by decide +kernel
theorem dX10_markUnder_94 : decode cX10_markUnder 94 = .ok (.if_icmp .ge 59, 3) := by decide +kernel
theorem dX10_markUnder_97 : decode cX10_markUnder 97 = .ok (.aload_n 0, 1) := by decide +kernel
theorem dX10_markUnder_98 : decode cX10_markUnder 98 = .ok (.getfield 42, 3) := by decide +kernel
theorem dX10_markUnder_101 : decode cX10_markUnder 101 = .ok (.iload 6, 2) := by decide +kernel
theorem dX10_markUnder_103 : decode cX10_markUnder 103 = .ok (.bipush 12, 2) := by decide +kernel
theorem dX10_markUnder_105 : decode cX10_markUnder 105 = .ok (.imul, 1) := by decide +kernel
theorem dX10_markUnder_106 : decode cX10_markUnder 106 = .ok (.iload 7, 2) := by decide +kernel
theorem dX10_markUnder_108 : decode cX10_markUnder 108 = .ok (.iadd, 1) := by decide +kernel
theorem dX10_markUnder_109 : decode cX10_markUnder 109 = .ok (.iaload, 1) := by decide +kernel
theorem dX10_markUnder_110 : decode cX10_markUnder 110 = .ok (.istore 8, 2) := by decide +kernel
theorem dX10_markUnder_112 : decode cX10_markUnder 112 = .ok (.aload_n 0, 1) := by decide +kernel
theorem dX10_markUnder_113 : decode cX10_markUnder 113 = .ok (.getfield 60, 3) := by decide +kernel
theorem dX10_markUnder_116 : decode cX10_markUnder 116 = .ok (.iload 8, 2) := by decide +kernel
theorem dX10_markUnder_118 : decode cX10_markUnder 118 = .ok (.baload, 1) := by decide +kernel
theorem dX10_markUnder_119 : decode cX10_markUnder 119 = .ok (.ifCond .eq 6, 3) := by decide +kernel
theorem dX10_markUnder_122 : decode cX10_markUnder 122 = .ok (.goto 25, 3) := by decide +kernel
theorem dX10_markUnder_125 : decode cX10_markUnder 125 = .ok (.aload_n 0, 1) := by decide +kernel
theorem dX10_markUnder_126 : decode cX10_markUnder 126 = .ok (.getfield 60, 3) := by decide +kernel
theorem dX10_markUnder_129 : decode cX10_markUnder 129 = .ok (.iload 8, 2) := by decide +kernel
theorem dX10_markUnder_131 : decode cX10_markUnder 131 = .ok (.iconst 1, 1) := by decide +kernel
theorem dX10_markUnder_132 : decode cX10_markUnder 132 = .ok (.bastore, 1) := by decide +kernel
theorem dX10_markUnder_133 : decode cX10_markUnder 133 = .ok (.aload_n 0, 1) := by decide +kernel
theorem dX10_markUnder_134 : decode cX10_markUnder 134 = .ok (.getfield 54, 3) := by decide +kernel
theorem dX10_markUnder_137 : decode cX10_markUnder 137 = .ok (.iload_n 2, 1) := by decide +kernel
theorem dX10_markUnder_138 : decode cX10_markUnder 138 = .ok (.iload 8, 2) := by decide +kernel
theorem dX10_markUnder_140 : decode cX10_markUnder 140 = .ok (.iastore, 1) := by decide +kernel
theorem dX10_markUnder_141 : decode cX10_markUnder 141 = .ok (.iinc 2 1, 3) := by decide +kernel
theorem dX10_markUnder_144 : decode cX10_markUnder 144 = .ok (.iinc 3 1, 3) := by decide +kernel
theorem dX10_markUnder_147 : decode cX10_markUnder 147 = .ok (.iinc 7 1, 3) := by decide +kernel
theorem dX10_markUnder_150 : decode cX10_markUnder 150 = .ok (.goto (-65), 3) := by decide +kernel
theorem dX10_markUnder_153 : decode cX10_markUnder 153 = .ok (.iinc 5 1, 3) := by decide +kernel
theorem dX10_markUnder_156 : decode cX10_markUnder 156 = .ok (.goto (-112), 3) := by decide +kernel
theorem dX10_markUnder_159 : decode cX10_markUnder 159 = .ok (.iinc 4 1, 3) := by decide +kernel
theorem dX10_markUnder_162 : decode cX10_markUnder 162 = .ok (.goto (-127), 3) := by decide +kernel
theorem dX10_markUnder_165 : decode cX10_markUnder 165 = .ok (.iload_n 3, 1) := by decide +kernel
theorem dX10_markUnder_166 : decode cX10_markUnder 166 = .ok (.ireturn, 1) := by decide +kernel
theorem dX10_isCrowded_0 : decode cX10_isCrowded 0 = .ok (.iconst 0, 1) := by decide +kernel
theorem dX10_isCrowded_1 : decode cX10_isCrowded 1 = .ok (.istore_n 2, 1) := by decide +kernel
theorem dX10_isCrowded_2 : decode cX10_isCrowded 2 = .ok (.iload_n 2, 1) := by decide +kernel
theorem dX10_isCrowded_3 : decode cX10_isCrowded 3 = .ok (.aload_n 0, 1) := by decide +kernel
theorem dX10_isCrowded_4 : decode cX10_isCrowded 4 = .ok (.getfield 85, 3) := by decide +kernel
theorem dX10_isCrowded_7 : decode cX10_isCrowded 7 = .ok (.if_icmp .ge 188, 3) := by decide +kernel
theorem dX10_isCrowded_10 : decode cX10_isCrowded 10 = .ok (.aload_n 0, 1) := by decide +kernel
theorem dX10_isCrowded_11 : decode cX10_isCrowded 11 = .ok (.getfield 23, 3) := by decide +kernel
theorem dX10_isCrowded_14 : decode cX10_isCrowded 14 = .ok (.iload_n 2, 1) := by decide +kernel
theorem dX10_isCrowded_15 : decode cX10_isCrowded 15 = .ok (.iaload, 1) := by decide +kernel
theorem dX10_isCrowded_16 : decode cX10_isCrowded 16 = .ok (.iconst 1, 1) := by decide +kernel
theorem dX10_isCrowded_17 : decode cX10_isCrowded 17 = .ok (.if_icmp .eq 172, 3) := by decide +kernel
theorem dX10_isCrowded_20 : decode cX10_isCrowded 20 = .ok (.aload_n 0, 1) := by decide +kernel
theorem dX10_isCrowded_21 : decode cX10_isCrowded 21 = .ok (.getfield 20, 3) := by decide +kernel
theorem dX10_isCrowded_24 : decode cX10_isCrowded 24 = .ok (.iload_n 2, 1) := by decide +kernel
theorem dX10_isCrowded_25 : decode cX10_isCrowded 25 = .ok (.iaload, 1) := by decide +kernel
theorem dX10_isCrowded_26 : decode cX10_isCrowded 26 = .ok (.iconst 2, 1) := by decide +kernel
theorem dX10_isCrowded_27 : decode cX10_isCrowded 27 = .ok (.if_icmp .eq 6, 3) := by decide +kernel
theorem dX10_isCrowded_30 : decode cX10_isCrowded 30 = .ok (.goto 159, 3) := by decide +kernel
theorem dX10_isCrowded_33 : decode cX10_isCrowded 33 = .ok (.iconst 0, 1) := by decide +kernel
theorem dX10_isCrowded_34 : decode cX10_isCrowded 34 = .ok (.istore_n 3, 1) := by decide +kernel
theorem dX10_isCrowded_35 : decode cX10_isCrowded 35 = .ok (.iload_n 3, 1) := by decide +kernel
theorem dX10_isCrowded_36 : decode cX10_isCrowded 36 = .ok (.bipush 100, 2) := by decide +kernel
theorem dX10_isCrowded_38 : decode cX10_isCrowded 38 = .ok (.if_icmp .ge 16, 3) := by decide +kernel
theorem dX10_isCrowded_41 : decode cX10_isCrowded 41 = .ok (.aload_n 0, 1) := by decide +kernel
theorem dX10_isCrowded_42 : decode cX10_isCrowded 42 = .ok (.getfield 69, 3) := by decide +kernel
theorem dX10_isCrowded_45 : decode cX10_isCrowded 45 = .ok (.iload_n 3, 1) := by decide +kernel
theorem dX10_isCrowded_46 : decode cX10_isCrowded 46 = .ok (.iconst 0, 1) := by decide +kernel
theorem dX10_isCrowded_47 : decode cX10_isCrowded 47 = .ok (.iastore, 1) := by decide +kernel
theorem dX10_isCrowded_48 : decode cX10_isCrowded 48 = .ok (.iinc 3 1, 3) := by decide +kernel
theorem dX10_isCrowded_51 : decode cX10_isCrowded 51 = .ok (.goto (-16), 3) := by decide +kernel
theorem dX10_isCrowded_54 : decode cX10_isCrowded 54 = .ok (.iconst 0, 1) := by decide +kernel
theorem dX10_isCrowded_55 : decode cX10_isCrowded 55 = .ok (.istore_n 3, 1) := by decide +kernel
theorem dX10_isCrowded_56 : decode cX10_isCrowded 56 = .ok (.iload_n 3, 1) := by decide +kernel
theorem dX10_isCrowded_57 : decode cX10_isCrowded 57 = .ok (.iload_n 1, 1) := by decide +kernel
theorem dX10_isCrowded_58 : decode cX10_isCrowded 58 = .ok (.if_icmp .ge 65, 3) := by decide +kernel
theorem dX10_isCrowded_61 : decode cX10_isCrowded 61 = .ok (.iload_n 2, 1) := by decide +kernel
theorem dX10_isCrowded_62 : decode cX10_isCrowded 62 = .ok (.bipush 100, 2) := by decide +kernel
theorem dX10_isCrowded_64 : decode cX10_isCrowded 64 = .ok (.imul, 1) := by decide +kernel
theorem dX10_isCrowded_65 : decode cX10_isCrowded 65 = .ok (.aload_n 0, 1) := by decide +kernel
theorem dX10_isCrowded_66 : decode cX10_isCrowded 66 = .ok (.getfield 66, 3) := by decide +kernel
theorem dX10_isCrowded_69 : decode cX10_isCrowded 69 = .ok (.iload_n 3, 1) := by decide +kernel
theorem dX10_isCrowded_70 : decode cX10_isCrowded 70 = .ok (.iaload, 1) := by decide +kernel
theorem dX10_isCrowded_71 : decode cX10_isCrowded 71 = .ok (.iadd, 1) := by decide +kernel
theorem dX10_isCrowded_72 : decode cX10_isCrowded 72 = .ok (.istore 4, 2) := by decide +kernel
theorem dX10_isCrowded_74 : decode cX10_isCrowded 74 = .ok (.iconst 0, 1) := by decide +kernel
theorem dX10_isCrowded_75 : decode cX10_isCrowded 75 = .ok (.istore 5, 2) := by decide +kernel
theorem dX10_isCrowded_77 : decode cX10_isCrowded 77 = .ok (.iload 5, 2) := by decide +kernel
theorem dX10_isCrowded_79 : decode cX10_isCrowded 79 = .ok (.aload_n 0, 1) := by decide +kernel
theorem dX10_isCrowded_80 : decode cX10_isCrowded 80 = .ok (.getfield 36, 3) := by decide +kernel
theorem dX10_isCrowded_83 : decode cX10_isCrowded 83 = .ok (.iload 4, 2) := by decide +kernel
theorem dX10_isCrowded_85 : decode cX10_isCrowded 85 = .ok (.iaload, 1) := by decide +kernel
theorem dX10_isCrowded_86 : decode cX10_isCrowded 86 = .ok (.if_icmp .ge 31, 3) := by decide +kernel
theorem dX10_isCrowded_89 : decode cX10_isCrowded 89 = .ok (.aload_n 0, 1) := by decide +kernel
theorem dX10_isCrowded_90 : decode cX10_isCrowded 90 = .ok (.getfield 69, 3) := by decide +kernel
theorem dX10_isCrowded_93 : decode cX10_isCrowded 93 = .ok (.aload_n 0, 1) := by decide +kernel
theorem dX10_isCrowded_94 : decode cX10_isCrowded 94 = .ok (.getfield 42, 3) := by decide +kernel
theorem dX10_isCrowded_97 : decode cX10_isCrowded 97 = .ok (.iload 4, 2) := by decide +kernel
theorem dX10_isCrowded_99 : decode cX10_isCrowded 99 = .ok (.bipush 12, 2) := by decide +kernel
theorem dX10_isCrowded_101 : decode cX10_isCrowded 101 = .ok (.imul, 1) := by decide +kernel
theorem dX10_isCrowded_102 : decode cX10_isCrowded 102 = .ok (.iload 5, 2) := by decide +kernel
theorem dX10_isCrowded_104 : decode cX10_isCrowded 104 = .ok (.iadd, 1) := by decide +kernel
theorem dX10_isCrowded_105 : decode cX10_isCrowded 105 = .ok (.iaload, 1) := by decide +kernel
theorem dX10_isCrowded_106 : decode cX10_isCrowded 106 = .ok (.dup2, 1) := by decide +kernel
theorem dX10_isCrowded_107 : decode cX10_isCrowded 107 = .ok (.iaload, 1) := by decide +kernel
theorem dX10_isCrowded_108 : decode cX10_isCrowded 108 = .ok (.iconst 1, 1) := by decide +kernel
theorem dX10_isCrowded_109 : decode cX10_isCrowded 109 = .ok (.iadd, 1) := by decide +kernel
theorem dX10_isCrowded_110 : decode cX10_isCrowded 110 = .ok (.iastore, 1) := by decide +kernel
theorem dX10_isCrowded_111 : decode cX10_isCrowded 111 = .ok (.iinc 5 1, 3) := by decide +kernel
theorem dX10_isCrowded_114 : decode cX10_isCrowded 114 = .ok (.goto (-37), 3) := by decide +kernel
theorem dX10_isCrowded_117 : decode cX10_isCrowded 117 = .ok (.iinc 3 1, 3) := by decide +kernel
theorem dX10_isCrowded_120 : decode cX10_isCrowded 120 = .ok (.goto (-64), 3) := by decide +kernel
theorem dX10_isCrowded_123 : decode cX10_isCrowded 123 = .ok (.iconst 0, 1) := by decide +kernel
theorem dX10_isCrowded_124 : decode cX10_isCrowded 124 = .ok (.istore_n 3, 1) := by decide +kernel
theorem dX10_isCrowded_125 : decode cX10_isCrowded 125 = .ok (.iload_n 3, 1) := by decide +kernel
theorem dX10_isCrowded_126 : decode cX10_isCrowded 126 = .ok (.bipush 100, 2) := by decide +kernel
theorem dX10_isCrowded_128 : decode cX10_isCrowded 128 = .ok (.if_icmp .ge 61, 3) := by decide +kernel
theorem dX10_isCrowded_131 : decode cX10_isCrowded 131 = .ok (.aload_n 0, 1) := by decide +kernel
theorem dX10_isCrowded_132 : decode cX10_isCrowded 132 = .ok (.getfield 26, 3) := by decide +kernel
theorem dX10_isCrowded_135 : decode cX10_isCrowded 135 = .ok (.iload_n 3, 1) := by decide +kernel
theorem dX10_isCrowded_136 : decode cX10_isCrowded 136 = .ok (.baload, 1) := by decide +kernel
theorem dX10_isCrowded_137 : decode cX10_isCrowded 137 = .ok (.ifCond .eq 46, 3) := by decide +kernel
theorem dX10_isCrowded_140 : decode cX10_isCrowded 140 = .ok (.aload_n 0, 1) := by decide +kernel
theorem dX10_isCrowded_141 : decode cX10_isCrowded 141 = .ok (.getfield 60, 3) := by decide +kernel
theorem dX10_isCrowded_144 : decode cX10_isCrowded 144 = .ok (.iload_n 3, 1) := by decide +kernel
theorem dX10_isCrowded_145 : decode cX10_isCrowded 145 = .ok (.baload, 1) := by decide +kernel
theorem dX10_isCrowded_146 : decode cX10_isCrowded 146 = .ok (.ifCond .ne 37, 3) := by decide +kernel
theorem dX10_isCrowded_149 : decode cX10_isCrowded 149 = .ok (.aload_n 0, 1) := by decide +kernel
theorem dX10_isCrowded_150 : decode cX10_isCrowded 150 = .ok (.getfield 69, 3) := by decide +kernel
theorem dX10_isCrowded_153 : decode cX10_isCrowded 153 = .ok (.iload_n 3, 1) := by decide +kernel
theorem dX10_isCrowded_154 : decode cX10_isCrowded 154 = .ok (.iaload, 1) := by decide +kernel
theorem dX10_isCrowded_155 : decode cX10_isCrowded 155 = .ok (.ifCond .le 28, 3) := by decide +kernel
theorem dX10_isCrowded_158 : decode cX10_isCrowded 158 = .ok (.aload_n 0, 1) := by decide +kernel
theorem dX10_isCrowded_159 : decode cX10_isCrowded 159 = .ok (.getfield 39, 3) := by decide +kernel
theorem dX10_isCrowded_162 : decode cX10_isCrowded 162 = .ok (.iload_n 2, 1) := by decide +kernel
theorem dX10_isCrowded_163 : decode cX10_isCrowded 163 = .ok (.bipush 100, 2) := by decide +kernel
theorem dX10_isCrowded_165 : decode cX10_isCrowded 165 = .ok (.imul, 1) := by decide +kernel
