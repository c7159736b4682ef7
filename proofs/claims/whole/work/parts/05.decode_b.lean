theorem dX4_clear_15 : decode cX4_clear 15 = .ok (.getfield 15, 3) := by decide +kernel
theorem dX4_clear_18 : decode cX4_clear 18 = .ok (.iload_n 1, 1) := by decide +kernel
theorem dX4_clear_19 : decode cX4_clear 19 = .ok (.iaload, 1) := by decide +kernel
theorem dX4_clear_20 : decode cX4_clear 20 = .ok (.iconst 0, 1) := by decide +kernel
theorem dX4_clear_21 : decode cX4_clear 21 = .ok (.bastore, 1) := by decide +kernel
theorem dX4_clear_22 : decode cX4_clear 22 = .ok (.iinc 1 1, 3) := by decide +kernel
theorem dX4_clear_25 : decode cX4_clear 25 = .ok (.goto (-23), 3) := by decide +kernel
theorem dX4_clear_28 : decode cX4_clear 28 = .ok (.aload_n 0, 1) := by decide +kernel
theorem dX4_clear_29 : decode cX4_clear 29 = .ok (.iconst 0, 1) := by decide +kernel
theorem dX4_clear_30 : decode cX4_clear 30 = .ok (.putfield 19, 3) := by decide +kernel
theorem dX4_clear_33 : decode cX4_clear 33 = .ok (.return_, 1) := by decide +kernel
theorem dX5_init_0 : decode cX5_init 0 = .ok (.aload_n 0, 1) := by decide +kernel
theorem dX5_init_1 : decode cX5_init 1 = .ok (.invokespecial 3, 3) := by decide +kernel
theorem dX5_init_4 : decode cX5_init 4 = .ok (.aload_n 0, 1) := by decide +kernel
theorem dX5_init_5 : decode cX5_init 5 = .ok (.bipush 10, 2) := by decide +kernel
theorem dX5_init_7 : decode cX5_init 7 = .ok (.newarray .int, 2) := by decide +kernel
theorem dX5_init_9 : decode cX5_init 9 = .ok (.putfield 9, 3) := by decide +kernel
theorem dX5_init_12 : decode cX5_init 12 = .ok (.aload_n 0, 1) := by decide +kernel
theorem dX5_init_13 : decode cX5_init 13 = .ok (.bipush 10, 2) := by decide +kernel
theorem dX5_init_15 : decode cX5_init 15 = .ok (.newarray .int, 2) := by decide +kernel
theorem dX5_init_17 : decode cX5_init 17 = .ok (.putfield 15, 3) := by decide +kernel
theorem dX5_init_20 : decode cX5_init 20 = .ok (.aload_n 0, 1) := by decide +kernel
theorem dX5_init_21 : decode cX5_init 21 = .ok (.bipush 10, 2) := by decide +kernel
theorem dX5_init_23 : decode cX5_init 23 = .ok (.newarray .int, 2) := by decide +kernel
theorem dX5_init_25 : decode cX5_init 25 = .ok (.putfield 18, 3) := by decide +kernel
theorem dX5_init_28 : decode cX5_init 28 = .ok (.aload_n 0, 1) := by decide +kernel
theorem dX5_init_29 : decode cX5_init 29 = .ok (.bipush 10, 2) := by decide +kernel
theorem dX5_init_31 : decode cX5_init 31 = .ok (.newarray .int, 2) := by decide +kernel
theorem dX5_init_33 : decode cX5_init 33 = .ok (.putfield 21, 3) := by decide +kernel
theorem dX5_init_36 : decode cX5_init 36 = .ok (.return_, 1) := by decide +kernel
theorem dX5_howMany_0 : decode cX5_howMany 0 = .ok (.aload_n 0, 1) := by decide +kernel
theorem dX5_howMany_1 : decode cX5_howMany 1 = .ok (.getfield 24, 3) := by decide +kernel
theorem dX5_howMany_4 : decode cX5_howMany 4 = .ok (.ireturn, 1) := by decide +kernel
theorem dX5_knows_0 : decode cX5_knows 0 = .ok (.iload_n 1, 1) := by decide +kernel
theorem dX5_knows_1 : decode cX5_knows 1 = .ok (.ifCond .lt 15, 3) := by decide +kernel
theorem dX5_knows_4 : decode cX5_knows 4 = .ok (.iload_n 1, 1) := by decide +kernel
theorem dX5_knows_5 : decode cX5_knows 5 = .ok (.aload_n 0, 1) := by decide +kernel
theorem dX5_knows_6 : decode cX5_knows 6 = .ok (.getfield 24, 3) := by decide +kernel
theorem dX5_knows_9 : decode cX5_knows 9 = .ok (.if_icmp .ge 7, 3) := by decide +kernel
theorem dX5_knows_12 : decode cX5_knows 12 = .ok (.iconst 1, 1) := by decide +kernel
theorem dX5_knows_13 : decode cX5_knows 13 = .ok (.goto 4, 3) := by decide +kernel
theorem dX5_knows_16 : decode cX5_knows 16 = .ok (.iconst 0, 1) := by decide +kernel
theorem dX5_knows_17 : decode cX5_knows 17 = .ok (.ireturn, 1) := by decide +kernel
theorem dX5_tell_0 : decode cX5_tell 0 = .ok (.aload_n 0, 1) := by decide +kernel
theorem dX5_tell_1 : decode cX5_tell 1 = .ok (.getfield 24, 3) := by decide +kernel
theorem dX5_tell_4 : decode cX5_tell 4 = .ok (.bipush 10, 2) := by decide +kernel
theorem dX5_tell_6 : decode cX5_tell 6 = .ok (.if_icmp .lt 5, 3) := by decide +kernel
theorem dX5_tell_9 : decode cX5_tell 9 = .ok (.iconst (-1), 1) := by decide +kernel
theorem dX5_tell_10 : decode cX5_tell 10 = .ok (.ireturn, 1) := by decide +kernel
theorem dX5_tell_11 : decode cX5_tell 11 = .ok (.aload_n 0, 1) := by decide +kernel
theorem dX5_tell_12 : decode cX5_tell 12 = .ok (.getfield 9, 3) := by decide +kernel
theorem dX5_tell_15 : decode cX5_tell 15 = .ok (.aload_n 0, 1) := by decide +kernel
theorem dX5_tell_16 : decode cX5_tell 16 = .ok (.getfield 24, 3) := by decide +kernel
theorem dX5_tell_19 : decode cX5_tell 19 = .ok (.iload_n 1, 1) := by decide +kernel
theorem dX5_tell_20 : decode cX5_tell 20 = .ok (.iastore, 1) := by decide +kernel
theorem dX5_tell_21 : decode cX5_tell 21 = .ok (.aload_n 0, 1) := by decide +kernel
theorem dX5_tell_22 : decode cX5_tell 22 = .ok (.getfield 15, 3) := by decide +kernel
theorem dX5_tell_25 : decode cX5_tell 25 = .ok (.aload_n 0, 1) := by decide +kernel
theorem dX5_tell_26 : decode cX5_tell 26 = .ok (.getfield 24, 3) := by decide +kernel
theorem dX5_tell_29 : decode cX5_tell 29 = .ok (.iload_n 2, 1) := by decide +kernel
theorem dX5_tell_30 : decode cX5_tell 30 = .ok (.iastore, 1) := by decide +kernel
theorem dX5_tell_31 : decode cX5_tell 31 = .ok (.aload_n 0, 1) := by decide +kernel
theorem dX5_tell_32 : decode cX5_tell 32 = .ok (.getfield 18, 3) := by decide +kernel
theorem dX5_tell_35 : decode cX5_tell 35 = .ok (.aload_n 0, 1) := by decide +kernel
theorem dX5_tell_36 : decode cX5_tell 36 = .ok (.getfield 24, 3) := by decide +kernel
theorem dX5_tell_39 : decode cX5_tell 39 = .ok (.iload_n 3, 1) := by decide +kernel
theorem dX5_tell_40 : decode cX5_tell 40 = .ok (.iastore, 1) := by decide +kernel
theorem dX5_tell_41 : decode cX5_tell 41 = .ok (.aload_n 0, 1) := by decide +kernel
theorem dX5_tell_42 : decode cX5_tell 42 = .ok (.getfield 21, 3) := by decide +kernel
theorem dX5_tell_45 : decode cX5_tell 45 = .ok (.aload_n 0, 1) := by decide +kernel
theorem dX5_tell_46 : decode cX5_tell 46 = .ok (.getfield 24, 3) := by decide +kernel
theorem dX5_tell_49 : decode cX5_tell 49 = .ok (.iload 4, 2) := by decide +kernel
theorem dX5_tell_51 : decode cX5_tell 51 = .ok (.iastore, 1) := by decide +kernel
theorem dX5_tell_52 : decode cX5_tell 52 = .ok (.aload_n 0, 1) := by decide +kernel
theorem dX5_tell_53 : decode cX5_tell 53 = .ok (.dup, 1) := by decide +kernel
theorem dX5_tell_54 : decode cX5_tell 54 = .ok (.getfield 24, 3) := by decide +kernel
theorem dX5_tell_57 : decode cX5_tell 57 = .ok (.iconst 1, 1) := by decide +kernel
theorem dX5_tell_58 : decode cX5_tell 58 = .ok (.iadd, 1) := by decide +kernel
theorem dX5_tell_59 : decode cX5_tell 59 = .ok (.putfield 24, 3) := by decide +kernel
theorem dX5_tell_62 : decode cX5_tell 62 = .ok (.aload_n 0, 1) := by decide +kernel
theorem dX5_tell_63 : decode cX5_tell 63 = .ok (.getfield 24, 3) := by decide +kernel
theorem dX5_tell_66 : decode cX5_tell 66 = .ok (.iconst 1, 1) := by decide +kernel
theorem dX5_tell_67 : decode cX5_tell 67 = .ok (.isub, 1) := by decide +kernel
theorem dX5_tell_68 : decode cX5_tell 68 = .ok (.ireturn, 1) := by decide +kernel
theorem dX5_fromKind_0 : decode cX5_fromKind 0 = .ok (.aload_n 0, 1) := by decide +kernel
theorem dX5_fromKind_1 : decode cX5_fromKind 1 = .ok (.iload_n 1, 1) := by decide +kernel
theorem dX5_fromKind_2 : decode cX5_fromKind 2 = .ok (.invokevirtual 28, 3) := by decide +kernel
theorem dX5_fromKind_5 : decode cX5_fromKind 5 = .ok (.ifCond .eq 12, 3) := by decide +kernel
theorem dX5_fromKind_8 : decode cX5_fromKind 8 = .ok (.aload_n 0, 1) := by decide +kernel
theorem dX5_fromKind_9 : decode cX5_fromKind 9 = .ok (.getfield 9, 3) := by decide +kernel
theorem dX5_fromKind_12 : decode cX5_fromKind 12 = .ok (.iload_n 1, 1) := by decide +kernel
theorem dX5_fromKind_13 : decode cX5_fromKind 13 = .ok (.iaload, 1) := by decide +kernel
theorem dX5_fromKind_14 : decode cX5_fromKind 14 = .ok (.goto 4, 3) := by decide +kernel
theorem dX5_fromKind_17 : decode cX5_fromKind 17 = .ok (.iconst (-1), 1) := by decide +kernel
theorem dX5_fromKind_18 : decode cX5_fromKind 18 = .ok (.ireturn, 1) := by decide +kernel
theorem dX5_toKind_0 : decode cX5_toKind 0 = .ok (.aload_n 0, 1) := by decide +kernel
theorem dX5_toKind_1 : decode cX5_toKind 1 = .ok (.iload_n 1, 1) := by decide +kernel
theorem dX5_toKind_2 : decode cX5_toKind 2 = .ok (.invokevirtual 28, 3) := by decide +kernel
theorem dX5_toKind_5 : decode cX5_toKind 5 = .ok (.ifCond .eq 12, 3) := by decide +kernel
theorem dX5_toKind_8 : decode cX5_toKind 8 = .ok (.aload_n 0, 1) := by decide +kernel
theorem dX5_toKind_9 : decode cX5_toKind 9 = .ok (.getfield 15, 3) := by decide +kernel
theorem dX5_toKind_12 : decode cX5_toKind 12 = .ok (.iload_n 1, 1) := by decide +kernel
theorem dX5_toKind_13 : decode cX5_toKind 13 = .ok (.iaload, 1) := by decide +kernel
theorem dX5_toKind_14 : decode cX5_toKind 14 = .ok (.goto 4, 3) := by decide +kernel
theorem dX5_toKind_17 : decode cX5_toKind 17 = .ok (.iconst (-1), 1) := by decide +kernel
theorem dX5_toKind_18 : decode cX5_toKind 18 = .ok (.ireturn, 1) := by decide +kernel
theorem dX5_hasForm_0 : decode cX5_hasForm 0 = .ok (.aload_n 0, 1) := by decide +kernel
theorem dX5_hasForm_1 : decode cX5_hasForm 1 = .ok (.iload_n 1, 1) := by decide +kernel
theorem dX5_hasForm_2 : decode cX5_hasForm 2 = .ok (.invokevirtual 28, 3) := by decide +kernel
theorem dX5_hasForm_5 : decode cX5_hasForm 5 = .ok (.ifCond .eq 17, 3) := by decide +kernel
theorem dX5_hasForm_8 : decode cX5_hasForm 8 = .ok (.aload_n 0, 1) := by decide +kernel
theorem dX5_hasForm_9 : decode cX5_hasForm 9 = .ok (.getfield 18, 3) := by decide +kernel
theorem dX5_hasForm_12 : decode cX5_hasForm 12 = .ok (.iload_n 1, 1) := by decide +kernel
theorem dX5_hasForm_13 : decode cX5_hasForm 13 = .ok (.iaload, 1) := by decide +kernel
theorem dX5_hasForm_14 : decode cX5_hasForm 14 = .ok (.iload_n 2, 1) := by decide +kernel
theorem dX5_hasForm_15 : decode cX5_hasForm 15 = .ok (.if_icmp .ne 7, 3) := by decide +kernel
theorem dX5_hasForm_18 : decode cX5_hasForm 18 = .ok (.iconst 1, 1) := by decide +kernel
theorem dX5_hasForm_19 : decode cX5_hasForm 19 = .ok (.goto 4, 3) := by decide +kernel
theorem dX5_hasForm_22 : decode cX5_hasForm 22 = .ok (.iconst 0, 1) := by decide +kernel
theorem dX5_hasForm_23 : decode cX5_hasForm 23 = .ok (.ireturn, 1) := by decide +kernel
theorem dX5_hasRule_0 : decode cX5_hasRule 0 = .ok (.aload_n 0, 1) := by decide +kernel
theorem dX5_hasRule_1 : decode cX5_hasRule 1 = .ok (.iload_n 1, 1) := by decide +kernel
theorem dX5_hasRule_2 : decode cX5_hasRule 2 = .ok (.invokevirtual 28, 3) := by decide +kernel
theorem dX5_hasRule_5 : decode cX5_hasRule 5 = .ok (.ifCond .eq 17, 3) := by decide +kernel
theorem dX5_hasRule_8 : decode cX5_hasRule 8 = .ok (.aload_n 0, 1) := by decide +kernel
theorem dX5_hasRule_9 : decode cX5_hasRule 9 = .ok (.getfield 21, 3) := by decide +kernel
theorem dX5_hasRule_12 : decode cX5_hasRule 12 = .ok (.iload_n 1, 1) := by decide +kernel
theorem dX5_hasRule_13 : decode cX5_hasRule 13 = .ok (.iaload, 1) := by decide +kernel
theorem dX5_hasRule_14 : decode cX5_hasRule 14 = .ok (.iload_n 2, 1) := by decide +kernel
theorem dX5_hasRule_15 : decode cX5_hasRule 15 = .ok (.if_icmp .ne 7, 3) := by decide +kernel
theorem dX5_hasRule_18 : decode cX5_hasRule 18 = .ok (.iconst 1, 1) := by decide +kernel
theorem dX5_hasRule_19 : decode cX5_hasRule 19 = .ok (.goto 4, 3) := by decide +kernel
theorem dX5_hasRule_22 : decode cX5_hasRule 22 = .ok (.iconst 0, 1) := by decide +kernel
theorem dX5_hasRule_23 : decode cX5_hasRule 23 = .ok (.ireturn, 1) := by decide +kernel
theorem dX6_init_0 : decode cX6_init 0 = .ok (.aload_n 0, 1) := by decide +kernel
theorem dX6_init_1 : decode cX6_init 1 = .ok (.invokespecial 3, 3) := by decide +kernel
theorem dX6_init_4 : decode cX6_init 4 = .ok (.aload_n 0, 1) := by decide +kernel
theorem dX6_init_5 : decode cX6_init 5 = .ok (.bipush 100, 2) := by decide +kernel
theorem dX6_init_7 : decode cX6_init 7 = .ok (.newarray .int, 2) := by decide +kernel
theorem dX6_init_9 : decode cX6_init 9 = .ok (.putfield 9, 3) := by decide +kernel
theorem dX6_init_12 : decode cX6_init 12 = .ok (.return_, 1) := by decide +kernel
theorem dX6_length_0 : decode cX6_length 0 = .ok (.aload_n 0, 1) := by decide +kernel
theorem dX6_length_1 : decode cX6_length 1 = .ok (.getfield 15, 3) := by decide +kernel
theorem dX6_length_4 : decode cX6_length 4 = .ok (.ireturn, 1) := by decide +kernel
theorem dX6_get_0 : decode cX6_get 0 = .ok (.iload_n 1, 1) := by decide +kernel
theorem dX6_get_1 : decode cX6_get 1 = .ok (.ifCond .lt 20, 3) := by decide +kernel
theorem dX6_get_4 : decode cX6_get 4 = .ok (.iload_n 1, 1) := by decide +kernel
theorem dX6_get_5 : decode cX6_get 5 = .ok (.aload_n 0, 1) := by decide +kernel
theorem dX6_get_6 : decode cX6_get 6 = .ok (.getfield 15, 3) := by decide +kernel
theorem dX6_get_9 : decode cX6_get 9 = .ok (.if_icmp .ge 12, 3) := by decide +kernel
theorem dX6_get_12 : decode cX6_get 12 = .ok (.aload_n 0, 1) := by decide +kernel
theorem dX6_get_13 : decode cX6_get 13 = .ok (.getfield 9, 3) := by decide +kernel
theorem dX6_get_16 : decode cX6_get 16 = .ok (.iload_n 1, 1) := by decide +kernel
theorem dX6_get_17 : decode cX6_get 17 = .ok (.iaload, 1) := by decide +kernel
theorem dX6_get_18 : decode cX6_get 18 = .ok (.goto 4, 3) := by decide +kernel
theorem dX6_get_21 : decode cX6_get 21 = .ok (.iconst (-1), 1) := by decide +kernel
theorem dX6_get_22 : decode cX6_get 22 = .ok (.ireturn, 1) := by decide +kernel
theorem dX6_clear_0 : decode cX6_clear 0 = .ok (.aload_n 0, 1) := by decide +kernel
theorem dX6_clear_1 : decode cX6_clear 1 = .ok (.iconst 0, 1) := by decide +kernel
theorem dX6_clear_2 : decode cX6_clear 2 = .ok (.putfield 15, 3) := by decide +kernel
theorem dX6_clear_5 : decode cX6_clear 5 = .ok (.return_, 1) := by decide +kernel
theorem dX6_add_0 : decode cX6_add 0 = .ok (.aload_n 0, 1) := by decide +kernel
theorem dX6_add_1 : decode cX6_add 1 = .ok (.getfield 15, 3) := by decide +kernel
theorem dX6_add_4 : decode cX6_add 4 = .ok (.bipush 100, 2) := by decide +kernel
theorem dX6_add_6 : decode cX6_add 6 = .ok (.if_icmp .ge 23, 3) := by decide +kernel
theorem dX6_add_9 : decode cX6_add 9 = .ok (.aload_n 0, 1) := by decide +kernel
theorem dX6_add_10 : decode cX6_add 10 = .ok (.getfield 9, 3) := by decide +kernel
theorem dX6_add_13 : decode cX6_add 13 = .ok (.aload_n 0, 1) := by decide +kernel
theorem dX6_add_14 : decode cX6_add 14 = .ok (.getfield 15, 3) := by decide +kernel
theorem dX6_add_17 : decode cX6_add 17 = .ok (.iload_n 1, 1) := by decide +kernel
theorem dX6_add_18 : decode cX6_add 18 = .ok (.iastore, 1) := by decide +kernel
theorem dX6_add_19 : decode cX6_add 19 = .ok (.aload_n 0, 1) := by decide +kernel
theorem dX6_add_20 : decode cX6_add 20 = .ok (.dup, 1) := by decide +kernel
theorem dX6_add_21 : decode cX6_add 21 = .ok (.getfield 15, 3) := by decide +kernel
theorem dX6_add_24 : decode cX6_add 24 = .ok (.iconst 1, 1) := by decide +kernel
theorem dX6_add_25 : decode cX6_add 25 = .ok (.iadd, 1) := by decide +kernel
theorem dX6_add_26 : decode cX6_add 26 = .ok (.putfield 15, 3) := by decide +kernel
theorem dX6_add_29 : decode cX6_add 29 = .ok (.return_, 1) := by decide +kernel
theorem dX7_init_0 : decode cX7_init 0 = .ok (.aload_n 0, 1) := by decide +kernel
theorem dX7_init_1 : decode cX7_init 1 = .ok (.invokespecial 3, 3) := by decide +kernel
theorem dX7_init_4 : decode cX7_init 4 = .ok (.aload_n 0, 1) := by decide +kernel
theorem dX7_init_5 : decode cX7_init 5 = .ok (.aload_n 1, 1) := by decide +kernel
theorem dX7_init_6 : decode cX7_init 6 = .ok (.putfield 9, 3) := by decide +kernel
theorem dX7_init_9 : decode cX7_init 9 = .ok (.aload_n 0, 1) := by decide +kernel
theorem dX7_init_10 : decode cX7_init 10 = .ok (.aload_n 2, 1) := by decide +kernel
theorem dX7_init_11 : decode cX7_init 11 = .ok (.putfield 15, 3) := by decide +kernel
theorem dX7_init_14 : decode cX7_init 14 = .ok (.aload_n 0, 1) := by decide +kernel
theorem dX7_init_15 : decode cX7_init 15 = .ok (.new 19, 3) := by decide +kernel
theorem dX7_init_18 : decode cX7_init 18 = .ok (.dup, 1) := by decide +kernel
theorem dX7_init_19 : decode cX7_init 19 = .ok (.invokespecial 21, 3) := by decide +kernel
theorem dX7_init_22 : decode cX7_init 22 = .ok (.putfield 22, 3) := by decide +kernel
theorem dX7_init_25 : decode cX7_init 25 = .ok (.aload_n 0, 1) := by decide +kernel
theorem dX7_init_26 : decode cX7_init 26 = .ok (.bipush 100, 2) := by decide +kernel
theorem dX7_init_28 : decode cX7_init 28 = .ok (.newarray .int, 2) := by decide +kernel
theorem dX7_init_30 : decode cX7_init 30 = .ok (.putfield 26, 3) := by decide +kernel
theorem dX7_init_33 : decode cX7_init 33 = .ok (.return_, 1) := by decide +kernel
theorem dX7_gather_0 : decode cX7_gather 0 = .ok (.aload_n 0, 1) := by decide +kernel
theorem dX7_gather_1 : decode cX7_gather 1 = .ok (.getfield 15, 3) := by decide +kernel
theorem dX7_gather_4 : decode cX7_gather 4 = .ok (.aload_n 1, 1) := by decide +kernel
theorem dX7_gather_5 : decode cX7_gather 5 = .ok (.invokevirtual 30, 3) := by decide +kernel
theorem dX7_gather_8 : decode cX7_gather 8 = .ok (.iload_n 2, 1) := by decide +kernel
theorem dX7_gather_9 : decode cX7_gather 9 = .ok (.invokevirtual 36, 3) := by decide +kernel
theorem dX7_gather_12 : decode cX7_gather 12 = .ok (.astore_n 3, 1) := by decide +kernel
theorem dX7_gather_13 : decode cX7_gather 13 = .ok (.aload_n 0, 1) := by decide +kernel
theorem dX7_gather_14 : decode cX7_gather 14 = .ok (.getfield 22, 3) := by decide +kernel
theorem dX7_gather_17 : decode cX7_gather 17 = .ok (.invokevirtual 42, 3) := by decide +kernel
theorem dX7_gather_20 : decode cX7_gather 20 = .ok (.iconst 0, 1) := by decide +kernel
theorem dX7_gather_21 : decode cX7_gather 21 = .ok (.istore 4, 2) := by decide +kernel
theorem dX7_gather_23 : decode cX7_gather 23 = .ok (.iload 4, 2) := by decide +kernel
theorem dX7_gather_25 : decode cX7_gather 25 = .ok (.aload_n 3, 1) := by decide +kernel
theorem dX7_gather_26 : decode cX7_gather 26 = .ok (.invokevirtual 45, 3) := by decide +kernel
theorem dX7_gather_29 : decode cX7_gather 29 = .ok (.if_icmp .ge 22, 3) := by decide +kernel
theorem dX7_gather_32 : decode cX7_gather 32 = .ok (.aload_n 0, 1) := by decide +kernel
theorem dX7_gather_33 : decode cX7_gather 33 = .ok (.getfield 22, 3) := by decide +kernel
theorem dX7_gather_36 : decode cX7_gather 36 = .ok (.aload_n 0, 1) := by decide +kernel
theorem dX7_gather_37 : decode cX7_gather 37 = .ok (.aload_n 1, 1) := by decide +kernel
theorem dX7_gather_38 : decode cX7_gather 38 = .ok (.aload_n 3, 1) := by decide +kernel
theorem dX7_gather_39 : decode cX7_gather 39 = .ok (.invokevirtual 49, 3) := by decide +kernel
theorem dX7_gather_42 : decode cX7_gather 42 = .ok (.invokevirtual 53, 3) := by decide +kernel
theorem dX7_gather_45 : decode cX7_gather 45 = .ok (.iinc 4 1, 3) := by decide +kernel
theorem dX7_gather_48 : decode cX7_gather 48 = .ok (.goto (-25), 3) := by decide +kernel
theorem dX7_gather_51 : decode cX7_gather 51 = .ok (.return_, 1) := by decide +kernel
theorem dX7_fit_0 : decode cX7_fit 0 = .ok (.aload_n 1, 1) := by decide +kernel
theorem dX7_fit_1 : decode cX7_fit 1 = .ok (.invokevirtual 57, 3) := by decide +kernel
theorem dX7_fit_4 : decode cX7_fit 4 = .ok (.aload_n 0, 1) := by decide +kernel
theorem dX7_fit_5 : decode cX7_fit 5 = .ok (.getfield 22, 3) := by decide +kernel
theorem dX7_fit_8 : decode cX7_fit 8 = .ok (.invokevirtual 45, 3) := by decide +kernel
theorem dX7_fit_11 : decode cX7_fit 11 = .ok (.iadd, 1) := by decide +kernel
theorem dX7_fit_12 : decode cX7_fit 12 = .ok (.bipush 100, 2) := by decide +kernel
theorem dX7_fit_14 : decode cX7_fit 14 = .ok (.if_icmp .le 5, 3) := by decide +kernel
theorem dX7_fit_17 : decode cX7_fit 17 = .ok (.iconst 0, 1) := by decide +kernel
theorem dX7_fit_18 : decode cX7_fit 18 = .ok (.ireturn, 1) := by decide +kernel
theorem dX7_fit_19 : decode cX7_fit 19 = .ok (.iconst 0, 1) := by decide +kernel
theorem dX7_fit_20 : decode cX7_fit 20 = .ok (.istore_n 2, 1) := by decide +kernel
theorem dX7_fit_21 : decode cX7_fit 21 = .ok (.iload_n 2, 1) := by decide +kernel
theorem dX7_fit_22 : decode cX7_fit 22 = .ok (.aload_n 0, 1) := by decide +kernel
theorem dX7_fit_23 : decode cX7_fit 23 = .ok (.getfield 9, 3) := by decide +kernel
theorem dX7_fit_26 : decode cX7_fit 26 = .ok (.invokevirtual 60, 3) := by decide +kernel
theorem dX7_fit_29 : decode cX7_fit 29 = .ok (.if_icmp .ge 74, 3) := by decide +kernel
theorem dX7_fit_32 : decode cX7_fit 32 = .ok (.iconst 0, 1) := by decide +kernel
theorem dX7_fit_33 : decode cX7_fit 33 = .ok (.istore_n 3, 1) := by decide +kernel
theorem dX7_fit_34 : decode cX7_fit 34 = .ok (.iload_n 3, 1) := by decide +kernel
theorem dX7_fit_35 : decode cX7_fit 35 = .ok (.bipush 100, 2) := by decide +kernel
theorem dX7_fit_37 : decode cX7_fit 37 = .ok (.if_icmp .ge 60, 3) := by decide +kernel
theorem dX7_fit_40 : decode cX7_fit 40 = .ok (.aload_n 0, 1) := by decide +kernel
theorem dX7_fit_41 : decode cX7_fit 41 = .ok (.iload_n 2, 1) := by decide +kernel
theorem dX7_fit_42 : decode cX7_fit 42 = .ok (.invokevirtual 65, 3) := by decide +kernel
theorem dX7_fit_45 : decode cX7_fit 45 = .ok (.ifCond .eq 24, 3) := by decide +kernel
theorem dX7_fit_48 : decode cX7_fit 48 = .ok (.aload_n 0, 1) := by decide +kernel
theorem dX7_fit_49 : decode cX7_fit 49 = .ok (.getfield 22, 3) := by decide +kernel
theorem dX7_fit_52 : decode cX7_fit 52 = .ok (.iload_n 3, 1) := by decide +kernel
theorem dX7_fit_53 : decode cX7_fit 53 = .ok (.invokevirtual 69, 3) := by decide +kernel
theorem dX7_fit_56 : decode cX7_fit 56 = .ok (.ifCond .ne 13, 3) := by decide +kernel
theorem dX7_fit_59 : decode cX7_fit 59 = .ok (.aload_n 0, 1) := by decide +kernel
theorem dX7_fit_60 : decode cX7_fit 60 = .ok (.aload_n 1, 1) := by decide +kernel
theorem dX7_fit_61 : decode cX7_fit 61 = .ok (.iload_n 2, 1) := by decide +kernel
theorem dX7_fit_62 : decode cX7_fit 62 = .ok (.iload_n 3, 1) := by decide +kernel
theorem dX7_fit_63 : decode cX7_fit 63 = .ok (.invokevirtual 72, 3) := by decide +kernel
theorem dX7_fit_66 : decode cX7_fit 66 = .ok (.goto 4, 3) := by decide +kernel
theorem dX7_fit_69 : decode cX7_fit 69 = .ok (.iconst 0, 1) := by decide +kernel
theorem dX7_fit_70 : decode cX7_fit 70 = .ok (.istore 4, 2) := by decide +kernel
theorem dX7_fit_72 : decode cX7_fit 72 = .ok (.aload_n 1, 1) := by decide +kernel
theorem dX7_fit_73 : decode cX7_fit 73 = .ok (.invokevirtual 76, 3) := by decide +kernel
theorem dX7_fit_76 : decode cX7_fit 76 = .ok (.iload_n 2, 1) := by decide +kernel
theorem dX7_fit_77 : decode cX7_fit 77 = .ok (.iload_n 3, 1) := by decide +kernel
theorem dX7_fit_78 : decode cX7_fit 78 = .ok (.invokevirtual 79, 3) := by decide +kernel
theorem dX7_fit_81 : decode cX7_fit 81 = .ok (.iload 4, 2) := by decide +kernel
theorem dX7_fit_83 : decode cX7_fit 83 = .ok (.iadd, 1) := by decide +kernel
theorem dX7_fit_84 : decode cX7_fit 84 = .ok (.bipush 12, 2) := by decide +kernel
theorem dX7_fit_86 : decode cX7_fit 86 = .ok (.if_icmp .le 5, 3) := by decide +kernel
theorem dX7_fit_89 : decode cX7_fit 89 = .ok (.iconst 0, 1) := by decide +kernel
theorem dX7_fit_90 : decode cX7_fit 90 = .ok (.ireturn, 1) := by decide +kernel
theorem dX7_fit_91 : decode cX7_fit 91 = .ok (.iinc 3 1, 3) := by decide +kernel
theorem dX7_fit_94 : decode cX7_fit 94 = .ok (.goto (-60), 3) := by decide +kernel
theorem dX7_fit_97 : decode cX7_fit 97 = .ok (.iinc 2 1, 3) := by decide +kernel
theorem dX7_fit_100 : decode cX7_fit 100 = .ok (.goto (-79), 3) := by decide +kernel
theorem dX7_fit_103 : decode cX7_fit 103 = .ok (.iconst 1, 1) := by decide +kernel
theorem dX7_fit_104 : decode cX7_fit 104 = .ok (.ireturn, 1) := by decide +kernel
theorem dX7_build_0 : decode cX7_build 0 = .ok (.iconst 0, 1) := by decide +kernel
theorem dX7_build_1 : decode cX7_build 1 = .ok (.istore_n 3, 1) := by decide +kernel
theorem dX7_build_2 : decode cX7_build 2 = .ok (.iload_n 3, 1) := by decide +kernel
theorem dX7_build_3 : decode cX7_build 3 = .ok (.aload_n 0, 1) := by decide +kernel
theorem dX7_build_4 : decode cX7_build 4 = .ok (.getfield 22, 3) := by decide +kernel
theorem dX7_build_7 : decode cX7_build 7 = .ok (.invokevirtual 45, 3) := by decide +kernel
theorem dX7_build_10 : decode cX7_build 10 = .ok (.if_icmp .ge 47, 3) := by decide +kernel
theorem dX7_build_13 : decode cX7_build 13 = .ok (.aload_n 0, 1) := by decide +kernel
theorem dX7_build_14 : decode cX7_build 14 = .ok (.getfield 22, 3) := by decide +kernel
theorem dX7_build_17 : decode cX7_build 17 = .ok (.iload_n 3, 1) := by decide +kernel
theorem dX7_build_18 : decode cX7_build 18 = .ok (.invokevirtual 85, 3) := by decide +kernel
theorem dX7_build_21 : decode cX7_build 21 = .ok (.istore 4, 2) := by decide +kernel
theorem dX7_build_23 : decode cX7_build 23 = .ok (.iload 4, 2) := by decide +kernel
theorem dX7_build_25 : decode cX7_build 25 = .ok (.invokestatic 89, 3) := by decide +kernel
theorem dX7_build_28 : decode cX7_build 28 = .ok (.ifCond .eq 23, 3) := by decide +kernel
theorem dX7_build_31 : decode cX7_build 31 = .ok (.aload_n 0, 1) := by decide +kernel
theorem dX7_build_32 : decode cX7_build 32 = .ok (.getfield 26, 3) := by decide +kernel
theorem dX7_build_35 : decode cX7_build 35 = .ok (.iload 4, 2) := by decide +kernel
theorem dX7_build_37 : decode cX7_build 37 = .ok (.aload_n 1, 1) := by decide +kernel
theorem dX7_build_38 : decode cX7_build 38 = .ok (.iload_n 2, 1) := by decide +kernel
theorem dX7_build_39 : decode cX7_build 39 = .ok (.iload_n 3, 1) := by decide +kernel
theorem dX7_build_40 : decode cX7_build 40 = .ok (.iadd, 1) := by decide +kernel
theorem dX7_build_41 : decode cX7_build 41 = .ok (.aload_n 1, 1) := by decide +kernel
theorem dX7_build_42 : decode cX7_build 42 = .ok (.iload 4, 2) := by decide +kernel
theorem dX7_build_44 : decode cX7_build 44 = .ok (.invokevirtual 92, 3) := by decide +kernel
theorem dX7_build_47 : decode cX7_build 47 = .ok (.invokevirtual 95, 3) := by decide +kernel
theorem dX7_build_50 : decode cX7_build 50 = .ok (.iastore, 1) := by decide +kernel
theorem dX7_build_51 : decode cX7_build 51 = .ok (.iinc 3 1, 3) := by decide +kernel
theorem dX7_build_54 : decode cX7_build 54 = .ok (.goto (-52), 3) := by decide +kernel
theorem dX7_build_57 : decode cX7_build 57 = .ok (.iconst 0, 1) := by decide +kernel
theorem dX7_build_58 : decode cX7_build 58 = .ok (.istore_n 3, 1) := by decide +kernel
theorem dX7_build_59 : decode cX7_build 59 = .ok (.iload_n 3, 1) := by decide +kernel
theorem dX7_build_60 : decode cX7_build 60 = .ok (.aload_n 0, 1) := by decide +kernel
theorem dX7_build_61 : decode cX7_build 61 = .ok (.getfield 9, 3) := by decide +kernel
theorem dX7_build_64 : decode cX7_build 64 = .ok (.invokevirtual 60, 3) := by decide +kernel
theorem dX7_build_67 : decode cX7_build 67 = .ok (.if_icmp .ge 69, 3) := by decide +kernel
theorem dX7_build_70 : decode cX7_build 70 = .ok (.iconst 0, 1) := by decide +kernel
theorem dX7_build_71 : decode cX7_build 71 = .ok (.istore 4, 2) := by decide +kernel
theorem dX7_build_73 : decode cX7_build 73 = .ok (.iload 4, 2) := by decide +kernel
theorem dX7_build_75 : decode cX7_build 75 = .ok (.aload_n 0, 1) := by decide +kernel
theorem dX7_build_76 : decode cX7_build 76 = .ok (.getfield 22, 3) := by decide +kernel
theorem dX7_build_79 : decode cX7_build 79 = .ok (.invokevirtual 45, 3) := by decide +kernel
theorem dX7_build_82 : decode cX7_build 82 = .ok (.if_icmp .ge 24, 3) := by decide +kernel
theorem dX7_build_85 : decode cX7_build 85 = .ok (.aload_n 0, 1) := by decide +kernel
theorem dX7_build_86 : decode cX7_build 86 = .ok (.aload_n 1, 1) := by decide +kernel
theorem dX7_build_87 : decode cX7_build 87 = .ok (.iload_n 3, 1) := by decide +kernel
theorem dX7_build_88 : decode cX7_build 88 = .ok (.aload_n 0, 1) := by decide +kernel
theorem dX7_build_89 : decode cX7_build 89 = .ok (.getfield 22, 3) := by decide +kernel
theorem dX7_build_92 : decode cX7_build 92 = .ok (.iload 4, 2) := by decide +kernel
theorem dX7_build_94 : decode cX7_build 94 = .ok (.invokevirtual 85, 3) := by decide +kernel
theorem dX7_build_97 : decode cX7_build 97 = .ok (.invokevirtual 98, 3) := by decide +kernel
theorem dX7_build_100 : decode cX7_build 100 = .ok (.iinc 4 1, 3) := by decide +kernel
theorem dX7_build_103 : decode cX7_build 103 = .ok (.goto (-30), 3) := by decide +kernel
theorem dX7_build_106 : decode cX7_build 106 = .ok (.iconst 0, 1) := by decide +kernel
theorem dX7_build_107 : decode cX7_build 107 = .ok (.istore 4, 2) := by decide +kernel
theorem dX7_build_109 : decode cX7_build 109 = .ok (.iload 4, 2) := by decide +kernel
theorem dX7_build_111 : decode cX7_build 111 = .ok (.bipush 100, 2) := by decide +kernel
theorem dX7_build_113 : decode cX7_build 113 = .ok (.if_icmp .ge 17, 3) := by decide +kernel
theorem dX7_build_116 : decode cX7_build 116 = .ok (.aload_n 0, 1) := by decide +kernel
theorem dX7_build_117 : decode cX7_build 117 = .ok (.aload_n 1, 1) := by decide +kernel
theorem dX7_build_118 : decode cX7_build 118 = .ok (.iload_n 3, 1) := by decide +kernel
theorem dX7_build_119 : decode cX7_build 119 = .ok (.iload 4, 2) := by decide +kernel
theorem dX7_build_121 : decode cX7_build 121 = .ok (.invokevirtual 102, 3) := by decide +kernel
theorem dX7_build_124 : decode cX7_build 124 = .ok (.iinc 4 1, 3) := by decide +kernel
theorem dX7_build_127 : decode cX7_build 127 = .ok (.goto (-18), 3) := by decide +kernel
theorem dX7_build_130 : decode cX7_build 130 = .ok (.iinc 3 1, 3) := by decide +kernel
theorem dX7_build_133 : decode cX7_build 133 = .ok (.goto (-74), 3) := by decide +kernel
theorem dX7_build_136 : decode cX7_build 136 = .ok (.iload_n 2, 1) := by decide +kernel
theorem dX7_build_137 : decode cX7_build 137 = .ok (.aload_n 0, 1) := by decide +kernel
theorem dX7_build_138 : decode cX7_build 138 = .ok (.getfield 22, 3) := by decide +kernel
theorem dX7_build_141 : decode cX7_build 141 = .ok (.invokevirtual 45, 3) := by decide +kernel
theorem dX7_build_144 : decode cX7_build 144 = .ok (.iadd, 1) := by decide +kernel
theorem dX7_build_145 : decode cX7_build 145 = .ok (.ireturn, 1) := by decide +kernel
theorem dX7_twinOf_0 : decode cX7_twinOf 0 = .ok (.aload_n 0, 1) := by decide +kernel
theorem dX7_twinOf_1 : decode cX7_twinOf 1 = .ok (.getfield 22, 3) := by decide +kernel
theorem dX7_twinOf_4 : decode cX7_twinOf 4 = .ok (.iload_n 1, 1) := by decide +kernel
theorem dX7_twinOf_5 : decode cX7_twinOf 5 = .ok (.invokevirtual 69, 3) := by decide +kernel
theorem dX7_twinOf_8 : decode cX7_twinOf 8 = .ok (.ifCond .eq 12, 3) := by decide +kernel
theorem dX7_twinOf_11 : decode cX7_twinOf 11 = .ok (.aload_n 0, 1) := by decide +kernel
theorem dX7_twinOf_12 : decode cX7_twinOf 12 = .ok (.getfield 26, 3) := by decide +kernel
theorem dX7_twinOf_15 : decode cX7_twinOf 15 = .ok (.iload_n 1, 1) := by decide +kernel
theorem dX7_twinOf_16 : decode cX7_twinOf 16 = .ok (.iaload, 1) := by decide +kernel
theorem dX7_twinOf_17 : decode cX7_twinOf 17 = .ok (.goto 4, 3) := by decide +kernel
theorem dX7_twinOf_20 : decode cX7_twinOf 20 = .ok (.iconst (-1), 1) := by decide +kernel
theorem dX7_twinOf_21 : decode cX7_twinOf 21 = .ok (.ireturn, 1) := by decide +kernel
theorem dX7_leastMissing_0 : decode cX7_leastMissing 0 = .ok (.iconst (-1), 1) := by decide +kernel
theorem dX7_leastMissing_1 : decode cX7_leastMissing 1 = .ok (.istore_n 3, 1) := by decide +kernel
theorem dX7_leastMissing_2 : decode cX7_leastMissing 2 = .ok (.iconst 0, 1) := by decide +kernel
theorem dX7_leastMissing_3 : decode cX7_leastMissing 3 = .ok (.istore 4, 2) := by decide +kernel
theorem dX7_leastMissing_5 : decode cX7_leastMissing 5 = .ok (.iload 4, 2) := by decide +kernel
theorem dX7_leastMissing_7 : decode cX7_leastMissing 7 = .ok (.aload_n 2, 1) := by decide +kernel
theorem dX7_leastMissing_8 : decode cX7_leastMissing 8 = .ok (.invokevirtual 45, 3) := by decide +kernel
theorem dX7_leastMissing_11 : decode cX7_leastMissing 11 = .ok (.if_icmp .ge 63, 3) := by decide +kernel
theorem dX7_leastMissing_14 : decode cX7_leastMissing 14 = .ok (.aload_n 2, 1) := by decide +kernel
theorem dX7_leastMissing_15 : decode cX7_leastMissing 15 = .ok (.iload 4, 2) := by decide +kernel
theorem dX7_leastMissing_17 : decode cX7_leastMissing 17 = .ok (.invokevirtual 85, 3) := by decide +kernel
theorem dX7_leastMissing_20 : decode cX7_leastMissing 20 = .ok (.istore 5, 2) := by decide +kernel
theorem dX7_leastMissing_22 : decode cX7_leastMissing 22 = .ok (.aload_n 0, 1) := by decide +kernel
theorem dX7_leastMissing_23 : decode cX7_leastMissing 23 = .ok (.getfield 22, 3) := by decide +kernel
theorem dX7_leastMissing_26 : decode cX7_leastMissing 26 = .ok (.iload 5, 2) := by decide +kernel
theorem dX7_leastMissing_28 : decode cX7_leastMissing 28 = .ok (.invokevirtual 69, 3) := by decide +kernel
theorem dX7_leastMissing_31 : decode cX7_leastMissing 31 = .ok (.ifCond .ne 7, 3) := by decide +kernel
theorem dX7_leastMissing_34 : decode cX7_leastMissing 34 = .ok (.iconst 1, 1) := by decide +kernel
theorem dX7_leastMissing_35 : decode cX7_leastMissing 35 = .ok (.goto 4, 3) := by decide +kernel
theorem dX7_leastMissing_38 : decode cX7_leastMissing 38 = .ok (.iconst 0, 1) := by decide +kernel
theorem dX7_leastMissing_39 : decode cX7_leastMissing 39 = .ok (.istore 6, 2) := by decide +kernel
theorem dX7_leastMissing_41 : decode cX7_leastMissing 41 = .ok (.iload 6, 2) := by decide +kernel
theorem dX7_leastMissing_43 : decode cX7_leastMissing 43 = .ok (.ifCond .eq 25, 3) := by decide +kernel
theorem dX7_leastMissing_46 : decode cX7_leastMissing 46 = .ok (.iload_n 3, 1) := by decide +kernel
theorem dX7_leastMissing_47 : decode cX7_leastMissing 47 = .ok (.iconst (-1), 1) := by decide +kernel
theorem dX7_leastMissing_48 : decode cX7_leastMissing 48 = .ok (.if_icmp .eq 17, 3) := by decide +kernel
theorem dX7_leastMissing_51 : decode cX7_leastMissing 51 = .ok (.aload_n 1, 1) := by decide +kernel
theorem dX7_leastMissing_52 : decode cX7_leastMissing 52 = .ok (.iload 5, 2) := by decide +kernel
theorem dX7_leastMissing_54 : decode cX7_leastMissing 54 = .ok (.invokevirtual 105, 3) := by decide +kernel
theorem dX7_leastMissing_57 : decode cX7_leastMissing 57 = .ok (.aload_n 1, 1) := by decide +kernel
theorem dX7_leastMissing_58 : decode cX7_leastMissing 58 = .ok (.iload_n 3, 1) := by decide +kernel
theorem dX7_leastMissing_59 : decode cX7_leastMissing 59 = .ok (.invokevirtual 105, 3) := by decide +kernel
theorem dX7_leastMissing_62 : decode cX7_leastMissing 62 = .ok (.if_icmp .ge 6, 3) := by decide +kernel
theorem dX7_leastMissing_65 : decode cX7_leastMissing 65 = .ok (.iload 5, 2) := by decide +kernel
theorem dX7_leastMissing_67 : decode cX7_leastMissing 67 = .ok (.istore_n 3, 1) := by decide +kernel
theorem dX7_leastMissing_68 : decode cX7_leastMissing 68 = .ok (.iinc 4 1, 3) := by decide +kernel
theorem dX7_leastMissing_71 : decode cX7_leastMissing 71 = .ok (.goto (-66), 3) := by decide +kernel
theorem dX7_leastMissing_74 : decode cX7_leastMissing 74 = .ok (.iload_n 3, 1) := by decide +kernel
theorem dX7_leastMissing_75 : decode cX7_leastMissing 75 = .ok (.ireturn, 1) := by decide +kernel
theorem dX7_keepsOutsiders_0 : decode cX7_keepsOutsiders 0 = .ok (.aload_n 0, 1) := by decide +kernel
theorem dX7_keepsOutsiders_1 : decode cX7_keepsOutsiders 1 = .ok (.getfield 9, 3) := by decide +kernel
theorem dX7_keepsOutsiders_4 : decode cX7_keepsOutsiders 4 = .ok (.iload_n 1, 1) := by decide +kernel
theorem dX7_keepsOutsiders_5 : decode cX7_keepsOutsiders 5 = .ok (.iconst 2, 1) := by decide +kernel
theorem dX7_keepsOutsiders_6 : decode cX7_keepsOutsiders 6 = .ok (.invokevirtual 108, 3) := by decide +kernel
theorem dX7_keepsOutsiders_9 : decode cX7_keepsOutsiders 9 = .ok (.ifCond .eq 19, 3) := by decide +kernel
theorem dX7_keepsOutsiders_12 : decode cX7_keepsOutsiders 12 = .ok (.aload_n 0, 1) := by decide +kernel
theorem dX7_keepsOutsiders_13 : decode cX7_keepsOutsiders 13 = .ok (.getfield 9, 3) := by decide +kernel
theorem dX7_keepsOutsiders_16 : decode cX7_keepsOutsiders 16 = .ok (.iload_n 1, 1) := by decide +kernel
theorem dX7_keepsOutsiders_17 : decode cX7_keepsOutsiders 17 = .ok (.iconst 1, 1) := by decide +kernel
theorem dX7_keepsOutsiders_18 : decode cX7_keepsOutsiders 18 = .ok (.invokevirtual 112, 3) := by decide +kernel
theorem dX7_keepsOutsiders_21 : decode cX7_keepsOutsiders 21 = .ok (.ifCond .ne 7, 3) := by decide +kernel
theorem dX7_keepsOutsiders_24 : decode cX7_keepsOutsiders 24 = .ok (.iconst 1, 1) := by decide +kernel
theorem dX7_keepsOutsiders_25 : decode cX7_keepsOutsiders 25 = .ok (.goto 4, 3) := by decide +kernel
theorem dX7_keepsOutsiders_28 : decode cX7_keepsOutsiders 28 = .ok (.iconst 0, 1) := by decide +kernel
theorem dX7_keepsOutsiders_29 : decode cX7_keepsOutsiders 29 = .ok (.ireturn, 1) := by decide +kernel
theorem dX7_howManyOldHave_0 : decode cX7_howManyOldHave 0 = .ok (.iconst 0, 1) := by decide +kernel
theorem dX7_howManyOldHave_1 : decode cX7_howManyOldHave 1 = .ok (.istore 4, 2) := by decide +kernel
theorem dX7_howManyOldHave_3 : decode cX7_howManyOldHave 3 = .ok (.iconst 0, 1) := by decide +kernel
theorem dX7_howManyOldHave_4 : decode cX7_howManyOldHave 4 = .ok (.istore 5, 2) := by decide +kernel
theorem dX7_howManyOldHave_6 : decode cX7_howManyOldHave 6 = .ok (.iload 5, 2) := by decide +kernel
theorem dX7_howManyOldHave_8 : decode cX7_howManyOldHave 8 = .ok (.aload_n 1, 1) := by decide +kernel
theorem dX7_howManyOldHave_9 : decode cX7_howManyOldHave 9 = .ok (.invokevirtual 76, 3) := by decide +kernel
theorem dX7_howManyOldHave_12 : decode cX7_howManyOldHave 12 = .ok (.iload_n 2, 1) := by decide +kernel
theorem dX7_howManyOldHave_13 : decode cX7_howManyOldHave 13 = .ok (.iload_n 3, 1) := by decide +kernel
theorem dX7_howManyOldHave_14 : decode cX7_howManyOldHave 14 = .ok (.invokevirtual 79, 3) := by decide +kernel
theorem dX7_howManyOldHave_17 : decode cX7_howManyOldHave 17 = .ok (.if_icmp .ge 33, 3) := by decide +kernel
theorem dX7_howManyOldHave_20 : decode cX7_howManyOldHave 20 = .ok (.aload_n 0, 1) := by decide +kernel
theorem dX7_howManyOldHave_21 : decode cX7_howManyOldHave 21 = .ok (.getfield 22, 3) := by decide +kernel
theorem dX7_howManyOldHave_24 : decode cX7_howManyOldHave 24 = .ok (.aload_n 1, 1) := by decide +kernel
theorem dX7_howManyOldHave_25 : decode cX7_howManyOldHave 25 = .ok (.invokevirtual 76, 3) := by decide +kernel
theorem dX7_howManyOldHave_28 : decode cX7_howManyOldHave 28 = .ok (.iload_n 2, 1) := by decide +kernel
theorem dX7_howManyOldHave_29 : decode cX7_howManyOldHave 29 = .ok (.iload_n 3, 1) := by decide +kernel
theorem dX7_howManyOldHave_30 : decode cX7_howManyOldHave 30 = .ok (.iload 5, 2) := by decide +kernel
theorem dX7_howManyOldHave_32 : decode cX7_howManyOldHave 32 = .ok (.invokevirtual 115, 3) := by decide +kernel
theorem dX7_howManyOldHave_35 : decode cX7_howManyOldHave 35 = .ok (.invokevirtual 69, 3) := by decide +kernel
theorem dX7_howManyOldHave_38 : decode cX7_howManyOldHave 38 = .ok (.ifCond .eq 6, 3) := by decide +kernel
theorem dX7_howManyOldHave_41 : decode cX7_howManyOldHave 41 = .ok (.iinc 4 1, 3) := by decide +kernel
theorem dX7_howManyOldHave_44 : decode cX7_howManyOldHave 44 = .ok (.iinc 5 1, 3) := by decide +kernel
theorem dX7_howManyOldHave_47 : decode cX7_howManyOldHave 47 = .ok (.goto (-41), 3) := by decide +kernel
theorem dX7_howManyOldHave_50 : decode cX7_howManyOldHave 50 = .ok (.iload 4, 2) := by decide +kernel
theorem dX7_howManyOldHave_52 : decode cX7_howManyOldHave 52 = .ok (.ireturn, 1) := by decide +kernel
theorem dX7_standIn_0 : decode cX7_standIn 0 = .ok (.aload_n 0, 1) := by decide +kernel
theorem dX7_standIn_1 : decode cX7_standIn 1 = .ok (.getfield 22, 3) := by decide +kernel
theorem dX7_standIn_4 : decode cX7_standIn 4 = .ok (.iload_n 2, 1) := by decide +kernel
theorem dX7_standIn_5 : decode cX7_standIn 5 = .ok (.invokevirtual 69, 3) := by decide +kernel
theorem dX7_standIn_8 : decode cX7_standIn 8 = .ok (.ifCond .eq 9, 3) := by decide +kernel
theorem dX7_standIn_11 : decode cX7_standIn 11 = .ok (.aload_n 0, 1) := by decide +kernel
theorem dX7_standIn_12 : decode cX7_standIn 12 = .ok (.iload_n 2, 1) := by decide +kernel
theorem dX7_standIn_13 : decode cX7_standIn 13 = .ok (.invokevirtual 118, 3) := by decide +kernel
theorem dX7_standIn_16 : decode cX7_standIn 16 = .ok (.ireturn, 1) := by decide +kernel
theorem dX7_standIn_17 : decode cX7_standIn 17 = .ok (.aload_n 0, 1) := by decide +kernel
theorem dX7_standIn_18 : decode cX7_standIn 18 = .ok (.iload_n 1, 1) := by decide +kernel
theorem dX7_standIn_19 : decode cX7_standIn 19 = .ok (.invokevirtual 65, 3) := by decide +kernel
theorem dX7_standIn_22 : decode cX7_standIn 22 = .ok (.ifCond .eq 7, 3) := by decide +kernel
theorem dX7_standIn_25 : decode cX7_standIn 25 = .ok (.iload_n 2, 1) := by decide +kernel
theorem dX7_standIn_26 : decode cX7_standIn 26 = .ok (.goto 4, 3) := by decide +kernel
theorem dX7_standIn_29 : decode cX7_standIn 29 = .ok (.iconst (-1), 1) := by decide +kernel
theorem dX7_standIn_30 : decode cX7_standIn 30 = .ok (.ireturn, 1) := by decide +kernel
theorem dX7_copyHas_0 : decode cX7_copyHas 0 = .ok (.aload_n 1, 1) := by decide +kernel
theorem dX7_copyHas_1 : decode cX7_copyHas 1 = .ok (.invokevirtual 30, 3) := by decide +kernel
theorem dX7_copyHas_4 : decode cX7_copyHas 4 = .ok (.iload_n 2, 1) := by decide +kernel
theorem dX7_copyHas_5 : decode cX7_copyHas 5 = .ok (.iload_n 3, 1) := by decide +kernel
theorem dX7_copyHas_6 : decode cX7_copyHas 6 = .ok (.invokevirtual 79, 3) := by decide +kernel
theorem dX7_copyHas_9 : decode cX7_copyHas 9 = .ok (.istore 4, 2) := by decide +kernel
theorem dX7_copyHas_11 : decode cX7_copyHas 11 = .ok (.iconst 0, 1) := by decide +kernel
theorem dX7_copyHas_12 : decode cX7_copyHas 12 = .ok (.istore 5, 2) := by decide +kernel
theorem dX7_copyHas_14 : decode cX7_copyHas 14 = .ok (.iload 5, 2) := by decide +kernel
theorem dX7_copyHas_16 : decode cX7_copyHas 16 = .ok (.iload 4, 2) := by decide +kernel
theorem dX7_copyHas_18 : decode cX7_copyHas 18 = .ok (.if_icmp .ge 45, 3) := by decide +kernel
theorem dX7_copyHas_21 : decode cX7_copyHas 21 = .ok (.aload_n 0, 1) := by decide +kernel
theorem dX7_copyHas_22 : decode cX7_copyHas 22 = .ok (.iload_n 2, 1) := by decide +kernel
theorem dX7_copyHas_23 : decode cX7_copyHas 23 = .ok (.aload_n 1, 1) := by decide +kernel
theorem dX7_copyHas_24 : decode cX7_copyHas 24 = .ok (.invokevirtual 30, 3) := by decide +kernel
theorem dX7_copyHas_27 : decode cX7_copyHas 27 = .ok (.iload_n 2, 1) := by decide +kernel
theorem dX7_copyHas_28 : decode cX7_copyHas 28 = .ok (.iload_n 3, 1) := by decide +kernel
theorem dX7_copyHas_29 : decode cX7_copyHas 29 = .ok (.iload 5, 2) := by decide +kernel
theorem dX7_copyHas_31 : decode cX7_copyHas 31 = .ok (.invokevirtual 115, 3) := by decide +kernel
theorem dX7_copyHas_34 : decode cX7_copyHas 34 = .ok (.invokevirtual 121, 3) := by decide +kernel
theorem dX7_copyHas_37 : decode cX7_copyHas 37 = .ok (.istore 6, 2) := by decide +kernel
theorem dX7_copyHas_39 : decode cX7_copyHas 39 = .ok (.iload 6, 2) := by decide +kernel
theorem dX7_copyHas_41 : decode cX7_copyHas 41 = .ok (.iconst (-1), 1) := by decide +kernel
theorem dX7_copyHas_42 : decode cX7_copyHas 42 = .ok (.if_icmp .eq 15, 3) := by decide +kernel
theorem dX7_copyHas_45 : decode cX7_copyHas 45 = .ok (.aload_n 1, 1) := by decide +kernel
theorem dX7_copyHas_46 : decode cX7_copyHas 46 = .ok (.iload_n 2, 1) := by decide +kernel
theorem dX7_copyHas_47 : decode cX7_copyHas 47 = .ok (.aload_n 0, 1) := by decide +kernel
theorem dX7_copyHas_48 : decode cX7_copyHas 48 = .ok (.iload_n 3, 1) := by decide +kernel
theorem dX7_copyHas_49 : decode cX7_copyHas 49 = .ok (.invokevirtual 118, 3) := by decide +kernel
theorem dX7_copyHas_52 : decode cX7_copyHas 52 = .ok (.iload 6, 2) := by decide +kernel
theorem dX7_copyHas_54 : decode cX7_copyHas 54 = .ok (.invokevirtual 124, 3) := by decide +kernel
theorem dX7_copyHas_57 : decode cX7_copyHas 57 = .ok (.iinc 5 1, 3) := by decide +kernel
theorem dX7_copyHas_60 : decode cX7_copyHas 60 = .ok (.goto (-46), 3) := by decide +kernel
theorem dX7_copyHas_63 : decode cX7_copyHas 63 = .ok (.return_, 1) := by decide +kernel
theorem dX7_copyHad_0 : decode cX7_copyHad 0 = .ok (.aload_n 0, 1) := by decide +kernel
theorem dX7_copyHad_1 : decode cX7_copyHad 1 = .ok (.iload_n 2, 1) := by decide +kernel
theorem dX7_copyHad_2 : decode cX7_copyHad 2 = .ok (.iload_n 3, 1) := by decide +kernel
theorem dX7_copyHad_3 : decode cX7_copyHad 3 = .ok (.invokevirtual 121, 3) := by decide +kernel
theorem dX7_copyHad_6 : decode cX7_copyHad 6 = .ok (.istore 4, 2) := by decide +kernel
theorem dX7_copyHad_8 : decode cX7_copyHad 8 = .ok (.iload 4, 2) := by decide +kernel
theorem dX7_copyHad_10 : decode cX7_copyHad 10 = .ok (.iconst (-1), 1) := by decide +kernel
theorem dX7_copyHad_11 : decode cX7_copyHad 11 = .ok (.if_icmp .ne 7, 3) := by decide +kernel
theorem dX7_copyHad_14 : decode cX7_copyHad 14 = .ok (.iconst 0, 1) := by decide +kernel
theorem dX7_copyHad_15 : decode cX7_copyHad 15 = .ok (.goto 12, 3) := by decide +kernel
theorem dX7_copyHad_18 : decode cX7_copyHad 18 = .ok (.aload_n 1, 1) := by decide +kernel
theorem dX7_copyHad_19 : decode cX7_copyHad 19 = .ok (.invokevirtual 76, 3) := by decide +kernel
theorem dX7_copyHad_22 : decode cX7_copyHad 22 = .ok (.iload_n 2, 1) := by decide +kernel
theorem dX7_copyHad_23 : decode cX7_copyHad 23 = .ok (.iload_n 3, 1) := by decide +kernel
theorem dX7_copyHad_24 : decode cX7_copyHad 24 = .ok (.invokevirtual 79, 3) := by decide +kernel
theorem dX7_copyHad_27 : decode cX7_copyHad 27 = .ok (.istore 5, 2) := by decide +kernel
theorem dX7_copyHad_29 : decode cX7_copyHad 29 = .ok (.iconst 0, 1) := by decide +kernel
theorem dX7_copyHad_30 : decode cX7_copyHad 30 = .ok (.istore 6, 2) := by decide +kernel
theorem dX7_copyHad_32 : decode cX7_copyHad 32 = .ok (.iload 6, 2) := by decide +kernel
theorem dX7_copyHad_34 : decode cX7_copyHad 34 = .ok (.iload 5, 2) := by decide +kernel
theorem dX7_copyHad_36 : decode cX7_copyHad 36 = .ok (.if_icmp .ge 47, 3) := by decide +kernel
theorem dX7_copyHad_39 : decode cX7_copyHad 39 = .ok (.aload_n 1, 1) := by decide +kernel
theorem dX7_copyHad_40 : decode cX7_copyHad 40 = .ok (.invokevirtual 76, 3) := by decide +kernel
theorem dX7_copyHad_43 : decode cX7_copyHad 43 = .ok (.iload_n 2, 1) := by decide +kernel
theorem dX7_copyHad_44 : decode cX7_copyHad 44 = .ok (.iload_n 3, 1) := by decide +kernel
theorem dX7_copyHad_45 : decode cX7_copyHad 45 = .ok (.iload 6, 2) := by decide +kernel
theorem dX7_copyHad_47 : decode cX7_copyHad 47 = .ok (.invokevirtual 115, 3) := by decide +kernel
theorem dX7_copyHad_50 : decode cX7_copyHad 50 = .ok (.istore 7, 2) := by decide +kernel
theorem dX7_copyHad_52 : decode cX7_copyHad 52 = .ok (.aload_n 0, 1) := by decide +kernel
theorem dX7_copyHad_53 : decode cX7_copyHad 53 = .ok (.getfield 22, 3) := by decide +kernel
theorem dX7_copyHad_56 : decode cX7_copyHad 56 = .ok (.iload 7, 2) := by decide +kernel
theorem dX7_copyHad_58 : decode cX7_copyHad 58 = .ok (.invokevirtual 69, 3) := by decide +kernel
theorem dX7_copyHad_61 : decode cX7_copyHad 61 = .ok (.ifCond .eq 16, 3) := by decide +kernel
theorem dX7_copyHad_64 : decode cX7_copyHad 64 = .ok (.aload_n 1, 1) := by decide +kernel
theorem dX7_copyHad_65 : decode cX7_copyHad 65 = .ok (.iload_n 2, 1) := by decide +kernel
theorem dX7_copyHad_66 : decode cX7_copyHad 66 = .ok (.aload_n 0, 1) := by decide +kernel
theorem dX7_copyHad_67 : decode cX7_copyHad 67 = .ok (.iload 7, 2) := by decide +kernel
theorem dX7_copyHad_69 : decode cX7_copyHad 69 = .ok (.invokevirtual 118, 3) := by decide +kernel
theorem dX7_copyHad_72 : decode cX7_copyHad 72 = .ok (.iload 4, 2) := by decide +kernel
theorem dX7_copyHad_74 : decode cX7_copyHad 74 = .ok (.invokevirtual 128, 3) := by decide +kernel
theorem dX7_copyHad_77 : decode cX7_copyHad 77 = .ok (.iinc 6 1, 3) := by decide +kernel
theorem dX7_copyHad_80 : decode cX7_copyHad 80 = .ok (.goto (-48), 3) := by decide +kernel
theorem dX7_copyHad_83 : decode cX7_copyHad 83 = .ok (.return_, 1) := by decide +kernel
theorem dX8_init_0 : decode cX8_init 0 = .ok (.aload_n 0, 1) := by decide +kernel
theorem dX8_init_1 : decode cX8_init 1 = .ok (.invokespecial 3, 3) := by decide +kernel
theorem dX8_init_4 : decode cX8_init 4 = .ok (.aload_n 0, 1) := by decide +kernel
theorem dX8_init_5 : decode cX8_init 5 = .ok (.aload_n 1, 1) := by decide +kernel
theorem dX8_init_6 : decode cX8_init 6 = .ok (.putfield 9, 3) := by decide +kernel
theorem dX8_init_9 : decode cX8_init 9 = .ok (.aload_n 0, 1) := by decide +kernel
theorem dX8_init_10 : decode cX8_init 10 = .ok (.bipush 100, 2) := by decide +kernel
theorem dX8_init_12 : decode cX8_init 12 = .ok (.newarray .int, 2) := by decide +kernel
theorem dX8_init_14 : decode cX8_init 14 = .ok (.putfield 15, 3) := by decide +kernel
theorem dX8_init_17 : decode cX8_init 17 = .ok (.aload_n 0, 1) := by decide +kernel
theorem dX8_init_18 : decode cX8_init 18 = .ok (.new 19, 3) := by decide +kernel
theorem dX8_init_21 : decode cX8_init 21 = .ok (.dup, 1) := by decide +kernel
theorem dX8_init_22 : decode cX8_init 22 = .ok (.invokespecial 21, 3) := by decide +kernel
theorem dX8_init_25 : decode cX8_init 25 = .ok (.putfield 22, 3) := by decide +kernel
theorem dX8_init_28 : decode cX8_init 28 = .ok (.aload_n 0, 1) := by decide +kernel
theorem dX8_init_29 : decode cX8_init 29 = .ok (.new 19, 3) := by decide +kernel
theorem dX8_init_32 : decode cX8_init 32 = .ok (.dup, 1) := by decide +kernel
theorem dX8_init_33 : decode cX8_init 33 = .ok (.invokespecial 21, 3) := by decide +kernel
theorem dX8_init_36 : decode cX8_init 36 = .ok (.putfield 26, 3) := by decide +kernel
theorem dX8_init_39 : decode cX8_init 39 = .ok (.return_, 1) := by decide +kernel
theorem dX8_addOwning_0 : decode cX8_addOwning 0 = .ok (.iconst 0, 1) := by decide +kernel
theorem dX8_addOwning_1 : decode cX8_addOwning 1 = .ok (.istore 4, 2) := by decide +kernel
theorem dX8_addOwning_3 : decode cX8_addOwning 3 = .ok (.iload 4, 2) := by decide +kernel
theorem dX8_addOwning_5 : decode cX8_addOwning 5 = .ok (.aload_n 0, 1) := by decide +kernel
theorem dX8_addOwning_6 : decode cX8_addOwning 6 = .ok (.getfield 9, 3) := by decide +kernel
theorem dX8_addOwning_9 : decode cX8_addOwning 9 = .ok (.invokevirtual 29, 3) := by decide +kernel
theorem dX8_addOwning_12 : decode cX8_addOwning 12 = .ok (.if_icmp .ge 30, 3) := by decide +kernel
theorem dX8_addOwning_15 : decode cX8_addOwning 15 = .ok (.aload_n 0, 1) := by decide +kernel
theorem dX8_addOwning_16 : decode cX8_addOwning 16 = .ok (.getfield 9, 3) := by decide +kernel
theorem dX8_addOwning_19 : decode cX8_addOwning 19 = .ok (.iload 4, 2) := by decide +kernel
theorem dX8_addOwning_21 : decode cX8_addOwning 21 = .ok (.iconst 1, 1) := by decide +kernel
theorem dX8_addOwning_22 : decode cX8_addOwning 22 = .ok (.invokevirtual 35, 3) := by decide +kernel
theorem dX8_addOwning_25 : decode cX8_addOwning 25 = .ok (.ifCond .eq 11, 3) := by decide +kernel
theorem dX8_addOwning_28 : decode cX8_addOwning 28 = .ok (.aload_n 1, 1) := by decide +kernel
theorem dX8_addOwning_29 : decode cX8_addOwning 29 = .ok (.aload_n 3, 1) := by decide +kernel
theorem dX8_addOwning_30 : decode cX8_addOwning 30 = .ok (.iload 4, 2) := by decide +kernel
theorem dX8_addOwning_32 : decode cX8_addOwning 32 = .ok (.iload_n 2, 1) := by decide +kernel
theorem dX8_addOwning_33 : decode cX8_addOwning 33 = .ok (.invokevirtual 39, 3) := by decide +kernel
theorem dX8_addOwning_36 : decode cX8_addOwning 36 = .ok (.iinc 4 1, 3) := by decide +kernel
theorem dX8_addOwning_39 : decode cX8_addOwning 39 = .ok (.goto (-36), 3) := by decide +kernel
theorem dX8_addOwning_42 : decode cX8_addOwning 42 = .ok (.return_, 1) := by decide +kernel
theorem dX8_howManyOwning_0 : decode cX8_howManyOwning 0 = .ok (.aload_n 0, 1) := by decide +kernel
theorem dX8_howManyOwning_1 : decode cX8_howManyOwning 1 = .ok (.getfield 22, 3) := by decide +kernel
theorem dX8_howManyOwning_4 : decode cX8_howManyOwning 4 = .ok (.invokevirtual 45, 3) := by decide +kernel
theorem dX8_howManyOwning_7 : decode cX8_howManyOwning 7 = .ok (.aload_n 0, 1) := by decide +kernel
theorem dX8_howManyOwning_8 : decode cX8_howManyOwning 8 = .ok (.aload_n 1, 1) := by decide +kernel
theorem dX8_howManyOwning_9 : decode cX8_howManyOwning 9 = .ok (.iload_n 2, 1) := by decide +kernel
theorem dX8_howManyOwning_10 : decode cX8_howManyOwning 10 = .ok (.aload_n 0, 1) := by decide +kernel
theorem dX8_howManyOwning_11 : decode cX8_howManyOwning 11 = .ok (.getfield 22, 3) := by decide +kernel
theorem dX8_howManyOwning_14 : decode cX8_howManyOwning 14 = .ok (.invokevirtual 48, 3) := by decide +kernel
theorem dX8_howManyOwning_17 : decode cX8_howManyOwning 17 = .ok (.aload_n 0, 1) := by decide +kernel
theorem dX8_howManyOwning_18 : decode cX8_howManyOwning 18 = .ok (.getfield 22, 3) := by decide +kernel
theorem dX8_howManyOwning_21 : decode cX8_howManyOwning 21 = .ok (.invokevirtual 52, 3) := by decide +kernel
theorem dX8_howManyOwning_24 : decode cX8_howManyOwning 24 = .ok (.ireturn, 1) := by decide +kernel
theorem dX8_howManyNear_0 : decode cX8_howManyNear 0 = .ok (.aload_n 0, 1) := by decide +kernel
theorem dX8_howManyNear_1 : decode cX8_howManyNear 1 = .ok (.getfield 22, 3) := by decide +kernel
theorem dX8_howManyNear_4 : decode cX8_howManyNear 4 = .ok (.invokevirtual 45, 3) := by decide +kernel
theorem dX8_howManyNear_7 : decode cX8_howManyNear 7 = .ok (.iconst 0, 1) := by decide +kernel
theorem dX8_howManyNear_8 : decode cX8_howManyNear 8 = .ok (.istore_n 3, 1) := by decide +kernel
theorem dX8_howManyNear_9 : decode cX8_howManyNear 9 = .ok (.iload_n 3, 1) := by decide +kernel
theorem dX8_howManyNear_10 : decode cX8_howManyNear 10 = .ok (.aload_n 0, 1) := by decide +kernel
theorem dX8_howManyNear_11 : decode cX8_howManyNear 11 = .ok (.getfield 9, 3) := by decide +kernel
theorem dX8_howManyNear_14 : decode cX8_howManyNear 14 = .ok (.invokevirtual 29, 3) := by decide +kernel
theorem dX8_howManyNear_17 : decode cX8_howManyNear 17 = .ok (.if_icmp .ge 35, 3) := by decide +kernel
theorem dX8_howManyNear_20 : decode cX8_howManyNear 20 = .ok (.aload_n 1, 1) := by decide +kernel
theorem dX8_howManyNear_21 : decode cX8_howManyNear 21 = .ok (.invokevirtual 55, 3) := by decide +kernel
theorem dX8_howManyNear_24 : decode cX8_howManyNear 24 = .ok (.aload_n 0, 1) := by decide +kernel
theorem dX8_howManyNear_25 : decode cX8_howManyNear 25 = .ok (.getfield 22, 3) := by decide +kernel
theorem dX8_howManyNear_28 : decode cX8_howManyNear 28 = .ok (.iload_n 3, 1) := by decide +kernel
theorem dX8_howManyNear_29 : decode cX8_howManyNear 29 = .ok (.iload_n 2, 1) := by decide +kernel
theorem dX8_howManyNear_30 : decode cX8_howManyNear 30 = .ok (.invokevirtual 39, 3) := by decide +kernel
theorem dX8_howManyNear_33 : decode cX8_howManyNear 33 = .ok (.aload_n 1, 1) := by decide +kernel
theorem dX8_howManyNear_34 : decode cX8_howManyNear 34 = .ok (.invokevirtual 61, 3) := by decide +kernel
theorem dX8_howManyNear_37 : decode cX8_howManyNear 37 = .ok (.aload_n 0, 1) := by decide +kernel
theorem dX8_howManyNear_38 : decode cX8_howManyNear 38 = .ok (.getfield 22, 3) := by decide +kernel
theorem dX8_howManyNear_41 : decode cX8_howManyNear 41 = .ok (.iload_n 3, 1) := by decide +kernel
theorem dX8_howManyNear_42 : decode cX8_howManyNear 42 = .ok (.iload_n 2, 1) := by decide +kernel
theorem dX8_howManyNear_43 : decode cX8_howManyNear 43 = .ok (.invokevirtual 39, 3) := by decide +kernel
theorem dX8_howManyNear_46 : decode cX8_howManyNear 46 = .ok (.iinc 3 1, 3) := by decide +kernel
theorem dX8_howManyNear_49 : decode cX8_howManyNear 49 = .ok (.goto (-40), 3) := by decide +kernel
theorem dX8_howManyNear_52 : decode cX8_howManyNear 52 = .ok (.aload_n 0, 1) := by decide +kernel
theorem dX8_howManyNear_53 : decode cX8_howManyNear 53 = .ok (.getfield 22, 3) := by decide +kernel
theorem dX8_howManyNear_56 : decode cX8_howManyNear 56 = .ok (.invokevirtual 52, 3) := by decide +kernel
theorem dX8_howManyNear_59 : decode cX8_howManyNear 59 = .ok (.ireturn, 1) := by decide +kernel
theorem dX8_howManyUnder_0 : decode cX8_howManyUnder 0 = .ok (.aload_n 0, 1) := by decide +kernel
theorem dX8_howManyUnder_1 : decode cX8_howManyUnder 1 = .ok (.aload_n 1, 1) := by decide +kernel
theorem dX8_howManyUnder_2 : decode cX8_howManyUnder 2 = .ok (.invokevirtual 55, 3) := by decide +kernel
theorem dX8_howManyUnder_5 : decode cX8_howManyUnder 5 = .ok (.iload_n 2, 1) := by decide +kernel
theorem dX8_howManyUnder_6 : decode cX8_howManyUnder 6 = .ok (.invokevirtual 64, 3) := by decide +kernel
theorem dX8_howManyUnder_9 : decode cX8_howManyUnder 9 = .ok (.invokevirtual 52, 3) := by decide +kernel
theorem dX8_howManyUnder_12 : decode cX8_howManyUnder 12 = .ok (.iconst 1, 1) := by decide +kernel
theorem dX8_howManyUnder_13 : decode cX8_howManyUnder 13 = .ok (.isub, 1) := by decide +kernel
theorem dX8_howManyUnder_14 : decode cX8_howManyUnder 14 = .ok (.ireturn, 1) := by decide +kernel
theorem dX8_howDeep_0 : decode cX8_howDeep 0 = .ok (.aload_n 0, 1) := by decide +kernel
theorem dX8_howDeep_1 : decode cX8_howDeep 1 = .ok (.getfield 22, 3) := by decide +kernel
theorem dX8_howDeep_4 : decode cX8_howDeep 4 = .ok (.invokevirtual 45, 3) := by decide +kernel
theorem dX8_howDeep_7 : decode cX8_howDeep 7 = .ok (.aload_n 0, 1) := by decide +kernel
theorem dX8_howDeep_8 : decode cX8_howDeep 8 = .ok (.getfield 22, 3) := by decide +kernel
theorem dX8_howDeep_11 : decode cX8_howDeep 11 = .ok (.iload_n 2, 1) := by decide +kernel
theorem dX8_howDeep_12 : decode cX8_howDeep 12 = .ok (.invokevirtual 68, 3) := by decide +kernel
theorem dX8_howDeep_15 : decode cX8_howDeep 15 = .ok (.iconst 0, 1) := by decide +kernel
theorem dX8_howDeep_16 : decode cX8_howDeep 16 = .ok (.istore_n 3, 1) := by decide +kernel
theorem dX8_howDeep_17 : decode cX8_howDeep 17 = .ok (.iload_n 3, 1) := by decide +kernel
theorem dX8_howDeep_18 : decode cX8_howDeep 18 = .ok (.bipush 100, 2) := by decide +kernel
theorem dX8_howDeep_20 : decode cX8_howDeep 20 = .ok (.if_icmp .ge 90, 3) := by decide +kernel
theorem dX8_howDeep_23 : decode cX8_howDeep 23 = .ok (.aload_n 0, 1) := by decide +kernel
theorem dX8_howDeep_24 : decode cX8_howDeep 24 = .ok (.getfield 26, 3) := by decide +kernel
theorem dX8_howDeep_27 : decode cX8_howDeep 27 = .ok (.invokevirtual 45, 3) := by decide +kernel
theorem dX8_howDeep_30 : decode cX8_howDeep 30 = .ok (.iconst 0, 1) := by decide +kernel
theorem dX8_howDeep_31 : decode cX8_howDeep 31 = .ok (.istore 4, 2) := by decide +kernel
theorem dX8_howDeep_33 : decode cX8_howDeep 33 = .ok (.iload 4, 2) := by decide +kernel
theorem dX8_howDeep_35 : decode cX8_howDeep 35 = .ok (.aload_n 0, 1) := by decide +kernel
theorem dX8_howDeep_36 : decode cX8_howDeep 36 = .ok (.getfield 22, 3) := by decide +kernel
theorem dX8_howDeep_39 : decode cX8_howDeep 39 = .ok (.invokevirtual 52, 3) := by decide +kernel
theorem dX8_howDeep_42 : decode cX8_howDeep 42 = .ok (.if_icmp .ge 30, 3) := by decide +kernel
theorem dX8_howDeep_45 : decode cX8_howDeep 45 = .ok (.aload_n 0, 1) := by decide +kernel
theorem dX8_howDeep_46 : decode cX8_howDeep 46 = .ok (.aload_n 1, 1) := by decide +kernel
theorem dX8_howDeep_47 : decode cX8_howDeep 47 = .ok (.invokevirtual 61, 3) := by decide +kernel
theorem dX8_howDeep_50 : decode cX8_howDeep 50 = .ok (.aload_n 0, 1) := by decide +kernel
theorem dX8_howDeep_51 : decode cX8_howDeep 51 = .ok (.getfield 22, 3) := by decide +kernel
theorem dX8_howDeep_54 : decode cX8_howDeep 54 = .ok (.iload 4, 2) := by decide +kernel
theorem dX8_howDeep_56 : decode cX8_howDeep 56 = .ok (.invokevirtual 72, 3) := by decide +kernel
theorem dX8_howDeep_59 : decode cX8_howDeep 59 = .ok (.aload_n 0, 1) := by decide +kernel
theorem dX8_howDeep_60 : decode cX8_howDeep 60 = .ok (.getfield 26, 3) := by decide +kernel
theorem dX8_howDeep_63 : decode cX8_howDeep 63 = .ok (.invokevirtual 48, 3) := by decide +kernel
theorem dX8_howDeep_66 : decode cX8_howDeep 66 = .ok (.iinc 4 1, 3) := by decide +kernel
theorem dX8_howDeep_69 : decode cX8_howDeep 69 = .ok (.goto (-36), 3) := by decide +kernel
theorem dX8_howDeep_72 : decode cX8_howDeep 72 = .ok (.aload_n 0, 1) := by decide +kernel
theorem dX8_howDeep_73 : decode cX8_howDeep 73 = .ok (.getfield 26, 3) := by decide +kernel
theorem dX8_howDeep_76 : decode cX8_howDeep 76 = .ok (.invokevirtual 52, 3) := by decide +kernel
theorem dX8_howDeep_79 : decode cX8_howDeep 79 = .ok (.ifCond .ne 5, 3) := by decide +kernel
theorem dX8_howDeep_82 : decode cX8_howDeep 82 = .ok (.iload_n 3, 1) := by decide +kernel
theorem dX8_howDeep_83 : decode cX8_howDeep 83 = .ok (.ireturn, 1) := by decide +kernel
theorem dX8_howDeep_84 : decode cX8_howDeep 84 = .ok (.aload_n 0, 1) := by decide +kernel
theorem dX8_howDeep_85 : decode cX8_howDeep 85 = .ok (.getfield 26, 3) := by decide +kernel
theorem dX8_howDeep_88 : decode cX8_howDeep 88 = .ok (.astore 4, 2) := by decide +kernel
theorem dX8_howDeep_90 : decode cX8_howDeep 90 = .ok (.aload_n 0, 1) := by decide +kernel
theorem dX8_howDeep_91 : decode cX8_howDeep 91 = .ok (.aload_n 0, 1) := by decide +kernel
theorem dX8_howDeep_92 : decode cX8_howDeep 92 = .ok (.getfield 22, 3) := by decide +kernel
theorem dX8_howDeep_95 : decode cX8_howDeep 95 = .ok (.putfield 26, 3) := by decide +kernel
theorem dX8_howDeep_98 : decode cX8_howDeep 98 = .ok (.aload_n 0, 1) := by decide +kernel
theorem dX8_howDeep_99 : decode cX8_howDeep 99 = .ok (.aload 4, 2) := by decide +kernel
theorem dX8_howDeep_101 : decode cX8_howDeep 101 = .ok (.putfield 22, 3) := by decide +kernel
theorem dX8_howDeep_104 : decode cX8_howDeep 104 = .ok (.iinc 3 1, 3) := by decide +kernel
theorem dX8_howDeep_107 : decode cX8_howDeep 107 = .ok (.goto (-90), 3) := by decide +kernel
theorem dX8_howDeep_110 : decode cX8_howDeep 110 = .ok (.bipush 100, 2) := by decide +kernel
theorem dX8_howDeep_112 : decode cX8_howDeep 112 = .ok (.ireturn, 1) := by decide +kernel
theorem dX8_spread_0 : decode cX8_spread 0 = .ok (.aload_n 0, 1) := by decide +kernel
theorem dX8_spread_1 : decode cX8_spread 1 = .ok (.getfield 22, 3) := by decide +kernel
theorem dX8_spread_4 : decode cX8_spread 4 = .ok (.invokevirtual 45, 3) := by decide +kernel
theorem dX8_spread_7 : decode cX8_spread 7 = .ok (.aload_n 0, 1) := by decide +kernel
theorem dX8_spread_8 : decode cX8_spread 8 = .ok (.getfield 22, 3) := by decide +kernel
theorem dX8_spread_11 : decode cX8_spread 11 = .ok (.iload_n 2, 1) := by decide +kernel
theorem dX8_spread_12 : decode cX8_spread 12 = .ok (.invokevirtual 68, 3) := by decide +kernel
theorem dX8_spread_15 : decode cX8_spread 15 = .ok (.aload_n 0, 1) := by decide +kernel
theorem dX8_spread_16 : decode cX8_spread 16 = .ok (.iconst 0, 1) := by decide +kernel
theorem dX8_spread_17 : decode cX8_spread 17 = .ok (.iconst 0, 1) := by decide +kernel
theorem dX8_spread_18 : decode cX8_spread 18 = .ok (.invokevirtual 76, 3) := by decide +kernel
theorem dX8_spread_21 : decode cX8_spread 21 = .ok (.iconst 0, 1) := by decide +kernel
theorem dX8_spread_22 : decode cX8_spread 22 = .ok (.istore_n 3, 1) := by decide +kernel
theorem dX8_spread_23 : decode cX8_spread 23 = .ok (.iload_n 3, 1) := by decide +kernel
theorem dX8_spread_24 : decode cX8_spread 24 = .ok (.aload_n 0, 1) := by decide +kernel
theorem dX8_spread_25 : decode cX8_spread 25 = .ok (.getfield 22, 3) := by decide +kernel
theorem dX8_spread_28 : decode cX8_spread 28 = .ok (.invokevirtual 52, 3) := by decide +kernel
theorem dX8_spread_31 : decode cX8_spread 31 = .ok (.if_icmp .ge 59, 3) := by decide +kernel
theorem dX8_spread_34 : decode cX8_spread 34 = .ok (.iload_n 3, 1) := by decide +kernel
theorem dX8_spread_35 : decode cX8_spread 35 = .ok (.bipush 100, 2) := by decide +kernel
theorem dX8_spread_37 : decode cX8_spread 37 = .ok (.if_icmp .ge 53, 3) := by decide +kernel
theorem dX8_spread_40 : decode cX8_spread 40 = .ok (.aload_n 0, 1) := by decide +kernel
theorem dX8_spread_41 : decode cX8_spread 41 = .ok (.getfield 22, 3) := by decide +kernel
theorem dX8_spread_44 : decode cX8_spread 44 = .ok (.iload_n 3, 1) := by decide +kernel
theorem dX8_spread_45 : decode cX8_spread 45 = .ok (.invokevirtual 72, 3) := by decide +kernel
theorem dX8_spread_48 : decode cX8_spread 48 = .ok (.istore 4, 2) := by decide +kernel
theorem dX8_spread_50 : decode cX8_spread 50 = .ok (.aload_n 0, 1) := by decide +kernel
theorem dX8_spread_51 : decode cX8_spread 51 = .ok (.getfield 22, 3) := by decide +kernel
theorem dX8_spread_54 : decode cX8_spread 54 = .ok (.invokevirtual 52, 3) := by decide +kernel
theorem dX8_spread_57 : decode cX8_spread 57 = .ok (.istore 5, 2) := by decide +kernel
theorem dX8_spread_59 : decode cX8_spread 59 = .ok (.aload_n 0, 1) := by decide +kernel
theorem dX8_spread_60 : decode cX8_spread 60 = .ok (.aload_n 1, 1) := by decide +kernel
theorem dX8_spread_61 : decode cX8_spread 61 = .ok (.iload 4, 2) := by decide +kernel
theorem dX8_spread_63 : decode cX8_spread 63 = .ok (.aload_n 0, 1) := by decide +kernel
theorem dX8_spread_64 : decode cX8_spread 64 = .ok (.getfield 22, 3) := by decide +kernel
theorem dX8_spread_67 : decode cX8_spread 67 = .ok (.invokevirtual 48, 3) := by decide +kernel
theorem dX8_spread_70 : decode cX8_spread 70 = .ok (.aload_n 0, 1) := by decide +kernel
theorem dX8_spread_71 : decode cX8_spread 71 = .ok (.iload 5, 2) := by decide +kernel
theorem dX8_spread_73 : decode cX8_spread 73 = .ok (.aload_n 0, 1) := by decide +kernel
theorem dX8_spread_74 : decode cX8_spread 74 = .ok (.iload 4, 2) := by decide +kernel
theorem dX8_spread_76 : decode cX8_spread 76 = .ok (.invokevirtual 80, 3) := by decide +kernel
theorem dX8_spread_79 : decode cX8_spread 79 = .ok (.iconst 1, 1) := by decide +kernel
theorem dX8_spread_80 : decode cX8_spread 80 = .ok (.iadd, 1) := by decide +kernel
theorem dX8_spread_81 : decode cX8_spread 81 = .ok (.invokevirtual 76, 3) := by decide +kernel
theorem dX8_spread_84 : decode cX8_spread 84 = .ok (.iinc 3 1, 3) := by decide +kernel
theorem dX8_spread_87 : decode cX8_spread 87 = .ok (.goto (-64), 3) := by decide +kernel
theorem dX8_spread_90 : decode cX8_spread 90 = .ok (.aload_n 0, 1) := by decide +kernel
theorem dX8_spread_91 : decode cX8_spread 91 = .ok (.getfield 22, 3) := by decide +kernel
theorem dX8_spread_94 : decode cX8_spread 94 = .ok (.areturn, 1) := by decide +kernel
theorem dX8_stepsTo_0 : decode cX8_stepsTo 0 = .ok (.aload_n 0, 1) := by decide +kernel
theorem dX8_stepsTo_1 : decode cX8_stepsTo 1 = .ok (.getfield 22, 3) := by decide +kernel
theorem dX8_stepsTo_4 : decode cX8_stepsTo 4 = .ok (.iload_n 1, 1) := by decide +kernel
theorem dX8_stepsTo_5 : decode cX8_stepsTo 5 = .ok (.invokevirtual 83, 3) := by decide +kernel
theorem dX8_stepsTo_8 : decode cX8_stepsTo 8 = .ok (.ifCond .eq 12, 3) := by decide +kernel
theorem dX8_stepsTo_11 : decode cX8_stepsTo 11 = .ok (.aload_n 0, 1) := by decide +kernel
theorem dX8_stepsTo_12 : decode cX8_stepsTo 12 = .ok (.getfield 15, 3) := by decide +kernel
theorem dX8_stepsTo_15 : decode cX8_stepsTo 15 = .ok (.iload_n 1, 1) := by decide +kernel
theorem dX8_stepsTo_16 : decode cX8_stepsTo 16 = .ok (.iaload, 1) := by decide +kernel
theorem dX8_stepsTo_17 : decode cX8_stepsTo 17 = .ok (.goto 4, 3) := by decide +kernel
theorem dX8_stepsTo_20 : decode cX8_stepsTo 20 = .ok (.iconst (-1), 1) := by decide +kernel
theorem dX8_stepsTo_21 : decode cX8_stepsTo 21 = .ok (.ireturn, 1) := by decide +kernel
theorem dX8_findWay_0 : decode cX8_findWay 0 = .ok (.aload_n 0, 1) := by decide +kernel
theorem dX8_findWay_1 : decode cX8_findWay 1 = .ok (.aload_n 1, 1) := by decide +kernel
theorem dX8_findWay_2 : decode cX8_findWay 2 = .ok (.invokevirtual 61, 3) := by decide +kernel
theorem dX8_findWay_5 : decode cX8_findWay 5 = .ok (.iload_n 3, 1) := by decide +kernel
theorem dX8_findWay_6 : decode cX8_findWay 6 = .ok (.invokevirtual 64, 3) := by decide +kernel
theorem dX8_findWay_9 : decode cX8_findWay 9 = .ok (.pop, 1) := by decide +kernel
theorem dX8_findWay_10 : decode cX8_findWay 10 = .ok (.aload_n 0, 1) := by decide +kernel
theorem dX8_findWay_11 : decode cX8_findWay 11 = .ok (.getfield 22, 3) := by decide +kernel
theorem dX8_findWay_14 : decode cX8_findWay 14 = .ok (.iload_n 2, 1) := by decide +kernel
theorem dX8_findWay_15 : decode cX8_findWay 15 = .ok (.invokevirtual 83, 3) := by decide +kernel
theorem dX8_findWay_18 : decode cX8_findWay 18 = .ok (.ifCond .ne 5, 3) := by decide +kernel
theorem dX8_findWay_21 : decode cX8_findWay 21 = .ok (.iconst 0, 1) := by decide +kernel
theorem dX8_findWay_22 : decode cX8_findWay 22 = .ok (.ireturn, 1) := by decide +kernel
theorem dX8_findWay_23 : decode cX8_findWay 23 = .ok (.aload 4, 2) := by decide +kernel
theorem dX8_findWay_25 : decode cX8_findWay 25 = .ok (.invokevirtual 87, 3) := by decide +kernel
theorem dX8_findWay_28 : decode cX8_findWay 28 = .ok (.aload 4, 2) := by decide +kernel
theorem dX8_findWay_30 : decode cX8_findWay 30 = .ok (.aload_n 1, 1) := by decide +kernel
theorem dX8_findWay_31 : decode cX8_findWay 31 = .ok (.iload_n 2, 1) := by decide +kernel
theorem dX8_findWay_32 : decode cX8_findWay 32 = .ok (.invokevirtual 90, 3) := by decide +kernel
theorem dX8_findWay_35 : decode cX8_findWay 35 = .ok (.invokevirtual 93, 3) := by decide +kernel
theorem dX8_findWay_38 : decode cX8_findWay 38 = .ok (.iload_n 2, 1) := by decide +kernel
theorem dX8_findWay_39 : decode cX8_findWay 39 = .ok (.istore 5, 2) := by decide +kernel
theorem dX8_findWay_41 : decode cX8_findWay 41 = .ok (.aload_n 0, 1) := by decide +kernel
theorem dX8_findWay_42 : decode cX8_findWay 42 = .ok (.iload_n 2, 1) := by decide +kernel
theorem dX8_findWay_43 : decode cX8_findWay 43 = .ok (.invokevirtual 80, 3) := by decide +kernel
theorem dX8_findWay_46 : decode cX8_findWay 46 = .ok (.iconst 1, 1) := by decide +kernel
theorem dX8_findWay_47 : decode cX8_findWay 47 = .ok (.isub, 1) := by decide +kernel
theorem dX8_findWay_48 : decode cX8_findWay 48 = .ok (.istore 6, 2) := by decide +kernel
theorem dX8_findWay_50 : decode cX8_findWay 50 = .ok (.iload 6, 2) := by decide +kernel
theorem dX8_findWay_52 : decode cX8_findWay 52 = .ok (.ifCond .lt 31, 3) := by decide +kernel
theorem dX8_findWay_55 : decode cX8_findWay 55 = .ok (.aload_n 0, 1) := by decide +kernel
theorem dX8_findWay_56 : decode cX8_findWay 56 = .ok (.aload_n 1, 1) := by decide +kernel
theorem dX8_findWay_57 : decode cX8_findWay 57 = .ok (.iload 5, 2) := by decide +kernel
theorem dX8_findWay_59 : decode cX8_findWay 59 = .ok (.iload 6, 2) := by decide +kernel
theorem dX8_findWay_61 : decode cX8_findWay 61 = .ok (.invokevirtual 94, 3) := by decide +kernel
theorem dX8_findWay_64 : decode cX8_findWay 64 = .ok (.istore 5, 2) := by decide +kernel
theorem dX8_findWay_66 : decode cX8_findWay 66 = .ok (.aload 4, 2) := by decide +kernel
theorem dX8_findWay_68 : decode cX8_findWay 68 = .ok (.aload_n 1, 1) := by decide +kernel
theorem dX8_findWay_69 : decode cX8_findWay 69 = .ok (.iload 5, 2) := by decide +kernel
theorem dX8_findWay_71 : decode cX8_findWay 71 = .ok (.invokevirtual 90, 3) := by decide +kernel
theorem dX8_findWay_74 : decode cX8_findWay 74 = .ok (.invokevirtual 93, 3) := by decide +kernel
theorem dX8_findWay_77 : decode cX8_findWay 77 = .ok (.iinc 6 (-1), 3) := by decide +kernel
theorem dX8_findWay_80 : decode cX8_findWay 80 = .ok (.goto (-30), 3) := by decide +kernel
theorem dX8_findWay_83 : decode cX8_findWay 83 = .ok (.iconst 1, 1) := by decide +kernel
theorem dX8_findWay_84 : decode cX8_findWay 84 = .ok (.ireturn, 1) := by decide +kernel
theorem dX8_leastStep_0 : decode cX8_leastStep 0 = .ok (.aload_n 0, 1) := by decide +kernel
theorem dX8_leastStep_1 : decode cX8_leastStep 1 = .ok (.getfield 26, 3) := by decide +kernel
theorem dX8_leastStep_4 : decode cX8_leastStep 4 = .ok (.invokevirtual 45, 3) := by decide +kernel
theorem dX8_leastStep_7 : decode cX8_leastStep 7 = .ok (.aload_n 0, 1) := by decide +kernel
theorem dX8_leastStep_8 : decode cX8_leastStep 8 = .ok (.aload_n 1, 1) := by decide +kernel
theorem dX8_leastStep_9 : decode cX8_leastStep 9 = .ok (.invokevirtual 55, 3) := by decide +kernel
theorem dX8_leastStep_12 : decode cX8_leastStep 12 = .ok (.iload_n 2, 1) := by decide +kernel
theorem dX8_leastStep_13 : decode cX8_leastStep 13 = .ok (.aload_n 0, 1) := by decide +kernel
theorem dX8_leastStep_14 : decode cX8_leastStep 14 = .ok (.getfield 26, 3) := by decide +kernel
theorem dX8_leastStep_17 : decode cX8_leastStep 17 = .ok (.invokevirtual 48, 3) := by decide +kernel
theorem dX8_leastStep_20 : decode cX8_leastStep 20 = .ok (.iconst (-1), 1) := by decide +kernel
theorem dX8_leastStep_21 : decode cX8_leastStep 21 = .ok (.istore 4, 2) := by decide +kernel
theorem dX8_leastStep_23 : decode cX8_leastStep 23 = .ok (.iconst 0, 1) := by decide +kernel
theorem dX8_leastStep_24 : decode cX8_leastStep 24 = .ok (.istore 5, 2) := by decide +kernel
theorem dX8_leastStep_26 : decode cX8_leastStep 26 = .ok (.iload 5, 2) := by decide +kernel
theorem dX8_leastStep_28 : decode cX8_leastStep 28 = .ok (.aload_n 0, 1) := by decide +kernel
theorem dX8_leastStep_29 : decode cX8_leastStep 29 = .ok (.getfield 26, 3) := by decide +kernel
theorem dX8_leastStep_32 : decode cX8_leastStep 32 = .ok (.invokevirtual 52, 3) := by decide +kernel
theorem dX8_leastStep_35 : decode cX8_leastStep 35 = .ok (.if_icmp .ge 67, 3) := by decide +kernel
theorem dX8_leastStep_38 : decode cX8_leastStep 38 = .ok (.aload_n 0, 1) := by decide +kernel
theorem dX8_leastStep_39 : decode cX8_leastStep 39 = .ok (.getfield 26, 3) := by decide +kernel
theorem dX8_leastStep_42 : decode cX8_leastStep 42 = .ok (.iload 5, 2) := by decide +kernel
theorem dX8_leastStep_44 : decode cX8_leastStep 44 = .ok (.invokevirtual 72, 3) := by decide +kernel
theorem dX8_leastStep_47 : decode cX8_leastStep 47 = .ok (.istore 6, 2) := by decide +kernel
theorem dX8_leastStep_49 : decode cX8_leastStep 49 = .ok (.aload_n 0, 1) := by decide +kernel
theorem dX8_leastStep_50 : decode cX8_leastStep 50 = .ok (.iload 6, 2) := by decide +kernel
theorem dX8_leastStep_52 : decode cX8_leastStep 52 = .ok (.invokevirtual 80, 3) := by decide +kernel
theorem dX8_leastStep_55 : decode cX8_leastStep 55 = .ok (.iload_n 3, 1) := by decide +kernel
theorem dX8_leastStep_56 : decode cX8_leastStep 56 = .ok (.if_icmp .ne 7, 3) := by decide +kernel
theorem dX8_leastStep_59 : decode cX8_leastStep 59 = .ok (.iconst 1, 1) := by decide +kernel
theorem dX8_leastStep_60 : decode cX8_leastStep 60 = .ok (.goto 4, 3) := by decide +kernel
theorem dX8_leastStep_63 : decode cX8_leastStep 63 = .ok (.iconst 0, 1) := by decide +kernel
theorem dX8_leastStep_64 : decode cX8_leastStep 64 = .ok (.istore 7, 2) := by decide +kernel
theorem dX8_leastStep_66 : decode cX8_leastStep 66 = .ok (.iload 7, 2) := by decide +kernel
theorem dX8_leastStep_68 : decode cX8_leastStep 68 = .ok (.ifCond .eq 28, 3) := by decide +kernel
theorem dX8_leastStep_71 : decode cX8_leastStep 71 = .ok (.iload 4, 2) := by decide +kernel
theorem dX8_leastStep_73 : decode cX8_leastStep 73 = .ok (.iconst (-1), 1) := by decide +kernel
theorem dX8_leastStep_74 : decode cX8_leastStep 74 = .ok (.if_icmp .eq 18, 3) := by decide +kernel
theorem dX8_leastStep_77 : decode cX8_leastStep 77 = .ok (.aload_n 1, 1) := by decide +kernel
theorem dX8_leastStep_78 : decode cX8_leastStep 78 = .ok (.iload 6, 2) := by decide +kernel
theorem dX8_leastStep_80 : decode cX8_leastStep 80 = .ok (.invokevirtual 90, 3) := by decide +kernel
theorem dX8_leastStep_83 : decode cX8_leastStep 83 = .ok (.aload_n 1, 1) := by decide +kernel
theorem dX8_leastStep_84 : decode cX8_leastStep 84 = .ok (.iload 4, 2) := by decide +kernel
theorem dX8_leastStep_86 : decode cX8_leastStep 86 = .ok (.invokevirtual 90, 3) := by decide +kernel
theorem dX8_leastStep_89 : decode cX8_leastStep 89 = .ok (.if_icmp .ge 7, 3) := by decide +kernel
theorem dX8_leastStep_92 : decode cX8_leastStep 92 = .ok (.iload 6, 2) := by decide +kernel
theorem dX8_leastStep_94 : decode cX8_leastStep 94 = .ok (.istore 4, 2) := by decide +kernel
theorem dX8_leastStep_96 : decode cX8_leastStep 96 = .ok (.iinc 5 1, 3) := by decide +kernel
theorem dX8_leastStep_99 : decode cX8_leastStep 99 = .ok (.goto (-73), 3) := by decide +kernel
theorem dX8_leastStep_102 : decode cX8_leastStep 102 = .ok (.iload 4, 2) := by decide +kernel
theorem dX8_leastStep_104 : decode cX8_leastStep 104 = .ok (.ireturn, 1) := by decide +kernel
theorem dX8_noteSteps_0 : decode cX8_noteSteps 0 = .ok (.iload_n 1, 1) := by decide +kernel
theorem dX8_noteSteps_1 : decode cX8_noteSteps 1 = .ok (.istore_n 3, 1) := by decide +kernel
theorem dX8_noteSteps_2 : decode cX8_noteSteps 2 = .ok (.iload_n 3, 1) := by decide +kernel
theorem dX8_noteSteps_3 : decode cX8_noteSteps 3 = .ok (.aload_n 0, 1) := by decide +kernel
theorem dX8_noteSteps_4 : decode cX8_noteSteps 4 = .ok (.getfield 22, 3) := by decide +kernel
theorem dX8_noteSteps_7 : decode cX8_noteSteps 7 = .ok (.invokevirtual 52, 3) := by decide +kernel
theorem dX8_noteSteps_10 : decode cX8_noteSteps 10 = .ok (.if_icmp .ge 35, 3) := by decide +kernel
theorem dX8_noteSteps_13 : decode cX8_noteSteps 13 = .ok (.aload_n 0, 1) := by decide +kernel
theorem dX8_noteSteps_14 : decode cX8_noteSteps 14 = .ok (.getfield 22, 3) := by decide +kernel
theorem dX8_noteSteps_17 : decode cX8_noteSteps 17 = .ok (.iload_n 3, 1) := by decide +kernel
theorem dX8_noteSteps_18 : decode cX8_noteSteps 18 = .ok (.invokevirtual 72, 3) := by decide +kernel
theorem dX8_noteSteps_21 : decode cX8_noteSteps 21 = .ok (.istore 4, 2) := by decide +kernel
theorem dX8_noteSteps_23 : decode cX8_noteSteps 23 = .ok (.iload 4, 2) := by decide +kernel
theorem dX8_noteSteps_25 : decode cX8_noteSteps 25 = .ok (.invokestatic 98, 3) := by decide +kernel
theorem dX8_noteSteps_28 : decode cX8_noteSteps 28 = .ok (.ifCond .eq 11, 3) := by decide +kernel
theorem dX8_noteSteps_31 : decode cX8_noteSteps 31 = .ok (.aload_n 0, 1) := by decide +kernel
theorem dX8_noteSteps_32 : decode cX8_noteSteps 32 = .ok (.getfield 15, 3) := by decide +kernel
theorem dX8_noteSteps_35 : decode cX8_noteSteps 35 = .ok (.iload 4, 2) := by decide +kernel
theorem dX8_noteSteps_37 : decode cX8_noteSteps 37 = .ok (.iload_n 2, 1) := by decide +kernel
theorem dX8_noteSteps_38 : decode cX8_noteSteps 38 = .ok (.iastore, 1) := by decide +kernel
theorem dX8_noteSteps_39 : decode cX8_noteSteps 39 = .ok (.iinc 3 1, 3) := by decide +kernel
theorem dX8_noteSteps_42 : decode cX8_noteSteps 42 = .ok (.goto (-40), 3) := by decide +kernel
theorem dX8_noteSteps_45 : decode cX8_noteSteps 45 = .ok (.return_, 1) := by decide +kernel
theorem dX9_init_0 : decode cX9_init 0 = .ok (.aload_n 0, 1) := by decide +kernel
theorem dX9_init_1 : decode cX9_init 1 = .ok (.invokespecial 1, 3) := by decide +kernel
theorem dX9_init_4 : decode cX9_init 4 = .ok (.aload_n 0, 1) := by decide +kernel
theorem dX9_init_5 : decode cX9_init 5 = .ok (.new 7, 3) := by decide +kernel
theorem dX9_init_8 : decode cX9_init 8 = .ok (.dup, 1) := by decide +kernel
theorem dX9_init_9 : decode cX9_init 9 = .ok (.invokespecial 9, 3) := by decide +kernel
theorem dX9_init_12 : decode cX9_init 12 = .ok (.putfield 10, 3) := by decide +kernel
theorem dX9_init_15 : decode cX9_init 15 = .ok (.aload_n 0, 1) := by decide +kernel
theorem dX9_init_16 : decode cX9_init 16 = .ok (.new 16, 3) := by decide +kernel
theorem dX9_init_19 : decode cX9_init 19 = .ok (.dup, 1) := by decide +kernel
theorem dX9_init_20 : decode cX9_init 20 = .ok (.invokespecial 18, 3) := by decide +kernel
theorem dX9_init_23 : decode cX9_init 23 = .ok (.putfield 19, 3) := by decide +kernel
theorem dX9_init_26 : decode cX9_init 26 = .ok (.aload_n 0, 1) := by decide +kernel
theorem dX9_init_27 : decode cX9_init 27 = .ok (.new 23, 3) := by decide +kernel
theorem dX9_init_30 : decode cX9_init 30 = .ok (.dup, 1) := by decide +kernel
theorem dX9_init_31 : decode cX9_init 31 = .ok (.aload_n 0, 1) := by decide +kernel
theorem dX9_init_32 : decode cX9_init 32 = .ok (.getfield 10, 3) := by decide +kernel
theorem dX9_init_35 : decode cX9_init 35 = .ok (.invokespecial 25, 3) := by decide +kernel
theorem dX9_init_38 : decode cX9_init 38 = .ok (.putfield 28, 3) := by decide +kernel
theorem dX9_init_41 : decode cX9_init 41 = .ok (.aload_n 0, 1) := by decide +kernel
theorem dX9_init_42 : decode cX9_init 42 = .ok (.new 32, 3) := by decide +kernel
theorem dX9_init_45 : decode cX9_init 45 = .ok (.dup, 1) := by decide +kernel
theorem dX9_init_46 : decode cX9_init 46 = .ok (.aload_n 0, 1) := by decide +kernel
theorem dX9_init_47 : decode cX9_init 47 = .ok (.getfield 10, 3) := by decide +kernel
theorem dX9_init_50 : decode cX9_init 50 = .ok (.aload_n 0, 1) := by decide +kernel
theorem dX9_init_51 : decode cX9_init 51 = .ok (.getfield 28, 3) := by decide +kernel
theorem dX9_init_54 : decode cX9_init 54 = .ok (.invokespecial 34, 3) := by decide +kernel
theorem dX9_init_57 : decode cX9_init 57 = .ok (.putfield 37, 3) := by decide +kernel
theorem dX9_init_60 : decode cX9_init 60 = .ok (.aload_n 0, 1) := by decide +kernel
theorem dX9_init_61 : decode cX9_init 61 = .ok (.new 41, 3) := by decide +kernel
theorem dX9_init_64 : decode cX9_init 64 = .ok (.dup, 1) := by decide +kernel
theorem dX9_init_65 : decode cX9_init 65 = .ok (.aload_n 0, 1) := by decide +kernel
theorem dX9_init_66 : decode cX9_init 66 = .ok (.getfield 10, 3) := by decide +kernel
theorem dX9_init_69 : decode cX9_init 69 = .ok (.aload_n 0, 1) := by decide +kernel
theorem dX9_init_70 : decode cX9_init 70 = .ok (.getfield 28, 3) := by decide +kernel
theorem dX9_init_73 : decode cX9_init 73 = .ok (.invokespecial 43, 3) := by decide +kernel
theorem dX9_init_76 : decode cX9_init 76 = .ok (.putfield 44, 3) := by decide +kernel
theorem dX9_init_79 : decode cX9_init 79 = .ok (.aload_n 0, 1) := by decide +kernel
theorem dX9_init_80 : decode cX9_init 80 = .ok (.new 48, 3) := by decide +kernel
theorem dX9_init_83 : decode cX9_init 83 = .ok (.dup, 1) := by decide +kernel
theorem dX9_init_84 : decode cX9_init 84 = .ok (.aload_n 0, 1) := by decide +kernel
theorem dX9_init_85 : decode cX9_init 85 = .ok (.getfield 10, 3) := by decide +kernel
theorem dX9_init_88 : decode cX9_init 88 = .ok (.invokespecial 50, 3) := by decide +kernel
theorem dX9_init_91 : decode cX9_init 91 = .ok (.putfield 51, 3) := by decide +kernel
theorem dX9_init_94 : decode cX9_init 94 = .ok (.aload_n 0, 1) := by decide +kernel
theorem dX9_init_95 : decode cX9_init 95 = .ok (.bipush 12, 2) := by decide +kernel
theorem dX9_init_97 : decode cX9_init 97 = .ok (.anewarray 55, 3) := by decide +kernel
theorem dX9_init_100 : decode cX9_init 100 = .ok (.putfield 57, 3) := by decide +kernel
theorem dX9_init_103 : decode cX9_init 103 = .ok (.aload_n 0, 1) := by decide +kernel
theorem dX9_init_104 : decode cX9_init 104 = .ok (.new 55, 3) := by decide +kernel
theorem dX9_init_107 : decode cX9_init 107 = .ok (.dup, 1) := by decide +kernel
theorem dX9_init_108 : decode cX9_init 108 = .ok (.invokespecial 61, 3) := by decide +kernel
theorem dX9_init_111 : decode cX9_init 111 = .ok (.putfield 62, 3) := by decide +kernel
theorem dX9_init_114 : decode cX9_init 114 = .ok (.return_, 1) := by decide +kernel
theorem dX9_link_0 : decode cX9_link 0 = .ok (.iload_n 1, 1) := by decide +kernel
theorem dX9_link_1 : decode cX9_link 1 = .ok (.bipush 10, 2) := by decide +kernel
theorem dX9_link_3 : decode cX9_link 3 = .ok (.invokestatic 66, 3) := by decide +kernel
theorem dX9_link_6 : decode cX9_link 6 = .ok (.iload_n 2, 1) := by decide +kernel
theorem dX9_link_7 : decode cX9_link 7 = .ok (.bipush 10, 2) := by decide +kernel
theorem dX9_link_9 : decode cX9_link 9 = .ok (.invokestatic 66, 3) := by decide +kernel
theorem dX9_link_12 : decode cX9_link 12 = .ok (.iload_n 3, 1) := by decide +kernel
theorem dX9_link_13 : decode cX9_link 13 = .ok (.iconst 3, 1) := by decide +kernel
theorem dX9_link_14 : decode cX9_link 14 = .ok (.invokestatic 66, 3) := by decide +kernel
theorem dX9_link_17 : decode cX9_link 17 = .ok (.iload 4, 2) := by decide +kernel
theorem dX9_link_19 : decode cX9_link 19 = .ok (.iconst 3, 1) := by decide +kernel
theorem dX9_link_20 : decode cX9_link 20 = .ok (.invokestatic 66, 3) := by decide +kernel
theorem dX9_link_23 : decode cX9_link 23 = .ok (.aload_n 0, 1) := by decide +kernel
theorem dX9_link_24 : decode cX9_link 24 = .ok (.getfield 10, 3) := by decide +kernel
theorem dX9_link_27 : decode cX9_link 27 = .ok (.invokevirtual 70, 3) := by decide +kernel
theorem dX9_link_30 : decode cX9_link 30 = .ok (.bipush 10, 2) := by decide +kernel
theorem dX9_link_32 : decode cX9_link 32 = .ok (.if_icmp .lt 13, 3) := by decide +kernel
theorem dX9_link_35 : decode cX9_link 35 = .ok (.new 74, 3) := by decide +kernel
theorem dX9_link_38 : decode cX9_link 38 = .ok (.dup, 1) := by decide +kernel
theorem dX9_link_39 : decode cX9_link 39 = .ok (.ldc 76, 2) := by decide +kernel
theorem dX9_link_41 : decode cX9_link 41 = .ok (.invokespecial 78, 3) := by decide +kernel
theorem dX9_link_44 : decode cX9_link 44 = .ok (.athrow, 1) := by decide +kernel
theorem dX9_link_45 : decode cX9_link 45 = .ok (.aload_n 0, 1) := by decide +kernel
theorem dX9_link_46 : decode cX9_link 46 = .ok (.getfield 10, 3) := by decide +kernel
theorem dX9_link_49 : decode cX9_link 49 = .ok (.iload_n 1, 1) := by decide +kernel
theorem dX9_link_50 : decode cX9_link 50 = .ok (.iload_n 2, 1) := by decide +kernel
theorem dX9_link_51 : decode cX9_link 51 = .ok (.iload_n 3, 1) := by decide +kernel
theorem dX9_link_52 : decode cX9_link 52 = .ok (.iload 4, 2) := by decide +kernel
theorem dX9_link_54 : decode cX9_link 54 = .ok (.invokevirtual 81, 3) := by decide +kernel
theorem dX9_link_57 : decode cX9_link 57 = .ok (.ireturn, 1) := by decide +kernel
theorem dX9_make_0 : decode cX9_make 0 = .ok (.iload_n 1, 1) := by decide +kernel
theorem dX9_make_1 : decode cX9_make 1 = .ok (.bipush 10, 2) := by decide +kernel
theorem dX9_make_3 : decode cX9_make 3 = .ok (.invokestatic 66, 3) := by decide +kernel
theorem dX9_make_6 : decode cX9_make 6 = .ok (.aload_n 0, 1) := by decide +kernel
theorem dX9_make_7 : decode cX9_make 7 = .ok (.getfield 62, 3) := by decide +kernel
theorem dX9_make_10 : decode cX9_make 10 = .ok (.invokevirtual 85, 3) := by decide +kernel
theorem dX9_make_13 : decode cX9_make 13 = .ok (.bipush 100, 2) := by decide +kernel
theorem dX9_make_15 : decode cX9_make 15 = .ok (.if_icmp .lt 13, 3) := by decide +kernel
theorem dX9_make_18 : decode cX9_make 18 = .ok (.new 74, 3) := by decide +kernel
theorem dX9_make_21 : decode cX9_make 21 = .ok (.dup, 1) := by decide +kernel
theorem dX9_make_22 : decode cX9_make 22 = .ok (.ldc 88, 2) := by decide +kernel
theorem dX9_make_24 : decode cX9_make 24 = .ok (.invokespecial 78, 3) := by decide +kernel
theorem dX9_make_27 : decode cX9_make 27 = .ok (.athrow, 1) := by decide +kernel
theorem dX9_make_28 : decode cX9_make 28 = .ok (.aload_n 0, 1) := by decide +kernel
theorem dX9_make_29 : decode cX9_make 29 = .ok (.getfield 90, 3) := by decide +kernel
theorem dX9_make_32 : decode cX9_make 32 = .ok (.istore_n 2, 1) := by decide +kernel
theorem dX9_make_33 : decode cX9_make 33 = .ok (.aload_n 0, 1) := by decide +kernel
theorem dX9_make_34 : decode cX9_make 34 = .ok (.dup, 1) := by decide +kernel
theorem dX9_make_35 : decode cX9_make 35 = .ok (.getfield 90, 3) := by decide +kernel
theorem dX9_make_38 : decode cX9_make 38 = .ok (.iconst 1, 1) := by decide +kernel
theorem dX9_make_39 : decode cX9_make 39 = .ok (.iadd, 1) := by decide +kernel
theorem dX9_make_40 : decode cX9_make 40 = .ok (.putfield 90, 3) := by decide +kernel
theorem dX9_make_43 : decode cX9_make 43 = .ok (.aload_n 0, 1) := by decide +kernel
theorem dX9_make_44 : decode cX9_make 44 = .ok (.getfield 62, 3) := by decide +kernel
theorem dX9_make_47 : decode cX9_make 47 = .ok (.iload_n 2, 1) := by decide +kernel
theorem dX9_make_48 : decode cX9_make 48 = .ok (.iload_n 1, 1) := by decide +kernel
theorem dX9_make_49 : decode cX9_make 49 = .ok (.invokevirtual 94, 3) := by decide +kernel
theorem dX9_make_52 : decode cX9_make 52 = .ok (.pop, 1) := by decide +kernel
theorem dX9_make_53 : decode cX9_make 53 = .ok (.iload_n 2, 1) := by decide +kernel
theorem dX9_make_54 : decode cX9_make 54 = .ok (.ireturn, 1) := by decide +kernel
theorem dX9_set_0 : decode cX9_set 0 = .ok (.aload_n 0, 1) := by decide +kernel
theorem dX9_set_1 : decode cX9_set 1 = .ok (.iload_n 1, 1) := by decide +kernel
theorem dX9_set_2 : decode cX9_set 2 = .ok (.invokevirtual 98, 3) := by decide +kernel
theorem dX9_set_5 : decode cX9_set 5 = .ok (.iload 4, 2) := by decide +kernel
theorem dX9_set_7 : decode cX9_set 7 = .ok (.iconst (-1), 1) := by decide +kernel
theorem dX9_set_8 : decode cX9_set 8 = .ok (.if_icmp .ge 13, 3) := by decide +kernel
theorem dX9_set_11 : decode cX9_set 11 = .ok (.new 102, 3) := by decide +kernel
theorem dX9_set_14 : decode cX9_set 14 = .ok (.dup, 1) := by decide +kernel
theorem dX9_set_15 : decode cX9_set 15 = .ok (.ldc 104, 2) := by decide +kernel
theorem dX9_set_17 : decode cX9_set 17 = .ok (.invokespecial 106, 3) := by decide +kernel
theorem dX9_set_20 : decode cX9_set 20 = .ok (.athrow, 1) := by decide +kernel
theorem dX9_set_21 : decode cX9_set 21 = .ok (.aload_n 0, 1) := by decide +kernel
theorem dX9_set_22 : decode cX9_set 22 = .ok (.iload_n 2, 1) := by decide +kernel
theorem dX9_set_23 : decode cX9_set 23 = .ok (.invokevirtual 107, 3) := by decide +kernel
theorem dX9_set_26 : decode cX9_set 26 = .ok (.istore 5, 2) := by decide +kernel
theorem dX9_set_28 : decode cX9_set 28 = .ok (.aload_n 0, 1) := by decide +kernel
theorem dX9_set_29 : decode cX9_set 29 = .ok (.iload_n 3, 1) := by decide +kernel
theorem dX9_set_30 : decode cX9_set 30 = .ok (.invokevirtual 107, 3) := by decide +kernel
theorem dX9_set_33 : decode cX9_set 33 = .ok (.istore 6, 2) := by decide +kernel
theorem dX9_set_35 : decode cX9_set 35 = .ok (.aload_n 0, 1) := by decide +kernel
theorem dX9_set_36 : decode cX9_set 36 = .ok (.iload 5, 2) := by decide +kernel
theorem dX9_set_38 : decode cX9_set 38 = .ok (.aload_n 0, 1) := by decide +kernel
theorem dX9_set_39 : decode cX9_set 39 = .ok (.getfield 10, 3) := by decide +kernel
theorem dX9_set_42 : decode cX9_set 42 = .ok (.iload_n 1, 1) := by decide +kernel
theorem dX9_set_43 : decode cX9_set 43 = .ok (.invokevirtual 111, 3) := by decide +kernel
theorem dX9_set_46 : decode cX9_set 46 = .ok (.invokevirtual 114, 3) := by decide +kernel
theorem dX9_set_49 : decode cX9_set 49 = .ok (.aload_n 0, 1) := by decide +kernel
theorem dX9_set_50 : decode cX9_set 50 = .ok (.iload 6, 2) := by decide +kernel
theorem dX9_set_52 : decode cX9_set 52 = .ok (.aload_n 0, 1) := by decide +kernel
theorem dX9_set_53 : decode cX9_set 53 = .ok (.getfield 10, 3) := by decide +kernel
theorem dX9_set_56 : decode cX9_set 56 = .ok (.iload_n 1, 1) := by decide +kernel
theorem dX9_set_57 : decode cX9_set 57 = .ok (.invokevirtual 117, 3) := by decide +kernel
theorem dX9_set_60 : decode cX9_set 60 = .ok (.invokevirtual 114, 3) := by decide +kernel
theorem dX9_set_63 : decode cX9_set 63 = .ok (.aload_n 0, 1) := by decide +kernel
theorem dX9_set_64 : decode cX9_set 64 = .ok (.getfield 62, 3) := by decide +kernel
theorem dX9_set_67 : decode cX9_set 67 = .ok (.iload_n 1, 1) := by decide +kernel
theorem dX9_set_68 : decode cX9_set 68 = .ok (.iload 5, 2) := by decide +kernel
theorem dX9_set_70 : decode cX9_set 70 = .ok (.iload 6, 2) := by decide +kernel
theorem dX9_set_72 : decode cX9_set 72 = .ok (.invokevirtual 120, 3) := by decide +kernel
theorem dX9_set_75 : decode cX9_set 75 = .ok (.ifCond .eq 17, 3) := by decide +kernel
theorem dX9_set_78 : decode cX9_set 78 = .ok (.aload_n 0, 1) := by decide +kernel
theorem dX9_set_79 : decode cX9_set 79 = .ok (.iload_n 1, 1) := by decide +kernel
theorem dX9_set_80 : decode cX9_set 80 = .ok (.iload 5, 2) := by decide +kernel
theorem dX9_set_82 : decode cX9_set 82 = .ok (.iload 6, 2) := by decide +kernel
theorem dX9_set_84 : decode cX9_set 84 = .ok (.iload 4, 2) := by decide +kernel
theorem dX9_set_86 : decode cX9_set 86 = .ok (.invokevirtual 124, 3) := by decide +kernel
theorem dX9_set_89 : decode cX9_set 89 = .ok (.goto 58, 3) := by decide +kernel
theorem dX9_set_92 : decode cX9_set 92 = .ok (.aload_n 0, 1) := by decide +kernel
theorem dX9_set_93 : decode cX9_set 93 = .ok (.getfield 10, 3) := by decide +kernel
theorem dX9_set_96 : decode cX9_set 96 = .ok (.iload_n 1, 1) := by decide +kernel
theorem dX9_set_97 : decode cX9_set 97 = .ok (.iconst 1, 1) := by decide +kernel
theorem dX9_set_98 : decode cX9_set 98 = .ok (.invokevirtual 128, 3) := by decide +kernel
theorem dX9_set_101 : decode cX9_set 101 = .ok (.ifCond .eq 35, 3) := by decide +kernel
theorem dX9_set_104 : decode cX9_set 104 = .ok (.aload_n 0, 1) := by decide +kernel
theorem dX9_set_105 : decode cX9_set 105 = .ok (.getfield 28, 3) := by decide +kernel
theorem dX9_set_108 : decode cX9_set 108 = .ok (.aload_n 0, 1) := by decide +kernel
theorem dX9_set_109 : decode cX9_set 109 = .ok (.getfield 62, 3) := by decide +kernel
theorem dX9_set_112 : decode cX9_set 112 = .ok (.iload 6, 2) := by decide +kernel
theorem dX9_set_114 : decode cX9_set 114 = .ok (.iload 5, 2) := by decide +kernel
theorem dX9_set_116 : decode cX9_set 116 = .ok (.aload_n 0, 1) := by decide +kernel
theorem dX9_set_117 : decode cX9_set 117 = .ok (.getfield 19, 3) := by decide +kernel
theorem dX9_set_120 : decode cX9_set 120 = .ok (.invokevirtual 132, 3) := by decide +kernel
theorem dX9_set_123 : decode cX9_set 123 = .ok (.ifCond .eq 13, 3) := by decide +kernel
theorem dX9_set_126 : decode cX9_set 126 = .ok (.new 136, 3) := by decide +kernel
theorem dX9_set_129 : decode cX9_set 129 = .ok (.dup, 1) := by decide +kernel
theorem dX9_set_130 : decode cX9_set 130 = .ok (.ldc 138, 2) := by decide +kernel
theorem dX9_set_132 : decode cX9_set 132 = .ok (.invokespecial 140, 3) := by decide +kernel
theorem dX9_set_135 : decode cX9_set 135 = .ok (.athrow, 1) := by decide +kernel
theorem dX9_set_136 : decode cX9_set 136 = .ok (.aload_n 0, 1) := by decide +kernel
theorem dX9_set_137 : decode cX9_set 137 = .ok (.iload_n 1, 1) := by decide +kernel
theorem dX9_set_138 : decode cX9_set 138 = .ok (.iload 5, 2) := by decide +kernel
theorem dX9_set_140 : decode cX9_set 140 = .ok (.iload 6, 2) := by decide +kernel
theorem dX9_set_142 : decode cX9_set 142 = .ok (.iload 4, 2) := by decide +kernel
theorem dX9_set_144 : decode cX9_set 144 = .ok (.invokevirtual 141, 3) := by decide +kernel
theorem dX9_set_147 : decode cX9_set 147 = .ok (.aload_n 0, 1) := by decide +kernel
theorem dX9_set_148 : decode cX9_set 148 = .ok (.getfield 62, 3) := by decide +kernel
theorem dX9_set_151 : decode cX9_set 151 = .ok (.invokevirtual 144, 3) := by decide +kernel
theorem dX9_set_154 : decode cX9_set 154 = .ok (.iload_n 1, 1) := by decide +kernel
theorem dX9_set_155 : decode cX9_set 155 = .ok (.iload 5, 2) := by decide +kernel
theorem dX9_set_157 : decode cX9_set 157 = .ok (.invokevirtual 148, 3) := by decide +kernel
theorem dX9_set_160 : decode cX9_set 160 = .ok (.ireturn, 1) := by decide +kernel
theorem dX9_cut_0 : decode cX9_cut 0 = .ok (.aload_n 0, 1) := by decide +kernel
theorem dX9_cut_1 : decode cX9_cut 1 = .ok (.iload_n 1, 1) := by decide +kernel
theorem dX9_cut_2 : decode cX9_cut 2 = .ok (.invokevirtual 98, 3) := by decide +kernel
theorem dX9_cut_5 : decode cX9_cut 5 = .ok (.aload_n 0, 1) := by decide +kernel
theorem dX9_cut_6 : decode cX9_cut 6 = .ok (.iload_n 2, 1) := by decide +kernel
theorem dX9_cut_7 : decode cX9_cut 7 = .ok (.invokevirtual 107, 3) := by decide +kernel
theorem dX9_cut_10 : decode cX9_cut 10 = .ok (.istore 4, 2) := by decide +kernel
theorem dX9_cut_12 : decode cX9_cut 12 = .ok (.aload_n 0, 1) := by decide +kernel
theorem dX9_cut_13 : decode cX9_cut 13 = .ok (.iload_n 3, 1) := by decide +kernel
theorem dX9_cut_14 : decode cX9_cut 14 = .ok (.invokevirtual 107, 3) := by decide +kernel
theorem dX9_cut_17 : decode cX9_cut 17 = .ok (.istore 5, 2) := by decide +kernel
theorem dX9_cut_19 : decode cX9_cut 19 = .ok (.aload_n 0, 1) := by decide +kernel
theorem dX9_cut_20 : decode cX9_cut 20 = .ok (.iload 4, 2) := by decide +kernel
theorem dX9_cut_22 : decode cX9_cut 22 = .ok (.aload_n 0, 1) := by decide +kernel
theorem dX9_cut_23 : decode cX9_cut 23 = .ok (.getfield 10, 3) := by decide +kernel
theorem dX9_cut_26 : decode cX9_cut 26 = .ok (.iload_n 1, 1) := by decide +kernel
theorem dX9_cut_27 : decode cX9_cut 27 = .ok (.invokevirtual 111, 3) := by decide +kernel
theorem dX9_cut_30 : decode cX9_cut 30 = .ok (.invokevirtual 114, 3) := by decide +kernel
theorem dX9_cut_33 : decode cX9_cut 33 = .ok (.aload_n 0, 1) := by decide +kernel
theorem dX9_cut_34 : decode cX9_cut 34 = .ok (.iload 5, 2) := by decide +kernel
theorem dX9_cut_36 : decode cX9_cut 36 = .ok (.aload_n 0, 1) := by decide +kernel
theorem dX9_cut_37 : decode cX9_cut 37 = .ok (.getfield 10, 3) := by decide +kernel
theorem dX9_cut_40 : decode cX9_cut 40 = .ok (.iload_n 1, 1) := by decide +kernel
theorem dX9_cut_41 : decode cX9_cut 41 = .ok (.invokevirtual 117, 3) := by decide +kernel
theorem dX9_cut_44 : decode cX9_cut 44 = .ok (.invokevirtual 114, 3) := by decide +kernel
theorem dX9_cut_47 : decode cX9_cut 47 = .ok (.aload_n 0, 1) := by decide +kernel
theorem dX9_cut_48 : decode cX9_cut 48 = .ok (.getfield 62, 3) := by decide +kernel
theorem dX9_cut_51 : decode cX9_cut 51 = .ok (.iload_n 1, 1) := by decide +kernel
theorem dX9_cut_52 : decode cX9_cut 52 = .ok (.iload 4, 2) := by decide +kernel
theorem dX9_cut_54 : decode cX9_cut 54 = .ok (.iload 5, 2) := by decide +kernel
theorem dX9_cut_56 : decode cX9_cut 56 = .ok (.invokevirtual 153, 3) := by decide +kernel
theorem dX9_cut_59 : decode cX9_cut 59 = .ok (.ifCond .eq 7, 3) := by decide +kernel
theorem dX9_cut_62 : decode cX9_cut 62 = .ok (.iconst 1, 1) := by decide +kernel
theorem dX9_cut_63 : decode cX9_cut 63 = .ok (.goto 4, 3) := by decide +kernel
theorem dX9_cut_66 : decode cX9_cut 66 = .ok (.iconst 0, 1) := by decide +kernel
theorem dX9_cut_67 : decode cX9_cut 67 = .ok (.ireturn, 1) := by decide +kernel
theorem dX9_drop_0 : decode cX9_drop 0 = .ok (.aload_n 0, 1) := by decide +kernel
theorem dX9_drop_1 : decode cX9_drop 1 = .ok (.iload_n 1, 1) := by decide +kernel
theorem dX9_drop_2 : decode cX9_drop 2 = .ok (.invokevirtual 107, 3) := by decide +kernel
theorem dX9_drop_5 : decode cX9_drop 5 = .ok (.istore_n 2, 1) := by decide +kernel
theorem dX9_drop_6 : decode cX9_drop 6 = .ok (.aload_n 0, 1) := by decide +kernel
theorem dX9_drop_7 : decode cX9_drop 7 = .ok (.getfield 37, 3) := by decide +kernel
theorem dX9_drop_10 : decode cX9_drop 10 = .ok (.aload_n 0, 1) := by decide +kernel
theorem dX9_drop_11 : decode cX9_drop 11 = .ok (.getfield 62, 3) := by decide +kernel
theorem dX9_drop_14 : decode cX9_drop 14 = .ok (.iload_n 2, 1) := by decide +kernel
theorem dX9_drop_15 : decode cX9_drop 15 = .ok (.invokevirtual 156, 3) := by decide +kernel
theorem dX9_drop_18 : decode cX9_drop 18 = .ok (.aload_n 0, 1) := by decide +kernel
theorem dX9_drop_19 : decode cX9_drop 19 = .ok (.getfield 37, 3) := by decide +kernel
theorem dX9_drop_22 : decode cX9_drop 22 = .ok (.aload_n 0, 1) := by decide +kernel
theorem dX9_drop_23 : decode cX9_drop 23 = .ok (.getfield 62, 3) := by decide +kernel
theorem dX9_drop_26 : decode cX9_drop 26 = .ok (.iload_n 2, 1) := by decide +kernel
theorem dX9_drop_27 : decode cX9_drop 27 = .ok (.invokevirtual 160, 3) := by decide +kernel
theorem dX9_drop_30 : decode cX9_drop 30 = .ok (.istore_n 3, 1) := by decide +kernel
theorem dX9_drop_31 : decode cX9_drop 31 = .ok (.iload_n 3, 1) := by decide +kernel
theorem dX9_drop_32 : decode cX9_drop 32 = .ok (.iconst (-1), 1) := by decide +kernel
theorem dX9_drop_33 : decode cX9_drop 33 = .ok (.if_icmp .eq 57, 3) := by decide +kernel
theorem dX9_drop_36 : decode cX9_drop 36 = .ok (.aload_n 0, 1) := by decide +kernel
theorem dX9_drop_37 : decode cX9_drop 37 = .ok (.getfield 28, 3) := by decide +kernel
theorem dX9_drop_40 : decode cX9_drop 40 = .ok (.aload_n 0, 1) := by decide +kernel
theorem dX9_drop_41 : decode cX9_drop 41 = .ok (.getfield 62, 3) := by decide +kernel
theorem dX9_drop_44 : decode cX9_drop 44 = .ok (.iload_n 2, 1) := by decide +kernel
theorem dX9_drop_45 : decode cX9_drop 45 = .ok (.iload_n 3, 1) := by decide +kernel
theorem dX9_drop_46 : decode cX9_drop 46 = .ok (.aload_n 0, 1) := by decide +kernel
theorem dX9_drop_47 : decode cX9_drop 47 = .ok (.getfield 19, 3) := by decide +kernel
theorem dX9_drop_50 : decode cX9_drop 50 = .ok (.invokevirtual 132, 3) := by decide +kernel
theorem dX9_drop_53 : decode cX9_drop 53 = .ok (.pop, 1) := by decide +kernel
theorem dX9_drop_54 : decode cX9_drop 54 = .ok (.aload_n 0, 1) := by decide +kernel
theorem dX9_drop_55 : decode cX9_drop 55 = .ok (.getfield 19, 3) := by decide +kernel
theorem dX9_drop_58 : decode cX9_drop 58 = .ok (.aload_n 0, 1) := by decide +kernel
theorem dX9_drop_59 : decode cX9_drop 59 = .ok (.getfield 62, 3) := by decide +kernel
theorem dX9_drop_62 : decode cX9_drop 62 = .ok (.aload_n 0, 1) := by decide +kernel
theorem dX9_drop_63 : decode cX9_drop 63 = .ok (.getfield 37, 3) := by decide +kernel
theorem dX9_drop_66 : decode cX9_drop 66 = .ok (.aload_n 0, 1) := by decide +kernel
theorem dX9_drop_67 : decode cX9_drop 67 = .ok (.getfield 62, 3) := by decide +kernel
theorem dX9_drop_70 : decode cX9_drop 70 = .ok (.iload_n 3, 1) := by decide +kernel
theorem dX9_drop_71 : decode cX9_drop 71 = .ok (.invokevirtual 164, 3) := by decide +kernel
theorem dX9_drop_74 : decode cX9_drop 74 = .ok (.invokevirtual 167, 3) := by decide +kernel
theorem dX9_drop_77 : decode cX9_drop 77 = .ok (.invokevirtual 170, 3) := by decide +kernel
theorem dX9_drop_80 : decode cX9_drop 80 = .ok (.new 74, 3) := by decide +kernel
theorem dX9_drop_83 : decode cX9_drop 83 = .ok (.dup, 1) := by decide +kernel
theorem dX9_drop_84 : decode cX9_drop 84 = .ok (.ldc 173, 2) := by decide +kernel
theorem dX9_drop_86 : decode cX9_drop 86 = .ok (.invokespecial 78, 3) := by decide +kernel
theorem dX9_drop_89 : decode cX9_drop 89 = .ok (.athrow, 1) := by decide +kernel
theorem dX9_drop_90 : decode cX9_drop 90 = .ok (.aload_n 0, 1) := by decide +kernel
theorem dX9_drop_91 : decode cX9_drop 91 = .ok (.getfield 37, 3) := by decide +kernel
theorem dX9_drop_94 : decode cX9_drop 94 = .ok (.aload_n 0, 1) := by decide +kernel
theorem dX9_drop_95 : decode cX9_drop 95 = .ok (.getfield 62, 3) := by decide +kernel
theorem dX9_drop_98 : decode cX9_drop 98 = .ok (.invokevirtual 175, 3) := by decide +kernel
theorem dX9_drop_101 : decode cX9_drop 101 = .ok (.ireturn, 1) := by decide +kernel
theorem dX9_copy_0 : decode cX9_copy 0 = .ok (.aload_n 0, 1) := by decide +kernel
theorem dX9_copy_1 : decode cX9_copy 1 = .ok (.iload_n 1, 1) := by decide +kernel
theorem dX9_copy_2 : decode cX9_copy 2 = .ok (.invokevirtual 107, 3) := by decide +kernel
theorem dX9_copy_5 : decode cX9_copy 5 = .ok (.istore_n 2, 1) := by decide +kernel
theorem dX9_copy_6 : decode cX9_copy 6 = .ok (.aload_n 0, 1) := by decide +kernel
theorem dX9_copy_7 : decode cX9_copy 7 = .ok (.getfield 44, 3) := by decide +kernel
theorem dX9_copy_10 : decode cX9_copy 10 = .ok (.aload_n 0, 1) := by decide +kernel
theorem dX9_copy_11 : decode cX9_copy 11 = .ok (.getfield 62, 3) := by decide +kernel
theorem dX9_copy_14 : decode cX9_copy 14 = .ok (.iload_n 2, 1) := by decide +kernel
theorem dX9_copy_15 : decode cX9_copy 15 = .ok (.invokevirtual 179, 3) := by decide +kernel
theorem dX9_copy_18 : decode cX9_copy 18 = .ok (.aload_n 0, 1) := by decide +kernel
theorem dX9_copy_19 : decode cX9_copy 19 = .ok (.getfield 44, 3) := by decide +kernel
theorem dX9_copy_22 : decode cX9_copy 22 = .ok (.aload_n 0, 1) := by decide +kernel
theorem dX9_copy_23 : decode cX9_copy 23 = .ok (.getfield 62, 3) := by decide +kernel
