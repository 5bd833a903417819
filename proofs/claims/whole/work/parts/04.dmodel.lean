theorem dX8_init_0 : decode cX8_init 0 = .ok (.aload_n 0, 1) := by decide +kernel
theorem dX8_init_1 : decode cX8_init 1 = .ok (.invokespecial 1, 3) := by decide +kernel
theorem dX8_init_4 : decode cX8_init 4 = .ok (.aload_n 0, 1) := by decide +kernel
theorem dX8_init_5 : decode cX8_init 5 = .ok (.sipush 218, 3) := by decide +kernel
theorem dX8_init_8 : decode cX8_init 8 = .ok (.newarray .int, 2) := by decide +kernel
theorem dX8_init_10 : decode cX8_init 10 = .ok (.putfield 7, 3) := by decide +kernel
theorem dX8_init_13 : decode cX8_init 13 = .ok (.aload_n 0, 1) := by decide +kernel
theorem dX8_init_14 : decode cX8_init 14 = .ok (.sipush 436, 3) := by decide +kernel
theorem dX8_init_17 : decode cX8_init 17 = .ok (.newarray .int, 2) := by decide +kernel
theorem dX8_init_19 : decode cX8_init 19 = .ok (.putfield 13, 3) := by decide +kernel
theorem dX8_init_22 : decode cX8_init 22 = .ok (.aload_n 0, 1) := by decide +kernel
theorem dX8_init_23 : decode cX8_init 23 = .ok (.iconst 2, 1) := by decide +kernel
theorem dX8_init_24 : decode cX8_init 24 = .ok (.newarray .boolean, 2) := by decide +kernel
theorem dX8_init_26 : decode cX8_init 26 = .ok (.putfield 16, 3) := by decide +kernel
theorem dX8_init_29 : decode cX8_init 29 = .ok (.aload_n 0, 1) := by decide +kernel
theorem dX8_init_30 : decode cX8_init 30 = .ok (.iconst 3, 1) := by decide +kernel
theorem dX8_init_31 : decode cX8_init 31 = .ok (.newarray .int, 2) := by decide +kernel
theorem dX8_init_33 : decode cX8_init 33 = .ok (.putfield 20, 3) := by decide +kernel
theorem dX8_init_36 : decode cX8_init 36 = .ok (.aload_n 0, 1) := by decide +kernel
theorem dX8_init_37 : decode cX8_init 37 = .ok (.lconst 1, 1) := by decide +kernel
theorem dX8_init_38 : decode cX8_init 38 = .ok (.putfield 23, 3) := by decide +kernel
theorem dX8_init_41 : decode cX8_init 41 = .ok (.aload_n 0, 1) := by decide +kernel
theorem dX8_init_42 : decode cX8_init 42 = .ok (.bipush 16, 2) := by decide +kernel
theorem dX8_init_44 : decode cX8_init 44 = .ok (.newarray .int, 2) := by decide +kernel
theorem dX8_init_46 : decode cX8_init 46 = .ok (.putfield 27, 3) := by decide +kernel
theorem dX8_init_49 : decode cX8_init 49 = .ok (.aload_n 0, 1) := by decide +kernel
theorem dX8_init_50 : decode cX8_init 50 = .ok (.iconst 4, 1) := by decide +kernel
theorem dX8_init_51 : decode cX8_init 51 = .ok (.newarray .int, 2) := by decide +kernel
theorem dX8_init_53 : decode cX8_init 53 = .ok (.putfield 30, 3) := by decide +kernel
theorem dX8_init_56 : decode cX8_init 56 = .ok (.aload_n 0, 1) := by decide +kernel
theorem dX8_init_57 : decode cX8_init 57 = .ok (.iconst 4, 1) := by decide +kernel
theorem dX8_init_58 : decode cX8_init 58 = .ok (.newarray .int, 2) := by decide +kernel
theorem dX8_init_60 : decode cX8_init 60 = .ok (.putfield 33, 3) := by decide +kernel
theorem dX8_init_63 : decode cX8_init 63 = .ok (.aload_n 0, 1) := by decide +kernel
theorem dX8_init_64 : decode cX8_init 64 = .ok (.bipush 21, 2) := by decide +kernel
theorem dX8_init_66 : decode cX8_init 66 = .ok (.newarray .int, 2) := by decide +kernel
theorem dX8_init_68 : decode cX8_init 68 = .ok (.putfield 36, 3) := by decide +kernel
theorem dX8_init_71 : decode cX8_init 71 = .ok (.aload_n 0, 1) := by decide +kernel
theorem dX8_init_72 : decode cX8_init 72 = .ok (.sipush 150, 3) := by decide +kernel
theorem dX8_init_75 : decode cX8_init 75 = .ok (.newarray .int, 2) := by decide +kernel
theorem dX8_init_77 : decode cX8_init 77 = .ok (.putfield 39, 3) := by decide +kernel
theorem dX8_init_80 : decode cX8_init 80 = .ok (.aload_n 0, 1) := by decide +kernel
theorem dX8_init_81 : decode cX8_init 81 = .ok (.bipush 74, 2) := by decide +kernel
theorem dX8_init_83 : decode cX8_init 83 = .ok (.newarray .int, 2) := by decide +kernel
theorem dX8_init_85 : decode cX8_init 85 = .ok (.putfield 42, 3) := by decide +kernel
theorem dX8_init_88 : decode cX8_init 88 = .ok (.aload_n 0, 1) := by decide +kernel
theorem dX8_init_89 : decode cX8_init 89 = .ok (.iconst 5, 1) := by decide +kernel
theorem dX8_init_90 : decode cX8_init 90 = .ok (.newarray .int, 2) := by decide +kernel
theorem dX8_init_92 : decode cX8_init 92 = .ok (.putfield 45, 3) := by decide +kernel
theorem dX8_init_95 : decode cX8_init 95 = .ok (.aload_n 0, 1) := by decide +kernel
theorem dX8_init_96 : decode cX8_init 96 = .ok (.getfield 7, 3) := by decide +kernel
theorem dX8_init_99 : decode cX8_init 99 = .ok (.iconst 0, 1) := by decide +kernel
theorem dX8_init_100 : decode cX8_init 100 = .ok (.invokestatic 48, 3) := by decide +kernel
theorem dX8_init_103 : decode cX8_init 103 = .ok (.return_, 1) := by decide +kernel
theorem dX8_in_0 : decode cX8_in 0 = .ok (.lload_n 0, 1) := by decide +kernel
theorem dX8_in_1 : decode cX8_in 1 = .ok (.lload_n 2, 1) := by decide +kernel
theorem dX8_in_2 : decode cX8_in 2 = .ok (.lcmp, 1) := by decide +kernel
theorem dX8_in_3 : decode cX8_in 3 = .ok (.ifCond .lt 14, 3) := by decide +kernel
theorem dX8_in_6 : decode cX8_in 6 = .ok (.lload_n 0, 1) := by decide +kernel
theorem dX8_in_7 : decode cX8_in 7 = .ok (.lload 4, 2) := by decide +kernel
theorem dX8_in_9 : decode cX8_in 9 = .ok (.lcmp, 1) := by decide +kernel
theorem dX8_in_10 : decode cX8_in 10 = .ok (.ifCond .gt 7, 3) := by decide +kernel
theorem dX8_in_13 : decode cX8_in 13 = .ok (.iconst 1, 1) := by decide +kernel
theorem dX8_in_14 : decode cX8_in 14 = .ok (.goto 4, 3) := by decide +kernel
theorem dX8_in_17 : decode cX8_in 17 = .ok (.iconst 0, 1) := by decide +kernel
theorem dX8_in_18 : decode cX8_in 18 = .ok (.ireturn, 1) := by decide +kernel
theorem dX8_bad_0 : decode cX8_bad 0 = .ok (.aload_n 0, 1) := by decide +kernel
theorem dX8_bad_1 : decode cX8_bad 1 = .ok (.getfield 20, 3) := by decide +kernel
theorem dX8_bad_4 : decode cX8_bad 4 = .ok (.iconst 0, 1) := by decide +kernel
theorem dX8_bad_5 : decode cX8_bad 5 = .ok (.dup2, 1) := by decide +kernel
theorem dX8_bad_6 : decode cX8_bad 6 = .ok (.iaload, 1) := by decide +kernel
theorem dX8_bad_7 : decode cX8_bad 7 = .ok (.iconst 1, 1) := by decide +kernel
theorem dX8_bad_8 : decode cX8_bad 8 = .ok (.iadd, 1) := by decide +kernel
theorem dX8_bad_9 : decode cX8_bad 9 = .ok (.iastore, 1) := by decide +kernel
theorem dX8_bad_10 : decode cX8_bad 10 = .ok (.iload_n 1, 1) := by decide +kernel
theorem dX8_bad_11 : decode cX8_bad 11 = .ok (.ireturn, 1) := by decide +kernel
theorem dX8_no_0 : decode cX8_no 0 = .ok (.aload_n 0, 1) := by decide +kernel
theorem dX8_no_1 : decode cX8_no 1 = .ok (.getfield 20, 3) := by decide +kernel
theorem dX8_no_4 : decode cX8_no 4 = .ok (.iconst 1, 1) := by decide +kernel
theorem dX8_no_5 : decode cX8_no 5 = .ok (.dup2, 1) := by decide +kernel
theorem dX8_no_6 : decode cX8_no 6 = .ok (.iaload, 1) := by decide +kernel
theorem dX8_no_7 : decode cX8_no 7 = .ok (.iconst 1, 1) := by decide +kernel
theorem dX8_no_8 : decode cX8_no 8 = .ok (.iadd, 1) := by decide +kernel
theorem dX8_no_9 : decode cX8_no 9 = .ok (.iastore, 1) := by decide +kernel
theorem dX8_no_10 : decode cX8_no 10 = .ok (.bipush (-3), 2) := by decide +kernel
theorem dX8_no_12 : decode cX8_no 12 = .ok (.ireturn, 1) := by decide +kernel
theorem dX8_full_0 : decode cX8_full 0 = .ok (.aload_n 0, 1) := by decide +kernel
theorem dX8_full_1 : decode cX8_full 1 = .ok (.getfield 20, 3) := by decide +kernel
theorem dX8_full_4 : decode cX8_full 4 = .ok (.iconst 2, 1) := by decide +kernel
theorem dX8_full_5 : decode cX8_full 5 = .ok (.dup2, 1) := by decide +kernel
theorem dX8_full_6 : decode cX8_full 6 = .ok (.iaload, 1) := by decide +kernel
theorem dX8_full_7 : decode cX8_full 7 = .ok (.iconst 1, 1) := by decide +kernel
theorem dX8_full_8 : decode cX8_full 8 = .ok (.iadd, 1) := by decide +kernel
theorem dX8_full_9 : decode cX8_full 9 = .ok (.iastore, 1) := by decide +kernel
theorem dX8_full_10 : decode cX8_full 10 = .ok (.bipush (-4), 2) := by decide +kernel
theorem dX8_full_12 : decode cX8_full 12 = .ok (.ireturn, 1) := by decide +kernel
theorem dX8_has_0 : decode cX8_has 0 = .ok (.iload_n 0, 1) := by decide +kernel
theorem dX8_has_1 : decode cX8_has 1 = .ok (.iload_n 1, 1) := by decide +kernel
theorem dX8_has_2 : decode cX8_has 2 = .ok (.ishr, 1) := by decide +kernel
theorem dX8_has_3 : decode cX8_has 3 = .ok (.iconst 1, 1) := by decide +kernel
theorem dX8_has_4 : decode cX8_has 4 = .ok (.iand, 1) := by decide +kernel
theorem dX8_has_5 : decode cX8_has 5 = .ok (.iconst 1, 1) := by decide +kernel
theorem dX8_has_6 : decode cX8_has 6 = .ok (.if_icmp .ne 7, 3) := by decide +kernel
theorem dX8_has_9 : decode cX8_has 9 = .ok (.iconst 1, 1) := by decide +kernel
theorem dX8_has_10 : decode cX8_has 10 = .ok (.goto 4, 3) := by decide +kernel
theorem dX8_has_13 : decode cX8_has 13 = .ok (.iconst 0, 1) := by decide +kernel
theorem dX8_has_14 : decode cX8_has 14 = .ok (.ireturn, 1) := by decide +kernel
theorem dX8_begin_0 : decode cX8_begin 0 = .ok (.iconst 0, 1) := by decide +kernel
theorem dX8_begin_1 : decode cX8_begin 1 = .ok (.istore_n 2, 1) := by decide +kernel
theorem dX8_begin_2 : decode cX8_begin 2 = .ok (.iload_n 2, 1) := by decide +kernel
theorem dX8_begin_3 : decode cX8_begin 3 = .ok (.bipush 74, 2) := by decide +kernel
theorem dX8_begin_5 : decode cX8_begin 5 = .ok (.if_icmp .ge 13, 3) := by decide +kernel
theorem dX8_begin_8 : decode cX8_begin 8 = .ok (.aload_n 0, 1) := by decide +kernel
theorem dX8_begin_9 : decode cX8_begin 9 = .ok (.iload_n 2, 1) := by decide +kernel
theorem dX8_begin_10 : decode cX8_begin 10 = .ok (.iconst 0, 1) := by decide +kernel
theorem dX8_begin_11 : decode cX8_begin 11 = .ok (.iastore, 1) := by decide +kernel
theorem dX8_begin_12 : decode cX8_begin 12 = .ok (.iinc 2 1, 3) := by decide +kernel
theorem dX8_begin_15 : decode cX8_begin 15 = .ok (.goto (-13), 3) := by decide +kernel
theorem dX8_begin_18 : decode cX8_begin 18 = .ok (.aload_n 0, 1) := by decide +kernel
theorem dX8_begin_19 : decode cX8_begin 19 = .ok (.bipush 21, 2) := by decide +kernel
theorem dX8_begin_21 : decode cX8_begin 21 = .ok (.iload_n 1, 1) := by decide +kernel
theorem dX8_begin_22 : decode cX8_begin 22 = .ok (.iastore, 1) := by decide +kernel
theorem dX8_begin_23 : decode cX8_begin 23 = .ok (.return_, 1) := by decide +kernel
theorem dX8_many_0 : decode cX8_many 0 = .ok (.aload_n 0, 1) := by decide +kernel
theorem dX8_many_1 : decode cX8_many 1 = .ok (.getfield 7, 3) := by decide +kernel
theorem dX8_many_4 : decode cX8_many 4 = .ok (.iconst 0, 1) := by decide +kernel
theorem dX8_many_5 : decode cX8_many 5 = .ok (.iaload, 1) := by decide +kernel
theorem dX8_many_6 : decode cX8_many 6 = .ok (.ireturn, 1) := by decide +kernel
theorem dX8_isAnvil_0 : decode cX8_isAnvil 0 = .ok (.iload_n 1, 1) := by decide +kernel
theorem dX8_isAnvil_1 : decode cX8_isAnvil 1 = .ok (.i2l, 1) := by decide +kernel
theorem dX8_isAnvil_2 : decode cX8_isAnvil 2 = .ok (.lconst 0, 1) := by decide +kernel
theorem dX8_isAnvil_3 : decode cX8_isAnvil 3 = .ok (.aload_n 0, 1) := by decide +kernel
theorem dX8_isAnvil_4 : decode cX8_isAnvil 4 = .ok (.invokevirtual 52, 3) := by decide +kernel
theorem dX8_isAnvil_7 : decode cX8_isAnvil 7 = .ok (.iconst 1, 1) := by decide +kernel
theorem dX8_isAnvil_8 : decode cX8_isAnvil 8 = .ok (.isub, 1) := by decide +kernel
theorem dX8_isAnvil_9 : decode cX8_isAnvil 9 = .ok (.i2l, 1) := by decide +kernel
theorem dX8_isAnvil_10 : decode cX8_isAnvil 10 = .ok (.invokestatic 56, 3) := by decide +kernel
theorem dX8_isAnvil_13 : decode cX8_isAnvil 13 = .ok (.ireturn, 1) := by decide +kernel
theorem dX8_isTemper_0 : decode cX8_isTemper 0 = .ok (.iload_n 0, 1) := by decide +kernel
theorem dX8_isTemper_1 : decode cX8_isTemper 1 = .ok (.i2l, 1) := by decide +kernel
theorem dX8_isTemper_2 : decode cX8_isTemper 2 = .ok (.lconst 0, 1) := by decide +kernel
theorem dX8_isTemper_3 : decode cX8_isTemper 3 = .ok (.ldc2_w 60, 3) := by decide +kernel
theorem dX8_isTemper_6 : decode cX8_isTemper 6 = .ok (.invokestatic 56, 3) := by decide +kernel
theorem dX8_isTemper_9 : decode cX8_isTemper 9 = .ok (.ireturn, 1) := by decide +kernel
theorem dX8_isMemory_0 : decode cX8_isMemory 0 = .ok (.iload_n 0, 1) := by decide +kernel
theorem dX8_isMemory_1 : decode cX8_isMemory 1 = .ok (.i2l, 1) := by decide +kernel
theorem dX8_isMemory_2 : decode cX8_isMemory 2 = .ok (.lconst 0, 1) := by decide +kernel
theorem dX8_isMemory_3 : decode cX8_isMemory 3 = .ok (.ldc2_w 62, 3) := by decide +kernel
theorem dX8_isMemory_6 : decode cX8_isMemory 6 = .ok (.invokestatic 56, 3) := by decide +kernel
theorem dX8_isMemory_9 : decode cX8_isMemory 9 = .ok (.ireturn, 1) := by decide +kernel
theorem dX8_street_0 : decode cX8_street 0 = .ok (.iload_n 1, 1) := by decide +kernel
theorem dX8_street_1 : decode cX8_street 1 = .ok (.i2l, 1) := by decide +kernel
theorem dX8_street_2 : decode cX8_street 2 = .ok (.lconst 0, 1) := by decide +kernel
theorem dX8_street_3 : decode cX8_street 3 = .ok (.ldc2_w 64, 3) := by decide +kernel
theorem dX8_street_6 : decode cX8_street 6 = .ok (.invokestatic 56, 3) := by decide +kernel
theorem dX8_street_9 : decode cX8_street 9 = .ok (.ifCond .ne 10, 3) := by decide +kernel
theorem dX8_street_12 : decode cX8_street 12 = .ok (.aload_n 0, 1) := by decide +kernel
theorem dX8_street_13 : decode cX8_street 13 = .ok (.bipush (-2), 2) := by decide +kernel
theorem dX8_street_15 : decode cX8_street 15 = .ok (.invokevirtual 66, 3) := by decide +kernel
theorem dX8_street_18 : decode cX8_street 18 = .ok (.ireturn, 1) := by decide +kernel
theorem dX8_street_19 : decode cX8_street 19 = .ok (.aload_n 0, 1) := by decide +kernel
theorem dX8_street_20 : decode cX8_street 20 = .ok (.invokevirtual 52, 3) := by decide +kernel
theorem dX8_street_23 : decode cX8_street 23 = .ok (.istore_n 2, 1) := by decide +kernel
theorem dX8_street_24 : decode cX8_street 24 = .ok (.aload_n 0, 1) := by decide +kernel
theorem dX8_street_25 : decode cX8_street 25 = .ok (.getfield 7, 3) := by decide +kernel
theorem dX8_street_28 : decode cX8_street 28 = .ok (.iload_n 1, 1) := by decide +kernel
theorem dX8_street_29 : decode cX8_street 29 = .ok (.invokestatic 48, 3) := by decide +kernel
theorem dX8_street_32 : decode cX8_street 32 = .ok (.iload_n 2, 1) := by decide +kernel
theorem dX8_street_33 : decode cX8_street 33 = .ok (.ireturn, 1) := by decide +kernel
theorem dX8_layAnvil_0 : decode cX8_layAnvil 0 = .ok (.iconst 4, 1) := by decide +kernel
theorem dX8_layAnvil_1 : decode cX8_layAnvil 1 = .ok (.iconst 4, 1) := by decide +kernel
theorem dX8_layAnvil_2 : decode cX8_layAnvil 2 = .ok (.aload_n 0, 1) := by decide +kernel
theorem dX8_layAnvil_3 : decode cX8_layAnvil 3 = .ok (.iconst 0, 1) := by decide +kernel
theorem dX8_layAnvil_4 : decode cX8_layAnvil 4 = .ok (.iaload, 1) := by decide +kernel
theorem dX8_layAnvil_5 : decode cX8_layAnvil 5 = .ok (.imul, 1) := by decide +kernel
theorem dX8_layAnvil_6 : decode cX8_layAnvil 6 = .ok (.iadd, 1) := by decide +kernel
theorem dX8_layAnvil_7 : decode cX8_layAnvil 7 = .ok (.istore 6, 2) := by decide +kernel
theorem dX8_layAnvil_9 : decode cX8_layAnvil 9 = .ok (.aload_n 0, 1) := by decide +kernel
theorem dX8_layAnvil_10 : decode cX8_layAnvil 10 = .ok (.bipush 22, 2) := by decide +kernel
theorem dX8_layAnvil_12 : decode cX8_layAnvil 12 = .ok (.aload_n 0, 1) := by decide +kernel
theorem dX8_layAnvil_13 : decode cX8_layAnvil 13 = .ok (.iconst 0, 1) := by decide +kernel
theorem dX8_layAnvil_14 : decode cX8_layAnvil 14 = .ok (.iaload, 1) := by decide +kernel
theorem dX8_layAnvil_15 : decode cX8_layAnvil 15 = .ok (.iadd, 1) := by decide +kernel
theorem dX8_layAnvil_16 : decode cX8_layAnvil 16 = .ok (.iload_n 1, 1) := by decide +kernel
theorem dX8_layAnvil_17 : decode cX8_layAnvil 17 = .ok (.iastore, 1) := by decide +kernel
theorem dX8_layAnvil_18 : decode cX8_layAnvil 18 = .ok (.aload_n 0, 1) := by decide +kernel
theorem dX8_layAnvil_19 : decode cX8_layAnvil 19 = .ok (.iload 6, 2) := by decide +kernel
theorem dX8_layAnvil_21 : decode cX8_layAnvil 21 = .ok (.iload_n 2, 1) := by decide +kernel
theorem dX8_layAnvil_22 : decode cX8_layAnvil 22 = .ok (.iastore, 1) := by decide +kernel
theorem dX8_layAnvil_23 : decode cX8_layAnvil 23 = .ok (.aload_n 0, 1) := by decide +kernel
theorem dX8_layAnvil_24 : decode cX8_layAnvil 24 = .ok (.iload 6, 2) := by decide +kernel
theorem dX8_layAnvil_26 : decode cX8_layAnvil 26 = .ok (.iconst 1, 1) := by decide +kernel
theorem dX8_layAnvil_27 : decode cX8_layAnvil 27 = .ok (.iadd, 1) := by decide +kernel
theorem dX8_layAnvil_28 : decode cX8_layAnvil 28 = .ok (.iload_n 3, 1) := by decide +kernel
theorem dX8_layAnvil_29 : decode cX8_layAnvil 29 = .ok (.iastore, 1) := by decide +kernel
theorem dX8_layAnvil_30 : decode cX8_layAnvil 30 = .ok (.aload_n 0, 1) := by decide +kernel
theorem dX8_layAnvil_31 : decode cX8_layAnvil 31 = .ok (.iload 6, 2) := by decide +kernel
theorem dX8_layAnvil_33 : decode cX8_layAnvil 33 = .ok (.iconst 2, 1) := by decide +kernel
theorem dX8_layAnvil_34 : decode cX8_layAnvil 34 = .ok (.iadd, 1) := by decide +kernel
theorem dX8_layAnvil_35 : decode cX8_layAnvil 35 = .ok (.iload 4, 2) := by decide +kernel
theorem dX8_layAnvil_37 : decode cX8_layAnvil 37 = .ok (.iastore, 1) := by decide +kernel
theorem dX8_layAnvil_38 : decode cX8_layAnvil 38 = .ok (.aload_n 0, 1) := by decide +kernel
theorem dX8_layAnvil_39 : decode cX8_layAnvil 39 = .ok (.iload 6, 2) := by decide +kernel
theorem dX8_layAnvil_41 : decode cX8_layAnvil 41 = .ok (.iconst 3, 1) := by decide +kernel
theorem dX8_layAnvil_42 : decode cX8_layAnvil 42 = .ok (.iadd, 1) := by decide +kernel
theorem dX8_layAnvil_43 : decode cX8_layAnvil 43 = .ok (.iload 5, 2) := by decide +kernel
theorem dX8_layAnvil_45 : decode cX8_layAnvil 45 = .ok (.iastore, 1) := by decide +kernel
theorem dX8_layAnvil_46 : decode cX8_layAnvil 46 = .ok (.aload_n 0, 1) := by decide +kernel
theorem dX8_layAnvil_47 : decode cX8_layAnvil 47 = .ok (.iconst 0, 1) := by decide +kernel
theorem dX8_layAnvil_48 : decode cX8_layAnvil 48 = .ok (.dup2, 1) := by decide +kernel
theorem dX8_layAnvil_49 : decode cX8_layAnvil 49 = .ok (.iaload, 1) := by decide +kernel
theorem dX8_layAnvil_50 : decode cX8_layAnvil 50 = .ok (.iconst 1, 1) := by decide +kernel
theorem dX8_layAnvil_51 : decode cX8_layAnvil 51 = .ok (.iadd, 1) := by decide +kernel
theorem dX8_layAnvil_52 : decode cX8_layAnvil 52 = .ok (.iastore, 1) := by decide +kernel
theorem dX8_layAnvil_53 : decode cX8_layAnvil 53 = .ok (.return_, 1) := by decide +kernel
theorem dX8_anvil_0 : decode cX8_anvil 0 = .ok (.iload_n 1, 1) := by decide +kernel
theorem dX8_anvil_1 : decode cX8_anvil 1 = .ok (.i2l, 1) := by decide +kernel
theorem dX8_anvil_2 : decode cX8_anvil 2 = .ok (.lconst 0, 1) := by decide +kernel
theorem dX8_anvil_3 : decode cX8_anvil 3 = .ok (.ldc2_w 70, 3) := by decide +kernel
theorem dX8_anvil_6 : decode cX8_anvil 6 = .ok (.invokestatic 56, 3) := by decide +kernel
theorem dX8_anvil_9 : decode cX8_anvil 9 = .ok (.ifCond .eq 33, 3) := by decide +kernel
theorem dX8_anvil_12 : decode cX8_anvil 12 = .ok (.iload_n 2, 1) := by decide +kernel
theorem dX8_anvil_13 : decode cX8_anvil 13 = .ok (.invokestatic 72, 3) := by decide +kernel
theorem dX8_anvil_16 : decode cX8_anvil 16 = .ok (.ifCond .eq 26, 3) := by decide +kernel
theorem dX8_anvil_19 : decode cX8_anvil 19 = .ok (.iload_n 3, 1) := by decide +kernel
theorem dX8_anvil_20 : decode cX8_anvil 20 = .ok (.invokestatic 72, 3) := by decide +kernel
theorem dX8_anvil_23 : decode cX8_anvil 23 = .ok (.ifCond .eq 19, 3) := by decide +kernel
theorem dX8_anvil_26 : decode cX8_anvil 26 = .ok (.iload 4, 2) := by decide +kernel
theorem dX8_anvil_28 : decode cX8_anvil 28 = .ok (.invokestatic 72, 3) := by decide +kernel
theorem dX8_anvil_31 : decode cX8_anvil 31 = .ok (.ifCond .eq 11, 3) := by decide +kernel
theorem dX8_anvil_34 : decode cX8_anvil 34 = .ok (.iload 5, 2) := by decide +kernel
theorem dX8_anvil_36 : decode cX8_anvil 36 = .ok (.invokestatic 72, 3) := by decide +kernel
theorem dX8_anvil_39 : decode cX8_anvil 39 = .ok (.ifCond .ne 10, 3) := by decide +kernel
theorem dX8_anvil_42 : decode cX8_anvil 42 = .ok (.aload_n 0, 1) := by decide +kernel
theorem dX8_anvil_43 : decode cX8_anvil 43 = .ok (.bipush (-2), 2) := by decide +kernel
theorem dX8_anvil_45 : decode cX8_anvil 45 = .ok (.invokevirtual 66, 3) := by decide +kernel
theorem dX8_anvil_48 : decode cX8_anvil 48 = .ok (.ireturn, 1) := by decide +kernel
theorem dX8_anvil_49 : decode cX8_anvil 49 = .ok (.aload_n 0, 1) := by decide +kernel
theorem dX8_anvil_50 : decode cX8_anvil 50 = .ok (.invokevirtual 52, 3) := by decide +kernel
theorem dX8_anvil_53 : decode cX8_anvil 53 = .ok (.iconst 4, 1) := by decide +kernel
theorem dX8_anvil_54 : decode cX8_anvil 54 = .ok (.if_icmp .ne 8, 3) := by decide +kernel
theorem dX8_anvil_57 : decode cX8_anvil 57 = .ok (.aload_n 0, 1) := by decide +kernel
theorem dX8_anvil_58 : decode cX8_anvil 58 = .ok (.invokevirtual 76, 3) := by decide +kernel
theorem dX8_anvil_61 : decode cX8_anvil 61 = .ok (.ireturn, 1) := by decide +kernel
theorem dX8_anvil_62 : decode cX8_anvil 62 = .ok (.aload_n 0, 1) := by decide +kernel
theorem dX8_anvil_63 : decode cX8_anvil 63 = .ok (.getfield 7, 3) := by decide +kernel
theorem dX8_anvil_66 : decode cX8_anvil 66 = .ok (.iload_n 1, 1) := by decide +kernel
theorem dX8_anvil_67 : decode cX8_anvil 67 = .ok (.iload_n 2, 1) := by decide +kernel
theorem dX8_anvil_68 : decode cX8_anvil 68 = .ok (.iload_n 3, 1) := by decide +kernel
theorem dX8_anvil_69 : decode cX8_anvil 69 = .ok (.iload 4, 2) := by decide +kernel
theorem dX8_anvil_71 : decode cX8_anvil 71 = .ok (.iload 5, 2) := by decide +kernel
theorem dX8_anvil_73 : decode cX8_anvil 73 = .ok (.invokestatic 79, 3) := by decide +kernel
theorem dX8_anvil_76 : decode cX8_anvil 76 = .ok (.aload_n 0, 1) := by decide +kernel
theorem dX8_anvil_77 : decode cX8_anvil 77 = .ok (.getfield 7, 3) := by decide +kernel
theorem dX8_anvil_80 : decode cX8_anvil 80 = .ok (.iconst 3, 1) := by decide +kernel
theorem dX8_anvil_81 : decode cX8_anvil 81 = .ok (.iconst 0, 1) := by decide +kernel
theorem dX8_anvil_82 : decode cX8_anvil 82 = .ok (.iastore, 1) := by decide +kernel
theorem dX8_anvil_83 : decode cX8_anvil 83 = .ok (.aload_n 0, 1) := by decide +kernel
theorem dX8_anvil_84 : decode cX8_anvil 84 = .ok (.invokevirtual 52, 3) := by decide +kernel
theorem dX8_anvil_87 : decode cX8_anvil 87 = .ok (.iconst 1, 1) := by decide +kernel
theorem dX8_anvil_88 : decode cX8_anvil 88 = .ok (.isub, 1) := by decide +kernel
theorem dX8_anvil_89 : decode cX8_anvil 89 = .ok (.ireturn, 1) := by decide +kernel
theorem dX8_leftAs_0 : decode cX8_leftAs 0 = .ok (.iload_n 1, 1) := by decide +kernel
theorem dX8_leftAs_1 : decode cX8_leftAs 1 = .ok (.ifCond .le 9, 3) := by decide +kernel
theorem dX8_leftAs_4 : decode cX8_leftAs 4 = .ok (.iload_n 1, 1) := by decide +kernel
theorem dX8_leftAs_5 : decode cX8_leftAs 5 = .ok (.iconst 1, 1) := by decide +kernel
theorem dX8_leftAs_6 : decode cX8_leftAs 6 = .ok (.isub, 1) := by decide +kernel
theorem dX8_leftAs_7 : decode cX8_leftAs 7 = .ok (.goto 4, 3) := by decide +kernel
theorem dX8_leftAs_10 : decode cX8_leftAs 10 = .ok (.iconst 0, 1) := by decide +kernel
theorem dX8_leftAs_11 : decode cX8_leftAs 11 = .ok (.istore_n 3, 1) := by decide +kernel
theorem dX8_leftAs_12 : decode cX8_leftAs 12 = .ok (.iload_n 0, 1) := by decide +kernel
theorem dX8_leftAs_13 : decode cX8_leftAs 13 = .ok (.tableswitch 65 1 5 #[35, 47, 59, 63, 35], 35) := by decide +kernel
theorem dX8_leftAs_48 : decode cX8_leftAs 48 = .ok (.iload_n 2, 1) := by decide +kernel
theorem dX8_leftAs_49 : decode cX8_leftAs 49 = .ok (.iconst 2, 1) := by decide +kernel
theorem dX8_leftAs_50 : decode cX8_leftAs 50 = .ok (.irem, 1) := by decide +kernel
theorem dX8_leftAs_51 : decode cX8_leftAs 51 = .ok (.ifCond .ne 7, 3) := by decide +kernel
theorem dX8_leftAs_54 : decode cX8_leftAs 54 = .ok (.iload_n 3, 1) := by decide +kernel
theorem dX8_leftAs_55 : decode cX8_leftAs 55 = .ok (.goto 4, 3) := by decide +kernel
theorem dX8_leftAs_58 : decode cX8_leftAs 58 = .ok (.iload_n 1, 1) := by decide +kernel
theorem dX8_leftAs_59 : decode cX8_leftAs 59 = .ok (.ireturn, 1) := by decide +kernel
theorem dX8_leftAs_60 : decode cX8_leftAs 60 = .ok (.iload_n 2, 1) := by decide +kernel
theorem dX8_leftAs_61 : decode cX8_leftAs 61 = .ok (.iconst 3, 1) := by decide +kernel
theorem dX8_leftAs_62 : decode cX8_leftAs 62 = .ok (.irem, 1) := by decide +kernel
theorem dX8_leftAs_63 : decode cX8_leftAs 63 = .ok (.ifCond .ne 7, 3) := by decide +kernel
theorem dX8_leftAs_66 : decode cX8_leftAs 66 = .ok (.iload_n 3, 1) := by decide +kernel
theorem dX8_leftAs_67 : decode cX8_leftAs 67 = .ok (.goto 4, 3) := by decide +kernel
theorem dX8_leftAs_70 : decode cX8_leftAs 70 = .ok (.iload_n 1, 1) := by decide +kernel
theorem dX8_leftAs_71 : decode cX8_leftAs 71 = .ok (.ireturn, 1) := by decide +kernel
theorem dX8_leftAs_72 : decode cX8_leftAs 72 = .ok (.iload_n 3, 1) := by decide +kernel
theorem dX8_leftAs_73 : decode cX8_leftAs 73 = .ok (.iconst 2, 1) := by decide +kernel
theorem dX8_leftAs_74 : decode cX8_leftAs 74 = .ok (.idiv, 1) := by decide +kernel
theorem dX8_leftAs_75 : decode cX8_leftAs 75 = .ok (.ireturn, 1) := by decide +kernel
theorem dX8_leftAs_76 : decode cX8_leftAs 76 = .ok (.iload_n 1, 1) := by decide +kernel
theorem dX8_leftAs_77 : decode cX8_leftAs 77 = .ok (.ireturn, 1) := by decide +kernel
theorem dX8_leftAs_78 : decode cX8_leftAs 78 = .ok (.iload_n 3, 1) := by decide +kernel
theorem dX8_leftAs_79 : decode cX8_leftAs 79 = .ok (.ireturn, 1) := by decide +kernel
theorem dX8_upAs_0 : decode cX8_upAs 0 = .ok (.iload_n 1, 1) := by decide +kernel
theorem dX8_upAs_1 : decode cX8_upAs 1 = .ok (.iload_n 2, 1) := by decide +kernel
theorem dX8_upAs_2 : decode cX8_upAs 2 = .ok (.if_icmp .le 9, 3) := by decide +kernel
theorem dX8_upAs_5 : decode cX8_upAs 5 = .ok (.iload_n 1, 1) := by decide +kernel
theorem dX8_upAs_6 : decode cX8_upAs 6 = .ok (.iload_n 2, 1) := by decide +kernel
theorem dX8_upAs_7 : decode cX8_upAs 7 = .ok (.isub, 1) := by decide +kernel
theorem dX8_upAs_8 : decode cX8_upAs 8 = .ok (.goto 4, 3) := by decide +kernel
theorem dX8_upAs_11 : decode cX8_upAs 11 = .ok (.iconst 0, 1) := by decide +kernel
theorem dX8_upAs_12 : decode cX8_upAs 12 = .ok (.istore_n 3, 1) := by decide +kernel
theorem dX8_upAs_13 : decode cX8_upAs 13 = .ok (.iload_n 3, 1) := by decide +kernel
theorem dX8_upAs_14 : decode cX8_upAs 14 = .ok (.iconst 1, 1) := by decide +kernel
theorem dX8_upAs_15 : decode cX8_upAs 15 = .ok (.iadd, 1) := by decide +kernel
theorem dX8_upAs_16 : decode cX8_upAs 16 = .ok (.iconst 2, 1) := by decide +kernel
theorem dX8_upAs_17 : decode cX8_upAs 17 = .ok (.idiv, 1) := by decide +kernel
theorem dX8_upAs_18 : decode cX8_upAs 18 = .ok (.istore 4, 2) := by decide +kernel
theorem dX8_upAs_20 : decode cX8_upAs 20 = .ok (.iload_n 1, 1) := by decide +kernel
theorem dX8_upAs_21 : decode cX8_upAs 21 = .ok (.iconst 1, 1) := by decide +kernel
theorem dX8_upAs_22 : decode cX8_upAs 22 = .ok (.if_icmp .lt 9, 3) := by decide +kernel
theorem dX8_upAs_25 : decode cX8_upAs 25 = .ok (.iload_n 3, 1) := by decide +kernel
theorem dX8_upAs_26 : decode cX8_upAs 26 = .ok (.iconst 1, 1) := by decide +kernel
theorem dX8_upAs_27 : decode cX8_upAs 27 = .ok (.iadd, 1) := by decide +kernel
theorem dX8_upAs_28 : decode cX8_upAs 28 = .ok (.goto 4, 3) := by decide +kernel
theorem dX8_upAs_31 : decode cX8_upAs 31 = .ok (.iload_n 3, 1) := by decide +kernel
theorem dX8_upAs_32 : decode cX8_upAs 32 = .ok (.istore 5, 2) := by decide +kernel
theorem dX8_upAs_34 : decode cX8_upAs 34 = .ok (.iload_n 0, 1) := by decide +kernel
theorem dX8_upAs_35 : decode cX8_upAs 35 = .ok (.tableswitch 57 1 5 #[33, 36, 57, 39, 44], 33) := by decide +kernel
theorem dX8_upAs_68 : decode cX8_upAs 68 = .ok (.iload 4, 2) := by decide +kernel
theorem dX8_upAs_70 : decode cX8_upAs 70 = .ok (.ireturn, 1) := by decide +kernel
theorem dX8_upAs_71 : decode cX8_upAs 71 = .ok (.iload 5, 2) := by decide +kernel
theorem dX8_upAs_73 : decode cX8_upAs 73 = .ok (.ireturn, 1) := by decide +kernel
theorem dX8_upAs_74 : decode cX8_upAs 74 = .ok (.iconst 2, 1) := by decide +kernel
theorem dX8_upAs_75 : decode cX8_upAs 75 = .ok (.iload 5, 2) := by decide +kernel
theorem dX8_upAs_77 : decode cX8_upAs 77 = .ok (.imul, 1) := by decide +kernel
theorem dX8_upAs_78 : decode cX8_upAs 78 = .ok (.ireturn, 1) := by decide +kernel
theorem dX8_upAs_79 : decode cX8_upAs 79 = .ok (.iload_n 1, 1) := by decide +kernel
theorem dX8_upAs_80 : decode cX8_upAs 80 = .ok (.bipush 10, 2) := by decide +kernel
theorem dX8_upAs_82 : decode cX8_upAs 82 = .ok (.if_icmp .lt 7, 3) := by decide +kernel
theorem dX8_upAs_85 : decode cX8_upAs 85 = .ok (.iconst 0, 1) := by decide +kernel
theorem dX8_upAs_86 : decode cX8_upAs 86 = .ok (.goto 5, 3) := by decide +kernel
theorem dX8_upAs_89 : decode cX8_upAs 89 = .ok (.iload 4, 2) := by decide +kernel
theorem dX8_upAs_91 : decode cX8_upAs 91 = .ok (.ireturn, 1) := by decide +kernel
theorem dX8_upAs_92 : decode cX8_upAs 92 = .ok (.iload_n 3, 1) := by decide +kernel
theorem dX8_upAs_93 : decode cX8_upAs 93 = .ok (.ireturn, 1) := by decide +kernel
theorem dX8_moreAs_0 : decode cX8_moreAs 0 = .ok (.iload_n 0, 1) := by decide +kernel
theorem dX8_moreAs_1 : decode cX8_moreAs 1 = .ok (.iconst 3, 1) := by decide +kernel
theorem dX8_moreAs_2 : decode cX8_moreAs 2 = .ok (.if_icmp .ne 11, 3) := by decide +kernel
theorem dX8_moreAs_5 : decode cX8_moreAs 5 = .ok (.iload_n 1, 1) := by decide +kernel
theorem dX8_moreAs_6 : decode cX8_moreAs 6 = .ok (.iconst 1, 1) := by decide +kernel
theorem dX8_moreAs_7 : decode cX8_moreAs 7 = .ok (.iadd, 1) := by decide +kernel
theorem dX8_moreAs_8 : decode cX8_moreAs 8 = .ok (.iconst 2, 1) := by decide +kernel
theorem dX8_moreAs_9 : decode cX8_moreAs 9 = .ok (.idiv, 1) := by decide +kernel
theorem dX8_moreAs_10 : decode cX8_moreAs 10 = .ok (.goto 15, 3) := by decide +kernel
theorem dX8_moreAs_13 : decode cX8_moreAs 13 = .ok (.iload_n 0, 1) := by decide +kernel
theorem dX8_moreAs_14 : decode cX8_moreAs 14 = .ok (.iconst 5, 1) := by decide +kernel
theorem dX8_moreAs_15 : decode cX8_moreAs 15 = .ok (.if_icmp .ne 9, 3) := by decide +kernel
theorem dX8_moreAs_18 : decode cX8_moreAs 18 = .ok (.iconst 2, 1) := by decide +kernel
theorem dX8_moreAs_19 : decode cX8_moreAs 19 = .ok (.iload_n 1, 1) := by decide +kernel
theorem dX8_moreAs_20 : decode cX8_moreAs 20 = .ok (.imul, 1) := by decide +kernel
theorem dX8_moreAs_21 : decode cX8_moreAs 21 = .ok (.goto 4, 3) := by decide +kernel
theorem dX8_moreAs_24 : decode cX8_moreAs 24 = .ok (.iload_n 1, 1) := by decide +kernel
theorem dX8_moreAs_25 : decode cX8_moreAs 25 = .ok (.ireturn, 1) := by decide +kernel
theorem dX8_layHand_0 : decode cX8_layHand 0 = .ok (.iconst 0, 1) := by decide +kernel
theorem dX8_layHand_1 : decode cX8_layHand 1 = .ok (.istore_n 1, 1) := by decide +kernel
theorem dX8_layHand_2 : decode cX8_layHand 2 = .ok (.iload_n 1, 1) := by decide +kernel
theorem dX8_layHand_3 : decode cX8_layHand 3 = .ok (.bipush 16, 2) := by decide +kernel
theorem dX8_layHand_5 : decode cX8_layHand 5 = .ok (.if_icmp .ge 23, 3) := by decide +kernel
theorem dX8_layHand_8 : decode cX8_layHand 8 = .ok (.aload_n 0, 1) := by decide +kernel
theorem dX8_layHand_9 : decode cX8_layHand 9 = .ok (.getfield 27, 3) := by decide +kernel
theorem dX8_layHand_12 : decode cX8_layHand 12 = .ok (.iload_n 1, 1) := by decide +kernel
theorem dX8_layHand_13 : decode cX8_layHand 13 = .ok (.aload_n 0, 1) := by decide +kernel
theorem dX8_layHand_14 : decode cX8_layHand 14 = .ok (.getfield 7, 3) := by decide +kernel
theorem dX8_layHand_17 : decode cX8_layHand 17 = .ok (.iconst 4, 1) := by decide +kernel
theorem dX8_layHand_18 : decode cX8_layHand 18 = .ok (.iload_n 1, 1) := by decide +kernel
theorem dX8_layHand_19 : decode cX8_layHand 19 = .ok (.iadd, 1) := by decide +kernel
theorem dX8_layHand_20 : decode cX8_layHand 20 = .ok (.iaload, 1) := by decide +kernel
theorem dX8_layHand_21 : decode cX8_layHand 21 = .ok (.iastore, 1) := by decide +kernel
theorem dX8_layHand_22 : decode cX8_layHand 22 = .ok (.iinc 1 1, 3) := by decide +kernel
theorem dX8_layHand_25 : decode cX8_layHand 25 = .ok (.goto (-23), 3) := by decide +kernel
theorem dX8_layHand_28 : decode cX8_layHand 28 = .ok (.aload_n 0, 1) := by decide +kernel
theorem dX8_layHand_29 : decode cX8_layHand 29 = .ok (.aload_n 0, 1) := by decide +kernel
theorem dX8_layHand_30 : decode cX8_layHand 30 = .ok (.getfield 7, 3) := by decide +kernel
theorem dX8_layHand_33 : decode cX8_layHand 33 = .ok (.bipush 20, 2) := by decide +kernel
theorem dX8_layHand_35 : decode cX8_layHand 35 = .ok (.iaload, 1) := by decide +kernel
theorem dX8_layHand_36 : decode cX8_layHand 36 = .ok (.putfield 83, 3) := by decide +kernel
theorem dX8_layHand_39 : decode cX8_layHand 39 = .ok (.return_, 1) := by decide +kernel
theorem dX8_kindOf_0 : decode cX8_kindOf 0 = .ok (.aload_n 0, 1) := by decide +kernel
theorem dX8_kindOf_1 : decode cX8_kindOf 1 = .ok (.getfield 7, 3) := by decide +kernel
theorem dX8_kindOf_4 : decode cX8_kindOf 4 = .ok (.bipush 22, 2) := by decide +kernel
theorem dX8_kindOf_6 : decode cX8_kindOf 6 = .ok (.iload_n 1, 1) := by decide +kernel
theorem dX8_kindOf_7 : decode cX8_kindOf 7 = .ok (.iadd, 1) := by decide +kernel
theorem dX8_kindOf_8 : decode cX8_kindOf 8 = .ok (.iaload, 1) := by decide +kernel
theorem dX8_kindOf_9 : decode cX8_kindOf 9 = .ok (.ireturn, 1) := by decide +kernel
theorem dX8_upOf_0 : decode cX8_upOf 0 = .ok (.aload_n 0, 1) := by decide +kernel
theorem dX8_upOf_1 : decode cX8_upOf 1 = .ok (.iload_n 1, 1) := by decide +kernel
theorem dX8_upOf_2 : decode cX8_upOf 2 = .ok (.invokevirtual 87, 3) := by decide +kernel
theorem dX8_upOf_5 : decode cX8_upOf 5 = .ok (.aload_n 0, 1) := by decide +kernel
theorem dX8_upOf_6 : decode cX8_upOf 6 = .ok (.getfield 27, 3) := by decide +kernel
theorem dX8_upOf_9 : decode cX8_upOf 9 = .ok (.iconst 4, 1) := by decide +kernel
theorem dX8_upOf_10 : decode cX8_upOf 10 = .ok (.iload_n 1, 1) := by decide +kernel
theorem dX8_upOf_11 : decode cX8_upOf 11 = .ok (.imul, 1) := by decide +kernel
theorem dX8_upOf_12 : decode cX8_upOf 12 = .ok (.iload_n 2, 1) := by decide +kernel
theorem dX8_upOf_13 : decode cX8_upOf 13 = .ok (.iadd, 1) := by decide +kernel
theorem dX8_upOf_14 : decode cX8_upOf 14 = .ok (.iaload, 1) := by decide +kernel
theorem dX8_upOf_15 : decode cX8_upOf 15 = .ok (.aload_n 0, 1) := by decide +kernel
theorem dX8_upOf_16 : decode cX8_upOf 16 = .ok (.getfield 7, 3) := by decide +kernel
theorem dX8_upOf_19 : decode cX8_upOf 19 = .ok (.bipush 21, 2) := by decide +kernel
theorem dX8_upOf_21 : decode cX8_upOf 21 = .ok (.iaload, 1) := by decide +kernel
theorem dX8_upOf_22 : decode cX8_upOf 22 = .ok (.invokestatic 90, 3) := by decide +kernel
theorem dX8_upOf_25 : decode cX8_upOf 25 = .ok (.ireturn, 1) := by decide +kernel
theorem dX8_foreignOf_0 : decode cX8_foreignOf 0 = .ok (.iconst 0, 1) := by decide +kernel
theorem dX8_foreignOf_1 : decode cX8_foreignOf 1 = .ok (.istore_n 3, 1) := by decide +kernel
theorem dX8_foreignOf_2 : decode cX8_foreignOf 2 = .ok (.iconst 0, 1) := by decide +kernel
theorem dX8_foreignOf_3 : decode cX8_foreignOf 3 = .ok (.istore 4, 2) := by decide +kernel
theorem dX8_foreignOf_5 : decode cX8_foreignOf 5 = .ok (.iload 4, 2) := by decide +kernel
theorem dX8_foreignOf_7 : decode cX8_foreignOf 7 = .ok (.iconst 4, 1) := by decide +kernel
theorem dX8_foreignOf_8 : decode cX8_foreignOf 8 = .ok (.if_icmp .ge 29, 3) := by decide +kernel
theorem dX8_foreignOf_11 : decode cX8_foreignOf 11 = .ok (.iload_n 3, 1) := by decide +kernel
theorem dX8_foreignOf_12 : decode cX8_foreignOf 12 = .ok (.iload 4, 2) := by decide +kernel
theorem dX8_foreignOf_14 : decode cX8_foreignOf 14 = .ok (.iload_n 2, 1) := by decide +kernel
theorem dX8_foreignOf_15 : decode cX8_foreignOf 15 = .ok (.if_icmp .ne 7, 3) := by decide +kernel
theorem dX8_foreignOf_18 : decode cX8_foreignOf 18 = .ok (.iconst 0, 1) := by decide +kernel
theorem dX8_foreignOf_19 : decode cX8_foreignOf 19 = .ok (.goto 10, 3) := by decide +kernel
theorem dX8_foreignOf_22 : decode cX8_foreignOf 22 = .ok (.aload_n 0, 1) := by decide +kernel
theorem dX8_foreignOf_23 : decode cX8_foreignOf 23 = .ok (.iload_n 1, 1) := by decide +kernel
theorem dX8_foreignOf_24 : decode cX8_foreignOf 24 = .ok (.iload 4, 2) := by decide +kernel
theorem dX8_foreignOf_26 : decode cX8_foreignOf 26 = .ok (.invokevirtual 94, 3) := by decide +kernel
theorem dX8_foreignOf_29 : decode cX8_foreignOf 29 = .ok (.iadd, 1) := by decide +kernel
theorem dX8_foreignOf_30 : decode cX8_foreignOf 30 = .ok (.istore_n 3, 1) := by decide +kernel
theorem dX8_foreignOf_31 : decode cX8_foreignOf 31 = .ok (.iinc 4 1, 3) := by decide +kernel
theorem dX8_foreignOf_34 : decode cX8_foreignOf 34 = .ok (.goto (-29), 3) := by decide +kernel
theorem dX8_foreignOf_37 : decode cX8_foreignOf 37 = .ok (.iload_n 3, 1) := by decide +kernel
theorem dX8_foreignOf_38 : decode cX8_foreignOf 38 = .ok (.ireturn, 1) := by decide +kernel
theorem dX8_goWork_0 : decode cX8_goWork 0 = .ok (.aload_n 0, 1) := by decide +kernel
theorem dX8_goWork_1 : decode cX8_goWork 1 = .ok (.iload_n 1, 1) := by decide +kernel
theorem dX8_goWork_2 : decode cX8_goWork 2 = .ok (.iload_n 2, 1) := by decide +kernel
theorem dX8_goWork_3 : decode cX8_goWork 3 = .ok (.invokevirtual 98, 3) := by decide +kernel
theorem dX8_goWork_6 : decode cX8_goWork 6 = .ok (.istore 4, 2) := by decide +kernel
theorem dX8_goWork_8 : decode cX8_goWork 8 = .ok (.aload_n 0, 1) := by decide +kernel
theorem dX8_goWork_9 : decode cX8_goWork 9 = .ok (.getfield 27, 3) := by decide +kernel
theorem dX8_goWork_12 : decode cX8_goWork 12 = .ok (.iconst 4, 1) := by decide +kernel
theorem dX8_goWork_13 : decode cX8_goWork 13 = .ok (.iload_n 1, 1) := by decide +kernel
theorem dX8_goWork_14 : decode cX8_goWork 14 = .ok (.imul, 1) := by decide +kernel
theorem dX8_goWork_15 : decode cX8_goWork 15 = .ok (.iload_n 2, 1) := by decide +kernel
theorem dX8_goWork_16 : decode cX8_goWork 16 = .ok (.iadd, 1) := by decide +kernel
theorem dX8_goWork_17 : decode cX8_goWork 17 = .ok (.iaload, 1) := by decide +kernel
theorem dX8_goWork_18 : decode cX8_goWork 18 = .ok (.aload_n 0, 1) := by decide +kernel
theorem dX8_goWork_19 : decode cX8_goWork 19 = .ok (.iload_n 1, 1) := by decide +kernel
theorem dX8_goWork_20 : decode cX8_goWork 20 = .ok (.invokevirtual 87, 3) := by decide +kernel
theorem dX8_goWork_23 : decode cX8_goWork 23 = .ok (.iload_n 3, 1) := by decide +kernel
theorem dX8_goWork_24 : decode cX8_goWork 24 = .ok (.invokestatic 101, 3) := by decide +kernel
theorem dX8_goWork_27 : decode cX8_goWork 27 = .ok (.iadd, 1) := by decide +kernel
theorem dX8_goWork_28 : decode cX8_goWork 28 = .ok (.istore 5, 2) := by decide +kernel
theorem dX8_goWork_30 : decode cX8_goWork 30 = .ok (.aload_n 0, 1) := by decide +kernel
theorem dX8_goWork_31 : decode cX8_goWork 31 = .ok (.getfield 27, 3) := by decide +kernel
theorem dX8_goWork_34 : decode cX8_goWork 34 = .ok (.iconst 4, 1) := by decide +kernel
theorem dX8_goWork_35 : decode cX8_goWork 35 = .ok (.iload_n 1, 1) := by decide +kernel
theorem dX8_goWork_36 : decode cX8_goWork 36 = .ok (.imul, 1) := by decide +kernel
theorem dX8_goWork_37 : decode cX8_goWork 37 = .ok (.iload_n 2, 1) := by decide +kernel
theorem dX8_goWork_38 : decode cX8_goWork 38 = .ok (.iadd, 1) := by decide +kernel
theorem dX8_goWork_39 : decode cX8_goWork 39 = .ok (.iload 5, 2) := by decide +kernel
theorem dX8_goWork_41 : decode cX8_goWork 41 = .ok (.bipush 20, 2) := by decide +kernel
theorem dX8_goWork_43 : decode cX8_goWork 43 = .ok (.if_icmp .le 8, 3) := by decide +kernel
theorem dX8_goWork_46 : decode cX8_goWork 46 = .ok (.bipush 20, 2) := by decide +kernel
theorem dX8_goWork_48 : decode cX8_goWork 48 = .ok (.goto 5, 3) := by decide +kernel
theorem dX8_goWork_51 : decode cX8_goWork 51 = .ok (.iload 5, 2) := by decide +kernel
theorem dX8_goWork_53 : decode cX8_goWork 53 = .ok (.iastore, 1) := by decide +kernel
theorem dX8_goWork_54 : decode cX8_goWork 54 = .ok (.iload 4, 2) := by decide +kernel
theorem dX8_goWork_56 : decode cX8_goWork 56 = .ok (.ireturn, 1) := by decide +kernel
theorem dX8_goDay_0 : decode cX8_goDay 0 = .ok (.iconst 0, 1) := by decide +kernel
theorem dX8_goDay_1 : decode cX8_goDay 1 = .ok (.istore_n 1, 1) := by decide +kernel
theorem dX8_goDay_2 : decode cX8_goDay 2 = .ok (.iload_n 1, 1) := by decide +kernel
theorem dX8_goDay_3 : decode cX8_goDay 3 = .ok (.iconst 4, 1) := by decide +kernel
theorem dX8_goDay_4 : decode cX8_goDay 4 = .ok (.aload_n 0, 1) := by decide +kernel
theorem dX8_goDay_5 : decode cX8_goDay 5 = .ok (.invokevirtual 52, 3) := by decide +kernel
theorem dX8_goDay_8 : decode cX8_goDay 8 = .ok (.imul, 1) := by decide +kernel
theorem dX8_goDay_9 : decode cX8_goDay 9 = .ok (.if_icmp .ge 35, 3) := by decide +kernel
theorem dX8_goDay_12 : decode cX8_goDay 12 = .ok (.aload_n 0, 1) := by decide +kernel
theorem dX8_goDay_13 : decode cX8_goDay 13 = .ok (.getfield 27, 3) := by decide +kernel
theorem dX8_goDay_16 : decode cX8_goDay 16 = .ok (.iload_n 1, 1) := by decide +kernel
theorem dX8_goDay_17 : decode cX8_goDay 17 = .ok (.aload_n 0, 1) := by decide +kernel
theorem dX8_goDay_18 : decode cX8_goDay 18 = .ok (.iload_n 1, 1) := by decide +kernel
theorem dX8_goDay_19 : decode cX8_goDay 19 = .ok (.iconst 4, 1) := by decide +kernel
theorem dX8_goDay_20 : decode cX8_goDay 20 = .ok (.idiv, 1) := by decide +kernel
theorem dX8_goDay_21 : decode cX8_goDay 21 = .ok (.invokevirtual 87, 3) := by decide +kernel
theorem dX8_goDay_24 : decode cX8_goDay 24 = .ok (.aload_n 0, 1) := by decide +kernel
theorem dX8_goDay_25 : decode cX8_goDay 25 = .ok (.getfield 27, 3) := by decide +kernel
theorem dX8_goDay_28 : decode cX8_goDay 28 = .ok (.iload_n 1, 1) := by decide +kernel
theorem dX8_goDay_29 : decode cX8_goDay 29 = .ok (.iaload, 1) := by decide +kernel
theorem dX8_goDay_30 : decode cX8_goDay 30 = .ok (.aload_n 0, 1) := by decide +kernel
theorem dX8_goDay_31 : decode cX8_goDay 31 = .ok (.getfield 83, 3) := by decide +kernel
theorem dX8_goDay_34 : decode cX8_goDay 34 = .ok (.invokestatic 104, 3) := by decide +kernel
theorem dX8_goDay_37 : decode cX8_goDay 37 = .ok (.iastore, 1) := by decide +kernel
theorem dX8_goDay_38 : decode cX8_goDay 38 = .ok (.iinc 1 1, 3) := by decide +kernel
theorem dX8_goDay_41 : decode cX8_goDay 41 = .ok (.goto (-39), 3) := by decide +kernel
theorem dX8_goDay_44 : decode cX8_goDay 44 = .ok (.aload_n 0, 1) := by decide +kernel
theorem dX8_goDay_45 : decode cX8_goDay 45 = .ok (.dup, 1) := by decide +kernel
theorem dX8_goDay_46 : decode cX8_goDay 46 = .ok (.getfield 83, 3) := by decide +kernel
theorem dX8_goDay_49 : decode cX8_goDay 49 = .ok (.iconst 1, 1) := by decide +kernel
theorem dX8_goDay_50 : decode cX8_goDay 50 = .ok (.iadd, 1) := by decide +kernel
theorem dX8_goDay_51 : decode cX8_goDay 51 = .ok (.putfield 83, 3) := by decide +kernel
theorem dX8_goDay_54 : decode cX8_goDay 54 = .ok (.return_, 1) := by decide +kernel
theorem dX8_keepPast_0 : decode cX8_keepPast 0 = .ok (.aload_n 0, 1) := by decide +kernel
theorem dX8_keepPast_1 : decode cX8_keepPast 1 = .ok (.getfield 7, 3) := by decide +kernel
theorem dX8_keepPast_4 : decode cX8_keepPast 4 = .ok (.iconst 3, 1) := by decide +kernel
theorem dX8_keepPast_5 : decode cX8_keepPast 5 = .ok (.iaload, 1) := by decide +kernel
theorem dX8_keepPast_6 : decode cX8_keepPast 6 = .ok (.bipush 8, 2) := by decide +kernel
theorem dX8_keepPast_8 : decode cX8_keepPast 8 = .ok (.if_icmp .ne 43, 3) := by decide +kernel
theorem dX8_keepPast_11 : decode cX8_keepPast 11 = .ok (.iconst 0, 1) := by decide +kernel
theorem dX8_keepPast_12 : decode cX8_keepPast 12 = .ok (.istore_n 1, 1) := by decide +kernel
theorem dX8_keepPast_13 : decode cX8_keepPast 13 = .ok (.iload_n 1, 1) := by decide +kernel
theorem dX8_keepPast_14 : decode cX8_keepPast 14 = .ok (.bipush 126, 2) := by decide +kernel
theorem dX8_keepPast_16 : decode cX8_keepPast 16 = .ok (.if_icmp .ge 27, 3) := by decide +kernel
theorem dX8_keepPast_19 : decode cX8_keepPast 19 = .ok (.aload_n 0, 1) := by decide +kernel
theorem dX8_keepPast_20 : decode cX8_keepPast 20 = .ok (.getfield 7, 3) := by decide +kernel
theorem dX8_keepPast_23 : decode cX8_keepPast 23 = .ok (.bipush 74, 2) := by decide +kernel
theorem dX8_keepPast_25 : decode cX8_keepPast 25 = .ok (.iload_n 1, 1) := by decide +kernel
theorem dX8_keepPast_26 : decode cX8_keepPast 26 = .ok (.iadd, 1) := by decide +kernel
theorem dX8_keepPast_27 : decode cX8_keepPast 27 = .ok (.aload_n 0, 1) := by decide +kernel
theorem dX8_keepPast_28 : decode cX8_keepPast 28 = .ok (.getfield 7, 3) := by decide +kernel
theorem dX8_keepPast_31 : decode cX8_keepPast 31 = .ok (.bipush 92, 2) := by decide +kernel
theorem dX8_keepPast_33 : decode cX8_keepPast 33 = .ok (.iload_n 1, 1) := by decide +kernel
theorem dX8_keepPast_34 : decode cX8_keepPast 34 = .ok (.iadd, 1) := by decide +kernel
theorem dX8_keepPast_35 : decode cX8_keepPast 35 = .ok (.iaload, 1) := by decide +kernel
theorem dX8_keepPast_36 : decode cX8_keepPast 36 = .ok (.iastore, 1) := by decide +kernel
theorem dX8_keepPast_37 : decode cX8_keepPast 37 = .ok (.iinc 1 1, 3) := by decide +kernel
theorem dX8_keepPast_40 : decode cX8_keepPast 40 = .ok (.goto (-27), 3) := by decide +kernel
theorem dX8_keepPast_43 : decode cX8_keepPast 43 = .ok (.aload_n 0, 1) := by decide +kernel
theorem dX8_keepPast_44 : decode cX8_keepPast 44 = .ok (.getfield 7, 3) := by decide +kernel
theorem dX8_keepPast_47 : decode cX8_keepPast 47 = .ok (.iconst 3, 1) := by decide +kernel
theorem dX8_keepPast_48 : decode cX8_keepPast 48 = .ok (.bipush 7, 2) := by decide +kernel
theorem dX8_keepPast_50 : decode cX8_keepPast 50 = .ok (.iastore, 1) := by decide +kernel
theorem dX8_keepPast_51 : decode cX8_keepPast 51 = .ok (.iconst 0, 1) := by decide +kernel
theorem dX8_keepPast_52 : decode cX8_keepPast 52 = .ok (.istore_n 1, 1) := by decide +kernel
theorem dX8_keepPast_53 : decode cX8_keepPast 53 = .ok (.iload_n 1, 1) := by decide +kernel
theorem dX8_keepPast_54 : decode cX8_keepPast 54 = .ok (.bipush 18, 2) := by decide +kernel
theorem dX8_keepPast_56 : decode cX8_keepPast 56 = .ok (.if_icmp .ge 36, 3) := by decide +kernel
theorem dX8_keepPast_59 : decode cX8_keepPast 59 = .ok (.aload_n 0, 1) := by decide +kernel
theorem dX8_keepPast_60 : decode cX8_keepPast 60 = .ok (.getfield 7, 3) := by decide +kernel
theorem dX8_keepPast_63 : decode cX8_keepPast 63 = .ok (.bipush 74, 2) := by decide +kernel
theorem dX8_keepPast_65 : decode cX8_keepPast 65 = .ok (.bipush 18, 2) := by decide +kernel
theorem dX8_keepPast_67 : decode cX8_keepPast 67 = .ok (.aload_n 0, 1) := by decide +kernel
theorem dX8_keepPast_68 : decode cX8_keepPast 68 = .ok (.getfield 7, 3) := by decide +kernel
theorem dX8_keepPast_71 : decode cX8_keepPast 71 = .ok (.iconst 3, 1) := by decide +kernel
theorem dX8_keepPast_72 : decode cX8_keepPast 72 = .ok (.iaload, 1) := by decide +kernel
theorem dX8_keepPast_73 : decode cX8_keepPast 73 = .ok (.imul, 1) := by decide +kernel
theorem dX8_keepPast_74 : decode cX8_keepPast 74 = .ok (.iadd, 1) := by decide +kernel
theorem dX8_keepPast_75 : decode cX8_keepPast 75 = .ok (.iload_n 1, 1) := by decide +kernel
theorem dX8_keepPast_76 : decode cX8_keepPast 76 = .ok (.iadd, 1) := by decide +kernel
theorem dX8_keepPast_77 : decode cX8_keepPast 77 = .ok (.aload_n 0, 1) := by decide +kernel
theorem dX8_keepPast_78 : decode cX8_keepPast 78 = .ok (.getfield 7, 3) := by decide +kernel
theorem dX8_keepPast_81 : decode cX8_keepPast 81 = .ok (.iconst 4, 1) := by decide +kernel
theorem dX8_keepPast_82 : decode cX8_keepPast 82 = .ok (.iload_n 1, 1) := by decide +kernel
theorem dX8_keepPast_83 : decode cX8_keepPast 83 = .ok (.iadd, 1) := by decide +kernel
theorem dX8_keepPast_84 : decode cX8_keepPast 84 = .ok (.iaload, 1) := by decide +kernel
theorem dX8_keepPast_85 : decode cX8_keepPast 85 = .ok (.iastore, 1) := by decide +kernel
theorem dX8_keepPast_86 : decode cX8_keepPast 86 = .ok (.iinc 1 1, 3) := by decide +kernel
theorem dX8_keepPast_89 : decode cX8_keepPast 89 = .ok (.goto (-36), 3) := by decide +kernel
theorem dX8_keepPast_92 : decode cX8_keepPast 92 = .ok (.aload_n 0, 1) := by decide +kernel
theorem dX8_keepPast_93 : decode cX8_keepPast 93 = .ok (.getfield 7, 3) := by decide +kernel
theorem dX8_keepPast_96 : decode cX8_keepPast 96 = .ok (.iconst 3, 1) := by decide +kernel
theorem dX8_keepPast_97 : decode cX8_keepPast 97 = .ok (.dup2, 1) := by decide +kernel
theorem dX8_keepPast_98 : decode cX8_keepPast 98 = .ok (.iaload, 1) := by decide +kernel
theorem dX8_keepPast_99 : decode cX8_keepPast 99 = .ok (.iconst 1, 1) := by decide +kernel
theorem dX8_keepPast_100 : decode cX8_keepPast 100 = .ok (.iadd, 1) := by decide +kernel
theorem dX8_keepPast_101 : decode cX8_keepPast 101 = .ok (.iastore, 1) := by decide +kernel
theorem dX8_keepPast_102 : decode cX8_keepPast 102 = .ok (.return_, 1) := by decide +kernel
theorem dX8_layNow_0 : decode cX8_layNow 0 = .ok (.iconst 0, 1) := by decide +kernel
theorem dX8_layNow_1 : decode cX8_layNow 1 = .ok (.istore_n 1, 1) := by decide +kernel
theorem dX8_layNow_2 : decode cX8_layNow 2 = .ok (.iload_n 1, 1) := by decide +kernel
theorem dX8_layNow_3 : decode cX8_layNow 3 = .ok (.bipush 16, 2) := by decide +kernel
theorem dX8_layNow_5 : decode cX8_layNow 5 = .ok (.if_icmp .ge 23, 3) := by decide +kernel
theorem dX8_layNow_8 : decode cX8_layNow 8 = .ok (.aload_n 0, 1) := by decide +kernel
theorem dX8_layNow_9 : decode cX8_layNow 9 = .ok (.getfield 7, 3) := by decide +kernel
theorem dX8_layNow_12 : decode cX8_layNow 12 = .ok (.iconst 4, 1) := by decide +kernel
theorem dX8_layNow_13 : decode cX8_layNow 13 = .ok (.iload_n 1, 1) := by decide +kernel
theorem dX8_layNow_14 : decode cX8_layNow 14 = .ok (.iadd, 1) := by decide +kernel
theorem dX8_layNow_15 : decode cX8_layNow 15 = .ok (.aload_n 0, 1) := by decide +kernel
theorem dX8_layNow_16 : decode cX8_layNow 16 = .ok (.getfield 27, 3) := by decide +kernel
theorem dX8_layNow_19 : decode cX8_layNow 19 = .ok (.iload_n 1, 1) := by decide +kernel
theorem dX8_layNow_20 : decode cX8_layNow 20 = .ok (.iaload, 1) := by decide +kernel
theorem dX8_layNow_21 : decode cX8_layNow 21 = .ok (.iastore, 1) := by decide +kernel
theorem dX8_layNow_22 : decode cX8_layNow 22 = .ok (.iinc 1 1, 3) := by decide +kernel
theorem dX8_layNow_25 : decode cX8_layNow 25 = .ok (.goto (-23), 3) := by decide +kernel
theorem dX8_layNow_28 : decode cX8_layNow 28 = .ok (.return_, 1) := by decide +kernel
theorem dX8_work_0 : decode cX8_work 0 = .ok (.aload_n 0, 1) := by decide +kernel
theorem dX8_work_1 : decode cX8_work 1 = .ok (.iload_n 1, 1) := by decide +kernel
theorem dX8_work_2 : decode cX8_work 2 = .ok (.invokevirtual 107, 3) := by decide +kernel
theorem dX8_work_5 : decode cX8_work 5 = .ok (.ifCond .eq 22, 3) := by decide +kernel
theorem dX8_work_8 : decode cX8_work 8 = .ok (.iload_n 2, 1) := by decide +kernel
theorem dX8_work_9 : decode cX8_work 9 = .ok (.invokestatic 110, 3) := by decide +kernel
theorem dX8_work_12 : decode cX8_work 12 = .ok (.ifCond .eq 15, 3) := by decide +kernel
theorem dX8_work_15 : decode cX8_work 15 = .ok (.iload_n 3, 1) := by decide +kernel
theorem dX8_work_16 : decode cX8_work 16 = .ok (.i2l, 1) := by decide +kernel
theorem dX8_work_17 : decode cX8_work 17 = .ok (.lconst 1, 1) := by decide +kernel
theorem dX8_work_18 : decode cX8_work 18 = .ok (.ldc2_w 70, 3) := by decide +kernel
theorem dX8_work_21 : decode cX8_work 21 = .ok (.invokestatic 56, 3) := by decide +kernel
theorem dX8_work_24 : decode cX8_work 24 = .ok (.ifCond .ne 10, 3) := by decide +kernel
theorem dX8_work_27 : decode cX8_work 27 = .ok (.aload_n 0, 1) := by decide +kernel
theorem dX8_work_28 : decode cX8_work 28 = .ok (.bipush (-2), 2) := by decide +kernel
theorem dX8_work_30 : decode cX8_work 30 = .ok (.invokevirtual 66, 3) := by decide +kernel
theorem dX8_work_33 : decode cX8_work 33 = .ok (.ireturn, 1) := by decide +kernel
theorem dX8_work_34 : decode cX8_work 34 = .ok (.aload_n 0, 1) := by decide +kernel
theorem dX8_work_35 : decode cX8_work 35 = .ok (.invokevirtual 113, 3) := by decide +kernel
theorem dX8_work_38 : decode cX8_work 38 = .ok (.aload_n 0, 1) := by decide +kernel
theorem dX8_work_39 : decode cX8_work 39 = .ok (.invokevirtual 116, 3) := by decide +kernel
theorem dX8_work_42 : decode cX8_work 42 = .ok (.aload_n 0, 1) := by decide +kernel
theorem dX8_work_43 : decode cX8_work 43 = .ok (.iload_n 1, 1) := by decide +kernel
theorem dX8_work_44 : decode cX8_work 44 = .ok (.iload_n 2, 1) := by decide +kernel
theorem dX8_work_45 : decode cX8_work 45 = .ok (.iload_n 3, 1) := by decide +kernel
theorem dX8_work_46 : decode cX8_work 46 = .ok (.invokevirtual 119, 3) := by decide +kernel
theorem dX8_work_49 : decode cX8_work 49 = .ok (.istore 4, 2) := by decide +kernel
theorem dX8_work_51 : decode cX8_work 51 = .ok (.aload_n 0, 1) := by decide +kernel
theorem dX8_work_52 : decode cX8_work 52 = .ok (.invokevirtual 122, 3) := by decide +kernel
theorem dX8_work_55 : decode cX8_work 55 = .ok (.iload 4, 2) := by decide +kernel
theorem dX8_work_57 : decode cX8_work 57 = .ok (.ireturn, 1) := by decide +kernel
theorem dX8_day_0 : decode cX8_day 0 = .ok (.iload_n 1, 1) := by decide +kernel
theorem dX8_day_1 : decode cX8_day 1 = .ok (.i2l, 1) := by decide +kernel
theorem dX8_day_2 : decode cX8_day 2 = .ok (.lconst 1, 1) := by decide +kernel
theorem dX8_day_3 : decode cX8_day 3 = .ok (.ldc2_w 125, 3) := by decide +kernel
theorem dX8_day_6 : decode cX8_day 6 = .ok (.invokestatic 56, 3) := by decide +kernel
theorem dX8_day_9 : decode cX8_day 9 = .ok (.ifCond .ne 10, 3) := by decide +kernel
theorem dX8_day_12 : decode cX8_day 12 = .ok (.aload_n 0, 1) := by decide +kernel
theorem dX8_day_13 : decode cX8_day 13 = .ok (.bipush (-2), 2) := by decide +kernel
theorem dX8_day_15 : decode cX8_day 15 = .ok (.invokevirtual 66, 3) := by decide +kernel
theorem dX8_day_18 : decode cX8_day 18 = .ok (.ireturn, 1) := by decide +kernel
theorem dX8_day_19 : decode cX8_day 19 = .ok (.aload_n 0, 1) := by decide +kernel
theorem dX8_day_20 : decode cX8_day 20 = .ok (.invokevirtual 113, 3) := by decide +kernel
theorem dX8_day_23 : decode cX8_day 23 = .ok (.aload_n 0, 1) := by decide +kernel
theorem dX8_day_24 : decode cX8_day 24 = .ok (.invokevirtual 116, 3) := by decide +kernel
theorem dX8_day_27 : decode cX8_day 27 = .ok (.iconst 0, 1) := by decide +kernel
theorem dX8_day_28 : decode cX8_day 28 = .ok (.istore_n 2, 1) := by decide +kernel
theorem dX8_day_29 : decode cX8_day 29 = .ok (.iload_n 2, 1) := by decide +kernel
theorem dX8_day_30 : decode cX8_day 30 = .ok (.iload_n 1, 1) := by decide +kernel
theorem dX8_day_31 : decode cX8_day 31 = .ok (.if_icmp .ge 37, 3) := by decide +kernel
theorem dX8_day_34 : decode cX8_day 34 = .ok (.aload_n 0, 1) := by decide +kernel
theorem dX8_day_35 : decode cX8_day 35 = .ok (.invokevirtual 127, 3) := by decide +kernel
theorem dX8_day_38 : decode cX8_day 38 = .ok (.aload_n 0, 1) := by decide +kernel
theorem dX8_day_39 : decode cX8_day 39 = .ok (.aload_n 0, 1) := by decide +kernel
theorem dX8_day_40 : decode cX8_day 40 = .ok (.getfield 83, 3) := by decide +kernel
theorem dX8_day_43 : decode cX8_day 43 = .ok (.sipush 999, 3) := by decide +kernel
theorem dX8_day_46 : decode cX8_day 46 = .ok (.if_icmp .le 9, 3) := by decide +kernel
theorem dX8_day_49 : decode cX8_day 49 = .ok (.sipush 999, 3) := by decide +kernel
theorem dX8_day_52 : decode cX8_day 52 = .ok (.goto 7, 3) := by decide +kernel
theorem dX8_day_55 : decode cX8_day 55 = .ok (.aload_n 0, 1) := by decide +kernel
theorem dX8_day_56 : decode cX8_day 56 = .ok (.getfield 83, 3) := by decide +kernel
theorem dX8_day_59 : decode cX8_day 59 = .ok (.putfield 83, 3) := by decide +kernel
theorem dX8_day_62 : decode cX8_day 62 = .ok (.iinc 2 1, 3) := by decide +kernel
theorem dX8_day_65 : decode cX8_day 65 = .ok (.goto (-36), 3) := by decide +kernel
theorem dX8_day_68 : decode cX8_day 68 = .ok (.aload_n 0, 1) := by decide +kernel
theorem dX8_day_69 : decode cX8_day 69 = .ok (.invokevirtual 122, 3) := by decide +kernel
theorem dX8_day_72 : decode cX8_day 72 = .ok (.aload_n 0, 1) := by decide +kernel
theorem dX8_day_73 : decode cX8_day 73 = .ok (.getfield 7, 3) := by decide +kernel
theorem dX8_day_76 : decode cX8_day 76 = .ok (.bipush 20, 2) := by decide +kernel
theorem dX8_day_78 : decode cX8_day 78 = .ok (.aload_n 0, 1) := by decide +kernel
theorem dX8_day_79 : decode cX8_day 79 = .ok (.getfield 83, 3) := by decide +kernel
theorem dX8_day_82 : decode cX8_day 82 = .ok (.iastore, 1) := by decide +kernel
theorem dX8_day_83 : decode cX8_day 83 = .ok (.aload_n 0, 1) := by decide +kernel
theorem dX8_day_84 : decode cX8_day 84 = .ok (.getfield 7, 3) := by decide +kernel
theorem dX8_day_87 : decode cX8_day 87 = .ok (.bipush 20, 2) := by decide +kernel
theorem dX8_day_89 : decode cX8_day 89 = .ok (.iaload, 1) := by decide +kernel
theorem dX8_day_90 : decode cX8_day 90 = .ok (.ireturn, 1) := by decide +kernel
theorem dX8_salt_0 : decode cX8_salt 0 = .ok (.aload_n 0, 1) := by decide +kernel
theorem dX8_salt_1 : decode cX8_salt 1 = .ok (.iload_n 1, 1) := by decide +kernel
theorem dX8_salt_2 : decode cX8_salt 2 = .ok (.invokevirtual 107, 3) := by decide +kernel
theorem dX8_salt_5 : decode cX8_salt 5 = .ok (.ifCond .eq 10, 3) := by decide +kernel
theorem dX8_salt_8 : decode cX8_salt 8 = .ok (.iload_n 2, 1) := by decide +kernel
theorem dX8_salt_9 : decode cX8_salt 9 = .ok (.invokestatic 110, 3) := by decide +kernel
theorem dX8_salt_12 : decode cX8_salt 12 = .ok (.ifCond .ne 10, 3) := by decide +kernel
theorem dX8_salt_15 : decode cX8_salt 15 = .ok (.aload_n 0, 1) := by decide +kernel
theorem dX8_salt_16 : decode cX8_salt 16 = .ok (.bipush (-2), 2) := by decide +kernel
theorem dX8_salt_18 : decode cX8_salt 18 = .ok (.invokevirtual 66, 3) := by decide +kernel
theorem dX8_salt_21 : decode cX8_salt 21 = .ok (.ireturn, 1) := by decide +kernel
theorem dX8_salt_22 : decode cX8_salt 22 = .ok (.aload_n 0, 1) := by decide +kernel
theorem dX8_salt_23 : decode cX8_salt 23 = .ok (.getfield 7, 3) := by decide +kernel
theorem dX8_salt_26 : decode cX8_salt 26 = .ok (.iconst 4, 1) := by decide +kernel
theorem dX8_salt_27 : decode cX8_salt 27 = .ok (.iconst 4, 1) := by decide +kernel
theorem dX8_salt_28 : decode cX8_salt 28 = .ok (.iload_n 1, 1) := by decide +kernel
theorem dX8_salt_29 : decode cX8_salt 29 = .ok (.imul, 1) := by decide +kernel
theorem dX8_salt_30 : decode cX8_salt 30 = .ok (.iadd, 1) := by decide +kernel
theorem dX8_salt_31 : decode cX8_salt 31 = .ok (.iload_n 2, 1) := by decide +kernel
theorem dX8_salt_32 : decode cX8_salt 32 = .ok (.iadd, 1) := by decide +kernel
theorem dX8_salt_33 : decode cX8_salt 33 = .ok (.iaload, 1) := by decide +kernel
theorem dX8_salt_34 : decode cX8_salt 34 = .ok (.istore_n 3, 1) := by decide +kernel
theorem dX8_salt_35 : decode cX8_salt 35 = .ok (.aload_n 0, 1) := by decide +kernel
theorem dX8_salt_36 : decode cX8_salt 36 = .ok (.invokevirtual 113, 3) := by decide +kernel
theorem dX8_salt_39 : decode cX8_salt 39 = .ok (.aload_n 0, 1) := by decide +kernel
theorem dX8_salt_40 : decode cX8_salt 40 = .ok (.getfield 7, 3) := by decide +kernel
theorem dX8_salt_43 : decode cX8_salt 43 = .ok (.iconst 4, 1) := by decide +kernel
theorem dX8_salt_44 : decode cX8_salt 44 = .ok (.iconst 4, 1) := by decide +kernel
theorem dX8_salt_45 : decode cX8_salt 45 = .ok (.iload_n 1, 1) := by decide +kernel
theorem dX8_salt_46 : decode cX8_salt 46 = .ok (.imul, 1) := by decide +kernel
theorem dX8_salt_47 : decode cX8_salt 47 = .ok (.iadd, 1) := by decide +kernel
theorem dX8_salt_48 : decode cX8_salt 48 = .ok (.iload_n 2, 1) := by decide +kernel
theorem dX8_salt_49 : decode cX8_salt 49 = .ok (.iadd, 1) := by decide +kernel
theorem dX8_salt_50 : decode cX8_salt 50 = .ok (.iconst 0, 1) := by decide +kernel
theorem dX8_salt_51 : decode cX8_salt 51 = .ok (.iastore, 1) := by decide +kernel
theorem dX8_salt_52 : decode cX8_salt 52 = .ok (.iload_n 3, 1) := by decide +kernel
theorem dX8_salt_53 : decode cX8_salt 53 = .ok (.ireturn, 1) := by decide +kernel
theorem dX8_hand_0 : decode cX8_hand 0 = .ok (.iload_n 1, 1) := by decide +kernel
theorem dX8_hand_1 : decode cX8_hand 1 = .ok (.i2l, 1) := by decide +kernel
theorem dX8_hand_2 : decode cX8_hand 2 = .ok (.lconst 0, 1) := by decide +kernel
theorem dX8_hand_3 : decode cX8_hand 3 = .ok (.ldc2_w 64, 3) := by decide +kernel
theorem dX8_hand_6 : decode cX8_hand 6 = .ok (.invokestatic 56, 3) := by decide +kernel
theorem dX8_hand_9 : decode cX8_hand 9 = .ok (.ifCond .ne 10, 3) := by decide +kernel
theorem dX8_hand_12 : decode cX8_hand 12 = .ok (.aload_n 0, 1) := by decide +kernel
theorem dX8_hand_13 : decode cX8_hand 13 = .ok (.bipush (-2), 2) := by decide +kernel
theorem dX8_hand_15 : decode cX8_hand 15 = .ok (.invokevirtual 66, 3) := by decide +kernel
theorem dX8_hand_18 : decode cX8_hand 18 = .ok (.ireturn, 1) := by decide +kernel
theorem dX8_hand_19 : decode cX8_hand 19 = .ok (.aload_n 0, 1) := by decide +kernel
theorem dX8_hand_20 : decode cX8_hand 20 = .ok (.getfield 7, 3) := by decide +kernel
theorem dX8_hand_23 : decode cX8_hand 23 = .ok (.bipush 21, 2) := by decide +kernel
theorem dX8_hand_25 : decode cX8_hand 25 = .ok (.iaload, 1) := by decide +kernel
theorem dX8_hand_26 : decode cX8_hand 26 = .ok (.istore_n 2, 1) := by decide +kernel
theorem dX8_hand_27 : decode cX8_hand 27 = .ok (.aload_n 0, 1) := by decide +kernel
theorem dX8_hand_28 : decode cX8_hand 28 = .ok (.invokevirtual 113, 3) := by decide +kernel
theorem dX8_hand_31 : decode cX8_hand 31 = .ok (.aload_n 0, 1) := by decide +kernel
theorem dX8_hand_32 : decode cX8_hand 32 = .ok (.getfield 7, 3) := by decide +kernel
theorem dX8_hand_35 : decode cX8_hand 35 = .ok (.bipush 21, 2) := by decide +kernel
theorem dX8_hand_37 : decode cX8_hand 37 = .ok (.iload_n 1, 1) := by decide +kernel
theorem dX8_hand_38 : decode cX8_hand 38 = .ok (.iastore, 1) := by decide +kernel
theorem dX8_hand_39 : decode cX8_hand 39 = .ok (.iload_n 2, 1) := by decide +kernel
theorem dX8_hand_40 : decode cX8_hand 40 = .ok (.ireturn, 1) := by decide +kernel
theorem dX8_undo_0 : decode cX8_undo 0 = .ok (.aload_n 0, 1) := by decide +kernel
theorem dX8_undo_1 : decode cX8_undo 1 = .ok (.getfield 7, 3) := by decide +kernel
theorem dX8_undo_4 : decode cX8_undo 4 = .ok (.iconst 3, 1) := by decide +kernel
theorem dX8_undo_5 : decode cX8_undo 5 = .ok (.iaload, 1) := by decide +kernel
theorem dX8_undo_6 : decode cX8_undo 6 = .ok (.ifCond .ne 8, 3) := by decide +kernel
theorem dX8_undo_9 : decode cX8_undo 9 = .ok (.aload_n 0, 1) := by decide +kernel
theorem dX8_undo_10 : decode cX8_undo 10 = .ok (.invokevirtual 130, 3) := by decide +kernel
theorem dX8_undo_13 : decode cX8_undo 13 = .ok (.ireturn, 1) := by decide +kernel
theorem dX8_undo_14 : decode cX8_undo 14 = .ok (.aload_n 0, 1) := by decide +kernel
theorem dX8_undo_15 : decode cX8_undo 15 = .ok (.getfield 7, 3) := by decide +kernel
theorem dX8_undo_18 : decode cX8_undo 18 = .ok (.iconst 3, 1) := by decide +kernel
theorem dX8_undo_19 : decode cX8_undo 19 = .ok (.dup2, 1) := by decide +kernel
theorem dX8_undo_20 : decode cX8_undo 20 = .ok (.iaload, 1) := by decide +kernel
theorem dX8_undo_21 : decode cX8_undo 21 = .ok (.iconst 1, 1) := by decide +kernel
theorem dX8_undo_22 : decode cX8_undo 22 = .ok (.isub, 1) := by decide +kernel
theorem dX8_undo_23 : decode cX8_undo 23 = .ok (.iastore, 1) := by decide +kernel
theorem dX8_undo_24 : decode cX8_undo 24 = .ok (.iconst 0, 1) := by decide +kernel
theorem dX8_undo_25 : decode cX8_undo 25 = .ok (.istore_n 1, 1) := by decide +kernel
theorem dX8_undo_26 : decode cX8_undo 26 = .ok (.iload_n 1, 1) := by decide +kernel
theorem dX8_undo_27 : decode cX8_undo 27 = .ok (.bipush 18, 2) := by decide +kernel
theorem dX8_undo_29 : decode cX8_undo 29 = .ok (.if_icmp .ge 36, 3) := by decide +kernel
theorem dX8_undo_32 : decode cX8_undo 32 = .ok (.aload_n 0, 1) := by decide +kernel
theorem dX8_undo_33 : decode cX8_undo 33 = .ok (.getfield 7, 3) := by decide +kernel
theorem dX8_undo_36 : decode cX8_undo 36 = .ok (.iconst 4, 1) := by decide +kernel
theorem dX8_undo_37 : decode cX8_undo 37 = .ok (.iload_n 1, 1) := by decide +kernel
theorem dX8_undo_38 : decode cX8_undo 38 = .ok (.iadd, 1) := by decide +kernel
theorem dX8_undo_39 : decode cX8_undo 39 = .ok (.aload_n 0, 1) := by decide +kernel
theorem dX8_undo_40 : decode cX8_undo 40 = .ok (.getfield 7, 3) := by decide +kernel
theorem dX8_undo_43 : decode cX8_undo 43 = .ok (.bipush 74, 2) := by decide +kernel
theorem dX8_undo_45 : decode cX8_undo 45 = .ok (.bipush 18, 2) := by decide +kernel
theorem dX8_undo_47 : decode cX8_undo 47 = .ok (.aload_n 0, 1) := by decide +kernel
theorem dX8_undo_48 : decode cX8_undo 48 = .ok (.getfield 7, 3) := by decide +kernel
theorem dX8_undo_51 : decode cX8_undo 51 = .ok (.iconst 3, 1) := by decide +kernel
theorem dX8_undo_52 : decode cX8_undo 52 = .ok (.iaload, 1) := by decide +kernel
theorem dX8_undo_53 : decode cX8_undo 53 = .ok (.imul, 1) := by decide +kernel
theorem dX8_undo_54 : decode cX8_undo 54 = .ok (.iadd, 1) := by decide +kernel
theorem dX8_undo_55 : decode cX8_undo 55 = .ok (.iload_n 1, 1) := by decide +kernel
theorem dX8_undo_56 : decode cX8_undo 56 = .ok (.iadd, 1) := by decide +kernel
theorem dX8_undo_57 : decode cX8_undo 57 = .ok (.iaload, 1) := by decide +kernel
theorem dX8_undo_58 : decode cX8_undo 58 = .ok (.iastore, 1) := by decide +kernel
theorem dX8_undo_59 : decode cX8_undo 59 = .ok (.iinc 1 1, 3) := by decide +kernel
theorem dX8_undo_62 : decode cX8_undo 62 = .ok (.goto (-36), 3) := by decide +kernel
theorem dX8_undo_65 : decode cX8_undo 65 = .ok (.aload_n 0, 1) := by decide +kernel
theorem dX8_undo_66 : decode cX8_undo 66 = .ok (.getfield 7, 3) := by decide +kernel
theorem dX8_undo_69 : decode cX8_undo 69 = .ok (.bipush 20, 2) := by decide +kernel
theorem dX8_undo_71 : decode cX8_undo 71 = .ok (.iaload, 1) := by decide +kernel
theorem dX8_undo_72 : decode cX8_undo 72 = .ok (.ireturn, 1) := by decide +kernel
theorem dX8_of_0 : decode cX8_of 0 = .ok (.aload_n 0, 1) := by decide +kernel
theorem dX8_of_1 : decode cX8_of 1 = .ok (.iload_n 1, 1) := by decide +kernel
theorem dX8_of_2 : decode cX8_of 2 = .ok (.invokevirtual 107, 3) := by decide +kernel
theorem dX8_of_5 : decode cX8_of 5 = .ok (.ifCond .eq 15, 3) := by decide +kernel
theorem dX8_of_8 : decode cX8_of 8 = .ok (.iload_n 2, 1) := by decide +kernel
theorem dX8_of_9 : decode cX8_of 9 = .ok (.i2l, 1) := by decide +kernel
theorem dX8_of_10 : decode cX8_of 10 = .ok (.lconst 0, 1) := by decide +kernel
theorem dX8_of_11 : decode cX8_of 11 = .ok (.ldc2_w 133, 3) := by decide +kernel
theorem dX8_of_14 : decode cX8_of 14 = .ok (.invokestatic 56, 3) := by decide +kernel
theorem dX8_of_17 : decode cX8_of 17 = .ok (.ifCond .ne 10, 3) := by decide +kernel
theorem dX8_of_20 : decode cX8_of 20 = .ok (.aload_n 0, 1) := by decide +kernel
theorem dX8_of_21 : decode cX8_of 21 = .ok (.bipush (-2), 2) := by decide +kernel
theorem dX8_of_23 : decode cX8_of 23 = .ok (.invokevirtual 66, 3) := by decide +kernel
theorem dX8_of_26 : decode cX8_of 26 = .ok (.ireturn, 1) := by decide +kernel
theorem dX8_of_27 : decode cX8_of 27 = .ok (.iload_n 2, 1) := by decide +kernel
theorem dX8_of_28 : decode cX8_of 28 = .ok (.ifCond .ne 11, 3) := by decide +kernel
theorem dX8_of_31 : decode cX8_of 31 = .ok (.aload_n 0, 1) := by decide +kernel
theorem dX8_of_32 : decode cX8_of 32 = .ok (.iload_n 1, 1) := by decide +kernel
theorem dX8_of_33 : decode cX8_of 33 = .ok (.invokevirtual 87, 3) := by decide +kernel
theorem dX8_of_36 : decode cX8_of 36 = .ok (.goto 17, 3) := by decide +kernel
theorem dX8_of_39 : decode cX8_of 39 = .ok (.aload_n 0, 1) := by decide +kernel
theorem dX8_of_40 : decode cX8_of 40 = .ok (.getfield 7, 3) := by decide +kernel
theorem dX8_of_43 : decode cX8_of 43 = .ok (.iconst 4, 1) := by decide +kernel
theorem dX8_of_44 : decode cX8_of 44 = .ok (.iconst 4, 1) := by decide +kernel
theorem dX8_of_45 : decode cX8_of 45 = .ok (.iload_n 1, 1) := by decide +kernel
theorem dX8_of_46 : decode cX8_of 46 = .ok (.imul, 1) := by decide +kernel
theorem dX8_of_47 : decode cX8_of 47 = .ok (.iadd, 1) := by decide +kernel
theorem dX8_of_48 : decode cX8_of 48 = .ok (.iload_n 2, 1) := by decide +kernel
theorem dX8_of_49 : decode cX8_of 49 = .ok (.iadd, 1) := by decide +kernel
theorem dX8_of_50 : decode cX8_of 50 = .ok (.iconst 1, 1) := by decide +kernel
theorem dX8_of_51 : decode cX8_of 51 = .ok (.isub, 1) := by decide +kernel
theorem dX8_of_52 : decode cX8_of 52 = .ok (.iaload, 1) := by decide +kernel
theorem dX8_of_53 : decode cX8_of 53 = .ok (.ireturn, 1) := by decide +kernel
theorem dX8_up_0 : decode cX8_up 0 = .ok (.aload_n 0, 1) := by decide +kernel
theorem dX8_up_1 : decode cX8_up 1 = .ok (.iload_n 1, 1) := by decide +kernel
theorem dX8_up_2 : decode cX8_up 2 = .ok (.invokevirtual 107, 3) := by decide +kernel
theorem dX8_up_5 : decode cX8_up 5 = .ok (.ifCond .eq 10, 3) := by decide +kernel
theorem dX8_up_8 : decode cX8_up 8 = .ok (.iload_n 2, 1) := by decide +kernel
theorem dX8_up_9 : decode cX8_up 9 = .ok (.invokestatic 110, 3) := by decide +kernel
theorem dX8_up_12 : decode cX8_up 12 = .ok (.ifCond .ne 10, 3) := by decide +kernel
theorem dX8_up_15 : decode cX8_up 15 = .ok (.aload_n 0, 1) := by decide +kernel
theorem dX8_up_16 : decode cX8_up 16 = .ok (.bipush (-2), 2) := by decide +kernel
theorem dX8_up_18 : decode cX8_up 18 = .ok (.invokevirtual 66, 3) := by decide +kernel
theorem dX8_up_21 : decode cX8_up 21 = .ok (.ireturn, 1) := by decide +kernel
theorem dX8_up_22 : decode cX8_up 22 = .ok (.aload_n 0, 1) := by decide +kernel
theorem dX8_up_23 : decode cX8_up 23 = .ok (.invokevirtual 116, 3) := by decide +kernel
theorem dX8_up_26 : decode cX8_up 26 = .ok (.aload_n 0, 1) := by decide +kernel
theorem dX8_up_27 : decode cX8_up 27 = .ok (.iload_n 1, 1) := by decide +kernel
theorem dX8_up_28 : decode cX8_up 28 = .ok (.iload_n 2, 1) := by decide +kernel
theorem dX8_up_29 : decode cX8_up 29 = .ok (.invokevirtual 94, 3) := by decide +kernel
theorem dX8_up_32 : decode cX8_up 32 = .ok (.ireturn, 1) := by decide +kernel
theorem dX8_foreign_0 : decode cX8_foreign 0 = .ok (.aload_n 0, 1) := by decide +kernel
theorem dX8_foreign_1 : decode cX8_foreign 1 = .ok (.iload_n 1, 1) := by decide +kernel
theorem dX8_foreign_2 : decode cX8_foreign 2 = .ok (.invokevirtual 107, 3) := by decide +kernel
theorem dX8_foreign_5 : decode cX8_foreign 5 = .ok (.ifCond .eq 10, 3) := by decide +kernel
theorem dX8_foreign_8 : decode cX8_foreign 8 = .ok (.iload_n 2, 1) := by decide +kernel
theorem dX8_foreign_9 : decode cX8_foreign 9 = .ok (.invokestatic 110, 3) := by decide +kernel
theorem dX8_foreign_12 : decode cX8_foreign 12 = .ok (.ifCond .ne 10, 3) := by decide +kernel
theorem dX8_foreign_15 : decode cX8_foreign 15 = .ok (.aload_n 0, 1) := by decide +kernel
theorem dX8_foreign_16 : decode cX8_foreign 16 = .ok (.bipush (-2), 2) := by decide +kernel
theorem dX8_foreign_18 : decode cX8_foreign 18 = .ok (.invokevirtual 66, 3) := by decide +kernel
theorem dX8_foreign_21 : decode cX8_foreign 21 = .ok (.ireturn, 1) := by decide +kernel
theorem dX8_foreign_22 : decode cX8_foreign 22 = .ok (.aload_n 0, 1) := by decide +kernel
theorem dX8_foreign_23 : decode cX8_foreign 23 = .ok (.invokevirtual 116, 3) := by decide +kernel
theorem dX8_foreign_26 : decode cX8_foreign 26 = .ok (.aload_n 0, 1) := by decide +kernel
theorem dX8_foreign_27 : decode cX8_foreign 27 = .ok (.iload_n 1, 1) := by decide +kernel
theorem dX8_foreign_28 : decode cX8_foreign 28 = .ok (.iload_n 2, 1) := by decide +kernel
theorem dX8_foreign_29 : decode cX8_foreign 29 = .ok (.invokevirtual 98, 3) := by decide +kernel
theorem dX8_foreign_32 : decode cX8_foreign 32 = .ok (.ireturn, 1) := by decide +kernel
theorem dX8_then_0 : decode cX8_then 0 = .ok (.aload_n 0, 1) := by decide +kernel
theorem dX8_then_1 : decode cX8_then 1 = .ok (.iload_n 1, 1) := by decide +kernel
theorem dX8_then_2 : decode cX8_then 2 = .ok (.invokevirtual 107, 3) := by decide +kernel
theorem dX8_then_5 : decode cX8_then 5 = .ok (.ifCond .eq 22, 3) := by decide +kernel
theorem dX8_then_8 : decode cX8_then 8 = .ok (.iload_n 2, 1) := by decide +kernel
theorem dX8_then_9 : decode cX8_then 9 = .ok (.invokestatic 110, 3) := by decide +kernel
theorem dX8_then_12 : decode cX8_then 12 = .ok (.ifCond .eq 15, 3) := by decide +kernel
theorem dX8_then_15 : decode cX8_then 15 = .ok (.iload_n 3, 1) := by decide +kernel
theorem dX8_then_16 : decode cX8_then 16 = .ok (.i2l, 1) := by decide +kernel
theorem dX8_then_17 : decode cX8_then 17 = .ok (.lconst 0, 1) := by decide +kernel
theorem dX8_then_18 : decode cX8_then 18 = .ok (.ldc2_w 135, 3) := by decide +kernel
theorem dX8_then_21 : decode cX8_then 21 = .ok (.invokestatic 56, 3) := by decide +kernel
theorem dX8_then_24 : decode cX8_then 24 = .ok (.ifCond .ne 10, 3) := by decide +kernel
theorem dX8_then_27 : decode cX8_then 27 = .ok (.aload_n 0, 1) := by decide +kernel
theorem dX8_then_28 : decode cX8_then 28 = .ok (.bipush (-2), 2) := by decide +kernel
theorem dX8_then_30 : decode cX8_then 30 = .ok (.invokevirtual 66, 3) := by decide +kernel
theorem dX8_then_33 : decode cX8_then 33 = .ok (.ireturn, 1) := by decide +kernel
theorem dX8_then_34 : decode cX8_then 34 = .ok (.aload_n 0, 1) := by decide +kernel
theorem dX8_then_35 : decode cX8_then 35 = .ok (.invokevirtual 116, 3) := by decide +kernel
theorem dX8_then_38 : decode cX8_then 38 = .ok (.iconst 0, 1) := by decide +kernel
theorem dX8_then_39 : decode cX8_then 39 = .ok (.istore 4, 2) := by decide +kernel
theorem dX8_then_41 : decode cX8_then 41 = .ok (.iload 4, 2) := by decide +kernel
theorem dX8_then_43 : decode cX8_then 43 = .ok (.iload_n 3, 1) := by decide +kernel
theorem dX8_then_44 : decode cX8_then 44 = .ok (.if_icmp .ge 13, 3) := by decide +kernel
theorem dX8_then_47 : decode cX8_then 47 = .ok (.aload_n 0, 1) := by decide +kernel
theorem dX8_then_48 : decode cX8_then 48 = .ok (.invokevirtual 127, 3) := by decide +kernel
theorem dX8_then_51 : decode cX8_then 51 = .ok (.iinc 4 1, 3) := by decide +kernel
theorem dX8_then_54 : decode cX8_then 54 = .ok (.goto (-13), 3) := by decide +kernel
theorem dX8_then_57 : decode cX8_then 57 = .ok (.aload_n 0, 1) := by decide +kernel
theorem dX8_then_58 : decode cX8_then 58 = .ok (.getfield 27, 3) := by decide +kernel
theorem dX8_then_61 : decode cX8_then 61 = .ok (.iconst 4, 1) := by decide +kernel
theorem dX8_then_62 : decode cX8_then 62 = .ok (.iload_n 1, 1) := by decide +kernel
theorem dX8_then_63 : decode cX8_then 63 = .ok (.imul, 1) := by decide +kernel
theorem dX8_then_64 : decode cX8_then 64 = .ok (.iload_n 2, 1) := by decide +kernel
theorem dX8_then_65 : decode cX8_then 65 = .ok (.iadd, 1) := by decide +kernel
theorem dX8_then_66 : decode cX8_then 66 = .ok (.iaload, 1) := by decide +kernel
theorem dX8_then_67 : decode cX8_then 67 = .ok (.ireturn, 1) := by decide +kernel
theorem dX8_sumOf_0 : decode cX8_sumOf 0 = .ok (.iconst 0, 1) := by decide +kernel
theorem dX8_sumOf_1 : decode cX8_sumOf 1 = .ok (.istore_n 2, 1) := by decide +kernel
theorem dX8_sumOf_2 : decode cX8_sumOf 2 = .ok (.iconst 0, 1) := by decide +kernel
theorem dX8_sumOf_3 : decode cX8_sumOf 3 = .ok (.istore_n 3, 1) := by decide +kernel
theorem dX8_sumOf_4 : decode cX8_sumOf 4 = .ok (.iload_n 3, 1) := by decide +kernel
theorem dX8_sumOf_5 : decode cX8_sumOf 5 = .ok (.iconst 4, 1) := by decide +kernel
theorem dX8_sumOf_6 : decode cX8_sumOf 6 = .ok (.if_icmp .ge 22, 3) := by decide +kernel
theorem dX8_sumOf_9 : decode cX8_sumOf 9 = .ok (.iload_n 2, 1) := by decide +kernel
theorem dX8_sumOf_10 : decode cX8_sumOf 10 = .ok (.aload_n 0, 1) := by decide +kernel
theorem dX8_sumOf_11 : decode cX8_sumOf 11 = .ok (.getfield 27, 3) := by decide +kernel
theorem dX8_sumOf_14 : decode cX8_sumOf 14 = .ok (.iconst 4, 1) := by decide +kernel
theorem dX8_sumOf_15 : decode cX8_sumOf 15 = .ok (.iload_n 1, 1) := by decide +kernel
theorem dX8_sumOf_16 : decode cX8_sumOf 16 = .ok (.imul, 1) := by decide +kernel
theorem dX8_sumOf_17 : decode cX8_sumOf 17 = .ok (.iload_n 3, 1) := by decide +kernel
theorem dX8_sumOf_18 : decode cX8_sumOf 18 = .ok (.iadd, 1) := by decide +kernel
theorem dX8_sumOf_19 : decode cX8_sumOf 19 = .ok (.iaload, 1) := by decide +kernel
theorem dX8_sumOf_20 : decode cX8_sumOf 20 = .ok (.iadd, 1) := by decide +kernel
theorem dX8_sumOf_21 : decode cX8_sumOf 21 = .ok (.istore_n 2, 1) := by decide +kernel
theorem dX8_sumOf_22 : decode cX8_sumOf 22 = .ok (.iinc 3 1, 3) := by decide +kernel
theorem dX8_sumOf_25 : decode cX8_sumOf 25 = .ok (.goto (-21), 3) := by decide +kernel
theorem dX8_sumOf_28 : decode cX8_sumOf 28 = .ok (.iload_n 2, 1) := by decide +kernel
theorem dX8_sumOf_29 : decode cX8_sumOf 29 = .ok (.ireturn, 1) := by decide +kernel
theorem dX8_clean_0 : decode cX8_clean 0 = .ok (.aload_n 0, 1) := by decide +kernel
theorem dX8_clean_1 : decode cX8_clean 1 = .ok (.iload_n 1, 1) := by decide +kernel
theorem dX8_clean_2 : decode cX8_clean 2 = .ok (.invokevirtual 107, 3) := by decide +kernel
theorem dX8_clean_5 : decode cX8_clean 5 = .ok (.ifCond .ne 10, 3) := by decide +kernel
theorem dX8_clean_8 : decode cX8_clean 8 = .ok (.aload_n 0, 1) := by decide +kernel
theorem dX8_clean_9 : decode cX8_clean 9 = .ok (.bipush (-2), 2) := by decide +kernel
theorem dX8_clean_11 : decode cX8_clean 11 = .ok (.invokevirtual 66, 3) := by decide +kernel
theorem dX8_clean_14 : decode cX8_clean 14 = .ok (.ireturn, 1) := by decide +kernel
theorem dX8_clean_15 : decode cX8_clean 15 = .ok (.aload_n 0, 1) := by decide +kernel
theorem dX8_clean_16 : decode cX8_clean 16 = .ok (.invokevirtual 116, 3) := by decide +kernel
theorem dX8_clean_19 : decode cX8_clean 19 = .ok (.iconst 0, 1) := by decide +kernel
theorem dX8_clean_20 : decode cX8_clean 20 = .ok (.istore_n 2, 1) := by decide +kernel
theorem dX8_clean_21 : decode cX8_clean 21 = .ok (.iload_n 2, 1) := by decide +kernel
theorem dX8_clean_22 : decode cX8_clean 22 = .ok (.bipush 90, 2) := by decide +kernel
theorem dX8_clean_24 : decode cX8_clean 24 = .ok (.if_icmp .gt 23, 3) := by decide +kernel
theorem dX8_clean_27 : decode cX8_clean 27 = .ok (.aload_n 0, 1) := by decide +kernel
theorem dX8_clean_28 : decode cX8_clean 28 = .ok (.iload_n 1, 1) := by decide +kernel
theorem dX8_clean_29 : decode cX8_clean 29 = .ok (.invokevirtual 137, 3) := by decide +kernel
theorem dX8_clean_32 : decode cX8_clean 32 = .ok (.ifCond .ne 5, 3) := by decide +kernel
theorem dX8_clean_35 : decode cX8_clean 35 = .ok (.iload_n 2, 1) := by decide +kernel
theorem dX8_clean_36 : decode cX8_clean 36 = .ok (.ireturn, 1) := by decide +kernel
theorem dX8_clean_37 : decode cX8_clean 37 = .ok (.aload_n 0, 1) := by decide +kernel
theorem dX8_clean_38 : decode cX8_clean 38 = .ok (.invokevirtual 127, 3) := by decide +kernel
theorem dX8_clean_41 : decode cX8_clean 41 = .ok (.iinc 2 1, 3) := by decide +kernel
theorem dX8_clean_44 : decode cX8_clean 44 = .ok (.goto (-23), 3) := by decide +kernel
theorem dX8_clean_47 : decode cX8_clean 47 = .ok (.iconst (-1), 1) := by decide +kernel
theorem dX8_clean_48 : decode cX8_clean 48 = .ok (.ireturn, 1) := by decide +kernel
theorem dX8_keep_0 : decode cX8_keep 0 = .ok (.aload_n 0, 1) := by decide +kernel
theorem dX8_keep_1 : decode cX8_keep 1 = .ok (.iload_n 1, 1) := by decide +kernel
theorem dX8_keep_2 : decode cX8_keep 2 = .ok (.invokevirtual 107, 3) := by decide +kernel
theorem dX8_keep_5 : decode cX8_keep 5 = .ok (.ifCond .ne 10, 3) := by decide +kernel
theorem dX8_keep_8 : decode cX8_keep 8 = .ok (.aload_n 0, 1) := by decide +kernel
theorem dX8_keep_9 : decode cX8_keep 9 = .ok (.bipush (-2), 2) := by decide +kernel
theorem dX8_keep_11 : decode cX8_keep 11 = .ok (.invokevirtual 66, 3) := by decide +kernel
theorem dX8_keep_14 : decode cX8_keep 14 = .ok (.ireturn, 1) := by decide +kernel
theorem dX8_keep_15 : decode cX8_keep 15 = .ok (.iconst 0, 1) := by decide +kernel
theorem dX8_keep_16 : decode cX8_keep 16 = .ok (.istore_n 2, 1) := by decide +kernel
theorem dX8_keep_17 : decode cX8_keep 17 = .ok (.iload_n 2, 1) := by decide +kernel
theorem dX8_keep_18 : decode cX8_keep 18 = .ok (.bipush 10, 2) := by decide +kernel
theorem dX8_keep_20 : decode cX8_keep 20 = .ok (.if_icmp .ge 57, 3) := by decide +kernel
theorem dX8_keep_23 : decode cX8_keep 23 = .ok (.iconst 0, 1) := by decide +kernel
theorem dX8_keep_24 : decode cX8_keep 24 = .ok (.istore_n 3, 1) := by decide +kernel
theorem dX8_keep_25 : decode cX8_keep 25 = .ok (.iconst 0, 1) := by decide +kernel
theorem dX8_keep_26 : decode cX8_keep 26 = .ok (.istore 4, 2) := by decide +kernel
theorem dX8_keep_28 : decode cX8_keep 28 = .ok (.iload 4, 2) := by decide +kernel
theorem dX8_keep_30 : decode cX8_keep 30 = .ok (.iconst 4, 1) := by decide +kernel
theorem dX8_keep_31 : decode cX8_keep 31 = .ok (.if_icmp .ge 34, 3) := by decide +kernel
theorem dX8_keep_34 : decode cX8_keep 34 = .ok (.iload_n 3, 1) := by decide +kernel
theorem dX8_keep_35 : decode cX8_keep 35 = .ok (.aload_n 0, 1) := by decide +kernel
theorem dX8_keep_36 : decode cX8_keep 36 = .ok (.iload_n 1, 1) := by decide +kernel
theorem dX8_keep_37 : decode cX8_keep 37 = .ok (.invokevirtual 87, 3) := by decide +kernel
theorem dX8_keep_40 : decode cX8_keep 40 = .ok (.aload_n 0, 1) := by decide +kernel
theorem dX8_keep_41 : decode cX8_keep 41 = .ok (.getfield 7, 3) := by decide +kernel
theorem dX8_keep_44 : decode cX8_keep 44 = .ok (.iconst 4, 1) := by decide +kernel
theorem dX8_keep_45 : decode cX8_keep 45 = .ok (.iconst 4, 1) := by decide +kernel
theorem dX8_keep_46 : decode cX8_keep 46 = .ok (.iload_n 1, 1) := by decide +kernel
theorem dX8_keep_47 : decode cX8_keep 47 = .ok (.imul, 1) := by decide +kernel
theorem dX8_keep_48 : decode cX8_keep 48 = .ok (.iadd, 1) := by decide +kernel
theorem dX8_keep_49 : decode cX8_keep 49 = .ok (.iload 4, 2) := by decide +kernel
theorem dX8_keep_51 : decode cX8_keep 51 = .ok (.iadd, 1) := by decide +kernel
theorem dX8_keep_52 : decode cX8_keep 52 = .ok (.iaload, 1) := by decide +kernel
theorem dX8_keep_53 : decode cX8_keep 53 = .ok (.iload_n 2, 1) := by decide +kernel
theorem dX8_keep_54 : decode cX8_keep 54 = .ok (.invokestatic 90, 3) := by decide +kernel
theorem dX8_keep_57 : decode cX8_keep 57 = .ok (.iadd, 1) := by decide +kernel
theorem dX8_keep_58 : decode cX8_keep 58 = .ok (.istore_n 3, 1) := by decide +kernel
theorem dX8_keep_59 : decode cX8_keep 59 = .ok (.iinc 4 1, 3) := by decide +kernel
theorem dX8_keep_62 : decode cX8_keep 62 = .ok (.goto (-34), 3) := by decide +kernel
theorem dX8_keep_65 : decode cX8_keep 65 = .ok (.iload_n 3, 1) := by decide +kernel
theorem dX8_keep_66 : decode cX8_keep 66 = .ok (.ifCond .ne 5, 3) := by decide +kernel
theorem dX8_keep_69 : decode cX8_keep 69 = .ok (.iload_n 2, 1) := by decide +kernel
theorem dX8_keep_70 : decode cX8_keep 70 = .ok (.ireturn, 1) := by decide +kernel
theorem dX8_keep_71 : decode cX8_keep 71 = .ok (.iinc 2 1, 3) := by decide +kernel
theorem dX8_keep_74 : decode cX8_keep 74 = .ok (.goto (-57), 3) := by decide +kernel
theorem dX8_keep_77 : decode cX8_keep 77 = .ok (.iconst (-1), 1) := by decide +kernel
theorem dX8_keep_78 : decode cX8_keep 78 = .ok (.ireturn, 1) := by decide +kernel
theorem dX8_best_0 : decode cX8_best 0 = .ok (.iload_n 1, 1) := by decide +kernel
theorem dX8_best_1 : decode cX8_best 1 = .ok (.invokestatic 110, 3) := by decide +kernel
theorem dX8_best_4 : decode cX8_best 4 = .ok (.ifCond .ne 10, 3) := by decide +kernel
theorem dX8_best_7 : decode cX8_best 7 = .ok (.aload_n 0, 1) := by decide +kernel
theorem dX8_best_8 : decode cX8_best 8 = .ok (.bipush (-2), 2) := by decide +kernel
theorem dX8_best_10 : decode cX8_best 10 = .ok (.invokevirtual 66, 3) := by decide +kernel
theorem dX8_best_13 : decode cX8_best 13 = .ok (.ireturn, 1) := by decide +kernel
theorem dX8_best_14 : decode cX8_best 14 = .ok (.iconst (-1), 1) := by decide +kernel
theorem dX8_best_15 : decode cX8_best 15 = .ok (.istore_n 2, 1) := by decide +kernel
theorem dX8_best_16 : decode cX8_best 16 = .ok (.aload_n 0, 1) := by decide +kernel
theorem dX8_best_17 : decode cX8_best 17 = .ok (.invokevirtual 116, 3) := by decide +kernel
theorem dX8_best_20 : decode cX8_best 20 = .ok (.iconst 0, 1) := by decide +kernel
theorem dX8_best_21 : decode cX8_best 21 = .ok (.istore_n 3, 1) := by decide +kernel
theorem dX8_best_22 : decode cX8_best 22 = .ok (.iload_n 3, 1) := by decide +kernel
theorem dX8_best_23 : decode cX8_best 23 = .ok (.aload_n 0, 1) := by decide +kernel
theorem dX8_best_24 : decode cX8_best 24 = .ok (.invokevirtual 52, 3) := by decide +kernel
theorem dX8_best_27 : decode cX8_best 27 = .ok (.if_icmp .ge 81, 3) := by decide +kernel
theorem dX8_best_30 : decode cX8_best 30 = .ok (.iload_n 2, 1) := by decide +kernel
theorem dX8_best_31 : decode cX8_best 31 = .ok (.iconst (-1), 1) := by decide +kernel
theorem dX8_best_32 : decode cX8_best 32 = .ok (.if_icmp .ne 7, 3) := by decide +kernel
theorem dX8_best_35 : decode cX8_best 35 = .ok (.iconst 0, 1) := by decide +kernel
theorem dX8_best_36 : decode cX8_best 36 = .ok (.goto 16, 3) := by decide +kernel
theorem dX8_best_39 : decode cX8_best 39 = .ok (.aload_n 0, 1) := by decide +kernel
theorem dX8_best_40 : decode cX8_best 40 = .ok (.iload_n 3, 1) := by decide +kernel
theorem dX8_best_41 : decode cX8_best 41 = .ok (.iload_n 1, 1) := by decide +kernel
theorem dX8_best_42 : decode cX8_best 42 = .ok (.invokevirtual 98, 3) := by decide +kernel
theorem dX8_best_45 : decode cX8_best 45 = .ok (.aload_n 0, 1) := by decide +kernel
theorem dX8_best_46 : decode cX8_best 46 = .ok (.iload_n 2, 1) := by decide +kernel
theorem dX8_best_47 : decode cX8_best 47 = .ok (.iload_n 1, 1) := by decide +kernel
theorem dX8_best_48 : decode cX8_best 48 = .ok (.invokevirtual 98, 3) := by decide +kernel
theorem dX8_best_51 : decode cX8_best 51 = .ok (.isub, 1) := by decide +kernel
theorem dX8_best_52 : decode cX8_best 52 = .ok (.istore 4, 2) := by decide +kernel
theorem dX8_best_54 : decode cX8_best 54 = .ok (.iload_n 2, 1) := by decide +kernel
theorem dX8_best_55 : decode cX8_best 55 = .ok (.iconst (-1), 1) := by decide +kernel
theorem dX8_best_56 : decode cX8_best 56 = .ok (.if_icmp .eq 28, 3) := by decide +kernel
theorem dX8_best_59 : decode cX8_best 59 = .ok (.iload 4, 2) := by decide +kernel
theorem dX8_best_61 : decode cX8_best 61 = .ok (.ifCond .lt 23, 3) := by decide +kernel
theorem dX8_best_64 : decode cX8_best 64 = .ok (.iload 4, 2) := by decide +kernel
theorem dX8_best_66 : decode cX8_best 66 = .ok (.ifCond .ne 22, 3) := by decide +kernel
theorem dX8_best_69 : decode cX8_best 69 = .ok (.aload_n 0, 1) := by decide +kernel
theorem dX8_best_70 : decode cX8_best 70 = .ok (.iload_n 3, 1) := by decide +kernel
theorem dX8_best_71 : decode cX8_best 71 = .ok (.iload_n 1, 1) := by decide +kernel
theorem dX8_best_72 : decode cX8_best 72 = .ok (.invokevirtual 94, 3) := by decide +kernel
theorem dX8_best_75 : decode cX8_best 75 = .ok (.aload_n 0, 1) := by decide +kernel
theorem dX8_best_76 : decode cX8_best 76 = .ok (.iload_n 2, 1) := by decide +kernel
theorem dX8_best_77 : decode cX8_best 77 = .ok (.iload_n 1, 1) := by decide +kernel
theorem dX8_best_78 : decode cX8_best 78 = .ok (.invokevirtual 94, 3) := by decide +kernel
theorem dX8_best_81 : decode cX8_best 81 = .ok (.if_icmp .le 7, 3) := by decide +kernel
theorem dX8_best_84 : decode cX8_best 84 = .ok (.iconst 1, 1) := by decide +kernel
theorem dX8_best_85 : decode cX8_best 85 = .ok (.goto 4, 3) := by decide +kernel
theorem dX8_best_88 : decode cX8_best 88 = .ok (.iconst 0, 1) := by decide +kernel
theorem dX8_best_89 : decode cX8_best 89 = .ok (.istore 5, 2) := by decide +kernel
theorem dX8_best_91 : decode cX8_best 91 = .ok (.iload 5, 2) := by decide +kernel
theorem dX8_best_93 : decode cX8_best 93 = .ok (.ifCond .eq 7, 3) := by decide +kernel
theorem dX8_best_96 : decode cX8_best 96 = .ok (.iload_n 3, 1) := by decide +kernel
theorem dX8_best_97 : decode cX8_best 97 = .ok (.goto 4, 3) := by decide +kernel
theorem dX8_best_100 : decode cX8_best 100 = .ok (.iload_n 2, 1) := by decide +kernel
theorem dX8_best_101 : decode cX8_best 101 = .ok (.istore_n 2, 1) := by decide +kernel
theorem dX8_best_102 : decode cX8_best 102 = .ok (.iinc 3 1, 3) := by decide +kernel
theorem dX8_best_105 : decode cX8_best 105 = .ok (.goto (-83), 3) := by decide +kernel
theorem dX8_best_108 : decode cX8_best 108 = .ok (.iload_n 2, 1) := by decide +kernel
theorem dX8_best_109 : decode cX8_best 109 = .ok (.ireturn, 1) := by decide +kernel
theorem dX8_layOrders_0 : decode cX8_layOrders 0 = .ok (.iload_n 1, 1) := by decide +kernel
theorem dX8_layOrders_1 : decode cX8_layOrders 1 = .ok (.i2l, 1) := by decide +kernel
theorem dX8_layOrders_2 : decode cX8_layOrders 2 = .ok (.lconst 0, 1) := by decide +kernel
theorem dX8_layOrders_3 : decode cX8_layOrders 3 = .ok (.ldc2_w 140, 3) := by decide +kernel
theorem dX8_layOrders_6 : decode cX8_layOrders 6 = .ok (.invokestatic 56, 3) := by decide +kernel
theorem dX8_layOrders_9 : decode cX8_layOrders 9 = .ok (.istore_n 2, 1) := by decide +kernel
theorem dX8_layOrders_10 : decode cX8_layOrders 10 = .ok (.aload_n 0, 1) := by decide +kernel
theorem dX8_layOrders_11 : decode cX8_layOrders 11 = .ok (.iconst 0, 1) := by decide +kernel
theorem dX8_layOrders_12 : decode cX8_layOrders 12 = .ok (.putfield 142, 3) := by decide +kernel
theorem dX8_layOrders_15 : decode cX8_layOrders 15 = .ok (.iload_n 1, 1) := by decide +kernel
theorem dX8_layOrders_16 : decode cX8_layOrders 16 = .ok (.istore_n 3, 1) := by decide +kernel
theorem dX8_layOrders_17 : decode cX8_layOrders 17 = .ok (.iload_n 3, 1) := by decide +kernel
theorem dX8_layOrders_18 : decode cX8_layOrders 18 = .ok (.ifCond .le 38, 3) := by decide +kernel
theorem dX8_layOrders_21 : decode cX8_layOrders 21 = .ok (.iload_n 2, 1) := by decide +kernel
theorem dX8_layOrders_22 : decode cX8_layOrders 22 = .ok (.ifCond .eq 34, 3) := by decide +kernel
theorem dX8_layOrders_25 : decode cX8_layOrders 25 = .ok (.iload_n 3, 1) := by decide +kernel
theorem dX8_layOrders_26 : decode cX8_layOrders 26 = .ok (.bipush 10, 2) := by decide +kernel
theorem dX8_layOrders_28 : decode cX8_layOrders 28 = .ok (.irem, 1) := by decide +kernel
theorem dX8_layOrders_29 : decode cX8_layOrders 29 = .ok (.i2l, 1) := by decide +kernel
theorem dX8_layOrders_30 : decode cX8_layOrders 30 = .ok (.lconst 1, 1) := by decide +kernel
theorem dX8_layOrders_31 : decode cX8_layOrders 31 = .ok (.ldc2_w 133, 3) := by decide +kernel
theorem dX8_layOrders_34 : decode cX8_layOrders 34 = .ok (.invokestatic 56, 3) := by decide +kernel
theorem dX8_layOrders_37 : decode cX8_layOrders 37 = .ok (.istore_n 2, 1) := by decide +kernel
theorem dX8_layOrders_38 : decode cX8_layOrders 38 = .ok (.aload_n 0, 1) := by decide +kernel
theorem dX8_layOrders_39 : decode cX8_layOrders 39 = .ok (.dup, 1) := by decide +kernel
theorem dX8_layOrders_40 : decode cX8_layOrders 40 = .ok (.getfield 142, 3) := by decide +kernel
theorem dX8_layOrders_43 : decode cX8_layOrders 43 = .ok (.iconst 1, 1) := by decide +kernel
theorem dX8_layOrders_44 : decode cX8_layOrders 44 = .ok (.iadd, 1) := by decide +kernel
theorem dX8_layOrders_45 : decode cX8_layOrders 45 = .ok (.putfield 142, 3) := by decide +kernel
theorem dX8_layOrders_48 : decode cX8_layOrders 48 = .ok (.iload_n 3, 1) := by decide +kernel
theorem dX8_layOrders_49 : decode cX8_layOrders 49 = .ok (.bipush 10, 2) := by decide +kernel
theorem dX8_layOrders_51 : decode cX8_layOrders 51 = .ok (.idiv, 1) := by decide +kernel
theorem dX8_layOrders_52 : decode cX8_layOrders 52 = .ok (.istore_n 3, 1) := by decide +kernel
theorem dX8_layOrders_53 : decode cX8_layOrders 53 = .ok (.goto (-36), 3) := by decide +kernel
theorem dX8_layOrders_56 : decode cX8_layOrders 56 = .ok (.iload_n 1, 1) := by decide +kernel
theorem dX8_layOrders_57 : decode cX8_layOrders 57 = .ok (.istore_n 3, 1) := by decide +kernel
theorem dX8_layOrders_58 : decode cX8_layOrders 58 = .ok (.aload_n 0, 1) := by decide +kernel
theorem dX8_layOrders_59 : decode cX8_layOrders 59 = .ok (.getfield 142, 3) := by decide +kernel
theorem dX8_layOrders_62 : decode cX8_layOrders 62 = .ok (.iconst 1, 1) := by decide +kernel
theorem dX8_layOrders_63 : decode cX8_layOrders 63 = .ok (.isub, 1) := by decide +kernel
theorem dX8_layOrders_64 : decode cX8_layOrders 64 = .ok (.istore 4, 2) := by decide +kernel
theorem dX8_layOrders_66 : decode cX8_layOrders 66 = .ok (.iload 4, 2) := by decide +kernel
theorem dX8_layOrders_68 : decode cX8_layOrders 68 = .ok (.ifCond .lt 31, 3) := by decide +kernel
theorem dX8_layOrders_71 : decode cX8_layOrders 71 = .ok (.iload_n 2, 1) := by decide +kernel
theorem dX8_layOrders_72 : decode cX8_layOrders 72 = .ok (.ifCond .eq 27, 3) := by decide +kernel
theorem dX8_layOrders_75 : decode cX8_layOrders 75 = .ok (.aload_n 0, 1) := by decide +kernel
theorem dX8_layOrders_76 : decode cX8_layOrders 76 = .ok (.getfield 30, 3) := by decide +kernel
theorem dX8_layOrders_79 : decode cX8_layOrders 79 = .ok (.iload 4, 2) := by decide +kernel
theorem dX8_layOrders_81 : decode cX8_layOrders 81 = .ok (.iload_n 3, 1) := by decide +kernel
theorem dX8_layOrders_82 : decode cX8_layOrders 82 = .ok (.bipush 10, 2) := by decide +kernel
theorem dX8_layOrders_84 : decode cX8_layOrders 84 = .ok (.irem, 1) := by decide +kernel
theorem dX8_layOrders_85 : decode cX8_layOrders 85 = .ok (.iconst 1, 1) := by decide +kernel
theorem dX8_layOrders_86 : decode cX8_layOrders 86 = .ok (.isub, 1) := by decide +kernel
theorem dX8_layOrders_87 : decode cX8_layOrders 87 = .ok (.iastore, 1) := by decide +kernel
theorem dX8_layOrders_88 : decode cX8_layOrders 88 = .ok (.iload_n 3, 1) := by decide +kernel
theorem dX8_layOrders_89 : decode cX8_layOrders 89 = .ok (.bipush 10, 2) := by decide +kernel
theorem dX8_layOrders_91 : decode cX8_layOrders 91 = .ok (.idiv, 1) := by decide +kernel
theorem dX8_layOrders_92 : decode cX8_layOrders 92 = .ok (.istore_n 3, 1) := by decide +kernel
theorem dX8_layOrders_93 : decode cX8_layOrders 93 = .ok (.iinc 4 (-1), 3) := by decide +kernel
theorem dX8_layOrders_96 : decode cX8_layOrders 96 = .ok (.goto (-30), 3) := by decide +kernel
theorem dX8_layOrders_99 : decode cX8_layOrders 99 = .ok (.iload_n 2, 1) := by decide +kernel
theorem dX8_layOrders_100 : decode cX8_layOrders 100 = .ok (.ireturn, 1) := by decide +kernel
theorem dX8_orders_0 : decode cX8_orders 0 = .ok (.aload_n 0, 1) := by decide +kernel
theorem dX8_orders_1 : decode cX8_orders 1 = .ok (.iload_n 1, 1) := by decide +kernel
theorem dX8_orders_2 : decode cX8_orders 2 = .ok (.invokevirtual 145, 3) := by decide +kernel
theorem dX8_orders_5 : decode cX8_orders 5 = .ok (.ifCond .eq 20, 3) := by decide +kernel
theorem dX8_orders_8 : decode cX8_orders 8 = .ok (.iload_n 2, 1) := by decide +kernel
theorem dX8_orders_9 : decode cX8_orders 9 = .ok (.i2l, 1) := by decide +kernel
theorem dX8_orders_10 : decode cX8_orders 10 = .ok (.lconst 1, 1) := by decide +kernel
theorem dX8_orders_11 : decode cX8_orders 11 = .ok (.ldc2_w 70, 3) := by decide +kernel
theorem dX8_orders_14 : decode cX8_orders 14 = .ok (.invokestatic 56, 3) := by decide +kernel
theorem dX8_orders_17 : decode cX8_orders 17 = .ok (.ifCond .eq 8, 3) := by decide +kernel
theorem dX8_orders_20 : decode cX8_orders 20 = .ok (.iload_n 3, 1) := by decide +kernel
theorem dX8_orders_21 : decode cX8_orders 21 = .ok (.iconst (-1), 1) := by decide +kernel
theorem dX8_orders_22 : decode cX8_orders 22 = .ok (.if_icmp .ge 10, 3) := by decide +kernel
theorem dX8_orders_25 : decode cX8_orders 25 = .ok (.aload_n 0, 1) := by decide +kernel
theorem dX8_orders_26 : decode cX8_orders 26 = .ok (.bipush (-10), 2) := by decide +kernel
theorem dX8_orders_28 : decode cX8_orders 28 = .ok (.invokevirtual 66, 3) := by decide +kernel
theorem dX8_orders_31 : decode cX8_orders 31 = .ok (.ireturn, 1) := by decide +kernel
theorem dX8_orders_32 : decode cX8_orders 32 = .ok (.aload_n 0, 1) := by decide +kernel
theorem dX8_orders_33 : decode cX8_orders 33 = .ok (.invokevirtual 52, 3) := by decide +kernel
theorem dX8_orders_36 : decode cX8_orders 36 = .ok (.ifCond .ne 5, 3) := by decide +kernel
theorem dX8_orders_39 : decode cX8_orders 39 = .ok (.iconst (-1), 1) := by decide +kernel
theorem dX8_orders_40 : decode cX8_orders 40 = .ok (.ireturn, 1) := by decide +kernel
theorem dX8_orders_41 : decode cX8_orders 41 = .ok (.ldc 148, 2) := by decide +kernel
theorem dX8_orders_43 : decode cX8_orders 43 = .ok (.istore 4, 2) := by decide +kernel
theorem dX8_orders_45 : decode cX8_orders 45 = .ok (.iconst 0, 1) := by decide +kernel
theorem dX8_orders_46 : decode cX8_orders 46 = .ok (.istore 5, 2) := by decide +kernel
theorem dX8_orders_48 : decode cX8_orders 48 = .ok (.iload 5, 2) := by decide +kernel
theorem dX8_orders_50 : decode cX8_orders 50 = .ok (.iconst 1, 1) := by decide +kernel
theorem dX8_orders_51 : decode cX8_orders 51 = .ok (.iconst 2, 1) := by decide +kernel
theorem dX8_orders_52 : decode cX8_orders 52 = .ok (.aload_n 0, 1) := by decide +kernel
theorem dX8_orders_53 : decode cX8_orders 53 = .ok (.getfield 142, 3) := by decide +kernel
theorem dX8_orders_56 : decode cX8_orders 56 = .ok (.imul, 1) := by decide +kernel
theorem dX8_orders_57 : decode cX8_orders 57 = .ok (.ishl, 1) := by decide +kernel
theorem dX8_orders_58 : decode cX8_orders 58 = .ok (.if_icmp .ge 149, 3) := by decide +kernel
theorem dX8_orders_61 : decode cX8_orders 61 = .ok (.iconst 0, 1) := by decide +kernel
theorem dX8_orders_62 : decode cX8_orders 62 = .ok (.istore 6, 2) := by decide +kernel
theorem dX8_orders_64 : decode cX8_orders 64 = .ok (.aload_n 0, 1) := by decide +kernel
theorem dX8_orders_65 : decode cX8_orders 65 = .ok (.invokevirtual 116, 3) := by decide +kernel
theorem dX8_orders_68 : decode cX8_orders 68 = .ok (.iconst 0, 1) := by decide +kernel
theorem dX8_orders_69 : decode cX8_orders 69 = .ok (.istore 7, 2) := by decide +kernel
theorem dX8_orders_71 : decode cX8_orders 71 = .ok (.iload 7, 2) := by decide +kernel
theorem dX8_orders_73 : decode cX8_orders 73 = .ok (.aload_n 0, 1) := by decide +kernel
theorem dX8_orders_74 : decode cX8_orders 74 = .ok (.getfield 142, 3) := by decide +kernel
theorem dX8_orders_77 : decode cX8_orders 77 = .ok (.if_icmp .ge 60, 3) := by decide +kernel
theorem dX8_orders_80 : decode cX8_orders 80 = .ok (.iload 5, 2) := by decide +kernel
theorem dX8_orders_82 : decode cX8_orders 82 = .ok (.iconst 2, 1) := by decide +kernel
theorem dX8_orders_83 : decode cX8_orders 83 = .ok (.aload_n 0, 1) := by decide +kernel
theorem dX8_orders_84 : decode cX8_orders 84 = .ok (.getfield 142, 3) := by decide +kernel
theorem dX8_orders_87 : decode cX8_orders 87 = .ok (.iconst 1, 1) := by decide +kernel
theorem dX8_orders_88 : decode cX8_orders 88 = .ok (.isub, 1) := by decide +kernel
theorem dX8_orders_89 : decode cX8_orders 89 = .ok (.iload 7, 2) := by decide +kernel
theorem dX8_orders_91 : decode cX8_orders 91 = .ok (.isub, 1) := by decide +kernel
theorem dX8_orders_92 : decode cX8_orders 92 = .ok (.imul, 1) := by decide +kernel
theorem dX8_orders_93 : decode cX8_orders 93 = .ok (.ishr, 1) := by decide +kernel
theorem dX8_orders_94 : decode cX8_orders 94 = .ok (.iconst 3, 1) := by decide +kernel
theorem dX8_orders_95 : decode cX8_orders 95 = .ok (.iand, 1) := by decide +kernel
theorem dX8_orders_96 : decode cX8_orders 96 = .ok (.istore 8, 2) := by decide +kernel
theorem dX8_orders_98 : decode cX8_orders 98 = .ok (.iload 6, 2) := by decide +kernel
theorem dX8_orders_100 : decode cX8_orders 100 = .ok (.iload 8, 2) := by decide +kernel
theorem dX8_orders_102 : decode cX8_orders 102 = .ok (.aload_n 0, 1) := by decide +kernel
theorem dX8_orders_103 : decode cX8_orders 103 = .ok (.invokevirtual 52, 3) := by decide +kernel
theorem dX8_orders_106 : decode cX8_orders 106 = .ok (.if_icmp .ge 20, 3) := by decide +kernel
theorem dX8_orders_109 : decode cX8_orders 109 = .ok (.aload_n 0, 1) := by decide +kernel
theorem dX8_orders_110 : decode cX8_orders 110 = .ok (.iload 8, 2) := by decide +kernel
theorem dX8_orders_112 : decode cX8_orders 112 = .ok (.aload_n 0, 1) := by decide +kernel
theorem dX8_orders_113 : decode cX8_orders 113 = .ok (.getfield 30, 3) := by decide +kernel
theorem dX8_orders_116 : decode cX8_orders 116 = .ok (.iload 7, 2) := by decide +kernel
theorem dX8_orders_118 : decode cX8_orders 118 = .ok (.iaload, 1) := by decide +kernel
theorem dX8_orders_119 : decode cX8_orders 119 = .ok (.iload_n 2, 1) := by decide +kernel
theorem dX8_orders_120 : decode cX8_orders 120 = .ok (.invokevirtual 119, 3) := by decide +kernel
theorem dX8_orders_123 : decode cX8_orders 123 = .ok (.goto 5, 3) := by decide +kernel
theorem dX8_orders_126 : decode cX8_orders 126 = .ok (.ldc 148, 2) := by decide +kernel
theorem dX8_orders_128 : decode cX8_orders 128 = .ok (.iadd, 1) := by decide +kernel
theorem dX8_orders_129 : decode cX8_orders 129 = .ok (.istore 6, 2) := by decide +kernel
theorem dX8_orders_131 : decode cX8_orders 131 = .ok (.iinc 7 1, 3) := by decide +kernel
theorem dX8_orders_134 : decode cX8_orders 134 = .ok (.goto (-63), 3) := by decide +kernel
theorem dX8_orders_137 : decode cX8_orders 137 = .ok (.iconst 0, 1) := by decide +kernel
theorem dX8_orders_138 : decode cX8_orders 138 = .ok (.istore 7, 2) := by decide +kernel
theorem dX8_orders_140 : decode cX8_orders 140 = .ok (.iload 7, 2) := by decide +kernel
theorem dX8_orders_142 : decode cX8_orders 142 = .ok (.aload_n 0, 1) := by decide +kernel
theorem dX8_orders_143 : decode cX8_orders 143 = .ok (.getfield 142, 3) := by decide +kernel
theorem dX8_orders_146 : decode cX8_orders 146 = .ok (.if_icmp .ge 39, 3) := by decide +kernel
theorem dX8_orders_149 : decode cX8_orders 149 = .ok (.iload 6, 2) := by decide +kernel
theorem dX8_orders_151 : decode cX8_orders 151 = .ok (.iload 4, 2) := by decide +kernel
theorem dX8_orders_153 : decode cX8_orders 153 = .ok (.if_icmp .ge 32, 3) := by decide +kernel
theorem dX8_orders_156 : decode cX8_orders 156 = .ok (.aload_n 0, 1) := by decide +kernel
theorem dX8_orders_157 : decode cX8_orders 157 = .ok (.getfield 33, 3) := by decide +kernel
theorem dX8_orders_160 : decode cX8_orders 160 = .ok (.iload 7, 2) := by decide +kernel
theorem dX8_orders_162 : decode cX8_orders 162 = .ok (.iload 5, 2) := by decide +kernel
theorem dX8_orders_164 : decode cX8_orders 164 = .ok (.iconst 2, 1) := by decide +kernel
theorem dX8_orders_165 : decode cX8_orders 165 = .ok (.aload_n 0, 1) := by decide +kernel
theorem dX8_orders_166 : decode cX8_orders 166 = .ok (.getfield 142, 3) := by decide +kernel
theorem dX8_orders_169 : decode cX8_orders 169 = .ok (.iconst 1, 1) := by decide +kernel
theorem dX8_orders_170 : decode cX8_orders 170 = .ok (.isub, 1) := by decide +kernel
theorem dX8_orders_171 : decode cX8_orders 171 = .ok (.iload 7, 2) := by decide +kernel
theorem dX8_orders_173 : decode cX8_orders 173 = .ok (.isub, 1) := by decide +kernel
theorem dX8_orders_174 : decode cX8_orders 174 = .ok (.imul, 1) := by decide +kernel
theorem dX8_orders_175 : decode cX8_orders 175 = .ok (.ishr, 1) := by decide +kernel
theorem dX8_orders_176 : decode cX8_orders 176 = .ok (.iconst 3, 1) := by decide +kernel
theorem dX8_orders_177 : decode cX8_orders 177 = .ok (.iand, 1) := by decide +kernel
theorem dX8_orders_178 : decode cX8_orders 178 = .ok (.iastore, 1) := by decide +kernel
theorem dX8_orders_179 : decode cX8_orders 179 = .ok (.iinc 7 1, 3) := by decide +kernel
theorem dX8_orders_182 : decode cX8_orders 182 = .ok (.goto (-42), 3) := by decide +kernel
theorem dX8_orders_185 : decode cX8_orders 185 = .ok (.iload 6, 2) := by decide +kernel
theorem dX8_orders_187 : decode cX8_orders 187 = .ok (.iload 4, 2) := by decide +kernel
theorem dX8_orders_189 : decode cX8_orders 189 = .ok (.if_icmp .ge 8, 3) := by decide +kernel
theorem dX8_orders_192 : decode cX8_orders 192 = .ok (.iload 6, 2) := by decide +kernel
theorem dX8_orders_194 : decode cX8_orders 194 = .ok (.goto 5, 3) := by decide +kernel
theorem dX8_orders_197 : decode cX8_orders 197 = .ok (.iload 4, 2) := by decide +kernel
theorem dX8_orders_199 : decode cX8_orders 199 = .ok (.istore 4, 2) := by decide +kernel
theorem dX8_orders_201 : decode cX8_orders 201 = .ok (.iinc 5 1, 3) := by decide +kernel
theorem dX8_orders_204 : decode cX8_orders 204 = .ok (.goto (-156), 3) := by decide +kernel
theorem dX8_orders_207 : decode cX8_orders 207 = .ok (.iload_n 3, 1) := by decide +kernel
theorem dX8_orders_208 : decode cX8_orders 208 = .ok (.iconst (-1), 1) := by decide +kernel
theorem dX8_orders_209 : decode cX8_orders 209 = .ok (.if_icmp .ne 8, 3) := by decide +kernel
theorem dX8_orders_212 : decode cX8_orders 212 = .ok (.iload 4, 2) := by decide +kernel
theorem dX8_orders_214 : decode cX8_orders 214 = .ok (.goto 22, 3) := by decide +kernel
theorem dX8_orders_217 : decode cX8_orders 217 = .ok (.iload_n 3, 1) := by decide +kernel
theorem dX8_orders_218 : decode cX8_orders 218 = .ok (.aload_n 0, 1) := by decide +kernel
theorem dX8_orders_219 : decode cX8_orders 219 = .ok (.getfield 142, 3) := by decide +kernel
theorem dX8_orders_222 : decode cX8_orders 222 = .ok (.if_icmp .ge 12, 3) := by decide +kernel
theorem dX8_orders_225 : decode cX8_orders 225 = .ok (.aload_n 0, 1) := by decide +kernel
theorem dX8_orders_226 : decode cX8_orders 226 = .ok (.getfield 33, 3) := by decide +kernel
theorem dX8_orders_229 : decode cX8_orders 229 = .ok (.iload_n 3, 1) := by decide +kernel
theorem dX8_orders_230 : decode cX8_orders 230 = .ok (.iaload, 1) := by decide +kernel
theorem dX8_orders_231 : decode cX8_orders 231 = .ok (.goto 5, 3) := by decide +kernel
theorem dX8_orders_234 : decode cX8_orders 234 = .ok (.bipush (-5), 2) := by decide +kernel
theorem dX8_orders_236 : decode cX8_orders 236 = .ok (.ireturn, 1) := by decide +kernel
theorem dX8_waits_0 : decode cX8_waits 0 = .ok (.aload_n 0, 1) := by decide +kernel
theorem dX8_waits_1 : decode cX8_waits 1 = .ok (.iload_n 1, 1) := by decide +kernel
theorem dX8_waits_2 : decode cX8_waits 2 = .ok (.invokevirtual 107, 3) := by decide +kernel
theorem dX8_waits_5 : decode cX8_waits 5 = .ok (.ifCond .eq 35, 3) := by decide +kernel
theorem dX8_waits_8 : decode cX8_waits 8 = .ok (.iload_n 2, 1) := by decide +kernel
theorem dX8_waits_9 : decode cX8_waits 9 = .ok (.invokestatic 110, 3) := by decide +kernel
theorem dX8_waits_12 : decode cX8_waits 12 = .ok (.ifCond .eq 28, 3) := by decide +kernel
theorem dX8_waits_15 : decode cX8_waits 15 = .ok (.iload_n 3, 1) := by decide +kernel
theorem dX8_waits_16 : decode cX8_waits 16 = .ok (.i2l, 1) := by decide +kernel
theorem dX8_waits_17 : decode cX8_waits 17 = .ok (.lconst 0, 1) := by decide +kernel
theorem dX8_waits_18 : decode cX8_waits 18 = .ok (.ldc2_w 149, 3) := by decide +kernel
theorem dX8_waits_21 : decode cX8_waits 21 = .ok (.invokestatic 56, 3) := by decide +kernel
theorem dX8_waits_24 : decode cX8_waits 24 = .ok (.ifCond .eq 16, 3) := by decide +kernel
theorem dX8_waits_27 : decode cX8_waits 27 = .ok (.iload 4, 2) := by decide +kernel
theorem dX8_waits_29 : decode cX8_waits 29 = .ok (.i2l, 1) := by decide +kernel
theorem dX8_waits_30 : decode cX8_waits 30 = .ok (.lconst 0, 1) := by decide +kernel
theorem dX8_waits_31 : decode cX8_waits 31 = .ok (.ldc2_w 151, 3) := by decide +kernel
theorem dX8_waits_34 : decode cX8_waits 34 = .ok (.invokestatic 56, 3) := by decide +kernel
theorem dX8_waits_37 : decode cX8_waits 37 = .ok (.ifCond .ne 10, 3) := by decide +kernel
theorem dX8_waits_40 : decode cX8_waits 40 = .ok (.aload_n 0, 1) := by decide +kernel
theorem dX8_waits_41 : decode cX8_waits 41 = .ok (.bipush (-2), 2) := by decide +kernel
theorem dX8_waits_43 : decode cX8_waits 43 = .ok (.invokevirtual 66, 3) := by decide +kernel
theorem dX8_waits_46 : decode cX8_waits 46 = .ok (.ireturn, 1) := by decide +kernel
theorem dX8_waits_47 : decode cX8_waits 47 = .ok (.aload_n 0, 1) := by decide +kernel
theorem dX8_waits_48 : decode cX8_waits 48 = .ok (.invokevirtual 116, 3) := by decide +kernel
theorem dX8_waits_51 : decode cX8_waits 51 = .ok (.iconst 0, 1) := by decide +kernel
theorem dX8_waits_52 : decode cX8_waits 52 = .ok (.istore 5, 2) := by decide +kernel
theorem dX8_waits_54 : decode cX8_waits 54 = .ok (.iload 5, 2) := by decide +kernel
theorem dX8_waits_56 : decode cX8_waits 56 = .ok (.bipush 30, 2) := by decide +kernel
theorem dX8_waits_58 : decode cX8_waits 58 = .ok (.if_icmp .gt 37, 3) := by decide +kernel
theorem dX8_waits_61 : decode cX8_waits 61 = .ok (.aload_n 0, 1) := by decide +kernel
theorem dX8_waits_62 : decode cX8_waits 62 = .ok (.iload_n 1, 1) := by decide +kernel
theorem dX8_waits_63 : decode cX8_waits 63 = .ok (.iload_n 2, 1) := by decide +kernel
theorem dX8_waits_64 : decode cX8_waits 64 = .ok (.invokevirtual 98, 3) := by decide +kernel
theorem dX8_waits_67 : decode cX8_waits 67 = .ok (.iload_n 3, 1) := by decide +kernel
theorem dX8_waits_68 : decode cX8_waits 68 = .ok (.if_icmp .gt 17, 3) := by decide +kernel
theorem dX8_waits_71 : decode cX8_waits 71 = .ok (.aload_n 0, 1) := by decide +kernel
theorem dX8_waits_72 : decode cX8_waits 72 = .ok (.iload_n 1, 1) := by decide +kernel
theorem dX8_waits_73 : decode cX8_waits 73 = .ok (.iload_n 2, 1) := by decide +kernel
theorem dX8_waits_74 : decode cX8_waits 74 = .ok (.invokevirtual 94, 3) := by decide +kernel
theorem dX8_waits_77 : decode cX8_waits 77 = .ok (.iload 4, 2) := by decide +kernel
theorem dX8_waits_79 : decode cX8_waits 79 = .ok (.if_icmp .lt 6, 3) := by decide +kernel
theorem dX8_waits_82 : decode cX8_waits 82 = .ok (.iload 5, 2) := by decide +kernel
theorem dX8_waits_84 : decode cX8_waits 84 = .ok (.ireturn, 1) := by decide +kernel
theorem dX8_waits_85 : decode cX8_waits 85 = .ok (.aload_n 0, 1) := by decide +kernel
theorem dX8_waits_86 : decode cX8_waits 86 = .ok (.invokevirtual 127, 3) := by decide +kernel
theorem dX8_waits_89 : decode cX8_waits 89 = .ok (.iinc 5 1, 3) := by decide +kernel
theorem dX8_waits_92 : decode cX8_waits 92 = .ok (.goto (-38), 3) := by decide +kernel
theorem dX8_waits_95 : decode cX8_waits 95 = .ok (.iconst (-1), 1) := by decide +kernel
theorem dX8_waits_96 : decode cX8_waits 96 = .ok (.ireturn, 1) := by decide +kernel
theorem dX8_note_0 : decode cX8_note 0 = .ok (.aload_n 0, 1) := by decide +kernel
theorem dX8_note_1 : decode cX8_note 1 = .ok (.iload_n 1, 1) := by decide +kernel
theorem dX8_note_2 : decode cX8_note 2 = .ok (.invokevirtual 107, 3) := by decide +kernel
theorem dX8_note_5 : decode cX8_note 5 = .ok (.ifCond .eq 30, 3) := by decide +kernel
theorem dX8_note_8 : decode cX8_note 8 = .ok (.iload_n 2, 1) := by decide +kernel
theorem dX8_note_9 : decode cX8_note 9 = .ok (.invokestatic 72, 3) := by decide +kernel
theorem dX8_note_12 : decode cX8_note 12 = .ok (.ifCond .eq 23, 3) := by decide +kernel
theorem dX8_note_15 : decode cX8_note 15 = .ok (.iload_n 3, 1) := by decide +kernel
theorem dX8_note_16 : decode cX8_note 16 = .ok (.i2l, 1) := by decide +kernel
theorem dX8_note_17 : decode cX8_note 17 = .ok (.lconst 0, 1) := by decide +kernel
theorem dX8_note_18 : decode cX8_note 18 = .ok (.ldc2_w 153, 3) := by decide +kernel
theorem dX8_note_21 : decode cX8_note 21 = .ok (.invokestatic 56, 3) := by decide +kernel
theorem dX8_note_24 : decode cX8_note 24 = .ok (.ifCond .eq 11, 3) := by decide +kernel
theorem dX8_note_27 : decode cX8_note 27 = .ok (.iload 4, 2) := by decide +kernel
theorem dX8_note_29 : decode cX8_note 29 = .ok (.invokestatic 72, 3) := by decide +kernel
theorem dX8_note_32 : decode cX8_note 32 = .ok (.ifCond .ne 10, 3) := by decide +kernel
theorem dX8_note_35 : decode cX8_note 35 = .ok (.aload_n 0, 1) := by decide +kernel
theorem dX8_note_36 : decode cX8_note 36 = .ok (.bipush (-2), 2) := by decide +kernel
theorem dX8_note_38 : decode cX8_note 38 = .ok (.invokevirtual 66, 3) := by decide +kernel
theorem dX8_note_41 : decode cX8_note 41 = .ok (.ireturn, 1) := by decide +kernel
theorem dX8_note_42 : decode cX8_note 42 = .ok (.aload_n 0, 1) := by decide +kernel
theorem dX8_note_43 : decode cX8_note 43 = .ok (.getfield 7, 3) := by decide +kernel
theorem dX8_note_46 : decode cX8_note 46 = .ok (.iconst 1, 1) := by decide +kernel
theorem dX8_note_47 : decode cX8_note 47 = .ok (.iaload, 1) := by decide +kernel
theorem dX8_note_48 : decode cX8_note 48 = .ok (.bipush 6, 2) := by decide +kernel
theorem dX8_note_50 : decode cX8_note 50 = .ok (.if_icmp .ne 8, 3) := by decide +kernel
theorem dX8_note_53 : decode cX8_note 53 = .ok (.aload_n 0, 1) := by decide +kernel
theorem dX8_note_54 : decode cX8_note 54 = .ok (.invokevirtual 76, 3) := by decide +kernel
theorem dX8_note_57 : decode cX8_note 57 = .ok (.ireturn, 1) := by decide +kernel
theorem dX8_note_58 : decode cX8_note 58 = .ok (.bipush 26, 2) := by decide +kernel
theorem dX8_note_60 : decode cX8_note 60 = .ok (.iconst 4, 1) := by decide +kernel
theorem dX8_note_61 : decode cX8_note 61 = .ok (.aload_n 0, 1) := by decide +kernel
theorem dX8_note_62 : decode cX8_note 62 = .ok (.getfield 7, 3) := by decide +kernel
theorem dX8_note_65 : decode cX8_note 65 = .ok (.iconst 1, 1) := by decide +kernel
theorem dX8_note_66 : decode cX8_note 66 = .ok (.iaload, 1) := by decide +kernel
theorem dX8_note_67 : decode cX8_note 67 = .ok (.imul, 1) := by decide +kernel
theorem dX8_note_68 : decode cX8_note 68 = .ok (.iadd, 1) := by decide +kernel
theorem dX8_note_69 : decode cX8_note 69 = .ok (.istore 5, 2) := by decide +kernel
theorem dX8_note_71 : decode cX8_note 71 = .ok (.aload_n 0, 1) := by decide +kernel
theorem dX8_note_72 : decode cX8_note 72 = .ok (.getfield 7, 3) := by decide +kernel
theorem dX8_note_75 : decode cX8_note 75 = .ok (.iload 5, 2) := by decide +kernel
theorem dX8_note_77 : decode cX8_note 77 = .ok (.iload_n 1, 1) := by decide +kernel
theorem dX8_note_78 : decode cX8_note 78 = .ok (.iastore, 1) := by decide +kernel
theorem dX8_note_79 : decode cX8_note 79 = .ok (.aload_n 0, 1) := by decide +kernel
theorem dX8_note_80 : decode cX8_note 80 = .ok (.getfield 7, 3) := by decide +kernel
theorem dX8_note_83 : decode cX8_note 83 = .ok (.iload 5, 2) := by decide +kernel
theorem dX8_note_85 : decode cX8_note 85 = .ok (.iconst 1, 1) := by decide +kernel
theorem dX8_note_86 : decode cX8_note 86 = .ok (.iadd, 1) := by decide +kernel
theorem dX8_note_87 : decode cX8_note 87 = .ok (.iload_n 2, 1) := by decide +kernel
theorem dX8_note_88 : decode cX8_note 88 = .ok (.iastore, 1) := by decide +kernel
theorem dX8_note_89 : decode cX8_note 89 = .ok (.aload_n 0, 1) := by decide +kernel
theorem dX8_note_90 : decode cX8_note 90 = .ok (.getfield 7, 3) := by decide +kernel
theorem dX8_note_93 : decode cX8_note 93 = .ok (.iload 5, 2) := by decide +kernel
theorem dX8_note_95 : decode cX8_note 95 = .ok (.iconst 2, 1) := by decide +kernel
theorem dX8_note_96 : decode cX8_note 96 = .ok (.iadd, 1) := by decide +kernel
theorem dX8_note_97 : decode cX8_note 97 = .ok (.iload_n 3, 1) := by decide +kernel
theorem dX8_note_98 : decode cX8_note 98 = .ok (.iastore, 1) := by decide +kernel
theorem dX8_note_99 : decode cX8_note 99 = .ok (.aload_n 0, 1) := by decide +kernel
theorem dX8_note_100 : decode cX8_note 100 = .ok (.getfield 7, 3) := by decide +kernel
theorem dX8_note_103 : decode cX8_note 103 = .ok (.iload 5, 2) := by decide +kernel
theorem dX8_note_105 : decode cX8_note 105 = .ok (.iconst 3, 1) := by decide +kernel
theorem dX8_note_106 : decode cX8_note 106 = .ok (.iadd, 1) := by decide +kernel
theorem dX8_note_107 : decode cX8_note 107 = .ok (.iload 4, 2) := by decide +kernel
theorem dX8_note_109 : decode cX8_note 109 = .ok (.iastore, 1) := by decide +kernel
theorem dX8_note_110 : decode cX8_note 110 = .ok (.aload_n 0, 1) := by decide +kernel
theorem dX8_note_111 : decode cX8_note 111 = .ok (.getfield 7, 3) := by decide +kernel
theorem dX8_note_114 : decode cX8_note 114 = .ok (.iconst 1, 1) := by decide +kernel
theorem dX8_note_115 : decode cX8_note 115 = .ok (.dup2, 1) := by decide +kernel
theorem dX8_note_116 : decode cX8_note 116 = .ok (.iaload, 1) := by decide +kernel
theorem dX8_note_117 : decode cX8_note 117 = .ok (.iconst 1, 1) := by decide +kernel
theorem dX8_note_118 : decode cX8_note 118 = .ok (.iadd, 1) := by decide +kernel
theorem dX8_note_119 : decode cX8_note 119 = .ok (.iastore, 1) := by decide +kernel
theorem dX8_note_120 : decode cX8_note 120 = .ok (.aload_n 0, 1) := by decide +kernel
theorem dX8_note_121 : decode cX8_note 121 = .ok (.getfield 7, 3) := by decide +kernel
theorem dX8_note_124 : decode cX8_note 124 = .ok (.iconst 1, 1) := by decide +kernel
theorem dX8_note_125 : decode cX8_note 125 = .ok (.iaload, 1) := by decide +kernel
theorem dX8_note_126 : decode cX8_note 126 = .ok (.ireturn, 1) := by decide +kernel
theorem dX8_came_0 : decode cX8_came 0 = .ok (.aload_n 0, 1) := by decide +kernel
theorem dX8_came_1 : decode cX8_came 1 = .ok (.iload_n 1, 1) := by decide +kernel
theorem dX8_came_2 : decode cX8_came 2 = .ok (.invokevirtual 107, 3) := by decide +kernel
theorem dX8_came_5 : decode cX8_came 5 = .ok (.ifCond .eq 35, 3) := by decide +kernel
theorem dX8_came_8 : decode cX8_came 8 = .ok (.iload_n 2, 1) := by decide +kernel
theorem dX8_came_9 : decode cX8_came 9 = .ok (.invokestatic 110, 3) := by decide +kernel
theorem dX8_came_12 : decode cX8_came 12 = .ok (.ifCond .eq 28, 3) := by decide +kernel
theorem dX8_came_15 : decode cX8_came 15 = .ok (.iload_n 3, 1) := by decide +kernel
theorem dX8_came_16 : decode cX8_came 16 = .ok (.i2l, 1) := by decide +kernel
theorem dX8_came_17 : decode cX8_came 17 = .ok (.lconst 0, 1) := by decide +kernel
theorem dX8_came_18 : decode cX8_came 18 = .ok (.ldc2_w 64, 3) := by decide +kernel
theorem dX8_came_21 : decode cX8_came 21 = .ok (.invokestatic 56, 3) := by decide +kernel
theorem dX8_came_24 : decode cX8_came 24 = .ok (.ifCond .eq 16, 3) := by decide +kernel
theorem dX8_came_27 : decode cX8_came 27 = .ok (.iload 4, 2) := by decide +kernel
theorem dX8_came_29 : decode cX8_came 29 = .ok (.i2l, 1) := by decide +kernel
theorem dX8_came_30 : decode cX8_came 30 = .ok (.lconst 0, 1) := by decide +kernel
theorem dX8_came_31 : decode cX8_came 31 = .ok (.ldc2_w 151, 3) := by decide +kernel
theorem dX8_came_34 : decode cX8_came 34 = .ok (.invokestatic 56, 3) := by decide +kernel
theorem dX8_came_37 : decode cX8_came 37 = .ok (.ifCond .ne 10, 3) := by decide +kernel
theorem dX8_came_40 : decode cX8_came 40 = .ok (.aload_n 0, 1) := by decide +kernel
theorem dX8_came_41 : decode cX8_came 41 = .ok (.bipush (-2), 2) := by decide +kernel
theorem dX8_came_43 : decode cX8_came 43 = .ok (.invokevirtual 66, 3) := by decide +kernel
theorem dX8_came_46 : decode cX8_came 46 = .ok (.ireturn, 1) := by decide +kernel
theorem dX8_came_47 : decode cX8_came 47 = .ok (.aload_n 0, 1) := by decide +kernel
theorem dX8_came_48 : decode cX8_came 48 = .ok (.getfield 7, 3) := by decide +kernel
theorem dX8_came_51 : decode cX8_came 51 = .ok (.iconst 2, 1) := by decide +kernel
theorem dX8_came_52 : decode cX8_came 52 = .ok (.iaload, 1) := by decide +kernel
theorem dX8_came_53 : decode cX8_came 53 = .ok (.bipush 6, 2) := by decide +kernel
theorem dX8_came_55 : decode cX8_came 55 = .ok (.if_icmp .ne 8, 3) := by decide +kernel
theorem dX8_came_58 : decode cX8_came 58 = .ok (.aload_n 0, 1) := by decide +kernel
theorem dX8_came_59 : decode cX8_came 59 = .ok (.invokevirtual 76, 3) := by decide +kernel
theorem dX8_came_62 : decode cX8_came 62 = .ok (.ireturn, 1) := by decide +kernel
theorem dX8_came_63 : decode cX8_came 63 = .ok (.bipush 50, 2) := by decide +kernel
theorem dX8_came_65 : decode cX8_came 65 = .ok (.iconst 4, 1) := by decide +kernel
theorem dX8_came_66 : decode cX8_came 66 = .ok (.aload_n 0, 1) := by decide +kernel
theorem dX8_came_67 : decode cX8_came 67 = .ok (.getfield 7, 3) := by decide +kernel
theorem dX8_came_70 : decode cX8_came 70 = .ok (.iconst 2, 1) := by decide +kernel
theorem dX8_came_71 : decode cX8_came 71 = .ok (.iaload, 1) := by decide +kernel
theorem dX8_came_72 : decode cX8_came 72 = .ok (.imul, 1) := by decide +kernel
theorem dX8_came_73 : decode cX8_came 73 = .ok (.iadd, 1) := by decide +kernel
theorem dX8_came_74 : decode cX8_came 74 = .ok (.istore 5, 2) := by decide +kernel
theorem dX8_came_76 : decode cX8_came 76 = .ok (.aload_n 0, 1) := by decide +kernel
theorem dX8_came_77 : decode cX8_came 77 = .ok (.getfield 7, 3) := by decide +kernel
theorem dX8_came_80 : decode cX8_came 80 = .ok (.iload 5, 2) := by decide +kernel
theorem dX8_came_82 : decode cX8_came 82 = .ok (.iload_n 1, 1) := by decide +kernel
theorem dX8_came_83 : decode cX8_came 83 = .ok (.iastore, 1) := by decide +kernel
theorem dX8_came_84 : decode cX8_came 84 = .ok (.aload_n 0, 1) := by decide +kernel
theorem dX8_came_85 : decode cX8_came 85 = .ok (.getfield 7, 3) := by decide +kernel
theorem dX8_came_88 : decode cX8_came 88 = .ok (.iload 5, 2) := by decide +kernel
theorem dX8_came_90 : decode cX8_came 90 = .ok (.iconst 1, 1) := by decide +kernel
theorem dX8_came_91 : decode cX8_came 91 = .ok (.iadd, 1) := by decide +kernel
theorem dX8_came_92 : decode cX8_came 92 = .ok (.iload_n 2, 1) := by decide +kernel
theorem dX8_came_93 : decode cX8_came 93 = .ok (.iastore, 1) := by decide +kernel
theorem dX8_came_94 : decode cX8_came 94 = .ok (.aload_n 0, 1) := by decide +kernel
theorem dX8_came_95 : decode cX8_came 95 = .ok (.getfield 7, 3) := by decide +kernel
theorem dX8_came_98 : decode cX8_came 98 = .ok (.iload 5, 2) := by decide +kernel
theorem dX8_came_100 : decode cX8_came 100 = .ok (.iconst 2, 1) := by decide +kernel
theorem dX8_came_101 : decode cX8_came 101 = .ok (.iadd, 1) := by decide +kernel
theorem dX8_came_102 : decode cX8_came 102 = .ok (.iload_n 3, 1) := by decide +kernel
theorem dX8_came_103 : decode cX8_came 103 = .ok (.iastore, 1) := by decide +kernel
theorem dX8_came_104 : decode cX8_came 104 = .ok (.aload_n 0, 1) := by decide +kernel
theorem dX8_came_105 : decode cX8_came 105 = .ok (.getfield 7, 3) := by decide +kernel
theorem dX8_came_108 : decode cX8_came 108 = .ok (.iload 5, 2) := by decide +kernel
theorem dX8_came_110 : decode cX8_came 110 = .ok (.iconst 3, 1) := by decide +kernel
theorem dX8_came_111 : decode cX8_came 111 = .ok (.iadd, 1) := by decide +kernel
theorem dX8_came_112 : decode cX8_came 112 = .ok (.iload 4, 2) := by decide +kernel
theorem dX8_came_114 : decode cX8_came 114 = .ok (.iastore, 1) := by decide +kernel
theorem dX8_came_115 : decode cX8_came 115 = .ok (.aload_n 0, 1) := by decide +kernel
theorem dX8_came_116 : decode cX8_came 116 = .ok (.getfield 7, 3) := by decide +kernel
theorem dX8_came_119 : decode cX8_came 119 = .ok (.iconst 2, 1) := by decide +kernel
theorem dX8_came_120 : decode cX8_came 120 = .ok (.dup2, 1) := by decide +kernel
theorem dX8_came_121 : decode cX8_came 121 = .ok (.iaload, 1) := by decide +kernel
theorem dX8_came_122 : decode cX8_came 122 = .ok (.iconst 1, 1) := by decide +kernel
theorem dX8_came_123 : decode cX8_came 123 = .ok (.iadd, 1) := by decide +kernel
theorem dX8_came_124 : decode cX8_came 124 = .ok (.iastore, 1) := by decide +kernel
theorem dX8_came_125 : decode cX8_came 125 = .ok (.aload_n 0, 1) := by decide +kernel
theorem dX8_came_126 : decode cX8_came 126 = .ok (.getfield 7, 3) := by decide +kernel
theorem dX8_came_129 : decode cX8_came 129 = .ok (.iconst 2, 1) := by decide +kernel
theorem dX8_came_130 : decode cX8_came 130 = .ok (.iaload, 1) := by decide +kernel
theorem dX8_came_131 : decode cX8_came 131 = .ok (.ireturn, 1) := by decide +kernel
theorem dX8_forget_0 : decode cX8_forget 0 = .ok (.iload_n 1, 1) := by decide +kernel
theorem dX8_forget_1 : decode cX8_forget 1 = .ok (.i2l, 1) := by decide +kernel
theorem dX8_forget_2 : decode cX8_forget 2 = .ok (.lconst 0, 1) := by decide +kernel
theorem dX8_forget_3 : decode cX8_forget 3 = .ok (.lconst 1, 1) := by decide +kernel
theorem dX8_forget_4 : decode cX8_forget 4 = .ok (.invokestatic 56, 3) := by decide +kernel
theorem dX8_forget_7 : decode cX8_forget 7 = .ok (.ifCond .ne 10, 3) := by decide +kernel
theorem dX8_forget_10 : decode cX8_forget 10 = .ok (.aload_n 0, 1) := by decide +kernel
theorem dX8_forget_11 : decode cX8_forget 11 = .ok (.bipush (-2), 2) := by decide +kernel
theorem dX8_forget_13 : decode cX8_forget 13 = .ok (.invokevirtual 66, 3) := by decide +kernel
theorem dX8_forget_16 : decode cX8_forget 16 = .ok (.ireturn, 1) := by decide +kernel
theorem dX8_forget_17 : decode cX8_forget 17 = .ok (.aload_n 0, 1) := by decide +kernel
theorem dX8_forget_18 : decode cX8_forget 18 = .ok (.getfield 7, 3) := by decide +kernel
theorem dX8_forget_21 : decode cX8_forget 21 = .ok (.iconst 1, 1) := by decide +kernel
theorem dX8_forget_22 : decode cX8_forget 22 = .ok (.iload_n 1, 1) := by decide +kernel
theorem dX8_forget_23 : decode cX8_forget 23 = .ok (.iadd, 1) := by decide +kernel
theorem dX8_forget_24 : decode cX8_forget 24 = .ok (.iaload, 1) := by decide +kernel
theorem dX8_forget_25 : decode cX8_forget 25 = .ok (.istore_n 2, 1) := by decide +kernel
theorem dX8_forget_26 : decode cX8_forget 26 = .ok (.aload_n 0, 1) := by decide +kernel
theorem dX8_forget_27 : decode cX8_forget 27 = .ok (.getfield 7, 3) := by decide +kernel
theorem dX8_forget_30 : decode cX8_forget 30 = .ok (.iconst 1, 1) := by decide +kernel
theorem dX8_forget_31 : decode cX8_forget 31 = .ok (.iload_n 1, 1) := by decide +kernel
theorem dX8_forget_32 : decode cX8_forget 32 = .ok (.iadd, 1) := by decide +kernel
theorem dX8_forget_33 : decode cX8_forget 33 = .ok (.iconst 0, 1) := by decide +kernel
theorem dX8_forget_34 : decode cX8_forget 34 = .ok (.iastore, 1) := by decide +kernel
theorem dX8_forget_35 : decode cX8_forget 35 = .ok (.iload_n 2, 1) := by decide +kernel
theorem dX8_forget_36 : decode cX8_forget 36 = .ok (.ireturn, 1) := by decide +kernel
theorem dX8_kindsOf_0 : decode cX8_kindsOf 0 = .ok (.iconst 0, 1) := by decide +kernel
theorem dX8_kindsOf_1 : decode cX8_kindsOf 1 = .ok (.istore_n 2, 1) := by decide +kernel
theorem dX8_kindsOf_2 : decode cX8_kindsOf 2 = .ok (.iconst 0, 1) := by decide +kernel
theorem dX8_kindsOf_3 : decode cX8_kindsOf 3 = .ok (.istore_n 3, 1) := by decide +kernel
theorem dX8_kindsOf_4 : decode cX8_kindsOf 4 = .ok (.iload_n 3, 1) := by decide +kernel
theorem dX8_kindsOf_5 : decode cX8_kindsOf 5 = .ok (.bipush 6, 2) := by decide +kernel
theorem dX8_kindsOf_7 : decode cX8_kindsOf 7 = .ok (.if_icmp .ge 113, 3) := by decide +kernel
theorem dX8_kindsOf_10 : decode cX8_kindsOf 10 = .ok (.iconst 1, 1) := by decide +kernel
theorem dX8_kindsOf_11 : decode cX8_kindsOf 11 = .ok (.istore 4, 2) := by decide +kernel
theorem dX8_kindsOf_13 : decode cX8_kindsOf 13 = .ok (.iconst 0, 1) := by decide +kernel
theorem dX8_kindsOf_14 : decode cX8_kindsOf 14 = .ok (.istore 5, 2) := by decide +kernel
theorem dX8_kindsOf_16 : decode cX8_kindsOf 16 = .ok (.iload 5, 2) := by decide +kernel
theorem dX8_kindsOf_18 : decode cX8_kindsOf 18 = .ok (.aload_n 0, 1) := by decide +kernel
theorem dX8_kindsOf_19 : decode cX8_kindsOf 19 = .ok (.getfield 7, 3) := by decide +kernel
theorem dX8_kindsOf_22 : decode cX8_kindsOf 22 = .ok (.iconst 1, 1) := by decide +kernel
theorem dX8_kindsOf_23 : decode cX8_kindsOf 23 = .ok (.iaload, 1) := by decide +kernel
theorem dX8_kindsOf_24 : decode cX8_kindsOf 24 = .ok (.if_icmp .ge 75, 3) := by decide +kernel
theorem dX8_kindsOf_27 : decode cX8_kindsOf 27 = .ok (.bipush 26, 2) := by decide +kernel
theorem dX8_kindsOf_29 : decode cX8_kindsOf 29 = .ok (.iconst 4, 1) := by decide +kernel
theorem dX8_kindsOf_30 : decode cX8_kindsOf 30 = .ok (.iload 5, 2) := by decide +kernel
theorem dX8_kindsOf_32 : decode cX8_kindsOf 32 = .ok (.imul, 1) := by decide +kernel
theorem dX8_kindsOf_33 : decode cX8_kindsOf 33 = .ok (.iadd, 1) := by decide +kernel
theorem dX8_kindsOf_34 : decode cX8_kindsOf 34 = .ok (.istore 6, 2) := by decide +kernel
theorem dX8_kindsOf_36 : decode cX8_kindsOf 36 = .ok (.iload 4, 2) := by decide +kernel
theorem dX8_kindsOf_38 : decode cX8_kindsOf 38 = .ok (.ifCond .eq 52, 3) := by decide +kernel
theorem dX8_kindsOf_41 : decode cX8_kindsOf 41 = .ok (.aload_n 0, 1) := by decide +kernel
theorem dX8_kindsOf_42 : decode cX8_kindsOf 42 = .ok (.getfield 7, 3) := by decide +kernel
theorem dX8_kindsOf_45 : decode cX8_kindsOf 45 = .ok (.iload 6, 2) := by decide +kernel
theorem dX8_kindsOf_47 : decode cX8_kindsOf 47 = .ok (.iaload, 1) := by decide +kernel
theorem dX8_kindsOf_48 : decode cX8_kindsOf 48 = .ok (.iload_n 1, 1) := by decide +kernel
theorem dX8_kindsOf_49 : decode cX8_kindsOf 49 = .ok (.if_icmp .ne 37, 3) := by decide +kernel
theorem dX8_kindsOf_52 : decode cX8_kindsOf 52 = .ok (.iload_n 3, 1) := by decide +kernel
theorem dX8_kindsOf_53 : decode cX8_kindsOf 53 = .ok (.aload_n 0, 1) := by decide +kernel
theorem dX8_kindsOf_54 : decode cX8_kindsOf 54 = .ok (.getfield 7, 3) := by decide +kernel
theorem dX8_kindsOf_57 : decode cX8_kindsOf 57 = .ok (.iload 6, 2) := by decide +kernel
theorem dX8_kindsOf_59 : decode cX8_kindsOf 59 = .ok (.iconst 1, 1) := by decide +kernel
theorem dX8_kindsOf_60 : decode cX8_kindsOf 60 = .ok (.iadd, 1) := by decide +kernel
theorem dX8_kindsOf_61 : decode cX8_kindsOf 61 = .ok (.iaload, 1) := by decide +kernel
theorem dX8_kindsOf_62 : decode cX8_kindsOf 62 = .ok (.aload_n 0, 1) := by decide +kernel
theorem dX8_kindsOf_63 : decode cX8_kindsOf 63 = .ok (.getfield 7, 3) := by decide +kernel
theorem dX8_kindsOf_66 : decode cX8_kindsOf 66 = .ok (.iload 6, 2) := by decide +kernel
theorem dX8_kindsOf_68 : decode cX8_kindsOf 68 = .ok (.iconst 2, 1) := by decide +kernel
theorem dX8_kindsOf_69 : decode cX8_kindsOf 69 = .ok (.iadd, 1) := by decide +kernel
theorem dX8_kindsOf_70 : decode cX8_kindsOf 70 = .ok (.iaload, 1) := by decide +kernel
theorem dX8_kindsOf_71 : decode cX8_kindsOf 71 = .ok (.invokestatic 104, 3) := by decide +kernel
theorem dX8_kindsOf_74 : decode cX8_kindsOf 74 = .ok (.aload_n 0, 1) := by decide +kernel
theorem dX8_kindsOf_75 : decode cX8_kindsOf 75 = .ok (.getfield 7, 3) := by decide +kernel
theorem dX8_kindsOf_78 : decode cX8_kindsOf 78 = .ok (.iload 6, 2) := by decide +kernel
theorem dX8_kindsOf_80 : decode cX8_kindsOf 80 = .ok (.iconst 3, 1) := by decide +kernel
theorem dX8_kindsOf_81 : decode cX8_kindsOf 81 = .ok (.iadd, 1) := by decide +kernel
theorem dX8_kindsOf_82 : decode cX8_kindsOf 82 = .ok (.iaload, 1) := by decide +kernel
theorem dX8_kindsOf_83 : decode cX8_kindsOf 83 = .ok (.if_icmp .ne 7, 3) := by decide +kernel
theorem dX8_kindsOf_86 : decode cX8_kindsOf 86 = .ok (.iconst 1, 1) := by decide +kernel
theorem dX8_kindsOf_87 : decode cX8_kindsOf 87 = .ok (.goto 4, 3) := by decide +kernel
theorem dX8_kindsOf_90 : decode cX8_kindsOf 90 = .ok (.iconst 0, 1) := by decide +kernel
theorem dX8_kindsOf_91 : decode cX8_kindsOf 91 = .ok (.istore 4, 2) := by decide +kernel
theorem dX8_kindsOf_93 : decode cX8_kindsOf 93 = .ok (.iinc 5 1, 3) := by decide +kernel
theorem dX8_kindsOf_96 : decode cX8_kindsOf 96 = .ok (.goto (-80), 3) := by decide +kernel
theorem dX8_kindsOf_99 : decode cX8_kindsOf 99 = .ok (.iload_n 2, 1) := by decide +kernel
theorem dX8_kindsOf_100 : decode cX8_kindsOf 100 = .ok (.iload 4, 2) := by decide +kernel
theorem dX8_kindsOf_102 : decode cX8_kindsOf 102 = .ok (.ifCond .eq 9, 3) := by decide +kernel
theorem dX8_kindsOf_105 : decode cX8_kindsOf 105 = .ok (.iconst 1, 1) := by decide +kernel
theorem dX8_kindsOf_106 : decode cX8_kindsOf 106 = .ok (.iload_n 3, 1) := by decide +kernel
theorem dX8_kindsOf_107 : decode cX8_kindsOf 107 = .ok (.ishl, 1) := by decide +kernel
theorem dX8_kindsOf_108 : decode cX8_kindsOf 108 = .ok (.goto 4, 3) := by decide +kernel
theorem dX8_kindsOf_111 : decode cX8_kindsOf 111 = .ok (.iconst 0, 1) := by decide +kernel
theorem dX8_kindsOf_112 : decode cX8_kindsOf 112 = .ok (.ior, 1) := by decide +kernel
theorem dX8_kindsOf_113 : decode cX8_kindsOf 113 = .ok (.istore_n 2, 1) := by decide +kernel
theorem dX8_kindsOf_114 : decode cX8_kindsOf 114 = .ok (.iinc 3 1, 3) := by decide +kernel
theorem dX8_kindsOf_117 : decode cX8_kindsOf 117 = .ok (.goto (-113), 3) := by decide +kernel
theorem dX8_kindsOf_120 : decode cX8_kindsOf 120 = .ok (.iload_n 2, 1) := by decide +kernel
theorem dX8_kindsOf_121 : decode cX8_kindsOf 121 = .ok (.ireturn, 1) := by decide +kernel
theorem dX8_is_0 : decode cX8_is 0 = .ok (.aload_n 0, 1) := by decide +kernel
theorem dX8_is_1 : decode cX8_is 1 = .ok (.iload_n 1, 1) := by decide +kernel
theorem dX8_is_2 : decode cX8_is 2 = .ok (.invokevirtual 107, 3) := by decide +kernel
theorem dX8_is_5 : decode cX8_is 5 = .ok (.ifCond .eq 11, 3) := by decide +kernel
theorem dX8_is_8 : decode cX8_is 8 = .ok (.aload_n 0, 1) := by decide +kernel
theorem dX8_is_9 : decode cX8_is 9 = .ok (.iload_n 1, 1) := by decide +kernel
theorem dX8_is_10 : decode cX8_is 10 = .ok (.invokevirtual 155, 3) := by decide +kernel
theorem dX8_is_13 : decode cX8_is 13 = .ok (.goto 9, 3) := by decide +kernel
theorem dX8_is_16 : decode cX8_is 16 = .ok (.aload_n 0, 1) := by decide +kernel
theorem dX8_is_17 : decode cX8_is 17 = .ok (.bipush (-2), 2) := by decide +kernel
theorem dX8_is_19 : decode cX8_is 19 = .ok (.invokevirtual 66, 3) := by decide +kernel
theorem dX8_is_22 : decode cX8_is 22 = .ok (.ireturn, 1) := by decide +kernel
theorem dX8_look_0 : decode cX8_look 0 = .ok (.aload_n 0, 1) := by decide +kernel
theorem dX8_look_1 : decode cX8_look 1 = .ok (.iload_n 1, 1) := by decide +kernel
theorem dX8_look_2 : decode cX8_look 2 = .ok (.invokevirtual 107, 3) := by decide +kernel
theorem dX8_look_5 : decode cX8_look 5 = .ok (.ifCond .ne 10, 3) := by decide +kernel
theorem dX8_look_8 : decode cX8_look 8 = .ok (.aload_n 0, 1) := by decide +kernel
theorem dX8_look_9 : decode cX8_look 9 = .ok (.bipush (-2), 2) := by decide +kernel
theorem dX8_look_11 : decode cX8_look 11 = .ok (.invokevirtual 66, 3) := by decide +kernel
theorem dX8_look_14 : decode cX8_look 14 = .ok (.ireturn, 1) := by decide +kernel
theorem dX8_look_15 : decode cX8_look 15 = .ok (.aload_n 0, 1) := by decide +kernel
theorem dX8_look_16 : decode cX8_look 16 = .ok (.iload_n 1, 1) := by decide +kernel
theorem dX8_look_17 : decode cX8_look 17 = .ok (.invokevirtual 155, 3) := by decide +kernel
theorem dX8_look_20 : decode cX8_look 20 = .ok (.istore_n 2, 1) := by decide +kernel
theorem dX8_look_21 : decode cX8_look 21 = .ok (.iconst (-1), 1) := by decide +kernel
theorem dX8_look_22 : decode cX8_look 22 = .ok (.istore_n 3, 1) := by decide +kernel
theorem dX8_look_23 : decode cX8_look 23 = .ok (.ldc 148, 2) := by decide +kernel
theorem dX8_look_25 : decode cX8_look 25 = .ok (.istore 4, 2) := by decide +kernel
theorem dX8_look_27 : decode cX8_look 27 = .ok (.bipush 10, 2) := by decide +kernel
theorem dX8_look_29 : decode cX8_look 29 = .ok (.istore 5, 2) := by decide +kernel
theorem dX8_look_31 : decode cX8_look 31 = .ok (.iload 5, 2) := by decide +kernel
theorem dX8_look_33 : decode cX8_look 33 = .ok (.sipush 203, 3) := by decide +kernel
theorem dX8_look_36 : decode cX8_look 36 = .ok (.if_icmp .ge 170, 3) := by decide +kernel
theorem dX8_look_39 : decode cX8_look 39 = .ok (.iload_n 2, 1) := by decide +kernel
theorem dX8_look_40 : decode cX8_look 40 = .ok (.ifCond .le 166, 3) := by decide +kernel
theorem dX8_look_43 : decode cX8_look 43 = .ok (.iload 5, 2) := by decide +kernel
theorem dX8_look_45 : decode cX8_look 45 = .ok (.bipush 10, 2) := by decide +kernel
theorem dX8_look_47 : decode cX8_look 47 = .ok (.irem, 1) := by decide +kernel
theorem dX8_look_48 : decode cX8_look 48 = .ok (.iconst 3, 1) := by decide +kernel
theorem dX8_look_49 : decode cX8_look 49 = .ok (.if_icmp .ge 7, 3) := by decide +kernel
theorem dX8_look_52 : decode cX8_look 52 = .ok (.iconst 0, 1) := by decide +kernel
theorem dX8_look_53 : decode cX8_look 53 = .ok (.goto 5, 3) := by decide +kernel
theorem dX8_look_56 : decode cX8_look 56 = .ok (.ldc 148, 2) := by decide +kernel
theorem dX8_look_58 : decode cX8_look 58 = .ok (.istore 6, 2) := by decide +kernel
theorem dX8_look_60 : decode cX8_look 60 = .ok (.iconst 0, 1) := by decide +kernel
theorem dX8_look_61 : decode cX8_look 61 = .ok (.istore 7, 2) := by decide +kernel
theorem dX8_look_63 : decode cX8_look 63 = .ok (.iload 7, 2) := by decide +kernel
theorem dX8_look_65 : decode cX8_look 65 = .ok (.bipush 20, 2) := by decide +kernel
theorem dX8_look_67 : decode cX8_look 67 = .ok (.if_icmp .gt 17, 3) := by decide +kernel
theorem dX8_look_70 : decode cX8_look 70 = .ok (.aload_n 0, 1) := by decide +kernel
theorem dX8_look_71 : decode cX8_look 71 = .ok (.getfield 36, 3) := by decide +kernel
theorem dX8_look_74 : decode cX8_look 74 = .ok (.iload 7, 2) := by decide +kernel
theorem dX8_look_76 : decode cX8_look 76 = .ok (.iconst 0, 1) := by decide +kernel
theorem dX8_look_77 : decode cX8_look 77 = .ok (.iastore, 1) := by decide +kernel
theorem dX8_look_78 : decode cX8_look 78 = .ok (.iinc 7 1, 3) := by decide +kernel
theorem dX8_look_81 : decode cX8_look 81 = .ok (.goto (-18), 3) := by decide +kernel
theorem dX8_look_84 : decode cX8_look 84 = .ok (.iconst 0, 1) := by decide +kernel
theorem dX8_look_85 : decode cX8_look 85 = .ok (.istore 7, 2) := by decide +kernel
theorem dX8_look_87 : decode cX8_look 87 = .ok (.iload 7, 2) := by decide +kernel
theorem dX8_look_89 : decode cX8_look 89 = .ok (.bipush 6, 2) := by decide +kernel
theorem dX8_look_91 : decode cX8_look 91 = .ok (.if_icmp .ge 79, 3) := by decide +kernel
theorem dX8_look_94 : decode cX8_look 94 = .ok (.iload 6, 2) := by decide +kernel
theorem dX8_look_96 : decode cX8_look 96 = .ok (.ldc 148, 2) := by decide +kernel
theorem dX8_look_98 : decode cX8_look 98 = .ok (.if_icmp .ge 72, 3) := by decide +kernel
theorem dX8_look_101 : decode cX8_look 101 = .ok (.iload_n 2, 1) := by decide +kernel
theorem dX8_look_102 : decode cX8_look 102 = .ok (.iload 7, 2) := by decide +kernel
theorem dX8_look_104 : decode cX8_look 104 = .ok (.invokestatic 158, 3) := by decide +kernel
theorem dX8_look_107 : decode cX8_look 107 = .ok (.ifCond .eq 57, 3) := by decide +kernel
theorem dX8_look_110 : decode cX8_look 110 = .ok (.iload 7, 2) := by decide +kernel
theorem dX8_look_112 : decode cX8_look 112 = .ok (.iload 5, 2) := by decide +kernel
theorem dX8_look_114 : decode cX8_look 114 = .ok (.bipush 10, 2) := by decide +kernel
theorem dX8_look_116 : decode cX8_look 116 = .ok (.idiv, 1) := by decide +kernel
theorem dX8_look_117 : decode cX8_look 117 = .ok (.iload 5, 2) := by decide +kernel
theorem dX8_look_119 : decode cX8_look 119 = .ok (.bipush 10, 2) := by decide +kernel
theorem dX8_look_121 : decode cX8_look 121 = .ok (.irem, 1) := by decide +kernel
theorem dX8_look_122 : decode cX8_look 122 = .ok (.invokestatic 104, 3) := by decide +kernel
theorem dX8_look_125 : decode cX8_look 125 = .ok (.istore 8, 2) := by decide +kernel
theorem dX8_look_127 : decode cX8_look 127 = .ok (.aload_n 0, 1) := by decide +kernel
theorem dX8_look_128 : decode cX8_look 128 = .ok (.getfield 36, 3) := by decide +kernel
theorem dX8_look_131 : decode cX8_look 131 = .ok (.iload 8, 2) := by decide +kernel
theorem dX8_look_133 : decode cX8_look 133 = .ok (.dup2, 1) := by decide +kernel
theorem dX8_look_134 : decode cX8_look 134 = .ok (.iaload, 1) := by decide +kernel
theorem dX8_look_135 : decode cX8_look 135 = .ok (.iconst 1, 1) := by decide +kernel
theorem dX8_look_136 : decode cX8_look 136 = .ok (.iadd, 1) := by decide +kernel
theorem dX8_look_137 : decode cX8_look 137 = .ok (.iastore, 1) := by decide +kernel
theorem dX8_look_138 : decode cX8_look 138 = .ok (.aload_n 0, 1) := by decide +kernel
theorem dX8_look_139 : decode cX8_look 139 = .ok (.getfield 36, 3) := by decide +kernel
theorem dX8_look_142 : decode cX8_look 142 = .ok (.iload 8, 2) := by decide +kernel
theorem dX8_look_144 : decode cX8_look 144 = .ok (.iaload, 1) := by decide +kernel
theorem dX8_look_145 : decode cX8_look 145 = .ok (.iload 6, 2) := by decide +kernel
theorem dX8_look_147 : decode cX8_look 147 = .ok (.if_icmp .le 13, 3) := by decide +kernel
theorem dX8_look_150 : decode cX8_look 150 = .ok (.aload_n 0, 1) := by decide +kernel
theorem dX8_look_151 : decode cX8_look 151 = .ok (.getfield 36, 3) := by decide +kernel
theorem dX8_look_154 : decode cX8_look 154 = .ok (.iload 8, 2) := by decide +kernel
theorem dX8_look_156 : decode cX8_look 156 = .ok (.iaload, 1) := by decide +kernel
theorem dX8_look_157 : decode cX8_look 157 = .ok (.goto 5, 3) := by decide +kernel
theorem dX8_look_160 : decode cX8_look 160 = .ok (.iload 6, 2) := by decide +kernel
theorem dX8_look_162 : decode cX8_look 162 = .ok (.istore 6, 2) := by decide +kernel
theorem dX8_look_164 : decode cX8_look 164 = .ok (.iinc 7 1, 3) := by decide +kernel
theorem dX8_look_167 : decode cX8_look 167 = .ok (.goto (-80), 3) := by decide +kernel
theorem dX8_look_170 : decode cX8_look 170 = .ok (.iload 6, 2) := by decide +kernel
theorem dX8_look_172 : decode cX8_look 172 = .ok (.iload 4, 2) := by decide +kernel
theorem dX8_look_174 : decode cX8_look 174 = .ok (.if_icmp .ge 8, 3) := by decide +kernel
theorem dX8_look_177 : decode cX8_look 177 = .ok (.iload 5, 2) := by decide +kernel
theorem dX8_look_179 : decode cX8_look 179 = .ok (.goto 4, 3) := by decide +kernel
theorem dX8_look_182 : decode cX8_look 182 = .ok (.iload_n 3, 1) := by decide +kernel
theorem dX8_look_183 : decode cX8_look 183 = .ok (.istore_n 3, 1) := by decide +kernel
theorem dX8_look_184 : decode cX8_look 184 = .ok (.iload 6, 2) := by decide +kernel
theorem dX8_look_186 : decode cX8_look 186 = .ok (.iload 4, 2) := by decide +kernel
theorem dX8_look_188 : decode cX8_look 188 = .ok (.if_icmp .ge 8, 3) := by decide +kernel
theorem dX8_look_191 : decode cX8_look 191 = .ok (.iload 6, 2) := by decide +kernel
theorem dX8_look_193 : decode cX8_look 193 = .ok (.goto 5, 3) := by decide +kernel
theorem dX8_look_196 : decode cX8_look 196 = .ok (.iload 4, 2) := by decide +kernel
theorem dX8_look_198 : decode cX8_look 198 = .ok (.istore 4, 2) := by decide +kernel
theorem dX8_look_200 : decode cX8_look 200 = .ok (.iinc 5 1, 3) := by decide +kernel
theorem dX8_look_203 : decode cX8_look 203 = .ok (.goto (-172), 3) := by decide +kernel
theorem dX8_look_206 : decode cX8_look 206 = .ok (.iload_n 3, 1) := by decide +kernel
theorem dX8_look_207 : decode cX8_look 207 = .ok (.ireturn, 1) := by decide +kernel
theorem dX8_memory_0 : decode cX8_memory 0 = .ok (.aload_n 0, 1) := by decide +kernel
theorem dX8_memory_1 : decode cX8_memory 1 = .ok (.iload_n 1, 1) := by decide +kernel
theorem dX8_memory_2 : decode cX8_memory 2 = .ok (.invokevirtual 107, 3) := by decide +kernel
theorem dX8_memory_5 : decode cX8_memory 5 = .ok (.ifCond .eq 10, 3) := by decide +kernel
theorem dX8_memory_8 : decode cX8_memory 8 = .ok (.iload_n 2, 1) := by decide +kernel
theorem dX8_memory_9 : decode cX8_memory 9 = .ok (.invokestatic 110, 3) := by decide +kernel
theorem dX8_memory_12 : decode cX8_memory 12 = .ok (.ifCond .ne 10, 3) := by decide +kernel
theorem dX8_memory_15 : decode cX8_memory 15 = .ok (.aload_n 0, 1) := by decide +kernel
theorem dX8_memory_16 : decode cX8_memory 16 = .ok (.bipush (-2), 2) := by decide +kernel
theorem dX8_memory_18 : decode cX8_memory 18 = .ok (.invokevirtual 66, 3) := by decide +kernel
theorem dX8_memory_21 : decode cX8_memory 21 = .ok (.ireturn, 1) := by decide +kernel
theorem dX8_memory_22 : decode cX8_memory 22 = .ok (.iconst 0, 1) := by decide +kernel
theorem dX8_memory_23 : decode cX8_memory 23 = .ok (.istore_n 3, 1) := by decide +kernel
theorem dX8_memory_24 : decode cX8_memory 24 = .ok (.iconst 0, 1) := by decide +kernel
theorem dX8_memory_25 : decode cX8_memory 25 = .ok (.istore 4, 2) := by decide +kernel
theorem dX8_memory_27 : decode cX8_memory 27 = .ok (.iload 4, 2) := by decide +kernel
theorem dX8_memory_29 : decode cX8_memory 29 = .ok (.bipush 20, 2) := by decide +kernel
theorem dX8_memory_31 : decode cX8_memory 31 = .ok (.if_icmp .gt 136, 3) := by decide +kernel
theorem dX8_memory_34 : decode cX8_memory 34 = .ok (.iconst 1, 1) := by decide +kernel
theorem dX8_memory_35 : decode cX8_memory 35 = .ok (.istore 5, 2) := by decide +kernel
theorem dX8_memory_37 : decode cX8_memory 37 = .ok (.iconst 0, 1) := by decide +kernel
theorem dX8_memory_38 : decode cX8_memory 38 = .ok (.istore 6, 2) := by decide +kernel
theorem dX8_memory_40 : decode cX8_memory 40 = .ok (.iload 6, 2) := by decide +kernel
theorem dX8_memory_42 : decode cX8_memory 42 = .ok (.aload_n 0, 1) := by decide +kernel
theorem dX8_memory_43 : decode cX8_memory 43 = .ok (.getfield 7, 3) := by decide +kernel
theorem dX8_memory_46 : decode cX8_memory 46 = .ok (.iconst 2, 1) := by decide +kernel
theorem dX8_memory_47 : decode cX8_memory 47 = .ok (.iaload, 1) := by decide +kernel
theorem dX8_memory_48 : decode cX8_memory 48 = .ok (.if_icmp .ge 97, 3) := by decide +kernel
theorem dX8_memory_51 : decode cX8_memory 51 = .ok (.bipush 50, 2) := by decide +kernel
theorem dX8_memory_53 : decode cX8_memory 53 = .ok (.iconst 4, 1) := by decide +kernel
theorem dX8_memory_54 : decode cX8_memory 54 = .ok (.iload 6, 2) := by decide +kernel
theorem dX8_memory_56 : decode cX8_memory 56 = .ok (.imul, 1) := by decide +kernel
theorem dX8_memory_57 : decode cX8_memory 57 = .ok (.iadd, 1) := by decide +kernel
theorem dX8_memory_58 : decode cX8_memory 58 = .ok (.istore 7, 2) := by decide +kernel
theorem dX8_memory_60 : decode cX8_memory 60 = .ok (.aload_n 0, 1) := by decide +kernel
theorem dX8_memory_61 : decode cX8_memory 61 = .ok (.getfield 7, 3) := by decide +kernel
theorem dX8_memory_64 : decode cX8_memory 64 = .ok (.iload 7, 2) := by decide +kernel
theorem dX8_memory_66 : decode cX8_memory 66 = .ok (.iaload, 1) := by decide +kernel
theorem dX8_memory_67 : decode cX8_memory 67 = .ok (.iload_n 1, 1) := by decide +kernel
theorem dX8_memory_68 : decode cX8_memory 68 = .ok (.if_icmp .ne 20, 3) := by decide +kernel
theorem dX8_memory_71 : decode cX8_memory 71 = .ok (.aload_n 0, 1) := by decide +kernel
theorem dX8_memory_72 : decode cX8_memory 72 = .ok (.getfield 7, 3) := by decide +kernel
theorem dX8_memory_75 : decode cX8_memory 75 = .ok (.iload 7, 2) := by decide +kernel
theorem dX8_memory_77 : decode cX8_memory 77 = .ok (.iconst 1, 1) := by decide +kernel
theorem dX8_memory_78 : decode cX8_memory 78 = .ok (.iadd, 1) := by decide +kernel
theorem dX8_memory_79 : decode cX8_memory 79 = .ok (.iaload, 1) := by decide +kernel
theorem dX8_memory_80 : decode cX8_memory 80 = .ok (.iload_n 2, 1) := by decide +kernel
theorem dX8_memory_81 : decode cX8_memory 81 = .ok (.if_icmp .ne 7, 3) := by decide +kernel
theorem dX8_memory_84 : decode cX8_memory 84 = .ok (.iconst 1, 1) := by decide +kernel
theorem dX8_memory_85 : decode cX8_memory 85 = .ok (.goto 4, 3) := by decide +kernel
theorem dX8_memory_88 : decode cX8_memory 88 = .ok (.iconst 0, 1) := by decide +kernel
theorem dX8_memory_89 : decode cX8_memory 89 = .ok (.istore 8, 2) := by decide +kernel
theorem dX8_memory_91 : decode cX8_memory 91 = .ok (.iload 5, 2) := by decide +kernel
theorem dX8_memory_93 : decode cX8_memory 93 = .ok (.ifCond .eq 43, 3) := by decide +kernel
theorem dX8_memory_96 : decode cX8_memory 96 = .ok (.iload 8, 2) := by decide +kernel
theorem dX8_memory_98 : decode cX8_memory 98 = .ok (.ifCond .eq 34, 3) := by decide +kernel
theorem dX8_memory_101 : decode cX8_memory 101 = .ok (.aload_n 0, 1) := by decide +kernel
theorem dX8_memory_102 : decode cX8_memory 102 = .ok (.iload_n 1, 1) := by decide +kernel
theorem dX8_memory_103 : decode cX8_memory 103 = .ok (.invokevirtual 87, 3) := by decide +kernel
theorem dX8_memory_106 : decode cX8_memory 106 = .ok (.iload 4, 2) := by decide +kernel
theorem dX8_memory_108 : decode cX8_memory 108 = .ok (.aload_n 0, 1) := by decide +kernel
theorem dX8_memory_109 : decode cX8_memory 109 = .ok (.getfield 7, 3) := by decide +kernel
theorem dX8_memory_112 : decode cX8_memory 112 = .ok (.iload 7, 2) := by decide +kernel
theorem dX8_memory_114 : decode cX8_memory 114 = .ok (.iconst 2, 1) := by decide +kernel
theorem dX8_memory_115 : decode cX8_memory 115 = .ok (.iadd, 1) := by decide +kernel
theorem dX8_memory_116 : decode cX8_memory 116 = .ok (.iaload, 1) := by decide +kernel
theorem dX8_memory_117 : decode cX8_memory 117 = .ok (.invokestatic 90, 3) := by decide +kernel
theorem dX8_memory_120 : decode cX8_memory 120 = .ok (.aload_n 0, 1) := by decide +kernel
theorem dX8_memory_121 : decode cX8_memory 121 = .ok (.getfield 7, 3) := by decide +kernel
theorem dX8_memory_124 : decode cX8_memory 124 = .ok (.iload 7, 2) := by decide +kernel
theorem dX8_memory_126 : decode cX8_memory 126 = .ok (.iconst 3, 1) := by decide +kernel
theorem dX8_memory_127 : decode cX8_memory 127 = .ok (.iadd, 1) := by decide +kernel
theorem dX8_memory_128 : decode cX8_memory 128 = .ok (.iaload, 1) := by decide +kernel
theorem dX8_memory_129 : decode cX8_memory 129 = .ok (.if_icmp .ne 7, 3) := by decide +kernel
theorem dX8_memory_132 : decode cX8_memory 132 = .ok (.iconst 1, 1) := by decide +kernel
theorem dX8_memory_133 : decode cX8_memory 133 = .ok (.goto 4, 3) := by decide +kernel
theorem dX8_memory_136 : decode cX8_memory 136 = .ok (.iconst 0, 1) := by decide +kernel
theorem dX8_memory_137 : decode cX8_memory 137 = .ok (.istore 5, 2) := by decide +kernel
theorem dX8_memory_139 : decode cX8_memory 139 = .ok (.iinc 6 1, 3) := by decide +kernel
theorem dX8_memory_142 : decode cX8_memory 142 = .ok (.goto (-102), 3) := by decide +kernel
theorem dX8_memory_145 : decode cX8_memory 145 = .ok (.iload_n 3, 1) := by decide +kernel
theorem dX8_memory_146 : decode cX8_memory 146 = .ok (.iload 5, 2) := by decide +kernel
theorem dX8_memory_148 : decode cX8_memory 148 = .ok (.ifCond .eq 10, 3) := by decide +kernel
theorem dX8_memory_151 : decode cX8_memory 151 = .ok (.iconst 1, 1) := by decide +kernel
theorem dX8_memory_152 : decode cX8_memory 152 = .ok (.iload 4, 2) := by decide +kernel
theorem dX8_memory_154 : decode cX8_memory 154 = .ok (.ishl, 1) := by decide +kernel
theorem dX8_memory_155 : decode cX8_memory 155 = .ok (.goto 4, 3) := by decide +kernel
theorem dX8_memory_158 : decode cX8_memory 158 = .ok (.iconst 0, 1) := by decide +kernel
theorem dX8_memory_159 : decode cX8_memory 159 = .ok (.ior, 1) := by decide +kernel
theorem dX8_memory_160 : decode cX8_memory 160 = .ok (.istore_n 3, 1) := by decide +kernel
theorem dX8_memory_161 : decode cX8_memory 161 = .ok (.iinc 4 1, 3) := by decide +kernel
theorem dX8_memory_164 : decode cX8_memory 164 = .ok (.goto (-137), 3) := by decide +kernel
theorem dX8_memory_167 : decode cX8_memory 167 = .ok (.iload_n 3, 1) := by decide +kernel
theorem dX8_memory_168 : decode cX8_memory 168 = .ok (.ireturn, 1) := by decide +kernel
theorem dX8_whose_0 : decode cX8_whose 0 = .ok (.iload_n 1, 1) := by decide +kernel
theorem dX8_whose_1 : decode cX8_whose 1 = .ok (.i2l, 1) := by decide +kernel
theorem dX8_whose_2 : decode cX8_whose 2 = .ok (.lconst 0, 1) := by decide +kernel
theorem dX8_whose_3 : decode cX8_whose 3 = .ok (.ldc2_w 151, 3) := by decide +kernel
theorem dX8_whose_6 : decode cX8_whose 6 = .ok (.invokestatic 56, 3) := by decide +kernel
theorem dX8_whose_9 : decode cX8_whose 9 = .ok (.ifCond .eq 40, 3) := by decide +kernel
theorem dX8_whose_12 : decode cX8_whose 12 = .ok (.iload_n 2, 1) := by decide +kernel
theorem dX8_whose_13 : decode cX8_whose 13 = .ok (.i2l, 1) := by decide +kernel
theorem dX8_whose_14 : decode cX8_whose 14 = .ok (.lconst 0, 1) := by decide +kernel
theorem dX8_whose_15 : decode cX8_whose 15 = .ok (.ldc2_w 151, 3) := by decide +kernel
theorem dX8_whose_18 : decode cX8_whose 18 = .ok (.invokestatic 56, 3) := by decide +kernel
theorem dX8_whose_21 : decode cX8_whose 21 = .ok (.ifCond .eq 28, 3) := by decide +kernel
theorem dX8_whose_24 : decode cX8_whose 24 = .ok (.iload_n 3, 1) := by decide +kernel
theorem dX8_whose_25 : decode cX8_whose 25 = .ok (.i2l, 1) := by decide +kernel
theorem dX8_whose_26 : decode cX8_whose 26 = .ok (.lconst 0, 1) := by decide +kernel
theorem dX8_whose_27 : decode cX8_whose 27 = .ok (.ldc2_w 151, 3) := by decide +kernel
theorem dX8_whose_30 : decode cX8_whose 30 = .ok (.invokestatic 56, 3) := by decide +kernel
theorem dX8_whose_33 : decode cX8_whose 33 = .ok (.ifCond .eq 16, 3) := by decide +kernel
theorem dX8_whose_36 : decode cX8_whose 36 = .ok (.iload 4, 2) := by decide +kernel
theorem dX8_whose_38 : decode cX8_whose 38 = .ok (.i2l, 1) := by decide +kernel
theorem dX8_whose_39 : decode cX8_whose 39 = .ok (.lconst 0, 1) := by decide +kernel
theorem dX8_whose_40 : decode cX8_whose 40 = .ok (.ldc2_w 151, 3) := by decide +kernel
theorem dX8_whose_43 : decode cX8_whose 43 = .ok (.invokestatic 56, 3) := by decide +kernel
theorem dX8_whose_46 : decode cX8_whose 46 = .ok (.ifCond .ne 10, 3) := by decide +kernel
theorem dX8_whose_49 : decode cX8_whose 49 = .ok (.aload_n 0, 1) := by decide +kernel
theorem dX8_whose_50 : decode cX8_whose 50 = .ok (.bipush (-2), 2) := by decide +kernel
theorem dX8_whose_52 : decode cX8_whose 52 = .ok (.invokevirtual 66, 3) := by decide +kernel
theorem dX8_whose_55 : decode cX8_whose 55 = .ok (.ireturn, 1) := by decide +kernel
theorem dX8_whose_56 : decode cX8_whose 56 = .ok (.iconst 0, 1) := by decide +kernel
theorem dX8_whose_57 : decode cX8_whose 57 = .ok (.istore 5, 2) := by decide +kernel
theorem dX8_whose_59 : decode cX8_whose 59 = .ok (.aload_n 0, 1) := by decide +kernel
theorem dX8_whose_60 : decode cX8_whose 60 = .ok (.invokevirtual 116, 3) := by decide +kernel
theorem dX8_whose_63 : decode cX8_whose 63 = .ok (.iconst 0, 1) := by decide +kernel
theorem dX8_whose_64 : decode cX8_whose 64 = .ok (.istore 6, 2) := by decide +kernel
theorem dX8_whose_66 : decode cX8_whose 66 = .ok (.iload 6, 2) := by decide +kernel
theorem dX8_whose_68 : decode cX8_whose 68 = .ok (.aload_n 0, 1) := by decide +kernel
theorem dX8_whose_69 : decode cX8_whose 69 = .ok (.invokevirtual 52, 3) := by decide +kernel
theorem dX8_whose_72 : decode cX8_whose 72 = .ok (.if_icmp .ge 79, 3) := by decide +kernel
theorem dX8_whose_75 : decode cX8_whose 75 = .ok (.aload_n 0, 1) := by decide +kernel
theorem dX8_whose_76 : decode cX8_whose 76 = .ok (.iload 6, 2) := by decide +kernel
theorem dX8_whose_78 : decode cX8_whose 78 = .ok (.iconst 0, 1) := by decide +kernel
theorem dX8_whose_79 : decode cX8_whose 79 = .ok (.invokevirtual 94, 3) := by decide +kernel
theorem dX8_whose_82 : decode cX8_whose 82 = .ok (.iload_n 1, 1) := by decide +kernel
theorem dX8_whose_83 : decode cX8_whose 83 = .ok (.if_icmp .ne 41, 3) := by decide +kernel
theorem dX8_whose_86 : decode cX8_whose 86 = .ok (.aload_n 0, 1) := by decide +kernel
theorem dX8_whose_87 : decode cX8_whose 87 = .ok (.iload 6, 2) := by decide +kernel
theorem dX8_whose_89 : decode cX8_whose 89 = .ok (.iconst 1, 1) := by decide +kernel
theorem dX8_whose_90 : decode cX8_whose 90 = .ok (.invokevirtual 94, 3) := by decide +kernel
theorem dX8_whose_93 : decode cX8_whose 93 = .ok (.iload_n 2, 1) := by decide +kernel
theorem dX8_whose_94 : decode cX8_whose 94 = .ok (.if_icmp .ne 30, 3) := by decide +kernel
theorem dX8_whose_97 : decode cX8_whose 97 = .ok (.aload_n 0, 1) := by decide +kernel
theorem dX8_whose_98 : decode cX8_whose 98 = .ok (.iload 6, 2) := by decide +kernel
theorem dX8_whose_100 : decode cX8_whose 100 = .ok (.iconst 2, 1) := by decide +kernel
theorem dX8_whose_101 : decode cX8_whose 101 = .ok (.invokevirtual 94, 3) := by decide +kernel
theorem dX8_whose_104 : decode cX8_whose 104 = .ok (.iload_n 3, 1) := by decide +kernel
theorem dX8_whose_105 : decode cX8_whose 105 = .ok (.if_icmp .ne 19, 3) := by decide +kernel
theorem dX8_whose_108 : decode cX8_whose 108 = .ok (.aload_n 0, 1) := by decide +kernel
theorem dX8_whose_109 : decode cX8_whose 109 = .ok (.iload 6, 2) := by decide +kernel
theorem dX8_whose_111 : decode cX8_whose 111 = .ok (.iconst 3, 1) := by decide +kernel
theorem dX8_whose_112 : decode cX8_whose 112 = .ok (.invokevirtual 94, 3) := by decide +kernel
theorem dX8_whose_115 : decode cX8_whose 115 = .ok (.iload 4, 2) := by decide +kernel
theorem dX8_whose_117 : decode cX8_whose 117 = .ok (.if_icmp .ne 7, 3) := by decide +kernel
theorem dX8_whose_120 : decode cX8_whose 120 = .ok (.iconst 1, 1) := by decide +kernel
theorem dX8_whose_121 : decode cX8_whose 121 = .ok (.goto 4, 3) := by decide +kernel
theorem dX8_whose_124 : decode cX8_whose 124 = .ok (.iconst 0, 1) := by decide +kernel
theorem dX8_whose_125 : decode cX8_whose 125 = .ok (.istore 7, 2) := by decide +kernel
theorem dX8_whose_127 : decode cX8_whose 127 = .ok (.iload 5, 2) := by decide +kernel
theorem dX8_whose_129 : decode cX8_whose 129 = .ok (.iload 7, 2) := by decide +kernel
theorem dX8_whose_131 : decode cX8_whose 131 = .ok (.ifCond .eq 10, 3) := by decide +kernel
theorem dX8_whose_134 : decode cX8_whose 134 = .ok (.iconst 1, 1) := by decide +kernel
theorem dX8_whose_135 : decode cX8_whose 135 = .ok (.iload 6, 2) := by decide +kernel
theorem dX8_whose_137 : decode cX8_whose 137 = .ok (.ishl, 1) := by decide +kernel
theorem dX8_whose_138 : decode cX8_whose 138 = .ok (.goto 4, 3) := by decide +kernel
theorem dX8_whose_141 : decode cX8_whose 141 = .ok (.iconst 0, 1) := by decide +kernel
theorem dX8_whose_142 : decode cX8_whose 142 = .ok (.ior, 1) := by decide +kernel
theorem dX8_whose_143 : decode cX8_whose 143 = .ok (.istore 5, 2) := by decide +kernel
theorem dX8_whose_145 : decode cX8_whose 145 = .ok (.iinc 6 1, 3) := by decide +kernel
theorem dX8_whose_148 : decode cX8_whose 148 = .ok (.goto (-82), 3) := by decide +kernel
theorem dX8_whose_151 : decode cX8_whose 151 = .ok (.iload 5, 2) := by decide +kernel
theorem dX8_whose_153 : decode cX8_whose 153 = .ok (.ireturn, 1) := by decide +kernel
theorem dX8_getsBy_0 : decode cX8_getsBy 0 = .ok (.bipush 20, 2) := by decide +kernel
theorem dX8_getsBy_2 : decode cX8_getsBy 2 = .ok (.aload_n 0, 1) := by decide +kernel
theorem dX8_getsBy_3 : decode cX8_getsBy 3 = .ok (.iload_n 1, 1) := by decide +kernel
theorem dX8_getsBy_4 : decode cX8_getsBy 4 = .ok (.iload_n 3, 1) := by decide +kernel
theorem dX8_getsBy_5 : decode cX8_getsBy 5 = .ok (.invokevirtual 98, 3) := by decide +kernel
theorem dX8_getsBy_8 : decode cX8_getsBy 8 = .ok (.isub, 1) := by decide +kernel
theorem dX8_getsBy_9 : decode cX8_getsBy 9 = .ok (.istore 4, 2) := by decide +kernel
theorem dX8_getsBy_11 : decode cX8_getsBy 11 = .ok (.iload_n 1, 1) := by decide +kernel
theorem dX8_getsBy_12 : decode cX8_getsBy 12 = .ok (.iload_n 2, 1) := by decide +kernel
theorem dX8_getsBy_13 : decode cX8_getsBy 13 = .ok (.if_icmp .ne 10, 3) := by decide +kernel
theorem dX8_getsBy_16 : decode cX8_getsBy 16 = .ok (.iload 4, 2) := by decide +kernel
theorem dX8_getsBy_18 : decode cX8_getsBy 18 = .ok (.iconst 2, 1) := by decide +kernel
theorem dX8_getsBy_19 : decode cX8_getsBy 19 = .ok (.idiv, 1) := by decide +kernel
theorem dX8_getsBy_20 : decode cX8_getsBy 20 = .ok (.goto 5, 3) := by decide +kernel
theorem dX8_getsBy_23 : decode cX8_getsBy 23 = .ok (.iload 4, 2) := by decide +kernel
theorem dX8_getsBy_25 : decode cX8_getsBy 25 = .ok (.ireturn, 1) := by decide +kernel
theorem dX8_rests_0 : decode cX8_rests 0 = .ok (.iconst 1, 1) := by decide +kernel
theorem dX8_rests_1 : decode cX8_rests 1 = .ok (.istore 5, 2) := by decide +kernel
theorem dX8_rests_3 : decode cX8_rests 3 = .ok (.iconst 0, 1) := by decide +kernel
theorem dX8_rests_4 : decode cX8_rests 4 = .ok (.istore 6, 2) := by decide +kernel
theorem dX8_rests_6 : decode cX8_rests 6 = .ok (.iload 6, 2) := by decide +kernel
theorem dX8_rests_8 : decode cX8_rests 8 = .ok (.aload_n 0, 1) := by decide +kernel
theorem dX8_rests_9 : decode cX8_rests 9 = .ok (.invokevirtual 52, 3) := by decide +kernel
theorem dX8_rests_12 : decode cX8_rests 12 = .ok (.if_icmp .ge 59, 3) := by decide +kernel
theorem dX8_rests_15 : decode cX8_rests 15 = .ok (.iload 5, 2) := by decide +kernel
theorem dX8_rests_17 : decode cX8_rests 17 = .ok (.ifCond .eq 45, 3) := by decide +kernel
theorem dX8_rests_20 : decode cX8_rests 20 = .ok (.aload_n 0, 1) := by decide +kernel
theorem dX8_rests_21 : decode cX8_rests 21 = .ok (.iload 6, 2) := by decide +kernel
theorem dX8_rests_23 : decode cX8_rests 23 = .ok (.iload_n 2, 1) := by decide +kernel
theorem dX8_rests_24 : decode cX8_rests 24 = .ok (.iload_n 3, 1) := by decide +kernel
theorem dX8_rests_25 : decode cX8_rests 25 = .ok (.invokevirtual 162, 3) := by decide +kernel
theorem dX8_rests_28 : decode cX8_rests 28 = .ok (.aload_n 0, 1) := by decide +kernel
theorem dX8_rests_29 : decode cX8_rests 29 = .ok (.iload_n 1, 1) := by decide +kernel
theorem dX8_rests_30 : decode cX8_rests 30 = .ok (.iload_n 2, 1) := by decide +kernel
theorem dX8_rests_31 : decode cX8_rests 31 = .ok (.iload_n 3, 1) := by decide +kernel
theorem dX8_rests_32 : decode cX8_rests 32 = .ok (.invokevirtual 162, 3) := by decide +kernel
theorem dX8_rests_35 : decode cX8_rests 35 = .ok (.if_icmp .gt 27, 3) := by decide +kernel
theorem dX8_rests_38 : decode cX8_rests 38 = .ok (.aload_n 0, 1) := by decide +kernel
theorem dX8_rests_39 : decode cX8_rests 39 = .ok (.iload 6, 2) := by decide +kernel
theorem dX8_rests_41 : decode cX8_rests 41 = .ok (.iload_n 1, 1) := by decide +kernel
theorem dX8_rests_42 : decode cX8_rests 42 = .ok (.iload 4, 2) := by decide +kernel
theorem dX8_rests_44 : decode cX8_rests 44 = .ok (.invokevirtual 162, 3) := by decide +kernel
theorem dX8_rests_47 : decode cX8_rests 47 = .ok (.aload_n 0, 1) := by decide +kernel
theorem dX8_rests_48 : decode cX8_rests 48 = .ok (.iload_n 2, 1) := by decide +kernel
theorem dX8_rests_49 : decode cX8_rests 49 = .ok (.iload_n 1, 1) := by decide +kernel
theorem dX8_rests_50 : decode cX8_rests 50 = .ok (.iload 4, 2) := by decide +kernel
theorem dX8_rests_52 : decode cX8_rests 52 = .ok (.invokevirtual 162, 3) := by decide +kernel
theorem dX8_rests_55 : decode cX8_rests 55 = .ok (.if_icmp .gt 7, 3) := by decide +kernel
theorem dX8_rests_58 : decode cX8_rests 58 = .ok (.iconst 1, 1) := by decide +kernel
theorem dX8_rests_59 : decode cX8_rests 59 = .ok (.goto 4, 3) := by decide +kernel
theorem dX8_rests_62 : decode cX8_rests 62 = .ok (.iconst 0, 1) := by decide +kernel
theorem dX8_rests_63 : decode cX8_rests 63 = .ok (.istore 5, 2) := by decide +kernel
theorem dX8_rests_65 : decode cX8_rests 65 = .ok (.iinc 6 1, 3) := by decide +kernel
theorem dX8_rests_68 : decode cX8_rests 68 = .ok (.goto (-62), 3) := by decide +kernel
theorem dX8_rests_71 : decode cX8_rests 71 = .ok (.iload 5, 2) := by decide +kernel
theorem dX8_rests_73 : decode cX8_rests 73 = .ok (.ireturn, 1) := by decide +kernel
theorem dX8_two_0 : decode cX8_two 0 = .ok (.iload_n 1, 1) := by decide +kernel
theorem dX8_two_1 : decode cX8_two 1 = .ok (.invokestatic 110, 3) := by decide +kernel
theorem dX8_two_4 : decode cX8_two 4 = .ok (.ifCond .eq 15, 3) := by decide +kernel
theorem dX8_two_7 : decode cX8_two 7 = .ok (.iload_n 2, 1) := by decide +kernel
theorem dX8_two_8 : decode cX8_two 8 = .ok (.invokestatic 110, 3) := by decide +kernel
theorem dX8_two_11 : decode cX8_two 11 = .ok (.ifCond .eq 8, 3) := by decide +kernel
theorem dX8_two_14 : decode cX8_two 14 = .ok (.iload_n 3, 1) := by decide +kernel
theorem dX8_two_15 : decode cX8_two 15 = .ok (.iconst (-1), 1) := by decide +kernel
theorem dX8_two_16 : decode cX8_two 16 = .ok (.if_icmp .ge 10, 3) := by decide +kernel
theorem dX8_two_19 : decode cX8_two 19 = .ok (.aload_n 0, 1) := by decide +kernel
theorem dX8_two_20 : decode cX8_two 20 = .ok (.bipush (-10), 2) := by decide +kernel
theorem dX8_two_22 : decode cX8_two 22 = .ok (.invokevirtual 66, 3) := by decide +kernel
theorem dX8_two_25 : decode cX8_two 25 = .ok (.ireturn, 1) := by decide +kernel
theorem dX8_two_26 : decode cX8_two 26 = .ok (.iconst 0, 1) := by decide +kernel
theorem dX8_two_27 : decode cX8_two 27 = .ok (.istore 4, 2) := by decide +kernel
theorem dX8_two_29 : decode cX8_two 29 = .ok (.bipush (-5), 2) := by decide +kernel
theorem dX8_two_31 : decode cX8_two 31 = .ok (.istore 5, 2) := by decide +kernel
theorem dX8_two_33 : decode cX8_two 33 = .ok (.aload_n 0, 1) := by decide +kernel
theorem dX8_two_34 : decode cX8_two 34 = .ok (.invokevirtual 116, 3) := by decide +kernel
theorem dX8_two_37 : decode cX8_two 37 = .ok (.iconst 0, 1) := by decide +kernel
theorem dX8_two_38 : decode cX8_two 38 = .ok (.istore 6, 2) := by decide +kernel
theorem dX8_two_40 : decode cX8_two 40 = .ok (.iload 6, 2) := by decide +kernel
theorem dX8_two_42 : decode cX8_two 42 = .ok (.aload_n 0, 1) := by decide +kernel
theorem dX8_two_43 : decode cX8_two 43 = .ok (.invokevirtual 52, 3) := by decide +kernel
theorem dX8_two_46 : decode cX8_two 46 = .ok (.if_icmp .ge 63, 3) := by decide +kernel
theorem dX8_two_49 : decode cX8_two 49 = .ok (.iconst 0, 1) := by decide +kernel
theorem dX8_two_50 : decode cX8_two 50 = .ok (.istore 7, 2) := by decide +kernel
theorem dX8_two_52 : decode cX8_two 52 = .ok (.iload 7, 2) := by decide +kernel
theorem dX8_two_54 : decode cX8_two 54 = .ok (.aload_n 0, 1) := by decide +kernel
theorem dX8_two_55 : decode cX8_two 55 = .ok (.invokevirtual 52, 3) := by decide +kernel
theorem dX8_two_58 : decode cX8_two 58 = .ok (.if_icmp .ge 45, 3) := by decide +kernel
theorem dX8_two_61 : decode cX8_two 61 = .ok (.aload_n 0, 1) := by decide +kernel
theorem dX8_two_62 : decode cX8_two 62 = .ok (.iload 6, 2) := by decide +kernel
theorem dX8_two_64 : decode cX8_two 64 = .ok (.iload 7, 2) := by decide +kernel
theorem dX8_two_66 : decode cX8_two 66 = .ok (.iload_n 1, 1) := by decide +kernel
theorem dX8_two_67 : decode cX8_two 67 = .ok (.iload_n 2, 1) := by decide +kernel
theorem dX8_two_68 : decode cX8_two 68 = .ok (.invokevirtual 165, 3) := by decide +kernel
theorem dX8_two_71 : decode cX8_two 71 = .ok (.ifCond .eq 26, 3) := by decide +kernel
theorem dX8_two_74 : decode cX8_two 74 = .ok (.iload 4, 2) := by decide +kernel
theorem dX8_two_76 : decode cX8_two 76 = .ok (.iload_n 3, 1) := by decide +kernel
theorem dX8_two_77 : decode cX8_two 77 = .ok (.if_icmp .ne 13, 3) := by decide +kernel
theorem dX8_two_80 : decode cX8_two 80 = .ok (.iconst 4, 1) := by decide +kernel
theorem dX8_two_81 : decode cX8_two 81 = .ok (.iload 6, 2) := by decide +kernel
theorem dX8_two_83 : decode cX8_two 83 = .ok (.imul, 1) := by decide +kernel
theorem dX8_two_84 : decode cX8_two 84 = .ok (.iload 7, 2) := by decide +kernel
theorem dX8_two_86 : decode cX8_two 86 = .ok (.iadd, 1) := by decide +kernel
theorem dX8_two_87 : decode cX8_two 87 = .ok (.goto 5, 3) := by decide +kernel
theorem dX8_two_90 : decode cX8_two 90 = .ok (.iload 5, 2) := by decide +kernel
theorem dX8_two_92 : decode cX8_two 92 = .ok (.istore 5, 2) := by decide +kernel
theorem dX8_two_94 : decode cX8_two 94 = .ok (.iinc 4 1, 3) := by decide +kernel
theorem dX8_two_97 : decode cX8_two 97 = .ok (.iinc 7 1, 3) := by decide +kernel
theorem dX8_two_100 : decode cX8_two 100 = .ok (.goto (-48), 3) := by decide +kernel
theorem dX8_two_103 : decode cX8_two 103 = .ok (.iinc 6 1, 3) := by decide +kernel
theorem dX8_two_106 : decode cX8_two 106 = .ok (.goto (-66), 3) := by decide +kernel
theorem dX8_two_109 : decode cX8_two 109 = .ok (.iload_n 3, 1) := by decide +kernel
theorem dX8_two_110 : decode cX8_two 110 = .ok (.iconst (-1), 1) := by decide +kernel
theorem dX8_two_111 : decode cX8_two 111 = .ok (.if_icmp .ne 8, 3) := by decide +kernel
theorem dX8_two_114 : decode cX8_two 114 = .ok (.iload 4, 2) := by decide +kernel
theorem dX8_two_116 : decode cX8_two 116 = .ok (.goto 5, 3) := by decide +kernel
theorem dX8_two_119 : decode cX8_two 119 = .ok (.iload 5, 2) := by decide +kernel
theorem dX8_two_121 : decode cX8_two 121 = .ok (.ireturn, 1) := by decide +kernel
theorem dX8_fraction_0 : decode cX8_fraction 0 = .ok (.lload_n 1, 1) := by decide +kernel
theorem dX8_fraction_1 : decode cX8_fraction 1 = .ok (.lstore 5, 2) := by decide +kernel
theorem dX8_fraction_3 : decode cX8_fraction 3 = .ok (.lload_n 3, 1) := by decide +kernel
theorem dX8_fraction_4 : decode cX8_fraction 4 = .ok (.lstore 7, 2) := by decide +kernel
theorem dX8_fraction_6 : decode cX8_fraction 6 = .ok (.lload 7, 2) := by decide +kernel
theorem dX8_fraction_8 : decode cX8_fraction 8 = .ok (.lconst 0, 1) := by decide +kernel
theorem dX8_fraction_9 : decode cX8_fraction 9 = .ok (.lcmp, 1) := by decide +kernel
theorem dX8_fraction_10 : decode cX8_fraction 10 = .ok (.ifCond .eq 21, 3) := by decide +kernel
theorem dX8_fraction_13 : decode cX8_fraction 13 = .ok (.lload 5, 2) := by decide +kernel
theorem dX8_fraction_15 : decode cX8_fraction 15 = .ok (.lload 7, 2) := by decide +kernel
theorem dX8_fraction_17 : decode cX8_fraction 17 = .ok (.lrem, 1) := by decide +kernel
theorem dX8_fraction_18 : decode cX8_fraction 18 = .ok (.lstore 9, 2) := by decide +kernel
theorem dX8_fraction_20 : decode cX8_fraction 20 = .ok (.lload 7, 2) := by decide +kernel
theorem dX8_fraction_22 : decode cX8_fraction 22 = .ok (.lstore 5, 2) := by decide +kernel
theorem dX8_fraction_24 : decode cX8_fraction 24 = .ok (.lload 9, 2) := by decide +kernel
theorem dX8_fraction_26 : decode cX8_fraction 26 = .ok (.lstore 7, 2) := by decide +kernel
theorem dX8_fraction_28 : decode cX8_fraction 28 = .ok (.goto (-22), 3) := by decide +kernel
theorem dX8_fraction_31 : decode cX8_fraction 31 = .ok (.aload_n 0, 1) := by decide +kernel
theorem dX8_fraction_32 : decode cX8_fraction 32 = .ok (.lload_n 1, 1) := by decide +kernel
theorem dX8_fraction_33 : decode cX8_fraction 33 = .ok (.lload 5, 2) := by decide +kernel
theorem dX8_fraction_35 : decode cX8_fraction 35 = .ok (.ldiv, 1) := by decide +kernel
theorem dX8_fraction_36 : decode cX8_fraction 36 = .ok (.putfield 169, 3) := by decide +kernel
theorem dX8_fraction_39 : decode cX8_fraction 39 = .ok (.aload_n 0, 1) := by decide +kernel
theorem dX8_fraction_40 : decode cX8_fraction 40 = .ok (.lload_n 3, 1) := by decide +kernel
theorem dX8_fraction_41 : decode cX8_fraction 41 = .ok (.lload 5, 2) := by decide +kernel
theorem dX8_fraction_43 : decode cX8_fraction 43 = .ok (.ldiv, 1) := by decide +kernel
theorem dX8_fraction_44 : decode cX8_fraction 44 = .ok (.putfield 23, 3) := by decide +kernel
theorem dX8_fraction_47 : decode cX8_fraction 47 = .ok (.return_, 1) := by decide +kernel
theorem dX8_frost_0 : decode cX8_frost 0 = .ok (.aload_n 0, 1) := by decide +kernel
theorem dX8_frost_1 : decode cX8_frost 1 = .ok (.iload_n 1, 1) := by decide +kernel
theorem dX8_frost_2 : decode cX8_frost 2 = .ok (.invokevirtual 107, 3) := by decide +kernel
theorem dX8_frost_5 : decode cX8_frost 5 = .ok (.ifCond .eq 15, 3) := by decide +kernel
theorem dX8_frost_8 : decode cX8_frost 8 = .ok (.iload_n 2, 1) := by decide +kernel
theorem dX8_frost_9 : decode cX8_frost 9 = .ok (.i2l, 1) := by decide +kernel
theorem dX8_frost_10 : decode cX8_frost 10 = .ok (.lconst 0, 1) := by decide +kernel
theorem dX8_frost_11 : decode cX8_frost 11 = .ok (.ldc2_w 172, 3) := by decide +kernel
theorem dX8_frost_14 : decode cX8_frost 14 = .ok (.invokestatic 56, 3) := by decide +kernel
theorem dX8_frost_17 : decode cX8_frost 17 = .ok (.ifCond .ne 10, 3) := by decide +kernel
theorem dX8_frost_20 : decode cX8_frost 20 = .ok (.aload_n 0, 1) := by decide +kernel
theorem dX8_frost_21 : decode cX8_frost 21 = .ok (.bipush (-2), 2) := by decide +kernel
theorem dX8_frost_23 : decode cX8_frost 23 = .ok (.invokevirtual 66, 3) := by decide +kernel
theorem dX8_frost_26 : decode cX8_frost 26 = .ok (.ireturn, 1) := by decide +kernel
theorem dX8_frost_27 : decode cX8_frost 27 = .ok (.aload_n 0, 1) := by decide +kernel
theorem dX8_frost_28 : decode cX8_frost 28 = .ok (.invokevirtual 116, 3) := by decide +kernel
theorem dX8_frost_31 : decode cX8_frost 31 = .ok (.aload_n 0, 1) := by decide +kernel
theorem dX8_frost_32 : decode cX8_frost 32 = .ok (.aload_n 0, 1) := by decide +kernel
theorem dX8_frost_33 : decode cX8_frost 33 = .ok (.iload_n 1, 1) := by decide +kernel
theorem dX8_frost_34 : decode cX8_frost 34 = .ok (.invokevirtual 137, 3) := by decide +kernel
theorem dX8_frost_37 : decode cX8_frost 37 = .ok (.i2l, 1) := by decide +kernel
theorem dX8_frost_38 : decode cX8_frost 38 = .ok (.bipush 10, 2) := by decide +kernel
theorem dX8_frost_40 : decode cX8_frost 40 = .ok (.iload_n 2, 1) := by decide +kernel
theorem dX8_frost_41 : decode cX8_frost 41 = .ok (.isub, 1) := by decide +kernel
theorem dX8_frost_42 : decode cX8_frost 42 = .ok (.i2l, 1) := by decide +kernel
theorem dX8_frost_43 : decode cX8_frost 43 = .ok (.lmul, 1) := by decide +kernel
theorem dX8_frost_44 : decode cX8_frost 44 = .ok (.ldc2_w 172, 3) := by decide +kernel
theorem dX8_frost_47 : decode cX8_frost 47 = .ok (.invokevirtual 174, 3) := by decide +kernel
theorem dX8_frost_50 : decode cX8_frost 50 = .ok (.iconst 1, 1) := by decide +kernel
theorem dX8_frost_51 : decode cX8_frost 51 = .ok (.ireturn, 1) := by decide +kernel
theorem dX8_streets_0 : decode cX8_streets 0 = .ok (.iload_n 1, 1) := by decide +kernel
theorem dX8_streets_1 : decode cX8_streets 1 = .ok (.i2l, 1) := by decide +kernel
theorem dX8_streets_2 : decode cX8_streets 2 = .ok (.lconst 0, 1) := by decide +kernel
theorem dX8_streets_3 : decode cX8_streets 3 = .ok (.ldc2_w 178, 3) := by decide +kernel
theorem dX8_streets_6 : decode cX8_streets 6 = .ok (.invokestatic 56, 3) := by decide +kernel
theorem dX8_streets_9 : decode cX8_streets 9 = .ok (.ifCond .eq 15, 3) := by decide +kernel
theorem dX8_streets_12 : decode cX8_streets 12 = .ok (.iload_n 2, 1) := by decide +kernel
theorem dX8_streets_13 : decode cX8_streets 13 = .ok (.i2l, 1) := by decide +kernel
theorem dX8_streets_14 : decode cX8_streets 14 = .ok (.lconst 0, 1) := by decide +kernel
theorem dX8_streets_15 : decode cX8_streets 15 = .ok (.ldc2_w 125, 3) := by decide +kernel
theorem dX8_streets_18 : decode cX8_streets 18 = .ok (.invokestatic 56, 3) := by decide +kernel
theorem dX8_streets_21 : decode cX8_streets 21 = .ok (.ifCond .ne 10, 3) := by decide +kernel
theorem dX8_streets_24 : decode cX8_streets 24 = .ok (.aload_n 0, 1) := by decide +kernel
theorem dX8_streets_25 : decode cX8_streets 25 = .ok (.bipush (-2), 2) := by decide +kernel
theorem dX8_streets_27 : decode cX8_streets 27 = .ok (.invokevirtual 66, 3) := by decide +kernel
theorem dX8_streets_30 : decode cX8_streets 30 = .ok (.ireturn, 1) := by decide +kernel
theorem dX8_streets_31 : decode cX8_streets 31 = .ok (.iload_n 1, 1) := by decide +kernel
theorem dX8_streets_32 : decode cX8_streets 32 = .ok (.i2l, 1) := by decide +kernel
theorem dX8_streets_33 : decode cX8_streets 33 = .ok (.lstore_n 3, 1) := by decide +kernel
theorem dX8_streets_34 : decode cX8_streets 34 = .ok (.iconst 0, 1) := by decide +kernel
theorem dX8_streets_35 : decode cX8_streets 35 = .ok (.istore 5, 2) := by decide +kernel
theorem dX8_streets_37 : decode cX8_streets 37 = .ok (.aload_n 0, 1) := by decide +kernel
theorem dX8_streets_38 : decode cX8_streets 38 = .ok (.invokevirtual 116, 3) := by decide +kernel
theorem dX8_streets_41 : decode cX8_streets 41 = .ok (.iconst 0, 1) := by decide +kernel
theorem dX8_streets_42 : decode cX8_streets 42 = .ok (.istore 6, 2) := by decide +kernel
theorem dX8_streets_44 : decode cX8_streets 44 = .ok (.iload 6, 2) := by decide +kernel
theorem dX8_streets_46 : decode cX8_streets 46 = .ok (.iload_n 2, 1) := by decide +kernel
theorem dX8_streets_47 : decode cX8_streets 47 = .ok (.if_icmp .ge 93, 3) := by decide +kernel
theorem dX8_streets_50 : decode cX8_streets 50 = .ok (.lload_n 3, 1) := by decide +kernel
theorem dX8_streets_51 : decode cX8_streets 51 = .ok (.ldc2_w 180, 3) := by decide +kernel
theorem dX8_streets_54 : decode cX8_streets 54 = .ok (.lmul, 1) := by decide +kernel
theorem dX8_streets_55 : decode cX8_streets 55 = .ok (.ldc2_w 182, 3) := by decide +kernel
theorem dX8_streets_58 : decode cX8_streets 58 = .ok (.ladd, 1) := by decide +kernel
theorem dX8_streets_59 : decode cX8_streets 59 = .ok (.ldc2_w 184, 3) := by decide +kernel
theorem dX8_streets_62 : decode cX8_streets 62 = .ok (.lrem, 1) := by decide +kernel
theorem dX8_streets_63 : decode cX8_streets 63 = .ok (.lstore_n 3, 1) := by decide +kernel
theorem dX8_streets_64 : decode cX8_streets 64 = .ok (.lload_n 3, 1) := by decide +kernel
theorem dX8_streets_65 : decode cX8_streets 65 = .ok (.ldc2_w 186, 3) := by decide +kernel
theorem dX8_streets_68 : decode cX8_streets 68 = .ok (.ldiv, 1) := by decide +kernel
theorem dX8_streets_69 : decode cX8_streets 69 = .ok (.ldc2_w 133, 3) := by decide +kernel
theorem dX8_streets_72 : decode cX8_streets 72 = .ok (.lrem, 1) := by decide +kernel
theorem dX8_streets_73 : decode cX8_streets 73 = .ok (.l2i, 1) := by decide +kernel
theorem dX8_streets_74 : decode cX8_streets 74 = .ok (.istore 7, 2) := by decide +kernel
theorem dX8_streets_76 : decode cX8_streets 76 = .ok (.lload_n 3, 1) := by decide +kernel
theorem dX8_streets_77 : decode cX8_streets 77 = .ok (.ldc2_w 188, 3) := by decide +kernel
theorem dX8_streets_80 : decode cX8_streets 80 = .ok (.ldiv, 1) := by decide +kernel
theorem dX8_streets_81 : decode cX8_streets 81 = .ok (.ldc2_w 133, 3) := by decide +kernel
theorem dX8_streets_84 : decode cX8_streets 84 = .ok (.lrem, 1) := by decide +kernel
theorem dX8_streets_85 : decode cX8_streets 85 = .ok (.l2i, 1) := by decide +kernel
theorem dX8_streets_86 : decode cX8_streets 86 = .ok (.istore 8, 2) := by decide +kernel
theorem dX8_streets_88 : decode cX8_streets 88 = .ok (.lload_n 3, 1) := by decide +kernel
theorem dX8_streets_89 : decode cX8_streets 89 = .ok (.ldc2_w 190, 3) := by decide +kernel
theorem dX8_streets_92 : decode cX8_streets 92 = .ok (.ldiv, 1) := by decide +kernel
theorem dX8_streets_93 : decode cX8_streets 93 = .ok (.ldc2_w 70, 3) := by decide +kernel
theorem dX8_streets_96 : decode cX8_streets 96 = .ok (.lrem, 1) := by decide +kernel
theorem dX8_streets_97 : decode cX8_streets 97 = .ok (.l2i, 1) := by decide +kernel
theorem dX8_streets_98 : decode cX8_streets 98 = .ok (.iconst 1, 1) := by decide +kernel
theorem dX8_streets_99 : decode cX8_streets 99 = .ok (.iadd, 1) := by decide +kernel
theorem dX8_streets_100 : decode cX8_streets 100 = .ok (.istore 9, 2) := by decide +kernel
theorem dX8_streets_102 : decode cX8_streets 102 = .ok (.iload 5, 2) := by decide +kernel
theorem dX8_streets_104 : decode cX8_streets 104 = .ok (.iload 7, 2) := by decide +kernel
theorem dX8_streets_106 : decode cX8_streets 106 = .ok (.aload_n 0, 1) := by decide +kernel
theorem dX8_streets_107 : decode cX8_streets 107 = .ok (.invokevirtual 52, 3) := by decide +kernel
theorem dX8_streets_110 : decode cX8_streets 110 = .ok (.if_icmp .ge 16, 3) := by decide +kernel
theorem dX8_streets_113 : decode cX8_streets 113 = .ok (.aload_n 0, 1) := by decide +kernel
theorem dX8_streets_114 : decode cX8_streets 114 = .ok (.iload 7, 2) := by decide +kernel
theorem dX8_streets_116 : decode cX8_streets 116 = .ok (.iload 8, 2) := by decide +kernel
theorem dX8_streets_118 : decode cX8_streets 118 = .ok (.iload 9, 2) := by decide +kernel
theorem dX8_streets_120 : decode cX8_streets 120 = .ok (.invokevirtual 119, 3) := by decide +kernel
theorem dX8_streets_123 : decode cX8_streets 123 = .ok (.goto 4, 3) := by decide +kernel
theorem dX8_streets_126 : decode cX8_streets 126 = .ok (.iconst 0, 1) := by decide +kernel
theorem dX8_streets_127 : decode cX8_streets 127 = .ok (.iadd, 1) := by decide +kernel
theorem dX8_streets_128 : decode cX8_streets 128 = .ok (.istore 5, 2) := by decide +kernel
theorem dX8_streets_130 : decode cX8_streets 130 = .ok (.aload_n 0, 1) := by decide +kernel
theorem dX8_streets_131 : decode cX8_streets 131 = .ok (.invokevirtual 127, 3) := by decide +kernel
theorem dX8_streets_134 : decode cX8_streets 134 = .ok (.iinc 6 1, 3) := by decide +kernel
theorem dX8_streets_137 : decode cX8_streets 137 = .ok (.goto (-93), 3) := by decide +kernel
theorem dX8_streets_140 : decode cX8_streets 140 = .ok (.iload 5, 2) := by decide +kernel
theorem dX8_streets_142 : decode cX8_streets 142 = .ok (.ireturn, 1) := by decide +kernel
theorem dX8_type_0 : decode cX8_type 0 = .ok (.iload_n 1, 1) := by decide +kernel
theorem dX8_type_1 : decode cX8_type 1 = .ok (.i2l, 1) := by decide +kernel
theorem dX8_type_2 : decode cX8_type 2 = .ok (.lconst 0, 1) := by decide +kernel
theorem dX8_type_3 : decode cX8_type 3 = .ok (.ldc2_w 192, 3) := by decide +kernel
theorem dX8_type_6 : decode cX8_type 6 = .ok (.invokestatic 56, 3) := by decide +kernel
theorem dX8_type_9 : decode cX8_type 9 = .ok (.ifCond .ne 10, 3) := by decide +kernel
theorem dX8_type_12 : decode cX8_type 12 = .ok (.aload_n 0, 1) := by decide +kernel
theorem dX8_type_13 : decode cX8_type 13 = .ok (.bipush (-2), 2) := by decide +kernel
theorem dX8_type_15 : decode cX8_type 15 = .ok (.invokevirtual 66, 3) := by decide +kernel
theorem dX8_type_18 : decode cX8_type 18 = .ok (.ireturn, 1) := by decide +kernel
theorem dX8_type_19 : decode cX8_type 19 = .ok (.aload_n 0, 1) := by decide +kernel
theorem dX8_type_20 : decode cX8_type 20 = .ok (.getfield 194, 3) := by decide +kernel
theorem dX8_type_23 : decode cX8_type 23 = .ok (.sipush 150, 3) := by decide +kernel
theorem dX8_type_26 : decode cX8_type 26 = .ok (.if_icmp .ne 8, 3) := by decide +kernel
theorem dX8_type_29 : decode cX8_type 29 = .ok (.aload_n 0, 1) := by decide +kernel
theorem dX8_type_30 : decode cX8_type 30 = .ok (.invokevirtual 76, 3) := by decide +kernel
theorem dX8_type_33 : decode cX8_type 33 = .ok (.ireturn, 1) := by decide +kernel
theorem dX8_type_34 : decode cX8_type 34 = .ok (.aload_n 0, 1) := by decide +kernel
theorem dX8_type_35 : decode cX8_type 35 = .ok (.getfield 39, 3) := by decide +kernel
theorem dX8_type_38 : decode cX8_type 38 = .ok (.aload_n 0, 1) := by decide +kernel
theorem dX8_type_39 : decode cX8_type 39 = .ok (.getfield 194, 3) := by decide +kernel
theorem dX8_type_42 : decode cX8_type 42 = .ok (.iload_n 1, 1) := by decide +kernel
theorem dX8_type_43 : decode cX8_type 43 = .ok (.iastore, 1) := by decide +kernel
theorem dX8_type_44 : decode cX8_type 44 = .ok (.aload_n 0, 1) := by decide +kernel
theorem dX8_type_45 : decode cX8_type 45 = .ok (.dup, 1) := by decide +kernel
theorem dX8_type_46 : decode cX8_type 46 = .ok (.getfield 194, 3) := by decide +kernel
theorem dX8_type_49 : decode cX8_type 49 = .ok (.iconst 1, 1) := by decide +kernel
theorem dX8_type_50 : decode cX8_type 50 = .ok (.iadd, 1) := by decide +kernel
theorem dX8_type_51 : decode cX8_type 51 = .ok (.putfield 194, 3) := by decide +kernel
theorem dX8_type_54 : decode cX8_type 54 = .ok (.aload_n 0, 1) := by decide +kernel
theorem dX8_type_55 : decode cX8_type 55 = .ok (.getfield 194, 3) := by decide +kernel
theorem dX8_type_58 : decode cX8_type 58 = .ok (.ireturn, 1) := by decide +kernel
theorem dX8_clear_0 : decode cX8_clear 0 = .ok (.aload_n 0, 1) := by decide +kernel
theorem dX8_clear_1 : decode cX8_clear 1 = .ok (.getfield 194, 3) := by decide +kernel
theorem dX8_clear_4 : decode cX8_clear 4 = .ok (.istore_n 1, 1) := by decide +kernel
theorem dX8_clear_5 : decode cX8_clear 5 = .ok (.aload_n 0, 1) := by decide +kernel
theorem dX8_clear_6 : decode cX8_clear 6 = .ok (.iconst 0, 1) := by decide +kernel
theorem dX8_clear_7 : decode cX8_clear 7 = .ok (.putfield 194, 3) := by decide +kernel
theorem dX8_clear_10 : decode cX8_clear 10 = .ok (.iload_n 1, 1) := by decide +kernel
theorem dX8_clear_11 : decode cX8_clear 11 = .ok (.ireturn, 1) := by decide +kernel
theorem dX8_isSmall_0 : decode cX8_isSmall 0 = .ok (.iload_n 0, 1) := by decide +kernel
theorem dX8_isSmall_1 : decode cX8_isSmall 1 = .ok (.i2l, 1) := by decide +kernel
theorem dX8_isSmall_2 : decode cX8_isSmall 2 = .ok (.ldc2_w 197, 3) := by decide +kernel
theorem dX8_isSmall_5 : decode cX8_isSmall 5 = .ok (.ldc2_w 199, 3) := by decide +kernel
theorem dX8_isSmall_8 : decode cX8_isSmall 8 = .ok (.invokestatic 56, 3) := by decide +kernel
theorem dX8_isSmall_11 : decode cX8_isSmall 11 = .ok (.ireturn, 1) := by decide +kernel
theorem dX8_isFigure_0 : decode cX8_isFigure 0 = .ok (.iload_n 0, 1) := by decide +kernel
theorem dX8_isFigure_1 : decode cX8_isFigure 1 = .ok (.i2l, 1) := by decide +kernel
theorem dX8_isFigure_2 : decode cX8_isFigure 2 = .ok (.ldc2_w 201, 3) := by decide +kernel
theorem dX8_isFigure_5 : decode cX8_isFigure 5 = .ok (.ldc2_w 203, 3) := by decide +kernel
theorem dX8_isFigure_8 : decode cX8_isFigure 8 = .ok (.invokestatic 56, 3) := by decide +kernel
theorem dX8_isFigure_11 : decode cX8_isFigure 11 = .ok (.ireturn, 1) := by decide +kernel
theorem dX8_lookAt_0 : decode cX8_lookAt 0 = .ok (.aload_n 0, 1) := by decide +kernel
theorem dX8_lookAt_1 : decode cX8_lookAt 1 = .ok (.iload_n 1, 1) := by decide +kernel
theorem dX8_lookAt_2 : decode cX8_lookAt 2 = .ok (.putfield 205, 3) := by decide +kernel
theorem dX8_lookAt_5 : decode cX8_lookAt 5 = .ok (.aload_n 0, 1) := by decide +kernel
theorem dX8_lookAt_6 : decode cX8_lookAt 6 = .ok (.getfield 205, 3) := by decide +kernel
theorem dX8_lookAt_9 : decode cX8_lookAt 9 = .ok (.aload_n 0, 1) := by decide +kernel
theorem dX8_lookAt_10 : decode cX8_lookAt 10 = .ok (.getfield 194, 3) := by decide +kernel
theorem dX8_lookAt_13 : decode cX8_lookAt 13 = .ok (.if_icmp .ge 30, 3) := by decide +kernel
theorem dX8_lookAt_16 : decode cX8_lookAt 16 = .ok (.aload_n 0, 1) := by decide +kernel
theorem dX8_lookAt_17 : decode cX8_lookAt 17 = .ok (.getfield 39, 3) := by decide +kernel
theorem dX8_lookAt_20 : decode cX8_lookAt 20 = .ok (.aload_n 0, 1) := by decide +kernel
theorem dX8_lookAt_21 : decode cX8_lookAt 21 = .ok (.getfield 205, 3) := by decide +kernel
theorem dX8_lookAt_24 : decode cX8_lookAt 24 = .ok (.iaload, 1) := by decide +kernel
theorem dX8_lookAt_25 : decode cX8_lookAt 25 = .ok (.bipush 32, 2) := by decide +kernel
theorem dX8_lookAt_27 : decode cX8_lookAt 27 = .ok (.if_icmp .ne 16, 3) := by decide +kernel
theorem dX8_lookAt_30 : decode cX8_lookAt 30 = .ok (.aload_n 0, 1) := by decide +kernel
theorem dX8_lookAt_31 : decode cX8_lookAt 31 = .ok (.dup, 1) := by decide +kernel
theorem dX8_lookAt_32 : decode cX8_lookAt 32 = .ok (.getfield 205, 3) := by decide +kernel
theorem dX8_lookAt_35 : decode cX8_lookAt 35 = .ok (.iconst 1, 1) := by decide +kernel
theorem dX8_lookAt_36 : decode cX8_lookAt 36 = .ok (.iadd, 1) := by decide +kernel
theorem dX8_lookAt_37 : decode cX8_lookAt 37 = .ok (.putfield 205, 3) := by decide +kernel
theorem dX8_lookAt_40 : decode cX8_lookAt 40 = .ok (.goto (-35), 3) := by decide +kernel
theorem dX8_lookAt_43 : decode cX8_lookAt 43 = .ok (.aload_n 0, 1) := by decide +kernel
theorem dX8_lookAt_44 : decode cX8_lookAt 44 = .ok (.iconst 0, 1) := by decide +kernel
theorem dX8_lookAt_45 : decode cX8_lookAt 45 = .ok (.putfield 208, 3) := by decide +kernel
theorem dX8_lookAt_48 : decode cX8_lookAt 48 = .ok (.aload_n 0, 1) := by decide +kernel
theorem dX8_lookAt_49 : decode cX8_lookAt 49 = .ok (.iconst 0, 1) := by decide +kernel
theorem dX8_lookAt_50 : decode cX8_lookAt 50 = .ok (.putfield 211, 3) := by decide +kernel
theorem dX8_lookAt_53 : decode cX8_lookAt 53 = .ok (.aload_n 0, 1) := by decide +kernel
theorem dX8_lookAt_54 : decode cX8_lookAt 54 = .ok (.iconst 0, 1) := by decide +kernel
theorem dX8_lookAt_55 : decode cX8_lookAt 55 = .ok (.putfield 214, 3) := by decide +kernel
theorem dX8_lookAt_58 : decode cX8_lookAt 58 = .ok (.aload_n 0, 1) := by decide +kernel
theorem dX8_lookAt_59 : decode cX8_lookAt 59 = .ok (.getfield 205, 3) := by decide +kernel
theorem dX8_lookAt_62 : decode cX8_lookAt 62 = .ok (.aload_n 0, 1) := by decide +kernel
theorem dX8_lookAt_63 : decode cX8_lookAt 63 = .ok (.getfield 194, 3) := by decide +kernel
theorem dX8_lookAt_66 : decode cX8_lookAt 66 = .ok (.if_icmp .ne 4, 3) := by decide +kernel
theorem dX8_lookAt_69 : decode cX8_lookAt 69 = .ok (.return_, 1) := by decide +kernel
theorem dX8_lookAt_70 : decode cX8_lookAt 70 = .ok (.aload_n 0, 1) := by decide +kernel
theorem dX8_lookAt_71 : decode cX8_lookAt 71 = .ok (.getfield 39, 3) := by decide +kernel
theorem dX8_lookAt_74 : decode cX8_lookAt 74 = .ok (.aload_n 0, 1) := by decide +kernel
theorem dX8_lookAt_75 : decode cX8_lookAt 75 = .ok (.getfield 205, 3) := by decide +kernel
theorem dX8_lookAt_78 : decode cX8_lookAt 78 = .ok (.iaload, 1) := by decide +kernel
theorem dX8_lookAt_79 : decode cX8_lookAt 79 = .ok (.istore_n 2, 1) := by decide +kernel
theorem dX8_lookAt_80 : decode cX8_lookAt 80 = .ok (.aload_n 0, 1) := by decide +kernel
theorem dX8_lookAt_81 : decode cX8_lookAt 81 = .ok (.iload_n 2, 1) := by decide +kernel
theorem dX8_lookAt_82 : decode cX8_lookAt 82 = .ok (.invokestatic 217, 3) := by decide +kernel
theorem dX8_lookAt_85 : decode cX8_lookAt 85 = .ok (.ifCond .eq 7, 3) := by decide +kernel
theorem dX8_lookAt_88 : decode cX8_lookAt 88 = .ok (.iconst 1, 1) := by decide +kernel
theorem dX8_lookAt_89 : decode cX8_lookAt 89 = .ok (.goto 25, 3) := by decide +kernel
theorem dX8_lookAt_92 : decode cX8_lookAt 92 = .ok (.iload_n 2, 1) := by decide +kernel
theorem dX8_lookAt_93 : decode cX8_lookAt 93 = .ok (.invokestatic 220, 3) := by decide +kernel
theorem dX8_lookAt_96 : decode cX8_lookAt 96 = .ok (.ifCond .eq 7, 3) := by decide +kernel
theorem dX8_lookAt_99 : decode cX8_lookAt 99 = .ok (.iconst 2, 1) := by decide +kernel
theorem dX8_lookAt_100 : decode cX8_lookAt 100 = .ok (.goto 14, 3) := by decide +kernel
theorem dX8_lookAt_103 : decode cX8_lookAt 103 = .ok (.iload_n 2, 1) := by decide +kernel
theorem dX8_lookAt_104 : decode cX8_lookAt 104 = .ok (.bipush 59, 2) := by decide +kernel
theorem dX8_lookAt_106 : decode cX8_lookAt 106 = .ok (.if_icmp .ne 7, 3) := by decide +kernel
theorem dX8_lookAt_109 : decode cX8_lookAt 109 = .ok (.iconst 3, 1) := by decide +kernel
theorem dX8_lookAt_110 : decode cX8_lookAt 110 = .ok (.goto 4, 3) := by decide +kernel
theorem dX8_lookAt_113 : decode cX8_lookAt 113 = .ok (.iconst 4, 1) := by decide +kernel
theorem dX8_lookAt_114 : decode cX8_lookAt 114 = .ok (.putfield 211, 3) := by decide +kernel
theorem dX8_lookAt_117 : decode cX8_lookAt 117 = .ok (.aload_n 0, 1) := by decide +kernel
theorem dX8_lookAt_118 : decode cX8_lookAt 118 = .ok (.iconst 1, 1) := by decide +kernel
theorem dX8_lookAt_119 : decode cX8_lookAt 119 = .ok (.putfield 208, 3) := by decide +kernel
theorem dX8_lookAt_122 : decode cX8_lookAt 122 = .ok (.aload_n 0, 1) := by decide +kernel
theorem dX8_lookAt_123 : decode cX8_lookAt 123 = .ok (.getfield 211, 3) := by decide +kernel
theorem dX8_lookAt_126 : decode cX8_lookAt 126 = .ok (.iconst 3, 1) := by decide +kernel
theorem dX8_lookAt_127 : decode cX8_lookAt 127 = .ok (.if_icmp .ge 7, 3) := by decide +kernel
theorem dX8_lookAt_130 : decode cX8_lookAt 130 = .ok (.iconst 1, 1) := by decide +kernel
theorem dX8_lookAt_131 : decode cX8_lookAt 131 = .ok (.goto 4, 3) := by decide +kernel
theorem dX8_lookAt_134 : decode cX8_lookAt 134 = .ok (.iconst 0, 1) := by decide +kernel
theorem dX8_lookAt_135 : decode cX8_lookAt 135 = .ok (.istore_n 3, 1) := by decide +kernel
theorem dX8_lookAt_136 : decode cX8_lookAt 136 = .ok (.iload_n 3, 1) := by decide +kernel
theorem dX8_lookAt_137 : decode cX8_lookAt 137 = .ok (.ifCond .eq 78, 3) := by decide +kernel
theorem dX8_lookAt_140 : decode cX8_lookAt 140 = .ok (.aload_n 0, 1) := by decide +kernel
theorem dX8_lookAt_141 : decode cX8_lookAt 141 = .ok (.getfield 205, 3) := by decide +kernel
theorem dX8_lookAt_144 : decode cX8_lookAt 144 = .ok (.aload_n 0, 1) := by decide +kernel
theorem dX8_lookAt_145 : decode cX8_lookAt 145 = .ok (.getfield 208, 3) := by decide +kernel
theorem dX8_lookAt_148 : decode cX8_lookAt 148 = .ok (.iadd, 1) := by decide +kernel
theorem dX8_lookAt_149 : decode cX8_lookAt 149 = .ok (.aload_n 0, 1) := by decide +kernel
theorem dX8_lookAt_150 : decode cX8_lookAt 150 = .ok (.getfield 194, 3) := by decide +kernel
theorem dX8_lookAt_153 : decode cX8_lookAt 153 = .ok (.if_icmp .ge 62, 3) := by decide +kernel
theorem dX8_lookAt_156 : decode cX8_lookAt 156 = .ok (.aload_n 0, 1) := by decide +kernel
theorem dX8_lookAt_157 : decode cX8_lookAt 157 = .ok (.getfield 39, 3) := by decide +kernel
theorem dX8_lookAt_160 : decode cX8_lookAt 160 = .ok (.aload_n 0, 1) := by decide +kernel
theorem dX8_lookAt_161 : decode cX8_lookAt 161 = .ok (.getfield 205, 3) := by decide +kernel
theorem dX8_lookAt_164 : decode cX8_lookAt 164 = .ok (.aload_n 0, 1) := by decide +kernel
theorem dX8_lookAt_165 : decode cX8_lookAt 165 = .ok (.getfield 208, 3) := by decide +kernel
theorem dX8_lookAt_168 : decode cX8_lookAt 168 = .ok (.iadd, 1) := by decide +kernel
theorem dX8_lookAt_169 : decode cX8_lookAt 169 = .ok (.iaload, 1) := by decide +kernel
theorem dX8_lookAt_170 : decode cX8_lookAt 170 = .ok (.istore 4, 2) := by decide +kernel
theorem dX8_lookAt_172 : decode cX8_lookAt 172 = .ok (.aload_n 0, 1) := by decide +kernel
theorem dX8_lookAt_173 : decode cX8_lookAt 173 = .ok (.getfield 211, 3) := by decide +kernel
theorem dX8_lookAt_176 : decode cX8_lookAt 176 = .ok (.iconst 1, 1) := by decide +kernel
theorem dX8_lookAt_177 : decode cX8_lookAt 177 = .ok (.if_icmp .ne 11, 3) := by decide +kernel
theorem dX8_lookAt_180 : decode cX8_lookAt 180 = .ok (.iload 4, 2) := by decide +kernel
theorem dX8_lookAt_182 : decode cX8_lookAt 182 = .ok (.invokestatic 217, 3) := by decide +kernel
theorem dX8_lookAt_185 : decode cX8_lookAt 185 = .ok (.goto 8, 3) := by decide +kernel
theorem dX8_lookAt_188 : decode cX8_lookAt 188 = .ok (.iload 4, 2) := by decide +kernel
theorem dX8_lookAt_190 : decode cX8_lookAt 190 = .ok (.invokestatic 220, 3) := by decide +kernel
theorem dX8_lookAt_193 : decode cX8_lookAt 193 = .ok (.istore_n 3, 1) := by decide +kernel
theorem dX8_lookAt_194 : decode cX8_lookAt 194 = .ok (.aload_n 0, 1) := by decide +kernel
theorem dX8_lookAt_195 : decode cX8_lookAt 195 = .ok (.dup, 1) := by decide +kernel
theorem dX8_lookAt_196 : decode cX8_lookAt 196 = .ok (.getfield 208, 3) := by decide +kernel
theorem dX8_lookAt_199 : decode cX8_lookAt 199 = .ok (.iload_n 3, 1) := by decide +kernel
theorem dX8_lookAt_200 : decode cX8_lookAt 200 = .ok (.ifCond .eq 7, 3) := by decide +kernel
theorem dX8_lookAt_203 : decode cX8_lookAt 203 = .ok (.iconst 1, 1) := by decide +kernel
theorem dX8_lookAt_204 : decode cX8_lookAt 204 = .ok (.goto 4, 3) := by decide +kernel
theorem dX8_lookAt_207 : decode cX8_lookAt 207 = .ok (.iconst 0, 1) := by decide +kernel
theorem dX8_lookAt_208 : decode cX8_lookAt 208 = .ok (.iadd, 1) := by decide +kernel
theorem dX8_lookAt_209 : decode cX8_lookAt 209 = .ok (.putfield 208, 3) := by decide +kernel
theorem dX8_lookAt_212 : decode cX8_lookAt 212 = .ok (.goto (-76), 3) := by decide +kernel
theorem dX8_lookAt_215 : decode cX8_lookAt 215 = .ok (.iconst 0, 1) := by decide +kernel
theorem dX8_lookAt_216 : decode cX8_lookAt 216 = .ok (.istore 4, 2) := by decide +kernel
theorem dX8_lookAt_218 : decode cX8_lookAt 218 = .ok (.iload 4, 2) := by decide +kernel
theorem dX8_lookAt_220 : decode cX8_lookAt 220 = .ok (.aload_n 0, 1) := by decide +kernel
theorem dX8_lookAt_221 : decode cX8_lookAt 221 = .ok (.getfield 208, 3) := by decide +kernel
theorem dX8_lookAt_224 : decode cX8_lookAt 224 = .ok (.if_icmp .ge 50, 3) := by decide +kernel
theorem dX8_lookAt_227 : decode cX8_lookAt 227 = .ok (.iload 4, 2) := by decide +kernel
theorem dX8_lookAt_229 : decode cX8_lookAt 229 = .ok (.iconst 2, 1) := by decide +kernel
theorem dX8_lookAt_230 : decode cX8_lookAt 230 = .ok (.if_icmp .ge 44, 3) := by decide +kernel
theorem dX8_lookAt_233 : decode cX8_lookAt 233 = .ok (.aload_n 0, 1) := by decide +kernel
theorem dX8_lookAt_234 : decode cX8_lookAt 234 = .ok (.getfield 211, 3) := by decide +kernel
theorem dX8_lookAt_237 : decode cX8_lookAt 237 = .ok (.iconst 2, 1) := by decide +kernel
theorem dX8_lookAt_238 : decode cX8_lookAt 238 = .ok (.if_icmp .ne 36, 3) := by decide +kernel
theorem dX8_lookAt_241 : decode cX8_lookAt 241 = .ok (.aload_n 0, 1) := by decide +kernel
theorem dX8_lookAt_242 : decode cX8_lookAt 242 = .ok (.bipush 10, 2) := by decide +kernel
theorem dX8_lookAt_244 : decode cX8_lookAt 244 = .ok (.aload_n 0, 1) := by decide +kernel
theorem dX8_lookAt_245 : decode cX8_lookAt 245 = .ok (.getfield 214, 3) := by decide +kernel
theorem dX8_lookAt_248 : decode cX8_lookAt 248 = .ok (.imul, 1) := by decide +kernel
theorem dX8_lookAt_249 : decode cX8_lookAt 249 = .ok (.aload_n 0, 1) := by decide +kernel
theorem dX8_lookAt_250 : decode cX8_lookAt 250 = .ok (.getfield 39, 3) := by decide +kernel
theorem dX8_lookAt_253 : decode cX8_lookAt 253 = .ok (.aload_n 0, 1) := by decide +kernel
theorem dX8_lookAt_254 : decode cX8_lookAt 254 = .ok (.getfield 205, 3) := by decide +kernel
theorem dX8_lookAt_257 : decode cX8_lookAt 257 = .ok (.iload 4, 2) := by decide +kernel
theorem dX8_lookAt_259 : decode cX8_lookAt 259 = .ok (.iadd, 1) := by decide +kernel
theorem dX8_lookAt_260 : decode cX8_lookAt 260 = .ok (.iaload, 1) := by decide +kernel
theorem dX8_lookAt_261 : decode cX8_lookAt 261 = .ok (.iadd, 1) := by decide +kernel
theorem dX8_lookAt_262 : decode cX8_lookAt 262 = .ok (.bipush 48, 2) := by decide +kernel
theorem dX8_lookAt_264 : decode cX8_lookAt 264 = .ok (.isub, 1) := by decide +kernel
theorem dX8_lookAt_265 : decode cX8_lookAt 265 = .ok (.putfield 214, 3) := by decide +kernel
theorem dX8_lookAt_268 : decode cX8_lookAt 268 = .ok (.iinc 4 1, 3) := by decide +kernel
theorem dX8_lookAt_271 : decode cX8_lookAt 271 = .ok (.goto (-53), 3) := by decide +kernel
theorem dX8_lookAt_274 : decode cX8_lookAt 274 = .ok (.aload_n 0, 1) := by decide +kernel
theorem dX8_lookAt_275 : decode cX8_lookAt 275 = .ok (.aload_n 0, 1) := by decide +kernel
theorem dX8_lookAt_276 : decode cX8_lookAt 276 = .ok (.getfield 211, 3) := by decide +kernel
theorem dX8_lookAt_279 : decode cX8_lookAt 279 = .ok (.iconst 2, 1) := by decide +kernel
theorem dX8_lookAt_280 : decode cX8_lookAt 280 = .ok (.if_icmp .ne 15, 3) := by decide +kernel
theorem dX8_lookAt_283 : decode cX8_lookAt 283 = .ok (.aload_n 0, 1) := by decide +kernel
theorem dX8_lookAt_284 : decode cX8_lookAt 284 = .ok (.getfield 208, 3) := by decide +kernel
theorem dX8_lookAt_287 : decode cX8_lookAt 287 = .ok (.iconst 2, 1) := by decide +kernel
theorem dX8_lookAt_288 : decode cX8_lookAt 288 = .ok (.if_icmp .le 7, 3) := by decide +kernel
theorem dX8_lookAt_291 : decode cX8_lookAt 291 = .ok (.iconst 4, 1) := by decide +kernel
theorem dX8_lookAt_292 : decode cX8_lookAt 292 = .ok (.goto 7, 3) := by decide +kernel
theorem dX8_lookAt_295 : decode cX8_lookAt 295 = .ok (.aload_n 0, 1) := by decide +kernel
theorem dX8_lookAt_296 : decode cX8_lookAt 296 = .ok (.getfield 211, 3) := by decide +kernel
theorem dX8_lookAt_299 : decode cX8_lookAt 299 = .ok (.putfield 211, 3) := by decide +kernel
theorem dX8_lookAt_302 : decode cX8_lookAt 302 = .ok (.return_, 1) := by decide +kernel
theorem dX8_goBehind_0 : decode cX8_goBehind 0 = .ok (.aload_n 0, 1) := by decide +kernel
theorem dX8_goBehind_1 : decode cX8_goBehind 1 = .ok (.aload_n 0, 1) := by decide +kernel
theorem dX8_goBehind_2 : decode cX8_goBehind 2 = .ok (.getfield 205, 3) := by decide +kernel
theorem dX8_goBehind_5 : decode cX8_goBehind 5 = .ok (.aload_n 0, 1) := by decide +kernel
theorem dX8_goBehind_6 : decode cX8_goBehind 6 = .ok (.getfield 208, 3) := by decide +kernel
theorem dX8_goBehind_9 : decode cX8_goBehind 9 = .ok (.iadd, 1) := by decide +kernel
theorem dX8_goBehind_10 : decode cX8_goBehind 10 = .ok (.invokevirtual 223, 3) := by decide +kernel
theorem dX8_goBehind_13 : decode cX8_goBehind 13 = .ok (.return_, 1) := by decide +kernel
theorem dX8_spells_0 : decode cX8_spells 0 = .ok (.aload_n 0, 1) := by decide +kernel
theorem dX8_spells_1 : decode cX8_spells 1 = .ok (.getfield 211, 3) := by decide +kernel
theorem dX8_spells_4 : decode cX8_spells 4 = .ok (.iconst 1, 1) := by decide +kernel
theorem dX8_spells_5 : decode cX8_spells 5 = .ok (.if_icmp .ne 15, 3) := by decide +kernel
theorem dX8_spells_8 : decode cX8_spells 8 = .ok (.aload_n 0, 1) := by decide +kernel
theorem dX8_spells_9 : decode cX8_spells 9 = .ok (.getfield 208, 3) := by decide +kernel
theorem dX8_spells_12 : decode cX8_spells 12 = .ok (.iload_n 1, 1) := by decide +kernel
theorem dX8_spells_13 : decode cX8_spells 13 = .ok (.if_icmp .ne 7, 3) := by decide +kernel
theorem dX8_spells_16 : decode cX8_spells 16 = .ok (.iconst 1, 1) := by decide +kernel
theorem dX8_spells_17 : decode cX8_spells 17 = .ok (.goto 4, 3) := by decide +kernel
theorem dX8_spells_20 : decode cX8_spells 20 = .ok (.iconst 0, 1) := by decide +kernel
theorem dX8_spells_21 : decode cX8_spells 21 = .ok (.istore 8, 2) := by decide +kernel
theorem dX8_spells_23 : decode cX8_spells 23 = .ok (.iconst 0, 1) := by decide +kernel
theorem dX8_spells_24 : decode cX8_spells 24 = .ok (.istore 9, 2) := by decide +kernel
theorem dX8_spells_26 : decode cX8_spells 26 = .ok (.iload 9, 2) := by decide +kernel
theorem dX8_spells_28 : decode cX8_spells 28 = .ok (.iload_n 1, 1) := by decide +kernel
theorem dX8_spells_29 : decode cX8_spells 29 = .ok (.if_icmp .ge 90, 3) := by decide +kernel
theorem dX8_spells_32 : decode cX8_spells 32 = .ok (.iload 8, 2) := by decide +kernel
theorem dX8_spells_34 : decode cX8_spells 34 = .ok (.ifCond .eq 85, 3) := by decide +kernel
theorem dX8_spells_37 : decode cX8_spells 37 = .ok (.aload_n 0, 1) := by decide +kernel
theorem dX8_spells_38 : decode cX8_spells 38 = .ok (.getfield 39, 3) := by decide +kernel
theorem dX8_spells_41 : decode cX8_spells 41 = .ok (.aload_n 0, 1) := by decide +kernel
theorem dX8_spells_42 : decode cX8_spells 42 = .ok (.getfield 205, 3) := by decide +kernel
theorem dX8_spells_45 : decode cX8_spells 45 = .ok (.iload 9, 2) := by decide +kernel
theorem dX8_spells_47 : decode cX8_spells 47 = .ok (.iadd, 1) := by decide +kernel
theorem dX8_spells_48 : decode cX8_spells 48 = .ok (.iaload, 1) := by decide +kernel
theorem dX8_spells_49 : decode cX8_spells 49 = .ok (.iload 9, 2) := by decide +kernel
theorem dX8_spells_51 : decode cX8_spells 51 = .ok (.ifCond .ne 7, 3) := by decide +kernel
theorem dX8_spells_54 : decode cX8_spells 54 = .ok (.iload_n 2, 1) := by decide +kernel
theorem dX8_spells_55 : decode cX8_spells 55 = .ok (.goto 48, 3) := by decide +kernel
theorem dX8_spells_58 : decode cX8_spells 58 = .ok (.iload 9, 2) := by decide +kernel
theorem dX8_spells_60 : decode cX8_spells 60 = .ok (.iconst 1, 1) := by decide +kernel
theorem dX8_spells_61 : decode cX8_spells 61 = .ok (.if_icmp .ne 7, 3) := by decide +kernel
theorem dX8_spells_64 : decode cX8_spells 64 = .ok (.iload_n 3, 1) := by decide +kernel
theorem dX8_spells_65 : decode cX8_spells 65 = .ok (.goto 38, 3) := by decide +kernel
theorem dX8_spells_68 : decode cX8_spells 68 = .ok (.iload 9, 2) := by decide +kernel
theorem dX8_spells_70 : decode cX8_spells 70 = .ok (.iconst 2, 1) := by decide +kernel
theorem dX8_spells_71 : decode cX8_spells 71 = .ok (.if_icmp .ne 8, 3) := by decide +kernel
theorem dX8_spells_74 : decode cX8_spells 74 = .ok (.iload 4, 2) := by decide +kernel
theorem dX8_spells_76 : decode cX8_spells 76 = .ok (.goto 27, 3) := by decide +kernel
theorem dX8_spells_79 : decode cX8_spells 79 = .ok (.iload 9, 2) := by decide +kernel
theorem dX8_spells_81 : decode cX8_spells 81 = .ok (.iconst 3, 1) := by decide +kernel
theorem dX8_spells_82 : decode cX8_spells 82 = .ok (.if_icmp .ne 8, 3) := by decide +kernel
theorem dX8_spells_85 : decode cX8_spells 85 = .ok (.iload 5, 2) := by decide +kernel
theorem dX8_spells_87 : decode cX8_spells 87 = .ok (.goto 16, 3) := by decide +kernel
theorem dX8_spells_90 : decode cX8_spells 90 = .ok (.iload 9, 2) := by decide +kernel
theorem dX8_spells_92 : decode cX8_spells 92 = .ok (.iconst 4, 1) := by decide +kernel
theorem dX8_spells_93 : decode cX8_spells 93 = .ok (.if_icmp .ne 8, 3) := by decide +kernel
theorem dX8_spells_96 : decode cX8_spells 96 = .ok (.iload 6, 2) := by decide +kernel
theorem dX8_spells_98 : decode cX8_spells 98 = .ok (.goto 5, 3) := by decide +kernel
theorem dX8_spells_101 : decode cX8_spells 101 = .ok (.iload 7, 2) := by decide +kernel
theorem dX8_spells_103 : decode cX8_spells 103 = .ok (.if_icmp .ne 7, 3) := by decide +kernel
theorem dX8_spells_106 : decode cX8_spells 106 = .ok (.iconst 1, 1) := by decide +kernel
theorem dX8_spells_107 : decode cX8_spells 107 = .ok (.goto 4, 3) := by decide +kernel
theorem dX8_spells_110 : decode cX8_spells 110 = .ok (.iconst 0, 1) := by decide +kernel
theorem dX8_spells_111 : decode cX8_spells 111 = .ok (.istore 8, 2) := by decide +kernel
theorem dX8_spells_113 : decode cX8_spells 113 = .ok (.iinc 9 1, 3) := by decide +kernel
theorem dX8_spells_116 : decode cX8_spells 116 = .ok (.goto (-90), 3) := by decide +kernel
theorem dX8_spells_119 : decode cX8_spells 119 = .ok (.iload 8, 2) := by decide +kernel
theorem dX8_spells_121 : decode cX8_spells 121 = .ok (.ireturn, 1) := by decide +kernel
theorem dX8_takes_0 : decode cX8_takes 0 = .ok (.aload_n 0, 1) := by decide +kernel
theorem dX8_takes_1 : decode cX8_takes 1 = .ok (.getfield 211, 3) := by decide +kernel
theorem dX8_takes_4 : decode cX8_takes 4 = .ok (.iconst 2, 1) := by decide +kernel
theorem dX8_takes_5 : decode cX8_takes 5 = .ok (.if_icmp .ne 18, 3) := by decide +kernel
theorem dX8_takes_8 : decode cX8_takes 8 = .ok (.aload_n 0, 1) := by decide +kernel
theorem dX8_takes_9 : decode cX8_takes 9 = .ok (.getfield 214, 3) := by decide +kernel
theorem dX8_takes_12 : decode cX8_takes 12 = .ok (.i2l, 1) := by decide +kernel
theorem dX8_takes_13 : decode cX8_takes 13 = .ok (.iload_n 2, 1) := by decide +kernel
theorem dX8_takes_14 : decode cX8_takes 14 = .ok (.i2l, 1) := by decide +kernel
theorem dX8_takes_15 : decode cX8_takes 15 = .ok (.iload_n 3, 1) := by decide +kernel
theorem dX8_takes_16 : decode cX8_takes 16 = .ok (.i2l, 1) := by decide +kernel
theorem dX8_takes_17 : decode cX8_takes 17 = .ok (.invokestatic 56, 3) := by decide +kernel
theorem dX8_takes_20 : decode cX8_takes 20 = .ok (.ifCond .ne 5, 3) := by decide +kernel
theorem dX8_takes_23 : decode cX8_takes 23 = .ok (.iconst 0, 1) := by decide +kernel
theorem dX8_takes_24 : decode cX8_takes 24 = .ok (.ireturn, 1) := by decide +kernel
theorem dX8_takes_25 : decode cX8_takes 25 = .ok (.aload_n 0, 1) := by decide +kernel
theorem dX8_takes_26 : decode cX8_takes 26 = .ok (.getfield 45, 3) := by decide +kernel
theorem dX8_takes_29 : decode cX8_takes 29 = .ok (.iload_n 1, 1) := by decide +kernel
theorem dX8_takes_30 : decode cX8_takes 30 = .ok (.aload_n 0, 1) := by decide +kernel
theorem dX8_takes_31 : decode cX8_takes 31 = .ok (.getfield 214, 3) := by decide +kernel
theorem dX8_takes_34 : decode cX8_takes 34 = .ok (.iastore, 1) := by decide +kernel
theorem dX8_takes_35 : decode cX8_takes 35 = .ok (.aload_n 0, 1) := by decide +kernel
theorem dX8_takes_36 : decode cX8_takes 36 = .ok (.invokevirtual 227, 3) := by decide +kernel
theorem dX8_takes_39 : decode cX8_takes 39 = .ok (.iconst 1, 1) := by decide +kernel
theorem dX8_takes_40 : decode cX8_takes 40 = .ok (.ireturn, 1) := by decide +kernel
theorem dX8_takesStreet_0 : decode cX8_takesStreet 0 = .ok (.aload_n 0, 1) := by decide +kernel
theorem dX8_takesStreet_1 : decode cX8_takesStreet 1 = .ok (.bipush 6, 2) := by decide +kernel
theorem dX8_takesStreet_3 : decode cX8_takesStreet 3 = .ok (.bipush 115, 2) := by decide +kernel
theorem dX8_takesStreet_5 : decode cX8_takesStreet 5 = .ok (.bipush 116, 2) := by decide +kernel
theorem dX8_takesStreet_7 : decode cX8_takesStreet 7 = .ok (.bipush 114, 2) := by decide +kernel
theorem dX8_takesStreet_9 : decode cX8_takesStreet 9 = .ok (.bipush 101, 2) := by decide +kernel
theorem dX8_takesStreet_11 : decode cX8_takesStreet 11 = .ok (.bipush 101, 2) := by decide +kernel
theorem dX8_takesStreet_13 : decode cX8_takesStreet 13 = .ok (.bipush 116, 2) := by decide +kernel
theorem dX8_takesStreet_15 : decode cX8_takesStreet 15 = .ok (.invokevirtual 230, 3) := by decide +kernel
theorem dX8_takesStreet_18 : decode cX8_takesStreet 18 = .ok (.ifCond .ne 5, 3) := by decide +kernel
theorem dX8_takesStreet_21 : decode cX8_takesStreet 21 = .ok (.iconst 0, 1) := by decide +kernel
theorem dX8_takesStreet_22 : decode cX8_takesStreet 22 = .ok (.ireturn, 1) := by decide +kernel
theorem dX8_takesStreet_23 : decode cX8_takesStreet 23 = .ok (.aload_n 0, 1) := by decide +kernel
theorem dX8_takesStreet_24 : decode cX8_takesStreet 24 = .ok (.invokevirtual 227, 3) := by decide +kernel
theorem dX8_takesStreet_27 : decode cX8_takesStreet 27 = .ok (.aload_n 0, 1) := by decide +kernel
theorem dX8_takesStreet_28 : decode cX8_takesStreet 28 = .ok (.iconst 0, 1) := by decide +kernel
theorem dX8_takesStreet_29 : decode cX8_takesStreet 29 = .ok (.iconst 0, 1) := by decide +kernel
theorem dX8_takesStreet_30 : decode cX8_takesStreet 30 = .ok (.bipush 9, 2) := by decide +kernel
theorem dX8_takesStreet_32 : decode cX8_takesStreet 32 = .ok (.invokevirtual 234, 3) := by decide +kernel
theorem dX8_takesStreet_35 : decode cX8_takesStreet 35 = .ok (.ifCond .ne 5, 3) := by decide +kernel
theorem dX8_takesStreet_38 : decode cX8_takesStreet 38 = .ok (.iconst 0, 1) := by decide +kernel
theorem dX8_takesStreet_39 : decode cX8_takesStreet 39 = .ok (.ireturn, 1) := by decide +kernel
theorem dX8_takesStreet_40 : decode cX8_takesStreet 40 = .ok (.aload_n 0, 1) := by decide +kernel
theorem dX8_takesStreet_41 : decode cX8_takesStreet 41 = .ok (.getfield 42, 3) := by decide +kernel
theorem dX8_takesStreet_44 : decode cX8_takesStreet 44 = .ok (.aload_n 0, 1) := by decide +kernel
theorem dX8_takesStreet_45 : decode cX8_takesStreet 45 = .ok (.getfield 45, 3) := by decide +kernel
theorem dX8_takesStreet_48 : decode cX8_takesStreet 48 = .ok (.iconst 0, 1) := by decide +kernel
theorem dX8_takesStreet_49 : decode cX8_takesStreet 49 = .ok (.iaload, 1) := by decide +kernel
theorem dX8_takesStreet_50 : decode cX8_takesStreet 50 = .ok (.invokestatic 48, 3) := by decide +kernel
theorem dX8_takesStreet_53 : decode cX8_takesStreet 53 = .ok (.aload_n 0, 1) := by decide +kernel
theorem dX8_takesStreet_54 : decode cX8_takesStreet 54 = .ok (.getfield 211, 3) := by decide +kernel
theorem dX8_takesStreet_57 : decode cX8_takesStreet 57 = .ok (.iconst 3, 1) := by decide +kernel
theorem dX8_takesStreet_58 : decode cX8_takesStreet 58 = .ok (.if_icmp .ne 7, 3) := by decide +kernel
theorem dX8_takesStreet_61 : decode cX8_takesStreet 61 = .ok (.iconst 1, 1) := by decide +kernel
theorem dX8_takesStreet_62 : decode cX8_takesStreet 62 = .ok (.goto 4, 3) := by decide +kernel
theorem dX8_takesStreet_65 : decode cX8_takesStreet 65 = .ok (.iconst 0, 1) := by decide +kernel
theorem dX8_takesStreet_66 : decode cX8_takesStreet 66 = .ok (.ireturn, 1) := by decide +kernel
theorem dX8_takesAnvil_0 : decode cX8_takesAnvil 0 = .ok (.aload_n 0, 1) := by decide +kernel
theorem dX8_takesAnvil_1 : decode cX8_takesAnvil 1 = .ok (.getfield 42, 3) := by decide +kernel
theorem dX8_takesAnvil_4 : decode cX8_takesAnvil 4 = .ok (.iconst 0, 1) := by decide +kernel
theorem dX8_takesAnvil_5 : decode cX8_takesAnvil 5 = .ok (.iaload, 1) := by decide +kernel
theorem dX8_takesAnvil_6 : decode cX8_takesAnvil 6 = .ok (.iconst 4, 1) := by decide +kernel
theorem dX8_takesAnvil_7 : decode cX8_takesAnvil 7 = .ok (.if_icmp .ne 5, 3) := by decide +kernel
theorem dX8_takesAnvil_10 : decode cX8_takesAnvil 10 = .ok (.iconst 0, 1) := by decide +kernel
theorem dX8_takesAnvil_11 : decode cX8_takesAnvil 11 = .ok (.ireturn, 1) := by decide +kernel
theorem dX8_takesAnvil_12 : decode cX8_takesAnvil 12 = .ok (.aload_n 0, 1) := by decide +kernel
theorem dX8_takesAnvil_13 : decode cX8_takesAnvil 13 = .ok (.invokevirtual 227, 3) := by decide +kernel
theorem dX8_takesAnvil_16 : decode cX8_takesAnvil 16 = .ok (.aload_n 0, 1) := by decide +kernel
theorem dX8_takesAnvil_17 : decode cX8_takesAnvil 17 = .ok (.iconst 0, 1) := by decide +kernel
theorem dX8_takesAnvil_18 : decode cX8_takesAnvil 18 = .ok (.iconst 0, 1) := by decide +kernel
theorem dX8_takesAnvil_19 : decode cX8_takesAnvil 19 = .ok (.iconst 5, 1) := by decide +kernel
theorem dX8_takesAnvil_20 : decode cX8_takesAnvil 20 = .ok (.invokevirtual 234, 3) := by decide +kernel
theorem dX8_takesAnvil_23 : decode cX8_takesAnvil 23 = .ok (.ifCond .eq 47, 3) := by decide +kernel
theorem dX8_takesAnvil_26 : decode cX8_takesAnvil 26 = .ok (.aload_n 0, 1) := by decide +kernel
theorem dX8_takesAnvil_27 : decode cX8_takesAnvil 27 = .ok (.iconst 1, 1) := by decide +kernel
theorem dX8_takesAnvil_28 : decode cX8_takesAnvil 28 = .ok (.iconst 0, 1) := by decide +kernel
theorem dX8_takesAnvil_29 : decode cX8_takesAnvil 29 = .ok (.bipush 20, 2) := by decide +kernel
theorem dX8_takesAnvil_31 : decode cX8_takesAnvil 31 = .ok (.invokevirtual 234, 3) := by decide +kernel
theorem dX8_takesAnvil_34 : decode cX8_takesAnvil 34 = .ok (.ifCond .eq 36, 3) := by decide +kernel
theorem dX8_takesAnvil_37 : decode cX8_takesAnvil 37 = .ok (.aload_n 0, 1) := by decide +kernel
theorem dX8_takesAnvil_38 : decode cX8_takesAnvil 38 = .ok (.iconst 2, 1) := by decide +kernel
theorem dX8_takesAnvil_39 : decode cX8_takesAnvil 39 = .ok (.iconst 0, 1) := by decide +kernel
theorem dX8_takesAnvil_40 : decode cX8_takesAnvil 40 = .ok (.bipush 20, 2) := by decide +kernel
theorem dX8_takesAnvil_42 : decode cX8_takesAnvil 42 = .ok (.invokevirtual 234, 3) := by decide +kernel
theorem dX8_takesAnvil_45 : decode cX8_takesAnvil 45 = .ok (.ifCond .eq 25, 3) := by decide +kernel
theorem dX8_takesAnvil_48 : decode cX8_takesAnvil 48 = .ok (.aload_n 0, 1) := by decide +kernel
theorem dX8_takesAnvil_49 : decode cX8_takesAnvil 49 = .ok (.iconst 3, 1) := by decide +kernel
theorem dX8_takesAnvil_50 : decode cX8_takesAnvil 50 = .ok (.iconst 0, 1) := by decide +kernel
theorem dX8_takesAnvil_51 : decode cX8_takesAnvil 51 = .ok (.bipush 20, 2) := by decide +kernel
theorem dX8_takesAnvil_53 : decode cX8_takesAnvil 53 = .ok (.invokevirtual 234, 3) := by decide +kernel
theorem dX8_takesAnvil_56 : decode cX8_takesAnvil 56 = .ok (.ifCond .eq 14, 3) := by decide +kernel
theorem dX8_takesAnvil_59 : decode cX8_takesAnvil 59 = .ok (.aload_n 0, 1) := by decide +kernel
theorem dX8_takesAnvil_60 : decode cX8_takesAnvil 60 = .ok (.iconst 4, 1) := by decide +kernel
theorem dX8_takesAnvil_61 : decode cX8_takesAnvil 61 = .ok (.iconst 0, 1) := by decide +kernel
theorem dX8_takesAnvil_62 : decode cX8_takesAnvil 62 = .ok (.bipush 20, 2) := by decide +kernel
theorem dX8_takesAnvil_64 : decode cX8_takesAnvil 64 = .ok (.invokevirtual 234, 3) := by decide +kernel
theorem dX8_takesAnvil_67 : decode cX8_takesAnvil 67 = .ok (.ifCond .ne 5, 3) := by decide +kernel
theorem dX8_takesAnvil_70 : decode cX8_takesAnvil 70 = .ok (.iconst 0, 1) := by decide +kernel
theorem dX8_takesAnvil_71 : decode cX8_takesAnvil 71 = .ok (.ireturn, 1) := by decide +kernel
theorem dX8_takesAnvil_72 : decode cX8_takesAnvil 72 = .ok (.aload_n 0, 1) := by decide +kernel
theorem dX8_takesAnvil_73 : decode cX8_takesAnvil 73 = .ok (.getfield 42, 3) := by decide +kernel
theorem dX8_takesAnvil_76 : decode cX8_takesAnvil 76 = .ok (.aload_n 0, 1) := by decide +kernel
theorem dX8_takesAnvil_77 : decode cX8_takesAnvil 77 = .ok (.getfield 45, 3) := by decide +kernel
theorem dX8_takesAnvil_80 : decode cX8_takesAnvil 80 = .ok (.iconst 0, 1) := by decide +kernel
theorem dX8_takesAnvil_81 : decode cX8_takesAnvil 81 = .ok (.iaload, 1) := by decide +kernel
theorem dX8_takesAnvil_82 : decode cX8_takesAnvil 82 = .ok (.aload_n 0, 1) := by decide +kernel
theorem dX8_takesAnvil_83 : decode cX8_takesAnvil 83 = .ok (.getfield 45, 3) := by decide +kernel
theorem dX8_takesAnvil_86 : decode cX8_takesAnvil 86 = .ok (.iconst 1, 1) := by decide +kernel
theorem dX8_takesAnvil_87 : decode cX8_takesAnvil 87 = .ok (.iaload, 1) := by decide +kernel
theorem dX8_takesAnvil_88 : decode cX8_takesAnvil 88 = .ok (.aload_n 0, 1) := by decide +kernel
theorem dX8_takesAnvil_89 : decode cX8_takesAnvil 89 = .ok (.getfield 45, 3) := by decide +kernel
theorem dX8_takesAnvil_92 : decode cX8_takesAnvil 92 = .ok (.iconst 2, 1) := by decide +kernel
theorem dX8_takesAnvil_93 : decode cX8_takesAnvil 93 = .ok (.iaload, 1) := by decide +kernel
theorem dX8_takesAnvil_94 : decode cX8_takesAnvil 94 = .ok (.aload_n 0, 1) := by decide +kernel
theorem dX8_takesAnvil_95 : decode cX8_takesAnvil 95 = .ok (.getfield 45, 3) := by decide +kernel
theorem dX8_takesAnvil_98 : decode cX8_takesAnvil 98 = .ok (.iconst 3, 1) := by decide +kernel
theorem dX8_takesAnvil_99 : decode cX8_takesAnvil 99 = .ok (.iaload, 1) := by decide +kernel
theorem dX8_takesAnvil_100 : decode cX8_takesAnvil 100 = .ok (.aload_n 0, 1) := by decide +kernel
theorem dX8_takesAnvil_101 : decode cX8_takesAnvil 101 = .ok (.getfield 45, 3) := by decide +kernel
theorem dX8_takesAnvil_104 : decode cX8_takesAnvil 104 = .ok (.iconst 4, 1) := by decide +kernel
theorem dX8_takesAnvil_105 : decode cX8_takesAnvil 105 = .ok (.iaload, 1) := by decide +kernel
theorem dX8_takesAnvil_106 : decode cX8_takesAnvil 106 = .ok (.invokestatic 79, 3) := by decide +kernel
theorem dX8_takesAnvil_109 : decode cX8_takesAnvil 109 = .ok (.iconst 1, 1) := by decide +kernel
theorem dX8_takesAnvil_110 : decode cX8_takesAnvil 110 = .ok (.ireturn, 1) := by decide +kernel
theorem dX8_takesWork_0 : decode cX8_takesWork 0 = .ok (.aload_n 0, 1) := by decide +kernel
theorem dX8_takesWork_1 : decode cX8_takesWork 1 = .ok (.invokevirtual 227, 3) := by decide +kernel
theorem dX8_takesWork_4 : decode cX8_takesWork 4 = .ok (.aload_n 0, 1) := by decide +kernel
theorem dX8_takesWork_5 : decode cX8_takesWork 5 = .ok (.iconst 0, 1) := by decide +kernel
theorem dX8_takesWork_6 : decode cX8_takesWork 6 = .ok (.iconst 0, 1) := by decide +kernel
theorem dX8_takesWork_7 : decode cX8_takesWork 7 = .ok (.aload_n 0, 1) := by decide +kernel
theorem dX8_takesWork_8 : decode cX8_takesWork 8 = .ok (.getfield 42, 3) := by decide +kernel
theorem dX8_takesWork_11 : decode cX8_takesWork 11 = .ok (.iconst 0, 1) := by decide +kernel
theorem dX8_takesWork_12 : decode cX8_takesWork 12 = .ok (.iaload, 1) := by decide +kernel
theorem dX8_takesWork_13 : decode cX8_takesWork 13 = .ok (.iconst 1, 1) := by decide +kernel
theorem dX8_takesWork_14 : decode cX8_takesWork 14 = .ok (.isub, 1) := by decide +kernel
theorem dX8_takesWork_15 : decode cX8_takesWork 15 = .ok (.invokevirtual 234, 3) := by decide +kernel
theorem dX8_takesWork_18 : decode cX8_takesWork 18 = .ok (.ifCond .eq 23, 3) := by decide +kernel
theorem dX8_takesWork_21 : decode cX8_takesWork 21 = .ok (.aload_n 0, 1) := by decide +kernel
theorem dX8_takesWork_22 : decode cX8_takesWork 22 = .ok (.iconst 1, 1) := by decide +kernel
theorem dX8_takesWork_23 : decode cX8_takesWork 23 = .ok (.iconst 0, 1) := by decide +kernel
theorem dX8_takesWork_24 : decode cX8_takesWork 24 = .ok (.iconst 3, 1) := by decide +kernel
theorem dX8_takesWork_25 : decode cX8_takesWork 25 = .ok (.invokevirtual 234, 3) := by decide +kernel
theorem dX8_takesWork_28 : decode cX8_takesWork 28 = .ok (.ifCond .eq 13, 3) := by decide +kernel
theorem dX8_takesWork_31 : decode cX8_takesWork 31 = .ok (.aload_n 0, 1) := by decide +kernel
theorem dX8_takesWork_32 : decode cX8_takesWork 32 = .ok (.iconst 2, 1) := by decide +kernel
theorem dX8_takesWork_33 : decode cX8_takesWork 33 = .ok (.iconst 1, 1) := by decide +kernel
theorem dX8_takesWork_34 : decode cX8_takesWork 34 = .ok (.iconst 5, 1) := by decide +kernel
theorem dX8_takesWork_35 : decode cX8_takesWork 35 = .ok (.invokevirtual 234, 3) := by decide +kernel
theorem dX8_takesWork_38 : decode cX8_takesWork 38 = .ok (.ifCond .ne 5, 3) := by decide +kernel
theorem dX8_takesWork_41 : decode cX8_takesWork 41 = .ok (.iconst 0, 1) := by decide +kernel
theorem dX8_takesWork_42 : decode cX8_takesWork 42 = .ok (.ireturn, 1) := by decide +kernel
theorem dX8_takesWork_43 : decode cX8_takesWork 43 = .ok (.iconst 4, 1) := by decide +kernel
theorem dX8_takesWork_44 : decode cX8_takesWork 44 = .ok (.iconst 4, 1) := by decide +kernel
theorem dX8_takesWork_45 : decode cX8_takesWork 45 = .ok (.aload_n 0, 1) := by decide +kernel
theorem dX8_takesWork_46 : decode cX8_takesWork 46 = .ok (.getfield 45, 3) := by decide +kernel
theorem dX8_takesWork_49 : decode cX8_takesWork 49 = .ok (.iconst 0, 1) := by decide +kernel
theorem dX8_takesWork_50 : decode cX8_takesWork 50 = .ok (.iaload, 1) := by decide +kernel
theorem dX8_takesWork_51 : decode cX8_takesWork 51 = .ok (.imul, 1) := by decide +kernel
theorem dX8_takesWork_52 : decode cX8_takesWork 52 = .ok (.iadd, 1) := by decide +kernel
theorem dX8_takesWork_53 : decode cX8_takesWork 53 = .ok (.aload_n 0, 1) := by decide +kernel
theorem dX8_takesWork_54 : decode cX8_takesWork 54 = .ok (.getfield 45, 3) := by decide +kernel
theorem dX8_takesWork_57 : decode cX8_takesWork 57 = .ok (.iconst 1, 1) := by decide +kernel
theorem dX8_takesWork_58 : decode cX8_takesWork 58 = .ok (.iaload, 1) := by decide +kernel
theorem dX8_takesWork_59 : decode cX8_takesWork 59 = .ok (.iadd, 1) := by decide +kernel
theorem dX8_takesWork_60 : decode cX8_takesWork 60 = .ok (.istore_n 1, 1) := by decide +kernel
theorem dX8_takesWork_61 : decode cX8_takesWork 61 = .ok (.aload_n 0, 1) := by decide +kernel
theorem dX8_takesWork_62 : decode cX8_takesWork 62 = .ok (.getfield 42, 3) := by decide +kernel
theorem dX8_takesWork_65 : decode cX8_takesWork 65 = .ok (.iload_n 1, 1) := by decide +kernel
theorem dX8_takesWork_66 : decode cX8_takesWork 66 = .ok (.iaload, 1) := by decide +kernel
theorem dX8_takesWork_67 : decode cX8_takesWork 67 = .ok (.aload_n 0, 1) := by decide +kernel
theorem dX8_takesWork_68 : decode cX8_takesWork 68 = .ok (.getfield 42, 3) := by decide +kernel
theorem dX8_takesWork_71 : decode cX8_takesWork 71 = .ok (.bipush 22, 2) := by decide +kernel
theorem dX8_takesWork_73 : decode cX8_takesWork 73 = .ok (.aload_n 0, 1) := by decide +kernel
theorem dX8_takesWork_74 : decode cX8_takesWork 74 = .ok (.getfield 45, 3) := by decide +kernel
theorem dX8_takesWork_77 : decode cX8_takesWork 77 = .ok (.iconst 0, 1) := by decide +kernel
theorem dX8_takesWork_78 : decode cX8_takesWork 78 = .ok (.iaload, 1) := by decide +kernel
theorem dX8_takesWork_79 : decode cX8_takesWork 79 = .ok (.iadd, 1) := by decide +kernel
theorem dX8_takesWork_80 : decode cX8_takesWork 80 = .ok (.iaload, 1) := by decide +kernel
theorem dX8_takesWork_81 : decode cX8_takesWork 81 = .ok (.aload_n 0, 1) := by decide +kernel
theorem dX8_takesWork_82 : decode cX8_takesWork 82 = .ok (.getfield 45, 3) := by decide +kernel
theorem dX8_takesWork_85 : decode cX8_takesWork 85 = .ok (.iconst 2, 1) := by decide +kernel
theorem dX8_takesWork_86 : decode cX8_takesWork 86 = .ok (.iaload, 1) := by decide +kernel
theorem dX8_takesWork_87 : decode cX8_takesWork 87 = .ok (.invokestatic 101, 3) := by decide +kernel
theorem dX8_takesWork_90 : decode cX8_takesWork 90 = .ok (.iadd, 1) := by decide +kernel
theorem dX8_takesWork_91 : decode cX8_takesWork 91 = .ok (.istore_n 2, 1) := by decide +kernel
theorem dX8_takesWork_92 : decode cX8_takesWork 92 = .ok (.aload_n 0, 1) := by decide +kernel
theorem dX8_takesWork_93 : decode cX8_takesWork 93 = .ok (.getfield 42, 3) := by decide +kernel
theorem dX8_takesWork_96 : decode cX8_takesWork 96 = .ok (.iload_n 1, 1) := by decide +kernel
theorem dX8_takesWork_97 : decode cX8_takesWork 97 = .ok (.iload_n 2, 1) := by decide +kernel
theorem dX8_takesWork_98 : decode cX8_takesWork 98 = .ok (.bipush 20, 2) := by decide +kernel
theorem dX8_takesWork_100 : decode cX8_takesWork 100 = .ok (.if_icmp .le 8, 3) := by decide +kernel
theorem dX8_takesWork_103 : decode cX8_takesWork 103 = .ok (.bipush 20, 2) := by decide +kernel
theorem dX8_takesWork_105 : decode cX8_takesWork 105 = .ok (.goto 4, 3) := by decide +kernel
theorem dX8_takesWork_108 : decode cX8_takesWork 108 = .ok (.iload_n 2, 1) := by decide +kernel
theorem dX8_takesWork_109 : decode cX8_takesWork 109 = .ok (.iastore, 1) := by decide +kernel
theorem dX8_takesWork_110 : decode cX8_takesWork 110 = .ok (.iconst 1, 1) := by decide +kernel
theorem dX8_takesWork_111 : decode cX8_takesWork 111 = .ok (.ireturn, 1) := by decide +kernel
theorem dX8_takesDay_0 : decode cX8_takesDay 0 = .ok (.aload_n 0, 1) := by decide +kernel
theorem dX8_takesDay_1 : decode cX8_takesDay 1 = .ok (.invokevirtual 227, 3) := by decide +kernel
theorem dX8_takesDay_4 : decode cX8_takesDay 4 = .ok (.iconst 0, 1) := by decide +kernel
theorem dX8_takesDay_5 : decode cX8_takesDay 5 = .ok (.istore_n 1, 1) := by decide +kernel
theorem dX8_takesDay_6 : decode cX8_takesDay 6 = .ok (.iload_n 1, 1) := by decide +kernel
theorem dX8_takesDay_7 : decode cX8_takesDay 7 = .ok (.iconst 4, 1) := by decide +kernel
theorem dX8_takesDay_8 : decode cX8_takesDay 8 = .ok (.aload_n 0, 1) := by decide +kernel
theorem dX8_takesDay_9 : decode cX8_takesDay 9 = .ok (.getfield 42, 3) := by decide +kernel
theorem dX8_takesDay_12 : decode cX8_takesDay 12 = .ok (.iconst 0, 1) := by decide +kernel
theorem dX8_takesDay_13 : decode cX8_takesDay 13 = .ok (.iaload, 1) := by decide +kernel
theorem dX8_takesDay_14 : decode cX8_takesDay 14 = .ok (.imul, 1) := by decide +kernel
theorem dX8_takesDay_15 : decode cX8_takesDay 15 = .ok (.if_icmp .ge 46, 3) := by decide +kernel
theorem dX8_takesDay_18 : decode cX8_takesDay 18 = .ok (.aload_n 0, 1) := by decide +kernel
theorem dX8_takesDay_19 : decode cX8_takesDay 19 = .ok (.getfield 42, 3) := by decide +kernel
theorem dX8_takesDay_22 : decode cX8_takesDay 22 = .ok (.iconst 4, 1) := by decide +kernel
theorem dX8_takesDay_23 : decode cX8_takesDay 23 = .ok (.iload_n 1, 1) := by decide +kernel
theorem dX8_takesDay_24 : decode cX8_takesDay 24 = .ok (.iadd, 1) := by decide +kernel
theorem dX8_takesDay_25 : decode cX8_takesDay 25 = .ok (.aload_n 0, 1) := by decide +kernel
theorem dX8_takesDay_26 : decode cX8_takesDay 26 = .ok (.getfield 42, 3) := by decide +kernel
theorem dX8_takesDay_29 : decode cX8_takesDay 29 = .ok (.bipush 22, 2) := by decide +kernel
theorem dX8_takesDay_31 : decode cX8_takesDay 31 = .ok (.iload_n 1, 1) := by decide +kernel
theorem dX8_takesDay_32 : decode cX8_takesDay 32 = .ok (.iconst 4, 1) := by decide +kernel
theorem dX8_takesDay_33 : decode cX8_takesDay 33 = .ok (.idiv, 1) := by decide +kernel
theorem dX8_takesDay_34 : decode cX8_takesDay 34 = .ok (.iadd, 1) := by decide +kernel
theorem dX8_takesDay_35 : decode cX8_takesDay 35 = .ok (.iaload, 1) := by decide +kernel
theorem dX8_takesDay_36 : decode cX8_takesDay 36 = .ok (.aload_n 0, 1) := by decide +kernel
theorem dX8_takesDay_37 : decode cX8_takesDay 37 = .ok (.getfield 42, 3) := by decide +kernel
theorem dX8_takesDay_40 : decode cX8_takesDay 40 = .ok (.iconst 4, 1) := by decide +kernel
theorem dX8_takesDay_41 : decode cX8_takesDay 41 = .ok (.iload_n 1, 1) := by decide +kernel
theorem dX8_takesDay_42 : decode cX8_takesDay 42 = .ok (.iadd, 1) := by decide +kernel
theorem dX8_takesDay_43 : decode cX8_takesDay 43 = .ok (.iaload, 1) := by decide +kernel
theorem dX8_takesDay_44 : decode cX8_takesDay 44 = .ok (.aload_n 0, 1) := by decide +kernel
theorem dX8_takesDay_45 : decode cX8_takesDay 45 = .ok (.getfield 42, 3) := by decide +kernel
theorem dX8_takesDay_48 : decode cX8_takesDay 48 = .ok (.bipush 20, 2) := by decide +kernel
theorem dX8_takesDay_50 : decode cX8_takesDay 50 = .ok (.iaload, 1) := by decide +kernel
theorem dX8_takesDay_51 : decode cX8_takesDay 51 = .ok (.invokestatic 104, 3) := by decide +kernel
theorem dX8_takesDay_54 : decode cX8_takesDay 54 = .ok (.iastore, 1) := by decide +kernel
theorem dX8_takesDay_55 : decode cX8_takesDay 55 = .ok (.iinc 1 1, 3) := by decide +kernel
theorem dX8_takesDay_58 : decode cX8_takesDay 58 = .ok (.goto (-52), 3) := by decide +kernel
theorem dX8_takesDay_61 : decode cX8_takesDay 61 = .ok (.aload_n 0, 1) := by decide +kernel
theorem dX8_takesDay_62 : decode cX8_takesDay 62 = .ok (.getfield 42, 3) := by decide +kernel
theorem dX8_takesDay_65 : decode cX8_takesDay 65 = .ok (.bipush 20, 2) := by decide +kernel
theorem dX8_takesDay_67 : decode cX8_takesDay 67 = .ok (.dup2, 1) := by decide +kernel
theorem dX8_takesDay_68 : decode cX8_takesDay 68 = .ok (.iaload, 1) := by decide +kernel
theorem dX8_takesDay_69 : decode cX8_takesDay 69 = .ok (.iconst 1, 1) := by decide +kernel
theorem dX8_takesDay_70 : decode cX8_takesDay 70 = .ok (.iadd, 1) := by decide +kernel
theorem dX8_takesDay_71 : decode cX8_takesDay 71 = .ok (.iastore, 1) := by decide +kernel
theorem dX8_takesDay_72 : decode cX8_takesDay 72 = .ok (.iconst 1, 1) := by decide +kernel
theorem dX8_takesDay_73 : decode cX8_takesDay 73 = .ok (.ireturn, 1) := by decide +kernel
theorem dX8_takesItem_0 : decode cX8_takesItem 0 = .ok (.aload_n 0, 1) := by decide +kernel
theorem dX8_takesItem_1 : decode cX8_takesItem 1 = .ok (.iconst 5, 1) := by decide +kernel
theorem dX8_takesItem_2 : decode cX8_takesItem 2 = .ok (.bipush 97, 2) := by decide +kernel
theorem dX8_takesItem_4 : decode cX8_takesItem 4 = .ok (.bipush 110, 2) := by decide +kernel
theorem dX8_takesItem_6 : decode cX8_takesItem 6 = .ok (.bipush 118, 2) := by decide +kernel
theorem dX8_takesItem_8 : decode cX8_takesItem 8 = .ok (.bipush 105, 2) := by decide +kernel
theorem dX8_takesItem_10 : decode cX8_takesItem 10 = .ok (.bipush 108, 2) := by decide +kernel
theorem dX8_takesItem_12 : decode cX8_takesItem 12 = .ok (.iconst 0, 1) := by decide +kernel
theorem dX8_takesItem_13 : decode cX8_takesItem 13 = .ok (.invokevirtual 230, 3) := by decide +kernel
theorem dX8_takesItem_16 : decode cX8_takesItem 16 = .ok (.ifCond .eq 8, 3) := by decide +kernel
theorem dX8_takesItem_19 : decode cX8_takesItem 19 = .ok (.aload_n 0, 1) := by decide +kernel
theorem dX8_takesItem_20 : decode cX8_takesItem 20 = .ok (.invokevirtual 238, 3) := by decide +kernel
theorem dX8_takesItem_23 : decode cX8_takesItem 23 = .ok (.ireturn, 1) := by decide +kernel
theorem dX8_takesItem_24 : decode cX8_takesItem 24 = .ok (.aload_n 0, 1) := by decide +kernel
theorem dX8_takesItem_25 : decode cX8_takesItem 25 = .ok (.iconst 4, 1) := by decide +kernel
theorem dX8_takesItem_26 : decode cX8_takesItem 26 = .ok (.bipush 119, 2) := by decide +kernel
theorem dX8_takesItem_28 : decode cX8_takesItem 28 = .ok (.bipush 111, 2) := by decide +kernel
theorem dX8_takesItem_30 : decode cX8_takesItem 30 = .ok (.bipush 114, 2) := by decide +kernel
theorem dX8_takesItem_32 : decode cX8_takesItem 32 = .ok (.bipush 107, 2) := by decide +kernel
theorem dX8_takesItem_34 : decode cX8_takesItem 34 = .ok (.iconst 0, 1) := by decide +kernel
theorem dX8_takesItem_35 : decode cX8_takesItem 35 = .ok (.iconst 0, 1) := by decide +kernel
theorem dX8_takesItem_36 : decode cX8_takesItem 36 = .ok (.invokevirtual 230, 3) := by decide +kernel
theorem dX8_takesItem_39 : decode cX8_takesItem 39 = .ok (.ifCond .eq 8, 3) := by decide +kernel
theorem dX8_takesItem_42 : decode cX8_takesItem 42 = .ok (.aload_n 0, 1) := by decide +kernel
theorem dX8_takesItem_43 : decode cX8_takesItem 43 = .ok (.invokevirtual 242, 3) := by decide +kernel
theorem dX8_takesItem_46 : decode cX8_takesItem 46 = .ok (.ireturn, 1) := by decide +kernel
theorem dX8_takesItem_47 : decode cX8_takesItem 47 = .ok (.aload_n 0, 1) := by decide +kernel
theorem dX8_takesItem_48 : decode cX8_takesItem 48 = .ok (.iconst 3, 1) := by decide +kernel
theorem dX8_takesItem_49 : decode cX8_takesItem 49 = .ok (.bipush 100, 2) := by decide +kernel
theorem dX8_takesItem_51 : decode cX8_takesItem 51 = .ok (.bipush 97, 2) := by decide +kernel
theorem dX8_takesItem_53 : decode cX8_takesItem 53 = .ok (.bipush 121, 2) := by decide +kernel
theorem dX8_takesItem_55 : decode cX8_takesItem 55 = .ok (.iconst 0, 1) := by decide +kernel
theorem dX8_takesItem_56 : decode cX8_takesItem 56 = .ok (.iconst 0, 1) := by decide +kernel
theorem dX8_takesItem_57 : decode cX8_takesItem 57 = .ok (.iconst 0, 1) := by decide +kernel
theorem dX8_takesItem_58 : decode cX8_takesItem 58 = .ok (.invokevirtual 230, 3) := by decide +kernel
theorem dX8_takesItem_61 : decode cX8_takesItem 61 = .ok (.ifCond .eq 14, 3) := by decide +kernel
theorem dX8_takesItem_64 : decode cX8_takesItem 64 = .ok (.aload_n 0, 1) := by decide +kernel
theorem dX8_takesItem_65 : decode cX8_takesItem 65 = .ok (.invokevirtual 245, 3) := by decide +kernel
theorem dX8_takesItem_68 : decode cX8_takesItem 68 = .ok (.ifCond .eq 7, 3) := by decide +kernel
theorem dX8_takesItem_71 : decode cX8_takesItem 71 = .ok (.iconst 1, 1) := by decide +kernel
theorem dX8_takesItem_72 : decode cX8_takesItem 72 = .ok (.goto 4, 3) := by decide +kernel
theorem dX8_takesItem_75 : decode cX8_takesItem 75 = .ok (.iconst 0, 1) := by decide +kernel
theorem dX8_takesItem_76 : decode cX8_takesItem 76 = .ok (.ireturn, 1) := by decide +kernel
theorem dX8_read_0 : decode cX8_read 0 = .ok (.aload_n 0, 1) := by decide +kernel
theorem dX8_read_1 : decode cX8_read 1 = .ok (.iconst 0, 1) := by decide +kernel
theorem dX8_read_2 : decode cX8_read 2 = .ok (.invokevirtual 223, 3) := by decide +kernel
theorem dX8_read_5 : decode cX8_read 5 = .ok (.aload_n 0, 1) := by decide +kernel
theorem dX8_read_6 : decode cX8_read 6 = .ok (.invokevirtual 248, 3) := by decide +kernel
theorem dX8_read_9 : decode cX8_read 9 = .ok (.ifCond .ne 11, 3) := by decide +kernel
theorem dX8_read_12 : decode cX8_read 12 = .ok (.bipush (-10), 2) := by decide +kernel
theorem dX8_read_14 : decode cX8_read 14 = .ok (.aload_n 0, 1) := by decide +kernel
theorem dX8_read_15 : decode cX8_read 15 = .ok (.getfield 205, 3) := by decide +kernel
theorem dX8_read_18 : decode cX8_read 18 = .ok (.isub, 1) := by decide +kernel
theorem dX8_read_19 : decode cX8_read 19 = .ok (.ireturn, 1) := by decide +kernel
theorem dX8_read_20 : decode cX8_read 20 = .ok (.aload_n 0, 1) := by decide +kernel
theorem dX8_read_21 : decode cX8_read 21 = .ok (.invokevirtual 227, 3) := by decide +kernel
theorem dX8_read_24 : decode cX8_read 24 = .ok (.iconst 1, 1) := by decide +kernel
theorem dX8_read_25 : decode cX8_read 25 = .ok (.istore_n 1, 1) := by decide +kernel
theorem dX8_read_26 : decode cX8_read 26 = .ok (.aload_n 0, 1) := by decide +kernel
theorem dX8_read_27 : decode cX8_read 27 = .ok (.getfield 211, 3) := by decide +kernel
theorem dX8_read_30 : decode cX8_read 30 = .ok (.ifCond .eq 36, 3) := by decide +kernel
theorem dX8_read_33 : decode cX8_read 33 = .ok (.aload_n 0, 1) := by decide +kernel
theorem dX8_read_34 : decode cX8_read 34 = .ok (.invokevirtual 251, 3) := by decide +kernel
theorem dX8_read_37 : decode cX8_read 37 = .ok (.ifCond .eq 11, 3) := by decide +kernel
theorem dX8_read_40 : decode cX8_read 40 = .ok (.aload_n 0, 1) := by decide +kernel
theorem dX8_read_41 : decode cX8_read 41 = .ok (.getfield 211, 3) := by decide +kernel
theorem dX8_read_44 : decode cX8_read 44 = .ok (.iconst 3, 1) := by decide +kernel
theorem dX8_read_45 : decode cX8_read 45 = .ok (.if_icmp .eq 11, 3) := by decide +kernel
theorem dX8_read_48 : decode cX8_read 48 = .ok (.bipush (-10), 2) := by decide +kernel
theorem dX8_read_50 : decode cX8_read 50 = .ok (.aload_n 0, 1) := by decide +kernel
theorem dX8_read_51 : decode cX8_read 51 = .ok (.getfield 205, 3) := by decide +kernel
theorem dX8_read_54 : decode cX8_read 54 = .ok (.isub, 1) := by decide +kernel
theorem dX8_read_55 : decode cX8_read 55 = .ok (.ireturn, 1) := by decide +kernel
theorem dX8_read_56 : decode cX8_read 56 = .ok (.aload_n 0, 1) := by decide +kernel
theorem dX8_read_57 : decode cX8_read 57 = .ok (.invokevirtual 227, 3) := by decide +kernel
theorem dX8_read_60 : decode cX8_read 60 = .ok (.iinc 1 1, 3) := by decide +kernel
theorem dX8_read_63 : decode cX8_read 63 = .ok (.goto (-37), 3) := by decide +kernel
theorem dX8_read_66 : decode cX8_read 66 = .ok (.iconst 0, 1) := by decide +kernel
theorem dX8_read_67 : decode cX8_read 67 = .ok (.istore_n 2, 1) := by decide +kernel
theorem dX8_read_68 : decode cX8_read 68 = .ok (.iload_n 2, 1) := by decide +kernel
theorem dX8_read_69 : decode cX8_read 69 = .ok (.bipush 74, 2) := by decide +kernel
theorem dX8_read_71 : decode cX8_read 71 = .ok (.if_icmp .ge 21, 3) := by decide +kernel
theorem dX8_read_74 : decode cX8_read 74 = .ok (.aload_n 0, 1) := by decide +kernel
theorem dX8_read_75 : decode cX8_read 75 = .ok (.getfield 7, 3) := by decide +kernel
theorem dX8_read_78 : decode cX8_read 78 = .ok (.iload_n 2, 1) := by decide +kernel
theorem dX8_read_79 : decode cX8_read 79 = .ok (.aload_n 0, 1) := by decide +kernel
theorem dX8_read_80 : decode cX8_read 80 = .ok (.getfield 42, 3) := by decide +kernel
theorem dX8_read_83 : decode cX8_read 83 = .ok (.iload_n 2, 1) := by decide +kernel
theorem dX8_read_84 : decode cX8_read 84 = .ok (.iaload, 1) := by decide +kernel
theorem dX8_read_85 : decode cX8_read 85 = .ok (.iastore, 1) := by decide +kernel
theorem dX8_read_86 : decode cX8_read 86 = .ok (.iinc 2 1, 3) := by decide +kernel
theorem dX8_read_89 : decode cX8_read 89 = .ok (.goto (-21), 3) := by decide +kernel
theorem dX8_read_92 : decode cX8_read 92 = .ok (.iload_n 1, 1) := by decide +kernel
theorem dX8_read_93 : decode cX8_read 93 = .ok (.ireturn, 1) := by decide +kernel
theorem dX8_part_0 : decode cX8_part 0 = .ok (.iload_n 1, 1) := by decide +kernel
theorem dX8_part_1 : decode cX8_part 1 = .ok (.ifCond .ne 10, 3) := by decide +kernel
theorem dX8_part_4 : decode cX8_part 4 = .ok (.aload_n 0, 1) := by decide +kernel
theorem dX8_part_5 : decode cX8_part 5 = .ok (.getfield 169, 3) := by decide +kernel
theorem dX8_part_8 : decode cX8_part 8 = .ok (.goto 22, 3) := by decide +kernel
theorem dX8_part_11 : decode cX8_part 11 = .ok (.iload_n 1, 1) := by decide +kernel
theorem dX8_part_12 : decode cX8_part 12 = .ok (.iconst 1, 1) := by decide +kernel
theorem dX8_part_13 : decode cX8_part 13 = .ok (.if_icmp .ne 10, 3) := by decide +kernel
theorem dX8_part_16 : decode cX8_part 16 = .ok (.aload_n 0, 1) := by decide +kernel
theorem dX8_part_17 : decode cX8_part 17 = .ok (.getfield 23, 3) := by decide +kernel
theorem dX8_part_20 : decode cX8_part 20 = .ok (.goto 10, 3) := by decide +kernel
theorem dX8_part_23 : decode cX8_part 23 = .ok (.aload_n 0, 1) := by decide +kernel
theorem dX8_part_24 : decode cX8_part 24 = .ok (.bipush (-2), 2) := by decide +kernel
theorem dX8_part_26 : decode cX8_part 26 = .ok (.invokevirtual 66, 3) := by decide +kernel
theorem dX8_part_29 : decode cX8_part 29 = .ok (.i2l, 1) := by decide +kernel
theorem dX8_part_30 : decode cX8_part 30 = .ok (.lreturn, 1) := by decide +kernel
theorem dX8_image_0 : decode cX8_image 0 = .ok (.iload_n 1, 1) := by decide +kernel
theorem dX8_image_1 : decode cX8_image 1 = .ok (.i2l, 1) := by decide +kernel
theorem dX8_image_2 : decode cX8_image 2 = .ok (.lconst 0, 1) := by decide +kernel
theorem dX8_image_3 : decode cX8_image 3 = .ok (.lconst 1, 1) := by decide +kernel
theorem dX8_image_4 : decode cX8_image 4 = .ok (.invokestatic 56, 3) := by decide +kernel
theorem dX8_image_7 : decode cX8_image 7 = .ok (.ifCond .ne 10, 3) := by decide +kernel
theorem dX8_image_10 : decode cX8_image 10 = .ok (.aload_n 0, 1) := by decide +kernel
theorem dX8_image_11 : decode cX8_image 11 = .ok (.bipush (-2), 2) := by decide +kernel
theorem dX8_image_13 : decode cX8_image 13 = .ok (.invokevirtual 66, 3) := by decide +kernel
theorem dX8_image_16 : decode cX8_image 16 = .ok (.ireturn, 1) := by decide +kernel
theorem dX8_image_17 : decode cX8_image 17 = .ok (.iconst 0, 1) := by decide +kernel
theorem dX8_image_18 : decode cX8_image 18 = .ok (.istore_n 2, 1) := by decide +kernel
theorem dX8_image_19 : decode cX8_image 19 = .ok (.iload_n 2, 1) := by decide +kernel
theorem dX8_image_20 : decode cX8_image 20 = .ok (.sipush 218, 3) := by decide +kernel
theorem dX8_image_23 : decode cX8_image 23 = .ok (.if_icmp .ge 27, 3) := by decide +kernel
theorem dX8_image_26 : decode cX8_image 26 = .ok (.aload_n 0, 1) := by decide +kernel
theorem dX8_image_27 : decode cX8_image 27 = .ok (.getfield 13, 3) := by decide +kernel
theorem dX8_image_30 : decode cX8_image 30 = .ok (.sipush 218, 3) := by decide +kernel
theorem dX8_image_33 : decode cX8_image 33 = .ok (.iload_n 1, 1) := by decide +kernel
theorem dX8_image_34 : decode cX8_image 34 = .ok (.imul, 1) := by decide +kernel
theorem dX8_image_35 : decode cX8_image 35 = .ok (.iload_n 2, 1) := by decide +kernel
theorem dX8_image_36 : decode cX8_image 36 = .ok (.iadd, 1) := by decide +kernel
theorem dX8_image_37 : decode cX8_image 37 = .ok (.aload_n 0, 1) := by decide +kernel
theorem dX8_image_38 : decode cX8_image 38 = .ok (.getfield 7, 3) := by decide +kernel
theorem dX8_image_41 : decode cX8_image 41 = .ok (.iload_n 2, 1) := by decide +kernel
theorem dX8_image_42 : decode cX8_image 42 = .ok (.iaload, 1) := by decide +kernel
theorem dX8_image_43 : decode cX8_image 43 = .ok (.iastore, 1) := by decide +kernel
theorem dX8_image_44 : decode cX8_image 44 = .ok (.iinc 2 1, 3) := by decide +kernel
theorem dX8_image_47 : decode cX8_image 47 = .ok (.goto (-28), 3) := by decide +kernel
theorem dX8_image_50 : decode cX8_image 50 = .ok (.aload_n 0, 1) := by decide +kernel
theorem dX8_image_51 : decode cX8_image 51 = .ok (.getfield 16, 3) := by decide +kernel
theorem dX8_image_54 : decode cX8_image 54 = .ok (.iload_n 1, 1) := by decide +kernel
theorem dX8_image_55 : decode cX8_image 55 = .ok (.iconst 1, 1) := by decide +kernel
theorem dX8_image_56 : decode cX8_image 56 = .ok (.bastore, 1) := by decide +kernel
theorem dX8_image_57 : decode cX8_image 57 = .ok (.iconst 1, 1) := by decide +kernel
theorem dX8_image_58 : decode cX8_image 58 = .ok (.ireturn, 1) := by decide +kernel
theorem dX8_from_0 : decode cX8_from 0 = .ok (.iload_n 1, 1) := by decide +kernel
theorem dX8_from_1 : decode cX8_from 1 = .ok (.i2l, 1) := by decide +kernel
theorem dX8_from_2 : decode cX8_from 2 = .ok (.lconst 0, 1) := by decide +kernel
theorem dX8_from_3 : decode cX8_from 3 = .ok (.lconst 1, 1) := by decide +kernel
theorem dX8_from_4 : decode cX8_from 4 = .ok (.invokestatic 56, 3) := by decide +kernel
theorem dX8_from_7 : decode cX8_from 7 = .ok (.ifCond .ne 10, 3) := by decide +kernel
theorem dX8_from_10 : decode cX8_from 10 = .ok (.aload_n 0, 1) := by decide +kernel
theorem dX8_from_11 : decode cX8_from 11 = .ok (.bipush (-2), 2) := by decide +kernel
theorem dX8_from_13 : decode cX8_from 13 = .ok (.invokevirtual 66, 3) := by decide +kernel
theorem dX8_from_16 : decode cX8_from 16 = .ok (.ireturn, 1) := by decide +kernel
theorem dX8_from_17 : decode cX8_from 17 = .ok (.aload_n 0, 1) := by decide +kernel
theorem dX8_from_18 : decode cX8_from 18 = .ok (.getfield 16, 3) := by decide +kernel
theorem dX8_from_21 : decode cX8_from 21 = .ok (.iload_n 1, 1) := by decide +kernel
theorem dX8_from_22 : decode cX8_from 22 = .ok (.baload, 1) := by decide +kernel
theorem dX8_from_23 : decode cX8_from 23 = .ok (.ifCond .ne 8, 3) := by decide +kernel
theorem dX8_from_26 : decode cX8_from 26 = .ok (.aload_n 0, 1) := by decide +kernel
theorem dX8_from_27 : decode cX8_from 27 = .ok (.invokevirtual 130, 3) := by decide +kernel
theorem dX8_from_30 : decode cX8_from 30 = .ok (.ireturn, 1) := by decide +kernel
theorem dX8_from_31 : decode cX8_from 31 = .ok (.iconst 0, 1) := by decide +kernel
theorem dX8_from_32 : decode cX8_from 32 = .ok (.istore_n 2, 1) := by decide +kernel
theorem dX8_from_33 : decode cX8_from 33 = .ok (.iload_n 2, 1) := by decide +kernel
theorem dX8_from_34 : decode cX8_from 34 = .ok (.sipush 218, 3) := by decide +kernel
theorem dX8_from_37 : decode cX8_from 37 = .ok (.if_icmp .ge 27, 3) := by decide +kernel
theorem dX8_from_40 : decode cX8_from 40 = .ok (.aload_n 0, 1) := by decide +kernel
theorem dX8_from_41 : decode cX8_from 41 = .ok (.getfield 7, 3) := by decide +kernel
theorem dX8_from_44 : decode cX8_from 44 = .ok (.iload_n 2, 1) := by decide +kernel
theorem dX8_from_45 : decode cX8_from 45 = .ok (.aload_n 0, 1) := by decide +kernel
theorem dX8_from_46 : decode cX8_from 46 = .ok (.getfield 13, 3) := by decide +kernel
theorem dX8_from_49 : decode cX8_from 49 = .ok (.sipush 218, 3) := by decide +kernel
theorem dX8_from_52 : decode cX8_from 52 = .ok (.iload_n 1, 1) := by decide +kernel
theorem dX8_from_53 : decode cX8_from 53 = .ok (.imul, 1) := by decide +kernel
theorem dX8_from_54 : decode cX8_from 54 = .ok (.iload_n 2, 1) := by decide +kernel
theorem dX8_from_55 : decode cX8_from 55 = .ok (.iadd, 1) := by decide +kernel
theorem dX8_from_56 : decode cX8_from 56 = .ok (.iaload, 1) := by decide +kernel
theorem dX8_from_57 : decode cX8_from 57 = .ok (.iastore, 1) := by decide +kernel
theorem dX8_from_58 : decode cX8_from 58 = .ok (.iinc 2 1, 3) := by decide +kernel
theorem dX8_from_61 : decode cX8_from 61 = .ok (.goto (-28), 3) := by decide +kernel
theorem dX8_from_64 : decode cX8_from 64 = .ok (.iconst 1, 1) := by decide +kernel
theorem dX8_from_65 : decode cX8_from 65 = .ok (.ireturn, 1) := by decide +kernel
theorem dX8_status_0 : decode cX8_status 0 = .ok (.iload_n 1, 1) := by decide +kernel
theorem dX8_status_1 : decode cX8_status 1 = .ok (.i2l, 1) := by decide +kernel
theorem dX8_status_2 : decode cX8_status 2 = .ok (.lconst 0, 1) := by decide +kernel
theorem dX8_status_3 : decode cX8_status 3 = .ok (.ldc2_w 254, 3) := by decide +kernel
theorem dX8_status_6 : decode cX8_status 6 = .ok (.invokestatic 56, 3) := by decide +kernel
theorem dX8_status_9 : decode cX8_status 9 = .ok (.ifCond .eq 12, 3) := by decide +kernel
theorem dX8_status_12 : decode cX8_status 12 = .ok (.aload_n 0, 1) := by decide +kernel
theorem dX8_status_13 : decode cX8_status 13 = .ok (.getfield 20, 3) := by decide +kernel
theorem dX8_status_16 : decode cX8_status 16 = .ok (.iload_n 1, 1) := by decide +kernel
theorem dX8_status_17 : decode cX8_status 17 = .ok (.iaload, 1) := by decide +kernel
theorem dX8_status_18 : decode cX8_status 18 = .ok (.goto 8, 3) := by decide +kernel
theorem dX8_status_21 : decode cX8_status 21 = .ok (.aload_n 0, 1) := by decide +kernel
theorem dX8_status_22 : decode cX8_status 22 = .ok (.iconst (-1), 1) := by decide +kernel
theorem dX8_status_23 : decode cX8_status 23 = .ok (.invokevirtual 66, 3) := by decide +kernel
theorem dX8_status_26 : decode cX8_status 26 = .ok (.ireturn, 1) := by decide +kernel
theorem dX8_counted_0 : decode cX8_counted 0 = .ok (.iload_n 1, 1) := by decide +kernel
theorem dX8_counted_1 : decode cX8_counted 1 = .ok (.tableswitch 81 0 5 #[39, 44, 52, 60, 67, 74], 39) := by decide +kernel
theorem dX8_counted_40 : decode cX8_counted 40 = .ok (.aload_n 0, 1) := by decide +kernel
theorem dX8_counted_41 : decode cX8_counted 41 = .ok (.invokevirtual 52, 3) := by decide +kernel
theorem dX8_counted_44 : decode cX8_counted 44 = .ok (.ireturn, 1) := by decide +kernel
theorem dX8_counted_45 : decode cX8_counted 45 = .ok (.aload_n 0, 1) := by decide +kernel
theorem dX8_counted_46 : decode cX8_counted 46 = .ok (.getfield 7, 3) := by decide +kernel
theorem dX8_counted_49 : decode cX8_counted 49 = .ok (.bipush 20, 2) := by decide +kernel
theorem dX8_counted_51 : decode cX8_counted 51 = .ok (.iaload, 1) := by decide +kernel
theorem dX8_counted_52 : decode cX8_counted 52 = .ok (.ireturn, 1) := by decide +kernel
theorem dX8_counted_53 : decode cX8_counted 53 = .ok (.aload_n 0, 1) := by decide +kernel
theorem dX8_counted_54 : decode cX8_counted 54 = .ok (.getfield 7, 3) := by decide +kernel
theorem dX8_counted_57 : decode cX8_counted 57 = .ok (.bipush 21, 2) := by decide +kernel
theorem dX8_counted_59 : decode cX8_counted 59 = .ok (.iaload, 1) := by decide +kernel
theorem dX8_counted_60 : decode cX8_counted 60 = .ok (.ireturn, 1) := by decide +kernel
theorem dX8_counted_61 : decode cX8_counted 61 = .ok (.aload_n 0, 1) := by decide +kernel
theorem dX8_counted_62 : decode cX8_counted 62 = .ok (.getfield 7, 3) := by decide +kernel
theorem dX8_counted_65 : decode cX8_counted 65 = .ok (.iconst 1, 1) := by decide +kernel
theorem dX8_counted_66 : decode cX8_counted 66 = .ok (.iaload, 1) := by decide +kernel
theorem dX8_counted_67 : decode cX8_counted 67 = .ok (.ireturn, 1) := by decide +kernel
theorem dX8_counted_68 : decode cX8_counted 68 = .ok (.aload_n 0, 1) := by decide +kernel
theorem dX8_counted_69 : decode cX8_counted 69 = .ok (.getfield 7, 3) := by decide +kernel
theorem dX8_counted_72 : decode cX8_counted 72 = .ok (.iconst 2, 1) := by decide +kernel
theorem dX8_counted_73 : decode cX8_counted 73 = .ok (.iaload, 1) := by decide +kernel
theorem dX8_counted_74 : decode cX8_counted 74 = .ok (.ireturn, 1) := by decide +kernel
theorem dX8_counted_75 : decode cX8_counted 75 = .ok (.aload_n 0, 1) := by decide +kernel
theorem dX8_counted_76 : decode cX8_counted 76 = .ok (.getfield 7, 3) := by decide +kernel
theorem dX8_counted_79 : decode cX8_counted 79 = .ok (.iconst 3, 1) := by decide +kernel
theorem dX8_counted_80 : decode cX8_counted 80 = .ok (.iaload, 1) := by decide +kernel
theorem dX8_counted_81 : decode cX8_counted 81 = .ok (.ireturn, 1) := by decide +kernel
theorem dX8_counted_82 : decode cX8_counted 82 = .ok (.aload_n 0, 1) := by decide +kernel
theorem dX8_counted_83 : decode cX8_counted 83 = .ok (.getfield 194, 3) := by decide +kernel
theorem dX8_counted_86 : decode cX8_counted 86 = .ok (.ireturn, 1) := by decide +kernel
theorem dX8_count_0 : decode cX8_count 0 = .ok (.iload_n 1, 1) := by decide +kernel
theorem dX8_count_1 : decode cX8_count 1 = .ok (.i2l, 1) := by decide +kernel
theorem dX8_count_2 : decode cX8_count 2 = .ok (.lconst 0, 1) := by decide +kernel
theorem dX8_count_3 : decode cX8_count 3 = .ok (.ldc2_w 256, 3) := by decide +kernel
theorem dX8_count_6 : decode cX8_count 6 = .ok (.invokestatic 56, 3) := by decide +kernel
theorem dX8_count_9 : decode cX8_count 9 = .ok (.ifCond .eq 11, 3) := by decide +kernel
theorem dX8_count_12 : decode cX8_count 12 = .ok (.aload_n 0, 1) := by decide +kernel
theorem dX8_count_13 : decode cX8_count 13 = .ok (.iload_n 1, 1) := by decide +kernel
theorem dX8_count_14 : decode cX8_count 14 = .ok (.invokevirtual 258, 3) := by decide +kernel
theorem dX8_count_17 : decode cX8_count 17 = .ok (.goto 9, 3) := by decide +kernel
theorem dX8_count_20 : decode cX8_count 20 = .ok (.aload_n 0, 1) := by decide +kernel
theorem dX8_count_21 : decode cX8_count 21 = .ok (.bipush (-2), 2) := by decide +kernel
theorem dX8_count_23 : decode cX8_count 23 = .ok (.invokevirtual 66, 3) := by decide +kernel
theorem dX8_count_26 : decode cX8_count 26 = .ok (.ireturn, 1) := by decide +kernel
theorem dX8_sums_0 : decode cX8_sums 0 = .ok (.lload_n 1, 1) := by decide +kernel
theorem dX8_sums_1 : decode cX8_sums 1 = .ok (.lstore 5, 2) := by decide +kernel
theorem dX8_sums_3 : decode cX8_sums 3 = .ok (.iconst 0, 1) := by decide +kernel
theorem dX8_sums_4 : decode cX8_sums 4 = .ok (.istore 7, 2) := by decide +kernel
theorem dX8_sums_6 : decode cX8_sums 6 = .ok (.iload 7, 2) := by decide +kernel
theorem dX8_sums_8 : decode cX8_sums 8 = .ok (.iload 4, 2) := by decide +kernel
theorem dX8_sums_10 : decode cX8_sums 10 = .ok (.if_icmp .ge 28, 3) := by decide +kernel
theorem dX8_sums_13 : decode cX8_sums 13 = .ok (.ldc2_w 261, 3) := by decide +kernel
theorem dX8_sums_16 : decode cX8_sums 16 = .ok (.lload 5, 2) := by decide +kernel
theorem dX8_sums_18 : decode cX8_sums 18 = .ok (.lmul, 1) := by decide +kernel
theorem dX8_sums_19 : decode cX8_sums 19 = .ok (.aload_n 0, 1) := by decide +kernel
theorem dX8_sums_20 : decode cX8_sums 20 = .ok (.getfield 7, 3) := by decide +kernel
theorem dX8_sums_23 : decode cX8_sums 23 = .ok (.iload_n 3, 1) := by decide +kernel
theorem dX8_sums_24 : decode cX8_sums 24 = .ok (.iload 7, 2) := by decide +kernel
theorem dX8_sums_26 : decode cX8_sums 26 = .ok (.iadd, 1) := by decide +kernel
theorem dX8_sums_27 : decode cX8_sums 27 = .ok (.iaload, 1) := by decide +kernel
theorem dX8_sums_28 : decode cX8_sums 28 = .ok (.i2l, 1) := by decide +kernel
theorem dX8_sums_29 : decode cX8_sums 29 = .ok (.ladd, 1) := by decide +kernel
theorem dX8_sums_30 : decode cX8_sums 30 = .ok (.lstore 5, 2) := by decide +kernel
theorem dX8_sums_32 : decode cX8_sums 32 = .ok (.iinc 7 1, 3) := by decide +kernel
theorem dX8_sums_35 : decode cX8_sums 35 = .ok (.goto (-29), 3) := by decide +kernel
theorem dX8_sums_38 : decode cX8_sums 38 = .ok (.lload 5, 2) := by decide +kernel
theorem dX8_sums_40 : decode cX8_sums 40 = .ok (.lreturn, 1) := by decide +kernel
theorem dX8_digest_0 : decode cX8_digest 0 = .ok (.ldc2_w 263, 3) := by decide +kernel
theorem dX8_digest_3 : decode cX8_digest 3 = .ok (.lstore_n 1, 1) := by decide +kernel
theorem dX8_digest_4 : decode cX8_digest 4 = .ok (.iconst 0, 1) := by decide +kernel
theorem dX8_digest_5 : decode cX8_digest 5 = .ok (.istore_n 3, 1) := by decide +kernel
theorem dX8_digest_6 : decode cX8_digest 6 = .ok (.iload_n 3, 1) := by decide +kernel
theorem dX8_digest_7 : decode cX8_digest 7 = .ok (.bipush 7, 2) := by decide +kernel
theorem dX8_digest_9 : decode cX8_digest 9 = .ok (.if_icmp .ge 22, 3) := by decide +kernel
theorem dX8_digest_12 : decode cX8_digest 12 = .ok (.ldc2_w 261, 3) := by decide +kernel
theorem dX8_digest_15 : decode cX8_digest 15 = .ok (.lload_n 1, 1) := by decide +kernel
theorem dX8_digest_16 : decode cX8_digest 16 = .ok (.lmul, 1) := by decide +kernel
theorem dX8_digest_17 : decode cX8_digest 17 = .ok (.aload_n 0, 1) := by decide +kernel
theorem dX8_digest_18 : decode cX8_digest 18 = .ok (.iload_n 3, 1) := by decide +kernel
theorem dX8_digest_19 : decode cX8_digest 19 = .ok (.invokevirtual 258, 3) := by decide +kernel
theorem dX8_digest_22 : decode cX8_digest 22 = .ok (.i2l, 1) := by decide +kernel
theorem dX8_digest_23 : decode cX8_digest 23 = .ok (.ladd, 1) := by decide +kernel
theorem dX8_digest_24 : decode cX8_digest 24 = .ok (.lstore_n 1, 1) := by decide +kernel
theorem dX8_digest_25 : decode cX8_digest 25 = .ok (.iinc 3 1, 3) := by decide +kernel
theorem dX8_digest_28 : decode cX8_digest 28 = .ok (.goto (-22), 3) := by decide +kernel
theorem dX8_digest_31 : decode cX8_digest 31 = .ok (.iconst 0, 1) := by decide +kernel
theorem dX8_digest_32 : decode cX8_digest 32 = .ok (.istore_n 3, 1) := by decide +kernel
theorem dX8_digest_33 : decode cX8_digest 33 = .ok (.iload_n 3, 1) := by decide +kernel
theorem dX8_digest_34 : decode cX8_digest 34 = .ok (.aload_n 0, 1) := by decide +kernel
theorem dX8_digest_35 : decode cX8_digest 35 = .ok (.invokevirtual 52, 3) := by decide +kernel
theorem dX8_digest_38 : decode cX8_digest 38 = .ok (.if_icmp .ge 32, 3) := by decide +kernel
theorem dX8_digest_41 : decode cX8_digest 41 = .ok (.aload_n 0, 1) := by decide +kernel
theorem dX8_digest_42 : decode cX8_digest 42 = .ok (.ldc2_w 261, 3) := by decide +kernel
theorem dX8_digest_45 : decode cX8_digest 45 = .ok (.lload_n 1, 1) := by decide +kernel
theorem dX8_digest_46 : decode cX8_digest 46 = .ok (.lmul, 1) := by decide +kernel
theorem dX8_digest_47 : decode cX8_digest 47 = .ok (.aload_n 0, 1) := by decide +kernel
theorem dX8_digest_48 : decode cX8_digest 48 = .ok (.iload_n 3, 1) := by decide +kernel
theorem dX8_digest_49 : decode cX8_digest 49 = .ok (.invokevirtual 87, 3) := by decide +kernel
theorem dX8_digest_52 : decode cX8_digest 52 = .ok (.i2l, 1) := by decide +kernel
theorem dX8_digest_53 : decode cX8_digest 53 = .ok (.ladd, 1) := by decide +kernel
theorem dX8_digest_54 : decode cX8_digest 54 = .ok (.iconst 4, 1) := by decide +kernel
theorem dX8_digest_55 : decode cX8_digest 55 = .ok (.iconst 4, 1) := by decide +kernel
theorem dX8_digest_56 : decode cX8_digest 56 = .ok (.iload_n 3, 1) := by decide +kernel
theorem dX8_digest_57 : decode cX8_digest 57 = .ok (.imul, 1) := by decide +kernel
theorem dX8_digest_58 : decode cX8_digest 58 = .ok (.iadd, 1) := by decide +kernel
theorem dX8_digest_59 : decode cX8_digest 59 = .ok (.iconst 4, 1) := by decide +kernel
theorem dX8_digest_60 : decode cX8_digest 60 = .ok (.invokevirtual 265, 3) := by decide +kernel
theorem dX8_digest_63 : decode cX8_digest 63 = .ok (.lstore_n 1, 1) := by decide +kernel
theorem dX8_digest_64 : decode cX8_digest 64 = .ok (.iinc 3 1, 3) := by decide +kernel
theorem dX8_digest_67 : decode cX8_digest 67 = .ok (.goto (-34), 3) := by decide +kernel
theorem dX8_digest_70 : decode cX8_digest 70 = .ok (.aload_n 0, 1) := by decide +kernel
theorem dX8_digest_71 : decode cX8_digest 71 = .ok (.lload_n 1, 1) := by decide +kernel
theorem dX8_digest_72 : decode cX8_digest 72 = .ok (.bipush 26, 2) := by decide +kernel
theorem dX8_digest_74 : decode cX8_digest 74 = .ok (.iconst 4, 1) := by decide +kernel
theorem dX8_digest_75 : decode cX8_digest 75 = .ok (.aload_n 0, 1) := by decide +kernel
theorem dX8_digest_76 : decode cX8_digest 76 = .ok (.getfield 7, 3) := by decide +kernel
theorem dX8_digest_79 : decode cX8_digest 79 = .ok (.iconst 1, 1) := by decide +kernel
theorem dX8_digest_80 : decode cX8_digest 80 = .ok (.iaload, 1) := by decide +kernel
theorem dX8_digest_81 : decode cX8_digest 81 = .ok (.imul, 1) := by decide +kernel
theorem dX8_digest_82 : decode cX8_digest 82 = .ok (.invokevirtual 265, 3) := by decide +kernel
theorem dX8_digest_85 : decode cX8_digest 85 = .ok (.lstore_n 1, 1) := by decide +kernel
theorem dX8_digest_86 : decode cX8_digest 86 = .ok (.aload_n 0, 1) := by decide +kernel
theorem dX8_digest_87 : decode cX8_digest 87 = .ok (.lload_n 1, 1) := by decide +kernel
theorem dX8_digest_88 : decode cX8_digest 88 = .ok (.bipush 50, 2) := by decide +kernel
theorem dX8_digest_90 : decode cX8_digest 90 = .ok (.iconst 4, 1) := by decide +kernel
theorem dX8_digest_91 : decode cX8_digest 91 = .ok (.aload_n 0, 1) := by decide +kernel
theorem dX8_digest_92 : decode cX8_digest 92 = .ok (.getfield 7, 3) := by decide +kernel
theorem dX8_digest_95 : decode cX8_digest 95 = .ok (.iconst 2, 1) := by decide +kernel
theorem dX8_digest_96 : decode cX8_digest 96 = .ok (.iaload, 1) := by decide +kernel
theorem dX8_digest_97 : decode cX8_digest 97 = .ok (.imul, 1) := by decide +kernel
theorem dX8_digest_98 : decode cX8_digest 98 = .ok (.invokevirtual 265, 3) := by decide +kernel
theorem dX8_digest_101 : decode cX8_digest 101 = .ok (.lstore_n 1, 1) := by decide +kernel
theorem dX8_digest_102 : decode cX8_digest 102 = .ok (.ldc2_w 261, 3) := by decide +kernel
theorem dX8_digest_105 : decode cX8_digest 105 = .ok (.ldc2_w 261, 3) := by decide +kernel
theorem dX8_digest_108 : decode cX8_digest 108 = .ok (.lload_n 1, 1) := by decide +kernel
theorem dX8_digest_109 : decode cX8_digest 109 = .ok (.lmul, 1) := by decide +kernel
theorem dX8_digest_110 : decode cX8_digest 110 = .ok (.aload_n 0, 1) := by decide +kernel
theorem dX8_digest_111 : decode cX8_digest 111 = .ok (.getfield 169, 3) := by decide +kernel
theorem dX8_digest_114 : decode cX8_digest 114 = .ok (.ladd, 1) := by decide +kernel
theorem dX8_digest_115 : decode cX8_digest 115 = .ok (.lmul, 1) := by decide +kernel
theorem dX8_digest_116 : decode cX8_digest 116 = .ok (.aload_n 0, 1) := by decide +kernel
theorem dX8_digest_117 : decode cX8_digest 117 = .ok (.getfield 23, 3) := by decide +kernel
theorem dX8_digest_120 : decode cX8_digest 120 = .ok (.ladd, 1) := by decide +kernel
theorem dX8_digest_121 : decode cX8_digest 121 = .ok (.lreturn, 1) := by decide +kernel
