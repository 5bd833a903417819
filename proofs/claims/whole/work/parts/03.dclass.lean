theorem dX7_init_0 : decode cX7_init 0 = .ok (.aload_n 0, 1) := by decide +kernel
theorem dX7_init_1 : decode cX7_init 1 = .ok (.invokespecial 1, 3) := by decide +kernel
theorem dX7_init_4 : decode cX7_init 4 = .ok (.aload_n 0, 1) := by decide +kernel
theorem dX7_init_5 : decode cX7_init 5 = .ok (.new 7, 3) := by decide +kernel
theorem dX7_init_8 : decode cX7_init 8 = .ok (.dup, 1) := by decide +kernel
theorem dX7_init_9 : decode cX7_init 9 = .ok (.invokespecial 9, 3) := by decide +kernel
theorem dX7_init_12 : decode cX7_init 12 = .ok (.putfield 10, 3) := by decide +kernel
theorem dX7_init_15 : decode cX7_init 15 = .ok (.aload_n 0, 1) := by decide +kernel
theorem dX7_init_16 : decode cX7_init 16 = .ok (.new 7, 3) := by decide +kernel
theorem dX7_init_19 : decode cX7_init 19 = .ok (.dup, 1) := by decide +kernel
theorem dX7_init_20 : decode cX7_init 20 = .ok (.invokespecial 9, 3) := by decide +kernel
theorem dX7_init_23 : decode cX7_init 23 = .ok (.putfield 16, 3) := by decide +kernel
theorem dX7_init_26 : decode cX7_init 26 = .ok (.aload_n 0, 1) := by decide +kernel
theorem dX7_init_27 : decode cX7_init 27 = .ok (.iconst 2, 1) := by decide +kernel
theorem dX7_init_28 : decode cX7_init 28 = .ok (.anewarray 7, 3) := by decide +kernel
theorem dX7_init_31 : decode cX7_init 31 = .ok (.putfield 19, 3) := by decide +kernel
theorem dX7_init_34 : decode cX7_init 34 = .ok (.aload_n 0, 1) := by decide +kernel
theorem dX7_init_35 : decode cX7_init 35 = .ok (.new 23, 3) := by decide +kernel
theorem dX7_init_38 : decode cX7_init 38 = .ok (.dup, 1) := by decide +kernel
theorem dX7_init_39 : decode cX7_init 39 = .ok (.invokespecial 25, 3) := by decide +kernel
theorem dX7_init_42 : decode cX7_init 42 = .ok (.putfield 26, 3) := by decide +kernel
theorem dX7_init_45 : decode cX7_init 45 = .ok (.aload_n 0, 1) := by decide +kernel
theorem dX7_init_46 : decode cX7_init 46 = .ok (.new 30, 3) := by decide +kernel
theorem dX7_init_49 : decode cX7_init 49 = .ok (.dup, 1) := by decide +kernel
theorem dX7_init_50 : decode cX7_init 50 = .ok (.invokespecial 32, 3) := by decide +kernel
theorem dX7_init_53 : decode cX7_init 53 = .ok (.putfield 33, 3) := by decide +kernel
theorem dX7_init_56 : decode cX7_init 56 = .ok (.aload_n 0, 1) := by decide +kernel
theorem dX7_init_57 : decode cX7_init 57 = .ok (.new 37, 3) := by decide +kernel
theorem dX7_init_60 : decode cX7_init 60 = .ok (.dup, 1) := by decide +kernel
theorem dX7_init_61 : decode cX7_init 61 = .ok (.invokespecial 39, 3) := by decide +kernel
theorem dX7_init_64 : decode cX7_init 64 = .ok (.putfield 40, 3) := by decide +kernel
theorem dX7_init_67 : decode cX7_init 67 = .ok (.aload_n 0, 1) := by decide +kernel
theorem dX7_init_68 : decode cX7_init 68 = .ok (.bipush 6, 2) := by decide +kernel
theorem dX7_init_70 : decode cX7_init 70 = .ok (.newarray .int, 2) := by decide +kernel
theorem dX7_init_72 : decode cX7_init 72 = .ok (.putfield 44, 3) := by decide +kernel
theorem dX7_init_75 : decode cX7_init 75 = .ok (.aload_n 0, 1) := by decide +kernel
theorem dX7_init_76 : decode cX7_init 76 = .ok (.iconst 0, 1) := by decide +kernel
theorem dX7_init_77 : decode cX7_init 77 = .ok (.putfield 48, 3) := by decide +kernel
theorem dX7_init_80 : decode cX7_init 80 = .ok (.aload_n 0, 1) := by decide +kernel
theorem dX7_init_81 : decode cX7_init 81 = .ok (.iconst 1, 1) := by decide +kernel
theorem dX7_init_82 : decode cX7_init 82 = .ok (.putfield 52, 3) := by decide +kernel
theorem dX7_init_85 : decode cX7_init 85 = .ok (.return_, 1) := by decide +kernel
theorem dX7_street_0 : decode cX7_street 0 = .ok (.iload_n 1, 1) := by decide +kernel
theorem dX7_street_1 : decode cX7_street 1 = .ok (.invokestatic 55, 3) := by decide +kernel
theorem dX7_street_4 : decode cX7_street 4 = .ok (.ifCond .ne 10, 3) := by decide +kernel
theorem dX7_street_7 : decode cX7_street 7 = .ok (.aload_n 0, 1) := by decide +kernel
theorem dX7_street_8 : decode cX7_street 8 = .ok (.bipush (-2), 2) := by decide +kernel
theorem dX7_street_10 : decode cX7_street 10 = .ok (.invokevirtual 59, 3) := by decide +kernel
theorem dX7_street_13 : decode cX7_street 13 = .ok (.ireturn, 1) := by decide +kernel
theorem dX7_street_14 : decode cX7_street 14 = .ok (.aload_n 0, 1) := by decide +kernel
theorem dX7_street_15 : decode cX7_street 15 = .ok (.getfield 10, 3) := by decide +kernel
theorem dX7_street_18 : decode cX7_street 18 = .ok (.getfield 63, 3) := by decide +kernel
theorem dX7_street_21 : decode cX7_street 21 = .ok (.istore_n 2, 1) := by decide +kernel
theorem dX7_street_22 : decode cX7_street 22 = .ok (.aload_n 0, 1) := by decide +kernel
theorem dX7_street_23 : decode cX7_street 23 = .ok (.getfield 10, 3) := by decide +kernel
theorem dX7_street_26 : decode cX7_street 26 = .ok (.iload_n 1, 1) := by decide +kernel
theorem dX7_street_27 : decode cX7_street 27 = .ok (.invokevirtual 66, 3) := by decide +kernel
theorem dX7_street_30 : decode cX7_street 30 = .ok (.iload_n 2, 1) := by decide +kernel
theorem dX7_street_31 : decode cX7_street 31 = .ok (.ireturn, 1) := by decide +kernel
theorem dX7_anvil_0 : decode cX7_anvil 0 = .ok (.iload_n 1, 1) := by decide +kernel
theorem dX7_anvil_1 : decode cX7_anvil 1 = .ok (.iconst 0, 1) := by decide +kernel
theorem dX7_anvil_2 : decode cX7_anvil 2 = .ok (.iconst 5, 1) := by decide +kernel
theorem dX7_anvil_3 : decode cX7_anvil 3 = .ok (.invokestatic 70, 3) := by decide +kernel
theorem dX7_anvil_6 : decode cX7_anvil 6 = .ok (.ifCond .eq 33, 3) := by decide +kernel
theorem dX7_anvil_9 : decode cX7_anvil 9 = .ok (.iload_n 2, 1) := by decide +kernel
theorem dX7_anvil_10 : decode cX7_anvil 10 = .ok (.invokestatic 74, 3) := by decide +kernel
theorem dX7_anvil_13 : decode cX7_anvil 13 = .ok (.ifCond .eq 26, 3) := by decide +kernel
theorem dX7_anvil_16 : decode cX7_anvil 16 = .ok (.iload_n 3, 1) := by decide +kernel
theorem dX7_anvil_17 : decode cX7_anvil 17 = .ok (.invokestatic 74, 3) := by decide +kernel
theorem dX7_anvil_20 : decode cX7_anvil 20 = .ok (.ifCond .eq 19, 3) := by decide +kernel
theorem dX7_anvil_23 : decode cX7_anvil 23 = .ok (.iload 4, 2) := by decide +kernel
theorem dX7_anvil_25 : decode cX7_anvil 25 = .ok (.invokestatic 74, 3) := by decide +kernel
theorem dX7_anvil_28 : decode cX7_anvil 28 = .ok (.ifCond .eq 11, 3) := by decide +kernel
theorem dX7_anvil_31 : decode cX7_anvil 31 = .ok (.iload 5, 2) := by decide +kernel
theorem dX7_anvil_33 : decode cX7_anvil 33 = .ok (.invokestatic 74, 3) := by decide +kernel
theorem dX7_anvil_36 : decode cX7_anvil 36 = .ok (.ifCond .ne 10, 3) := by decide +kernel
theorem dX7_anvil_39 : decode cX7_anvil 39 = .ok (.aload_n 0, 1) := by decide +kernel
theorem dX7_anvil_40 : decode cX7_anvil 40 = .ok (.bipush (-2), 2) := by decide +kernel
theorem dX7_anvil_42 : decode cX7_anvil 42 = .ok (.invokevirtual 59, 3) := by decide +kernel
theorem dX7_anvil_45 : decode cX7_anvil 45 = .ok (.ireturn, 1) := by decide +kernel
theorem dX7_anvil_46 : decode cX7_anvil 46 = .ok (.aload_n 0, 1) := by decide +kernel
theorem dX7_anvil_47 : decode cX7_anvil 47 = .ok (.getfield 10, 3) := by decide +kernel
theorem dX7_anvil_50 : decode cX7_anvil 50 = .ok (.getfield 63, 3) := by decide +kernel
theorem dX7_anvil_53 : decode cX7_anvil 53 = .ok (.iconst 4, 1) := by decide +kernel
theorem dX7_anvil_54 : decode cX7_anvil 54 = .ok (.if_icmp .lt 10, 3) := by decide +kernel
theorem dX7_anvil_57 : decode cX7_anvil 57 = .ok (.aload_n 0, 1) := by decide +kernel
theorem dX7_anvil_58 : decode cX7_anvil 58 = .ok (.bipush (-4), 2) := by decide +kernel
theorem dX7_anvil_60 : decode cX7_anvil 60 = .ok (.invokevirtual 59, 3) := by decide +kernel
theorem dX7_anvil_63 : decode cX7_anvil 63 = .ok (.ireturn, 1) := by decide +kernel
theorem dX7_anvil_64 : decode cX7_anvil 64 = .ok (.aload_n 0, 1) := by decide +kernel
theorem dX7_anvil_65 : decode cX7_anvil 65 = .ok (.getfield 10, 3) := by decide +kernel
theorem dX7_anvil_68 : decode cX7_anvil 68 = .ok (.iload_n 1, 1) := by decide +kernel
theorem dX7_anvil_69 : decode cX7_anvil 69 = .ok (.iload_n 2, 1) := by decide +kernel
theorem dX7_anvil_70 : decode cX7_anvil 70 = .ok (.iload_n 3, 1) := by decide +kernel
theorem dX7_anvil_71 : decode cX7_anvil 71 = .ok (.iload 4, 2) := by decide +kernel
theorem dX7_anvil_73 : decode cX7_anvil 73 = .ok (.iload 5, 2) := by decide +kernel
theorem dX7_anvil_75 : decode cX7_anvil 75 = .ok (.invokevirtual 77, 3) := by decide +kernel
theorem dX7_anvil_78 : decode cX7_anvil 78 = .ok (.ireturn, 1) := by decide +kernel
theorem dX7_type_0 : decode cX7_type 0 = .ok (.iload_n 1, 1) := by decide +kernel
theorem dX7_type_1 : decode cX7_type 1 = .ok (.iconst 0, 1) := by decide +kernel
theorem dX7_type_2 : decode cX7_type 2 = .ok (.bipush 127, 2) := by decide +kernel
theorem dX7_type_4 : decode cX7_type 4 = .ok (.invokestatic 70, 3) := by decide +kernel
theorem dX7_type_7 : decode cX7_type 7 = .ok (.ifCond .ne 10, 3) := by decide +kernel
theorem dX7_type_10 : decode cX7_type 10 = .ok (.aload_n 0, 1) := by decide +kernel
theorem dX7_type_11 : decode cX7_type 11 = .ok (.bipush (-2), 2) := by decide +kernel
theorem dX7_type_13 : decode cX7_type 13 = .ok (.invokevirtual 59, 3) := by decide +kernel
theorem dX7_type_16 : decode cX7_type 16 = .ok (.ireturn, 1) := by decide +kernel
theorem dX7_type_17 : decode cX7_type 17 = .ok (.aload_n 0, 1) := by decide +kernel
theorem dX7_type_18 : decode cX7_type 18 = .ok (.getfield 26, 3) := by decide +kernel
theorem dX7_type_21 : decode cX7_type 21 = .ok (.iload_n 1, 1) := by decide +kernel
theorem dX7_type_22 : decode cX7_type 22 = .ok (.invokevirtual 81, 3) := by decide +kernel
theorem dX7_type_25 : decode cX7_type 25 = .ok (.ifCond .eq 13, 3) := by decide +kernel
theorem dX7_type_28 : decode cX7_type 28 = .ok (.aload_n 0, 1) := by decide +kernel
theorem dX7_type_29 : decode cX7_type 29 = .ok (.getfield 26, 3) := by decide +kernel
theorem dX7_type_32 : decode cX7_type 32 = .ok (.getfield 84, 3) := by decide +kernel
theorem dX7_type_35 : decode cX7_type 35 = .ok (.goto 9, 3) := by decide +kernel
theorem dX7_type_38 : decode cX7_type 38 = .ok (.aload_n 0, 1) := by decide +kernel
theorem dX7_type_39 : decode cX7_type 39 = .ok (.bipush (-4), 2) := by decide +kernel
theorem dX7_type_41 : decode cX7_type 41 = .ok (.invokevirtual 59, 3) := by decide +kernel
theorem dX7_type_44 : decode cX7_type 44 = .ok (.ireturn, 1) := by decide +kernel
theorem dX7_clear_0 : decode cX7_clear 0 = .ok (.aload_n 0, 1) := by decide +kernel
theorem dX7_clear_1 : decode cX7_clear 1 = .ok (.getfield 26, 3) := by decide +kernel
theorem dX7_clear_4 : decode cX7_clear 4 = .ok (.getfield 84, 3) := by decide +kernel
theorem dX7_clear_7 : decode cX7_clear 7 = .ok (.istore_n 1, 1) := by decide +kernel
theorem dX7_clear_8 : decode cX7_clear 8 = .ok (.aload_n 0, 1) := by decide +kernel
theorem dX7_clear_9 : decode cX7_clear 9 = .ok (.getfield 26, 3) := by decide +kernel
theorem dX7_clear_12 : decode cX7_clear 12 = .ok (.iconst 0, 1) := by decide +kernel
theorem dX7_clear_13 : decode cX7_clear 13 = .ok (.putfield 84, 3) := by decide +kernel
theorem dX7_clear_16 : decode cX7_clear 16 = .ok (.iload_n 1, 1) := by decide +kernel
theorem dX7_clear_17 : decode cX7_clear 17 = .ok (.ireturn, 1) := by decide +kernel
theorem dX7_read_0 : decode cX7_read 0 = .ok (.aload_n 0, 1) := by decide +kernel
theorem dX7_read_1 : decode cX7_read 1 = .ok (.getfield 26, 3) := by decide +kernel
theorem dX7_read_4 : decode cX7_read 4 = .ok (.invokevirtual 87, 3) := by decide +kernel
theorem dX7_read_7 : decode cX7_read 7 = .ok (.aload_n 0, 1) := by decide +kernel
theorem dX7_read_8 : decode cX7_read 8 = .ok (.getfield 26, 3) := by decide +kernel
theorem dX7_read_11 : decode cX7_read 11 = .ok (.aload_n 0, 1) := by decide +kernel
theorem dX7_read_12 : decode cX7_read 12 = .ok (.getfield 16, 3) := by decide +kernel
theorem dX7_read_15 : decode cX7_read 15 = .ok (.invokevirtual 90, 3) := by decide +kernel
theorem dX7_read_18 : decode cX7_read 18 = .ok (.istore_n 1, 1) := by decide +kernel
theorem dX7_read_19 : decode cX7_read 19 = .ok (.iload_n 1, 1) := by decide +kernel
theorem dX7_read_20 : decode cX7_read 20 = .ok (.ifCond .lt 14, 3) := by decide +kernel
theorem dX7_read_23 : decode cX7_read 23 = .ok (.aload_n 0, 1) := by decide +kernel
theorem dX7_read_24 : decode cX7_read 24 = .ok (.getfield 10, 3) := by decide +kernel
theorem dX7_read_27 : decode cX7_read 27 = .ok (.aload_n 0, 1) := by decide +kernel
theorem dX7_read_28 : decode cX7_read 28 = .ok (.getfield 16, 3) := by decide +kernel
theorem dX7_read_31 : decode cX7_read 31 = .ok (.invokevirtual 94, 3) := by decide +kernel
theorem dX7_read_34 : decode cX7_read 34 = .ok (.iload_n 1, 1) := by decide +kernel
theorem dX7_read_35 : decode cX7_read 35 = .ok (.ireturn, 1) := by decide +kernel
theorem dX7_work_0 : decode cX7_work 0 = .ok (.aload_n 0, 1) := by decide +kernel
theorem dX7_work_1 : decode cX7_work 1 = .ok (.iload_n 1, 1) := by decide +kernel
theorem dX7_work_2 : decode cX7_work 2 = .ok (.iload_n 2, 1) := by decide +kernel
theorem dX7_work_3 : decode cX7_work 3 = .ok (.invokevirtual 98, 3) := by decide +kernel
theorem dX7_work_6 : decode cX7_work 6 = .ok (.ifCond .eq 10, 3) := by decide +kernel
theorem dX7_work_9 : decode cX7_work 9 = .ok (.iload_n 3, 1) := by decide +kernel
theorem dX7_work_10 : decode cX7_work 10 = .ok (.invokestatic 102, 3) := by decide +kernel
theorem dX7_work_13 : decode cX7_work 13 = .ok (.ifCond .ne 10, 3) := by decide +kernel
theorem dX7_work_16 : decode cX7_work 16 = .ok (.aload_n 0, 1) := by decide +kernel
theorem dX7_work_17 : decode cX7_work 17 = .ok (.bipush (-2), 2) := by decide +kernel
theorem dX7_work_19 : decode cX7_work 19 = .ok (.invokevirtual 59, 3) := by decide +kernel
theorem dX7_work_22 : decode cX7_work 22 = .ok (.ireturn, 1) := by decide +kernel
theorem dX7_work_23 : decode cX7_work 23 = .ok (.aload_n 0, 1) := by decide +kernel
theorem dX7_work_24 : decode cX7_work 24 = .ok (.getfield 10, 3) := by decide +kernel
theorem dX7_work_27 : decode cX7_work 27 = .ok (.invokevirtual 105, 3) := by decide +kernel
theorem dX7_work_30 : decode cX7_work 30 = .ok (.aload_n 0, 1) := by decide +kernel
theorem dX7_work_31 : decode cX7_work 31 = .ok (.getfield 10, 3) := by decide +kernel
theorem dX7_work_34 : decode cX7_work 34 = .ok (.iload_n 1, 1) := by decide +kernel
theorem dX7_work_35 : decode cX7_work 35 = .ok (.iload_n 2, 1) := by decide +kernel
theorem dX7_work_36 : decode cX7_work 36 = .ok (.iload_n 3, 1) := by decide +kernel
theorem dX7_work_37 : decode cX7_work 37 = .ok (.invokevirtual 108, 3) := by decide +kernel
theorem dX7_work_40 : decode cX7_work 40 = .ok (.ireturn, 1) := by decide +kernel
theorem dX7_day_0 : decode cX7_day 0 = .ok (.iload_n 1, 1) := by decide +kernel
theorem dX7_day_1 : decode cX7_day 1 = .ok (.iconst 1, 1) := by decide +kernel
theorem dX7_day_2 : decode cX7_day 2 = .ok (.bipush 60, 2) := by decide +kernel
theorem dX7_day_4 : decode cX7_day 4 = .ok (.invokestatic 70, 3) := by decide +kernel
theorem dX7_day_7 : decode cX7_day 7 = .ok (.ifCond .ne 10, 3) := by decide +kernel
theorem dX7_day_10 : decode cX7_day 10 = .ok (.aload_n 0, 1) := by decide +kernel
theorem dX7_day_11 : decode cX7_day 11 = .ok (.bipush (-2), 2) := by decide +kernel
theorem dX7_day_13 : decode cX7_day 13 = .ok (.invokevirtual 59, 3) := by decide +kernel
theorem dX7_day_16 : decode cX7_day 16 = .ok (.ireturn, 1) := by decide +kernel
theorem dX7_day_17 : decode cX7_day 17 = .ok (.aload_n 0, 1) := by decide +kernel
theorem dX7_day_18 : decode cX7_day 18 = .ok (.getfield 10, 3) := by decide +kernel
theorem dX7_day_21 : decode cX7_day 21 = .ok (.invokevirtual 105, 3) := by decide +kernel
theorem dX7_day_24 : decode cX7_day 24 = .ok (.iconst 0, 1) := by decide +kernel
theorem dX7_day_25 : decode cX7_day 25 = .ok (.istore_n 2, 1) := by decide +kernel
theorem dX7_day_26 : decode cX7_day 26 = .ok (.iload_n 2, 1) := by decide +kernel
theorem dX7_day_27 : decode cX7_day 27 = .ok (.iload_n 1, 1) := by decide +kernel
theorem dX7_day_28 : decode cX7_day 28 = .ok (.if_icmp .ge 16, 3) := by decide +kernel
theorem dX7_day_31 : decode cX7_day 31 = .ok (.aload_n 0, 1) := by decide +kernel
theorem dX7_day_32 : decode cX7_day 32 = .ok (.getfield 10, 3) := by decide +kernel
theorem dX7_day_35 : decode cX7_day 35 = .ok (.invokevirtual 112, 3) := by decide +kernel
theorem dX7_day_38 : decode cX7_day 38 = .ok (.iinc 2 1, 3) := by decide +kernel
theorem dX7_day_41 : decode cX7_day 41 = .ok (.goto (-15), 3) := by decide +kernel
theorem dX7_day_44 : decode cX7_day 44 = .ok (.aload_n 0, 1) := by decide +kernel
theorem dX7_day_45 : decode cX7_day 45 = .ok (.getfield 10, 3) := by decide +kernel
theorem dX7_day_48 : decode cX7_day 48 = .ok (.getfield 115, 3) := by decide +kernel
theorem dX7_day_51 : decode cX7_day 51 = .ok (.ireturn, 1) := by decide +kernel
theorem dX7_salt_0 : decode cX7_salt 0 = .ok (.aload_n 0, 1) := by decide +kernel
theorem dX7_salt_1 : decode cX7_salt 1 = .ok (.iload_n 1, 1) := by decide +kernel
theorem dX7_salt_2 : decode cX7_salt 2 = .ok (.iload_n 2, 1) := by decide +kernel
theorem dX7_salt_3 : decode cX7_salt 3 = .ok (.invokevirtual 98, 3) := by decide +kernel
theorem dX7_salt_6 : decode cX7_salt 6 = .ok (.ifCond .ne 10, 3) := by decide +kernel
theorem dX7_salt_9 : decode cX7_salt 9 = .ok (.aload_n 0, 1) := by decide +kernel
theorem dX7_salt_10 : decode cX7_salt 10 = .ok (.bipush (-2), 2) := by decide +kernel
theorem dX7_salt_12 : decode cX7_salt 12 = .ok (.invokevirtual 59, 3) := by decide +kernel
theorem dX7_salt_15 : decode cX7_salt 15 = .ok (.ireturn, 1) := by decide +kernel
theorem dX7_salt_16 : decode cX7_salt 16 = .ok (.aload_n 0, 1) := by decide +kernel
theorem dX7_salt_17 : decode cX7_salt 17 = .ok (.getfield 10, 3) := by decide +kernel
theorem dX7_salt_20 : decode cX7_salt 20 = .ok (.invokevirtual 105, 3) := by decide +kernel
theorem dX7_salt_23 : decode cX7_salt 23 = .ok (.aload_n 0, 1) := by decide +kernel
theorem dX7_salt_24 : decode cX7_salt 24 = .ok (.getfield 10, 3) := by decide +kernel
theorem dX7_salt_27 : decode cX7_salt 27 = .ok (.iload_n 1, 1) := by decide +kernel
theorem dX7_salt_28 : decode cX7_salt 28 = .ok (.iload_n 2, 1) := by decide +kernel
theorem dX7_salt_29 : decode cX7_salt 29 = .ok (.invokevirtual 118, 3) := by decide +kernel
theorem dX7_salt_32 : decode cX7_salt 32 = .ok (.istore_n 3, 1) := by decide +kernel
theorem dX7_salt_33 : decode cX7_salt 33 = .ok (.aload_n 0, 1) := by decide +kernel
theorem dX7_salt_34 : decode cX7_salt 34 = .ok (.getfield 10, 3) := by decide +kernel
theorem dX7_salt_37 : decode cX7_salt 37 = .ok (.iload_n 1, 1) := by decide +kernel
theorem dX7_salt_38 : decode cX7_salt 38 = .ok (.iload_n 2, 1) := by decide +kernel
theorem dX7_salt_39 : decode cX7_salt 39 = .ok (.iconst 0, 1) := by decide +kernel
theorem dX7_salt_40 : decode cX7_salt 40 = .ok (.invokevirtual 122, 3) := by decide +kernel
theorem dX7_salt_43 : decode cX7_salt 43 = .ok (.iload_n 3, 1) := by decide +kernel
theorem dX7_salt_44 : decode cX7_salt 44 = .ok (.ireturn, 1) := by decide +kernel
theorem dX7_hand_0 : decode cX7_hand 0 = .ok (.iload_n 1, 1) := by decide +kernel
theorem dX7_hand_1 : decode cX7_hand 1 = .ok (.invokestatic 55, 3) := by decide +kernel
theorem dX7_hand_4 : decode cX7_hand 4 = .ok (.ifCond .ne 10, 3) := by decide +kernel
theorem dX7_hand_7 : decode cX7_hand 7 = .ok (.aload_n 0, 1) := by decide +kernel
theorem dX7_hand_8 : decode cX7_hand 8 = .ok (.bipush (-2), 2) := by decide +kernel
theorem dX7_hand_10 : decode cX7_hand 10 = .ok (.invokevirtual 59, 3) := by decide +kernel
theorem dX7_hand_13 : decode cX7_hand 13 = .ok (.ireturn, 1) := by decide +kernel
theorem dX7_hand_14 : decode cX7_hand 14 = .ok (.aload_n 0, 1) := by decide +kernel
theorem dX7_hand_15 : decode cX7_hand 15 = .ok (.getfield 10, 3) := by decide +kernel
theorem dX7_hand_18 : decode cX7_hand 18 = .ok (.invokevirtual 105, 3) := by decide +kernel
theorem dX7_hand_21 : decode cX7_hand 21 = .ok (.aload_n 0, 1) := by decide +kernel
theorem dX7_hand_22 : decode cX7_hand 22 = .ok (.getfield 10, 3) := by decide +kernel
theorem dX7_hand_25 : decode cX7_hand 25 = .ok (.getfield 126, 3) := by decide +kernel
theorem dX7_hand_28 : decode cX7_hand 28 = .ok (.istore_n 2, 1) := by decide +kernel
theorem dX7_hand_29 : decode cX7_hand 29 = .ok (.aload_n 0, 1) := by decide +kernel
theorem dX7_hand_30 : decode cX7_hand 30 = .ok (.getfield 10, 3) := by decide +kernel
theorem dX7_hand_33 : decode cX7_hand 33 = .ok (.iload_n 1, 1) := by decide +kernel
theorem dX7_hand_34 : decode cX7_hand 34 = .ok (.putfield 126, 3) := by decide +kernel
theorem dX7_hand_37 : decode cX7_hand 37 = .ok (.iload_n 2, 1) := by decide +kernel
theorem dX7_hand_38 : decode cX7_hand 38 = .ok (.ireturn, 1) := by decide +kernel
theorem dX7_undo_0 : decode cX7_undo 0 = .ok (.aload_n 0, 1) := by decide +kernel
theorem dX7_undo_1 : decode cX7_undo 1 = .ok (.getfield 10, 3) := by decide +kernel
theorem dX7_undo_4 : decode cX7_undo 4 = .ok (.invokevirtual 129, 3) := by decide +kernel
theorem dX7_undo_7 : decode cX7_undo 7 = .ok (.ifCond .eq 13, 3) := by decide +kernel
theorem dX7_undo_10 : decode cX7_undo 10 = .ok (.aload_n 0, 1) := by decide +kernel
theorem dX7_undo_11 : decode cX7_undo 11 = .ok (.getfield 10, 3) := by decide +kernel
theorem dX7_undo_14 : decode cX7_undo 14 = .ok (.getfield 115, 3) := by decide +kernel
theorem dX7_undo_17 : decode cX7_undo 17 = .ok (.goto 9, 3) := by decide +kernel
theorem dX7_undo_20 : decode cX7_undo 20 = .ok (.aload_n 0, 1) := by decide +kernel
theorem dX7_undo_21 : decode cX7_undo 21 = .ok (.bipush (-3), 2) := by decide +kernel
theorem dX7_undo_23 : decode cX7_undo 23 = .ok (.invokevirtual 59, 3) := by decide +kernel
theorem dX7_undo_26 : decode cX7_undo 26 = .ok (.ireturn, 1) := by decide +kernel
theorem dX7_of_0 : decode cX7_of 0 = .ok (.aload_n 0, 1) := by decide +kernel
theorem dX7_of_1 : decode cX7_of 1 = .ok (.getfield 10, 3) := by decide +kernel
theorem dX7_of_4 : decode cX7_of 4 = .ok (.iload_n 1, 1) := by decide +kernel
theorem dX7_of_5 : decode cX7_of 5 = .ok (.invokevirtual 133, 3) := by decide +kernel
theorem dX7_of_8 : decode cX7_of 8 = .ok (.ifCond .eq 12, 3) := by decide +kernel
theorem dX7_of_11 : decode cX7_of 11 = .ok (.iload_n 2, 1) := by decide +kernel
theorem dX7_of_12 : decode cX7_of 12 = .ok (.iconst 0, 1) := by decide +kernel
theorem dX7_of_13 : decode cX7_of 13 = .ok (.iconst 4, 1) := by decide +kernel
theorem dX7_of_14 : decode cX7_of 14 = .ok (.invokestatic 70, 3) := by decide +kernel
theorem dX7_of_17 : decode cX7_of 17 = .ok (.ifCond .ne 10, 3) := by decide +kernel
theorem dX7_of_20 : decode cX7_of 20 = .ok (.aload_n 0, 1) := by decide +kernel
theorem dX7_of_21 : decode cX7_of 21 = .ok (.bipush (-2), 2) := by decide +kernel
theorem dX7_of_23 : decode cX7_of 23 = .ok (.invokevirtual 59, 3) := by decide +kernel
theorem dX7_of_26 : decode cX7_of 26 = .ok (.ireturn, 1) := by decide +kernel
theorem dX7_of_27 : decode cX7_of 27 = .ok (.iload_n 2, 1) := by decide +kernel
theorem dX7_of_28 : decode cX7_of 28 = .ok (.ifCond .ne 15, 3) := by decide +kernel
theorem dX7_of_31 : decode cX7_of 31 = .ok (.aload_n 0, 1) := by decide +kernel
theorem dX7_of_32 : decode cX7_of 32 = .ok (.getfield 10, 3) := by decide +kernel
theorem dX7_of_35 : decode cX7_of 35 = .ok (.getfield 136, 3) := by decide +kernel
theorem dX7_of_38 : decode cX7_of 38 = .ok (.iload_n 1, 1) := by decide +kernel
theorem dX7_of_39 : decode cX7_of 39 = .ok (.iaload, 1) := by decide +kernel
theorem dX7_of_40 : decode cX7_of 40 = .ok (.goto 14, 3) := by decide +kernel
theorem dX7_of_43 : decode cX7_of 43 = .ok (.aload_n 0, 1) := by decide +kernel
theorem dX7_of_44 : decode cX7_of 44 = .ok (.getfield 10, 3) := by decide +kernel
theorem dX7_of_47 : decode cX7_of 47 = .ok (.iload_n 1, 1) := by decide +kernel
theorem dX7_of_48 : decode cX7_of 48 = .ok (.iload_n 2, 1) := by decide +kernel
theorem dX7_of_49 : decode cX7_of 49 = .ok (.iconst 1, 1) := by decide +kernel
theorem dX7_of_50 : decode cX7_of 50 = .ok (.isub, 1) := by decide +kernel
theorem dX7_of_51 : decode cX7_of 51 = .ok (.invokevirtual 118, 3) := by decide +kernel
theorem dX7_of_54 : decode cX7_of 54 = .ok (.ireturn, 1) := by decide +kernel
theorem dX7_up_0 : decode cX7_up 0 = .ok (.aload_n 0, 1) := by decide +kernel
theorem dX7_up_1 : decode cX7_up 1 = .ok (.iload_n 1, 1) := by decide +kernel
theorem dX7_up_2 : decode cX7_up 2 = .ok (.iload_n 2, 1) := by decide +kernel
theorem dX7_up_3 : decode cX7_up 3 = .ok (.invokevirtual 98, 3) := by decide +kernel
theorem dX7_up_6 : decode cX7_up 6 = .ok (.ifCond .eq 15, 3) := by decide +kernel
theorem dX7_up_9 : decode cX7_up 9 = .ok (.aload_n 0, 1) := by decide +kernel
theorem dX7_up_10 : decode cX7_up 10 = .ok (.getfield 10, 3) := by decide +kernel
theorem dX7_up_13 : decode cX7_up 13 = .ok (.iload_n 1, 1) := by decide +kernel
theorem dX7_up_14 : decode cX7_up 14 = .ok (.iload_n 2, 1) := by decide +kernel
theorem dX7_up_15 : decode cX7_up 15 = .ok (.invokevirtual 139, 3) := by decide +kernel
theorem dX7_up_18 : decode cX7_up 18 = .ok (.goto 9, 3) := by decide +kernel
theorem dX7_up_21 : decode cX7_up 21 = .ok (.aload_n 0, 1) := by decide +kernel
theorem dX7_up_22 : decode cX7_up 22 = .ok (.bipush (-2), 2) := by decide +kernel
theorem dX7_up_24 : decode cX7_up 24 = .ok (.invokevirtual 59, 3) := by decide +kernel
theorem dX7_up_27 : decode cX7_up 27 = .ok (.ireturn, 1) := by decide +kernel
theorem dX7_foreign_0 : decode cX7_foreign 0 = .ok (.aload_n 0, 1) := by decide +kernel
theorem dX7_foreign_1 : decode cX7_foreign 1 = .ok (.iload_n 1, 1) := by decide +kernel
theorem dX7_foreign_2 : decode cX7_foreign 2 = .ok (.iload_n 2, 1) := by decide +kernel
theorem dX7_foreign_3 : decode cX7_foreign 3 = .ok (.invokevirtual 98, 3) := by decide +kernel
theorem dX7_foreign_6 : decode cX7_foreign 6 = .ok (.ifCond .eq 15, 3) := by decide +kernel
theorem dX7_foreign_9 : decode cX7_foreign 9 = .ok (.aload_n 0, 1) := by decide +kernel
theorem dX7_foreign_10 : decode cX7_foreign 10 = .ok (.getfield 10, 3) := by decide +kernel
theorem dX7_foreign_13 : decode cX7_foreign 13 = .ok (.iload_n 1, 1) := by decide +kernel
theorem dX7_foreign_14 : decode cX7_foreign 14 = .ok (.iload_n 2, 1) := by decide +kernel
theorem dX7_foreign_15 : decode cX7_foreign 15 = .ok (.invokevirtual 142, 3) := by decide +kernel
theorem dX7_foreign_18 : decode cX7_foreign 18 = .ok (.goto 9, 3) := by decide +kernel
theorem dX7_foreign_21 : decode cX7_foreign 21 = .ok (.aload_n 0, 1) := by decide +kernel
theorem dX7_foreign_22 : decode cX7_foreign 22 = .ok (.bipush (-2), 2) := by decide +kernel
theorem dX7_foreign_24 : decode cX7_foreign 24 = .ok (.invokevirtual 59, 3) := by decide +kernel
theorem dX7_foreign_27 : decode cX7_foreign 27 = .ok (.ireturn, 1) := by decide +kernel
theorem dX7_then_0 : decode cX7_then 0 = .ok (.aload_n 0, 1) := by decide +kernel
theorem dX7_then_1 : decode cX7_then 1 = .ok (.iload_n 1, 1) := by decide +kernel
theorem dX7_then_2 : decode cX7_then 2 = .ok (.iload_n 2, 1) := by decide +kernel
theorem dX7_then_3 : decode cX7_then 3 = .ok (.invokevirtual 98, 3) := by decide +kernel
theorem dX7_then_6 : decode cX7_then 6 = .ok (.ifCond .eq 13, 3) := by decide +kernel
theorem dX7_then_9 : decode cX7_then 9 = .ok (.iload_n 3, 1) := by decide +kernel
theorem dX7_then_10 : decode cX7_then 10 = .ok (.iconst 0, 1) := by decide +kernel
theorem dX7_then_11 : decode cX7_then 11 = .ok (.bipush 90, 2) := by decide +kernel
theorem dX7_then_13 : decode cX7_then 13 = .ok (.invokestatic 70, 3) := by decide +kernel
theorem dX7_then_16 : decode cX7_then 16 = .ok (.ifCond .ne 10, 3) := by decide +kernel
theorem dX7_then_19 : decode cX7_then 19 = .ok (.aload_n 0, 1) := by decide +kernel
theorem dX7_then_20 : decode cX7_then 20 = .ok (.bipush (-2), 2) := by decide +kernel
theorem dX7_then_22 : decode cX7_then 22 = .ok (.invokevirtual 59, 3) := by decide +kernel
theorem dX7_then_25 : decode cX7_then 25 = .ok (.ireturn, 1) := by decide +kernel
theorem dX7_then_26 : decode cX7_then 26 = .ok (.aload_n 0, 1) := by decide +kernel
theorem dX7_then_27 : decode cX7_then 27 = .ok (.getfield 10, 3) := by decide +kernel
theorem dX7_then_30 : decode cX7_then 30 = .ok (.iload_n 1, 1) := by decide +kernel
theorem dX7_then_31 : decode cX7_then 31 = .ok (.iload_n 2, 1) := by decide +kernel
theorem dX7_then_32 : decode cX7_then 32 = .ok (.invokevirtual 118, 3) := by decide +kernel
theorem dX7_then_35 : decode cX7_then 35 = .ok (.istore 4, 2) := by decide +kernel
theorem dX7_then_37 : decode cX7_then 37 = .ok (.iconst 0, 1) := by decide +kernel
theorem dX7_then_38 : decode cX7_then 38 = .ok (.istore 5, 2) := by decide +kernel
theorem dX7_then_40 : decode cX7_then 40 = .ok (.iload 5, 2) := by decide +kernel
theorem dX7_then_42 : decode cX7_then 42 = .ok (.iload_n 3, 1) := by decide +kernel
theorem dX7_then_43 : decode cX7_then 43 = .ok (.if_icmp .ge 35, 3) := by decide +kernel
theorem dX7_then_46 : decode cX7_then 46 = .ok (.aload_n 0, 1) := by decide +kernel
theorem dX7_then_47 : decode cX7_then 47 = .ok (.getfield 10, 3) := by decide +kernel
theorem dX7_then_50 : decode cX7_then 50 = .ok (.getfield 136, 3) := by decide +kernel
theorem dX7_then_53 : decode cX7_then 53 = .ok (.iload_n 1, 1) := by decide +kernel
theorem dX7_then_54 : decode cX7_then 54 = .ok (.iaload, 1) := by decide +kernel
theorem dX7_then_55 : decode cX7_then 55 = .ok (.iload 4, 2) := by decide +kernel
theorem dX7_then_57 : decode cX7_then 57 = .ok (.aload_n 0, 1) := by decide +kernel
theorem dX7_then_58 : decode cX7_then 58 = .ok (.getfield 10, 3) := by decide +kernel
theorem dX7_then_61 : decode cX7_then 61 = .ok (.getfield 115, 3) := by decide +kernel
theorem dX7_then_64 : decode cX7_then 64 = .ok (.iload 5, 2) := by decide +kernel
theorem dX7_then_66 : decode cX7_then 66 = .ok (.iadd, 1) := by decide +kernel
theorem dX7_then_67 : decode cX7_then 67 = .ok (.invokestatic 145, 3) := by decide +kernel
theorem dX7_then_70 : decode cX7_then 70 = .ok (.istore 4, 2) := by decide +kernel
theorem dX7_then_72 : decode cX7_then 72 = .ok (.iinc 5 1, 3) := by decide +kernel
theorem dX7_then_75 : decode cX7_then 75 = .ok (.goto (-35), 3) := by decide +kernel
theorem dX7_then_78 : decode cX7_then 78 = .ok (.iload 4, 2) := by decide +kernel
theorem dX7_then_80 : decode cX7_then 80 = .ok (.ireturn, 1) := by decide +kernel
theorem dX7_clean_0 : decode cX7_clean 0 = .ok (.aload_n 0, 1) := by decide +kernel
theorem dX7_clean_1 : decode cX7_clean 1 = .ok (.getfield 10, 3) := by decide +kernel
theorem dX7_clean_4 : decode cX7_clean 4 = .ok (.iload_n 1, 1) := by decide +kernel
theorem dX7_clean_5 : decode cX7_clean 5 = .ok (.invokevirtual 133, 3) := by decide +kernel
theorem dX7_clean_8 : decode cX7_clean 8 = .ok (.ifCond .ne 10, 3) := by decide +kernel
theorem dX7_clean_11 : decode cX7_clean 11 = .ok (.aload_n 0, 1) := by decide +kernel
theorem dX7_clean_12 : decode cX7_clean 12 = .ok (.bipush (-2), 2) := by decide +kernel
theorem dX7_clean_14 : decode cX7_clean 14 = .ok (.invokevirtual 59, 3) := by decide +kernel
theorem dX7_clean_17 : decode cX7_clean 17 = .ok (.ireturn, 1) := by decide +kernel
theorem dX7_clean_18 : decode cX7_clean 18 = .ok (.aload_n 0, 1) := by decide +kernel
theorem dX7_clean_19 : decode cX7_clean 19 = .ok (.getfield 16, 3) := by decide +kernel
theorem dX7_clean_22 : decode cX7_clean 22 = .ok (.aload_n 0, 1) := by decide +kernel
theorem dX7_clean_23 : decode cX7_clean 23 = .ok (.getfield 10, 3) := by decide +kernel
theorem dX7_clean_26 : decode cX7_clean 26 = .ok (.invokevirtual 150, 3) := by decide +kernel
theorem dX7_clean_29 : decode cX7_clean 29 = .ok (.iconst 0, 1) := by decide +kernel
theorem dX7_clean_30 : decode cX7_clean 30 = .ok (.istore_n 2, 1) := by decide +kernel
theorem dX7_clean_31 : decode cX7_clean 31 = .ok (.iload_n 2, 1) := by decide +kernel
theorem dX7_clean_32 : decode cX7_clean 32 = .ok (.bipush 90, 2) := by decide +kernel
theorem dX7_clean_34 : decode cX7_clean 34 = .ok (.if_icmp .gt 39, 3) := by decide +kernel
theorem dX7_clean_37 : decode cX7_clean 37 = .ok (.aload_n 0, 1) := by decide +kernel
theorem dX7_clean_38 : decode cX7_clean 38 = .ok (.getfield 16, 3) := by decide +kernel
theorem dX7_clean_41 : decode cX7_clean 41 = .ok (.iload_n 1, 1) := by decide +kernel
theorem dX7_clean_42 : decode cX7_clean 42 = .ok (.invokevirtual 153, 3) := by decide +kernel
theorem dX7_clean_45 : decode cX7_clean 45 = .ok (.ifCond .eq 5, 3) := by decide +kernel
theorem dX7_clean_48 : decode cX7_clean 48 = .ok (.iload_n 2, 1) := by decide +kernel
theorem dX7_clean_49 : decode cX7_clean 49 = .ok (.ireturn, 1) := by decide +kernel
theorem dX7_clean_50 : decode cX7_clean 50 = .ok (.aload_n 0, 1) := by decide +kernel
theorem dX7_clean_51 : decode cX7_clean 51 = .ok (.getfield 16, 3) := by decide +kernel
theorem dX7_clean_54 : decode cX7_clean 54 = .ok (.iload_n 1, 1) := by decide +kernel
theorem dX7_clean_55 : decode cX7_clean 55 = .ok (.aload_n 0, 1) := by decide +kernel
theorem dX7_clean_56 : decode cX7_clean 56 = .ok (.getfield 10, 3) := by decide +kernel
theorem dX7_clean_59 : decode cX7_clean 59 = .ok (.getfield 115, 3) := by decide +kernel
theorem dX7_clean_62 : decode cX7_clean 62 = .ok (.iload_n 2, 1) := by decide +kernel
theorem dX7_clean_63 : decode cX7_clean 63 = .ok (.iadd, 1) := by decide +kernel
theorem dX7_clean_64 : decode cX7_clean 64 = .ok (.invokevirtual 156, 3) := by decide +kernel
theorem dX7_clean_67 : decode cX7_clean 67 = .ok (.iinc 2 1, 3) := by decide +kernel
theorem dX7_clean_70 : decode cX7_clean 70 = .ok (.goto (-39), 3) := by decide +kernel
theorem dX7_clean_73 : decode cX7_clean 73 = .ok (.iconst (-1), 1) := by decide +kernel
theorem dX7_clean_74 : decode cX7_clean 74 = .ok (.ireturn, 1) := by decide +kernel
theorem dX7_keep_0 : decode cX7_keep 0 = .ok (.aload_n 0, 1) := by decide +kernel
theorem dX7_keep_1 : decode cX7_keep 1 = .ok (.getfield 10, 3) := by decide +kernel
theorem dX7_keep_4 : decode cX7_keep 4 = .ok (.iload_n 1, 1) := by decide +kernel
theorem dX7_keep_5 : decode cX7_keep 5 = .ok (.invokevirtual 133, 3) := by decide +kernel
theorem dX7_keep_8 : decode cX7_keep 8 = .ok (.ifCond .ne 10, 3) := by decide +kernel
theorem dX7_keep_11 : decode cX7_keep 11 = .ok (.aload_n 0, 1) := by decide +kernel
theorem dX7_keep_12 : decode cX7_keep 12 = .ok (.bipush (-2), 2) := by decide +kernel
theorem dX7_keep_14 : decode cX7_keep 14 = .ok (.invokevirtual 59, 3) := by decide +kernel
theorem dX7_keep_17 : decode cX7_keep 17 = .ok (.ireturn, 1) := by decide +kernel
theorem dX7_keep_18 : decode cX7_keep 18 = .ok (.iconst 0, 1) := by decide +kernel
theorem dX7_keep_19 : decode cX7_keep 19 = .ok (.istore_n 2, 1) := by decide +kernel
theorem dX7_keep_20 : decode cX7_keep 20 = .ok (.iload_n 2, 1) := by decide +kernel
theorem dX7_keep_21 : decode cX7_keep 21 = .ok (.bipush 9, 2) := by decide +kernel
theorem dX7_keep_23 : decode cX7_keep 23 = .ok (.if_icmp .gt 23, 3) := by decide +kernel
theorem dX7_keep_26 : decode cX7_keep 26 = .ok (.aload_n 0, 1) := by decide +kernel
theorem dX7_keep_27 : decode cX7_keep 27 = .ok (.getfield 10, 3) := by decide +kernel
theorem dX7_keep_30 : decode cX7_keep 30 = .ok (.iload_n 1, 1) := by decide +kernel
theorem dX7_keep_31 : decode cX7_keep 31 = .ok (.iload_n 2, 1) := by decide +kernel
theorem dX7_keep_32 : decode cX7_keep 32 = .ok (.invokevirtual 160, 3) := by decide +kernel
theorem dX7_keep_35 : decode cX7_keep 35 = .ok (.ifCond .eq 5, 3) := by decide +kernel
theorem dX7_keep_38 : decode cX7_keep 38 = .ok (.iload_n 2, 1) := by decide +kernel
theorem dX7_keep_39 : decode cX7_keep 39 = .ok (.ireturn, 1) := by decide +kernel
theorem dX7_keep_40 : decode cX7_keep 40 = .ok (.iinc 2 1, 3) := by decide +kernel
theorem dX7_keep_43 : decode cX7_keep 43 = .ok (.goto (-23), 3) := by decide +kernel
theorem dX7_keep_46 : decode cX7_keep 46 = .ok (.iconst (-1), 1) := by decide +kernel
theorem dX7_keep_47 : decode cX7_keep 47 = .ok (.ireturn, 1) := by decide +kernel
theorem dX7_best_0 : decode cX7_best 0 = .ok (.iload_n 1, 1) := by decide +kernel
theorem dX7_best_1 : decode cX7_best 1 = .ok (.invokestatic 163, 3) := by decide +kernel
theorem dX7_best_4 : decode cX7_best 4 = .ok (.ifCond .ne 10, 3) := by decide +kernel
theorem dX7_best_7 : decode cX7_best 7 = .ok (.aload_n 0, 1) := by decide +kernel
theorem dX7_best_8 : decode cX7_best 8 = .ok (.bipush (-2), 2) := by decide +kernel
theorem dX7_best_10 : decode cX7_best 10 = .ok (.invokevirtual 59, 3) := by decide +kernel
theorem dX7_best_13 : decode cX7_best 13 = .ok (.ireturn, 1) := by decide +kernel
theorem dX7_best_14 : decode cX7_best 14 = .ok (.iconst (-1), 1) := by decide +kernel
theorem dX7_best_15 : decode cX7_best 15 = .ok (.istore_n 2, 1) := by decide +kernel
theorem dX7_best_16 : decode cX7_best 16 = .ok (.iconst 0, 1) := by decide +kernel
theorem dX7_best_17 : decode cX7_best 17 = .ok (.istore_n 3, 1) := by decide +kernel
theorem dX7_best_18 : decode cX7_best 18 = .ok (.iconst 0, 1) := by decide +kernel
theorem dX7_best_19 : decode cX7_best 19 = .ok (.istore 4, 2) := by decide +kernel
theorem dX7_best_21 : decode cX7_best 21 = .ok (.iconst 0, 1) := by decide +kernel
theorem dX7_best_22 : decode cX7_best 22 = .ok (.istore 5, 2) := by decide +kernel
theorem dX7_best_24 : decode cX7_best 24 = .ok (.iload 5, 2) := by decide +kernel
theorem dX7_best_26 : decode cX7_best 26 = .ok (.aload_n 0, 1) := by decide +kernel
theorem dX7_best_27 : decode cX7_best 27 = .ok (.getfield 10, 3) := by decide +kernel
theorem dX7_best_30 : decode cX7_best 30 = .ok (.getfield 63, 3) := by decide +kernel
theorem dX7_best_33 : decode cX7_best 33 = .ok (.if_icmp .ge 67, 3) := by decide +kernel
theorem dX7_best_36 : decode cX7_best 36 = .ok (.aload_n 0, 1) := by decide +kernel
theorem dX7_best_37 : decode cX7_best 37 = .ok (.getfield 10, 3) := by decide +kernel
theorem dX7_best_40 : decode cX7_best 40 = .ok (.iload 5, 2) := by decide +kernel
theorem dX7_best_42 : decode cX7_best 42 = .ok (.iload_n 1, 1) := by decide +kernel
theorem dX7_best_43 : decode cX7_best 43 = .ok (.invokevirtual 142, 3) := by decide +kernel
theorem dX7_best_46 : decode cX7_best 46 = .ok (.istore 6, 2) := by decide +kernel
theorem dX7_best_48 : decode cX7_best 48 = .ok (.aload_n 0, 1) := by decide +kernel
theorem dX7_best_49 : decode cX7_best 49 = .ok (.getfield 10, 3) := by decide +kernel
theorem dX7_best_52 : decode cX7_best 52 = .ok (.iload 5, 2) := by decide +kernel
theorem dX7_best_54 : decode cX7_best 54 = .ok (.iload_n 1, 1) := by decide +kernel
theorem dX7_best_55 : decode cX7_best 55 = .ok (.invokevirtual 139, 3) := by decide +kernel
theorem dX7_best_58 : decode cX7_best 58 = .ok (.istore 7, 2) := by decide +kernel
theorem dX7_best_60 : decode cX7_best 60 = .ok (.iload_n 2, 1) := by decide +kernel
theorem dX7_best_61 : decode cX7_best 61 = .ok (.iconst (-1), 1) := by decide +kernel
theorem dX7_best_62 : decode cX7_best 62 = .ok (.if_icmp .eq 22, 3) := by decide +kernel
theorem dX7_best_65 : decode cX7_best 65 = .ok (.iload 6, 2) := by decide +kernel
theorem dX7_best_67 : decode cX7_best 67 = .ok (.iload_n 3, 1) := by decide +kernel
theorem dX7_best_68 : decode cX7_best 68 = .ok (.if_icmp .lt 16, 3) := by decide +kernel
theorem dX7_best_71 : decode cX7_best 71 = .ok (.iload 6, 2) := by decide +kernel
theorem dX7_best_73 : decode cX7_best 73 = .ok (.iload_n 3, 1) := by decide +kernel
theorem dX7_best_74 : decode cX7_best 74 = .ok (.if_icmp .ne 20, 3) := by decide +kernel
theorem dX7_best_77 : decode cX7_best 77 = .ok (.iload 7, 2) := by decide +kernel
theorem dX7_best_79 : decode cX7_best 79 = .ok (.iload 4, 2) := by decide +kernel
theorem dX7_best_81 : decode cX7_best 81 = .ok (.if_icmp .le 13, 3) := by decide +kernel
theorem dX7_best_84 : decode cX7_best 84 = .ok (.iload 5, 2) := by decide +kernel
theorem dX7_best_86 : decode cX7_best 86 = .ok (.istore_n 2, 1) := by decide +kernel
theorem dX7_best_87 : decode cX7_best 87 = .ok (.iload 6, 2) := by decide +kernel
theorem dX7_best_89 : decode cX7_best 89 = .ok (.istore_n 3, 1) := by decide +kernel
theorem dX7_best_90 : decode cX7_best 90 = .ok (.iload 7, 2) := by decide +kernel
theorem dX7_best_92 : decode cX7_best 92 = .ok (.istore 4, 2) := by decide +kernel
theorem dX7_best_94 : decode cX7_best 94 = .ok (.iinc 5 1, 3) := by decide +kernel
theorem dX7_best_97 : decode cX7_best 97 = .ok (.goto (-73), 3) := by decide +kernel
theorem dX7_best_100 : decode cX7_best 100 = .ok (.iload_n 2, 1) := by decide +kernel
theorem dX7_best_101 : decode cX7_best 101 = .ok (.ireturn, 1) := by decide +kernel
theorem dX7_orders_0 : decode cX7_orders 0 = .ok (.aload_n 0, 1) := by decide +kernel
theorem dX7_orders_1 : decode cX7_orders 1 = .ok (.getfield 33, 3) := by decide +kernel
theorem dX7_orders_4 : decode cX7_orders 4 = .ok (.iload_n 1, 1) := by decide +kernel
theorem dX7_orders_5 : decode cX7_orders 5 = .ok (.invokevirtual 166, 3) := by decide +kernel
theorem dX7_orders_8 : decode cX7_orders 8 = .ok (.ifCond .eq 15, 3) := by decide +kernel
theorem dX7_orders_11 : decode cX7_orders 11 = .ok (.iload_n 2, 1) := by decide +kernel
theorem dX7_orders_12 : decode cX7_orders 12 = .ok (.invokestatic 102, 3) := by decide +kernel
theorem dX7_orders_15 : decode cX7_orders 15 = .ok (.ifCond .eq 8, 3) := by decide +kernel
theorem dX7_orders_18 : decode cX7_orders 18 = .ok (.iload_n 3, 1) := by decide +kernel
theorem dX7_orders_19 : decode cX7_orders 19 = .ok (.iconst (-1), 1) := by decide +kernel
theorem dX7_orders_20 : decode cX7_orders 20 = .ok (.if_icmp .ge 8, 3) := by decide +kernel
theorem dX7_orders_23 : decode cX7_orders 23 = .ok (.aload_n 0, 1) := by decide +kernel
theorem dX7_orders_24 : decode cX7_orders 24 = .ok (.invokevirtual 169, 3) := by decide +kernel
theorem dX7_orders_27 : decode cX7_orders 27 = .ok (.ireturn, 1) := by decide +kernel
theorem dX7_orders_28 : decode cX7_orders 28 = .ok (.aload_n 0, 1) := by decide +kernel
theorem dX7_orders_29 : decode cX7_orders 29 = .ok (.getfield 10, 3) := by decide +kernel
theorem dX7_orders_32 : decode cX7_orders 32 = .ok (.getfield 63, 3) := by decide +kernel
theorem dX7_orders_35 : decode cX7_orders 35 = .ok (.ifCond .ne 5, 3) := by decide +kernel
theorem dX7_orders_38 : decode cX7_orders 38 = .ok (.iconst (-1), 1) := by decide +kernel
theorem dX7_orders_39 : decode cX7_orders 39 = .ok (.ireturn, 1) := by decide +kernel
theorem dX7_orders_40 : decode cX7_orders 40 = .ok (.aload_n 0, 1) := by decide +kernel
theorem dX7_orders_41 : decode cX7_orders 41 = .ok (.getfield 16, 3) := by decide +kernel
theorem dX7_orders_44 : decode cX7_orders 44 = .ok (.aload_n 0, 1) := by decide +kernel
theorem dX7_orders_45 : decode cX7_orders 45 = .ok (.getfield 10, 3) := by decide +kernel
theorem dX7_orders_48 : decode cX7_orders 48 = .ok (.invokevirtual 150, 3) := by decide +kernel
theorem dX7_orders_51 : decode cX7_orders 51 = .ok (.aload_n 0, 1) := by decide +kernel
theorem dX7_orders_52 : decode cX7_orders 52 = .ok (.getfield 33, 3) := by decide +kernel
theorem dX7_orders_55 : decode cX7_orders 55 = .ok (.aload_n 0, 1) := by decide +kernel
theorem dX7_orders_56 : decode cX7_orders 56 = .ok (.getfield 16, 3) := by decide +kernel
theorem dX7_orders_59 : decode cX7_orders 59 = .ok (.iload_n 2, 1) := by decide +kernel
theorem dX7_orders_60 : decode cX7_orders 60 = .ok (.invokevirtual 173, 3) := by decide +kernel
theorem dX7_orders_63 : decode cX7_orders 63 = .ok (.iload_n 3, 1) := by decide +kernel
theorem dX7_orders_64 : decode cX7_orders 64 = .ok (.iconst (-1), 1) := by decide +kernel
theorem dX7_orders_65 : decode cX7_orders 65 = .ok (.if_icmp .ne 11, 3) := by decide +kernel
theorem dX7_orders_68 : decode cX7_orders 68 = .ok (.aload_n 0, 1) := by decide +kernel
theorem dX7_orders_69 : decode cX7_orders 69 = .ok (.getfield 33, 3) := by decide +kernel
theorem dX7_orders_72 : decode cX7_orders 72 = .ok (.getfield 177, 3) := by decide +kernel
theorem dX7_orders_75 : decode cX7_orders 75 = .ok (.ireturn, 1) := by decide +kernel
theorem dX7_orders_76 : decode cX7_orders 76 = .ok (.iload_n 3, 1) := by decide +kernel
theorem dX7_orders_77 : decode cX7_orders 77 = .ok (.iconst 0, 1) := by decide +kernel
theorem dX7_orders_78 : decode cX7_orders 78 = .ok (.aload_n 0, 1) := by decide +kernel
theorem dX7_orders_79 : decode cX7_orders 79 = .ok (.getfield 33, 3) := by decide +kernel
theorem dX7_orders_82 : decode cX7_orders 82 = .ok (.getfield 180, 3) := by decide +kernel
theorem dX7_orders_85 : decode cX7_orders 85 = .ok (.iconst 1, 1) := by decide +kernel
theorem dX7_orders_86 : decode cX7_orders 86 = .ok (.isub, 1) := by decide +kernel
theorem dX7_orders_87 : decode cX7_orders 87 = .ok (.invokestatic 70, 3) := by decide +kernel
theorem dX7_orders_90 : decode cX7_orders 90 = .ok (.ifCond .eq 15, 3) := by decide +kernel
theorem dX7_orders_93 : decode cX7_orders 93 = .ok (.aload_n 0, 1) := by decide +kernel
theorem dX7_orders_94 : decode cX7_orders 94 = .ok (.getfield 33, 3) := by decide +kernel
theorem dX7_orders_97 : decode cX7_orders 97 = .ok (.getfield 181, 3) := by decide +kernel
theorem dX7_orders_100 : decode cX7_orders 100 = .ok (.iload_n 3, 1) := by decide +kernel
theorem dX7_orders_101 : decode cX7_orders 101 = .ok (.iaload, 1) := by decide +kernel
theorem dX7_orders_102 : decode cX7_orders 102 = .ok (.goto 5, 3) := by decide +kernel
theorem dX7_orders_105 : decode cX7_orders 105 = .ok (.bipush (-5), 2) := by decide +kernel
theorem dX7_orders_107 : decode cX7_orders 107 = .ok (.ireturn, 1) := by decide +kernel
theorem dX7_waits_0 : decode cX7_waits 0 = .ok (.aload_n 0, 1) := by decide +kernel
theorem dX7_waits_1 : decode cX7_waits 1 = .ok (.iload_n 1, 1) := by decide +kernel
theorem dX7_waits_2 : decode cX7_waits 2 = .ok (.iload_n 2, 1) := by decide +kernel
theorem dX7_waits_3 : decode cX7_waits 3 = .ok (.invokevirtual 98, 3) := by decide +kernel
theorem dX7_waits_6 : decode cX7_waits 6 = .ok (.ifCond .eq 24, 3) := by decide +kernel
theorem dX7_waits_9 : decode cX7_waits 9 = .ok (.iload_n 3, 1) := by decide +kernel
theorem dX7_waits_10 : decode cX7_waits 10 = .ok (.iconst 0, 1) := by decide +kernel
theorem dX7_waits_11 : decode cX7_waits 11 = .ok (.bipush 80, 2) := by decide +kernel
theorem dX7_waits_13 : decode cX7_waits 13 = .ok (.invokestatic 70, 3) := by decide +kernel
theorem dX7_waits_16 : decode cX7_waits 16 = .ok (.ifCond .eq 14, 3) := by decide +kernel
theorem dX7_waits_19 : decode cX7_waits 19 = .ok (.iload 4, 2) := by decide +kernel
theorem dX7_waits_21 : decode cX7_waits 21 = .ok (.iconst 0, 1) := by decide +kernel
theorem dX7_waits_22 : decode cX7_waits 22 = .ok (.bipush 50, 2) := by decide +kernel
theorem dX7_waits_24 : decode cX7_waits 24 = .ok (.invokestatic 70, 3) := by decide +kernel
theorem dX7_waits_27 : decode cX7_waits 27 = .ok (.ifCond .ne 10, 3) := by decide +kernel
theorem dX7_waits_30 : decode cX7_waits 30 = .ok (.aload_n 0, 1) := by decide +kernel
theorem dX7_waits_31 : decode cX7_waits 31 = .ok (.bipush (-2), 2) := by decide +kernel
theorem dX7_waits_33 : decode cX7_waits 33 = .ok (.invokevirtual 59, 3) := by decide +kernel
theorem dX7_waits_36 : decode cX7_waits 36 = .ok (.ireturn, 1) := by decide +kernel
theorem dX7_waits_37 : decode cX7_waits 37 = .ok (.aload_n 0, 1) := by decide +kernel
theorem dX7_waits_38 : decode cX7_waits 38 = .ok (.getfield 16, 3) := by decide +kernel
theorem dX7_waits_41 : decode cX7_waits 41 = .ok (.aload_n 0, 1) := by decide +kernel
theorem dX7_waits_42 : decode cX7_waits 42 = .ok (.getfield 10, 3) := by decide +kernel
theorem dX7_waits_45 : decode cX7_waits 45 = .ok (.invokevirtual 150, 3) := by decide +kernel
theorem dX7_waits_48 : decode cX7_waits 48 = .ok (.iconst 0, 1) := by decide +kernel
theorem dX7_waits_49 : decode cX7_waits 49 = .ok (.istore 5, 2) := by decide +kernel
theorem dX7_waits_51 : decode cX7_waits 51 = .ok (.iload 5, 2) := by decide +kernel
theorem dX7_waits_53 : decode cX7_waits 53 = .ok (.bipush 30, 2) := by decide +kernel
theorem dX7_waits_55 : decode cX7_waits 55 = .ok (.if_icmp .gt 57, 3) := by decide +kernel
theorem dX7_waits_58 : decode cX7_waits 58 = .ok (.aload_n 0, 1) := by decide +kernel
theorem dX7_waits_59 : decode cX7_waits 59 = .ok (.getfield 16, 3) := by decide +kernel
theorem dX7_waits_62 : decode cX7_waits 62 = .ok (.iload_n 1, 1) := by decide +kernel
theorem dX7_waits_63 : decode cX7_waits 63 = .ok (.iload_n 2, 1) := by decide +kernel
theorem dX7_waits_64 : decode cX7_waits 64 = .ok (.invokevirtual 142, 3) := by decide +kernel
theorem dX7_waits_67 : decode cX7_waits 67 = .ok (.iload_n 3, 1) := by decide +kernel
theorem dX7_waits_68 : decode cX7_waits 68 = .ok (.if_icmp .gt 20, 3) := by decide +kernel
theorem dX7_waits_71 : decode cX7_waits 71 = .ok (.aload_n 0, 1) := by decide +kernel
theorem dX7_waits_72 : decode cX7_waits 72 = .ok (.getfield 16, 3) := by decide +kernel
theorem dX7_waits_75 : decode cX7_waits 75 = .ok (.iload_n 1, 1) := by decide +kernel
theorem dX7_waits_76 : decode cX7_waits 76 = .ok (.iload_n 2, 1) := by decide +kernel
theorem dX7_waits_77 : decode cX7_waits 77 = .ok (.invokevirtual 139, 3) := by decide +kernel
theorem dX7_waits_80 : decode cX7_waits 80 = .ok (.iload 4, 2) := by decide +kernel
theorem dX7_waits_82 : decode cX7_waits 82 = .ok (.if_icmp .lt 6, 3) := by decide +kernel
theorem dX7_waits_85 : decode cX7_waits 85 = .ok (.iload 5, 2) := by decide +kernel
theorem dX7_waits_87 : decode cX7_waits 87 = .ok (.ireturn, 1) := by decide +kernel
theorem dX7_waits_88 : decode cX7_waits 88 = .ok (.aload_n 0, 1) := by decide +kernel
theorem dX7_waits_89 : decode cX7_waits 89 = .ok (.getfield 16, 3) := by decide +kernel
theorem dX7_waits_92 : decode cX7_waits 92 = .ok (.iload_n 1, 1) := by decide +kernel
theorem dX7_waits_93 : decode cX7_waits 93 = .ok (.aload_n 0, 1) := by decide +kernel
theorem dX7_waits_94 : decode cX7_waits 94 = .ok (.getfield 10, 3) := by decide +kernel
theorem dX7_waits_97 : decode cX7_waits 97 = .ok (.getfield 115, 3) := by decide +kernel
theorem dX7_waits_100 : decode cX7_waits 100 = .ok (.iload 5, 2) := by decide +kernel
theorem dX7_waits_102 : decode cX7_waits 102 = .ok (.iadd, 1) := by decide +kernel
theorem dX7_waits_103 : decode cX7_waits 103 = .ok (.invokevirtual 156, 3) := by decide +kernel
theorem dX7_waits_106 : decode cX7_waits 106 = .ok (.iinc 5 1, 3) := by decide +kernel
theorem dX7_waits_109 : decode cX7_waits 109 = .ok (.goto (-58), 3) := by decide +kernel
theorem dX7_waits_112 : decode cX7_waits 112 = .ok (.iconst (-1), 1) := by decide +kernel
theorem dX7_waits_113 : decode cX7_waits 113 = .ok (.ireturn, 1) := by decide +kernel
theorem dX7_note_0 : decode cX7_note 0 = .ok (.aload_n 0, 1) := by decide +kernel
theorem dX7_note_1 : decode cX7_note 1 = .ok (.getfield 10, 3) := by decide +kernel
theorem dX7_note_4 : decode cX7_note 4 = .ok (.iload_n 1, 1) := by decide +kernel
theorem dX7_note_5 : decode cX7_note 5 = .ok (.invokevirtual 133, 3) := by decide +kernel
theorem dX7_note_8 : decode cX7_note 8 = .ok (.ifCond .eq 28, 3) := by decide +kernel
theorem dX7_note_11 : decode cX7_note 11 = .ok (.iload_n 2, 1) := by decide +kernel
theorem dX7_note_12 : decode cX7_note 12 = .ok (.invokestatic 74, 3) := by decide +kernel
theorem dX7_note_15 : decode cX7_note 15 = .ok (.ifCond .eq 21, 3) := by decide +kernel
theorem dX7_note_18 : decode cX7_note 18 = .ok (.iload_n 3, 1) := by decide +kernel
theorem dX7_note_19 : decode cX7_note 19 = .ok (.iconst 0, 1) := by decide +kernel
theorem dX7_note_20 : decode cX7_note 20 = .ok (.bipush 99, 2) := by decide +kernel
theorem dX7_note_22 : decode cX7_note 22 = .ok (.invokestatic 70, 3) := by decide +kernel
theorem dX7_note_25 : decode cX7_note 25 = .ok (.ifCond .eq 11, 3) := by decide +kernel
theorem dX7_note_28 : decode cX7_note 28 = .ok (.iload 4, 2) := by decide +kernel
theorem dX7_note_30 : decode cX7_note 30 = .ok (.invokestatic 74, 3) := by decide +kernel
theorem dX7_note_33 : decode cX7_note 33 = .ok (.ifCond .ne 10, 3) := by decide +kernel
theorem dX7_note_36 : decode cX7_note 36 = .ok (.aload_n 0, 1) := by decide +kernel
theorem dX7_note_37 : decode cX7_note 37 = .ok (.bipush (-2), 2) := by decide +kernel
theorem dX7_note_39 : decode cX7_note 39 = .ok (.invokevirtual 59, 3) := by decide +kernel
theorem dX7_note_42 : decode cX7_note 42 = .ok (.ireturn, 1) := by decide +kernel
theorem dX7_note_43 : decode cX7_note 43 = .ok (.aload_n 0, 1) := by decide +kernel
theorem dX7_note_44 : decode cX7_note 44 = .ok (.getfield 10, 3) := by decide +kernel
theorem dX7_note_47 : decode cX7_note 47 = .ok (.getfield 184, 3) := by decide +kernel
theorem dX7_note_50 : decode cX7_note 50 = .ok (.iload_n 1, 1) := by decide +kernel
theorem dX7_note_51 : decode cX7_note 51 = .ok (.iload_n 2, 1) := by decide +kernel
theorem dX7_note_52 : decode cX7_note 52 = .ok (.iload_n 3, 1) := by decide +kernel
theorem dX7_note_53 : decode cX7_note 53 = .ok (.iload 4, 2) := by decide +kernel
theorem dX7_note_55 : decode cX7_note 55 = .ok (.invokevirtual 188, 3) := by decide +kernel
theorem dX7_note_58 : decode cX7_note 58 = .ok (.ifCond .eq 16, 3) := by decide +kernel
theorem dX7_note_61 : decode cX7_note 61 = .ok (.aload_n 0, 1) := by decide +kernel
theorem dX7_note_62 : decode cX7_note 62 = .ok (.getfield 10, 3) := by decide +kernel
theorem dX7_note_65 : decode cX7_note 65 = .ok (.getfield 184, 3) := by decide +kernel
theorem dX7_note_68 : decode cX7_note 68 = .ok (.getfield 193, 3) := by decide +kernel
theorem dX7_note_71 : decode cX7_note 71 = .ok (.goto 9, 3) := by decide +kernel
theorem dX7_note_74 : decode cX7_note 74 = .ok (.aload_n 0, 1) := by decide +kernel
theorem dX7_note_75 : decode cX7_note 75 = .ok (.bipush (-4), 2) := by decide +kernel
theorem dX7_note_77 : decode cX7_note 77 = .ok (.invokevirtual 59, 3) := by decide +kernel
theorem dX7_note_80 : decode cX7_note 80 = .ok (.ireturn, 1) := by decide +kernel
theorem dX7_came_0 : decode cX7_came 0 = .ok (.aload_n 0, 1) := by decide +kernel
theorem dX7_came_1 : decode cX7_came 1 = .ok (.iload_n 1, 1) := by decide +kernel
theorem dX7_came_2 : decode cX7_came 2 = .ok (.iload_n 2, 1) := by decide +kernel
theorem dX7_came_3 : decode cX7_came 3 = .ok (.invokevirtual 98, 3) := by decide +kernel
theorem dX7_came_6 : decode cX7_came 6 = .ok (.ifCond .eq 21, 3) := by decide +kernel
theorem dX7_came_9 : decode cX7_came 9 = .ok (.iload_n 3, 1) := by decide +kernel
theorem dX7_came_10 : decode cX7_came 10 = .ok (.invokestatic 55, 3) := by decide +kernel
theorem dX7_came_13 : decode cX7_came 13 = .ok (.ifCond .eq 14, 3) := by decide +kernel
theorem dX7_came_16 : decode cX7_came 16 = .ok (.iload 4, 2) := by decide +kernel
theorem dX7_came_18 : decode cX7_came 18 = .ok (.iconst 0, 1) := by decide +kernel
theorem dX7_came_19 : decode cX7_came 19 = .ok (.bipush 50, 2) := by decide +kernel
theorem dX7_came_21 : decode cX7_came 21 = .ok (.invokestatic 70, 3) := by decide +kernel
theorem dX7_came_24 : decode cX7_came 24 = .ok (.ifCond .ne 10, 3) := by decide +kernel
theorem dX7_came_27 : decode cX7_came 27 = .ok (.aload_n 0, 1) := by decide +kernel
theorem dX7_came_28 : decode cX7_came 28 = .ok (.bipush (-2), 2) := by decide +kernel
theorem dX7_came_30 : decode cX7_came 30 = .ok (.invokevirtual 59, 3) := by decide +kernel
theorem dX7_came_33 : decode cX7_came 33 = .ok (.ireturn, 1) := by decide +kernel
theorem dX7_came_34 : decode cX7_came 34 = .ok (.aload_n 0, 1) := by decide +kernel
theorem dX7_came_35 : decode cX7_came 35 = .ok (.getfield 10, 3) := by decide +kernel
theorem dX7_came_38 : decode cX7_came 38 = .ok (.getfield 194, 3) := by decide +kernel
theorem dX7_came_41 : decode cX7_came 41 = .ok (.iload_n 1, 1) := by decide +kernel
theorem dX7_came_42 : decode cX7_came 42 = .ok (.iload_n 2, 1) := by decide +kernel
theorem dX7_came_43 : decode cX7_came 43 = .ok (.iload_n 3, 1) := by decide +kernel
theorem dX7_came_44 : decode cX7_came 44 = .ok (.iload 4, 2) := by decide +kernel
theorem dX7_came_46 : decode cX7_came 46 = .ok (.invokevirtual 188, 3) := by decide +kernel
theorem dX7_came_49 : decode cX7_came 49 = .ok (.ifCond .eq 16, 3) := by decide +kernel
theorem dX7_came_52 : decode cX7_came 52 = .ok (.aload_n 0, 1) := by decide +kernel
theorem dX7_came_53 : decode cX7_came 53 = .ok (.getfield 10, 3) := by decide +kernel
theorem dX7_came_56 : decode cX7_came 56 = .ok (.getfield 194, 3) := by decide +kernel
theorem dX7_came_59 : decode cX7_came 59 = .ok (.getfield 193, 3) := by decide +kernel
theorem dX7_came_62 : decode cX7_came 62 = .ok (.goto 9, 3) := by decide +kernel
theorem dX7_came_65 : decode cX7_came 65 = .ok (.aload_n 0, 1) := by decide +kernel
theorem dX7_came_66 : decode cX7_came 66 = .ok (.bipush (-4), 2) := by decide +kernel
theorem dX7_came_68 : decode cX7_came 68 = .ok (.invokevirtual 59, 3) := by decide +kernel
theorem dX7_came_71 : decode cX7_came 71 = .ok (.ireturn, 1) := by decide +kernel
theorem dX7_forget_0 : decode cX7_forget 0 = .ok (.iload_n 1, 1) := by decide +kernel
theorem dX7_forget_1 : decode cX7_forget 1 = .ok (.iconst 0, 1) := by decide +kernel
theorem dX7_forget_2 : decode cX7_forget 2 = .ok (.iconst 1, 1) := by decide +kernel
theorem dX7_forget_3 : decode cX7_forget 3 = .ok (.invokestatic 70, 3) := by decide +kernel
theorem dX7_forget_6 : decode cX7_forget 6 = .ok (.ifCond .ne 10, 3) := by decide +kernel
theorem dX7_forget_9 : decode cX7_forget 9 = .ok (.aload_n 0, 1) := by decide +kernel
theorem dX7_forget_10 : decode cX7_forget 10 = .ok (.bipush (-2), 2) := by decide +kernel
theorem dX7_forget_12 : decode cX7_forget 12 = .ok (.invokevirtual 59, 3) := by decide +kernel
theorem dX7_forget_15 : decode cX7_forget 15 = .ok (.ireturn, 1) := by decide +kernel
theorem dX7_forget_16 : decode cX7_forget 16 = .ok (.iload_n 1, 1) := by decide +kernel
theorem dX7_forget_17 : decode cX7_forget 17 = .ok (.ifCond .ne 13, 3) := by decide +kernel
theorem dX7_forget_20 : decode cX7_forget 20 = .ok (.aload_n 0, 1) := by decide +kernel
theorem dX7_forget_21 : decode cX7_forget 21 = .ok (.getfield 10, 3) := by decide +kernel
theorem dX7_forget_24 : decode cX7_forget 24 = .ok (.getfield 184, 3) := by decide +kernel
theorem dX7_forget_27 : decode cX7_forget 27 = .ok (.goto 10, 3) := by decide +kernel
theorem dX7_forget_30 : decode cX7_forget 30 = .ok (.aload_n 0, 1) := by decide +kernel
theorem dX7_forget_31 : decode cX7_forget 31 = .ok (.getfield 10, 3) := by decide +kernel
theorem dX7_forget_34 : decode cX7_forget 34 = .ok (.getfield 194, 3) := by decide +kernel
theorem dX7_forget_37 : decode cX7_forget 37 = .ok (.astore_n 2, 1) := by decide +kernel
theorem dX7_forget_38 : decode cX7_forget 38 = .ok (.aload_n 2, 1) := by decide +kernel
theorem dX7_forget_39 : decode cX7_forget 39 = .ok (.getfield 193, 3) := by decide +kernel
theorem dX7_forget_42 : decode cX7_forget 42 = .ok (.istore_n 3, 1) := by decide +kernel
theorem dX7_forget_43 : decode cX7_forget 43 = .ok (.aload_n 2, 1) := by decide +kernel
theorem dX7_forget_44 : decode cX7_forget 44 = .ok (.iconst 0, 1) := by decide +kernel
theorem dX7_forget_45 : decode cX7_forget 45 = .ok (.putfield 193, 3) := by decide +kernel
theorem dX7_forget_48 : decode cX7_forget 48 = .ok (.iload_n 3, 1) := by decide +kernel
theorem dX7_forget_49 : decode cX7_forget 49 = .ok (.ireturn, 1) := by decide +kernel
theorem dX7_is_0 : decode cX7_is 0 = .ok (.aload_n 0, 1) := by decide +kernel
theorem dX7_is_1 : decode cX7_is 1 = .ok (.getfield 10, 3) := by decide +kernel
theorem dX7_is_4 : decode cX7_is 4 = .ok (.iload_n 1, 1) := by decide +kernel
theorem dX7_is_5 : decode cX7_is 5 = .ok (.invokevirtual 133, 3) := by decide +kernel
theorem dX7_is_8 : decode cX7_is 8 = .ok (.ifCond .eq 11, 3) := by decide +kernel
theorem dX7_is_11 : decode cX7_is 11 = .ok (.aload_n 0, 1) := by decide +kernel
theorem dX7_is_12 : decode cX7_is 12 = .ok (.iload_n 1, 1) := by decide +kernel
theorem dX7_is_13 : decode cX7_is 13 = .ok (.invokevirtual 197, 3) := by decide +kernel
theorem dX7_is_16 : decode cX7_is 16 = .ok (.goto 9, 3) := by decide +kernel
theorem dX7_is_19 : decode cX7_is 19 = .ok (.aload_n 0, 1) := by decide +kernel
theorem dX7_is_20 : decode cX7_is 20 = .ok (.bipush (-2), 2) := by decide +kernel
theorem dX7_is_22 : decode cX7_is 22 = .ok (.invokevirtual 59, 3) := by decide +kernel
theorem dX7_is_25 : decode cX7_is 25 = .ok (.ireturn, 1) := by decide +kernel
theorem dX7_look_0 : decode cX7_look 0 = .ok (.aload_n 0, 1) := by decide +kernel
theorem dX7_look_1 : decode cX7_look 1 = .ok (.getfield 10, 3) := by decide +kernel
theorem dX7_look_4 : decode cX7_look 4 = .ok (.iload_n 1, 1) := by decide +kernel
theorem dX7_look_5 : decode cX7_look 5 = .ok (.invokevirtual 133, 3) := by decide +kernel
theorem dX7_look_8 : decode cX7_look 8 = .ok (.ifCond .ne 10, 3) := by decide +kernel
theorem dX7_look_11 : decode cX7_look 11 = .ok (.aload_n 0, 1) := by decide +kernel
theorem dX7_look_12 : decode cX7_look 12 = .ok (.bipush (-2), 2) := by decide +kernel
theorem dX7_look_14 : decode cX7_look 14 = .ok (.invokevirtual 59, 3) := by decide +kernel
theorem dX7_look_17 : decode cX7_look 17 = .ok (.ireturn, 1) := by decide +kernel
theorem dX7_look_18 : decode cX7_look 18 = .ok (.aload_n 0, 1) := by decide +kernel
theorem dX7_look_19 : decode cX7_look 19 = .ok (.iload_n 1, 1) := by decide +kernel
theorem dX7_look_20 : decode cX7_look 20 = .ok (.invokevirtual 197, 3) := by decide +kernel
theorem dX7_look_23 : decode cX7_look 23 = .ok (.istore_n 2, 1) := by decide +kernel
theorem dX7_look_24 : decode cX7_look 24 = .ok (.iload_n 2, 1) := by decide +kernel
theorem dX7_look_25 : decode cX7_look 25 = .ok (.ifCond .ne 5, 3) := by decide +kernel
theorem dX7_look_28 : decode cX7_look 28 = .ok (.iconst (-1), 1) := by decide +kernel
theorem dX7_look_29 : decode cX7_look 29 = .ok (.ireturn, 1) := by decide +kernel
theorem dX7_look_30 : decode cX7_look 30 = .ok (.iconst (-1), 1) := by decide +kernel
theorem dX7_look_31 : decode cX7_look 31 = .ok (.istore_n 3, 1) := by decide +kernel
theorem dX7_look_32 : decode cX7_look 32 = .ok (.bipush 7, 2) := by decide +kernel
theorem dX7_look_34 : decode cX7_look 34 = .ok (.istore 4, 2) := by decide +kernel
theorem dX7_look_36 : decode cX7_look 36 = .ok (.iconst 1, 1) := by decide +kernel
theorem dX7_look_37 : decode cX7_look 37 = .ok (.istore 5, 2) := by decide +kernel
theorem dX7_look_39 : decode cX7_look 39 = .ok (.iload 5, 2) := by decide +kernel
theorem dX7_look_41 : decode cX7_look 41 = .ok (.bipush 20, 2) := by decide +kernel
theorem dX7_look_43 : decode cX7_look 43 = .ok (.if_icmp .gt 55, 3) := by decide +kernel
theorem dX7_look_46 : decode cX7_look 46 = .ok (.iconst 0, 1) := by decide +kernel
theorem dX7_look_47 : decode cX7_look 47 = .ok (.istore 6, 2) := by decide +kernel
theorem dX7_look_49 : decode cX7_look 49 = .ok (.iload 6, 2) := by decide +kernel
theorem dX7_look_51 : decode cX7_look 51 = .ok (.iconst 2, 1) := by decide +kernel
theorem dX7_look_52 : decode cX7_look 52 = .ok (.if_icmp .gt 40, 3) := by decide +kernel
theorem dX7_look_55 : decode cX7_look 55 = .ok (.aload_n 0, 1) := by decide +kernel
theorem dX7_look_56 : decode cX7_look 56 = .ok (.iload_n 2, 1) := by decide +kernel
theorem dX7_look_57 : decode cX7_look 57 = .ok (.iload 5, 2) := by decide +kernel
theorem dX7_look_59 : decode cX7_look 59 = .ok (.iload 6, 2) := by decide +kernel
theorem dX7_look_61 : decode cX7_look 61 = .ok (.invokevirtual 200, 3) := by decide +kernel
theorem dX7_look_64 : decode cX7_look 64 = .ok (.istore 7, 2) := by decide +kernel
theorem dX7_look_66 : decode cX7_look 66 = .ok (.iload 7, 2) := by decide +kernel
theorem dX7_look_68 : decode cX7_look 68 = .ok (.iload 4, 2) := by decide +kernel
theorem dX7_look_70 : decode cX7_look 70 = .ok (.if_icmp .ge 16, 3) := by decide +kernel
theorem dX7_look_73 : decode cX7_look 73 = .ok (.iload 7, 2) := by decide +kernel
theorem dX7_look_75 : decode cX7_look 75 = .ok (.istore 4, 2) := by decide +kernel
theorem dX7_look_77 : decode cX7_look 77 = .ok (.bipush 10, 2) := by decide +kernel
theorem dX7_look_79 : decode cX7_look 79 = .ok (.iload 5, 2) := by decide +kernel
theorem dX7_look_81 : decode cX7_look 81 = .ok (.imul, 1) := by decide +kernel
theorem dX7_look_82 : decode cX7_look 82 = .ok (.iload 6, 2) := by decide +kernel
theorem dX7_look_84 : decode cX7_look 84 = .ok (.iadd, 1) := by decide +kernel
theorem dX7_look_85 : decode cX7_look 85 = .ok (.istore_n 3, 1) := by decide +kernel
theorem dX7_look_86 : decode cX7_look 86 = .ok (.iinc 6 1, 3) := by decide +kernel
theorem dX7_look_89 : decode cX7_look 89 = .ok (.goto (-40), 3) := by decide +kernel
theorem dX7_look_92 : decode cX7_look 92 = .ok (.iinc 5 1, 3) := by decide +kernel
theorem dX7_look_95 : decode cX7_look 95 = .ok (.goto (-56), 3) := by decide +kernel
theorem dX7_look_98 : decode cX7_look 98 = .ok (.iload_n 3, 1) := by decide +kernel
theorem dX7_look_99 : decode cX7_look 99 = .ok (.ireturn, 1) := by decide +kernel
theorem dX7_memory_0 : decode cX7_memory 0 = .ok (.aload_n 0, 1) := by decide +kernel
theorem dX7_memory_1 : decode cX7_memory 1 = .ok (.iload_n 1, 1) := by decide +kernel
theorem dX7_memory_2 : decode cX7_memory 2 = .ok (.iload_n 2, 1) := by decide +kernel
theorem dX7_memory_3 : decode cX7_memory 3 = .ok (.invokevirtual 98, 3) := by decide +kernel
theorem dX7_memory_6 : decode cX7_memory 6 = .ok (.ifCond .ne 10, 3) := by decide +kernel
theorem dX7_memory_9 : decode cX7_memory 9 = .ok (.aload_n 0, 1) := by decide +kernel
theorem dX7_memory_10 : decode cX7_memory 10 = .ok (.bipush (-2), 2) := by decide +kernel
theorem dX7_memory_12 : decode cX7_memory 12 = .ok (.invokevirtual 59, 3) := by decide +kernel
theorem dX7_memory_15 : decode cX7_memory 15 = .ok (.ireturn, 1) := by decide +kernel
theorem dX7_memory_16 : decode cX7_memory 16 = .ok (.iconst 0, 1) := by decide +kernel
theorem dX7_memory_17 : decode cX7_memory 17 = .ok (.istore_n 3, 1) := by decide +kernel
theorem dX7_memory_18 : decode cX7_memory 18 = .ok (.iconst 0, 1) := by decide +kernel
theorem dX7_memory_19 : decode cX7_memory 19 = .ok (.istore 4, 2) := by decide +kernel
theorem dX7_memory_21 : decode cX7_memory 21 = .ok (.iload 4, 2) := by decide +kernel
theorem dX7_memory_23 : decode cX7_memory 23 = .ok (.bipush 20, 2) := by decide +kernel
theorem dX7_memory_25 : decode cX7_memory 25 = .ok (.if_icmp .gt 27, 3) := by decide +kernel
theorem dX7_memory_28 : decode cX7_memory 28 = .ok (.aload_n 0, 1) := by decide +kernel
theorem dX7_memory_29 : decode cX7_memory 29 = .ok (.iload_n 1, 1) := by decide +kernel
theorem dX7_memory_30 : decode cX7_memory 30 = .ok (.iload_n 2, 1) := by decide +kernel
theorem dX7_memory_31 : decode cX7_memory 31 = .ok (.iload 4, 2) := by decide +kernel
theorem dX7_memory_33 : decode cX7_memory 33 = .ok (.invokevirtual 203, 3) := by decide +kernel
theorem dX7_memory_36 : decode cX7_memory 36 = .ok (.ifCond .eq 10, 3) := by decide +kernel
theorem dX7_memory_39 : decode cX7_memory 39 = .ok (.iload_n 3, 1) := by decide +kernel
theorem dX7_memory_40 : decode cX7_memory 40 = .ok (.iconst 1, 1) := by decide +kernel
theorem dX7_memory_41 : decode cX7_memory 41 = .ok (.iload 4, 2) := by decide +kernel
theorem dX7_memory_43 : decode cX7_memory 43 = .ok (.ishl, 1) := by decide +kernel
theorem dX7_memory_44 : decode cX7_memory 44 = .ok (.ior, 1) := by decide +kernel
theorem dX7_memory_45 : decode cX7_memory 45 = .ok (.istore_n 3, 1) := by decide +kernel
theorem dX7_memory_46 : decode cX7_memory 46 = .ok (.iinc 4 1, 3) := by decide +kernel
theorem dX7_memory_49 : decode cX7_memory 49 = .ok (.goto (-28), 3) := by decide +kernel
theorem dX7_memory_52 : decode cX7_memory 52 = .ok (.iload_n 3, 1) := by decide +kernel
theorem dX7_memory_53 : decode cX7_memory 53 = .ok (.ireturn, 1) := by decide +kernel
theorem dX7_whose_0 : decode cX7_whose 0 = .ok (.iload_n 1, 1) := by decide +kernel
theorem dX7_whose_1 : decode cX7_whose 1 = .ok (.invokestatic 206, 3) := by decide +kernel
theorem dX7_whose_4 : decode cX7_whose 4 = .ok (.ifCond .eq 25, 3) := by decide +kernel
theorem dX7_whose_7 : decode cX7_whose 7 = .ok (.iload_n 2, 1) := by decide +kernel
theorem dX7_whose_8 : decode cX7_whose 8 = .ok (.invokestatic 206, 3) := by decide +kernel
theorem dX7_whose_11 : decode cX7_whose 11 = .ok (.ifCond .eq 18, 3) := by decide +kernel
theorem dX7_whose_14 : decode cX7_whose 14 = .ok (.iload_n 3, 1) := by decide +kernel
theorem dX7_whose_15 : decode cX7_whose 15 = .ok (.invokestatic 206, 3) := by decide +kernel
theorem dX7_whose_18 : decode cX7_whose 18 = .ok (.ifCond .eq 11, 3) := by decide +kernel
theorem dX7_whose_21 : decode cX7_whose 21 = .ok (.iload 4, 2) := by decide +kernel
theorem dX7_whose_23 : decode cX7_whose 23 = .ok (.invokestatic 206, 3) := by decide +kernel
theorem dX7_whose_26 : decode cX7_whose 26 = .ok (.ifCond .ne 10, 3) := by decide +kernel
theorem dX7_whose_29 : decode cX7_whose 29 = .ok (.aload_n 0, 1) := by decide +kernel
theorem dX7_whose_30 : decode cX7_whose 30 = .ok (.bipush (-2), 2) := by decide +kernel
theorem dX7_whose_32 : decode cX7_whose 32 = .ok (.invokevirtual 59, 3) := by decide +kernel
theorem dX7_whose_35 : decode cX7_whose 35 = .ok (.ireturn, 1) := by decide +kernel
theorem dX7_whose_36 : decode cX7_whose 36 = .ok (.iconst 0, 1) := by decide +kernel
theorem dX7_whose_37 : decode cX7_whose 37 = .ok (.istore 5, 2) := by decide +kernel
theorem dX7_whose_39 : decode cX7_whose 39 = .ok (.iconst 0, 1) := by decide +kernel
theorem dX7_whose_40 : decode cX7_whose 40 = .ok (.istore 6, 2) := by decide +kernel
theorem dX7_whose_42 : decode cX7_whose 42 = .ok (.iload 6, 2) := by decide +kernel
theorem dX7_whose_44 : decode cX7_whose 44 = .ok (.aload_n 0, 1) := by decide +kernel
theorem dX7_whose_45 : decode cX7_whose 45 = .ok (.getfield 10, 3) := by decide +kernel
theorem dX7_whose_48 : decode cX7_whose 48 = .ok (.getfield 63, 3) := by decide +kernel
theorem dX7_whose_51 : decode cX7_whose 51 = .ok (.if_icmp .ge 75, 3) := by decide +kernel
theorem dX7_whose_54 : decode cX7_whose 54 = .ok (.aload_n 0, 1) := by decide +kernel
theorem dX7_whose_55 : decode cX7_whose 55 = .ok (.getfield 10, 3) := by decide +kernel
theorem dX7_whose_58 : decode cX7_whose 58 = .ok (.iload 6, 2) := by decide +kernel
theorem dX7_whose_60 : decode cX7_whose 60 = .ok (.iconst 0, 1) := by decide +kernel
theorem dX7_whose_61 : decode cX7_whose 61 = .ok (.invokevirtual 139, 3) := by decide +kernel
theorem dX7_whose_64 : decode cX7_whose 64 = .ok (.iload_n 1, 1) := by decide +kernel
theorem dX7_whose_65 : decode cX7_whose 65 = .ok (.if_icmp .ne 55, 3) := by decide +kernel
theorem dX7_whose_68 : decode cX7_whose 68 = .ok (.aload_n 0, 1) := by decide +kernel
theorem dX7_whose_69 : decode cX7_whose 69 = .ok (.getfield 10, 3) := by decide +kernel
theorem dX7_whose_72 : decode cX7_whose 72 = .ok (.iload 6, 2) := by decide +kernel
theorem dX7_whose_74 : decode cX7_whose 74 = .ok (.iconst 1, 1) := by decide +kernel
theorem dX7_whose_75 : decode cX7_whose 75 = .ok (.invokevirtual 139, 3) := by decide +kernel
theorem dX7_whose_78 : decode cX7_whose 78 = .ok (.iload_n 2, 1) := by decide +kernel
theorem dX7_whose_79 : decode cX7_whose 79 = .ok (.if_icmp .ne 41, 3) := by decide +kernel
theorem dX7_whose_82 : decode cX7_whose 82 = .ok (.aload_n 0, 1) := by decide +kernel
theorem dX7_whose_83 : decode cX7_whose 83 = .ok (.getfield 10, 3) := by decide +kernel
theorem dX7_whose_86 : decode cX7_whose 86 = .ok (.iload 6, 2) := by decide +kernel
theorem dX7_whose_88 : decode cX7_whose 88 = .ok (.iconst 2, 1) := by decide +kernel
theorem dX7_whose_89 : decode cX7_whose 89 = .ok (.invokevirtual 139, 3) := by decide +kernel
theorem dX7_whose_92 : decode cX7_whose 92 = .ok (.iload_n 3, 1) := by decide +kernel
theorem dX7_whose_93 : decode cX7_whose 93 = .ok (.if_icmp .ne 27, 3) := by decide +kernel
theorem dX7_whose_96 : decode cX7_whose 96 = .ok (.aload_n 0, 1) := by decide +kernel
theorem dX7_whose_97 : decode cX7_whose 97 = .ok (.getfield 10, 3) := by decide +kernel
theorem dX7_whose_100 : decode cX7_whose 100 = .ok (.iload 6, 2) := by decide +kernel
theorem dX7_whose_102 : decode cX7_whose 102 = .ok (.iconst 3, 1) := by decide +kernel
theorem dX7_whose_103 : decode cX7_whose 103 = .ok (.invokevirtual 139, 3) := by decide +kernel
theorem dX7_whose_106 : decode cX7_whose 106 = .ok (.iload 4, 2) := by decide +kernel
theorem dX7_whose_108 : decode cX7_whose 108 = .ok (.if_icmp .ne 12, 3) := by decide +kernel
theorem dX7_whose_111 : decode cX7_whose 111 = .ok (.iload 5, 2) := by decide +kernel
theorem dX7_whose_113 : decode cX7_whose 113 = .ok (.iconst 1, 1) := by decide +kernel
theorem dX7_whose_114 : decode cX7_whose 114 = .ok (.iload 6, 2) := by decide +kernel
theorem dX7_whose_116 : decode cX7_whose 116 = .ok (.ishl, 1) := by decide +kernel
theorem dX7_whose_117 : decode cX7_whose 117 = .ok (.ior, 1) := by decide +kernel
theorem dX7_whose_118 : decode cX7_whose 118 = .ok (.istore 5, 2) := by decide +kernel
theorem dX7_whose_120 : decode cX7_whose 120 = .ok (.iinc 6 1, 3) := by decide +kernel
theorem dX7_whose_123 : decode cX7_whose 123 = .ok (.goto (-81), 3) := by decide +kernel
theorem dX7_whose_126 : decode cX7_whose 126 = .ok (.iload 5, 2) := by decide +kernel
theorem dX7_whose_128 : decode cX7_whose 128 = .ok (.ireturn, 1) := by decide +kernel
theorem dX7_two_0 : decode cX7_two 0 = .ok (.iload_n 1, 1) := by decide +kernel
theorem dX7_two_1 : decode cX7_two 1 = .ok (.invokestatic 163, 3) := by decide +kernel
theorem dX7_two_4 : decode cX7_two 4 = .ok (.ifCond .eq 15, 3) := by decide +kernel
theorem dX7_two_7 : decode cX7_two 7 = .ok (.iload_n 2, 1) := by decide +kernel
theorem dX7_two_8 : decode cX7_two 8 = .ok (.invokestatic 163, 3) := by decide +kernel
theorem dX7_two_11 : decode cX7_two 11 = .ok (.ifCond .eq 8, 3) := by decide +kernel
theorem dX7_two_14 : decode cX7_two 14 = .ok (.iload_n 3, 1) := by decide +kernel
theorem dX7_two_15 : decode cX7_two 15 = .ok (.iconst (-1), 1) := by decide +kernel
theorem dX7_two_16 : decode cX7_two 16 = .ok (.if_icmp .ge 8, 3) := by decide +kernel
theorem dX7_two_19 : decode cX7_two 19 = .ok (.aload_n 0, 1) := by decide +kernel
theorem dX7_two_20 : decode cX7_two 20 = .ok (.invokevirtual 169, 3) := by decide +kernel
theorem dX7_two_23 : decode cX7_two 23 = .ok (.ireturn, 1) := by decide +kernel
theorem dX7_two_24 : decode cX7_two 24 = .ok (.aload_n 0, 1) := by decide +kernel
theorem dX7_two_25 : decode cX7_two 25 = .ok (.getfield 40, 3) := by decide +kernel
theorem dX7_two_28 : decode cX7_two 28 = .ok (.aload_n 0, 1) := by decide +kernel
theorem dX7_two_29 : decode cX7_two 29 = .ok (.getfield 10, 3) := by decide +kernel
theorem dX7_two_32 : decode cX7_two 32 = .ok (.iload_n 1, 1) := by decide +kernel
theorem dX7_two_33 : decode cX7_two 33 = .ok (.iload_n 2, 1) := by decide +kernel
theorem dX7_two_34 : decode cX7_two 34 = .ok (.invokevirtual 209, 3) := by decide +kernel
theorem dX7_two_37 : decode cX7_two 37 = .ok (.iconst 0, 1) := by decide +kernel
theorem dX7_two_38 : decode cX7_two 38 = .ok (.istore 4, 2) := by decide +kernel
theorem dX7_two_40 : decode cX7_two 40 = .ok (.iconst 0, 1) := by decide +kernel
theorem dX7_two_41 : decode cX7_two 41 = .ok (.istore 5, 2) := by decide +kernel
theorem dX7_two_43 : decode cX7_two 43 = .ok (.iload 5, 2) := by decide +kernel
theorem dX7_two_45 : decode cX7_two 45 = .ok (.aload_n 0, 1) := by decide +kernel
theorem dX7_two_46 : decode cX7_two 46 = .ok (.getfield 10, 3) := by decide +kernel
theorem dX7_two_49 : decode cX7_two 49 = .ok (.getfield 63, 3) := by decide +kernel
theorem dX7_two_52 : decode cX7_two 52 = .ok (.if_icmp .ge 61, 3) := by decide +kernel
theorem dX7_two_55 : decode cX7_two 55 = .ok (.iconst 0, 1) := by decide +kernel
theorem dX7_two_56 : decode cX7_two 56 = .ok (.istore 6, 2) := by decide +kernel
theorem dX7_two_58 : decode cX7_two 58 = .ok (.iload 6, 2) := by decide +kernel
theorem dX7_two_60 : decode cX7_two 60 = .ok (.aload_n 0, 1) := by decide +kernel
theorem dX7_two_61 : decode cX7_two 61 = .ok (.getfield 10, 3) := by decide +kernel
theorem dX7_two_64 : decode cX7_two 64 = .ok (.getfield 63, 3) := by decide +kernel
theorem dX7_two_67 : decode cX7_two 67 = .ok (.if_icmp .ge 40, 3) := by decide +kernel
theorem dX7_two_70 : decode cX7_two 70 = .ok (.aload_n 0, 1) := by decide +kernel
theorem dX7_two_71 : decode cX7_two 71 = .ok (.getfield 40, 3) := by decide +kernel
theorem dX7_two_74 : decode cX7_two 74 = .ok (.iload 5, 2) := by decide +kernel
theorem dX7_two_76 : decode cX7_two 76 = .ok (.iload 6, 2) := by decide +kernel
theorem dX7_two_78 : decode cX7_two 78 = .ok (.invokevirtual 213, 3) := by decide +kernel
theorem dX7_two_81 : decode cX7_two 81 = .ok (.ifCond .eq 20, 3) := by decide +kernel
theorem dX7_two_84 : decode cX7_two 84 = .ok (.iload 4, 2) := by decide +kernel
theorem dX7_two_86 : decode cX7_two 86 = .ok (.iload_n 3, 1) := by decide +kernel
theorem dX7_two_87 : decode cX7_two 87 = .ok (.if_icmp .ne 11, 3) := by decide +kernel
theorem dX7_two_90 : decode cX7_two 90 = .ok (.iconst 4, 1) := by decide +kernel
theorem dX7_two_91 : decode cX7_two 91 = .ok (.iload 5, 2) := by decide +kernel
theorem dX7_two_93 : decode cX7_two 93 = .ok (.imul, 1) := by decide +kernel
theorem dX7_two_94 : decode cX7_two 94 = .ok (.iload 6, 2) := by decide +kernel
theorem dX7_two_96 : decode cX7_two 96 = .ok (.iadd, 1) := by decide +kernel
theorem dX7_two_97 : decode cX7_two 97 = .ok (.ireturn, 1) := by decide +kernel
theorem dX7_two_98 : decode cX7_two 98 = .ok (.iinc 4 1, 3) := by decide +kernel
theorem dX7_two_101 : decode cX7_two 101 = .ok (.iinc 6 1, 3) := by decide +kernel
theorem dX7_two_104 : decode cX7_two 104 = .ok (.goto (-46), 3) := by decide +kernel
theorem dX7_two_107 : decode cX7_two 107 = .ok (.iinc 5 1, 3) := by decide +kernel
theorem dX7_two_110 : decode cX7_two 110 = .ok (.goto (-67), 3) := by decide +kernel
theorem dX7_two_113 : decode cX7_two 113 = .ok (.iload_n 3, 1) := by decide +kernel
theorem dX7_two_114 : decode cX7_two 114 = .ok (.iconst (-1), 1) := by decide +kernel
theorem dX7_two_115 : decode cX7_two 115 = .ok (.if_icmp .ne 8, 3) := by decide +kernel
theorem dX7_two_118 : decode cX7_two 118 = .ok (.iload 4, 2) := by decide +kernel
theorem dX7_two_120 : decode cX7_two 120 = .ok (.goto 5, 3) := by decide +kernel
theorem dX7_two_123 : decode cX7_two 123 = .ok (.bipush (-5), 2) := by decide +kernel
theorem dX7_two_125 : decode cX7_two 125 = .ok (.ireturn, 1) := by decide +kernel
theorem dX7_frost_0 : decode cX7_frost 0 = .ok (.aload_n 0, 1) := by decide +kernel
theorem dX7_frost_1 : decode cX7_frost 1 = .ok (.getfield 10, 3) := by decide +kernel
theorem dX7_frost_4 : decode cX7_frost 4 = .ok (.iload_n 1, 1) := by decide +kernel
theorem dX7_frost_5 : decode cX7_frost 5 = .ok (.invokevirtual 133, 3) := by decide +kernel
theorem dX7_frost_8 : decode cX7_frost 8 = .ok (.ifCond .eq 13, 3) := by decide +kernel
theorem dX7_frost_11 : decode cX7_frost 11 = .ok (.iload_n 2, 1) := by decide +kernel
theorem dX7_frost_12 : decode cX7_frost 12 = .ok (.iconst 0, 1) := by decide +kernel
theorem dX7_frost_13 : decode cX7_frost 13 = .ok (.bipush 10, 2) := by decide +kernel
theorem dX7_frost_15 : decode cX7_frost 15 = .ok (.invokestatic 70, 3) := by decide +kernel
theorem dX7_frost_18 : decode cX7_frost 18 = .ok (.ifCond .ne 10, 3) := by decide +kernel
theorem dX7_frost_21 : decode cX7_frost 21 = .ok (.aload_n 0, 1) := by decide +kernel
theorem dX7_frost_22 : decode cX7_frost 22 = .ok (.bipush (-2), 2) := by decide +kernel
theorem dX7_frost_24 : decode cX7_frost 24 = .ok (.invokevirtual 59, 3) := by decide +kernel
theorem dX7_frost_27 : decode cX7_frost 27 = .ok (.ireturn, 1) := by decide +kernel
theorem dX7_frost_28 : decode cX7_frost 28 = .ok (.iconst 0, 1) := by decide +kernel
theorem dX7_frost_29 : decode cX7_frost 29 = .ok (.istore_n 3, 1) := by decide +kernel
theorem dX7_frost_30 : decode cX7_frost 30 = .ok (.iconst 0, 1) := by decide +kernel
theorem dX7_frost_31 : decode cX7_frost 31 = .ok (.istore 4, 2) := by decide +kernel
theorem dX7_frost_33 : decode cX7_frost 33 = .ok (.iload 4, 2) := by decide +kernel
theorem dX7_frost_35 : decode cX7_frost 35 = .ok (.iconst 4, 1) := by decide +kernel
theorem dX7_frost_36 : decode cX7_frost 36 = .ok (.if_icmp .ge 22, 3) := by decide +kernel
theorem dX7_frost_39 : decode cX7_frost 39 = .ok (.iload_n 3, 1) := by decide +kernel
theorem dX7_frost_40 : decode cX7_frost 40 = .ok (.aload_n 0, 1) := by decide +kernel
theorem dX7_frost_41 : decode cX7_frost 41 = .ok (.getfield 10, 3) := by decide +kernel
theorem dX7_frost_44 : decode cX7_frost 44 = .ok (.iload_n 1, 1) := by decide +kernel
theorem dX7_frost_45 : decode cX7_frost 45 = .ok (.iload 4, 2) := by decide +kernel
theorem dX7_frost_47 : decode cX7_frost 47 = .ok (.invokevirtual 118, 3) := by decide +kernel
theorem dX7_frost_50 : decode cX7_frost 50 = .ok (.iadd, 1) := by decide +kernel
theorem dX7_frost_51 : decode cX7_frost 51 = .ok (.istore_n 3, 1) := by decide +kernel
theorem dX7_frost_52 : decode cX7_frost 52 = .ok (.iinc 4 1, 3) := by decide +kernel
theorem dX7_frost_55 : decode cX7_frost 55 = .ok (.goto (-22), 3) := by decide +kernel
theorem dX7_frost_58 : decode cX7_frost 58 = .ok (.aload_n 0, 1) := by decide +kernel
theorem dX7_frost_59 : decode cX7_frost 59 = .ok (.iload_n 3, 1) := by decide +kernel
theorem dX7_frost_60 : decode cX7_frost 60 = .ok (.bipush 10, 2) := by decide +kernel
theorem dX7_frost_62 : decode cX7_frost 62 = .ok (.iload_n 2, 1) := by decide +kernel
theorem dX7_frost_63 : decode cX7_frost 63 = .ok (.isub, 1) := by decide +kernel
theorem dX7_frost_64 : decode cX7_frost 64 = .ok (.imul, 1) := by decide +kernel
theorem dX7_frost_65 : decode cX7_frost 65 = .ok (.bipush 10, 2) := by decide +kernel
theorem dX7_frost_67 : decode cX7_frost 67 = .ok (.invokevirtual 216, 3) := by decide +kernel
theorem dX7_frost_70 : decode cX7_frost 70 = .ok (.iconst 1, 1) := by decide +kernel
theorem dX7_frost_71 : decode cX7_frost 71 = .ok (.ireturn, 1) := by decide +kernel
theorem dX7_streets_0 : decode cX7_streets 0 = .ok (.iload_n 1, 1) := by decide +kernel
theorem dX7_streets_1 : decode cX7_streets 1 = .ok (.iconst 0, 1) := by decide +kernel
theorem dX7_streets_2 : decode cX7_streets 2 = .ok (.ldc 219, 2) := by decide +kernel
theorem dX7_streets_4 : decode cX7_streets 4 = .ok (.invokestatic 70, 3) := by decide +kernel
theorem dX7_streets_7 : decode cX7_streets 7 = .ok (.ifCond .eq 13, 3) := by decide +kernel
theorem dX7_streets_10 : decode cX7_streets 10 = .ok (.iload_n 2, 1) := by decide +kernel
theorem dX7_streets_11 : decode cX7_streets 11 = .ok (.iconst 0, 1) := by decide +kernel
theorem dX7_streets_12 : decode cX7_streets 12 = .ok (.bipush 60, 2) := by decide +kernel
theorem dX7_streets_14 : decode cX7_streets 14 = .ok (.invokestatic 70, 3) := by decide +kernel
theorem dX7_streets_17 : decode cX7_streets 17 = .ok (.ifCond .ne 10, 3) := by decide +kernel
theorem dX7_streets_20 : decode cX7_streets 20 = .ok (.aload_n 0, 1) := by decide +kernel
theorem dX7_streets_21 : decode cX7_streets 21 = .ok (.bipush (-2), 2) := by decide +kernel
theorem dX7_streets_23 : decode cX7_streets 23 = .ok (.invokevirtual 59, 3) := by decide +kernel
theorem dX7_streets_26 : decode cX7_streets 26 = .ok (.ireturn, 1) := by decide +kernel
theorem dX7_streets_27 : decode cX7_streets 27 = .ok (.aload_n 0, 1) := by decide +kernel
theorem dX7_streets_28 : decode cX7_streets 28 = .ok (.getfield 16, 3) := by decide +kernel
theorem dX7_streets_31 : decode cX7_streets 31 = .ok (.aload_n 0, 1) := by decide +kernel
theorem dX7_streets_32 : decode cX7_streets 32 = .ok (.getfield 10, 3) := by decide +kernel
theorem dX7_streets_35 : decode cX7_streets 35 = .ok (.invokevirtual 150, 3) := by decide +kernel
theorem dX7_streets_38 : decode cX7_streets 38 = .ok (.iload_n 1, 1) := by decide +kernel
theorem dX7_streets_39 : decode cX7_streets 39 = .ok (.i2l, 1) := by decide +kernel
theorem dX7_streets_40 : decode cX7_streets 40 = .ok (.lstore_n 3, 1) := by decide +kernel
theorem dX7_streets_41 : decode cX7_streets 41 = .ok (.iconst 0, 1) := by decide +kernel
theorem dX7_streets_42 : decode cX7_streets 42 = .ok (.istore 5, 2) := by decide +kernel
theorem dX7_streets_44 : decode cX7_streets 44 = .ok (.iconst 0, 1) := by decide +kernel
theorem dX7_streets_45 : decode cX7_streets 45 = .ok (.istore 6, 2) := by decide +kernel
theorem dX7_streets_47 : decode cX7_streets 47 = .ok (.iload 6, 2) := by decide +kernel
theorem dX7_streets_49 : decode cX7_streets 49 = .ok (.iload_n 2, 1) := by decide +kernel
theorem dX7_streets_50 : decode cX7_streets 50 = .ok (.if_icmp .ge 108, 3) := by decide +kernel
theorem dX7_streets_53 : decode cX7_streets 53 = .ok (.lload_n 3, 1) := by decide +kernel
theorem dX7_streets_54 : decode cX7_streets 54 = .ok (.ldc2_w 220, 3) := by decide +kernel
theorem dX7_streets_57 : decode cX7_streets 57 = .ok (.lmul, 1) := by decide +kernel
theorem dX7_streets_58 : decode cX7_streets 58 = .ok (.ldc2_w 222, 3) := by decide +kernel
theorem dX7_streets_61 : decode cX7_streets 61 = .ok (.ladd, 1) := by decide +kernel
theorem dX7_streets_62 : decode cX7_streets 62 = .ok (.ldc2_w 224, 3) := by decide +kernel
theorem dX7_streets_65 : decode cX7_streets 65 = .ok (.lrem, 1) := by decide +kernel
theorem dX7_streets_66 : decode cX7_streets 66 = .ok (.lstore_n 3, 1) := by decide +kernel
theorem dX7_streets_67 : decode cX7_streets 67 = .ok (.lload_n 3, 1) := by decide +kernel
theorem dX7_streets_68 : decode cX7_streets 68 = .ok (.ldc2_w 226, 3) := by decide +kernel
theorem dX7_streets_71 : decode cX7_streets 71 = .ok (.ldiv, 1) := by decide +kernel
theorem dX7_streets_72 : decode cX7_streets 72 = .ok (.ldc2_w 228, 3) := by decide +kernel
theorem dX7_streets_75 : decode cX7_streets 75 = .ok (.lrem, 1) := by decide +kernel
theorem dX7_streets_76 : decode cX7_streets 76 = .ok (.l2i, 1) := by decide +kernel
theorem dX7_streets_77 : decode cX7_streets 77 = .ok (.istore 7, 2) := by decide +kernel
theorem dX7_streets_79 : decode cX7_streets 79 = .ok (.lload_n 3, 1) := by decide +kernel
theorem dX7_streets_80 : decode cX7_streets 80 = .ok (.ldc2_w 230, 3) := by decide +kernel
theorem dX7_streets_83 : decode cX7_streets 83 = .ok (.ldiv, 1) := by decide +kernel
theorem dX7_streets_84 : decode cX7_streets 84 = .ok (.ldc2_w 228, 3) := by decide +kernel
theorem dX7_streets_87 : decode cX7_streets 87 = .ok (.lrem, 1) := by decide +kernel
theorem dX7_streets_88 : decode cX7_streets 88 = .ok (.l2i, 1) := by decide +kernel
theorem dX7_streets_89 : decode cX7_streets 89 = .ok (.istore 8, 2) := by decide +kernel
theorem dX7_streets_91 : decode cX7_streets 91 = .ok (.lload_n 3, 1) := by decide +kernel
theorem dX7_streets_92 : decode cX7_streets 92 = .ok (.ldc2_w 232, 3) := by decide +kernel
theorem dX7_streets_95 : decode cX7_streets 95 = .ok (.ldiv, 1) := by decide +kernel
theorem dX7_streets_96 : decode cX7_streets 96 = .ok (.ldc2_w 234, 3) := by decide +kernel
theorem dX7_streets_99 : decode cX7_streets 99 = .ok (.lrem, 1) := by decide +kernel
theorem dX7_streets_100 : decode cX7_streets 100 = .ok (.l2i, 1) := by decide +kernel
theorem dX7_streets_101 : decode cX7_streets 101 = .ok (.iconst 1, 1) := by decide +kernel
theorem dX7_streets_102 : decode cX7_streets 102 = .ok (.iadd, 1) := by decide +kernel
theorem dX7_streets_103 : decode cX7_streets 103 = .ok (.istore 9, 2) := by decide +kernel
theorem dX7_streets_105 : decode cX7_streets 105 = .ok (.aload_n 0, 1) := by decide +kernel
theorem dX7_streets_106 : decode cX7_streets 106 = .ok (.getfield 16, 3) := by decide +kernel
theorem dX7_streets_109 : decode cX7_streets 109 = .ok (.iload 7, 2) := by decide +kernel
theorem dX7_streets_111 : decode cX7_streets 111 = .ok (.invokevirtual 133, 3) := by decide +kernel
theorem dX7_streets_114 : decode cX7_streets 114 = .ok (.ifCond .eq 21, 3) := by decide +kernel
theorem dX7_streets_117 : decode cX7_streets 117 = .ok (.iload 5, 2) := by decide +kernel
theorem dX7_streets_119 : decode cX7_streets 119 = .ok (.aload_n 0, 1) := by decide +kernel
theorem dX7_streets_120 : decode cX7_streets 120 = .ok (.getfield 16, 3) := by decide +kernel
theorem dX7_streets_123 : decode cX7_streets 123 = .ok (.iload 7, 2) := by decide +kernel
theorem dX7_streets_125 : decode cX7_streets 125 = .ok (.iload 8, 2) := by decide +kernel
theorem dX7_streets_127 : decode cX7_streets 127 = .ok (.iload 9, 2) := by decide +kernel
theorem dX7_streets_129 : decode cX7_streets 129 = .ok (.invokevirtual 108, 3) := by decide +kernel
theorem dX7_streets_132 : decode cX7_streets 132 = .ok (.iadd, 1) := by decide +kernel
theorem dX7_streets_133 : decode cX7_streets 133 = .ok (.istore 5, 2) := by decide +kernel
theorem dX7_streets_135 : decode cX7_streets 135 = .ok (.aload_n 0, 1) := by decide +kernel
theorem dX7_streets_136 : decode cX7_streets 136 = .ok (.getfield 16, 3) := by decide +kernel
theorem dX7_streets_139 : decode cX7_streets 139 = .ok (.aload_n 0, 1) := by decide +kernel
theorem dX7_streets_140 : decode cX7_streets 140 = .ok (.getfield 10, 3) := by decide +kernel
theorem dX7_streets_143 : decode cX7_streets 143 = .ok (.getfield 115, 3) := by decide +kernel
theorem dX7_streets_146 : decode cX7_streets 146 = .ok (.iload 6, 2) := by decide +kernel
theorem dX7_streets_148 : decode cX7_streets 148 = .ok (.iadd, 1) := by decide +kernel
theorem dX7_streets_149 : decode cX7_streets 149 = .ok (.invokevirtual 236, 3) := by decide +kernel
theorem dX7_streets_152 : decode cX7_streets 152 = .ok (.iinc 6 1, 3) := by decide +kernel
theorem dX7_streets_155 : decode cX7_streets 155 = .ok (.goto (-108), 3) := by decide +kernel
theorem dX7_streets_158 : decode cX7_streets 158 = .ok (.iload 5, 2) := by decide +kernel
theorem dX7_streets_160 : decode cX7_streets 160 = .ok (.ireturn, 1) := by decide +kernel
theorem dX7_part_0 : decode cX7_part 0 = .ok (.iload_n 1, 1) := by decide +kernel
theorem dX7_part_1 : decode cX7_part 1 = .ok (.iconst 0, 1) := by decide +kernel
theorem dX7_part_2 : decode cX7_part 2 = .ok (.iconst 1, 1) := by decide +kernel
theorem dX7_part_3 : decode cX7_part 3 = .ok (.invokestatic 70, 3) := by decide +kernel
theorem dX7_part_6 : decode cX7_part 6 = .ok (.ifCond .ne 11, 3) := by decide +kernel
theorem dX7_part_9 : decode cX7_part 9 = .ok (.aload_n 0, 1) := by decide +kernel
theorem dX7_part_10 : decode cX7_part 10 = .ok (.bipush (-2), 2) := by decide +kernel
theorem dX7_part_12 : decode cX7_part 12 = .ok (.invokevirtual 59, 3) := by decide +kernel
theorem dX7_part_15 : decode cX7_part 15 = .ok (.i2l, 1) := by decide +kernel
theorem dX7_part_16 : decode cX7_part 16 = .ok (.lreturn, 1) := by decide +kernel
theorem dX7_part_17 : decode cX7_part 17 = .ok (.iload_n 1, 1) := by decide +kernel
theorem dX7_part_18 : decode cX7_part 18 = .ok (.ifCond .ne 11, 3) := by decide +kernel
theorem dX7_part_21 : decode cX7_part 21 = .ok (.aload_n 0, 1) := by decide +kernel
theorem dX7_part_22 : decode cX7_part 22 = .ok (.getfield 48, 3) := by decide +kernel
theorem dX7_part_25 : decode cX7_part 25 = .ok (.i2l, 1) := by decide +kernel
theorem dX7_part_26 : decode cX7_part 26 = .ok (.goto 8, 3) := by decide +kernel
theorem dX7_part_29 : decode cX7_part 29 = .ok (.aload_n 0, 1) := by decide +kernel
theorem dX7_part_30 : decode cX7_part 30 = .ok (.getfield 52, 3) := by decide +kernel
theorem dX7_part_33 : decode cX7_part 33 = .ok (.i2l, 1) := by decide +kernel
theorem dX7_part_34 : decode cX7_part 34 = .ok (.lreturn, 1) := by decide +kernel
theorem dX7_image_0 : decode cX7_image 0 = .ok (.iload_n 1, 1) := by decide +kernel
theorem dX7_image_1 : decode cX7_image 1 = .ok (.iconst 0, 1) := by decide +kernel
theorem dX7_image_2 : decode cX7_image 2 = .ok (.iconst 1, 1) := by decide +kernel
theorem dX7_image_3 : decode cX7_image 3 = .ok (.invokestatic 70, 3) := by decide +kernel
theorem dX7_image_6 : decode cX7_image 6 = .ok (.ifCond .ne 10, 3) := by decide +kernel
theorem dX7_image_9 : decode cX7_image 9 = .ok (.aload_n 0, 1) := by decide +kernel
theorem dX7_image_10 : decode cX7_image 10 = .ok (.bipush (-2), 2) := by decide +kernel
theorem dX7_image_12 : decode cX7_image 12 = .ok (.invokevirtual 59, 3) := by decide +kernel
theorem dX7_image_15 : decode cX7_image 15 = .ok (.ireturn, 1) := by decide +kernel
theorem dX7_image_16 : decode cX7_image 16 = .ok (.aload_n 0, 1) := by decide +kernel
theorem dX7_image_17 : decode cX7_image 17 = .ok (.getfield 19, 3) := by decide +kernel
theorem dX7_image_20 : decode cX7_image 20 = .ok (.iload_n 1, 1) := by decide +kernel
theorem dX7_image_21 : decode cX7_image 21 = .ok (.aaload, 1) := by decide +kernel
theorem dX7_image_22 : decode cX7_image 22 = .ok (.astore_n 2, 1) := by decide +kernel
theorem dX7_image_23 : decode cX7_image 23 = .ok (.aload_n 2, 1) := by decide +kernel
theorem dX7_image_24 : decode cX7_image 24 = .ok (.ifnonnull 18, 3) := by decide +kernel
theorem dX7_image_27 : decode cX7_image 27 = .ok (.new 7, 3) := by decide +kernel
theorem dX7_image_30 : decode cX7_image 30 = .ok (.dup, 1) := by decide +kernel
theorem dX7_image_31 : decode cX7_image 31 = .ok (.invokespecial 9, 3) := by decide +kernel
theorem dX7_image_34 : decode cX7_image 34 = .ok (.astore_n 2, 1) := by decide +kernel
theorem dX7_image_35 : decode cX7_image 35 = .ok (.aload_n 0, 1) := by decide +kernel
theorem dX7_image_36 : decode cX7_image 36 = .ok (.getfield 19, 3) := by decide +kernel
theorem dX7_image_39 : decode cX7_image 39 = .ok (.iload_n 1, 1) := by decide +kernel
theorem dX7_image_40 : decode cX7_image 40 = .ok (.aload_n 2, 1) := by decide +kernel
theorem dX7_image_41 : decode cX7_image 41 = .ok (.aastore, 1) := by decide +kernel
theorem dX7_image_42 : decode cX7_image 42 = .ok (.aload_n 2, 1) := by decide +kernel
theorem dX7_image_43 : decode cX7_image 43 = .ok (.aload_n 0, 1) := by decide +kernel
theorem dX7_image_44 : decode cX7_image 44 = .ok (.getfield 10, 3) := by decide +kernel
theorem dX7_image_47 : decode cX7_image 47 = .ok (.invokevirtual 94, 3) := by decide +kernel
theorem dX7_image_50 : decode cX7_image 50 = .ok (.iconst 1, 1) := by decide +kernel
theorem dX7_image_51 : decode cX7_image 51 = .ok (.ireturn, 1) := by decide +kernel
theorem dX7_from_0 : decode cX7_from 0 = .ok (.iload_n 1, 1) := by decide +kernel
theorem dX7_from_1 : decode cX7_from 1 = .ok (.iconst 0, 1) := by decide +kernel
theorem dX7_from_2 : decode cX7_from 2 = .ok (.iconst 1, 1) := by decide +kernel
theorem dX7_from_3 : decode cX7_from 3 = .ok (.invokestatic 70, 3) := by decide +kernel
theorem dX7_from_6 : decode cX7_from 6 = .ok (.ifCond .ne 10, 3) := by decide +kernel
theorem dX7_from_9 : decode cX7_from 9 = .ok (.aload_n 0, 1) := by decide +kernel
theorem dX7_from_10 : decode cX7_from 10 = .ok (.bipush (-2), 2) := by decide +kernel
theorem dX7_from_12 : decode cX7_from 12 = .ok (.invokevirtual 59, 3) := by decide +kernel
theorem dX7_from_15 : decode cX7_from 15 = .ok (.ireturn, 1) := by decide +kernel
theorem dX7_from_16 : decode cX7_from 16 = .ok (.aload_n 0, 1) := by decide +kernel
theorem dX7_from_17 : decode cX7_from 17 = .ok (.getfield 19, 3) := by decide +kernel
theorem dX7_from_20 : decode cX7_from 20 = .ok (.iload_n 1, 1) := by decide +kernel
theorem dX7_from_21 : decode cX7_from 21 = .ok (.aaload, 1) := by decide +kernel
theorem dX7_from_22 : decode cX7_from 22 = .ok (.astore_n 2, 1) := by decide +kernel
theorem dX7_from_23 : decode cX7_from 23 = .ok (.aload_n 2, 1) := by decide +kernel
theorem dX7_from_24 : decode cX7_from 24 = .ok (.ifnonnull 10, 3) := by decide +kernel
theorem dX7_from_27 : decode cX7_from 27 = .ok (.aload_n 0, 1) := by decide +kernel
theorem dX7_from_28 : decode cX7_from 28 = .ok (.bipush (-3), 2) := by decide +kernel
theorem dX7_from_30 : decode cX7_from 30 = .ok (.invokevirtual 59, 3) := by decide +kernel
theorem dX7_from_33 : decode cX7_from 33 = .ok (.ireturn, 1) := by decide +kernel
theorem dX7_from_34 : decode cX7_from 34 = .ok (.aload_n 0, 1) := by decide +kernel
theorem dX7_from_35 : decode cX7_from 35 = .ok (.getfield 10, 3) := by decide +kernel
theorem dX7_from_38 : decode cX7_from 38 = .ok (.aload_n 2, 1) := by decide +kernel
theorem dX7_from_39 : decode cX7_from 39 = .ok (.invokevirtual 94, 3) := by decide +kernel
theorem dX7_from_42 : decode cX7_from 42 = .ok (.iconst 1, 1) := by decide +kernel
theorem dX7_from_43 : decode cX7_from 43 = .ok (.ireturn, 1) := by decide +kernel
theorem dX7_status_0 : decode cX7_status 0 = .ok (.iload_n 1, 1) := by decide +kernel
theorem dX7_status_1 : decode cX7_status 1 = .ok (.tableswitch 42 0 2 #[27, 32, 37], 27) := by decide +kernel
theorem dX7_status_28 : decode cX7_status 28 = .ok (.aload_n 0, 1) := by decide +kernel
theorem dX7_status_29 : decode cX7_status 29 = .ok (.getfield 239, 3) := by decide +kernel
theorem dX7_status_32 : decode cX7_status 32 = .ok (.ireturn, 1) := by decide +kernel
theorem dX7_status_33 : decode cX7_status 33 = .ok (.aload_n 0, 1) := by decide +kernel
theorem dX7_status_34 : decode cX7_status 34 = .ok (.getfield 242, 3) := by decide +kernel
theorem dX7_status_37 : decode cX7_status 37 = .ok (.ireturn, 1) := by decide +kernel
theorem dX7_status_38 : decode cX7_status 38 = .ok (.aload_n 0, 1) := by decide +kernel
theorem dX7_status_39 : decode cX7_status 39 = .ok (.getfield 245, 3) := by decide +kernel
theorem dX7_status_42 : decode cX7_status 42 = .ok (.ireturn, 1) := by decide +kernel
theorem dX7_status_43 : decode cX7_status 43 = .ok (.aload_n 0, 1) := by decide +kernel
theorem dX7_status_44 : decode cX7_status 44 = .ok (.bipush (-2), 2) := by decide +kernel
theorem dX7_status_46 : decode cX7_status 46 = .ok (.invokevirtual 59, 3) := by decide +kernel
theorem dX7_status_49 : decode cX7_status 49 = .ok (.pop, 1) := by decide +kernel
theorem dX7_status_50 : decode cX7_status 50 = .ok (.iconst (-1), 1) := by decide +kernel
theorem dX7_status_51 : decode cX7_status 51 = .ok (.ireturn, 1) := by decide +kernel
theorem dX7_count_0 : decode cX7_count 0 = .ok (.iload_n 1, 1) := by decide +kernel
theorem dX7_count_1 : decode cX7_count 1 = .ok (.iconst 0, 1) := by decide +kernel
theorem dX7_count_2 : decode cX7_count 2 = .ok (.bipush 6, 2) := by decide +kernel
theorem dX7_count_4 : decode cX7_count 4 = .ok (.invokestatic 70, 3) := by decide +kernel
theorem dX7_count_7 : decode cX7_count 7 = .ok (.ifCond .eq 11, 3) := by decide +kernel
theorem dX7_count_10 : decode cX7_count 10 = .ok (.aload_n 0, 1) := by decide +kernel
theorem dX7_count_11 : decode cX7_count 11 = .ok (.iload_n 1, 1) := by decide +kernel
theorem dX7_count_12 : decode cX7_count 12 = .ok (.invokevirtual 248, 3) := by decide +kernel
theorem dX7_count_15 : decode cX7_count 15 = .ok (.goto 9, 3) := by decide +kernel
theorem dX7_count_18 : decode cX7_count 18 = .ok (.aload_n 0, 1) := by decide +kernel
theorem dX7_count_19 : decode cX7_count 19 = .ok (.bipush (-2), 2) := by decide +kernel
theorem dX7_count_21 : decode cX7_count 21 = .ok (.invokevirtual 59, 3) := by decide +kernel
theorem dX7_count_24 : decode cX7_count 24 = .ok (.ireturn, 1) := by decide +kernel
theorem dX7_digest_0 : decode cX7_digest 0 = .ok (.ldc2_w 251, 3) := by decide +kernel
theorem dX7_digest_3 : decode cX7_digest 3 = .ok (.lstore_n 1, 1) := by decide +kernel
theorem dX7_digest_4 : decode cX7_digest 4 = .ok (.iconst 0, 1) := by decide +kernel
theorem dX7_digest_5 : decode cX7_digest 5 = .ok (.istore_n 3, 1) := by decide +kernel
theorem dX7_digest_6 : decode cX7_digest 6 = .ok (.iload_n 3, 1) := by decide +kernel
theorem dX7_digest_7 : decode cX7_digest 7 = .ok (.bipush 7, 2) := by decide +kernel
theorem dX7_digest_9 : decode cX7_digest 9 = .ok (.if_icmp .ge 19, 3) := by decide +kernel
theorem dX7_digest_12 : decode cX7_digest 12 = .ok (.lload_n 1, 1) := by decide +kernel
theorem dX7_digest_13 : decode cX7_digest 13 = .ok (.aload_n 0, 1) := by decide +kernel
theorem dX7_digest_14 : decode cX7_digest 14 = .ok (.iload_n 3, 1) := by decide +kernel
theorem dX7_digest_15 : decode cX7_digest 15 = .ok (.invokevirtual 248, 3) := by decide +kernel
theorem dX7_digest_18 : decode cX7_digest 18 = .ok (.invokestatic 253, 3) := by decide +kernel
theorem dX7_digest_21 : decode cX7_digest 21 = .ok (.lstore_n 1, 1) := by decide +kernel
theorem dX7_digest_22 : decode cX7_digest 22 = .ok (.iinc 3 1, 3) := by decide +kernel
theorem dX7_digest_25 : decode cX7_digest 25 = .ok (.goto (-19), 3) := by decide +kernel
theorem dX7_digest_28 : decode cX7_digest 28 = .ok (.iconst 0, 1) := by decide +kernel
theorem dX7_digest_29 : decode cX7_digest 29 = .ok (.istore_n 3, 1) := by decide +kernel
theorem dX7_digest_30 : decode cX7_digest 30 = .ok (.iload_n 3, 1) := by decide +kernel
theorem dX7_digest_31 : decode cX7_digest 31 = .ok (.aload_n 0, 1) := by decide +kernel
theorem dX7_digest_32 : decode cX7_digest 32 = .ok (.getfield 10, 3) := by decide +kernel
theorem dX7_digest_35 : decode cX7_digest 35 = .ok (.getfield 63, 3) := by decide +kernel
theorem dX7_digest_38 : decode cX7_digest 38 = .ok (.if_icmp .ge 53, 3) := by decide +kernel
theorem dX7_digest_41 : decode cX7_digest 41 = .ok (.lload_n 1, 1) := by decide +kernel
theorem dX7_digest_42 : decode cX7_digest 42 = .ok (.aload_n 0, 1) := by decide +kernel
theorem dX7_digest_43 : decode cX7_digest 43 = .ok (.getfield 10, 3) := by decide +kernel
theorem dX7_digest_46 : decode cX7_digest 46 = .ok (.getfield 136, 3) := by decide +kernel
theorem dX7_digest_49 : decode cX7_digest 49 = .ok (.iload_n 3, 1) := by decide +kernel
theorem dX7_digest_50 : decode cX7_digest 50 = .ok (.iaload, 1) := by decide +kernel
theorem dX7_digest_51 : decode cX7_digest 51 = .ok (.invokestatic 253, 3) := by decide +kernel
theorem dX7_digest_54 : decode cX7_digest 54 = .ok (.lstore_n 1, 1) := by decide +kernel
theorem dX7_digest_55 : decode cX7_digest 55 = .ok (.iconst 0, 1) := by decide +kernel
theorem dX7_digest_56 : decode cX7_digest 56 = .ok (.istore 4, 2) := by decide +kernel
theorem dX7_digest_58 : decode cX7_digest 58 = .ok (.iload 4, 2) := by decide +kernel
theorem dX7_digest_60 : decode cX7_digest 60 = .ok (.iconst 4, 1) := by decide +kernel
theorem dX7_digest_61 : decode cX7_digest 61 = .ok (.if_icmp .ge 24, 3) := by decide +kernel
theorem dX7_digest_64 : decode cX7_digest 64 = .ok (.lload_n 1, 1) := by decide +kernel
theorem dX7_digest_65 : decode cX7_digest 65 = .ok (.aload_n 0, 1) := by decide +kernel
theorem dX7_digest_66 : decode cX7_digest 66 = .ok (.getfield 10, 3) := by decide +kernel
theorem dX7_digest_69 : decode cX7_digest 69 = .ok (.iload_n 3, 1) := by decide +kernel
theorem dX7_digest_70 : decode cX7_digest 70 = .ok (.iload 4, 2) := by decide +kernel
theorem dX7_digest_72 : decode cX7_digest 72 = .ok (.invokevirtual 118, 3) := by decide +kernel
theorem dX7_digest_75 : decode cX7_digest 75 = .ok (.invokestatic 253, 3) := by decide +kernel
theorem dX7_digest_78 : decode cX7_digest 78 = .ok (.lstore_n 1, 1) := by decide +kernel
theorem dX7_digest_79 : decode cX7_digest 79 = .ok (.iinc 4 1, 3) := by decide +kernel
theorem dX7_digest_82 : decode cX7_digest 82 = .ok (.goto (-24), 3) := by decide +kernel
theorem dX7_digest_85 : decode cX7_digest 85 = .ok (.iinc 3 1, 3) := by decide +kernel
theorem dX7_digest_88 : decode cX7_digest 88 = .ok (.goto (-58), 3) := by decide +kernel
theorem dX7_digest_91 : decode cX7_digest 91 = .ok (.lload_n 1, 1) := by decide +kernel
theorem dX7_digest_92 : decode cX7_digest 92 = .ok (.aload_n 0, 1) := by decide +kernel
theorem dX7_digest_93 : decode cX7_digest 93 = .ok (.getfield 10, 3) := by decide +kernel
theorem dX7_digest_96 : decode cX7_digest 96 = .ok (.getfield 184, 3) := by decide +kernel
theorem dX7_digest_99 : decode cX7_digest 99 = .ok (.invokestatic 257, 3) := by decide +kernel
theorem dX7_digest_102 : decode cX7_digest 102 = .ok (.lstore_n 1, 1) := by decide +kernel
theorem dX7_digest_103 : decode cX7_digest 103 = .ok (.lload_n 1, 1) := by decide +kernel
theorem dX7_digest_104 : decode cX7_digest 104 = .ok (.aload_n 0, 1) := by decide +kernel
theorem dX7_digest_105 : decode cX7_digest 105 = .ok (.getfield 10, 3) := by decide +kernel
theorem dX7_digest_108 : decode cX7_digest 108 = .ok (.getfield 194, 3) := by decide +kernel
theorem dX7_digest_111 : decode cX7_digest 111 = .ok (.invokestatic 257, 3) := by decide +kernel
theorem dX7_digest_114 : decode cX7_digest 114 = .ok (.lstore_n 1, 1) := by decide +kernel
theorem dX7_digest_115 : decode cX7_digest 115 = .ok (.lload_n 1, 1) := by decide +kernel
theorem dX7_digest_116 : decode cX7_digest 116 = .ok (.aload_n 0, 1) := by decide +kernel
theorem dX7_digest_117 : decode cX7_digest 117 = .ok (.getfield 48, 3) := by decide +kernel
theorem dX7_digest_120 : decode cX7_digest 120 = .ok (.invokestatic 253, 3) := by decide +kernel
theorem dX7_digest_123 : decode cX7_digest 123 = .ok (.aload_n 0, 1) := by decide +kernel
theorem dX7_digest_124 : decode cX7_digest 124 = .ok (.getfield 52, 3) := by decide +kernel
theorem dX7_digest_127 : decode cX7_digest 127 = .ok (.invokestatic 253, 3) := by decide +kernel
theorem dX7_digest_130 : decode cX7_digest 130 = .ok (.lreturn, 1) := by decide +kernel
theorem dX7_refuse_0 : decode cX7_refuse 0 = .ok (.iload_n 1, 1) := by decide +kernel
theorem dX7_refuse_1 : decode cX7_refuse 1 = .ok (.lookupswitch 53 #[(-3, 40), (-2, 27)], 27) := by decide +kernel
theorem dX7_refuse_28 : decode cX7_refuse 28 = .ok (.aload_n 0, 1) := by decide +kernel
theorem dX7_refuse_29 : decode cX7_refuse 29 = .ok (.dup, 1) := by decide +kernel
theorem dX7_refuse_30 : decode cX7_refuse 30 = .ok (.getfield 239, 3) := by decide +kernel
theorem dX7_refuse_33 : decode cX7_refuse 33 = .ok (.iconst 1, 1) := by decide +kernel
theorem dX7_refuse_34 : decode cX7_refuse 34 = .ok (.iadd, 1) := by decide +kernel
theorem dX7_refuse_35 : decode cX7_refuse 35 = .ok (.putfield 239, 3) := by decide +kernel
theorem dX7_refuse_38 : decode cX7_refuse 38 = .ok (.goto 26, 3) := by decide +kernel
theorem dX7_refuse_41 : decode cX7_refuse 41 = .ok (.aload_n 0, 1) := by decide +kernel
theorem dX7_refuse_42 : decode cX7_refuse 42 = .ok (.dup, 1) := by decide +kernel
theorem dX7_refuse_43 : decode cX7_refuse 43 = .ok (.getfield 242, 3) := by decide +kernel
theorem dX7_refuse_46 : decode cX7_refuse 46 = .ok (.iconst 1, 1) := by decide +kernel
theorem dX7_refuse_47 : decode cX7_refuse 47 = .ok (.iadd, 1) := by decide +kernel
theorem dX7_refuse_48 : decode cX7_refuse 48 = .ok (.putfield 242, 3) := by decide +kernel
theorem dX7_refuse_51 : decode cX7_refuse 51 = .ok (.goto 13, 3) := by decide +kernel
theorem dX7_refuse_54 : decode cX7_refuse 54 = .ok (.aload_n 0, 1) := by decide +kernel
theorem dX7_refuse_55 : decode cX7_refuse 55 = .ok (.dup, 1) := by decide +kernel
theorem dX7_refuse_56 : decode cX7_refuse 56 = .ok (.getfield 245, 3) := by decide +kernel
theorem dX7_refuse_59 : decode cX7_refuse 59 = .ok (.iconst 1, 1) := by decide +kernel
theorem dX7_refuse_60 : decode cX7_refuse 60 = .ok (.iadd, 1) := by decide +kernel
theorem dX7_refuse_61 : decode cX7_refuse 61 = .ok (.putfield 245, 3) := by decide +kernel
theorem dX7_refuse_64 : decode cX7_refuse 64 = .ok (.iload_n 1, 1) := by decide +kernel
theorem dX7_refuse_65 : decode cX7_refuse 65 = .ok (.ireturn, 1) := by decide +kernel
theorem dX7_refuseTenBelow_0 : decode cX7_refuseTenBelow 0 = .ok (.aload_n 0, 1) := by decide +kernel
theorem dX7_refuseTenBelow_1 : decode cX7_refuseTenBelow 1 = .ok (.bipush (-2), 2) := by decide +kernel
theorem dX7_refuseTenBelow_3 : decode cX7_refuseTenBelow 3 = .ok (.invokevirtual 59, 3) := by decide +kernel
theorem dX7_refuseTenBelow_6 : decode cX7_refuseTenBelow 6 = .ok (.pop, 1) := by decide +kernel
theorem dX7_refuseTenBelow_7 : decode cX7_refuseTenBelow 7 = .ok (.bipush (-10), 2) := by decide +kernel
theorem dX7_refuseTenBelow_9 : decode cX7_refuseTenBelow 9 = .ok (.ireturn, 1) := by decide +kernel
theorem dX7_isPlace_0 : decode cX7_isPlace 0 = .ok (.aload_n 0, 1) := by decide +kernel
theorem dX7_isPlace_1 : decode cX7_isPlace 1 = .ok (.getfield 10, 3) := by decide +kernel
theorem dX7_isPlace_4 : decode cX7_isPlace 4 = .ok (.iload_n 1, 1) := by decide +kernel
theorem dX7_isPlace_5 : decode cX7_isPlace 5 = .ok (.invokevirtual 133, 3) := by decide +kernel
theorem dX7_isPlace_8 : decode cX7_isPlace 8 = .ok (.ifCond .eq 14, 3) := by decide +kernel
theorem dX7_isPlace_11 : decode cX7_isPlace 11 = .ok (.iload_n 2, 1) := by decide +kernel
theorem dX7_isPlace_12 : decode cX7_isPlace 12 = .ok (.invokestatic 163, 3) := by decide +kernel
theorem dX7_isPlace_15 : decode cX7_isPlace 15 = .ok (.ifCond .eq 7, 3) := by decide +kernel
theorem dX7_isPlace_18 : decode cX7_isPlace 18 = .ok (.iconst 1, 1) := by decide +kernel
theorem dX7_isPlace_19 : decode cX7_isPlace 19 = .ok (.goto 4, 3) := by decide +kernel
theorem dX7_isPlace_22 : decode cX7_isPlace 22 = .ok (.iconst 0, 1) := by decide +kernel
theorem dX7_isPlace_23 : decode cX7_isPlace 23 = .ok (.ireturn, 1) := by decide +kernel
theorem dX7_isWithin_0 : decode cX7_isWithin 0 = .ok (.iload_n 0, 1) := by decide +kernel
theorem dX7_isWithin_1 : decode cX7_isWithin 1 = .ok (.iload_n 1, 1) := by decide +kernel
theorem dX7_isWithin_2 : decode cX7_isWithin 2 = .ok (.if_icmp .lt 12, 3) := by decide +kernel
theorem dX7_isWithin_5 : decode cX7_isWithin 5 = .ok (.iload_n 0, 1) := by decide +kernel
theorem dX7_isWithin_6 : decode cX7_isWithin 6 = .ok (.iload_n 2, 1) := by decide +kernel
theorem dX7_isWithin_7 : decode cX7_isWithin 7 = .ok (.if_icmp .gt 7, 3) := by decide +kernel
theorem dX7_isWithin_10 : decode cX7_isWithin 10 = .ok (.iconst 1, 1) := by decide +kernel
theorem dX7_isWithin_11 : decode cX7_isWithin 11 = .ok (.goto 4, 3) := by decide +kernel
theorem dX7_isWithin_14 : decode cX7_isWithin 14 = .ok (.iconst 0, 1) := by decide +kernel
theorem dX7_isWithin_15 : decode cX7_isWithin 15 = .ok (.ireturn, 1) := by decide +kernel
theorem dX7_isTemper_0 : decode cX7_isTemper 0 = .ok (.iload_n 0, 1) := by decide +kernel
theorem dX7_isTemper_1 : decode cX7_isTemper 1 = .ok (.iconst 0, 1) := by decide +kernel
theorem dX7_isTemper_2 : decode cX7_isTemper 2 = .ok (.iconst 3, 1) := by decide +kernel
theorem dX7_isTemper_3 : decode cX7_isTemper 3 = .ok (.invokestatic 70, 3) := by decide +kernel
theorem dX7_isTemper_6 : decode cX7_isTemper 6 = .ok (.ireturn, 1) := by decide +kernel
theorem dX7_isMemory_0 : decode cX7_isMemory 0 = .ok (.iload_n 0, 1) := by decide +kernel
theorem dX7_isMemory_1 : decode cX7_isMemory 1 = .ok (.iconst 0, 1) := by decide +kernel
theorem dX7_isMemory_2 : decode cX7_isMemory 2 = .ok (.bipush 20, 2) := by decide +kernel
theorem dX7_isMemory_4 : decode cX7_isMemory 4 = .ok (.invokestatic 70, 3) := by decide +kernel
theorem dX7_isMemory_7 : decode cX7_isMemory 7 = .ok (.ireturn, 1) := by decide +kernel
theorem dX7_isHand_0 : decode cX7_isHand 0 = .ok (.iload_n 0, 1) := by decide +kernel
theorem dX7_isHand_1 : decode cX7_isHand 1 = .ok (.iconst 0, 1) := by decide +kernel
theorem dX7_isHand_2 : decode cX7_isHand 2 = .ok (.bipush 9, 2) := by decide +kernel
theorem dX7_isHand_4 : decode cX7_isHand 4 = .ok (.invokestatic 70, 3) := by decide +kernel
theorem dX7_isHand_7 : decode cX7_isHand 7 = .ok (.ireturn, 1) := by decide +kernel
theorem dX7_isBlows_0 : decode cX7_isBlows 0 = .ok (.iload_n 0, 1) := by decide +kernel
theorem dX7_isBlows_1 : decode cX7_isBlows 1 = .ok (.iconst 1, 1) := by decide +kernel
theorem dX7_isBlows_2 : decode cX7_isBlows 2 = .ok (.iconst 5, 1) := by decide +kernel
theorem dX7_isBlows_3 : decode cX7_isBlows 3 = .ok (.invokestatic 70, 3) := by decide +kernel
theorem dX7_isBlows_6 : decode cX7_isBlows 6 = .ok (.ireturn, 1) := by decide +kernel
theorem dX7_isUp_0 : decode cX7_isUp 0 = .ok (.iload_n 0, 1) := by decide +kernel
theorem dX7_isUp_1 : decode cX7_isUp 1 = .ok (.iconst 0, 1) := by decide +kernel
theorem dX7_isUp_2 : decode cX7_isUp 2 = .ok (.bipush 50, 2) := by decide +kernel
theorem dX7_isUp_4 : decode cX7_isUp 4 = .ok (.invokestatic 70, 3) := by decide +kernel
theorem dX7_isUp_7 : decode cX7_isUp 7 = .ok (.ireturn, 1) := by decide +kernel
theorem dX7_tally_0 : decode cX7_tally 0 = .ok (.iload_n 1, 1) := by decide +kernel
theorem dX7_tally_1 : decode cX7_tally 1 = .ok (.tableswitch 96 0 5 #[39, 47, 55, 63, 74, 85], 39) := by decide +kernel
theorem dX7_tally_40 : decode cX7_tally 40 = .ok (.aload_n 0, 1) := by decide +kernel
theorem dX7_tally_41 : decode cX7_tally 41 = .ok (.getfield 10, 3) := by decide +kernel
theorem dX7_tally_44 : decode cX7_tally 44 = .ok (.getfield 63, 3) := by decide +kernel
theorem dX7_tally_47 : decode cX7_tally 47 = .ok (.ireturn, 1) := by decide +kernel
theorem dX7_tally_48 : decode cX7_tally 48 = .ok (.aload_n 0, 1) := by decide +kernel
theorem dX7_tally_49 : decode cX7_tally 49 = .ok (.getfield 10, 3) := by decide +kernel
theorem dX7_tally_52 : decode cX7_tally 52 = .ok (.getfield 115, 3) := by decide +kernel
theorem dX7_tally_55 : decode cX7_tally 55 = .ok (.ireturn, 1) := by decide +kernel
theorem dX7_tally_56 : decode cX7_tally 56 = .ok (.aload_n 0, 1) := by decide +kernel
theorem dX7_tally_57 : decode cX7_tally 57 = .ok (.getfield 10, 3) := by decide +kernel
theorem dX7_tally_60 : decode cX7_tally 60 = .ok (.getfield 126, 3) := by decide +kernel
theorem dX7_tally_63 : decode cX7_tally 63 = .ok (.ireturn, 1) := by decide +kernel
theorem dX7_tally_64 : decode cX7_tally 64 = .ok (.aload_n 0, 1) := by decide +kernel
theorem dX7_tally_65 : decode cX7_tally 65 = .ok (.getfield 10, 3) := by decide +kernel
theorem dX7_tally_68 : decode cX7_tally 68 = .ok (.getfield 184, 3) := by decide +kernel
theorem dX7_tally_71 : decode cX7_tally 71 = .ok (.getfield 193, 3) := by decide +kernel
theorem dX7_tally_74 : decode cX7_tally 74 = .ok (.ireturn, 1) := by decide +kernel
theorem dX7_tally_75 : decode cX7_tally 75 = .ok (.aload_n 0, 1) := by decide +kernel
theorem dX7_tally_76 : decode cX7_tally 76 = .ok (.getfield 10, 3) := by decide +kernel
theorem dX7_tally_79 : decode cX7_tally 79 = .ok (.getfield 194, 3) := by decide +kernel
theorem dX7_tally_82 : decode cX7_tally 82 = .ok (.getfield 193, 3) := by decide +kernel
theorem dX7_tally_85 : decode cX7_tally 85 = .ok (.ireturn, 1) := by decide +kernel
theorem dX7_tally_86 : decode cX7_tally 86 = .ok (.aload_n 0, 1) := by decide +kernel
theorem dX7_tally_87 : decode cX7_tally 87 = .ok (.getfield 10, 3) := by decide +kernel
theorem dX7_tally_90 : decode cX7_tally 90 = .ok (.getfield 261, 3) := by decide +kernel
theorem dX7_tally_93 : decode cX7_tally 93 = .ok (.getfield 265, 3) := by decide +kernel
theorem dX7_tally_96 : decode cX7_tally 96 = .ok (.ireturn, 1) := by decide +kernel
theorem dX7_tally_97 : decode cX7_tally 97 = .ok (.aload_n 0, 1) := by decide +kernel
theorem dX7_tally_98 : decode cX7_tally 98 = .ok (.getfield 26, 3) := by decide +kernel
theorem dX7_tally_101 : decode cX7_tally 101 = .ok (.getfield 84, 3) := by decide +kernel
theorem dX7_tally_104 : decode cX7_tally 104 = .ok (.ireturn, 1) := by decide +kernel
theorem dX7_mixed_0 : decode cX7_mixed 0 = .ok (.ldc2_w 268, 3) := by decide +kernel
theorem dX7_mixed_3 : decode cX7_mixed 3 = .ok (.lload_n 0, 1) := by decide +kernel
theorem dX7_mixed_4 : decode cX7_mixed 4 = .ok (.lmul, 1) := by decide +kernel
theorem dX7_mixed_5 : decode cX7_mixed 5 = .ok (.iload_n 2, 1) := by decide +kernel
theorem dX7_mixed_6 : decode cX7_mixed 6 = .ok (.i2l, 1) := by decide +kernel
theorem dX7_mixed_7 : decode cX7_mixed 7 = .ok (.ladd, 1) := by decide +kernel
theorem dX7_mixed_8 : decode cX7_mixed 8 = .ok (.lreturn, 1) := by decide +kernel
theorem dX7_mixedRows_0 : decode cX7_mixedRows 0 = .ok (.lload_n 0, 1) := by decide +kernel
theorem dX7_mixedRows_1 : decode cX7_mixedRows 1 = .ok (.lstore_n 3, 1) := by decide +kernel
theorem dX7_mixedRows_2 : decode cX7_mixedRows 2 = .ok (.iconst 0, 1) := by decide +kernel
theorem dX7_mixedRows_3 : decode cX7_mixedRows 3 = .ok (.istore 5, 2) := by decide +kernel
theorem dX7_mixedRows_5 : decode cX7_mixedRows 5 = .ok (.iload 5, 2) := by decide +kernel
theorem dX7_mixedRows_7 : decode cX7_mixedRows 7 = .ok (.iconst 4, 1) := by decide +kernel
theorem dX7_mixedRows_8 : decode cX7_mixedRows 8 = .ok (.aload_n 2, 1) := by decide +kernel
theorem dX7_mixedRows_9 : decode cX7_mixedRows 9 = .ok (.getfield 193, 3) := by decide +kernel
theorem dX7_mixedRows_12 : decode cX7_mixedRows 12 = .ok (.imul, 1) := by decide +kernel
theorem dX7_mixedRows_13 : decode cX7_mixedRows 13 = .ok (.if_icmp .ge 21, 3) := by decide +kernel
theorem dX7_mixedRows_16 : decode cX7_mixedRows 16 = .ok (.lload_n 3, 1) := by decide +kernel
theorem dX7_mixedRows_17 : decode cX7_mixedRows 17 = .ok (.aload_n 2, 1) := by decide +kernel
theorem dX7_mixedRows_18 : decode cX7_mixedRows 18 = .ok (.getfield 270, 3) := by decide +kernel
theorem dX7_mixedRows_21 : decode cX7_mixedRows 21 = .ok (.iload 5, 2) := by decide +kernel
theorem dX7_mixedRows_23 : decode cX7_mixedRows 23 = .ok (.iaload, 1) := by decide +kernel
theorem dX7_mixedRows_24 : decode cX7_mixedRows 24 = .ok (.invokestatic 253, 3) := by decide +kernel
theorem dX7_mixedRows_27 : decode cX7_mixedRows 27 = .ok (.lstore_n 3, 1) := by decide +kernel
theorem dX7_mixedRows_28 : decode cX7_mixedRows 28 = .ok (.iinc 5 1, 3) := by decide +kernel
theorem dX7_mixedRows_31 : decode cX7_mixedRows 31 = .ok (.goto (-26), 3) := by decide +kernel
theorem dX7_mixedRows_34 : decode cX7_mixedRows 34 = .ok (.lload_n 3, 1) := by decide +kernel
theorem dX7_mixedRows_35 : decode cX7_mixedRows 35 = .ok (.lreturn, 1) := by decide +kernel
theorem dX7_setFraction_0 : decode cX7_setFraction 0 = .ok (.iload_n 1, 1) := by decide +kernel
theorem dX7_setFraction_1 : decode cX7_setFraction 1 = .ok (.iload_n 2, 1) := by decide +kernel
theorem dX7_setFraction_2 : decode cX7_setFraction 2 = .ok (.invokestatic 273, 3) := by decide +kernel
theorem dX7_setFraction_5 : decode cX7_setFraction 5 = .ok (.istore_n 3, 1) := by decide +kernel
theorem dX7_setFraction_6 : decode cX7_setFraction 6 = .ok (.iload_n 3, 1) := by decide +kernel
theorem dX7_setFraction_7 : decode cX7_setFraction 7 = .ok (.ifCond .le 17, 3) := by decide +kernel
theorem dX7_setFraction_10 : decode cX7_setFraction 10 = .ok (.aload_n 0, 1) := by decide +kernel
theorem dX7_setFraction_11 : decode cX7_setFraction 11 = .ok (.iload_n 1, 1) := by decide +kernel
theorem dX7_setFraction_12 : decode cX7_setFraction 12 = .ok (.iload_n 3, 1) := by decide +kernel
theorem dX7_setFraction_13 : decode cX7_setFraction 13 = .ok (.idiv, 1) := by decide +kernel
theorem dX7_setFraction_14 : decode cX7_setFraction 14 = .ok (.putfield 48, 3) := by decide +kernel
theorem dX7_setFraction_17 : decode cX7_setFraction 17 = .ok (.aload_n 0, 1) := by decide +kernel
theorem dX7_setFraction_18 : decode cX7_setFraction 18 = .ok (.iload_n 2, 1) := by decide +kernel
theorem dX7_setFraction_19 : decode cX7_setFraction 19 = .ok (.iload_n 3, 1) := by decide +kernel
theorem dX7_setFraction_20 : decode cX7_setFraction 20 = .ok (.idiv, 1) := by decide +kernel
theorem dX7_setFraction_21 : decode cX7_setFraction 21 = .ok (.putfield 52, 3) := by decide +kernel
theorem dX7_setFraction_24 : decode cX7_setFraction 24 = .ok (.return_, 1) := by decide +kernel
theorem dX7_greatestCommon_0 : decode cX7_greatestCommon 0 = .ok (.iload_n 0, 1) := by decide +kernel
theorem dX7_greatestCommon_1 : decode cX7_greatestCommon 1 = .ok (.istore_n 2, 1) := by decide +kernel
theorem dX7_greatestCommon_2 : decode cX7_greatestCommon 2 = .ok (.iload_n 1, 1) := by decide +kernel
theorem dX7_greatestCommon_3 : decode cX7_greatestCommon 3 = .ok (.istore_n 3, 1) := by decide +kernel
theorem dX7_greatestCommon_4 : decode cX7_greatestCommon 4 = .ok (.iconst 0, 1) := by decide +kernel
theorem dX7_greatestCommon_5 : decode cX7_greatestCommon 5 = .ok (.istore 4, 2) := by decide +kernel
theorem dX7_greatestCommon_7 : decode cX7_greatestCommon 7 = .ok (.iload 4, 2) := by decide +kernel
theorem dX7_greatestCommon_9 : decode cX7_greatestCommon 9 = .ok (.sipush 1000, 3) := by decide +kernel
theorem dX7_greatestCommon_12 : decode cX7_greatestCommon 12 = .ok (.if_icmp .ge 23, 3) := by decide +kernel
theorem dX7_greatestCommon_15 : decode cX7_greatestCommon 15 = .ok (.iload_n 3, 1) := by decide +kernel
theorem dX7_greatestCommon_16 : decode cX7_greatestCommon 16 = .ok (.ifCond .eq 19, 3) := by decide +kernel
theorem dX7_greatestCommon_19 : decode cX7_greatestCommon 19 = .ok (.iload_n 2, 1) := by decide +kernel
theorem dX7_greatestCommon_20 : decode cX7_greatestCommon 20 = .ok (.iload_n 3, 1) := by decide +kernel
theorem dX7_greatestCommon_21 : decode cX7_greatestCommon 21 = .ok (.irem, 1) := by decide +kernel
theorem dX7_greatestCommon_22 : decode cX7_greatestCommon 22 = .ok (.istore 5, 2) := by decide +kernel
theorem dX7_greatestCommon_24 : decode cX7_greatestCommon 24 = .ok (.iload_n 3, 1) := by decide +kernel
theorem dX7_greatestCommon_25 : decode cX7_greatestCommon 25 = .ok (.istore_n 2, 1) := by decide +kernel
theorem dX7_greatestCommon_26 : decode cX7_greatestCommon 26 = .ok (.iload 5, 2) := by decide +kernel
theorem dX7_greatestCommon_28 : decode cX7_greatestCommon 28 = .ok (.istore_n 3, 1) := by decide +kernel
theorem dX7_greatestCommon_29 : decode cX7_greatestCommon 29 = .ok (.iinc 4 1, 3) := by decide +kernel
theorem dX7_greatestCommon_32 : decode cX7_greatestCommon 32 = .ok (.goto (-25), 3) := by decide +kernel
theorem dX7_greatestCommon_35 : decode cX7_greatestCommon 35 = .ok (.iload_n 2, 1) := by decide +kernel
theorem dX7_greatestCommon_36 : decode cX7_greatestCommon 36 = .ok (.ireturn, 1) := by decide +kernel
theorem dX7_kindsThatFit_0 : decode cX7_kindsThatFit 0 = .ok (.iconst 0, 1) := by decide +kernel
theorem dX7_kindsThatFit_1 : decode cX7_kindsThatFit 1 = .ok (.istore_n 2, 1) := by decide +kernel
theorem dX7_kindsThatFit_2 : decode cX7_kindsThatFit 2 = .ok (.iconst 0, 1) := by decide +kernel
theorem dX7_kindsThatFit_3 : decode cX7_kindsThatFit 3 = .ok (.istore_n 3, 1) := by decide +kernel
theorem dX7_kindsThatFit_4 : decode cX7_kindsThatFit 4 = .ok (.iload_n 3, 1) := by decide +kernel
theorem dX7_kindsThatFit_5 : decode cX7_kindsThatFit 5 = .ok (.bipush 6, 2) := by decide +kernel
theorem dX7_kindsThatFit_7 : decode cX7_kindsThatFit 7 = .ok (.if_icmp .ge 24, 3) := by decide +kernel
theorem dX7_kindsThatFit_10 : decode cX7_kindsThatFit 10 = .ok (.aload_n 0, 1) := by decide +kernel
theorem dX7_kindsThatFit_11 : decode cX7_kindsThatFit 11 = .ok (.iload_n 1, 1) := by decide +kernel
theorem dX7_kindsThatFit_12 : decode cX7_kindsThatFit 12 = .ok (.iload_n 3, 1) := by decide +kernel
theorem dX7_kindsThatFit_13 : decode cX7_kindsThatFit 13 = .ok (.invokevirtual 276, 3) := by decide +kernel
theorem dX7_kindsThatFit_16 : decode cX7_kindsThatFit 16 = .ok (.ifCond .eq 9, 3) := by decide +kernel
theorem dX7_kindsThatFit_19 : decode cX7_kindsThatFit 19 = .ok (.iload_n 2, 1) := by decide +kernel
theorem dX7_kindsThatFit_20 : decode cX7_kindsThatFit 20 = .ok (.iconst 1, 1) := by decide +kernel
theorem dX7_kindsThatFit_21 : decode cX7_kindsThatFit 21 = .ok (.iload_n 3, 1) := by decide +kernel
theorem dX7_kindsThatFit_22 : decode cX7_kindsThatFit 22 = .ok (.ishl, 1) := by decide +kernel
theorem dX7_kindsThatFit_23 : decode cX7_kindsThatFit 23 = .ok (.ior, 1) := by decide +kernel
theorem dX7_kindsThatFit_24 : decode cX7_kindsThatFit 24 = .ok (.istore_n 2, 1) := by decide +kernel
theorem dX7_kindsThatFit_25 : decode cX7_kindsThatFit 25 = .ok (.iinc 3 1, 3) := by decide +kernel
theorem dX7_kindsThatFit_28 : decode cX7_kindsThatFit 28 = .ok (.goto (-24), 3) := by decide +kernel
theorem dX7_kindsThatFit_31 : decode cX7_kindsThatFit 31 = .ok (.iload_n 2, 1) := by decide +kernel
theorem dX7_kindsThatFit_32 : decode cX7_kindsThatFit 32 = .ok (.ireturn, 1) := by decide +kernel
theorem dX7_notesFit_0 : decode cX7_notesFit 0 = .ok (.aload_n 0, 1) := by decide +kernel
theorem dX7_notesFit_1 : decode cX7_notesFit 1 = .ok (.getfield 10, 3) := by decide +kernel
theorem dX7_notesFit_4 : decode cX7_notesFit 4 = .ok (.getfield 184, 3) := by decide +kernel
theorem dX7_notesFit_7 : decode cX7_notesFit 7 = .ok (.astore_n 3, 1) := by decide +kernel
theorem dX7_notesFit_8 : decode cX7_notesFit 8 = .ok (.iconst 0, 1) := by decide +kernel
theorem dX7_notesFit_9 : decode cX7_notesFit 9 = .ok (.istore 4, 2) := by decide +kernel
theorem dX7_notesFit_11 : decode cX7_notesFit 11 = .ok (.iload 4, 2) := by decide +kernel
theorem dX7_notesFit_13 : decode cX7_notesFit 13 = .ok (.aload_n 3, 1) := by decide +kernel
theorem dX7_notesFit_14 : decode cX7_notesFit 14 = .ok (.getfield 193, 3) := by decide +kernel
theorem dX7_notesFit_17 : decode cX7_notesFit 17 = .ok (.if_icmp .ge 50, 3) := by decide +kernel
theorem dX7_notesFit_20 : decode cX7_notesFit 20 = .ok (.aload_n 3, 1) := by decide +kernel
theorem dX7_notesFit_21 : decode cX7_notesFit 21 = .ok (.iload 4, 2) := by decide +kernel
theorem dX7_notesFit_23 : decode cX7_notesFit 23 = .ok (.iconst 0, 1) := by decide +kernel
theorem dX7_notesFit_24 : decode cX7_notesFit 24 = .ok (.invokevirtual 279, 3) := by decide +kernel
theorem dX7_notesFit_27 : decode cX7_notesFit 27 = .ok (.iload_n 1, 1) := by decide +kernel
theorem dX7_notesFit_28 : decode cX7_notesFit 28 = .ok (.if_icmp .ne 33, 3) := by decide +kernel
theorem dX7_notesFit_31 : decode cX7_notesFit 31 = .ok (.iload_n 2, 1) := by decide +kernel
theorem dX7_notesFit_32 : decode cX7_notesFit 32 = .ok (.aload_n 3, 1) := by decide +kernel
theorem dX7_notesFit_33 : decode cX7_notesFit 33 = .ok (.iload 4, 2) := by decide +kernel
theorem dX7_notesFit_35 : decode cX7_notesFit 35 = .ok (.iconst 1, 1) := by decide +kernel
theorem dX7_notesFit_36 : decode cX7_notesFit 36 = .ok (.invokevirtual 279, 3) := by decide +kernel
theorem dX7_notesFit_39 : decode cX7_notesFit 39 = .ok (.aload_n 3, 1) := by decide +kernel
theorem dX7_notesFit_40 : decode cX7_notesFit 40 = .ok (.iload 4, 2) := by decide +kernel
theorem dX7_notesFit_42 : decode cX7_notesFit 42 = .ok (.iconst 2, 1) := by decide +kernel
theorem dX7_notesFit_43 : decode cX7_notesFit 43 = .ok (.invokevirtual 279, 3) := by decide +kernel
theorem dX7_notesFit_46 : decode cX7_notesFit 46 = .ok (.invokestatic 145, 3) := by decide +kernel
theorem dX7_notesFit_49 : decode cX7_notesFit 49 = .ok (.aload_n 3, 1) := by decide +kernel
theorem dX7_notesFit_50 : decode cX7_notesFit 50 = .ok (.iload 4, 2) := by decide +kernel
theorem dX7_notesFit_52 : decode cX7_notesFit 52 = .ok (.iconst 3, 1) := by decide +kernel
theorem dX7_notesFit_53 : decode cX7_notesFit 53 = .ok (.invokevirtual 279, 3) := by decide +kernel
theorem dX7_notesFit_56 : decode cX7_notesFit 56 = .ok (.if_icmp .eq 5, 3) := by decide +kernel
theorem dX7_notesFit_59 : decode cX7_notesFit 59 = .ok (.iconst 0, 1) := by decide +kernel
theorem dX7_notesFit_60 : decode cX7_notesFit 60 = .ok (.ireturn, 1) := by decide +kernel
theorem dX7_notesFit_61 : decode cX7_notesFit 61 = .ok (.iinc 4 1, 3) := by decide +kernel
theorem dX7_notesFit_64 : decode cX7_notesFit 64 = .ok (.goto (-53), 3) := by decide +kernel
theorem dX7_notesFit_67 : decode cX7_notesFit 67 = .ok (.iconst 1, 1) := by decide +kernel
theorem dX7_notesFit_68 : decode cX7_notesFit 68 = .ok (.ireturn, 1) := by decide +kernel
theorem dX7_mostAlike_0 : decode cX7_mostAlike 0 = .ok (.iconst 0, 1) := by decide +kernel
theorem dX7_mostAlike_1 : decode cX7_mostAlike 1 = .ok (.istore 4, 2) := by decide +kernel
theorem dX7_mostAlike_3 : decode cX7_mostAlike 3 = .ok (.iconst 0, 1) := by decide +kernel
theorem dX7_mostAlike_4 : decode cX7_mostAlike 4 = .ok (.istore 5, 2) := by decide +kernel
theorem dX7_mostAlike_6 : decode cX7_mostAlike 6 = .ok (.iload 5, 2) := by decide +kernel
theorem dX7_mostAlike_8 : decode cX7_mostAlike 8 = .ok (.bipush 6, 2) := by decide +kernel
theorem dX7_mostAlike_10 : decode cX7_mostAlike 10 = .ok (.if_icmp .ge 37, 3) := by decide +kernel
theorem dX7_mostAlike_13 : decode cX7_mostAlike 13 = .ok (.aload_n 0, 1) := by decide +kernel
theorem dX7_mostAlike_14 : decode cX7_mostAlike 14 = .ok (.getfield 44, 3) := by decide +kernel
theorem dX7_mostAlike_17 : decode cX7_mostAlike 17 = .ok (.iload 5, 2) := by decide +kernel
theorem dX7_mostAlike_19 : decode cX7_mostAlike 19 = .ok (.iload_n 1, 1) := by decide +kernel
theorem dX7_mostAlike_20 : decode cX7_mostAlike 20 = .ok (.iload 5, 2) := by decide +kernel
theorem dX7_mostAlike_22 : decode cX7_mostAlike 22 = .ok (.ishr, 1) := by decide +kernel
theorem dX7_mostAlike_23 : decode cX7_mostAlike 23 = .ok (.iconst 1, 1) := by decide +kernel
theorem dX7_mostAlike_24 : decode cX7_mostAlike 24 = .ok (.iand, 1) := by decide +kernel
theorem dX7_mostAlike_25 : decode cX7_mostAlike 25 = .ok (.iconst 1, 1) := by decide +kernel
theorem dX7_mostAlike_26 : decode cX7_mostAlike 26 = .ok (.if_icmp .ne 13, 3) := by decide +kernel
theorem dX7_mostAlike_29 : decode cX7_mostAlike 29 = .ok (.iload 5, 2) := by decide +kernel
theorem dX7_mostAlike_31 : decode cX7_mostAlike 31 = .ok (.iload_n 2, 1) := by decide +kernel
theorem dX7_mostAlike_32 : decode cX7_mostAlike 32 = .ok (.iload_n 3, 1) := by decide +kernel
theorem dX7_mostAlike_33 : decode cX7_mostAlike 33 = .ok (.invokestatic 145, 3) := by decide +kernel
theorem dX7_mostAlike_36 : decode cX7_mostAlike 36 = .ok (.goto 4, 3) := by decide +kernel
theorem dX7_mostAlike_39 : decode cX7_mostAlike 39 = .ok (.iconst (-1), 1) := by decide +kernel
theorem dX7_mostAlike_40 : decode cX7_mostAlike 40 = .ok (.iastore, 1) := by decide +kernel
theorem dX7_mostAlike_41 : decode cX7_mostAlike 41 = .ok (.iinc 5 1, 3) := by decide +kernel
theorem dX7_mostAlike_44 : decode cX7_mostAlike 44 = .ok (.goto (-38), 3) := by decide +kernel
theorem dX7_mostAlike_47 : decode cX7_mostAlike 47 = .ok (.iconst 0, 1) := by decide +kernel
theorem dX7_mostAlike_48 : decode cX7_mostAlike 48 = .ok (.istore 5, 2) := by decide +kernel
theorem dX7_mostAlike_50 : decode cX7_mostAlike 50 = .ok (.iload 5, 2) := by decide +kernel
theorem dX7_mostAlike_52 : decode cX7_mostAlike 52 = .ok (.bipush 6, 2) := by decide +kernel
theorem dX7_mostAlike_54 : decode cX7_mostAlike 54 = .ok (.if_icmp .ge 38, 3) := by decide +kernel
theorem dX7_mostAlike_57 : decode cX7_mostAlike 57 = .ok (.aload_n 0, 1) := by decide +kernel
theorem dX7_mostAlike_58 : decode cX7_mostAlike 58 = .ok (.getfield 44, 3) := by decide +kernel
theorem dX7_mostAlike_61 : decode cX7_mostAlike 61 = .ok (.iload 5, 2) := by decide +kernel
theorem dX7_mostAlike_63 : decode cX7_mostAlike 63 = .ok (.iaload, 1) := by decide +kernel
theorem dX7_mostAlike_64 : decode cX7_mostAlike 64 = .ok (.iconst (-1), 1) := by decide +kernel
theorem dX7_mostAlike_65 : decode cX7_mostAlike 65 = .ok (.if_icmp .eq 21, 3) := by decide +kernel
theorem dX7_mostAlike_68 : decode cX7_mostAlike 68 = .ok (.iload 4, 2) := by decide +kernel
theorem dX7_mostAlike_70 : decode cX7_mostAlike 70 = .ok (.aload_n 0, 1) := by decide +kernel
theorem dX7_mostAlike_71 : decode cX7_mostAlike 71 = .ok (.aload_n 0, 1) := by decide +kernel
theorem dX7_mostAlike_72 : decode cX7_mostAlike 72 = .ok (.getfield 44, 3) := by decide +kernel
theorem dX7_mostAlike_75 : decode cX7_mostAlike 75 = .ok (.iload 5, 2) := by decide +kernel
theorem dX7_mostAlike_77 : decode cX7_mostAlike 77 = .ok (.iaload, 1) := by decide +kernel
theorem dX7_mostAlike_78 : decode cX7_mostAlike 78 = .ok (.invokevirtual 282, 3) := by decide +kernel
theorem dX7_mostAlike_81 : decode cX7_mostAlike 81 = .ok (.invokestatic 285, 3) := by decide +kernel
theorem dX7_mostAlike_84 : decode cX7_mostAlike 84 = .ok (.istore 4, 2) := by decide +kernel
theorem dX7_mostAlike_86 : decode cX7_mostAlike 86 = .ok (.iinc 5 1, 3) := by decide +kernel
theorem dX7_mostAlike_89 : decode cX7_mostAlike 89 = .ok (.goto (-39), 3) := by decide +kernel
theorem dX7_mostAlike_92 : decode cX7_mostAlike 92 = .ok (.iload 4, 2) := by decide +kernel
theorem dX7_mostAlike_94 : decode cX7_mostAlike 94 = .ok (.ireturn, 1) := by decide +kernel
theorem dX7_leavingAlike_0 : decode cX7_leavingAlike 0 = .ok (.iconst 0, 1) := by decide +kernel
theorem dX7_leavingAlike_1 : decode cX7_leavingAlike 1 = .ok (.istore_n 2, 1) := by decide +kernel
theorem dX7_leavingAlike_2 : decode cX7_leavingAlike 2 = .ok (.iconst 0, 1) := by decide +kernel
theorem dX7_leavingAlike_3 : decode cX7_leavingAlike 3 = .ok (.istore_n 3, 1) := by decide +kernel
theorem dX7_leavingAlike_4 : decode cX7_leavingAlike 4 = .ok (.iload_n 3, 1) := by decide +kernel
theorem dX7_leavingAlike_5 : decode cX7_leavingAlike 5 = .ok (.bipush 6, 2) := by decide +kernel
theorem dX7_leavingAlike_7 : decode cX7_leavingAlike 7 = .ok (.if_icmp .ge 22, 3) := by decide +kernel
theorem dX7_leavingAlike_10 : decode cX7_leavingAlike 10 = .ok (.aload_n 0, 1) := by decide +kernel
theorem dX7_leavingAlike_11 : decode cX7_leavingAlike 11 = .ok (.getfield 44, 3) := by decide +kernel
theorem dX7_leavingAlike_14 : decode cX7_leavingAlike 14 = .ok (.iload_n 3, 1) := by decide +kernel
theorem dX7_leavingAlike_15 : decode cX7_leavingAlike 15 = .ok (.iaload, 1) := by decide +kernel
theorem dX7_leavingAlike_16 : decode cX7_leavingAlike 16 = .ok (.iload_n 1, 1) := by decide +kernel
theorem dX7_leavingAlike_17 : decode cX7_leavingAlike 17 = .ok (.if_icmp .ne 6, 3) := by decide +kernel
theorem dX7_leavingAlike_20 : decode cX7_leavingAlike 20 = .ok (.iinc 2 1, 3) := by decide +kernel
theorem dX7_leavingAlike_23 : decode cX7_leavingAlike 23 = .ok (.iinc 3 1, 3) := by decide +kernel
theorem dX7_leavingAlike_26 : decode cX7_leavingAlike 26 = .ok (.goto (-22), 3) := by decide +kernel
theorem dX7_leavingAlike_29 : decode cX7_leavingAlike 29 = .ok (.iload_n 2, 1) := by decide +kernel
theorem dX7_leavingAlike_30 : decode cX7_leavingAlike 30 = .ok (.ireturn, 1) := by decide +kernel
theorem dX7_couldRemember_0 : decode cX7_couldRemember 0 = .ok (.aload_n 0, 1) := by decide +kernel
theorem dX7_couldRemember_1 : decode cX7_couldRemember 1 = .ok (.getfield 10, 3) := by decide +kernel
theorem dX7_couldRemember_4 : decode cX7_couldRemember 4 = .ok (.getfield 194, 3) := by decide +kernel
theorem dX7_couldRemember_7 : decode cX7_couldRemember 7 = .ok (.astore 4, 2) := by decide +kernel
theorem dX7_couldRemember_9 : decode cX7_couldRemember 9 = .ok (.iconst 0, 1) := by decide +kernel
theorem dX7_couldRemember_10 : decode cX7_couldRemember 10 = .ok (.istore 5, 2) := by decide +kernel
theorem dX7_couldRemember_12 : decode cX7_couldRemember 12 = .ok (.iload 5, 2) := by decide +kernel
theorem dX7_couldRemember_14 : decode cX7_couldRemember 14 = .ok (.aload 4, 2) := by decide +kernel
theorem dX7_couldRemember_16 : decode cX7_couldRemember 16 = .ok (.getfield 193, 3) := by decide +kernel
theorem dX7_couldRemember_19 : decode cX7_couldRemember 19 = .ok (.if_icmp .ge 79, 3) := by decide +kernel
theorem dX7_couldRemember_22 : decode cX7_couldRemember 22 = .ok (.aload 4, 2) := by decide +kernel
theorem dX7_couldRemember_24 : decode cX7_couldRemember 24 = .ok (.iload 5, 2) := by decide +kernel
theorem dX7_couldRemember_26 : decode cX7_couldRemember 26 = .ok (.iconst 0, 1) := by decide +kernel
theorem dX7_couldRemember_27 : decode cX7_couldRemember 27 = .ok (.invokevirtual 279, 3) := by decide +kernel
theorem dX7_couldRemember_30 : decode cX7_couldRemember 30 = .ok (.iload_n 1, 1) := by decide +kernel
theorem dX7_couldRemember_31 : decode cX7_couldRemember 31 = .ok (.if_icmp .ne 19, 3) := by decide +kernel
theorem dX7_couldRemember_34 : decode cX7_couldRemember 34 = .ok (.aload 4, 2) := by decide +kernel
theorem dX7_couldRemember_36 : decode cX7_couldRemember 36 = .ok (.iload 5, 2) := by decide +kernel
theorem dX7_couldRemember_38 : decode cX7_couldRemember 38 = .ok (.iconst 1, 1) := by decide +kernel
theorem dX7_couldRemember_39 : decode cX7_couldRemember 39 = .ok (.invokevirtual 279, 3) := by decide +kernel
theorem dX7_couldRemember_42 : decode cX7_couldRemember 42 = .ok (.iload_n 2, 1) := by decide +kernel
theorem dX7_couldRemember_43 : decode cX7_couldRemember 43 = .ok (.if_icmp .ne 7, 3) := by decide +kernel
theorem dX7_couldRemember_46 : decode cX7_couldRemember 46 = .ok (.iconst 1, 1) := by decide +kernel
theorem dX7_couldRemember_47 : decode cX7_couldRemember 47 = .ok (.goto 4, 3) := by decide +kernel
theorem dX7_couldRemember_50 : decode cX7_couldRemember 50 = .ok (.iconst 0, 1) := by decide +kernel
theorem dX7_couldRemember_51 : decode cX7_couldRemember 51 = .ok (.istore 6, 2) := by decide +kernel
theorem dX7_couldRemember_53 : decode cX7_couldRemember 53 = .ok (.iload 6, 2) := by decide +kernel
theorem dX7_couldRemember_55 : decode cX7_couldRemember 55 = .ok (.ifCond .eq 37, 3) := by decide +kernel
theorem dX7_couldRemember_58 : decode cX7_couldRemember 58 = .ok (.aload_n 0, 1) := by decide +kernel
theorem dX7_couldRemember_59 : decode cX7_couldRemember 59 = .ok (.getfield 10, 3) := by decide +kernel
theorem dX7_couldRemember_62 : decode cX7_couldRemember 62 = .ok (.getfield 136, 3) := by decide +kernel
theorem dX7_couldRemember_65 : decode cX7_couldRemember 65 = .ok (.iload_n 1, 1) := by decide +kernel
theorem dX7_couldRemember_66 : decode cX7_couldRemember 66 = .ok (.iaload, 1) := by decide +kernel
theorem dX7_couldRemember_67 : decode cX7_couldRemember 67 = .ok (.iload_n 3, 1) := by decide +kernel
theorem dX7_couldRemember_68 : decode cX7_couldRemember 68 = .ok (.aload 4, 2) := by decide +kernel
theorem dX7_couldRemember_70 : decode cX7_couldRemember 70 = .ok (.iload 5, 2) := by decide +kernel
theorem dX7_couldRemember_72 : decode cX7_couldRemember 72 = .ok (.iconst 2, 1) := by decide +kernel
theorem dX7_couldRemember_73 : decode cX7_couldRemember 73 = .ok (.invokevirtual 279, 3) := by decide +kernel
theorem dX7_couldRemember_76 : decode cX7_couldRemember 76 = .ok (.invokestatic 290, 3) := by decide +kernel
theorem dX7_couldRemember_79 : decode cX7_couldRemember 79 = .ok (.aload 4, 2) := by decide +kernel
theorem dX7_couldRemember_81 : decode cX7_couldRemember 81 = .ok (.iload 5, 2) := by decide +kernel
theorem dX7_couldRemember_83 : decode cX7_couldRemember 83 = .ok (.iconst 3, 1) := by decide +kernel
theorem dX7_couldRemember_84 : decode cX7_couldRemember 84 = .ok (.invokevirtual 279, 3) := by decide +kernel
theorem dX7_couldRemember_87 : decode cX7_couldRemember 87 = .ok (.if_icmp .eq 5, 3) := by decide +kernel
theorem dX7_couldRemember_90 : decode cX7_couldRemember 90 = .ok (.iconst 0, 1) := by decide +kernel
theorem dX7_couldRemember_91 : decode cX7_couldRemember 91 = .ok (.ireturn, 1) := by decide +kernel
theorem dX7_couldRemember_92 : decode cX7_couldRemember 92 = .ok (.iinc 5 1, 3) := by decide +kernel
theorem dX7_couldRemember_95 : decode cX7_couldRemember 95 = .ok (.goto (-83), 3) := by decide +kernel
theorem dX7_couldRemember_98 : decode cX7_couldRemember 98 = .ok (.iconst 1, 1) := by decide +kernel
theorem dX7_couldRemember_99 : decode cX7_couldRemember 99 = .ok (.ireturn, 1) := by decide +kernel
