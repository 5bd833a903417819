theorem dX0_left_0 : decode cX0_left 0 = .ok (.iload_n 1, 1) := by decide +kernel
theorem dX0_left_1 : decode cX0_left 1 = .ok (.ifCond .le 9, 3) := by decide +kernel
theorem dX0_left_4 : decode cX0_left 4 = .ok (.iload_n 1, 1) := by decide +kernel
theorem dX0_left_5 : decode cX0_left 5 = .ok (.iconst 1, 1) := by decide +kernel
theorem dX0_left_6 : decode cX0_left 6 = .ok (.isub, 1) := by decide +kernel
theorem dX0_left_7 : decode cX0_left 7 = .ok (.goto 4, 3) := by decide +kernel
theorem dX0_left_10 : decode cX0_left 10 = .ok (.iconst 0, 1) := by decide +kernel
theorem dX0_left_11 : decode cX0_left 11 = .ok (.istore_n 3, 1) := by decide +kernel
theorem dX0_left_12 : decode cX0_left 12 = .ok (.iload_n 0, 1) := by decide +kernel
theorem dX0_left_13 : decode cX0_left 13 = .ok (.tableswitch 65 1 5 #[35, 47, 59, 63, 35], 35) := by decide +kernel
theorem dX0_left_48 : decode cX0_left 48 = .ok (.iload_n 2, 1) := by decide +kernel
theorem dX0_left_49 : decode cX0_left 49 = .ok (.iconst 2, 1) := by decide +kernel
theorem dX0_left_50 : decode cX0_left 50 = .ok (.irem, 1) := by decide +kernel
theorem dX0_left_51 : decode cX0_left 51 = .ok (.ifCond .ne 7, 3) := by decide +kernel
theorem dX0_left_54 : decode cX0_left 54 = .ok (.iload_n 3, 1) := by decide +kernel
theorem dX0_left_55 : decode cX0_left 55 = .ok (.goto 4, 3) := by decide +kernel
theorem dX0_left_58 : decode cX0_left 58 = .ok (.iload_n 1, 1) := by decide +kernel
theorem dX0_left_59 : decode cX0_left 59 = .ok (.ireturn, 1) := by decide +kernel
theorem dX0_left_60 : decode cX0_left 60 = .ok (.iload_n 2, 1) := by decide +kernel
theorem dX0_left_61 : decode cX0_left 61 = .ok (.iconst 3, 1) := by decide +kernel
theorem dX0_left_62 : decode cX0_left 62 = .ok (.irem, 1) := by decide +kernel
theorem dX0_left_63 : decode cX0_left 63 = .ok (.ifCond .ne 7, 3) := by decide +kernel
theorem dX0_left_66 : decode cX0_left 66 = .ok (.iload_n 3, 1) := by decide +kernel
theorem dX0_left_67 : decode cX0_left 67 = .ok (.goto 4, 3) := by decide +kernel
theorem dX0_left_70 : decode cX0_left 70 = .ok (.iload_n 1, 1) := by decide +kernel
theorem dX0_left_71 : decode cX0_left 71 = .ok (.ireturn, 1) := by decide +kernel
theorem dX0_left_72 : decode cX0_left 72 = .ok (.iload_n 3, 1) := by decide +kernel
theorem dX0_left_73 : decode cX0_left 73 = .ok (.iconst 2, 1) := by decide +kernel
theorem dX0_left_74 : decode cX0_left 74 = .ok (.idiv, 1) := by decide +kernel
theorem dX0_left_75 : decode cX0_left 75 = .ok (.ireturn, 1) := by decide +kernel
theorem dX0_left_76 : decode cX0_left 76 = .ok (.iload_n 1, 1) := by decide +kernel
theorem dX0_left_77 : decode cX0_left 77 = .ok (.ireturn, 1) := by decide +kernel
theorem dX0_left_78 : decode cX0_left 78 = .ok (.iload_n 3, 1) := by decide +kernel
theorem dX0_left_79 : decode cX0_left 79 = .ok (.ireturn, 1) := by decide +kernel
theorem dX0_risen_0 : decode cX0_risen 0 = .ok (.iload_n 1, 1) := by decide +kernel
theorem dX0_risen_1 : decode cX0_risen 1 = .ok (.iload_n 2, 1) := by decide +kernel
theorem dX0_risen_2 : decode cX0_risen 2 = .ok (.if_icmp .le 9, 3) := by decide +kernel
theorem dX0_risen_5 : decode cX0_risen 5 = .ok (.iload_n 1, 1) := by decide +kernel
theorem dX0_risen_6 : decode cX0_risen 6 = .ok (.iload_n 2, 1) := by decide +kernel
theorem dX0_risen_7 : decode cX0_risen 7 = .ok (.isub, 1) := by decide +kernel
theorem dX0_risen_8 : decode cX0_risen 8 = .ok (.goto 4, 3) := by decide +kernel
theorem dX0_risen_11 : decode cX0_risen 11 = .ok (.iconst 0, 1) := by decide +kernel
theorem dX0_risen_12 : decode cX0_risen 12 = .ok (.istore_n 3, 1) := by decide +kernel
theorem dX0_risen_13 : decode cX0_risen 13 = .ok (.iload_n 1, 1) := by decide +kernel
theorem dX0_risen_14 : decode cX0_risen 14 = .ok (.iconst 1, 1) := by decide +kernel
theorem dX0_risen_15 : decode cX0_risen 15 = .ok (.if_icmp .lt 9, 3) := by decide +kernel
theorem dX0_risen_18 : decode cX0_risen 18 = .ok (.iload_n 3, 1) := by decide +kernel
theorem dX0_risen_19 : decode cX0_risen 19 = .ok (.iconst 1, 1) := by decide +kernel
theorem dX0_risen_20 : decode cX0_risen 20 = .ok (.iadd, 1) := by decide +kernel
theorem dX0_risen_21 : decode cX0_risen 21 = .ok (.goto 4, 3) := by decide +kernel
theorem dX0_risen_24 : decode cX0_risen 24 = .ok (.iload_n 3, 1) := by decide +kernel
theorem dX0_risen_25 : decode cX0_risen 25 = .ok (.istore 4, 2) := by decide +kernel
theorem dX0_risen_27 : decode cX0_risen 27 = .ok (.iload_n 0, 1) := by decide +kernel
theorem dX0_risen_28 : decode cX0_risen 28 = .ok (.tableswitch 66 1 5 #[36, 42, 66, 45, 50], 36) := by decide +kernel
theorem dX0_risen_64 : decode cX0_risen 64 = .ok (.iload_n 3, 1) := by decide +kernel
theorem dX0_risen_65 : decode cX0_risen 65 = .ok (.iconst 1, 1) := by decide +kernel
theorem dX0_risen_66 : decode cX0_risen 66 = .ok (.iadd, 1) := by decide +kernel
theorem dX0_risen_67 : decode cX0_risen 67 = .ok (.iconst 2, 1) := by decide +kernel
theorem dX0_risen_68 : decode cX0_risen 68 = .ok (.idiv, 1) := by decide +kernel
theorem dX0_risen_69 : decode cX0_risen 69 = .ok (.ireturn, 1) := by decide +kernel
theorem dX0_risen_70 : decode cX0_risen 70 = .ok (.iload 4, 2) := by decide +kernel
theorem dX0_risen_72 : decode cX0_risen 72 = .ok (.ireturn, 1) := by decide +kernel
theorem dX0_risen_73 : decode cX0_risen 73 = .ok (.iconst 2, 1) := by decide +kernel
theorem dX0_risen_74 : decode cX0_risen 74 = .ok (.iload 4, 2) := by decide +kernel
theorem dX0_risen_76 : decode cX0_risen 76 = .ok (.imul, 1) := by decide +kernel
theorem dX0_risen_77 : decode cX0_risen 77 = .ok (.ireturn, 1) := by decide +kernel
theorem dX0_risen_78 : decode cX0_risen 78 = .ok (.iload_n 1, 1) := by decide +kernel
theorem dX0_risen_79 : decode cX0_risen 79 = .ok (.bipush 10, 2) := by decide +kernel
theorem dX0_risen_81 : decode cX0_risen 81 = .ok (.if_icmp .lt 7, 3) := by decide +kernel
theorem dX0_risen_84 : decode cX0_risen 84 = .ok (.iconst 0, 1) := by decide +kernel
theorem dX0_risen_85 : decode cX0_risen 85 = .ok (.goto 8, 3) := by decide +kernel
theorem dX0_risen_88 : decode cX0_risen 88 = .ok (.iload_n 3, 1) := by decide +kernel
theorem dX0_risen_89 : decode cX0_risen 89 = .ok (.iconst 1, 1) := by decide +kernel
theorem dX0_risen_90 : decode cX0_risen 90 = .ok (.iadd, 1) := by decide +kernel
theorem dX0_risen_91 : decode cX0_risen 91 = .ok (.iconst 2, 1) := by decide +kernel
theorem dX0_risen_92 : decode cX0_risen 92 = .ok (.idiv, 1) := by decide +kernel
theorem dX0_risen_93 : decode cX0_risen 93 = .ok (.ireturn, 1) := by decide +kernel
theorem dX0_risen_94 : decode cX0_risen 94 = .ok (.iload_n 3, 1) := by decide +kernel
theorem dX0_risen_95 : decode cX0_risen 95 = .ok (.ireturn, 1) := by decide +kernel
theorem dX0_added_0 : decode cX0_added 0 = .ok (.iload_n 0, 1) := by decide +kernel
theorem dX0_added_1 : decode cX0_added 1 = .ok (.lookupswitch 37 #[(3, 27), (5, 33)], 27) := by decide +kernel
theorem dX0_added_28 : decode cX0_added 28 = .ok (.iload_n 1, 1) := by decide +kernel
theorem dX0_added_29 : decode cX0_added 29 = .ok (.iconst 1, 1) := by decide +kernel
theorem dX0_added_30 : decode cX0_added 30 = .ok (.iadd, 1) := by decide +kernel
theorem dX0_added_31 : decode cX0_added 31 = .ok (.iconst 2, 1) := by decide +kernel
theorem dX0_added_32 : decode cX0_added 32 = .ok (.idiv, 1) := by decide +kernel
theorem dX0_added_33 : decode cX0_added 33 = .ok (.ireturn, 1) := by decide +kernel
theorem dX0_added_34 : decode cX0_added 34 = .ok (.iconst 2, 1) := by decide +kernel
theorem dX0_added_35 : decode cX0_added 35 = .ok (.iload_n 1, 1) := by decide +kernel
theorem dX0_added_36 : decode cX0_added 36 = .ok (.imul, 1) := by decide +kernel
theorem dX0_added_37 : decode cX0_added 37 = .ok (.ireturn, 1) := by decide +kernel
theorem dX0_added_38 : decode cX0_added 38 = .ok (.iload_n 1, 1) := by decide +kernel
theorem dX0_added_39 : decode cX0_added 39 = .ok (.ireturn, 1) := by decide +kernel
theorem dX1_init_0 : decode cX1_init 0 = .ok (.aload_n 0, 1) := by decide +kernel
theorem dX1_init_1 : decode cX1_init 1 = .ok (.invokespecial 3, 3) := by decide +kernel
theorem dX1_init_4 : decode cX1_init 4 = .ok (.aload_n 0, 1) := by decide +kernel
theorem dX1_init_5 : decode cX1_init 5 = .ok (.iconst 4, 1) := by decide +kernel
theorem dX1_init_6 : decode cX1_init 6 = .ok (.newarray .int, 2) := by decide +kernel
theorem dX1_init_8 : decode cX1_init 8 = .ok (.putfield 9, 3) := by decide +kernel
theorem dX1_init_11 : decode cX1_init 11 = .ok (.aload_n 0, 1) := by decide +kernel
theorem dX1_init_12 : decode cX1_init 12 = .ok (.iconst 4, 1) := by decide +kernel
theorem dX1_init_13 : decode cX1_init 13 = .ok (.newarray .int, 2) := by decide +kernel
theorem dX1_init_15 : decode cX1_init 15 = .ok (.putfield 15, 3) := by decide +kernel
theorem dX1_init_18 : decode cX1_init 18 = .ok (.return_, 1) := by decide +kernel
theorem dX1_open_0 : decode cX1_open 0 = .ok (.aload_n 0, 1) := by decide +kernel
theorem dX1_open_1 : decode cX1_open 1 = .ok (.aload_n 1, 1) := by decide +kernel
theorem dX1_open_2 : decode cX1_open 2 = .ok (.getfield 18, 3) := by decide +kernel
theorem dX1_open_5 : decode cX1_open 5 = .ok (.putfield 24, 3) := by decide +kernel
theorem dX1_open_8 : decode cX1_open 8 = .ok (.iconst 0, 1) := by decide +kernel
theorem dX1_open_9 : decode cX1_open 9 = .ok (.istore 4, 2) := by decide +kernel
theorem dX1_open_11 : decode cX1_open 11 = .ok (.iload 4, 2) := by decide +kernel
theorem dX1_open_13 : decode cX1_open 13 = .ok (.aload_n 0, 1) := by decide +kernel
theorem dX1_open_14 : decode cX1_open 14 = .ok (.getfield 24, 3) := by decide +kernel
theorem dX1_open_17 : decode cX1_open 17 = .ok (.if_icmp .ge 43, 3) := by decide +kernel
theorem dX1_open_20 : decode cX1_open 20 = .ok (.aload_n 0, 1) := by decide +kernel
theorem dX1_open_21 : decode cX1_open 21 = .ok (.getfield 9, 3) := by decide +kernel
theorem dX1_open_24 : decode cX1_open 24 = .ok (.iload 4, 2) := by decide +kernel
theorem dX1_open_26 : decode cX1_open 26 = .ok (.bipush 20, 2) := by decide +kernel
theorem dX1_open_28 : decode cX1_open 28 = .ok (.aload_n 1, 1) := by decide +kernel
theorem dX1_open_29 : decode cX1_open 29 = .ok (.iload 4, 2) := by decide +kernel
theorem dX1_open_31 : decode cX1_open 31 = .ok (.iload_n 2, 1) := by decide +kernel
theorem dX1_open_32 : decode cX1_open 32 = .ok (.invokevirtual 25, 3) := by decide +kernel
theorem dX1_open_35 : decode cX1_open 35 = .ok (.isub, 1) := by decide +kernel
theorem dX1_open_36 : decode cX1_open 36 = .ok (.iastore, 1) := by decide +kernel
theorem dX1_open_37 : decode cX1_open 37 = .ok (.aload_n 0, 1) := by decide +kernel
theorem dX1_open_38 : decode cX1_open 38 = .ok (.getfield 15, 3) := by decide +kernel
theorem dX1_open_41 : decode cX1_open 41 = .ok (.iload 4, 2) := by decide +kernel
theorem dX1_open_43 : decode cX1_open 43 = .ok (.bipush 20, 2) := by decide +kernel
theorem dX1_open_45 : decode cX1_open 45 = .ok (.aload_n 1, 1) := by decide +kernel
theorem dX1_open_46 : decode cX1_open 46 = .ok (.iload 4, 2) := by decide +kernel
theorem dX1_open_48 : decode cX1_open 48 = .ok (.iload_n 3, 1) := by decide +kernel
theorem dX1_open_49 : decode cX1_open 49 = .ok (.invokevirtual 25, 3) := by decide +kernel
theorem dX1_open_52 : decode cX1_open 52 = .ok (.isub, 1) := by decide +kernel
theorem dX1_open_53 : decode cX1_open 53 = .ok (.iastore, 1) := by decide +kernel
theorem dX1_open_54 : decode cX1_open 54 = .ok (.iinc 4 1, 3) := by decide +kernel
theorem dX1_open_57 : decode cX1_open 57 = .ok (.goto (-46), 3) := by decide +kernel
theorem dX1_open_60 : decode cX1_open 60 = .ok (.return_, 1) := by decide +kernel
theorem dX1_rests_0 : decode cX1_rests 0 = .ok (.aload_n 0, 1) := by decide +kernel
theorem dX1_rests_1 : decode cX1_rests 1 = .ok (.aload_n 0, 1) := by decide +kernel
theorem dX1_rests_2 : decode cX1_rests 2 = .ok (.getfield 9, 3) := by decide +kernel
theorem dX1_rests_5 : decode cX1_rests 5 = .ok (.iload_n 1, 1) := by decide +kernel
theorem dX1_rests_6 : decode cX1_rests 6 = .ok (.iload_n 2, 1) := by decide +kernel
theorem dX1_rests_7 : decode cX1_rests 7 = .ok (.invokevirtual 29, 3) := by decide +kernel
theorem dX1_rests_10 : decode cX1_rests 10 = .ok (.ifCond .eq 20, 3) := by decide +kernel
theorem dX1_rests_13 : decode cX1_rests 13 = .ok (.aload_n 0, 1) := by decide +kernel
theorem dX1_rests_14 : decode cX1_rests 14 = .ok (.aload_n 0, 1) := by decide +kernel
theorem dX1_rests_15 : decode cX1_rests 15 = .ok (.getfield 15, 3) := by decide +kernel
theorem dX1_rests_18 : decode cX1_rests 18 = .ok (.iload_n 2, 1) := by decide +kernel
theorem dX1_rests_19 : decode cX1_rests 19 = .ok (.iload_n 1, 1) := by decide +kernel
theorem dX1_rests_20 : decode cX1_rests 20 = .ok (.invokevirtual 29, 3) := by decide +kernel
theorem dX1_rests_23 : decode cX1_rests 23 = .ok (.ifCond .eq 7, 3) := by decide +kernel
theorem dX1_rests_26 : decode cX1_rests 26 = .ok (.iconst 1, 1) := by decide +kernel
theorem dX1_rests_27 : decode cX1_rests 27 = .ok (.goto 4, 3) := by decide +kernel
theorem dX1_rests_30 : decode cX1_rests 30 = .ok (.iconst 0, 1) := by decide +kernel
theorem dX1_rests_31 : decode cX1_rests 31 = .ok (.ireturn, 1) := by decide +kernel
theorem dX1_isBestAgainst_0 : decode cX1_isBestAgainst 0 = .ok (.aload_n 1, 1) := by decide +kernel
theorem dX1_isBestAgainst_1 : decode cX1_isBestAgainst 1 = .ok (.iload_n 2, 1) := by decide +kernel
theorem dX1_isBestAgainst_2 : decode cX1_isBestAgainst 2 = .ok (.iload_n 3, 1) := by decide +kernel
theorem dX1_isBestAgainst_3 : decode cX1_isBestAgainst 3 = .ok (.invokestatic 33, 3) := by decide +kernel
theorem dX1_isBestAgainst_6 : decode cX1_isBestAgainst 6 = .ok (.istore 4, 2) := by decide +kernel
theorem dX1_isBestAgainst_8 : decode cX1_isBestAgainst 8 = .ok (.iconst 0, 1) := by decide +kernel
theorem dX1_isBestAgainst_9 : decode cX1_isBestAgainst 9 = .ok (.istore 5, 2) := by decide +kernel
theorem dX1_isBestAgainst_11 : decode cX1_isBestAgainst 11 = .ok (.iload 5, 2) := by decide +kernel
theorem dX1_isBestAgainst_13 : decode cX1_isBestAgainst 13 = .ok (.aload_n 0, 1) := by decide +kernel
theorem dX1_isBestAgainst_14 : decode cX1_isBestAgainst 14 = .ok (.getfield 24, 3) := by decide +kernel
theorem dX1_isBestAgainst_17 : decode cX1_isBestAgainst 17 = .ok (.if_icmp .ge 23, 3) := by decide +kernel
theorem dX1_isBestAgainst_20 : decode cX1_isBestAgainst 20 = .ok (.aload_n 1, 1) := by decide +kernel
theorem dX1_isBestAgainst_21 : decode cX1_isBestAgainst 21 = .ok (.iload 5, 2) := by decide +kernel
theorem dX1_isBestAgainst_23 : decode cX1_isBestAgainst 23 = .ok (.iload_n 3, 1) := by decide +kernel
theorem dX1_isBestAgainst_24 : decode cX1_isBestAgainst 24 = .ok (.invokestatic 33, 3) := by decide +kernel
theorem dX1_isBestAgainst_27 : decode cX1_isBestAgainst 27 = .ok (.iload 4, 2) := by decide +kernel
theorem dX1_isBestAgainst_29 : decode cX1_isBestAgainst 29 = .ok (.if_icmp .le 5, 3) := by decide +kernel
theorem dX1_isBestAgainst_32 : decode cX1_isBestAgainst 32 = .ok (.iconst 0, 1) := by decide +kernel
theorem dX1_isBestAgainst_33 : decode cX1_isBestAgainst 33 = .ok (.ireturn, 1) := by decide +kernel
theorem dX1_isBestAgainst_34 : decode cX1_isBestAgainst 34 = .ok (.iinc 5 1, 3) := by decide +kernel
theorem dX1_isBestAgainst_37 : decode cX1_isBestAgainst 37 = .ok (.goto (-26), 3) := by decide +kernel
theorem dX1_isBestAgainst_40 : decode cX1_isBestAgainst 40 = .ok (.iconst 1, 1) := by decide +kernel
theorem dX1_isBestAgainst_41 : decode cX1_isBestAgainst 41 = .ok (.ireturn, 1) := by decide +kernel
theorem dX1_gained_0 : decode cX1_gained 0 = .ok (.iload_n 1, 1) := by decide +kernel
theorem dX1_gained_1 : decode cX1_gained 1 = .ok (.iload_n 2, 1) := by decide +kernel
theorem dX1_gained_2 : decode cX1_gained 2 = .ok (.if_icmp .ne 11, 3) := by decide +kernel
theorem dX1_gained_5 : decode cX1_gained 5 = .ok (.aload_n 0, 1) := by decide +kernel
theorem dX1_gained_6 : decode cX1_gained 6 = .ok (.iload_n 1, 1) := by decide +kernel
theorem dX1_gained_7 : decode cX1_gained 7 = .ok (.iaload, 1) := by decide +kernel
theorem dX1_gained_8 : decode cX1_gained 8 = .ok (.iconst 2, 1) := by decide +kernel
theorem dX1_gained_9 : decode cX1_gained 9 = .ok (.idiv, 1) := by decide +kernel
theorem dX1_gained_10 : decode cX1_gained 10 = .ok (.goto 6, 3) := by decide +kernel
theorem dX1_gained_13 : decode cX1_gained 13 = .ok (.aload_n 0, 1) := by decide +kernel
theorem dX1_gained_14 : decode cX1_gained 14 = .ok (.iload_n 1, 1) := by decide +kernel
theorem dX1_gained_15 : decode cX1_gained 15 = .ok (.iaload, 1) := by decide +kernel
theorem dX1_gained_16 : decode cX1_gained 16 = .ok (.ireturn, 1) := by decide +kernel
theorem dX2_init_0 : decode cX2_init 0 = .ok (.aload_n 0, 1) := by decide +kernel
theorem dX2_init_1 : decode cX2_init 1 = .ok (.invokespecial 3, 3) := by decide +kernel
theorem dX2_init_4 : decode cX2_init 4 = .ok (.aload_n 0, 1) := by decide +kernel
theorem dX2_init_5 : decode cX2_init 5 = .ok (.sipush 128, 3) := by decide +kernel
theorem dX2_init_8 : decode cX2_init 8 = .ok (.newarray .int, 2) := by decide +kernel
theorem dX2_init_10 : decode cX2_init 10 = .ok (.putfield 11, 3) := by decide +kernel
theorem dX2_init_13 : decode cX2_init 13 = .ok (.aload_n 0, 1) := by decide +kernel
theorem dX2_init_14 : decode cX2_init 14 = .ok (.bipush 8, 2) := by decide +kernel
theorem dX2_init_16 : decode cX2_init 16 = .ok (.newarray .int, 2) := by decide +kernel
theorem dX2_init_18 : decode cX2_init 18 = .ok (.putfield 15, 3) := by decide +kernel
theorem dX2_init_21 : decode cX2_init 21 = .ok (.aload_n 0, 1) := by decide +kernel
theorem dX2_init_22 : decode cX2_init 22 = .ok (.bipush 8, 2) := by decide +kernel
theorem dX2_init_24 : decode cX2_init 24 = .ok (.newarray .int, 2) := by decide +kernel
theorem dX2_init_26 : decode cX2_init 26 = .ok (.putfield 18, 3) := by decide +kernel
theorem dX2_init_29 : decode cX2_init 29 = .ok (.return_, 1) := by decide +kernel
theorem dX2_append_0 : decode cX2_append 0 = .ok (.aload_n 0, 1) := by decide +kernel
theorem dX2_append_1 : decode cX2_append 1 = .ok (.getfield 21, 3) := by decide +kernel
theorem dX2_append_4 : decode cX2_append 4 = .ok (.bipush 8, 2) := by decide +kernel
theorem dX2_append_6 : decode cX2_append 6 = .ok (.if_icmp .lt 9, 3) := by decide +kernel
theorem dX2_append_9 : decode cX2_append 9 = .ok (.aload_n 0, 1) := by decide +kernel
theorem dX2_append_10 : decode cX2_append 10 = .ok (.aload_n 1, 1) := by decide +kernel
theorem dX2_append_11 : decode cX2_append 11 = .ok (.arraylength, 1) := by decide +kernel
theorem dX2_append_12 : decode cX2_append 12 = .ok (.invokevirtual 25, 3) := by decide +kernel
theorem dX2_append_15 : decode cX2_append 15 = .ok (.aload_n 1, 1) := by decide +kernel
theorem dX2_append_16 : decode cX2_append 16 = .ok (.iconst 0, 1) := by decide +kernel
theorem dX2_append_17 : decode cX2_append 17 = .ok (.aload_n 0, 1) := by decide +kernel
theorem dX2_append_18 : decode cX2_append 18 = .ok (.getfield 11, 3) := by decide +kernel
theorem dX2_append_21 : decode cX2_append 21 = .ok (.aload_n 0, 1) := by decide +kernel
theorem dX2_append_22 : decode cX2_append 22 = .ok (.getfield 21, 3) := by decide +kernel
theorem dX2_append_25 : decode cX2_append 25 = .ok (.aload_n 1, 1) := by decide +kernel
theorem dX2_append_26 : decode cX2_append 26 = .ok (.arraylength, 1) := by decide +kernel
theorem dX2_append_27 : decode cX2_append 27 = .ok (.imul, 1) := by decide +kernel
theorem dX2_append_28 : decode cX2_append 28 = .ok (.aload_n 1, 1) := by decide +kernel
theorem dX2_append_29 : decode cX2_append 29 = .ok (.arraylength, 1) := by decide +kernel
theorem dX2_append_30 : decode cX2_append 30 = .ok (.invokestatic 29, 3) := by decide +kernel
theorem dX2_append_33 : decode cX2_append 33 = .ok (.aload_n 0, 1) := by decide +kernel
theorem dX2_append_34 : decode cX2_append 34 = .ok (.getfield 15, 3) := by decide +kernel
theorem dX2_append_37 : decode cX2_append 37 = .ok (.aload_n 0, 1) := by decide +kernel
theorem dX2_append_38 : decode cX2_append 38 = .ok (.getfield 21, 3) := by decide +kernel
theorem dX2_append_41 : decode cX2_append 41 = .ok (.iload_n 2, 1) := by decide +kernel
theorem dX2_append_42 : decode cX2_append 42 = .ok (.iastore, 1) := by decide +kernel
theorem dX2_append_43 : decode cX2_append 43 = .ok (.aload_n 0, 1) := by decide +kernel
theorem dX2_append_44 : decode cX2_append 44 = .ok (.getfield 18, 3) := by decide +kernel
theorem dX2_append_47 : decode cX2_append 47 = .ok (.aload_n 0, 1) := by decide +kernel
theorem dX2_append_48 : decode cX2_append 48 = .ok (.getfield 21, 3) := by decide +kernel
theorem dX2_append_51 : decode cX2_append 51 = .ok (.iload_n 3, 1) := by decide +kernel
theorem dX2_append_52 : decode cX2_append 52 = .ok (.iastore, 1) := by decide +kernel
theorem dX2_append_53 : decode cX2_append 53 = .ok (.aload_n 0, 1) := by decide +kernel
theorem dX2_append_54 : decode cX2_append 54 = .ok (.dup, 1) := by decide +kernel
theorem dX2_append_55 : decode cX2_append 55 = .ok (.getfield 21, 3) := by decide +kernel
theorem dX2_append_58 : decode cX2_append 58 = .ok (.iconst 1, 1) := by decide +kernel
theorem dX2_append_59 : decode cX2_append 59 = .ok (.iadd, 1) := by decide +kernel
theorem dX2_append_60 : decode cX2_append 60 = .ok (.putfield 21, 3) := by decide +kernel
theorem dX2_append_63 : decode cX2_append 63 = .ok (.return_, 1) := by decide +kernel
theorem dX2_dropOldest_0 : decode cX2_dropOldest 0 = .ok (.aload_n 0, 1) := by decide +kernel
theorem dX2_dropOldest_1 : decode cX2_dropOldest 1 = .ok (.bipush 7, 2) := by decide +kernel
theorem dX2_dropOldest_3 : decode cX2_dropOldest 3 = .ok (.putfield 21, 3) := by decide +kernel
theorem dX2_dropOldest_6 : decode cX2_dropOldest 6 = .ok (.aload_n 0, 1) := by decide +kernel
theorem dX2_dropOldest_7 : decode cX2_dropOldest 7 = .ok (.getfield 11, 3) := by decide +kernel
theorem dX2_dropOldest_10 : decode cX2_dropOldest 10 = .ok (.iload_n 1, 1) := by decide +kernel
theorem dX2_dropOldest_11 : decode cX2_dropOldest 11 = .ok (.aload_n 0, 1) := by decide +kernel
theorem dX2_dropOldest_12 : decode cX2_dropOldest 12 = .ok (.getfield 11, 3) := by decide +kernel
theorem dX2_dropOldest_15 : decode cX2_dropOldest 15 = .ok (.iconst 0, 1) := by decide +kernel
theorem dX2_dropOldest_16 : decode cX2_dropOldest 16 = .ok (.aload_n 0, 1) := by decide +kernel
theorem dX2_dropOldest_17 : decode cX2_dropOldest 17 = .ok (.getfield 21, 3) := by decide +kernel
theorem dX2_dropOldest_20 : decode cX2_dropOldest 20 = .ok (.iload_n 1, 1) := by decide +kernel
theorem dX2_dropOldest_21 : decode cX2_dropOldest 21 = .ok (.imul, 1) := by decide +kernel
theorem dX2_dropOldest_22 : decode cX2_dropOldest 22 = .ok (.invokestatic 29, 3) := by decide +kernel
theorem dX2_dropOldest_25 : decode cX2_dropOldest 25 = .ok (.aload_n 0, 1) := by decide +kernel
theorem dX2_dropOldest_26 : decode cX2_dropOldest 26 = .ok (.getfield 15, 3) := by decide +kernel
theorem dX2_dropOldest_29 : decode cX2_dropOldest 29 = .ok (.iconst 1, 1) := by decide +kernel
theorem dX2_dropOldest_30 : decode cX2_dropOldest 30 = .ok (.aload_n 0, 1) := by decide +kernel
theorem dX2_dropOldest_31 : decode cX2_dropOldest 31 = .ok (.getfield 15, 3) := by decide +kernel
theorem dX2_dropOldest_34 : decode cX2_dropOldest 34 = .ok (.iconst 0, 1) := by decide +kernel
theorem dX2_dropOldest_35 : decode cX2_dropOldest 35 = .ok (.aload_n 0, 1) := by decide +kernel
theorem dX2_dropOldest_36 : decode cX2_dropOldest 36 = .ok (.getfield 21, 3) := by decide +kernel
theorem dX2_dropOldest_39 : decode cX2_dropOldest 39 = .ok (.invokestatic 29, 3) := by decide +kernel
theorem dX2_dropOldest_42 : decode cX2_dropOldest 42 = .ok (.aload_n 0, 1) := by decide +kernel
theorem dX2_dropOldest_43 : decode cX2_dropOldest 43 = .ok (.getfield 18, 3) := by decide +kernel
theorem dX2_dropOldest_46 : decode cX2_dropOldest 46 = .ok (.iconst 1, 1) := by decide +kernel
theorem dX2_dropOldest_47 : decode cX2_dropOldest 47 = .ok (.aload_n 0, 1) := by decide +kernel
theorem dX2_dropOldest_48 : decode cX2_dropOldest 48 = .ok (.getfield 18, 3) := by decide +kernel
theorem dX2_dropOldest_51 : decode cX2_dropOldest 51 = .ok (.iconst 0, 1) := by decide +kernel
theorem dX2_dropOldest_52 : decode cX2_dropOldest 52 = .ok (.aload_n 0, 1) := by decide +kernel
theorem dX2_dropOldest_53 : decode cX2_dropOldest 53 = .ok (.getfield 21, 3) := by decide +kernel
theorem dX2_dropOldest_56 : decode cX2_dropOldest 56 = .ok (.invokestatic 29, 3) := by decide +kernel
theorem dX2_dropOldest_59 : decode cX2_dropOldest 59 = .ok (.return_, 1) := by decide +kernel
theorem dX2_takePast_0 : decode cX2_takePast 0 = .ok (.aload_n 1, 1) := by decide +kernel
theorem dX2_takePast_1 : decode cX2_takePast 1 = .ok (.getfield 11, 3) := by decide +kernel
theorem dX2_takePast_4 : decode cX2_takePast 4 = .ok (.iconst 0, 1) := by decide +kernel
theorem dX2_takePast_5 : decode cX2_takePast 5 = .ok (.aload_n 0, 1) := by decide +kernel
theorem dX2_takePast_6 : decode cX2_takePast 6 = .ok (.getfield 11, 3) := by decide +kernel
theorem dX2_takePast_9 : decode cX2_takePast 9 = .ok (.iconst 0, 1) := by decide +kernel
theorem dX2_takePast_10 : decode cX2_takePast 10 = .ok (.aload_n 0, 1) := by decide +kernel
theorem dX2_takePast_11 : decode cX2_takePast 11 = .ok (.getfield 11, 3) := by decide +kernel
theorem dX2_takePast_14 : decode cX2_takePast 14 = .ok (.arraylength, 1) := by decide +kernel
theorem dX2_takePast_15 : decode cX2_takePast 15 = .ok (.invokestatic 29, 3) := by decide +kernel
theorem dX2_takePast_18 : decode cX2_takePast 18 = .ok (.aload_n 1, 1) := by decide +kernel
theorem dX2_takePast_19 : decode cX2_takePast 19 = .ok (.getfield 15, 3) := by decide +kernel
theorem dX2_takePast_22 : decode cX2_takePast 22 = .ok (.iconst 0, 1) := by decide +kernel
theorem dX2_takePast_23 : decode cX2_takePast 23 = .ok (.aload_n 0, 1) := by decide +kernel
theorem dX2_takePast_24 : decode cX2_takePast 24 = .ok (.getfield 15, 3) := by decide +kernel
theorem dX2_takePast_27 : decode cX2_takePast 27 = .ok (.iconst 0, 1) := by decide +kernel
theorem dX2_takePast_28 : decode cX2_takePast 28 = .ok (.aload_n 0, 1) := by decide +kernel
theorem dX2_takePast_29 : decode cX2_takePast 29 = .ok (.getfield 15, 3) := by decide +kernel
theorem dX2_takePast_32 : decode cX2_takePast 32 = .ok (.arraylength, 1) := by decide +kernel
theorem dX2_takePast_33 : decode cX2_takePast 33 = .ok (.invokestatic 29, 3) := by decide +kernel
theorem dX2_takePast_36 : decode cX2_takePast 36 = .ok (.aload_n 1, 1) := by decide +kernel
theorem dX2_takePast_37 : decode cX2_takePast 37 = .ok (.getfield 18, 3) := by decide +kernel
theorem dX2_takePast_40 : decode cX2_takePast 40 = .ok (.iconst 0, 1) := by decide +kernel
theorem dX2_takePast_41 : decode cX2_takePast 41 = .ok (.aload_n 0, 1) := by decide +kernel
theorem dX2_takePast_42 : decode cX2_takePast 42 = .ok (.getfield 18, 3) := by decide +kernel
theorem dX2_takePast_45 : decode cX2_takePast 45 = .ok (.iconst 0, 1) := by decide +kernel
theorem dX2_takePast_46 : decode cX2_takePast 46 = .ok (.aload_n 0, 1) := by decide +kernel
theorem dX2_takePast_47 : decode cX2_takePast 47 = .ok (.getfield 18, 3) := by decide +kernel
theorem dX2_takePast_50 : decode cX2_takePast 50 = .ok (.arraylength, 1) := by decide +kernel
theorem dX2_takePast_51 : decode cX2_takePast 51 = .ok (.invokestatic 29, 3) := by decide +kernel
theorem dX2_takePast_54 : decode cX2_takePast 54 = .ok (.aload_n 0, 1) := by decide +kernel
theorem dX2_takePast_55 : decode cX2_takePast 55 = .ok (.aload_n 1, 1) := by decide +kernel
theorem dX2_takePast_56 : decode cX2_takePast 56 = .ok (.getfield 21, 3) := by decide +kernel
theorem dX2_takePast_59 : decode cX2_takePast 59 = .ok (.putfield 21, 3) := by decide +kernel
theorem dX2_takePast_62 : decode cX2_takePast 62 = .ok (.return_, 1) := by decide +kernel
theorem dX3_init_0 : decode cX3_init 0 = .ok (.aload_n 0, 1) := by decide +kernel
theorem dX3_init_1 : decode cX3_init 1 = .ok (.invokespecial 3, 3) := by decide +kernel
theorem dX3_init_4 : decode cX3_init 4 = .ok (.aload_n 0, 1) := by decide +kernel
theorem dX3_init_5 : decode cX3_init 5 = .ok (.iconst 4, 1) := by decide +kernel
theorem dX3_init_6 : decode cX3_init 6 = .ok (.newarray .int, 2) := by decide +kernel
theorem dX3_init_8 : decode cX3_init 8 = .ok (.putfield 11, 3) := by decide +kernel
theorem dX3_init_11 : decode cX3_init 11 = .ok (.aload_n 0, 1) := by decide +kernel
theorem dX3_init_12 : decode cX3_init 12 = .ok (.iconst 4, 1) := by decide +kernel
theorem dX3_init_13 : decode cX3_init 13 = .ok (.newarray .int, 2) := by decide +kernel
theorem dX3_init_15 : decode cX3_init 15 = .ok (.putfield 15, 3) := by decide +kernel
theorem dX3_init_18 : decode cX3_init 18 = .ok (.aload_n 0, 1) := by decide +kernel
theorem dX3_init_19 : decode cX3_init 19 = .ok (.iconst 4, 1) := by decide +kernel
theorem dX3_init_20 : decode cX3_init 20 = .ok (.newarray .int, 2) := by decide +kernel
theorem dX3_init_22 : decode cX3_init 22 = .ok (.putfield 18, 3) := by decide +kernel
theorem dX3_init_25 : decode cX3_init 25 = .ok (.return_, 1) := by decide +kernel
theorem dX3_tell_0 : decode cX3_tell 0 = .ok (.aload_n 0, 1) := by decide +kernel
theorem dX3_tell_1 : decode cX3_tell 1 = .ok (.iconst 0, 1) := by decide +kernel
theorem dX3_tell_2 : decode cX3_tell 2 = .ok (.putfield 21, 3) := by decide +kernel
theorem dX3_tell_5 : decode cX3_tell 5 = .ok (.iload_n 1, 1) := by decide +kernel
theorem dX3_tell_6 : decode cX3_tell 6 = .ok (.ifCond .lt 10, 3) := by decide +kernel
theorem dX3_tell_9 : decode cX3_tell 9 = .ok (.iload_n 1, 1) := by decide +kernel
theorem dX3_tell_10 : decode cX3_tell 10 = .ok (.sipush 4444, 3) := by decide +kernel
theorem dX3_tell_13 : decode cX3_tell 13 = .ok (.if_icmp .le 5, 3) := by decide +kernel
theorem dX3_tell_16 : decode cX3_tell 16 = .ok (.iconst 0, 1) := by decide +kernel
theorem dX3_tell_17 : decode cX3_tell 17 = .ok (.ireturn, 1) := by decide +kernel
theorem dX3_tell_18 : decode cX3_tell 18 = .ok (.sipush 1000, 3) := by decide +kernel
theorem dX3_tell_21 : decode cX3_tell 21 = .ok (.istore_n 2, 1) := by decide +kernel
theorem dX3_tell_22 : decode cX3_tell 22 = .ok (.iload_n 2, 1) := by decide +kernel
theorem dX3_tell_23 : decode cX3_tell 23 = .ok (.ifCond .le 83, 3) := by decide +kernel
theorem dX3_tell_26 : decode cX3_tell 26 = .ok (.iload_n 1, 1) := by decide +kernel
theorem dX3_tell_27 : decode cX3_tell 27 = .ok (.iload_n 2, 1) := by decide +kernel
theorem dX3_tell_28 : decode cX3_tell 28 = .ok (.idiv, 1) := by decide +kernel
theorem dX3_tell_29 : decode cX3_tell 29 = .ok (.bipush 10, 2) := by decide +kernel
theorem dX3_tell_31 : decode cX3_tell 31 = .ok (.irem, 1) := by decide +kernel
theorem dX3_tell_32 : decode cX3_tell 32 = .ok (.istore_n 3, 1) := by decide +kernel
theorem dX3_tell_33 : decode cX3_tell 33 = .ok (.iload_n 3, 1) := by decide +kernel
theorem dX3_tell_34 : decode cX3_tell 34 = .ok (.ifCond .ne 14, 3) := by decide +kernel
theorem dX3_tell_37 : decode cX3_tell 37 = .ok (.aload_n 0, 1) := by decide +kernel
theorem dX3_tell_38 : decode cX3_tell 38 = .ok (.getfield 21, 3) := by decide +kernel
theorem dX3_tell_41 : decode cX3_tell 41 = .ok (.ifCond .ne 7, 3) := by decide +kernel
theorem dX3_tell_44 : decode cX3_tell 44 = .ok (.iconst 1, 1) := by decide +kernel
theorem dX3_tell_45 : decode cX3_tell 45 = .ok (.goto 4, 3) := by decide +kernel
theorem dX3_tell_48 : decode cX3_tell 48 = .ok (.iconst 0, 1) := by decide +kernel
theorem dX3_tell_49 : decode cX3_tell 49 = .ok (.istore 4, 2) := by decide +kernel
theorem dX3_tell_51 : decode cX3_tell 51 = .ok (.iload 4, 2) := by decide +kernel
theorem dX3_tell_53 : decode cX3_tell 53 = .ok (.ifCond .ne 45, 3) := by decide +kernel
theorem dX3_tell_56 : decode cX3_tell 56 = .ok (.iload_n 3, 1) := by decide +kernel
theorem dX3_tell_57 : decode cX3_tell 57 = .ok (.iconst 1, 1) := by decide +kernel
theorem dX3_tell_58 : decode cX3_tell 58 = .ok (.if_icmp .lt 16, 3) := by decide +kernel
theorem dX3_tell_61 : decode cX3_tell 61 = .ok (.iload_n 3, 1) := by decide +kernel
theorem dX3_tell_62 : decode cX3_tell 62 = .ok (.iconst 4, 1) := by decide +kernel
theorem dX3_tell_63 : decode cX3_tell 63 = .ok (.if_icmp .gt 11, 3) := by decide +kernel
theorem dX3_tell_66 : decode cX3_tell 66 = .ok (.aload_n 0, 1) := by decide +kernel
theorem dX3_tell_67 : decode cX3_tell 67 = .ok (.getfield 21, 3) := by decide +kernel
theorem dX3_tell_70 : decode cX3_tell 70 = .ok (.iconst 4, 1) := by decide +kernel
theorem dX3_tell_71 : decode cX3_tell 71 = .ok (.if_icmp .lt 5, 3) := by decide +kernel
theorem dX3_tell_74 : decode cX3_tell 74 = .ok (.iconst 0, 1) := by decide +kernel
theorem dX3_tell_75 : decode cX3_tell 75 = .ok (.ireturn, 1) := by decide +kernel
theorem dX3_tell_76 : decode cX3_tell 76 = .ok (.aload_n 0, 1) := by decide +kernel
theorem dX3_tell_77 : decode cX3_tell 77 = .ok (.getfield 11, 3) := by decide +kernel
theorem dX3_tell_80 : decode cX3_tell 80 = .ok (.aload_n 0, 1) := by decide +kernel
theorem dX3_tell_81 : decode cX3_tell 81 = .ok (.getfield 21, 3) := by decide +kernel
theorem dX3_tell_84 : decode cX3_tell 84 = .ok (.iload_n 3, 1) := by decide +kernel
theorem dX3_tell_85 : decode cX3_tell 85 = .ok (.iconst 1, 1) := by decide +kernel
theorem dX3_tell_86 : decode cX3_tell 86 = .ok (.isub, 1) := by decide +kernel
theorem dX3_tell_87 : decode cX3_tell 87 = .ok (.iastore, 1) := by decide +kernel
theorem dX3_tell_88 : decode cX3_tell 88 = .ok (.aload_n 0, 1) := by decide +kernel
theorem dX3_tell_89 : decode cX3_tell 89 = .ok (.dup, 1) := by decide +kernel
theorem dX3_tell_90 : decode cX3_tell 90 = .ok (.getfield 21, 3) := by decide +kernel
theorem dX3_tell_93 : decode cX3_tell 93 = .ok (.iconst 1, 1) := by decide +kernel
theorem dX3_tell_94 : decode cX3_tell 94 = .ok (.iadd, 1) := by decide +kernel
theorem dX3_tell_95 : decode cX3_tell 95 = .ok (.putfield 21, 3) := by decide +kernel
theorem dX3_tell_98 : decode cX3_tell 98 = .ok (.iload_n 2, 1) := by decide +kernel
theorem dX3_tell_99 : decode cX3_tell 99 = .ok (.bipush 10, 2) := by decide +kernel
theorem dX3_tell_101 : decode cX3_tell 101 = .ok (.idiv, 1) := by decide +kernel
theorem dX3_tell_102 : decode cX3_tell 102 = .ok (.istore_n 2, 1) := by decide +kernel
theorem dX3_tell_103 : decode cX3_tell 103 = .ok (.goto (-81), 3) := by decide +kernel
theorem dX3_tell_106 : decode cX3_tell 106 = .ok (.iconst 1, 1) := by decide +kernel
theorem dX3_tell_107 : decode cX3_tell 107 = .ok (.ireturn, 1) := by decide +kernel
theorem dX3_search_0 : decode cX3_search 0 = .ok (.aload_n 0, 1) := by decide +kernel
theorem dX3_search_1 : decode cX3_search 1 = .ok (.iload_n 2, 1) := by decide +kernel
theorem dX3_search_2 : decode cX3_search 2 = .ok (.putfield 25, 3) := by decide +kernel
theorem dX3_search_5 : decode cX3_search 5 = .ok (.aload_n 0, 1) := by decide +kernel
theorem dX3_search_6 : decode cX3_search 6 = .ok (.sipush 1000, 3) := by decide +kernel
theorem dX3_search_9 : decode cX3_search 9 = .ok (.putfield 28, 3) := by decide +kernel
theorem dX3_search_12 : decode cX3_search 12 = .ok (.aload_n 0, 1) := by decide +kernel
theorem dX3_search_13 : decode cX3_search 13 = .ok (.aload_n 1, 1) := by decide +kernel
theorem dX3_search_14 : decode cX3_search 14 = .ok (.iconst 0, 1) := by decide +kernel
theorem dX3_search_15 : decode cX3_search 15 = .ok (.iconst 0, 1) := by decide +kernel
theorem dX3_search_16 : decode cX3_search 16 = .ok (.invokestatic 31, 3) := by decide +kernel
theorem dX3_search_19 : decode cX3_search 19 = .ok (.return_, 1) := by decide +kernel
theorem dX3_place_0 : decode cX3_place 0 = .ok (.iload_n 3, 1) := by decide +kernel
theorem dX3_place_1 : decode cX3_place 1 = .ok (.aload_n 0, 1) := by decide +kernel
theorem dX3_place_2 : decode cX3_place 2 = .ok (.getfield 28, 3) := by decide +kernel
theorem dX3_place_5 : decode cX3_place 5 = .ok (.if_icmp .lt 4, 3) := by decide +kernel
theorem dX3_place_8 : decode cX3_place 8 = .ok (.return_, 1) := by decide +kernel
theorem dX3_place_9 : decode cX3_place 9 = .ok (.iload_n 2, 1) := by decide +kernel
theorem dX3_place_10 : decode cX3_place 10 = .ok (.aload_n 0, 1) := by decide +kernel
theorem dX3_place_11 : decode cX3_place 11 = .ok (.getfield 21, 3) := by decide +kernel
theorem dX3_place_14 : decode cX3_place 14 = .ok (.if_icmp .ge 8, 3) := by decide +kernel
theorem dX3_place_17 : decode cX3_place 17 = .ok (.iload_n 2, 1) := by decide +kernel
theorem dX3_place_18 : decode cX3_place 18 = .ok (.iconst 4, 1) := by decide +kernel
theorem dX3_place_19 : decode cX3_place 19 = .ok (.if_icmp .lt 27, 3) := by decide +kernel
theorem dX3_place_22 : decode cX3_place 22 = .ok (.aload_n 0, 1) := by decide +kernel
theorem dX3_place_23 : decode cX3_place 23 = .ok (.iload_n 3, 1) := by decide +kernel
theorem dX3_place_24 : decode cX3_place 24 = .ok (.putfield 28, 3) := by decide +kernel
theorem dX3_place_27 : decode cX3_place 27 = .ok (.aload_n 0, 1) := by decide +kernel
theorem dX3_place_28 : decode cX3_place 28 = .ok (.getfield 15, 3) := by decide +kernel
theorem dX3_place_31 : decode cX3_place 31 = .ok (.iconst 0, 1) := by decide +kernel
theorem dX3_place_32 : decode cX3_place 32 = .ok (.aload_n 0, 1) := by decide +kernel
theorem dX3_place_33 : decode cX3_place 33 = .ok (.getfield 18, 3) := by decide +kernel
theorem dX3_place_36 : decode cX3_place 36 = .ok (.iconst 0, 1) := by decide +kernel
theorem dX3_place_37 : decode cX3_place 37 = .ok (.aload_n 0, 1) := by decide +kernel
theorem dX3_place_38 : decode cX3_place 38 = .ok (.getfield 15, 3) := by decide +kernel
theorem dX3_place_41 : decode cX3_place 41 = .ok (.arraylength, 1) := by decide +kernel
theorem dX3_place_42 : decode cX3_place 42 = .ok (.invokestatic 35, 3) := by decide +kernel
theorem dX3_place_45 : decode cX3_place 45 = .ok (.return_, 1) := by decide +kernel
theorem dX3_place_46 : decode cX3_place 46 = .ok (.aload_n 0, 1) := by decide +kernel
theorem dX3_place_47 : decode cX3_place 47 = .ok (.getfield 11, 3) := by decide +kernel
theorem dX3_place_50 : decode cX3_place 50 = .ok (.iload_n 2, 1) := by decide +kernel
theorem dX3_place_51 : decode cX3_place 51 = .ok (.iaload, 1) := by decide +kernel
theorem dX3_place_52 : decode cX3_place 52 = .ok (.istore 4, 2) := by decide +kernel
theorem dX3_place_54 : decode cX3_place 54 = .ok (.iconst 0, 1) := by decide +kernel
theorem dX3_place_55 : decode cX3_place 55 = .ok (.istore 5, 2) := by decide +kernel
theorem dX3_place_57 : decode cX3_place 57 = .ok (.iload 5, 2) := by decide +kernel
theorem dX3_place_59 : decode cX3_place 59 = .ok (.aload_n 1, 1) := by decide +kernel
theorem dX3_place_60 : decode cX3_place 60 = .ok (.getfield 41, 3) := by decide +kernel
theorem dX3_place_63 : decode cX3_place 63 = .ok (.if_icmp .ge 63, 3) := by decide +kernel
theorem dX3_place_66 : decode cX3_place 66 = .ok (.aload_n 1, 1) := by decide +kernel
theorem dX3_place_67 : decode cX3_place 67 = .ok (.iload 5, 2) := by decide +kernel
theorem dX3_place_69 : decode cX3_place 69 = .ok (.iload 4, 2) := by decide +kernel
theorem dX3_place_71 : decode cX3_place 71 = .ok (.invokevirtual 46, 3) := by decide +kernel
theorem dX3_place_74 : decode cX3_place 74 = .ok (.istore 6, 2) := by decide +kernel
theorem dX3_place_76 : decode cX3_place 76 = .ok (.aload_n 0, 1) := by decide +kernel
theorem dX3_place_77 : decode cX3_place 77 = .ok (.getfield 15, 3) := by decide +kernel
theorem dX3_place_80 : decode cX3_place 80 = .ok (.iload_n 2, 1) := by decide +kernel
theorem dX3_place_81 : decode cX3_place 81 = .ok (.iload 5, 2) := by decide +kernel
theorem dX3_place_83 : decode cX3_place 83 = .ok (.iastore, 1) := by decide +kernel
theorem dX3_place_84 : decode cX3_place 84 = .ok (.aload_n 1, 1) := by decide +kernel
theorem dX3_place_85 : decode cX3_place 85 = .ok (.iload 5, 2) := by decide +kernel
theorem dX3_place_87 : decode cX3_place 87 = .ok (.iload 4, 2) := by decide +kernel
theorem dX3_place_89 : decode cX3_place 89 = .ok (.aload_n 0, 1) := by decide +kernel
theorem dX3_place_90 : decode cX3_place 90 = .ok (.getfield 25, 3) := by decide +kernel
theorem dX3_place_93 : decode cX3_place 93 = .ok (.invokevirtual 50, 3) := by decide +kernel
theorem dX3_place_96 : decode cX3_place 96 = .ok (.istore 7, 2) := by decide +kernel
theorem dX3_place_98 : decode cX3_place 98 = .ok (.aload_n 0, 1) := by decide +kernel
theorem dX3_place_99 : decode cX3_place 99 = .ok (.aload_n 1, 1) := by decide +kernel
theorem dX3_place_100 : decode cX3_place 100 = .ok (.iload_n 2, 1) := by decide +kernel
theorem dX3_place_101 : decode cX3_place 101 = .ok (.iconst 1, 1) := by decide +kernel
theorem dX3_place_102 : decode cX3_place 102 = .ok (.iadd, 1) := by decide +kernel
theorem dX3_place_103 : decode cX3_place 103 = .ok (.iload_n 3, 1) := by decide +kernel
theorem dX3_place_104 : decode cX3_place 104 = .ok (.iload 7, 2) := by decide +kernel
theorem dX3_place_106 : decode cX3_place 106 = .ok (.iadd, 1) := by decide +kernel
theorem dX3_place_107 : decode cX3_place 107 = .ok (.invokestatic 31, 3) := by decide +kernel
theorem dX3_place_110 : decode cX3_place 110 = .ok (.aload_n 1, 1) := by decide +kernel
theorem dX3_place_111 : decode cX3_place 111 = .ok (.iload 5, 2) := by decide +kernel
theorem dX3_place_113 : decode cX3_place 113 = .ok (.iload 4, 2) := by decide +kernel
theorem dX3_place_115 : decode cX3_place 115 = .ok (.iload 6, 2) := by decide +kernel
theorem dX3_place_117 : decode cX3_place 117 = .ok (.invokevirtual 54, 3) := by decide +kernel
theorem dX3_place_120 : decode cX3_place 120 = .ok (.iinc 5 1, 3) := by decide +kernel
theorem dX3_place_123 : decode cX3_place 123 = .ok (.goto (-66), 3) := by decide +kernel
theorem dX3_place_126 : decode cX3_place 126 = .ok (.return_, 1) := by decide +kernel
theorem dX4_init_0 : decode cX4_init 0 = .ok (.aload_n 0, 1) := by decide +kernel
theorem dX4_init_1 : decode cX4_init 1 = .ok (.invokespecial 1, 3) := by decide +kernel
theorem dX4_init_4 : decode cX4_init 4 = .ok (.aload_n 0, 1) := by decide +kernel
theorem dX4_init_5 : decode cX4_init 5 = .ok (.bipush 24, 2) := by decide +kernel
theorem dX4_init_7 : decode cX4_init 7 = .ok (.newarray .int, 2) := by decide +kernel
theorem dX4_init_9 : decode cX4_init 9 = .ok (.putfield 9, 3) := by decide +kernel
theorem dX4_init_12 : decode cX4_init 12 = .ok (.return_, 1) := by decide +kernel
theorem dX4_append_0 : decode cX4_append 0 = .ok (.aload_n 0, 1) := by decide +kernel
theorem dX4_append_1 : decode cX4_append 1 = .ok (.getfield 13, 3) := by decide +kernel
theorem dX4_append_4 : decode cX4_append 4 = .ok (.bipush 6, 2) := by decide +kernel
theorem dX4_append_6 : decode cX4_append 6 = .ok (.if_icmp .lt 5, 3) := by decide +kernel
theorem dX4_append_9 : decode cX4_append 9 = .ok (.iconst 0, 1) := by decide +kernel
theorem dX4_append_10 : decode cX4_append 10 = .ok (.ireturn, 1) := by decide +kernel
theorem dX4_append_11 : decode cX4_append 11 = .ok (.iconst 4, 1) := by decide +kernel
theorem dX4_append_12 : decode cX4_append 12 = .ok (.aload_n 0, 1) := by decide +kernel
theorem dX4_append_13 : decode cX4_append 13 = .ok (.getfield 13, 3) := by decide +kernel
theorem dX4_append_16 : decode cX4_append 16 = .ok (.imul, 1) := by decide +kernel
theorem dX4_append_17 : decode cX4_append 17 = .ok (.istore 5, 2) := by decide +kernel
theorem dX4_append_19 : decode cX4_append 19 = .ok (.aload_n 0, 1) := by decide +kernel
theorem dX4_append_20 : decode cX4_append 20 = .ok (.getfield 9, 3) := by decide +kernel
theorem dX4_append_23 : decode cX4_append 23 = .ok (.iload 5, 2) := by decide +kernel
theorem dX4_append_25 : decode cX4_append 25 = .ok (.iload_n 1, 1) := by decide +kernel
theorem dX4_append_26 : decode cX4_append 26 = .ok (.iastore, 1) := by decide +kernel
theorem dX4_append_27 : decode cX4_append 27 = .ok (.aload_n 0, 1) := by decide +kernel
theorem dX4_append_28 : decode cX4_append 28 = .ok (.getfield 9, 3) := by decide +kernel
theorem dX4_append_31 : decode cX4_append 31 = .ok (.iload 5, 2) := by decide +kernel
theorem dX4_append_33 : decode cX4_append 33 = .ok (.iconst 1, 1) := by decide +kernel
theorem dX4_append_34 : decode cX4_append 34 = .ok (.iadd, 1) := by decide +kernel
theorem dX4_append_35 : decode cX4_append 35 = .ok (.iload_n 2, 1) := by decide +kernel
theorem dX4_append_36 : decode cX4_append 36 = .ok (.iastore, 1) := by decide +kernel
theorem dX4_append_37 : decode cX4_append 37 = .ok (.aload_n 0, 1) := by decide +kernel
theorem dX4_append_38 : decode cX4_append 38 = .ok (.getfield 9, 3) := by decide +kernel
theorem dX4_append_41 : decode cX4_append 41 = .ok (.iload 5, 2) := by decide +kernel
theorem dX4_append_43 : decode cX4_append 43 = .ok (.iconst 2, 1) := by decide +kernel
theorem dX4_append_44 : decode cX4_append 44 = .ok (.iadd, 1) := by decide +kernel
theorem dX4_append_45 : decode cX4_append 45 = .ok (.iload_n 3, 1) := by decide +kernel
theorem dX4_append_46 : decode cX4_append 46 = .ok (.iastore, 1) := by decide +kernel
theorem dX4_append_47 : decode cX4_append 47 = .ok (.aload_n 0, 1) := by decide +kernel
theorem dX4_append_48 : decode cX4_append 48 = .ok (.getfield 9, 3) := by decide +kernel
theorem dX4_append_51 : decode cX4_append 51 = .ok (.iload 5, 2) := by decide +kernel
theorem dX4_append_53 : decode cX4_append 53 = .ok (.iconst 3, 1) := by decide +kernel
theorem dX4_append_54 : decode cX4_append 54 = .ok (.iadd, 1) := by decide +kernel
theorem dX4_append_55 : decode cX4_append 55 = .ok (.iload 4, 2) := by decide +kernel
theorem dX4_append_57 : decode cX4_append 57 = .ok (.iastore, 1) := by decide +kernel
theorem dX4_append_58 : decode cX4_append 58 = .ok (.aload_n 0, 1) := by decide +kernel
theorem dX4_append_59 : decode cX4_append 59 = .ok (.dup, 1) := by decide +kernel
theorem dX4_append_60 : decode cX4_append 60 = .ok (.getfield 13, 3) := by decide +kernel
theorem dX4_append_63 : decode cX4_append 63 = .ok (.iconst 1, 1) := by decide +kernel
theorem dX4_append_64 : decode cX4_append 64 = .ok (.iadd, 1) := by decide +kernel
theorem dX4_append_65 : decode cX4_append 65 = .ok (.putfield 13, 3) := by decide +kernel
theorem dX4_append_68 : decode cX4_append 68 = .ok (.iconst 1, 1) := by decide +kernel
theorem dX4_append_69 : decode cX4_append 69 = .ok (.ireturn, 1) := by decide +kernel
theorem dX4_at_0 : decode cX4_at 0 = .ok (.aload_n 0, 1) := by decide +kernel
theorem dX4_at_1 : decode cX4_at 1 = .ok (.getfield 9, 3) := by decide +kernel
theorem dX4_at_4 : decode cX4_at 4 = .ok (.iconst 4, 1) := by decide +kernel
theorem dX4_at_5 : decode cX4_at 5 = .ok (.iload_n 1, 1) := by decide +kernel
theorem dX4_at_6 : decode cX4_at 6 = .ok (.imul, 1) := by decide +kernel
theorem dX4_at_7 : decode cX4_at 7 = .ok (.iload_n 2, 1) := by decide +kernel
theorem dX4_at_8 : decode cX4_at 8 = .ok (.iadd, 1) := by decide +kernel
theorem dX4_at_9 : decode cX4_at 9 = .ok (.iaload, 1) := by decide +kernel
theorem dX4_at_10 : decode cX4_at 10 = .ok (.ireturn, 1) := by decide +kernel
theorem dX4_takeRows_0 : decode cX4_takeRows 0 = .ok (.aload_n 1, 1) := by decide +kernel
theorem dX4_takeRows_1 : decode cX4_takeRows 1 = .ok (.getfield 9, 3) := by decide +kernel
theorem dX4_takeRows_4 : decode cX4_takeRows 4 = .ok (.iconst 0, 1) := by decide +kernel
theorem dX4_takeRows_5 : decode cX4_takeRows 5 = .ok (.aload_n 0, 1) := by decide +kernel
theorem dX4_takeRows_6 : decode cX4_takeRows 6 = .ok (.getfield 9, 3) := by decide +kernel
theorem dX4_takeRows_9 : decode cX4_takeRows 9 = .ok (.iconst 0, 1) := by decide +kernel
theorem dX4_takeRows_10 : decode cX4_takeRows 10 = .ok (.aload_n 0, 1) := by decide +kernel
theorem dX4_takeRows_11 : decode cX4_takeRows 11 = .ok (.getfield 9, 3) := by decide +kernel
theorem dX4_takeRows_14 : decode cX4_takeRows 14 = .ok (.arraylength, 1) := by decide +kernel
theorem dX4_takeRows_15 : decode cX4_takeRows 15 = .ok (.invokestatic 17, 3) := by decide +kernel
theorem dX4_takeRows_18 : decode cX4_takeRows 18 = .ok (.aload_n 0, 1) := by decide +kernel
theorem dX4_takeRows_19 : decode cX4_takeRows 19 = .ok (.aload_n 1, 1) := by decide +kernel
theorem dX4_takeRows_20 : decode cX4_takeRows 20 = .ok (.getfield 13, 3) := by decide +kernel
theorem dX4_takeRows_23 : decode cX4_takeRows 23 = .ok (.putfield 13, 3) := by decide +kernel
theorem dX4_takeRows_26 : decode cX4_takeRows 26 = .ok (.return_, 1) := by decide +kernel
theorem dX5_init_0 : decode cX5_init 0 = .ok (.aload_n 0, 1) := by decide +kernel
theorem dX5_init_1 : decode cX5_init 1 = .ok (.invokespecial 3, 3) := by decide +kernel
theorem dX5_init_4 : decode cX5_init 4 = .ok (.aload_n 0, 1) := by decide +kernel
theorem dX5_init_5 : decode cX5_init 5 = .ok (.sipush 150, 3) := by decide +kernel
theorem dX5_init_8 : decode cX5_init 8 = .ok (.newarray .byte, 2) := by decide +kernel
theorem dX5_init_10 : decode cX5_init 10 = .ok (.putfield 11, 3) := by decide +kernel
theorem dX5_init_13 : decode cX5_init 13 = .ok (.aload_n 0, 1) := by decide +kernel
theorem dX5_init_14 : decode cX5_init 14 = .ok (.sipush 151, 3) := by decide +kernel
theorem dX5_init_17 : decode cX5_init 17 = .ok (.newarray .int, 2) := by decide +kernel
theorem dX5_init_19 : decode cX5_init 19 = .ok (.putfield 15, 3) := by decide +kernel
theorem dX5_init_22 : decode cX5_init 22 = .ok (.aload_n 0, 1) := by decide +kernel
theorem dX5_init_23 : decode cX5_init 23 = .ok (.sipush 151, 3) := by decide +kernel
theorem dX5_init_26 : decode cX5_init 26 = .ok (.newarray .int, 2) := by decide +kernel
theorem dX5_init_28 : decode cX5_init 28 = .ok (.putfield 19, 3) := by decide +kernel
theorem dX5_init_31 : decode cX5_init 31 = .ok (.aload_n 0, 1) := by decide +kernel
theorem dX5_init_32 : decode cX5_init 32 = .ok (.sipush 151, 3) := by decide +kernel
theorem dX5_init_35 : decode cX5_init 35 = .ok (.newarray .int, 2) := by decide +kernel
theorem dX5_init_37 : decode cX5_init 37 = .ok (.putfield 22, 3) := by decide +kernel
theorem dX5_init_40 : decode cX5_init 40 = .ok (.aload_n 0, 1) := by decide +kernel
theorem dX5_init_41 : decode cX5_init 41 = .ok (.iconst 5, 1) := by decide +kernel
theorem dX5_init_42 : decode cX5_init 42 = .ok (.newarray .int, 2) := by decide +kernel
theorem dX5_init_44 : decode cX5_init 44 = .ok (.putfield 25, 3) := by decide +kernel
theorem dX5_init_47 : decode cX5_init 47 = .ok (.return_, 1) := by decide +kernel
theorem dX5_append_0 : decode cX5_append 0 = .ok (.aload_n 0, 1) := by decide +kernel
theorem dX5_append_1 : decode cX5_append 1 = .ok (.getfield 28, 3) := by decide +kernel
theorem dX5_append_4 : decode cX5_append 4 = .ok (.sipush 150, 3) := by decide +kernel
theorem dX5_append_7 : decode cX5_append 7 = .ok (.if_icmp .lt 5, 3) := by decide +kernel
theorem dX5_append_10 : decode cX5_append 10 = .ok (.iconst 0, 1) := by decide +kernel
theorem dX5_append_11 : decode cX5_append 11 = .ok (.ireturn, 1) := by decide +kernel
theorem dX5_append_12 : decode cX5_append 12 = .ok (.aload_n 0, 1) := by decide +kernel
theorem dX5_append_13 : decode cX5_append 13 = .ok (.getfield 11, 3) := by decide +kernel
theorem dX5_append_16 : decode cX5_append 16 = .ok (.aload_n 0, 1) := by decide +kernel
theorem dX5_append_17 : decode cX5_append 17 = .ok (.getfield 28, 3) := by decide +kernel
theorem dX5_append_20 : decode cX5_append 20 = .ok (.iload_n 1, 1) := by decide +kernel
theorem dX5_append_21 : decode cX5_append 21 = .ok (.i2b, 1) := by decide +kernel
theorem dX5_append_22 : decode cX5_append 22 = .ok (.bastore, 1) := by decide +kernel
theorem dX5_append_23 : decode cX5_append 23 = .ok (.aload_n 0, 1) := by decide +kernel
theorem dX5_append_24 : decode cX5_append 24 = .ok (.dup, 1) := by decide +kernel
theorem dX5_append_25 : decode cX5_append 25 = .ok (.getfield 28, 3) := by decide +kernel
theorem dX5_append_28 : decode cX5_append 28 = .ok (.iconst 1, 1) := by decide +kernel
theorem dX5_append_29 : decode cX5_append 29 = .ok (.iadd, 1) := by decide +kernel
theorem dX5_append_30 : decode cX5_append 30 = .ok (.putfield 28, 3) := by decide +kernel
theorem dX5_append_33 : decode cX5_append 33 = .ok (.iconst 1, 1) := by decide +kernel
theorem dX5_append_34 : decode cX5_append 34 = .ok (.ireturn, 1) := by decide +kernel
theorem dX5_scan_0 : decode cX5_scan 0 = .ok (.aload_n 0, 1) := by decide +kernel
theorem dX5_scan_1 : decode cX5_scan 1 = .ok (.iconst 0, 1) := by decide +kernel
theorem dX5_scan_2 : decode cX5_scan 2 = .ok (.putfield 32, 3) := by decide +kernel
theorem dX5_scan_5 : decode cX5_scan 5 = .ok (.iconst 0, 1) := by decide +kernel
theorem dX5_scan_6 : decode cX5_scan 6 = .ok (.istore_n 1, 1) := by decide +kernel
theorem dX5_scan_7 : decode cX5_scan 7 = .ok (.iload_n 1, 1) := by decide +kernel
theorem dX5_scan_8 : decode cX5_scan 8 = .ok (.aload_n 0, 1) := by decide +kernel
theorem dX5_scan_9 : decode cX5_scan 9 = .ok (.getfield 28, 3) := by decide +kernel
theorem dX5_scan_12 : decode cX5_scan 12 = .ok (.if_icmp .ge 48, 3) := by decide +kernel
theorem dX5_scan_15 : decode cX5_scan 15 = .ok (.aload_n 0, 1) := by decide +kernel
theorem dX5_scan_16 : decode cX5_scan 16 = .ok (.iload_n 1, 1) := by decide +kernel
theorem dX5_scan_17 : decode cX5_scan 17 = .ok (.invokevirtual 35, 3) := by decide +kernel
theorem dX5_scan_20 : decode cX5_scan 20 = .ok (.istore_n 2, 1) := by decide +kernel
theorem dX5_scan_21 : decode cX5_scan 21 = .ok (.aload_n 0, 1) := by decide +kernel
theorem dX5_scan_22 : decode cX5_scan 22 = .ok (.getfield 11, 3) := by decide +kernel
theorem dX5_scan_25 : decode cX5_scan 25 = .ok (.iload_n 1, 1) := by decide +kernel
theorem dX5_scan_26 : decode cX5_scan 26 = .ok (.baload, 1) := by decide +kernel
theorem dX5_scan_27 : decode cX5_scan 27 = .ok (.bipush 32, 2) := by decide +kernel
theorem dX5_scan_29 : decode cX5_scan 29 = .ok (.if_icmp .eq 20, 3) := by decide +kernel
theorem dX5_scan_32 : decode cX5_scan 32 = .ok (.aload_n 0, 1) := by decide +kernel
theorem dX5_scan_33 : decode cX5_scan 33 = .ok (.aload_n 0, 1) := by decide +kernel
theorem dX5_scan_34 : decode cX5_scan 34 = .ok (.iload_n 1, 1) := by decide +kernel
theorem dX5_scan_35 : decode cX5_scan 35 = .ok (.iload_n 2, 1) := by decide +kernel
theorem dX5_scan_36 : decode cX5_scan 36 = .ok (.invokevirtual 39, 3) := by decide +kernel
theorem dX5_scan_39 : decode cX5_scan 39 = .ok (.iload_n 1, 1) := by decide +kernel
theorem dX5_scan_40 : decode cX5_scan 40 = .ok (.aload_n 0, 1) := by decide +kernel
theorem dX5_scan_41 : decode cX5_scan 41 = .ok (.iload_n 1, 1) := by decide +kernel
theorem dX5_scan_42 : decode cX5_scan 42 = .ok (.iload_n 2, 1) := by decide +kernel
theorem dX5_scan_43 : decode cX5_scan 43 = .ok (.invokevirtual 43, 3) := by decide +kernel
theorem dX5_scan_46 : decode cX5_scan 46 = .ok (.invokevirtual 46, 3) := by decide +kernel
theorem dX5_scan_49 : decode cX5_scan 49 = .ok (.iload_n 2, 1) := by decide +kernel
theorem dX5_scan_50 : decode cX5_scan 50 = .ok (.iload_n 1, 1) := by decide +kernel
theorem dX5_scan_51 : decode cX5_scan 51 = .ok (.iconst 1, 1) := by decide +kernel
theorem dX5_scan_52 : decode cX5_scan 52 = .ok (.iadd, 1) := by decide +kernel
theorem dX5_scan_53 : decode cX5_scan 53 = .ok (.invokestatic 50, 3) := by decide +kernel
theorem dX5_scan_56 : decode cX5_scan 56 = .ok (.istore_n 1, 1) := by decide +kernel
theorem dX5_scan_57 : decode cX5_scan 57 = .ok (.goto (-50), 3) := by decide +kernel
theorem dX5_scan_60 : decode cX5_scan 60 = .ok (.aload_n 0, 1) := by decide +kernel
theorem dX5_scan_61 : decode cX5_scan 61 = .ok (.iconst 0, 1) := by decide +kernel
theorem dX5_scan_62 : decode cX5_scan 62 = .ok (.aload_n 0, 1) := by decide +kernel
theorem dX5_scan_63 : decode cX5_scan 63 = .ok (.getfield 28, 3) := by decide +kernel
theorem dX5_scan_66 : decode cX5_scan 66 = .ok (.iconst 0, 1) := by decide +kernel
theorem dX5_scan_67 : decode cX5_scan 67 = .ok (.invokevirtual 46, 3) := by decide +kernel
theorem dX5_scan_70 : decode cX5_scan 70 = .ok (.return_, 1) := by decide +kernel
theorem dX5_addToken_0 : decode cX5_addToken 0 = .ok (.aload_n 0, 1) := by decide +kernel
theorem dX5_addToken_1 : decode cX5_addToken 1 = .ok (.getfield 32, 3) := by decide +kernel
theorem dX5_addToken_4 : decode cX5_addToken 4 = .ok (.sipush 150, 3) := by decide +kernel
theorem dX5_addToken_7 : decode cX5_addToken 7 = .ok (.if_icmp .gt 43, 3) := by decide +kernel
theorem dX5_addToken_10 : decode cX5_addToken 10 = .ok (.aload_n 0, 1) := by decide +kernel
theorem dX5_addToken_11 : decode cX5_addToken 11 = .ok (.getfield 15, 3) := by decide +kernel
theorem dX5_addToken_14 : decode cX5_addToken 14 = .ok (.aload_n 0, 1) := by decide +kernel
theorem dX5_addToken_15 : decode cX5_addToken 15 = .ok (.getfield 32, 3) := by decide +kernel
theorem dX5_addToken_18 : decode cX5_addToken 18 = .ok (.iload_n 1, 1) := by decide +kernel
theorem dX5_addToken_19 : decode cX5_addToken 19 = .ok (.iastore, 1) := by decide +kernel
theorem dX5_addToken_20 : decode cX5_addToken 20 = .ok (.aload_n 0, 1) := by decide +kernel
theorem dX5_addToken_21 : decode cX5_addToken 21 = .ok (.getfield 19, 3) := by decide +kernel
theorem dX5_addToken_24 : decode cX5_addToken 24 = .ok (.aload_n 0, 1) := by decide +kernel
theorem dX5_addToken_25 : decode cX5_addToken 25 = .ok (.getfield 32, 3) := by decide +kernel
theorem dX5_addToken_28 : decode cX5_addToken 28 = .ok (.iload_n 2, 1) := by decide +kernel
theorem dX5_addToken_29 : decode cX5_addToken 29 = .ok (.iastore, 1) := by decide +kernel
theorem dX5_addToken_30 : decode cX5_addToken 30 = .ok (.aload_n 0, 1) := by decide +kernel
theorem dX5_addToken_31 : decode cX5_addToken 31 = .ok (.getfield 22, 3) := by decide +kernel
theorem dX5_addToken_34 : decode cX5_addToken 34 = .ok (.aload_n 0, 1) := by decide +kernel
theorem dX5_addToken_35 : decode cX5_addToken 35 = .ok (.getfield 32, 3) := by decide +kernel
theorem dX5_addToken_38 : decode cX5_addToken 38 = .ok (.iload_n 3, 1) := by decide +kernel
theorem dX5_addToken_39 : decode cX5_addToken 39 = .ok (.iastore, 1) := by decide +kernel
theorem dX5_addToken_40 : decode cX5_addToken 40 = .ok (.aload_n 0, 1) := by decide +kernel
theorem dX5_addToken_41 : decode cX5_addToken 41 = .ok (.dup, 1) := by decide +kernel
theorem dX5_addToken_42 : decode cX5_addToken 42 = .ok (.getfield 32, 3) := by decide +kernel
theorem dX5_addToken_45 : decode cX5_addToken 45 = .ok (.iconst 1, 1) := by decide +kernel
theorem dX5_addToken_46 : decode cX5_addToken 46 = .ok (.iadd, 1) := by decide +kernel
theorem dX5_addToken_47 : decode cX5_addToken 47 = .ok (.putfield 32, 3) := by decide +kernel
theorem dX5_addToken_50 : decode cX5_addToken 50 = .ok (.return_, 1) := by decide +kernel
theorem dX5_endOfRun_0 : decode cX5_endOfRun 0 = .ok (.aload_n 0, 1) := by decide +kernel
theorem dX5_endOfRun_1 : decode cX5_endOfRun 1 = .ok (.getfield 11, 3) := by decide +kernel
theorem dX5_endOfRun_4 : decode cX5_endOfRun 4 = .ok (.iload_n 1, 1) := by decide +kernel
theorem dX5_endOfRun_5 : decode cX5_endOfRun 5 = .ok (.baload, 1) := by decide +kernel
theorem dX5_endOfRun_6 : decode cX5_endOfRun 6 = .ok (.invokestatic 55, 3) := by decide +kernel
theorem dX5_endOfRun_9 : decode cX5_endOfRun 9 = .ok (.istore_n 2, 1) := by decide +kernel
theorem dX5_endOfRun_10 : decode cX5_endOfRun 10 = .ok (.iload_n 1, 1) := by decide +kernel
theorem dX5_endOfRun_11 : decode cX5_endOfRun 11 = .ok (.iconst 1, 1) := by decide +kernel
theorem dX5_endOfRun_12 : decode cX5_endOfRun 12 = .ok (.iadd, 1) := by decide +kernel
theorem dX5_endOfRun_13 : decode cX5_endOfRun 13 = .ok (.istore_n 3, 1) := by decide +kernel
theorem dX5_endOfRun_14 : decode cX5_endOfRun 14 = .ok (.iload_n 2, 1) := by decide +kernel
theorem dX5_endOfRun_15 : decode cX5_endOfRun 15 = .ok (.ifCond .eq 30, 3) := by decide +kernel
theorem dX5_endOfRun_18 : decode cX5_endOfRun 18 = .ok (.iload_n 3, 1) := by decide +kernel
theorem dX5_endOfRun_19 : decode cX5_endOfRun 19 = .ok (.aload_n 0, 1) := by decide +kernel
theorem dX5_endOfRun_20 : decode cX5_endOfRun 20 = .ok (.getfield 28, 3) := by decide +kernel
theorem dX5_endOfRun_23 : decode cX5_endOfRun 23 = .ok (.if_icmp .ge 22, 3) := by decide +kernel
theorem dX5_endOfRun_26 : decode cX5_endOfRun 26 = .ok (.aload_n 0, 1) := by decide +kernel
theorem dX5_endOfRun_27 : decode cX5_endOfRun 27 = .ok (.getfield 11, 3) := by decide +kernel
theorem dX5_endOfRun_30 : decode cX5_endOfRun 30 = .ok (.iload_n 3, 1) := by decide +kernel
theorem dX5_endOfRun_31 : decode cX5_endOfRun 31 = .ok (.baload, 1) := by decide +kernel
theorem dX5_endOfRun_32 : decode cX5_endOfRun 32 = .ok (.invokestatic 55, 3) := by decide +kernel
theorem dX5_endOfRun_35 : decode cX5_endOfRun 35 = .ok (.iload_n 2, 1) := by decide +kernel
theorem dX5_endOfRun_36 : decode cX5_endOfRun 36 = .ok (.if_icmp .ne 9, 3) := by decide +kernel
theorem dX5_endOfRun_39 : decode cX5_endOfRun 39 = .ok (.iinc 3 1, 3) := by decide +kernel
theorem dX5_endOfRun_42 : decode cX5_endOfRun 42 = .ok (.goto (-28), 3) := by decide +kernel
theorem dX5_endOfRun_45 : decode cX5_endOfRun 45 = .ok (.iload_n 3, 1) := by decide +kernel
theorem dX5_endOfRun_46 : decode cX5_endOfRun 46 = .ok (.ireturn, 1) := by decide +kernel
theorem dX5_familyOf_0 : decode cX5_familyOf 0 = .ok (.iload_n 0, 1) := by decide +kernel
theorem dX5_familyOf_1 : decode cX5_familyOf 1 = .ok (.bipush 48, 2) := by decide +kernel
theorem dX5_familyOf_3 : decode cX5_familyOf 3 = .ok (.if_icmp .lt 11, 3) := by decide +kernel
theorem dX5_familyOf_6 : decode cX5_familyOf 6 = .ok (.iload_n 0, 1) := by decide +kernel
theorem dX5_familyOf_7 : decode cX5_familyOf 7 = .ok (.bipush 57, 2) := by decide +kernel
theorem dX5_familyOf_9 : decode cX5_familyOf 9 = .ok (.if_icmp .gt 5, 3) := by decide +kernel
theorem dX5_familyOf_12 : decode cX5_familyOf 12 = .ok (.iconst 1, 1) := by decide +kernel
theorem dX5_familyOf_13 : decode cX5_familyOf 13 = .ok (.ireturn, 1) := by decide +kernel
theorem dX5_familyOf_14 : decode cX5_familyOf 14 = .ok (.iload_n 0, 1) := by decide +kernel
theorem dX5_familyOf_15 : decode cX5_familyOf 15 = .ok (.bipush 97, 2) := by decide +kernel
theorem dX5_familyOf_17 : decode cX5_familyOf 17 = .ok (.if_icmp .lt 13, 3) := by decide +kernel
theorem dX5_familyOf_20 : decode cX5_familyOf 20 = .ok (.iload_n 0, 1) := by decide +kernel
theorem dX5_familyOf_21 : decode cX5_familyOf 21 = .ok (.bipush 122, 2) := by decide +kernel
theorem dX5_familyOf_23 : decode cX5_familyOf 23 = .ok (.if_icmp .gt 7, 3) := by decide +kernel
theorem dX5_familyOf_26 : decode cX5_familyOf 26 = .ok (.iconst 2, 1) := by decide +kernel
theorem dX5_familyOf_27 : decode cX5_familyOf 27 = .ok (.goto 4, 3) := by decide +kernel
theorem dX5_familyOf_30 : decode cX5_familyOf 30 = .ok (.iconst 0, 1) := by decide +kernel
theorem dX5_familyOf_31 : decode cX5_familyOf 31 = .ok (.ireturn, 1) := by decide +kernel
theorem dX5_sortOf_0 : decode cX5_sortOf 0 = .ok (.aload_n 0, 1) := by decide +kernel
theorem dX5_sortOf_1 : decode cX5_sortOf 1 = .ok (.getfield 11, 3) := by decide +kernel
theorem dX5_sortOf_4 : decode cX5_sortOf 4 = .ok (.iload_n 1, 1) := by decide +kernel
theorem dX5_sortOf_5 : decode cX5_sortOf 5 = .ok (.baload, 1) := by decide +kernel
theorem dX5_sortOf_6 : decode cX5_sortOf 6 = .ok (.invokestatic 55, 3) := by decide +kernel
theorem dX5_sortOf_9 : decode cX5_sortOf 9 = .ok (.lookupswitch 48 #[(1, 27), (2, 41)], 27) := by decide +kernel
theorem dX5_sortOf_36 : decode cX5_sortOf 36 = .ok (.iload_n 2, 1) := by decide +kernel
theorem dX5_sortOf_37 : decode cX5_sortOf 37 = .ok (.iload_n 1, 1) := by decide +kernel
theorem dX5_sortOf_38 : decode cX5_sortOf 38 = .ok (.isub, 1) := by decide +kernel
theorem dX5_sortOf_39 : decode cX5_sortOf 39 = .ok (.iconst 2, 1) := by decide +kernel
theorem dX5_sortOf_40 : decode cX5_sortOf 40 = .ok (.if_icmp .gt 7, 3) := by decide +kernel
theorem dX5_sortOf_43 : decode cX5_sortOf 43 = .ok (.iconst 5, 1) := by decide +kernel
theorem dX5_sortOf_44 : decode cX5_sortOf 44 = .ok (.goto 5, 3) := by decide +kernel
theorem dX5_sortOf_47 : decode cX5_sortOf 47 = .ok (.bipush 7, 2) := by decide +kernel
theorem dX5_sortOf_49 : decode cX5_sortOf 49 = .ok (.ireturn, 1) := by decide +kernel
theorem dX5_sortOf_50 : decode cX5_sortOf 50 = .ok (.aload_n 0, 1) := by decide +kernel
theorem dX5_sortOf_51 : decode cX5_sortOf 51 = .ok (.iload_n 1, 1) := by decide +kernel
theorem dX5_sortOf_52 : decode cX5_sortOf 52 = .ok (.iload_n 2, 1) := by decide +kernel
theorem dX5_sortOf_53 : decode cX5_sortOf 53 = .ok (.invokevirtual 58, 3) := by decide +kernel
theorem dX5_sortOf_56 : decode cX5_sortOf 56 = .ok (.ireturn, 1) := by decide +kernel
theorem dX5_sortOf_57 : decode cX5_sortOf 57 = .ok (.aload_n 0, 1) := by decide +kernel
theorem dX5_sortOf_58 : decode cX5_sortOf 58 = .ok (.getfield 11, 3) := by decide +kernel
theorem dX5_sortOf_61 : decode cX5_sortOf 61 = .ok (.iload_n 1, 1) := by decide +kernel
theorem dX5_sortOf_62 : decode cX5_sortOf 62 = .ok (.baload, 1) := by decide +kernel
theorem dX5_sortOf_63 : decode cX5_sortOf 63 = .ok (.bipush 59, 2) := by decide +kernel
theorem dX5_sortOf_65 : decode cX5_sortOf 65 = .ok (.if_icmp .ne 8, 3) := by decide +kernel
theorem dX5_sortOf_68 : decode cX5_sortOf 68 = .ok (.bipush 6, 2) := by decide +kernel
theorem dX5_sortOf_70 : decode cX5_sortOf 70 = .ok (.goto 5, 3) := by decide +kernel
theorem dX5_sortOf_73 : decode cX5_sortOf 73 = .ok (.bipush 7, 2) := by decide +kernel
theorem dX5_sortOf_75 : decode cX5_sortOf 75 = .ok (.ireturn, 1) := by decide +kernel
theorem dX5_sortOfWord_0 : decode cX5_sortOfWord 0 = .ok (.aload_n 0, 1) := by decide +kernel
theorem dX5_sortOfWord_1 : decode cX5_sortOfWord 1 = .ok (.ldc 61, 2) := by decide +kernel
theorem dX5_sortOfWord_3 : decode cX5_sortOfWord 3 = .ok (.iload_n 1, 1) := by decide +kernel
theorem dX5_sortOfWord_4 : decode cX5_sortOfWord 4 = .ok (.iload_n 2, 1) := by decide +kernel
theorem dX5_sortOfWord_5 : decode cX5_sortOfWord 5 = .ok (.invokevirtual 63, 3) := by decide +kernel
theorem dX5_sortOfWord_8 : decode cX5_sortOfWord 8 = .ok (.ifCond .eq 5, 3) := by decide +kernel
theorem dX5_sortOfWord_11 : decode cX5_sortOfWord 11 = .ok (.iconst 1, 1) := by decide +kernel
theorem dX5_sortOfWord_12 : decode cX5_sortOfWord 12 = .ok (.ireturn, 1) := by decide +kernel
theorem dX5_sortOfWord_13 : decode cX5_sortOfWord 13 = .ok (.aload_n 0, 1) := by decide +kernel
theorem dX5_sortOfWord_14 : decode cX5_sortOfWord 14 = .ok (.ldc 67, 2) := by decide +kernel
theorem dX5_sortOfWord_16 : decode cX5_sortOfWord 16 = .ok (.iload_n 1, 1) := by decide +kernel
theorem dX5_sortOfWord_17 : decode cX5_sortOfWord 17 = .ok (.iload_n 2, 1) := by decide +kernel
theorem dX5_sortOfWord_18 : decode cX5_sortOfWord 18 = .ok (.invokevirtual 63, 3) := by decide +kernel
theorem dX5_sortOfWord_21 : decode cX5_sortOfWord 21 = .ok (.ifCond .eq 5, 3) := by decide +kernel
theorem dX5_sortOfWord_24 : decode cX5_sortOfWord 24 = .ok (.iconst 2, 1) := by decide +kernel
theorem dX5_sortOfWord_25 : decode cX5_sortOfWord 25 = .ok (.ireturn, 1) := by decide +kernel
theorem dX5_sortOfWord_26 : decode cX5_sortOfWord 26 = .ok (.aload_n 0, 1) := by decide +kernel
theorem dX5_sortOfWord_27 : decode cX5_sortOfWord 27 = .ok (.ldc 69, 2) := by decide +kernel
theorem dX5_sortOfWord_29 : decode cX5_sortOfWord 29 = .ok (.iload_n 1, 1) := by decide +kernel
theorem dX5_sortOfWord_30 : decode cX5_sortOfWord 30 = .ok (.iload_n 2, 1) := by decide +kernel
theorem dX5_sortOfWord_31 : decode cX5_sortOfWord 31 = .ok (.invokevirtual 63, 3) := by decide +kernel
theorem dX5_sortOfWord_34 : decode cX5_sortOfWord 34 = .ok (.ifCond .eq 5, 3) := by decide +kernel
theorem dX5_sortOfWord_37 : decode cX5_sortOfWord 37 = .ok (.iconst 3, 1) := by decide +kernel
theorem dX5_sortOfWord_38 : decode cX5_sortOfWord 38 = .ok (.ireturn, 1) := by decide +kernel
theorem dX5_sortOfWord_39 : decode cX5_sortOfWord 39 = .ok (.aload_n 0, 1) := by decide +kernel
theorem dX5_sortOfWord_40 : decode cX5_sortOfWord 40 = .ok (.ldc 71, 2) := by decide +kernel
theorem dX5_sortOfWord_42 : decode cX5_sortOfWord 42 = .ok (.iload_n 1, 1) := by decide +kernel
theorem dX5_sortOfWord_43 : decode cX5_sortOfWord 43 = .ok (.iload_n 2, 1) := by decide +kernel
theorem dX5_sortOfWord_44 : decode cX5_sortOfWord 44 = .ok (.invokevirtual 63, 3) := by decide +kernel
theorem dX5_sortOfWord_47 : decode cX5_sortOfWord 47 = .ok (.ifCond .eq 7, 3) := by decide +kernel
theorem dX5_sortOfWord_50 : decode cX5_sortOfWord 50 = .ok (.iconst 4, 1) := by decide +kernel
theorem dX5_sortOfWord_51 : decode cX5_sortOfWord 51 = .ok (.goto 5, 3) := by decide +kernel
theorem dX5_sortOfWord_54 : decode cX5_sortOfWord 54 = .ok (.bipush 7, 2) := by decide +kernel
theorem dX5_sortOfWord_56 : decode cX5_sortOfWord 56 = .ok (.ireturn, 1) := by decide +kernel
theorem dX5_isWord_0 : decode cX5_isWord 0 = .ok (.iload_n 3, 1) := by decide +kernel
theorem dX5_isWord_1 : decode cX5_isWord 1 = .ok (.iload_n 2, 1) := by decide +kernel
theorem dX5_isWord_2 : decode cX5_isWord 2 = .ok (.isub, 1) := by decide +kernel
theorem dX5_isWord_3 : decode cX5_isWord 3 = .ok (.aload_n 1, 1) := by decide +kernel
theorem dX5_isWord_4 : decode cX5_isWord 4 = .ok (.invokevirtual 73, 3) := by decide +kernel
theorem dX5_isWord_7 : decode cX5_isWord 7 = .ok (.if_icmp .eq 5, 3) := by decide +kernel
theorem dX5_isWord_10 : decode cX5_isWord 10 = .ok (.iconst 0, 1) := by decide +kernel
theorem dX5_isWord_11 : decode cX5_isWord 11 = .ok (.ireturn, 1) := by decide +kernel
theorem dX5_isWord_12 : decode cX5_isWord 12 = .ok (.iconst 0, 1) := by decide +kernel
theorem dX5_isWord_13 : decode cX5_isWord 13 = .ok (.istore 4, 2) := by decide +kernel
theorem dX5_isWord_15 : decode cX5_isWord 15 = .ok (.iload 4, 2) := by decide +kernel
theorem dX5_isWord_17 : decode cX5_isWord 17 = .ok (.aload_n 1, 1) := by decide +kernel
theorem dX5_isWord_18 : decode cX5_isWord 18 = .ok (.invokevirtual 73, 3) := by decide +kernel
theorem dX5_isWord_21 : decode cX5_isWord 21 = .ok (.if_icmp .ge 29, 3) := by decide +kernel
theorem dX5_isWord_24 : decode cX5_isWord 24 = .ok (.aload_n 0, 1) := by decide +kernel
theorem dX5_isWord_25 : decode cX5_isWord 25 = .ok (.getfield 11, 3) := by decide +kernel
theorem dX5_isWord_28 : decode cX5_isWord 28 = .ok (.iload_n 2, 1) := by decide +kernel
theorem dX5_isWord_29 : decode cX5_isWord 29 = .ok (.iload 4, 2) := by decide +kernel
theorem dX5_isWord_31 : decode cX5_isWord 31 = .ok (.iadd, 1) := by decide +kernel
theorem dX5_isWord_32 : decode cX5_isWord 32 = .ok (.baload, 1) := by decide +kernel
theorem dX5_isWord_33 : decode cX5_isWord 33 = .ok (.aload_n 1, 1) := by decide +kernel
theorem dX5_isWord_34 : decode cX5_isWord 34 = .ok (.iload 4, 2) := by decide +kernel
theorem dX5_isWord_36 : decode cX5_isWord 36 = .ok (.invokevirtual 79, 3) := by decide +kernel
theorem dX5_isWord_39 : decode cX5_isWord 39 = .ok (.if_icmp .eq 5, 3) := by decide +kernel
theorem dX5_isWord_42 : decode cX5_isWord 42 = .ok (.iconst 0, 1) := by decide +kernel
theorem dX5_isWord_43 : decode cX5_isWord 43 = .ok (.ireturn, 1) := by decide +kernel
theorem dX5_isWord_44 : decode cX5_isWord 44 = .ok (.iinc 4 1, 3) := by decide +kernel
theorem dX5_isWord_47 : decode cX5_isWord 47 = .ok (.goto (-32), 3) := by decide +kernel
theorem dX5_isWord_50 : decode cX5_isWord 50 = .ok (.iconst 1, 1) := by decide +kernel
theorem dX5_isWord_51 : decode cX5_isWord 51 = .ok (.ireturn, 1) := by decide +kernel
theorem dX5_valueOf_0 : decode cX5_valueOf 0 = .ok (.aload_n 0, 1) := by decide +kernel
theorem dX5_valueOf_1 : decode cX5_valueOf 1 = .ok (.getfield 11, 3) := by decide +kernel
theorem dX5_valueOf_4 : decode cX5_valueOf 4 = .ok (.iload_n 2, 1) := by decide +kernel
theorem dX5_valueOf_5 : decode cX5_valueOf 5 = .ok (.iconst 1, 1) := by decide +kernel
theorem dX5_valueOf_6 : decode cX5_valueOf 6 = .ok (.isub, 1) := by decide +kernel
theorem dX5_valueOf_7 : decode cX5_valueOf 7 = .ok (.baload, 1) := by decide +kernel
theorem dX5_valueOf_8 : decode cX5_valueOf 8 = .ok (.bipush 48, 2) := by decide +kernel
theorem dX5_valueOf_10 : decode cX5_valueOf 10 = .ok (.isub, 1) := by decide +kernel
theorem dX5_valueOf_11 : decode cX5_valueOf 11 = .ok (.istore_n 3, 1) := by decide +kernel
theorem dX5_valueOf_12 : decode cX5_valueOf 12 = .ok (.iload_n 2, 1) := by decide +kernel
theorem dX5_valueOf_13 : decode cX5_valueOf 13 = .ok (.iload_n 1, 1) := by decide +kernel
theorem dX5_valueOf_14 : decode cX5_valueOf 14 = .ok (.isub, 1) := by decide +kernel
theorem dX5_valueOf_15 : decode cX5_valueOf 15 = .ok (.iconst 2, 1) := by decide +kernel
theorem dX5_valueOf_16 : decode cX5_valueOf 16 = .ok (.if_icmp .ne 20, 3) := by decide +kernel
theorem dX5_valueOf_19 : decode cX5_valueOf 19 = .ok (.bipush 10, 2) := by decide +kernel
theorem dX5_valueOf_21 : decode cX5_valueOf 21 = .ok (.aload_n 0, 1) := by decide +kernel
theorem dX5_valueOf_22 : decode cX5_valueOf 22 = .ok (.getfield 11, 3) := by decide +kernel
theorem dX5_valueOf_25 : decode cX5_valueOf 25 = .ok (.iload_n 1, 1) := by decide +kernel
theorem dX5_valueOf_26 : decode cX5_valueOf 26 = .ok (.baload, 1) := by decide +kernel
theorem dX5_valueOf_27 : decode cX5_valueOf 27 = .ok (.bipush 48, 2) := by decide +kernel
theorem dX5_valueOf_29 : decode cX5_valueOf 29 = .ok (.isub, 1) := by decide +kernel
theorem dX5_valueOf_30 : decode cX5_valueOf 30 = .ok (.imul, 1) := by decide +kernel
theorem dX5_valueOf_31 : decode cX5_valueOf 31 = .ok (.iload_n 3, 1) := by decide +kernel
theorem dX5_valueOf_32 : decode cX5_valueOf 32 = .ok (.iadd, 1) := by decide +kernel
theorem dX5_valueOf_33 : decode cX5_valueOf 33 = .ok (.goto 4, 3) := by decide +kernel
theorem dX5_valueOf_36 : decode cX5_valueOf 36 = .ok (.iload_n 3, 1) := by decide +kernel
theorem dX5_valueOf_37 : decode cX5_valueOf 37 = .ok (.ireturn, 1) := by decide +kernel
theorem dX5_build_0 : decode cX5_build 0 = .ok (.aload_n 0, 1) := by decide +kernel
theorem dX5_build_1 : decode cX5_build 1 = .ok (.iconst 0, 1) := by decide +kernel
theorem dX5_build_2 : decode cX5_build 2 = .ok (.putfield 83, 3) := by decide +kernel
theorem dX5_build_5 : decode cX5_build 5 = .ok (.aload_n 0, 1) := by decide +kernel
theorem dX5_build_6 : decode cX5_build 6 = .ok (.iconst 1, 1) := by decide +kernel
theorem dX5_build_7 : decode cX5_build 7 = .ok (.invokevirtual 86, 3) := by decide +kernel
theorem dX5_build_10 : decode cX5_build 10 = .ok (.ifCond .eq 13, 3) := by decide +kernel
theorem dX5_build_13 : decode cX5_build 13 = .ok (.aload_n 0, 1) := by decide +kernel
theorem dX5_build_14 : decode cX5_build 14 = .ok (.iconst 0, 1) := by decide +kernel
theorem dX5_build_15 : decode cX5_build 15 = .ok (.bipush 9, 2) := by decide +kernel
theorem dX5_build_17 : decode cX5_build 17 = .ok (.invokevirtual 90, 3) := by decide +kernel
theorem dX5_build_20 : decode cX5_build 20 = .ok (.ifCond .ne 8, 3) := by decide +kernel
theorem dX5_build_23 : decode cX5_build 23 = .ok (.aload_n 0, 1) := by decide +kernel
theorem dX5_build_24 : decode cX5_build 24 = .ok (.invokevirtual 94, 3) := by decide +kernel
theorem dX5_build_27 : decode cX5_build 27 = .ok (.ireturn, 1) := by decide +kernel
theorem dX5_build_28 : decode cX5_build 28 = .ok (.aload_n 1, 1) := by decide +kernel
theorem dX5_build_29 : decode cX5_build 29 = .ok (.aload_n 0, 1) := by decide +kernel
theorem dX5_build_30 : decode cX5_build 30 = .ok (.getfield 22, 3) := by decide +kernel
theorem dX5_build_33 : decode cX5_build 33 = .ok (.aload_n 0, 1) := by decide +kernel
theorem dX5_build_34 : decode cX5_build 34 = .ok (.getfield 83, 3) := by decide +kernel
theorem dX5_build_37 : decode cX5_build 37 = .ok (.iaload, 1) := by decide +kernel
theorem dX5_build_38 : decode cX5_build 38 = .ok (.invokevirtual 97, 3) := by decide +kernel
theorem dX5_build_41 : decode cX5_build 41 = .ok (.aload_n 0, 1) := by decide +kernel
theorem dX5_build_42 : decode cX5_build 42 = .ok (.invokevirtual 103, 3) := by decide +kernel
theorem dX5_build_45 : decode cX5_build 45 = .ok (.ifCond .ne 8, 3) := by decide +kernel
theorem dX5_build_48 : decode cX5_build 48 = .ok (.aload_n 0, 1) := by decide +kernel
theorem dX5_build_49 : decode cX5_build 49 = .ok (.invokevirtual 94, 3) := by decide +kernel
theorem dX5_build_52 : decode cX5_build 52 = .ok (.ireturn, 1) := by decide +kernel
theorem dX5_build_53 : decode cX5_build 53 = .ok (.iconst 1, 1) := by decide +kernel
theorem dX5_build_54 : decode cX5_build 54 = .ok (.istore_n 2, 1) := by decide +kernel
theorem dX5_build_55 : decode cX5_build 55 = .ok (.aload_n 0, 1) := by decide +kernel
theorem dX5_build_56 : decode cX5_build 56 = .ok (.invokevirtual 107, 3) := by decide +kernel
theorem dX5_build_59 : decode cX5_build 59 = .ok (.aload_n 0, 1) := by decide +kernel
theorem dX5_build_60 : decode cX5_build 60 = .ok (.iconst 0, 1) := by decide +kernel
theorem dX5_build_61 : decode cX5_build 61 = .ok (.invokevirtual 86, 3) := by decide +kernel
theorem dX5_build_64 : decode cX5_build 64 = .ok (.ifCond .ne 40, 3) := by decide +kernel
theorem dX5_build_67 : decode cX5_build 67 = .ok (.iload_n 2, 1) := by decide +kernel
theorem dX5_build_68 : decode cX5_build 68 = .ok (.sipush 150, 3) := by decide +kernel
theorem dX5_build_71 : decode cX5_build 71 = .ok (.if_icmp .ge 33, 3) := by decide +kernel
theorem dX5_build_74 : decode cX5_build 74 = .ok (.aload_n 0, 1) := by decide +kernel
theorem dX5_build_75 : decode cX5_build 75 = .ok (.aload_n 1, 1) := by decide +kernel
theorem dX5_build_76 : decode cX5_build 76 = .ok (.invokevirtual 110, 3) := by decide +kernel
theorem dX5_build_79 : decode cX5_build 79 = .ok (.ifCond .eq 10, 3) := by decide +kernel
theorem dX5_build_82 : decode cX5_build 82 = .ok (.aload_n 0, 1) := by decide +kernel
theorem dX5_build_83 : decode cX5_build 83 = .ok (.invokevirtual 103, 3) := by decide +kernel
theorem dX5_build_86 : decode cX5_build 86 = .ok (.ifCond .ne 8, 3) := by decide +kernel
theorem dX5_build_89 : decode cX5_build 89 = .ok (.aload_n 0, 1) := by decide +kernel
theorem dX5_build_90 : decode cX5_build 90 = .ok (.invokevirtual 94, 3) := by decide +kernel
theorem dX5_build_93 : decode cX5_build 93 = .ok (.ireturn, 1) := by decide +kernel
theorem dX5_build_94 : decode cX5_build 94 = .ok (.iinc 2 1, 3) := by decide +kernel
theorem dX5_build_97 : decode cX5_build 97 = .ok (.aload_n 0, 1) := by decide +kernel
theorem dX5_build_98 : decode cX5_build 98 = .ok (.invokevirtual 107, 3) := by decide +kernel
theorem dX5_build_101 : decode cX5_build 101 = .ok (.goto (-42), 3) := by decide +kernel
theorem dX5_build_104 : decode cX5_build 104 = .ok (.iload_n 2, 1) := by decide +kernel
theorem dX5_build_105 : decode cX5_build 105 = .ok (.ireturn, 1) := by decide +kernel
theorem dX5_advance_0 : decode cX5_advance 0 = .ok (.aload_n 0, 1) := by decide +kernel
theorem dX5_advance_1 : decode cX5_advance 1 = .ok (.getfield 83, 3) := by decide +kernel
theorem dX5_advance_4 : decode cX5_advance 4 = .ok (.aload_n 0, 1) := by decide +kernel
theorem dX5_advance_5 : decode cX5_advance 5 = .ok (.getfield 32, 3) := by decide +kernel
theorem dX5_advance_8 : decode cX5_advance 8 = .ok (.iconst 1, 1) := by decide +kernel
theorem dX5_advance_9 : decode cX5_advance 9 = .ok (.isub, 1) := by decide +kernel
theorem dX5_advance_10 : decode cX5_advance 10 = .ok (.if_icmp .ge 13, 3) := by decide +kernel
theorem dX5_advance_13 : decode cX5_advance 13 = .ok (.aload_n 0, 1) := by decide +kernel
theorem dX5_advance_14 : decode cX5_advance 14 = .ok (.dup, 1) := by decide +kernel
theorem dX5_advance_15 : decode cX5_advance 15 = .ok (.getfield 83, 3) := by decide +kernel
theorem dX5_advance_18 : decode cX5_advance 18 = .ok (.iconst 1, 1) := by decide +kernel
theorem dX5_advance_19 : decode cX5_advance 19 = .ok (.iadd, 1) := by decide +kernel
theorem dX5_advance_20 : decode cX5_advance 20 = .ok (.putfield 83, 3) := by decide +kernel
theorem dX5_advance_23 : decode cX5_advance 23 = .ok (.return_, 1) := by decide +kernel
theorem dX5_isNow_0 : decode cX5_isNow 0 = .ok (.aload_n 0, 1) := by decide +kernel
theorem dX5_isNow_1 : decode cX5_isNow 1 = .ok (.getfield 15, 3) := by decide +kernel
theorem dX5_isNow_4 : decode cX5_isNow 4 = .ok (.aload_n 0, 1) := by decide +kernel
theorem dX5_isNow_5 : decode cX5_isNow 5 = .ok (.getfield 83, 3) := by decide +kernel
theorem dX5_isNow_8 : decode cX5_isNow 8 = .ok (.iaload, 1) := by decide +kernel
theorem dX5_isNow_9 : decode cX5_isNow 9 = .ok (.iload_n 1, 1) := by decide +kernel
theorem dX5_isNow_10 : decode cX5_isNow 10 = .ok (.if_icmp .ne 7, 3) := by decide +kernel
theorem dX5_isNow_13 : decode cX5_isNow 13 = .ok (.iconst 1, 1) := by decide +kernel
theorem dX5_isNow_14 : decode cX5_isNow 14 = .ok (.goto 4, 3) := by decide +kernel
theorem dX5_isNow_17 : decode cX5_isNow 17 = .ok (.iconst 0, 1) := by decide +kernel
theorem dX5_isNow_18 : decode cX5_isNow 18 = .ok (.ireturn, 1) := by decide +kernel
theorem dX5_fault_0 : decode cX5_fault 0 = .ok (.bipush (-10), 2) := by decide +kernel
theorem dX5_fault_2 : decode cX5_fault 2 = .ok (.aload_n 0, 1) := by decide +kernel
theorem dX5_fault_3 : decode cX5_fault 3 = .ok (.getfield 19, 3) := by decide +kernel
theorem dX5_fault_6 : decode cX5_fault 6 = .ok (.aload_n 0, 1) := by decide +kernel
theorem dX5_fault_7 : decode cX5_fault 7 = .ok (.getfield 83, 3) := by decide +kernel
theorem dX5_fault_10 : decode cX5_fault 10 = .ok (.iaload, 1) := by decide +kernel
theorem dX5_fault_11 : decode cX5_fault 11 = .ok (.isub, 1) := by decide +kernel
theorem dX5_fault_12 : decode cX5_fault 12 = .ok (.ireturn, 1) := by decide +kernel
theorem dX5_takesStop_0 : decode cX5_takesStop 0 = .ok (.aload_n 0, 1) := by decide +kernel
theorem dX5_takesStop_1 : decode cX5_takesStop 1 = .ok (.invokevirtual 107, 3) := by decide +kernel
theorem dX5_takesStop_4 : decode cX5_takesStop 4 = .ok (.aload_n 0, 1) := by decide +kernel
theorem dX5_takesStop_5 : decode cX5_takesStop 5 = .ok (.bipush 6, 2) := by decide +kernel
theorem dX5_takesStop_7 : decode cX5_takesStop 7 = .ok (.invokevirtual 86, 3) := by decide +kernel
theorem dX5_takesStop_10 : decode cX5_takesStop 10 = .ok (.ireturn, 1) := by decide +kernel
theorem dX5_takesNumber_0 : decode cX5_takesNumber 0 = .ok (.aload_n 0, 1) := by decide +kernel
theorem dX5_takesNumber_1 : decode cX5_takesNumber 1 = .ok (.invokevirtual 107, 3) := by decide +kernel
theorem dX5_takesNumber_4 : decode cX5_takesNumber 4 = .ok (.aload_n 0, 1) := by decide +kernel
theorem dX5_takesNumber_5 : decode cX5_takesNumber 5 = .ok (.iconst 5, 1) := by decide +kernel
theorem dX5_takesNumber_6 : decode cX5_takesNumber 6 = .ok (.invokevirtual 86, 3) := by decide +kernel
theorem dX5_takesNumber_9 : decode cX5_takesNumber 9 = .ok (.ifCond .eq 24, 3) := by decide +kernel
theorem dX5_takesNumber_12 : decode cX5_takesNumber 12 = .ok (.aload_n 0, 1) := by decide +kernel
theorem dX5_takesNumber_13 : decode cX5_takesNumber 13 = .ok (.getfield 22, 3) := by decide +kernel
theorem dX5_takesNumber_16 : decode cX5_takesNumber 16 = .ok (.aload_n 0, 1) := by decide +kernel
theorem dX5_takesNumber_17 : decode cX5_takesNumber 17 = .ok (.getfield 83, 3) := by decide +kernel
theorem dX5_takesNumber_20 : decode cX5_takesNumber 20 = .ok (.iaload, 1) := by decide +kernel
theorem dX5_takesNumber_21 : decode cX5_takesNumber 21 = .ok (.iload_n 1, 1) := by decide +kernel
theorem dX5_takesNumber_22 : decode cX5_takesNumber 22 = .ok (.iload_n 2, 1) := by decide +kernel
theorem dX5_takesNumber_23 : decode cX5_takesNumber 23 = .ok (.invokestatic 114, 3) := by decide +kernel
theorem dX5_takesNumber_26 : decode cX5_takesNumber 26 = .ok (.ifCond .eq 7, 3) := by decide +kernel
theorem dX5_takesNumber_29 : decode cX5_takesNumber 29 = .ok (.iconst 1, 1) := by decide +kernel
theorem dX5_takesNumber_30 : decode cX5_takesNumber 30 = .ok (.goto 4, 3) := by decide +kernel
theorem dX5_takesNumber_33 : decode cX5_takesNumber 33 = .ok (.iconst 0, 1) := by decide +kernel
theorem dX5_takesNumber_34 : decode cX5_takesNumber 34 = .ok (.ireturn, 1) := by decide +kernel
theorem dX5_takesItem_0 : decode cX5_takesItem 0 = .ok (.aload_n 0, 1) := by decide +kernel
theorem dX5_takesItem_1 : decode cX5_takesItem 1 = .ok (.getfield 15, 3) := by decide +kernel
theorem dX5_takesItem_4 : decode cX5_takesItem 4 = .ok (.aload_n 0, 1) := by decide +kernel
theorem dX5_takesItem_5 : decode cX5_takesItem 5 = .ok (.getfield 83, 3) := by decide +kernel
theorem dX5_takesItem_8 : decode cX5_takesItem 8 = .ok (.iaload, 1) := by decide +kernel
theorem dX5_takesItem_9 : decode cX5_takesItem 9 = .ok (.tableswitch 45 2 4 #[27, 33, 39], 27) := by decide +kernel
theorem dX5_takesItem_36 : decode cX5_takesItem 36 = .ok (.aload_n 0, 1) := by decide +kernel
theorem dX5_takesItem_37 : decode cX5_takesItem 37 = .ok (.aload_n 1, 1) := by decide +kernel
theorem dX5_takesItem_38 : decode cX5_takesItem 38 = .ok (.invokevirtual 118, 3) := by decide +kernel
theorem dX5_takesItem_41 : decode cX5_takesItem 41 = .ok (.ireturn, 1) := by decide +kernel
theorem dX5_takesItem_42 : decode cX5_takesItem 42 = .ok (.aload_n 0, 1) := by decide +kernel
theorem dX5_takesItem_43 : decode cX5_takesItem 43 = .ok (.aload_n 1, 1) := by decide +kernel
theorem dX5_takesItem_44 : decode cX5_takesItem 44 = .ok (.invokevirtual 121, 3) := by decide +kernel
theorem dX5_takesItem_47 : decode cX5_takesItem 47 = .ok (.ireturn, 1) := by decide +kernel
theorem dX5_takesItem_48 : decode cX5_takesItem 48 = .ok (.aload_n 1, 1) := by decide +kernel
theorem dX5_takesItem_49 : decode cX5_takesItem 49 = .ok (.invokevirtual 124, 3) := by decide +kernel
theorem dX5_takesItem_52 : decode cX5_takesItem 52 = .ok (.iconst 1, 1) := by decide +kernel
theorem dX5_takesItem_53 : decode cX5_takesItem 53 = .ok (.ireturn, 1) := by decide +kernel
theorem dX5_takesItem_54 : decode cX5_takesItem 54 = .ok (.iconst 0, 1) := by decide +kernel
theorem dX5_takesItem_55 : decode cX5_takesItem 55 = .ok (.ireturn, 1) := by decide +kernel
theorem dX5_takesAnvil_0 : decode cX5_takesAnvil 0 = .ok (.aload_n 1, 1) := by decide +kernel
theorem dX5_takesAnvil_1 : decode cX5_takesAnvil 1 = .ok (.getfield 127, 3) := by decide +kernel
theorem dX5_takesAnvil_4 : decode cX5_takesAnvil 4 = .ok (.iconst 4, 1) := by decide +kernel
theorem dX5_takesAnvil_5 : decode cX5_takesAnvil 5 = .ok (.if_icmp .lt 5, 3) := by decide +kernel
theorem dX5_takesAnvil_8 : decode cX5_takesAnvil 8 = .ok (.iconst 0, 1) := by decide +kernel
theorem dX5_takesAnvil_9 : decode cX5_takesAnvil 9 = .ok (.ireturn, 1) := by decide +kernel
theorem dX5_takesAnvil_10 : decode cX5_takesAnvil 10 = .ok (.iconst 0, 1) := by decide +kernel
theorem dX5_takesAnvil_11 : decode cX5_takesAnvil 11 = .ok (.istore_n 2, 1) := by decide +kernel
theorem dX5_takesAnvil_12 : decode cX5_takesAnvil 12 = .ok (.iload_n 2, 1) := by decide +kernel
theorem dX5_takesAnvil_13 : decode cX5_takesAnvil 13 = .ok (.aload_n 0, 1) := by decide +kernel
theorem dX5_takesAnvil_14 : decode cX5_takesAnvil 14 = .ok (.getfield 25, 3) := by decide +kernel
theorem dX5_takesAnvil_17 : decode cX5_takesAnvil 17 = .ok (.arraylength, 1) := by decide +kernel
theorem dX5_takesAnvil_18 : decode cX5_takesAnvil 18 = .ok (.if_icmp .ge 44, 3) := by decide +kernel
theorem dX5_takesAnvil_21 : decode cX5_takesAnvil 21 = .ok (.aload_n 0, 1) := by decide +kernel
theorem dX5_takesAnvil_22 : decode cX5_takesAnvil 22 = .ok (.iconst 0, 1) := by decide +kernel
theorem dX5_takesAnvil_23 : decode cX5_takesAnvil 23 = .ok (.iload_n 2, 1) := by decide +kernel
theorem dX5_takesAnvil_24 : decode cX5_takesAnvil 24 = .ok (.ifCond .ne 7, 3) := by decide +kernel
theorem dX5_takesAnvil_27 : decode cX5_takesAnvil 27 = .ok (.iconst 5, 1) := by decide +kernel
theorem dX5_takesAnvil_28 : decode cX5_takesAnvil 28 = .ok (.goto 5, 3) := by decide +kernel
theorem dX5_takesAnvil_31 : decode cX5_takesAnvil 31 = .ok (.bipush 20, 2) := by decide +kernel
theorem dX5_takesAnvil_33 : decode cX5_takesAnvil 33 = .ok (.invokevirtual 90, 3) := by decide +kernel
theorem dX5_takesAnvil_36 : decode cX5_takesAnvil 36 = .ok (.ifCond .ne 5, 3) := by decide +kernel
theorem dX5_takesAnvil_39 : decode cX5_takesAnvil 39 = .ok (.iconst 0, 1) := by decide +kernel
theorem dX5_takesAnvil_40 : decode cX5_takesAnvil 40 = .ok (.ireturn, 1) := by decide +kernel
theorem dX5_takesAnvil_41 : decode cX5_takesAnvil 41 = .ok (.aload_n 0, 1) := by decide +kernel
theorem dX5_takesAnvil_42 : decode cX5_takesAnvil 42 = .ok (.getfield 25, 3) := by decide +kernel
theorem dX5_takesAnvil_45 : decode cX5_takesAnvil 45 = .ok (.iload_n 2, 1) := by decide +kernel
theorem dX5_takesAnvil_46 : decode cX5_takesAnvil 46 = .ok (.aload_n 0, 1) := by decide +kernel
theorem dX5_takesAnvil_47 : decode cX5_takesAnvil 47 = .ok (.getfield 22, 3) := by decide +kernel
theorem dX5_takesAnvil_50 : decode cX5_takesAnvil 50 = .ok (.aload_n 0, 1) := by decide +kernel
theorem dX5_takesAnvil_51 : decode cX5_takesAnvil 51 = .ok (.getfield 83, 3) := by decide +kernel
theorem dX5_takesAnvil_54 : decode cX5_takesAnvil 54 = .ok (.iaload, 1) := by decide +kernel
theorem dX5_takesAnvil_55 : decode cX5_takesAnvil 55 = .ok (.iastore, 1) := by decide +kernel
theorem dX5_takesAnvil_56 : decode cX5_takesAnvil 56 = .ok (.iinc 2 1, 3) := by decide +kernel
theorem dX5_takesAnvil_59 : decode cX5_takesAnvil 59 = .ok (.goto (-47), 3) := by decide +kernel
theorem dX5_takesAnvil_62 : decode cX5_takesAnvil 62 = .ok (.aload_n 1, 1) := by decide +kernel
theorem dX5_takesAnvil_63 : decode cX5_takesAnvil 63 = .ok (.aload_n 0, 1) := by decide +kernel
theorem dX5_takesAnvil_64 : decode cX5_takesAnvil 64 = .ok (.getfield 25, 3) := by decide +kernel
theorem dX5_takesAnvil_67 : decode cX5_takesAnvil 67 = .ok (.iconst 0, 1) := by decide +kernel
theorem dX5_takesAnvil_68 : decode cX5_takesAnvil 68 = .ok (.iaload, 1) := by decide +kernel
theorem dX5_takesAnvil_69 : decode cX5_takesAnvil 69 = .ok (.aload_n 0, 1) := by decide +kernel
theorem dX5_takesAnvil_70 : decode cX5_takesAnvil 70 = .ok (.getfield 25, 3) := by decide +kernel
theorem dX5_takesAnvil_73 : decode cX5_takesAnvil 73 = .ok (.iconst 1, 1) := by decide +kernel
theorem dX5_takesAnvil_74 : decode cX5_takesAnvil 74 = .ok (.iaload, 1) := by decide +kernel
theorem dX5_takesAnvil_75 : decode cX5_takesAnvil 75 = .ok (.aload_n 0, 1) := by decide +kernel
theorem dX5_takesAnvil_76 : decode cX5_takesAnvil 76 = .ok (.getfield 25, 3) := by decide +kernel
theorem dX5_takesAnvil_79 : decode cX5_takesAnvil 79 = .ok (.iconst 2, 1) := by decide +kernel
theorem dX5_takesAnvil_80 : decode cX5_takesAnvil 80 = .ok (.iaload, 1) := by decide +kernel
theorem dX5_takesAnvil_81 : decode cX5_takesAnvil 81 = .ok (.aload_n 0, 1) := by decide +kernel
theorem dX5_takesAnvil_82 : decode cX5_takesAnvil 82 = .ok (.getfield 25, 3) := by decide +kernel
theorem dX5_takesAnvil_85 : decode cX5_takesAnvil 85 = .ok (.iconst 3, 1) := by decide +kernel
theorem dX5_takesAnvil_86 : decode cX5_takesAnvil 86 = .ok (.iaload, 1) := by decide +kernel
theorem dX5_takesAnvil_87 : decode cX5_takesAnvil 87 = .ok (.aload_n 0, 1) := by decide +kernel
theorem dX5_takesAnvil_88 : decode cX5_takesAnvil 88 = .ok (.getfield 25, 3) := by decide +kernel
theorem dX5_takesAnvil_91 : decode cX5_takesAnvil 91 = .ok (.iconst 4, 1) := by decide +kernel
theorem dX5_takesAnvil_92 : decode cX5_takesAnvil 92 = .ok (.iaload, 1) := by decide +kernel
theorem dX5_takesAnvil_93 : decode cX5_takesAnvil 93 = .ok (.invokevirtual 130, 3) := by decide +kernel
theorem dX5_takesAnvil_96 : decode cX5_takesAnvil 96 = .ok (.pop, 1) := by decide +kernel
theorem dX5_takesAnvil_97 : decode cX5_takesAnvil 97 = .ok (.iconst 1, 1) := by decide +kernel
theorem dX5_takesAnvil_98 : decode cX5_takesAnvil 98 = .ok (.ireturn, 1) := by decide +kernel
theorem dX5_takesWork_0 : decode cX5_takesWork 0 = .ok (.aload_n 0, 1) := by decide +kernel
theorem dX5_takesWork_1 : decode cX5_takesWork 1 = .ok (.iconst 0, 1) := by decide +kernel
theorem dX5_takesWork_2 : decode cX5_takesWork 2 = .ok (.aload_n 1, 1) := by decide +kernel
theorem dX5_takesWork_3 : decode cX5_takesWork 3 = .ok (.getfield 127, 3) := by decide +kernel
theorem dX5_takesWork_6 : decode cX5_takesWork 6 = .ok (.iconst 1, 1) := by decide +kernel
theorem dX5_takesWork_7 : decode cX5_takesWork 7 = .ok (.isub, 1) := by decide +kernel
theorem dX5_takesWork_8 : decode cX5_takesWork 8 = .ok (.invokevirtual 90, 3) := by decide +kernel
theorem dX5_takesWork_11 : decode cX5_takesWork 11 = .ok (.ifCond .ne 5, 3) := by decide +kernel
theorem dX5_takesWork_14 : decode cX5_takesWork 14 = .ok (.iconst 0, 1) := by decide +kernel
theorem dX5_takesWork_15 : decode cX5_takesWork 15 = .ok (.ireturn, 1) := by decide +kernel
theorem dX5_takesWork_16 : decode cX5_takesWork 16 = .ok (.aload_n 0, 1) := by decide +kernel
theorem dX5_takesWork_17 : decode cX5_takesWork 17 = .ok (.getfield 22, 3) := by decide +kernel
theorem dX5_takesWork_20 : decode cX5_takesWork 20 = .ok (.aload_n 0, 1) := by decide +kernel
theorem dX5_takesWork_21 : decode cX5_takesWork 21 = .ok (.getfield 83, 3) := by decide +kernel
theorem dX5_takesWork_24 : decode cX5_takesWork 24 = .ok (.iaload, 1) := by decide +kernel
theorem dX5_takesWork_25 : decode cX5_takesWork 25 = .ok (.istore_n 2, 1) := by decide +kernel
theorem dX5_takesWork_26 : decode cX5_takesWork 26 = .ok (.aload_n 0, 1) := by decide +kernel
theorem dX5_takesWork_27 : decode cX5_takesWork 27 = .ok (.iconst 0, 1) := by decide +kernel
theorem dX5_takesWork_28 : decode cX5_takesWork 28 = .ok (.iconst 3, 1) := by decide +kernel
theorem dX5_takesWork_29 : decode cX5_takesWork 29 = .ok (.invokevirtual 90, 3) := by decide +kernel
theorem dX5_takesWork_32 : decode cX5_takesWork 32 = .ok (.ifCond .ne 5, 3) := by decide +kernel
theorem dX5_takesWork_35 : decode cX5_takesWork 35 = .ok (.iconst 0, 1) := by decide +kernel
theorem dX5_takesWork_36 : decode cX5_takesWork 36 = .ok (.ireturn, 1) := by decide +kernel
theorem dX5_takesWork_37 : decode cX5_takesWork 37 = .ok (.aload_n 0, 1) := by decide +kernel
theorem dX5_takesWork_38 : decode cX5_takesWork 38 = .ok (.getfield 22, 3) := by decide +kernel
theorem dX5_takesWork_41 : decode cX5_takesWork 41 = .ok (.aload_n 0, 1) := by decide +kernel
theorem dX5_takesWork_42 : decode cX5_takesWork 42 = .ok (.getfield 83, 3) := by decide +kernel
theorem dX5_takesWork_45 : decode cX5_takesWork 45 = .ok (.iaload, 1) := by decide +kernel
theorem dX5_takesWork_46 : decode cX5_takesWork 46 = .ok (.istore_n 3, 1) := by decide +kernel
theorem dX5_takesWork_47 : decode cX5_takesWork 47 = .ok (.aload_n 0, 1) := by decide +kernel
theorem dX5_takesWork_48 : decode cX5_takesWork 48 = .ok (.iconst 1, 1) := by decide +kernel
theorem dX5_takesWork_49 : decode cX5_takesWork 49 = .ok (.iconst 5, 1) := by decide +kernel
theorem dX5_takesWork_50 : decode cX5_takesWork 50 = .ok (.invokevirtual 90, 3) := by decide +kernel
theorem dX5_takesWork_53 : decode cX5_takesWork 53 = .ok (.ifCond .ne 5, 3) := by decide +kernel
theorem dX5_takesWork_56 : decode cX5_takesWork 56 = .ok (.iconst 0, 1) := by decide +kernel
theorem dX5_takesWork_57 : decode cX5_takesWork 57 = .ok (.ireturn, 1) := by decide +kernel
theorem dX5_takesWork_58 : decode cX5_takesWork 58 = .ok (.aload_n 1, 1) := by decide +kernel
theorem dX5_takesWork_59 : decode cX5_takesWork 59 = .ok (.iload_n 2, 1) := by decide +kernel
theorem dX5_takesWork_60 : decode cX5_takesWork 60 = .ok (.iload_n 3, 1) := by decide +kernel
theorem dX5_takesWork_61 : decode cX5_takesWork 61 = .ok (.aload_n 0, 1) := by decide +kernel
theorem dX5_takesWork_62 : decode cX5_takesWork 62 = .ok (.getfield 22, 3) := by decide +kernel
theorem dX5_takesWork_65 : decode cX5_takesWork 65 = .ok (.aload_n 0, 1) := by decide +kernel
theorem dX5_takesWork_66 : decode cX5_takesWork 66 = .ok (.getfield 83, 3) := by decide +kernel
theorem dX5_takesWork_69 : decode cX5_takesWork 69 = .ok (.iaload, 1) := by decide +kernel
theorem dX5_takesWork_70 : decode cX5_takesWork 70 = .ok (.invokevirtual 134, 3) := by decide +kernel
theorem dX5_takesWork_73 : decode cX5_takesWork 73 = .ok (.iconst 1, 1) := by decide +kernel
theorem dX5_takesWork_74 : decode cX5_takesWork 74 = .ok (.ireturn, 1) := by decide +kernel
theorem dX6_init_0 : decode cX6_init 0 = .ok (.aload_n 0, 1) := by decide +kernel
theorem dX6_init_1 : decode cX6_init 1 = .ok (.invokespecial 3, 3) := by decide +kernel
theorem dX6_init_4 : decode cX6_init 4 = .ok (.aload_n 0, 1) := by decide +kernel
theorem dX6_init_5 : decode cX6_init 5 = .ok (.iconst 4, 1) := by decide +kernel
theorem dX6_init_6 : decode cX6_init 6 = .ok (.newarray .int, 2) := by decide +kernel
theorem dX6_init_8 : decode cX6_init 8 = .ok (.putfield 9, 3) := by decide +kernel
theorem dX6_init_11 : decode cX6_init 11 = .ok (.aload_n 0, 1) := by decide +kernel
theorem dX6_init_12 : decode cX6_init 12 = .ok (.bipush 16, 2) := by decide +kernel
theorem dX6_init_14 : decode cX6_init 14 = .ok (.newarray .int, 2) := by decide +kernel
theorem dX6_init_16 : decode cX6_init 16 = .ok (.putfield 15, 3) := by decide +kernel
theorem dX6_init_19 : decode cX6_init 19 = .ok (.aload_n 0, 1) := by decide +kernel
theorem dX6_init_20 : decode cX6_init 20 = .ok (.new 18, 3) := by decide +kernel
theorem dX6_init_23 : decode cX6_init 23 = .ok (.dup, 1) := by decide +kernel
theorem dX6_init_24 : decode cX6_init 24 = .ok (.invokespecial 20, 3) := by decide +kernel
theorem dX6_init_27 : decode cX6_init 27 = .ok (.putfield 21, 3) := by decide +kernel
theorem dX6_init_30 : decode cX6_init 30 = .ok (.aload_n 0, 1) := by decide +kernel
theorem dX6_init_31 : decode cX6_init 31 = .ok (.new 18, 3) := by decide +kernel
theorem dX6_init_34 : decode cX6_init 34 = .ok (.dup, 1) := by decide +kernel
theorem dX6_init_35 : decode cX6_init 35 = .ok (.invokespecial 20, 3) := by decide +kernel
theorem dX6_init_38 : decode cX6_init 38 = .ok (.putfield 25, 3) := by decide +kernel
theorem dX6_init_41 : decode cX6_init 41 = .ok (.aload_n 0, 1) := by decide +kernel
theorem dX6_init_42 : decode cX6_init 42 = .ok (.new 28, 3) := by decide +kernel
theorem dX6_init_45 : decode cX6_init 45 = .ok (.dup, 1) := by decide +kernel
theorem dX6_init_46 : decode cX6_init 46 = .ok (.invokespecial 30, 3) := by decide +kernel
theorem dX6_init_49 : decode cX6_init 49 = .ok (.putfield 31, 3) := by decide +kernel
theorem dX6_init_52 : decode cX6_init 52 = .ok (.return_, 1) := by decide +kernel
theorem dX6_begin_0 : decode cX6_begin 0 = .ok (.aload_n 0, 1) := by decide +kernel
theorem dX6_begin_1 : decode cX6_begin 1 = .ok (.iconst 0, 1) := by decide +kernel
theorem dX6_begin_2 : decode cX6_begin 2 = .ok (.putfield 35, 3) := by decide +kernel
theorem dX6_begin_5 : decode cX6_begin 5 = .ok (.aload_n 0, 1) := by decide +kernel
theorem dX6_begin_6 : decode cX6_begin 6 = .ok (.iconst 0, 1) := by decide +kernel
theorem dX6_begin_7 : decode cX6_begin 7 = .ok (.putfield 39, 3) := by decide +kernel
theorem dX6_begin_10 : decode cX6_begin 10 = .ok (.aload_n 0, 1) := by decide +kernel
theorem dX6_begin_11 : decode cX6_begin 11 = .ok (.iload_n 1, 1) := by decide +kernel
theorem dX6_begin_12 : decode cX6_begin 12 = .ok (.putfield 42, 3) := by decide +kernel
theorem dX6_begin_15 : decode cX6_begin 15 = .ok (.aload_n 0, 1) := by decide +kernel
theorem dX6_begin_16 : decode cX6_begin 16 = .ok (.getfield 21, 3) := by decide +kernel
theorem dX6_begin_19 : decode cX6_begin 19 = .ok (.iconst 0, 1) := by decide +kernel
theorem dX6_begin_20 : decode cX6_begin 20 = .ok (.putfield 45, 3) := by decide +kernel
theorem dX6_begin_23 : decode cX6_begin 23 = .ok (.aload_n 0, 1) := by decide +kernel
theorem dX6_begin_24 : decode cX6_begin 24 = .ok (.getfield 25, 3) := by decide +kernel
theorem dX6_begin_27 : decode cX6_begin 27 = .ok (.iconst 0, 1) := by decide +kernel
theorem dX6_begin_28 : decode cX6_begin 28 = .ok (.putfield 45, 3) := by decide +kernel
theorem dX6_begin_31 : decode cX6_begin 31 = .ok (.aload_n 0, 1) := by decide +kernel
theorem dX6_begin_32 : decode cX6_begin 32 = .ok (.getfield 31, 3) := by decide +kernel
theorem dX6_begin_35 : decode cX6_begin 35 = .ok (.iconst 0, 1) := by decide +kernel
theorem dX6_begin_36 : decode cX6_begin 36 = .ok (.putfield 48, 3) := by decide +kernel
theorem dX6_begin_39 : decode cX6_begin 39 = .ok (.return_, 1) := by decide +kernel
theorem dX6_takeAnvils_0 : decode cX6_takeAnvils 0 = .ok (.aload_n 1, 1) := by decide +kernel
theorem dX6_takeAnvils_1 : decode cX6_takeAnvils 1 = .ok (.getfield 9, 3) := by decide +kernel
theorem dX6_takeAnvils_4 : decode cX6_takeAnvils 4 = .ok (.iconst 0, 1) := by decide +kernel
theorem dX6_takeAnvils_5 : decode cX6_takeAnvils 5 = .ok (.aload_n 0, 1) := by decide +kernel
theorem dX6_takeAnvils_6 : decode cX6_takeAnvils 6 = .ok (.getfield 9, 3) := by decide +kernel
theorem dX6_takeAnvils_9 : decode cX6_takeAnvils 9 = .ok (.iconst 0, 1) := by decide +kernel
theorem dX6_takeAnvils_10 : decode cX6_takeAnvils 10 = .ok (.aload_n 0, 1) := by decide +kernel
theorem dX6_takeAnvils_11 : decode cX6_takeAnvils 11 = .ok (.getfield 9, 3) := by decide +kernel
theorem dX6_takeAnvils_14 : decode cX6_takeAnvils 14 = .ok (.arraylength, 1) := by decide +kernel
theorem dX6_takeAnvils_15 : decode cX6_takeAnvils 15 = .ok (.invokestatic 49, 3) := by decide +kernel
theorem dX6_takeAnvils_18 : decode cX6_takeAnvils 18 = .ok (.aload_n 1, 1) := by decide +kernel
theorem dX6_takeAnvils_19 : decode cX6_takeAnvils 19 = .ok (.getfield 15, 3) := by decide +kernel
theorem dX6_takeAnvils_22 : decode cX6_takeAnvils 22 = .ok (.iconst 0, 1) := by decide +kernel
theorem dX6_takeAnvils_23 : decode cX6_takeAnvils 23 = .ok (.aload_n 0, 1) := by decide +kernel
theorem dX6_takeAnvils_24 : decode cX6_takeAnvils 24 = .ok (.getfield 15, 3) := by decide +kernel
theorem dX6_takeAnvils_27 : decode cX6_takeAnvils 27 = .ok (.iconst 0, 1) := by decide +kernel
theorem dX6_takeAnvils_28 : decode cX6_takeAnvils 28 = .ok (.aload_n 0, 1) := by decide +kernel
theorem dX6_takeAnvils_29 : decode cX6_takeAnvils 29 = .ok (.getfield 15, 3) := by decide +kernel
theorem dX6_takeAnvils_32 : decode cX6_takeAnvils 32 = .ok (.arraylength, 1) := by decide +kernel
theorem dX6_takeAnvils_33 : decode cX6_takeAnvils 33 = .ok (.invokestatic 49, 3) := by decide +kernel
theorem dX6_takeAnvils_36 : decode cX6_takeAnvils 36 = .ok (.aload_n 0, 1) := by decide +kernel
theorem dX6_takeAnvils_37 : decode cX6_takeAnvils 37 = .ok (.aload_n 1, 1) := by decide +kernel
theorem dX6_takeAnvils_38 : decode cX6_takeAnvils 38 = .ok (.getfield 35, 3) := by decide +kernel
theorem dX6_takeAnvils_41 : decode cX6_takeAnvils 41 = .ok (.putfield 35, 3) := by decide +kernel
theorem dX6_takeAnvils_44 : decode cX6_takeAnvils 44 = .ok (.aload_n 0, 1) := by decide +kernel
theorem dX6_takeAnvils_45 : decode cX6_takeAnvils 45 = .ok (.aload_n 1, 1) := by decide +kernel
theorem dX6_takeAnvils_46 : decode cX6_takeAnvils 46 = .ok (.getfield 39, 3) := by decide +kernel
theorem dX6_takeAnvils_49 : decode cX6_takeAnvils 49 = .ok (.putfield 39, 3) := by decide +kernel
theorem dX6_takeAnvils_52 : decode cX6_takeAnvils 52 = .ok (.aload_n 0, 1) := by decide +kernel
theorem dX6_takeAnvils_53 : decode cX6_takeAnvils 53 = .ok (.aload_n 1, 1) := by decide +kernel
theorem dX6_takeAnvils_54 : decode cX6_takeAnvils 54 = .ok (.getfield 42, 3) := by decide +kernel
theorem dX6_takeAnvils_57 : decode cX6_takeAnvils 57 = .ok (.putfield 42, 3) := by decide +kernel
theorem dX6_takeAnvils_60 : decode cX6_takeAnvils 60 = .ok (.return_, 1) := by decide +kernel
theorem dX6_takeAll_0 : decode cX6_takeAll 0 = .ok (.aload_n 0, 1) := by decide +kernel
theorem dX6_takeAll_1 : decode cX6_takeAll 1 = .ok (.aload_n 1, 1) := by decide +kernel
theorem dX6_takeAll_2 : decode cX6_takeAll 2 = .ok (.invokevirtual 55, 3) := by decide +kernel
theorem dX6_takeAll_5 : decode cX6_takeAll 5 = .ok (.aload_n 0, 1) := by decide +kernel
theorem dX6_takeAll_6 : decode cX6_takeAll 6 = .ok (.getfield 21, 3) := by decide +kernel
theorem dX6_takeAll_9 : decode cX6_takeAll 9 = .ok (.aload_n 1, 1) := by decide +kernel
theorem dX6_takeAll_10 : decode cX6_takeAll 10 = .ok (.getfield 21, 3) := by decide +kernel
theorem dX6_takeAll_13 : decode cX6_takeAll 13 = .ok (.invokevirtual 59, 3) := by decide +kernel
theorem dX6_takeAll_16 : decode cX6_takeAll 16 = .ok (.aload_n 0, 1) := by decide +kernel
theorem dX6_takeAll_17 : decode cX6_takeAll 17 = .ok (.getfield 25, 3) := by decide +kernel
theorem dX6_takeAll_20 : decode cX6_takeAll 20 = .ok (.aload_n 1, 1) := by decide +kernel
theorem dX6_takeAll_21 : decode cX6_takeAll 21 = .ok (.getfield 25, 3) := by decide +kernel
theorem dX6_takeAll_24 : decode cX6_takeAll 24 = .ok (.invokevirtual 59, 3) := by decide +kernel
theorem dX6_takeAll_27 : decode cX6_takeAll 27 = .ok (.aload_n 0, 1) := by decide +kernel
theorem dX6_takeAll_28 : decode cX6_takeAll 28 = .ok (.getfield 31, 3) := by decide +kernel
theorem dX6_takeAll_31 : decode cX6_takeAll 31 = .ok (.aload_n 1, 1) := by decide +kernel
theorem dX6_takeAll_32 : decode cX6_takeAll 32 = .ok (.getfield 31, 3) := by decide +kernel
theorem dX6_takeAll_35 : decode cX6_takeAll 35 = .ok (.invokevirtual 63, 3) := by decide +kernel
theorem dX6_takeAll_38 : decode cX6_takeAll 38 = .ok (.return_, 1) := by decide +kernel
theorem dX6_has_0 : decode cX6_has 0 = .ok (.iload_n 1, 1) := by decide +kernel
theorem dX6_has_1 : decode cX6_has 1 = .ok (.ifCond .lt 15, 3) := by decide +kernel
theorem dX6_has_4 : decode cX6_has 4 = .ok (.iload_n 1, 1) := by decide +kernel
theorem dX6_has_5 : decode cX6_has 5 = .ok (.aload_n 0, 1) := by decide +kernel
theorem dX6_has_6 : decode cX6_has 6 = .ok (.getfield 35, 3) := by decide +kernel
theorem dX6_has_9 : decode cX6_has 9 = .ok (.if_icmp .ge 7, 3) := by decide +kernel
theorem dX6_has_12 : decode cX6_has 12 = .ok (.iconst 1, 1) := by decide +kernel
theorem dX6_has_13 : decode cX6_has 13 = .ok (.goto 4, 3) := by decide +kernel
theorem dX6_has_16 : decode cX6_has 16 = .ok (.iconst 0, 1) := by decide +kernel
theorem dX6_has_17 : decode cX6_has 17 = .ok (.ireturn, 1) := by decide +kernel
theorem dX6_join_0 : decode cX6_join 0 = .ok (.aload_n 0, 1) := by decide +kernel
theorem dX6_join_1 : decode cX6_join 1 = .ok (.getfield 35, 3) := by decide +kernel
theorem dX6_join_4 : decode cX6_join 4 = .ok (.iconst 4, 1) := by decide +kernel
theorem dX6_join_5 : decode cX6_join 5 = .ok (.if_icmp .lt 6, 3) := by decide +kernel
theorem dX6_join_8 : decode cX6_join 8 = .ok (.bipush (-4), 2) := by decide +kernel
theorem dX6_join_10 : decode cX6_join 10 = .ok (.ireturn, 1) := by decide +kernel
theorem dX6_join_11 : decode cX6_join 11 = .ok (.aload_n 0, 1) := by decide +kernel
theorem dX6_join_12 : decode cX6_join 12 = .ok (.getfield 35, 3) := by decide +kernel
theorem dX6_join_15 : decode cX6_join 15 = .ok (.istore 6, 2) := by decide +kernel
theorem dX6_join_17 : decode cX6_join 17 = .ok (.aload_n 0, 1) := by decide +kernel
theorem dX6_join_18 : decode cX6_join 18 = .ok (.dup, 1) := by decide +kernel
theorem dX6_join_19 : decode cX6_join 19 = .ok (.getfield 35, 3) := by decide +kernel
theorem dX6_join_22 : decode cX6_join 22 = .ok (.iconst 1, 1) := by decide +kernel
theorem dX6_join_23 : decode cX6_join 23 = .ok (.iadd, 1) := by decide +kernel
theorem dX6_join_24 : decode cX6_join 24 = .ok (.putfield 35, 3) := by decide +kernel
theorem dX6_join_27 : decode cX6_join 27 = .ok (.aload_n 0, 1) := by decide +kernel
theorem dX6_join_28 : decode cX6_join 28 = .ok (.getfield 9, 3) := by decide +kernel
theorem dX6_join_31 : decode cX6_join 31 = .ok (.iload 6, 2) := by decide +kernel
theorem dX6_join_33 : decode cX6_join 33 = .ok (.iload_n 1, 1) := by decide +kernel
theorem dX6_join_34 : decode cX6_join 34 = .ok (.iastore, 1) := by decide +kernel
theorem dX6_join_35 : decode cX6_join 35 = .ok (.aload_n 0, 1) := by decide +kernel
theorem dX6_join_36 : decode cX6_join 36 = .ok (.iload 6, 2) := by decide +kernel
theorem dX6_join_38 : decode cX6_join 38 = .ok (.iconst 0, 1) := by decide +kernel
theorem dX6_join_39 : decode cX6_join 39 = .ok (.iload_n 2, 1) := by decide +kernel
theorem dX6_join_40 : decode cX6_join 40 = .ok (.invokevirtual 67, 3) := by decide +kernel
theorem dX6_join_43 : decode cX6_join 43 = .ok (.aload_n 0, 1) := by decide +kernel
theorem dX6_join_44 : decode cX6_join 44 = .ok (.iload 6, 2) := by decide +kernel
theorem dX6_join_46 : decode cX6_join 46 = .ok (.iconst 1, 1) := by decide +kernel
theorem dX6_join_47 : decode cX6_join 47 = .ok (.iload_n 3, 1) := by decide +kernel
theorem dX6_join_48 : decode cX6_join 48 = .ok (.invokevirtual 67, 3) := by decide +kernel
theorem dX6_join_51 : decode cX6_join 51 = .ok (.aload_n 0, 1) := by decide +kernel
theorem dX6_join_52 : decode cX6_join 52 = .ok (.iload 6, 2) := by decide +kernel
theorem dX6_join_54 : decode cX6_join 54 = .ok (.iconst 2, 1) := by decide +kernel
theorem dX6_join_55 : decode cX6_join 55 = .ok (.iload 4, 2) := by decide +kernel
theorem dX6_join_57 : decode cX6_join 57 = .ok (.invokevirtual 67, 3) := by decide +kernel
theorem dX6_join_60 : decode cX6_join 60 = .ok (.aload_n 0, 1) := by decide +kernel
theorem dX6_join_61 : decode cX6_join 61 = .ok (.iload 6, 2) := by decide +kernel
theorem dX6_join_63 : decode cX6_join 63 = .ok (.iconst 3, 1) := by decide +kernel
theorem dX6_join_64 : decode cX6_join 64 = .ok (.iload 5, 2) := by decide +kernel
theorem dX6_join_66 : decode cX6_join 66 = .ok (.invokevirtual 67, 3) := by decide +kernel
theorem dX6_join_69 : decode cX6_join 69 = .ok (.aload_n 0, 1) := by decide +kernel
theorem dX6_join_70 : decode cX6_join 70 = .ok (.getfield 31, 3) := by decide +kernel
theorem dX6_join_73 : decode cX6_join 73 = .ok (.iconst 0, 1) := by decide +kernel
theorem dX6_join_74 : decode cX6_join 74 = .ok (.putfield 48, 3) := by decide +kernel
theorem dX6_join_77 : decode cX6_join 77 = .ok (.iload 6, 2) := by decide +kernel
theorem dX6_join_79 : decode cX6_join 79 = .ok (.ireturn, 1) := by decide +kernel
theorem dX6_remembered_0 : decode cX6_remembered 0 = .ok (.aload_n 0, 1) := by decide +kernel
theorem dX6_remembered_1 : decode cX6_remembered 1 = .ok (.getfield 15, 3) := by decide +kernel
theorem dX6_remembered_4 : decode cX6_remembered 4 = .ok (.iconst 4, 1) := by decide +kernel
theorem dX6_remembered_5 : decode cX6_remembered 5 = .ok (.iload_n 1, 1) := by decide +kernel
theorem dX6_remembered_6 : decode cX6_remembered 6 = .ok (.imul, 1) := by decide +kernel
theorem dX6_remembered_7 : decode cX6_remembered 7 = .ok (.iload_n 2, 1) := by decide +kernel
theorem dX6_remembered_8 : decode cX6_remembered 8 = .ok (.iadd, 1) := by decide +kernel
theorem dX6_remembered_9 : decode cX6_remembered 9 = .ok (.iaload, 1) := by decide +kernel
theorem dX6_remembered_10 : decode cX6_remembered 10 = .ok (.ireturn, 1) := by decide +kernel
theorem dX6_setMemory_0 : decode cX6_setMemory 0 = .ok (.aload_n 0, 1) := by decide +kernel
theorem dX6_setMemory_1 : decode cX6_setMemory 1 = .ok (.getfield 15, 3) := by decide +kernel
theorem dX6_setMemory_4 : decode cX6_setMemory 4 = .ok (.iconst 4, 1) := by decide +kernel
theorem dX6_setMemory_5 : decode cX6_setMemory 5 = .ok (.iload_n 1, 1) := by decide +kernel
theorem dX6_setMemory_6 : decode cX6_setMemory 6 = .ok (.imul, 1) := by decide +kernel
theorem dX6_setMemory_7 : decode cX6_setMemory 7 = .ok (.iload_n 2, 1) := by decide +kernel
theorem dX6_setMemory_8 : decode cX6_setMemory 8 = .ok (.iadd, 1) := by decide +kernel
theorem dX6_setMemory_9 : decode cX6_setMemory 9 = .ok (.iload_n 3, 1) := by decide +kernel
theorem dX6_setMemory_10 : decode cX6_setMemory 10 = .ok (.iastore, 1) := by decide +kernel
theorem dX6_setMemory_11 : decode cX6_setMemory 11 = .ok (.return_, 1) := by decide +kernel
theorem dX6_remembersNothing_0 : decode cX6_remembersNothing 0 = .ok (.iconst 0, 1) := by decide +kernel
theorem dX6_remembersNothing_1 : decode cX6_remembersNothing 1 = .ok (.istore_n 2, 1) := by decide +kernel
theorem dX6_remembersNothing_2 : decode cX6_remembersNothing 2 = .ok (.iload_n 2, 1) := by decide +kernel
theorem dX6_remembersNothing_3 : decode cX6_remembersNothing 3 = .ok (.iconst 4, 1) := by decide +kernel
theorem dX6_remembersNothing_4 : decode cX6_remembersNothing 4 = .ok (.if_icmp .ge 20, 3) := by decide +kernel
theorem dX6_remembersNothing_7 : decode cX6_remembersNothing 7 = .ok (.aload_n 0, 1) := by decide +kernel
theorem dX6_remembersNothing_8 : decode cX6_remembersNothing 8 = .ok (.iload_n 1, 1) := by decide +kernel
theorem dX6_remembersNothing_9 : decode cX6_remembersNothing 9 = .ok (.iload_n 2, 1) := by decide +kernel
theorem dX6_remembersNothing_10 : decode cX6_remembersNothing 10 = .ok (.invokevirtual 71, 3) := by decide +kernel
theorem dX6_remembersNothing_13 : decode cX6_remembersNothing 13 = .ok (.ifCond .eq 5, 3) := by decide +kernel
theorem dX6_remembersNothing_16 : decode cX6_remembersNothing 16 = .ok (.iconst 0, 1) := by decide +kernel
theorem dX6_remembersNothing_17 : decode cX6_remembersNothing 17 = .ok (.ireturn, 1) := by decide +kernel
theorem dX6_remembersNothing_18 : decode cX6_remembersNothing 18 = .ok (.iinc 2 1, 3) := by decide +kernel
theorem dX6_remembersNothing_21 : decode cX6_remembersNothing 21 = .ok (.goto (-19), 3) := by decide +kernel
theorem dX6_remembersNothing_24 : decode cX6_remembersNothing 24 = .ok (.iconst 1, 1) := by decide +kernel
theorem dX6_remembersNothing_25 : decode cX6_remembersNothing 25 = .ok (.ireturn, 1) := by decide +kernel
theorem dX6_risen_0 : decode cX6_risen 0 = .ok (.aload_n 0, 1) := by decide +kernel
theorem dX6_risen_1 : decode cX6_risen 1 = .ok (.getfield 9, 3) := by decide +kernel
theorem dX6_risen_4 : decode cX6_risen 4 = .ok (.iload_n 1, 1) := by decide +kernel
theorem dX6_risen_5 : decode cX6_risen 5 = .ok (.iaload, 1) := by decide +kernel
theorem dX6_risen_6 : decode cX6_risen 6 = .ok (.aload_n 0, 1) := by decide +kernel
theorem dX6_risen_7 : decode cX6_risen 7 = .ok (.iload_n 1, 1) := by decide +kernel
theorem dX6_risen_8 : decode cX6_risen 8 = .ok (.iload_n 2, 1) := by decide +kernel
theorem dX6_risen_9 : decode cX6_risen 9 = .ok (.invokevirtual 71, 3) := by decide +kernel
theorem dX6_risen_12 : decode cX6_risen 12 = .ok (.aload_n 0, 1) := by decide +kernel
theorem dX6_risen_13 : decode cX6_risen 13 = .ok (.getfield 42, 3) := by decide +kernel
theorem dX6_risen_16 : decode cX6_risen 16 = .ok (.invokestatic 75, 3) := by decide +kernel
theorem dX6_risen_19 : decode cX6_risen 19 = .ok (.ireturn, 1) := by decide +kernel
theorem dX6_holdsDown_0 : decode cX6_holdsDown 0 = .ok (.iconst 0, 1) := by decide +kernel
theorem dX6_holdsDown_1 : decode cX6_holdsDown 1 = .ok (.istore_n 3, 1) := by decide +kernel
theorem dX6_holdsDown_2 : decode cX6_holdsDown 2 = .ok (.iload_n 3, 1) := by decide +kernel
theorem dX6_holdsDown_3 : decode cX6_holdsDown 3 = .ok (.iconst 4, 1) := by decide +kernel
theorem dX6_holdsDown_4 : decode cX6_holdsDown 4 = .ok (.if_icmp .ge 30, 3) := by decide +kernel
theorem dX6_holdsDown_7 : decode cX6_holdsDown 7 = .ok (.aload_n 0, 1) := by decide +kernel
theorem dX6_holdsDown_8 : decode cX6_holdsDown 8 = .ok (.getfield 9, 3) := by decide +kernel
theorem dX6_holdsDown_11 : decode cX6_holdsDown 11 = .ok (.iload_n 1, 1) := by decide +kernel
theorem dX6_holdsDown_12 : decode cX6_holdsDown 12 = .ok (.iaload, 1) := by decide +kernel
theorem dX6_holdsDown_13 : decode cX6_holdsDown 13 = .ok (.aload_n 0, 1) := by decide +kernel
theorem dX6_holdsDown_14 : decode cX6_holdsDown 14 = .ok (.iload_n 1, 1) := by decide +kernel
theorem dX6_holdsDown_15 : decode cX6_holdsDown 15 = .ok (.iload_n 3, 1) := by decide +kernel
theorem dX6_holdsDown_16 : decode cX6_holdsDown 16 = .ok (.invokevirtual 71, 3) := by decide +kernel
theorem dX6_holdsDown_19 : decode cX6_holdsDown 19 = .ok (.iload_n 2, 1) := by decide +kernel
theorem dX6_holdsDown_20 : decode cX6_holdsDown 20 = .ok (.invokestatic 75, 3) := by decide +kernel
theorem dX6_holdsDown_23 : decode cX6_holdsDown 23 = .ok (.ifCond .eq 5, 3) := by decide +kernel
theorem dX6_holdsDown_26 : decode cX6_holdsDown 26 = .ok (.iconst 0, 1) := by decide +kernel
theorem dX6_holdsDown_27 : decode cX6_holdsDown 27 = .ok (.ireturn, 1) := by decide +kernel
theorem dX6_holdsDown_28 : decode cX6_holdsDown 28 = .ok (.iinc 3 1, 3) := by decide +kernel
theorem dX6_holdsDown_31 : decode cX6_holdsDown 31 = .ok (.goto (-29), 3) := by decide +kernel
theorem dX6_holdsDown_34 : decode cX6_holdsDown 34 = .ok (.iconst 1, 1) := by decide +kernel
theorem dX6_holdsDown_35 : decode cX6_holdsDown 35 = .ok (.ireturn, 1) := by decide +kernel
theorem dX6_unwanted_0 : decode cX6_unwanted 0 = .ok (.iconst 0, 1) := by decide +kernel
theorem dX6_unwanted_1 : decode cX6_unwanted 1 = .ok (.istore_n 3, 1) := by decide +kernel
theorem dX6_unwanted_2 : decode cX6_unwanted 2 = .ok (.iconst 0, 1) := by decide +kernel
theorem dX6_unwanted_3 : decode cX6_unwanted 3 = .ok (.istore 4, 2) := by decide +kernel
theorem dX6_unwanted_5 : decode cX6_unwanted 5 = .ok (.iload 4, 2) := by decide +kernel
theorem dX6_unwanted_7 : decode cX6_unwanted 7 = .ok (.iconst 4, 1) := by decide +kernel
theorem dX6_unwanted_8 : decode cX6_unwanted 8 = .ok (.if_icmp .ge 25, 3) := by decide +kernel
theorem dX6_unwanted_11 : decode cX6_unwanted 11 = .ok (.iload 4, 2) := by decide +kernel
theorem dX6_unwanted_13 : decode cX6_unwanted 13 = .ok (.iload_n 2, 1) := by decide +kernel
theorem dX6_unwanted_14 : decode cX6_unwanted 14 = .ok (.if_icmp .eq 13, 3) := by decide +kernel
theorem dX6_unwanted_17 : decode cX6_unwanted 17 = .ok (.iload_n 3, 1) := by decide +kernel
theorem dX6_unwanted_18 : decode cX6_unwanted 18 = .ok (.aload_n 0, 1) := by decide +kernel
theorem dX6_unwanted_19 : decode cX6_unwanted 19 = .ok (.iload_n 1, 1) := by decide +kernel
theorem dX6_unwanted_20 : decode cX6_unwanted 20 = .ok (.iload 4, 2) := by decide +kernel
theorem dX6_unwanted_22 : decode cX6_unwanted 22 = .ok (.invokevirtual 81, 3) := by decide +kernel
theorem dX6_unwanted_25 : decode cX6_unwanted 25 = .ok (.iadd, 1) := by decide +kernel
theorem dX6_unwanted_26 : decode cX6_unwanted 26 = .ok (.istore_n 3, 1) := by decide +kernel
theorem dX6_unwanted_27 : decode cX6_unwanted 27 = .ok (.iinc 4 1, 3) := by decide +kernel
theorem dX6_unwanted_30 : decode cX6_unwanted 30 = .ok (.goto (-25), 3) := by decide +kernel
theorem dX6_unwanted_33 : decode cX6_unwanted 33 = .ok (.iload_n 3, 1) := by decide +kernel
theorem dX6_unwanted_34 : decode cX6_unwanted 34 = .ok (.ireturn, 1) := by decide +kernel
theorem dX6_beat_0 : decode cX6_beat 0 = .ok (.aload_n 0, 1) := by decide +kernel
theorem dX6_beat_1 : decode cX6_beat 1 = .ok (.iload_n 1, 1) := by decide +kernel
theorem dX6_beat_2 : decode cX6_beat 2 = .ok (.iload_n 2, 1) := by decide +kernel
theorem dX6_beat_3 : decode cX6_beat 3 = .ok (.invokevirtual 83, 3) := by decide +kernel
theorem dX6_beat_6 : decode cX6_beat 6 = .ok (.istore 4, 2) := by decide +kernel
theorem dX6_beat_8 : decode cX6_beat 8 = .ok (.aload_n 0, 1) := by decide +kernel
theorem dX6_beat_9 : decode cX6_beat 9 = .ok (.iload_n 1, 1) := by decide +kernel
theorem dX6_beat_10 : decode cX6_beat 10 = .ok (.iload_n 2, 1) := by decide +kernel
theorem dX6_beat_11 : decode cX6_beat 11 = .ok (.iload_n 3, 1) := by decide +kernel
theorem dX6_beat_12 : decode cX6_beat 12 = .ok (.invokevirtual 86, 3) := by decide +kernel
theorem dX6_beat_15 : decode cX6_beat 15 = .ok (.iload 4, 2) := by decide +kernel
theorem dX6_beat_17 : decode cX6_beat 17 = .ok (.ireturn, 1) := by decide +kernel
theorem dX6_addMemory_0 : decode cX6_addMemory 0 = .ok (.aload_n 0, 1) := by decide +kernel
theorem dX6_addMemory_1 : decode cX6_addMemory 1 = .ok (.iload_n 1, 1) := by decide +kernel
theorem dX6_addMemory_2 : decode cX6_addMemory 2 = .ok (.iload_n 2, 1) := by decide +kernel
theorem dX6_addMemory_3 : decode cX6_addMemory 3 = .ok (.invokevirtual 71, 3) := by decide +kernel
theorem dX6_addMemory_6 : decode cX6_addMemory 6 = .ok (.aload_n 0, 1) := by decide +kernel
theorem dX6_addMemory_7 : decode cX6_addMemory 7 = .ok (.getfield 9, 3) := by decide +kernel
theorem dX6_addMemory_10 : decode cX6_addMemory 10 = .ok (.iload_n 1, 1) := by decide +kernel
theorem dX6_addMemory_11 : decode cX6_addMemory 11 = .ok (.iaload, 1) := by decide +kernel
theorem dX6_addMemory_12 : decode cX6_addMemory 12 = .ok (.iload_n 3, 1) := by decide +kernel
theorem dX6_addMemory_13 : decode cX6_addMemory 13 = .ok (.invokestatic 89, 3) := by decide +kernel
theorem dX6_addMemory_16 : decode cX6_addMemory 16 = .ok (.iadd, 1) := by decide +kernel
theorem dX6_addMemory_17 : decode cX6_addMemory 17 = .ok (.istore 4, 2) := by decide +kernel
theorem dX6_addMemory_19 : decode cX6_addMemory 19 = .ok (.aload_n 0, 1) := by decide +kernel
theorem dX6_addMemory_20 : decode cX6_addMemory 20 = .ok (.iload_n 1, 1) := by decide +kernel
theorem dX6_addMemory_21 : decode cX6_addMemory 21 = .ok (.iload_n 2, 1) := by decide +kernel
theorem dX6_addMemory_22 : decode cX6_addMemory 22 = .ok (.iload 4, 2) := by decide +kernel
theorem dX6_addMemory_24 : decode cX6_addMemory 24 = .ok (.bipush 20, 2) := by decide +kernel
theorem dX6_addMemory_26 : decode cX6_addMemory 26 = .ok (.invokestatic 92, 3) := by decide +kernel
theorem dX6_addMemory_29 : decode cX6_addMemory 29 = .ok (.invokevirtual 67, 3) := by decide +kernel
theorem dX6_addMemory_32 : decode cX6_addMemory 32 = .ok (.return_, 1) := by decide +kernel
theorem dX6_fade_0 : decode cX6_fade 0 = .ok (.iconst 0, 1) := by decide +kernel
theorem dX6_fade_1 : decode cX6_fade 1 = .ok (.istore_n 3, 1) := by decide +kernel
theorem dX6_fade_2 : decode cX6_fade 2 = .ok (.iload_n 3, 1) := by decide +kernel
theorem dX6_fade_3 : decode cX6_fade 3 = .ok (.iconst 4, 1) := by decide +kernel
theorem dX6_fade_4 : decode cX6_fade 4 = .ok (.if_icmp .ge 31, 3) := by decide +kernel
theorem dX6_fade_7 : decode cX6_fade 7 = .ok (.aload_n 0, 1) := by decide +kernel
theorem dX6_fade_8 : decode cX6_fade 8 = .ok (.iload_n 1, 1) := by decide +kernel
theorem dX6_fade_9 : decode cX6_fade 9 = .ok (.iload_n 3, 1) := by decide +kernel
theorem dX6_fade_10 : decode cX6_fade 10 = .ok (.aload_n 0, 1) := by decide +kernel
theorem dX6_fade_11 : decode cX6_fade 11 = .ok (.getfield 9, 3) := by decide +kernel
theorem dX6_fade_14 : decode cX6_fade 14 = .ok (.iload_n 1, 1) := by decide +kernel
theorem dX6_fade_15 : decode cX6_fade 15 = .ok (.iaload, 1) := by decide +kernel
theorem dX6_fade_16 : decode cX6_fade 16 = .ok (.aload_n 0, 1) := by decide +kernel
theorem dX6_fade_17 : decode cX6_fade 17 = .ok (.iload_n 1, 1) := by decide +kernel
theorem dX6_fade_18 : decode cX6_fade 18 = .ok (.iload_n 3, 1) := by decide +kernel
theorem dX6_fade_19 : decode cX6_fade 19 = .ok (.invokevirtual 71, 3) := by decide +kernel
theorem dX6_fade_22 : decode cX6_fade 22 = .ok (.iload_n 2, 1) := by decide +kernel
theorem dX6_fade_23 : decode cX6_fade 23 = .ok (.invokestatic 97, 3) := by decide +kernel
theorem dX6_fade_26 : decode cX6_fade 26 = .ok (.invokevirtual 67, 3) := by decide +kernel
theorem dX6_fade_29 : decode cX6_fade 29 = .ok (.iinc 3 1, 3) := by decide +kernel
theorem dX6_fade_32 : decode cX6_fade 32 = .ok (.goto (-30), 3) := by decide +kernel
theorem dX6_fade_35 : decode cX6_fade 35 = .ok (.return_, 1) := by decide +kernel
theorem dX6_fadeAll_0 : decode cX6_fadeAll 0 = .ok (.iconst 0, 1) := by decide +kernel
theorem dX6_fadeAll_1 : decode cX6_fadeAll 1 = .ok (.istore_n 2, 1) := by decide +kernel
theorem dX6_fadeAll_2 : decode cX6_fadeAll 2 = .ok (.iload_n 2, 1) := by decide +kernel
theorem dX6_fadeAll_3 : decode cX6_fadeAll 3 = .ok (.aload_n 0, 1) := by decide +kernel
theorem dX6_fadeAll_4 : decode cX6_fadeAll 4 = .ok (.getfield 35, 3) := by decide +kernel
theorem dX6_fadeAll_7 : decode cX6_fadeAll 7 = .ok (.if_icmp .ge 15, 3) := by decide +kernel
theorem dX6_fadeAll_10 : decode cX6_fadeAll 10 = .ok (.aload_n 0, 1) := by decide +kernel
theorem dX6_fadeAll_11 : decode cX6_fadeAll 11 = .ok (.iload_n 2, 1) := by decide +kernel
theorem dX6_fadeAll_12 : decode cX6_fadeAll 12 = .ok (.iload_n 1, 1) := by decide +kernel
theorem dX6_fadeAll_13 : decode cX6_fadeAll 13 = .ok (.invokevirtual 100, 3) := by decide +kernel
theorem dX6_fadeAll_16 : decode cX6_fadeAll 16 = .ok (.iinc 2 1, 3) := by decide +kernel
theorem dX6_fadeAll_19 : decode cX6_fadeAll 19 = .ok (.goto (-17), 3) := by decide +kernel
theorem dX6_fadeAll_22 : decode cX6_fadeAll 22 = .ok (.return_, 1) := by decide +kernel
theorem dX6_passDay_0 : decode cX6_passDay 0 = .ok (.aload_n 0, 1) := by decide +kernel
theorem dX6_passDay_1 : decode cX6_passDay 1 = .ok (.aload_n 0, 1) := by decide +kernel
theorem dX6_passDay_2 : decode cX6_passDay 2 = .ok (.getfield 39, 3) := by decide +kernel
theorem dX6_passDay_5 : decode cX6_passDay 5 = .ok (.invokevirtual 104, 3) := by decide +kernel
theorem dX6_passDay_8 : decode cX6_passDay 8 = .ok (.aload_n 0, 1) := by decide +kernel
theorem dX6_passDay_9 : decode cX6_passDay 9 = .ok (.aload_n 0, 1) := by decide +kernel
theorem dX6_passDay_10 : decode cX6_passDay 10 = .ok (.getfield 39, 3) := by decide +kernel
theorem dX6_passDay_13 : decode cX6_passDay 13 = .ok (.iconst 1, 1) := by decide +kernel
theorem dX6_passDay_14 : decode cX6_passDay 14 = .ok (.iadd, 1) := by decide +kernel
theorem dX6_passDay_15 : decode cX6_passDay 15 = .ok (.sipush 999, 3) := by decide +kernel
theorem dX6_passDay_18 : decode cX6_passDay 18 = .ok (.invokestatic 92, 3) := by decide +kernel
theorem dX6_passDay_21 : decode cX6_passDay 21 = .ok (.putfield 39, 3) := by decide +kernel
theorem dX6_passDay_24 : decode cX6_passDay 24 = .ok (.return_, 1) := by decide +kernel
theorem dX6_remember_0 : decode cX6_remember 0 = .ok (.aload_n 0, 1) := by decide +kernel
theorem dX6_remember_1 : decode cX6_remember 1 = .ok (.getfield 31, 3) := by decide +kernel
theorem dX6_remember_4 : decode cX6_remember 4 = .ok (.aload_n 0, 1) := by decide +kernel
theorem dX6_remember_5 : decode cX6_remember 5 = .ok (.getfield 15, 3) := by decide +kernel
theorem dX6_remember_8 : decode cX6_remember 8 = .ok (.aload_n 0, 1) := by decide +kernel
theorem dX6_remember_9 : decode cX6_remember 9 = .ok (.getfield 39, 3) := by decide +kernel
theorem dX6_remember_12 : decode cX6_remember 12 = .ok (.aload_n 0, 1) := by decide +kernel
theorem dX6_remember_13 : decode cX6_remember 13 = .ok (.getfield 42, 3) := by decide +kernel
theorem dX6_remember_16 : decode cX6_remember 16 = .ok (.invokevirtual 108, 3) := by decide +kernel
theorem dX6_remember_19 : decode cX6_remember 19 = .ok (.return_, 1) := by decide +kernel
theorem dX6_goBack_0 : decode cX6_goBack 0 = .ok (.aload_n 0, 1) := by decide +kernel
theorem dX6_goBack_1 : decode cX6_goBack 1 = .ok (.getfield 31, 3) := by decide +kernel
theorem dX6_goBack_4 : decode cX6_goBack 4 = .ok (.getfield 48, 3) := by decide +kernel
theorem dX6_goBack_7 : decode cX6_goBack 7 = .ok (.ifCond .gt 5, 3) := by decide +kernel
theorem dX6_goBack_10 : decode cX6_goBack 10 = .ok (.iconst 0, 1) := by decide +kernel
theorem dX6_goBack_11 : decode cX6_goBack 11 = .ok (.ireturn, 1) := by decide +kernel
theorem dX6_goBack_12 : decode cX6_goBack 12 = .ok (.aload_n 0, 1) := by decide +kernel
theorem dX6_goBack_13 : decode cX6_goBack 13 = .ok (.getfield 31, 3) := by decide +kernel
theorem dX6_goBack_16 : decode cX6_goBack 16 = .ok (.dup, 1) := by decide +kernel
theorem dX6_goBack_17 : decode cX6_goBack 17 = .ok (.getfield 48, 3) := by decide +kernel
theorem dX6_goBack_20 : decode cX6_goBack 20 = .ok (.iconst 1, 1) := by decide +kernel
theorem dX6_goBack_21 : decode cX6_goBack 21 = .ok (.isub, 1) := by decide +kernel
theorem dX6_goBack_22 : decode cX6_goBack 22 = .ok (.putfield 48, 3) := by decide +kernel
theorem dX6_goBack_25 : decode cX6_goBack 25 = .ok (.aload_n 0, 1) := by decide +kernel
theorem dX6_goBack_26 : decode cX6_goBack 26 = .ok (.getfield 31, 3) := by decide +kernel
theorem dX6_goBack_29 : decode cX6_goBack 29 = .ok (.getfield 112, 3) := by decide +kernel
theorem dX6_goBack_32 : decode cX6_goBack 32 = .ok (.aload_n 0, 1) := by decide +kernel
theorem dX6_goBack_33 : decode cX6_goBack 33 = .ok (.getfield 31, 3) := by decide +kernel
theorem dX6_goBack_36 : decode cX6_goBack 36 = .ok (.getfield 48, 3) := by decide +kernel
theorem dX6_goBack_39 : decode cX6_goBack 39 = .ok (.aload_n 0, 1) := by decide +kernel
theorem dX6_goBack_40 : decode cX6_goBack 40 = .ok (.getfield 15, 3) := by decide +kernel
theorem dX6_goBack_43 : decode cX6_goBack 43 = .ok (.arraylength, 1) := by decide +kernel
theorem dX6_goBack_44 : decode cX6_goBack 44 = .ok (.imul, 1) := by decide +kernel
theorem dX6_goBack_45 : decode cX6_goBack 45 = .ok (.aload_n 0, 1) := by decide +kernel
theorem dX6_goBack_46 : decode cX6_goBack 46 = .ok (.getfield 15, 3) := by decide +kernel
theorem dX6_goBack_49 : decode cX6_goBack 49 = .ok (.iconst 0, 1) := by decide +kernel
theorem dX6_goBack_50 : decode cX6_goBack 50 = .ok (.aload_n 0, 1) := by decide +kernel
theorem dX6_goBack_51 : decode cX6_goBack 51 = .ok (.getfield 15, 3) := by decide +kernel
theorem dX6_goBack_54 : decode cX6_goBack 54 = .ok (.arraylength, 1) := by decide +kernel
theorem dX6_goBack_55 : decode cX6_goBack 55 = .ok (.invokestatic 49, 3) := by decide +kernel
theorem dX6_goBack_58 : decode cX6_goBack 58 = .ok (.aload_n 0, 1) := by decide +kernel
theorem dX6_goBack_59 : decode cX6_goBack 59 = .ok (.aload_n 0, 1) := by decide +kernel
theorem dX6_goBack_60 : decode cX6_goBack 60 = .ok (.getfield 31, 3) := by decide +kernel
theorem dX6_goBack_63 : decode cX6_goBack 63 = .ok (.getfield 113, 3) := by decide +kernel
theorem dX6_goBack_66 : decode cX6_goBack 66 = .ok (.aload_n 0, 1) := by decide +kernel
theorem dX6_goBack_67 : decode cX6_goBack 67 = .ok (.getfield 31, 3) := by decide +kernel
theorem dX6_goBack_70 : decode cX6_goBack 70 = .ok (.getfield 48, 3) := by decide +kernel
theorem dX6_goBack_73 : decode cX6_goBack 73 = .ok (.iaload, 1) := by decide +kernel
theorem dX6_goBack_74 : decode cX6_goBack 74 = .ok (.putfield 39, 3) := by decide +kernel
theorem dX6_goBack_77 : decode cX6_goBack 77 = .ok (.aload_n 0, 1) := by decide +kernel
theorem dX6_goBack_78 : decode cX6_goBack 78 = .ok (.aload_n 0, 1) := by decide +kernel
theorem dX6_goBack_79 : decode cX6_goBack 79 = .ok (.getfield 31, 3) := by decide +kernel
theorem dX6_goBack_82 : decode cX6_goBack 82 = .ok (.getfield 116, 3) := by decide +kernel
theorem dX6_goBack_85 : decode cX6_goBack 85 = .ok (.aload_n 0, 1) := by decide +kernel
theorem dX6_goBack_86 : decode cX6_goBack 86 = .ok (.getfield 31, 3) := by decide +kernel
theorem dX6_goBack_89 : decode cX6_goBack 89 = .ok (.getfield 48, 3) := by decide +kernel
theorem dX6_goBack_92 : decode cX6_goBack 92 = .ok (.iaload, 1) := by decide +kernel
theorem dX6_goBack_93 : decode cX6_goBack 93 = .ok (.putfield 42, 3) := by decide +kernel
theorem dX6_goBack_96 : decode cX6_goBack 96 = .ok (.iconst 1, 1) := by decide +kernel
theorem dX6_goBack_97 : decode cX6_goBack 97 = .ok (.ireturn, 1) := by decide +kernel
theorem dJ9_max_7cf53_0 : decode cJ9_max_7cf53 0 = .ok (.iload_n 0, 1) := by decide +kernel
theorem dJ9_max_7cf53_1 : decode cJ9_max_7cf53 1 = .ok (.iload_n 1, 1) := by decide +kernel
theorem dJ9_max_7cf53_2 : decode cJ9_max_7cf53 2 = .ok (.if_icmp .lt 7, 3) := by decide +kernel
theorem dJ9_max_7cf53_5 : decode cJ9_max_7cf53 5 = .ok (.iload_n 0, 1) := by decide +kernel
theorem dJ9_max_7cf53_6 : decode cJ9_max_7cf53 6 = .ok (.goto 4, 3) := by decide +kernel
theorem dJ9_max_7cf53_9 : decode cJ9_max_7cf53 9 = .ok (.iload_n 1, 1) := by decide +kernel
theorem dJ9_max_7cf53_10 : decode cJ9_max_7cf53 10 = .ok (.ireturn, 1) := by decide +kernel
theorem dJ9_min_7cf53_0 : decode cJ9_min_7cf53 0 = .ok (.iload_n 0, 1) := by decide +kernel
theorem dJ9_min_7cf53_1 : decode cJ9_min_7cf53 1 = .ok (.iload_n 1, 1) := by decide +kernel
theorem dJ9_min_7cf53_2 : decode cJ9_min_7cf53 2 = .ok (.if_icmp .gt 7, 3) := by decide +kernel
theorem dJ9_min_7cf53_5 : decode cJ9_min_7cf53 5 = .ok (.iload_n 0, 1) := by decide +kernel
theorem dJ9_min_7cf53_6 : decode cJ9_min_7cf53 6 = .ok (.goto 4, 3) := by decide +kernel
theorem dJ9_min_7cf53_9 : decode cJ9_min_7cf53 9 = .ok (.iload_n 1, 1) := by decide +kernel
theorem dJ9_min_7cf53_10 : decode cJ9_min_7cf53 10 = .ok (.ireturn, 1) := by decide +kernel
theorem dJ0_length_8abf5_0 : decode cJ0_length_8abf5 0 = .ok (.aload_n 0, 1) := by decide +kernel
theorem dJ0_length_8abf5_1 : decode cJ0_length_8abf5 1 = .ok (.getfield 9, 3) := by decide +kernel
theorem dJ0_length_8abf5_4 : decode cJ0_length_8abf5 4 = .ok (.arraylength, 1) := by decide +kernel
theorem dJ0_length_8abf5_5 : decode cJ0_length_8abf5 5 = .ok (.aload_n 0, 1) := by decide +kernel
theorem dJ0_length_8abf5_6 : decode cJ0_length_8abf5 6 = .ok (.invokevirtual 335, 3) := by decide +kernel
theorem dJ0_length_8abf5_9 : decode cJ0_length_8abf5 9 = .ok (.ishr, 1) := by decide +kernel
theorem dJ0_length_8abf5_10 : decode cJ0_length_8abf5 10 = .ok (.ireturn, 1) := by decide +kernel
theorem dJ0_charAt_5068e_0 : decode cJ0_charAt_5068e 0 = .ok (.aload_n 0, 1) := by decide +kernel
theorem dJ0_charAt_5068e_1 : decode cJ0_charAt_5068e 1 = .ok (.invokevirtual 492, 3) := by decide +kernel
theorem dJ0_charAt_5068e_4 : decode cJ0_charAt_5068e 4 = .ok (.ifCond .eq 12, 3) := by decide +kernel
theorem dJ0_charAt_5068e_7 : decode cJ0_charAt_5068e 7 = .ok (.aload_n 0, 1) := by decide +kernel
theorem dJ0_charAt_5068e_8 : decode cJ0_charAt_5068e 8 = .ok (.getfield 9, 3) := by decide +kernel
theorem dJ0_charAt_5068e_11 : decode cJ0_charAt_5068e 11 = .ok (.iload_n 1, 1) := by decide +kernel
theorem dJ0_charAt_5068e_12 : decode cJ0_charAt_5068e 12 = .ok (.invokestatic 495, 3) := by decide +kernel
theorem dJ0_charAt_5068e_15 : decode cJ0_charAt_5068e 15 = .ok (.ireturn, 1) := by decide +kernel
theorem dJ0_charAt_5068e_16 : decode cJ0_charAt_5068e 16 = .ok (.aload_n 0, 1) := by decide +kernel
theorem dJ0_charAt_5068e_17 : decode cJ0_charAt_5068e 17 = .ok (.getfield 9, 3) := by decide +kernel
theorem dJ0_charAt_5068e_20 : decode cJ0_charAt_5068e 20 = .ok (.iload_n 1, 1) := by decide +kernel
theorem dJ0_charAt_5068e_21 : decode cJ0_charAt_5068e 21 = .ok (.invokestatic 498, 3) := by decide +kernel
theorem dJ0_charAt_5068e_24 : decode cJ0_charAt_5068e 24 = .ok (.ireturn, 1) := by decide +kernel
theorem dJ0_coder_7d493_0 : decode cJ0_coder_7d493 0 = .ok (.getstatic 38, 3) := by decide +kernel
theorem dJ0_coder_7d493_3 : decode cJ0_coder_7d493 3 = .ok (.ifCond .eq 10, 3) := by decide +kernel
theorem dJ0_coder_7d493_6 : decode cJ0_coder_7d493 6 = .ok (.aload_n 0, 1) := by decide +kernel
theorem dJ0_coder_7d493_7 : decode cJ0_coder_7d493 7 = .ok (.getfield 15, 3) := by decide +kernel
theorem dJ0_coder_7d493_10 : decode cJ0_coder_7d493 10 = .ok (.goto 4, 3) := by decide +kernel
theorem dJ0_coder_7d493_13 : decode cJ0_coder_7d493 13 = .ok (.iconst 1, 1) := by decide +kernel
theorem dJ0_coder_7d493_14 : decode cJ0_coder_7d493 14 = .ok (.ireturn, 1) := by decide +kernel
theorem dJ0_isLatin1_aae02_0 : decode cJ0_isLatin1_aae02 0 = .ok (.getstatic 38, 3) := by decide +kernel
theorem dJ0_isLatin1_aae02_3 : decode cJ0_isLatin1_aae02 3 = .ok (.ifCond .eq 14, 3) := by decide +kernel
theorem dJ0_isLatin1_aae02_6 : decode cJ0_isLatin1_aae02 6 = .ok (.aload_n 0, 1) := by decide +kernel
theorem dJ0_isLatin1_aae02_7 : decode cJ0_isLatin1_aae02 7 = .ok (.getfield 15, 3) := by decide +kernel
theorem dJ0_isLatin1_aae02_10 : decode cJ0_isLatin1_aae02 10 = .ok (.ifCond .ne 7, 3) := by decide +kernel
theorem dJ0_isLatin1_aae02_13 : decode cJ0_isLatin1_aae02 13 = .ok (.iconst 1, 1) := by decide +kernel
theorem dJ0_isLatin1_aae02_14 : decode cJ0_isLatin1_aae02 14 = .ok (.goto 4, 3) := by decide +kernel
theorem dJ0_isLatin1_aae02_17 : decode cJ0_isLatin1_aae02 17 = .ok (.iconst 0, 1) := by decide +kernel
theorem dJ0_isLatin1_aae02_18 : decode cJ0_isLatin1_aae02 18 = .ok (.ireturn, 1) := by decide +kernel
theorem dJ0_checkIndex_df160_0 : decode cJ0_checkIndex_df160 0 = .ok (.iload_n 0, 1) := by decide +kernel
theorem dJ0_checkIndex_df160_1 : decode cJ0_checkIndex_df160 1 = .ok (.iload_n 1, 1) := by decide +kernel
theorem dJ0_checkIndex_df160_2 : decode cJ0_checkIndex_df160 2 = .ok (.getstatic 1053, 3) := by decide +kernel
theorem dJ0_checkIndex_df160_5 : decode cJ0_checkIndex_df160 5 = .ok (.invokestatic 1059, 3) := by decide +kernel
theorem dJ0_checkIndex_df160_8 : decode cJ0_checkIndex_df160 8 = .ok (.pop, 1) := by decide +kernel
theorem dJ0_checkIndex_df160_9 : decode cJ0_checkIndex_df160 9 = .ok (.return_, 1) := by decide +kernel
theorem dJ1_charAt_3b067_0 : decode cJ1_charAt_3b067 0 = .ok (.iload_n 1, 1) := by decide +kernel
theorem dJ1_charAt_3b067_1 : decode cJ1_charAt_3b067 1 = .ok (.aload_n 0, 1) := by decide +kernel
theorem dJ1_charAt_3b067_2 : decode cJ1_charAt_3b067 2 = .ok (.arraylength, 1) := by decide +kernel
theorem dJ1_charAt_3b067_3 : decode cJ1_charAt_3b067 3 = .ok (.invokestatic 9, 3) := by decide +kernel
theorem dJ1_charAt_3b067_6 : decode cJ1_charAt_3b067 6 = .ok (.aload_n 0, 1) := by decide +kernel
theorem dJ1_charAt_3b067_7 : decode cJ1_charAt_3b067 7 = .ok (.iload_n 1, 1) := by decide +kernel
theorem dJ1_charAt_3b067_8 : decode cJ1_charAt_3b067 8 = .ok (.baload, 1) := by decide +kernel
theorem dJ1_charAt_3b067_9 : decode cJ1_charAt_3b067 9 = .ok (.sipush 255, 3) := by decide +kernel
theorem dJ1_charAt_3b067_12 : decode cJ1_charAt_3b067 12 = .ok (.iand, 1) := by decide +kernel
theorem dJ1_charAt_3b067_13 : decode cJ1_charAt_3b067 13 = .ok (.i2c, 1) := by decide +kernel
theorem dJ1_charAt_3b067_14 : decode cJ1_charAt_3b067 14 = .ok (.ireturn, 1) := by decide +kernel
theorem dJ2_getChar_3b067_0 : decode cJ2_getChar_3b067 0 = .ok (.getstatic 44, 3) := by decide +kernel
theorem dJ2_getChar_3b067_3 : decode cJ2_getChar_3b067 3 = .ok (.ifCond .ne 25, 3) := by decide +kernel
theorem dJ2_getChar_3b067_6 : decode cJ2_getChar_3b067 6 = .ok (.iload_n 1, 1) := by decide +kernel
theorem dJ2_getChar_3b067_7 : decode cJ2_getChar_3b067 7 = .ok (.ifCond .lt 11, 3) := by decide +kernel
theorem dJ2_getChar_3b067_10 : decode cJ2_getChar_3b067 10 = .ok (.iload_n 1, 1) := by decide +kernel
theorem dJ2_getChar_3b067_11 : decode cJ2_getChar_3b067 11 = .ok (.aload_n 0, 1) := by decide +kernel
theorem dJ2_getChar_3b067_12 : decode cJ2_getChar_3b067 12 = .ok (.invokestatic 48, 3) := by decide +kernel
theorem dJ2_getChar_3b067_15 : decode cJ2_getChar_3b067 15 = .ok (.if_icmp .lt 13, 3) := by decide +kernel
theorem dJ2_getChar_3b067_18 : decode cJ2_getChar_3b067 18 = .ok (.new 52, 3) := by decide +kernel
theorem dJ2_getChar_3b067_21 : decode cJ2_getChar_3b067 21 = .ok (.dup, 1) := by decide +kernel
theorem dJ2_getChar_3b067_22 : decode cJ2_getChar_3b067 22 = .ok (.ldc 54, 2) := by decide +kernel
theorem dJ2_getChar_3b067_24 : decode cJ2_getChar_3b067 24 = .ok (.invokespecial 56, 3) := by decide +kernel
theorem dJ2_getChar_3b067_27 : decode cJ2_getChar_3b067 27 = .ok (.athrow, 1) := by decide +kernel
theorem dJ2_getChar_3b067_28 : decode cJ2_getChar_3b067 28 = .ok (.iload_n 1, 1) := by decide +kernel
theorem dJ2_getChar_3b067_29 : decode cJ2_getChar_3b067 29 = .ok (.iconst 1, 1) := by decide +kernel
theorem dJ2_getChar_3b067_30 : decode cJ2_getChar_3b067 30 = .ok (.ishl, 1) := by decide +kernel
theorem dJ2_getChar_3b067_31 : decode cJ2_getChar_3b067 31 = .ok (.istore_n 1, 1) := by decide +kernel
theorem dJ2_getChar_3b067_32 : decode cJ2_getChar_3b067 32 = .ok (.aload_n 0, 1) := by decide +kernel
theorem dJ2_getChar_3b067_33 : decode cJ2_getChar_3b067 33 = .ok (.iload_n 1, 1) := by decide +kernel
theorem dJ2_getChar_3b067_34 : decode cJ2_getChar_3b067 34 = .ok (.iinc 1 1, 3) := by decide +kernel
theorem dJ2_getChar_3b067_37 : decode cJ2_getChar_3b067 37 = .ok (.baload, 1) := by decide +kernel
theorem dJ2_getChar_3b067_38 : decode cJ2_getChar_3b067 38 = .ok (.sipush 255, 3) := by decide +kernel
theorem dJ2_getChar_3b067_41 : decode cJ2_getChar_3b067 41 = .ok (.iand, 1) := by decide +kernel
theorem dJ2_getChar_3b067_42 : decode cJ2_getChar_3b067 42 = .ok (.getstatic 59, 3) := by decide +kernel
theorem dJ2_getChar_3b067_45 : decode cJ2_getChar_3b067 45 = .ok (.ishl, 1) := by decide +kernel
theorem dJ2_getChar_3b067_46 : decode cJ2_getChar_3b067 46 = .ok (.aload_n 0, 1) := by decide +kernel
theorem dJ2_getChar_3b067_47 : decode cJ2_getChar_3b067 47 = .ok (.iload_n 1, 1) := by decide +kernel
theorem dJ2_getChar_3b067_48 : decode cJ2_getChar_3b067 48 = .ok (.baload, 1) := by decide +kernel
theorem dJ2_getChar_3b067_49 : decode cJ2_getChar_3b067 49 = .ok (.sipush 255, 3) := by decide +kernel
theorem dJ2_getChar_3b067_52 : decode cJ2_getChar_3b067 52 = .ok (.iand, 1) := by decide +kernel
theorem dJ2_getChar_3b067_53 : decode cJ2_getChar_3b067 53 = .ok (.getstatic 63, 3) := by decide +kernel
theorem dJ2_getChar_3b067_56 : decode cJ2_getChar_3b067 56 = .ok (.ishl, 1) := by decide +kernel
theorem dJ2_getChar_3b067_57 : decode cJ2_getChar_3b067 57 = .ok (.ior, 1) := by decide +kernel
theorem dJ2_getChar_3b067_58 : decode cJ2_getChar_3b067 58 = .ok (.i2c, 1) := by decide +kernel
theorem dJ2_getChar_3b067_59 : decode cJ2_getChar_3b067 59 = .ok (.ireturn, 1) := by decide +kernel
theorem dJ2_length_9d52b_0 : decode cJ2_length_9d52b 0 = .ok (.aload_n 0, 1) := by decide +kernel
theorem dJ2_length_9d52b_1 : decode cJ2_length_9d52b 1 = .ok (.arraylength, 1) := by decide +kernel
theorem dJ2_length_9d52b_2 : decode cJ2_length_9d52b 2 = .ok (.iconst 1, 1) := by decide +kernel
theorem dJ2_length_9d52b_3 : decode cJ2_length_9d52b 3 = .ok (.ishr, 1) := by decide +kernel
theorem dJ2_length_9d52b_4 : decode cJ2_length_9d52b 4 = .ok (.ireturn, 1) := by decide +kernel
theorem dJ2_charAt_3b067_0 : decode cJ2_charAt_3b067 0 = .ok (.iload_n 1, 1) := by decide +kernel
theorem dJ2_charAt_3b067_1 : decode cJ2_charAt_3b067 1 = .ok (.aload_n 0, 1) := by decide +kernel
theorem dJ2_charAt_3b067_2 : decode cJ2_charAt_3b067 2 = .ok (.invokestatic 67, 3) := by decide +kernel
theorem dJ2_charAt_3b067_5 : decode cJ2_charAt_3b067 5 = .ok (.aload_n 0, 1) := by decide +kernel
theorem dJ2_charAt_3b067_6 : decode cJ2_charAt_3b067 6 = .ok (.iload_n 1, 1) := by decide +kernel
theorem dJ2_charAt_3b067_7 : decode cJ2_charAt_3b067 7 = .ok (.invokestatic 71, 3) := by decide +kernel
theorem dJ2_charAt_3b067_10 : decode cJ2_charAt_3b067 10 = .ok (.ireturn, 1) := by decide +kernel
theorem dJ2_checkIndex_2214a_0 : decode cJ2_checkIndex_2214a 0 = .ok (.iload_n 0, 1) := by decide +kernel
theorem dJ2_checkIndex_2214a_1 : decode cJ2_checkIndex_2214a 1 = .ok (.aload_n 1, 1) := by decide +kernel
theorem dJ2_checkIndex_2214a_2 : decode cJ2_checkIndex_2214a 2 = .ok (.invokestatic 48, 3) := by decide +kernel
theorem dJ2_checkIndex_2214a_5 : decode cJ2_checkIndex_2214a 5 = .ok (.invokestatic 414, 3) := by decide +kernel
theorem dJ2_checkIndex_2214a_8 : decode cJ2_checkIndex_2214a 8 = .ok (.return_, 1) := by decide +kernel
theorem dJ3_checkIndex_8e157_0 : decode cJ3_checkIndex_8e157 0 = .ok (.iload_n 0, 1) := by decide +kernel
theorem dJ3_checkIndex_8e157_1 : decode cJ3_checkIndex_8e157 1 = .ok (.ifCond .lt 8, 3) := by decide +kernel
theorem dJ3_checkIndex_8e157_4 : decode cJ3_checkIndex_8e157 4 = .ok (.iload_n 0, 1) := by decide +kernel
theorem dJ3_checkIndex_8e157_5 : decode cJ3_checkIndex_8e157 5 = .ok (.iload_n 1, 1) := by decide +kernel
theorem dJ3_checkIndex_8e157_6 : decode cJ3_checkIndex_8e157 6 = .ok (.if_icmp .lt 10, 3) := by decide +kernel
theorem dJ3_checkIndex_8e157_9 : decode cJ3_checkIndex_8e157 9 = .ok (.aload_n 2, 1) := by decide +kernel
theorem dJ3_checkIndex_8e157_10 : decode cJ3_checkIndex_8e157 10 = .ok (.iload_n 0, 1) := by decide +kernel
theorem dJ3_checkIndex_8e157_11 : decode cJ3_checkIndex_8e157 11 = .ok (.iload_n 1, 1) := by decide +kernel
theorem dJ3_checkIndex_8e157_12 : decode cJ3_checkIndex_8e157 12 = .ok (.invokestatic 95, 3) := by decide +kernel
theorem dJ3_checkIndex_8e157_15 : decode cJ3_checkIndex_8e157 15 = .ok (.athrow, 1) := by decide +kernel
theorem dJ3_checkIndex_8e157_16 : decode cJ3_checkIndex_8e157 16 = .ok (.iload_n 0, 1) := by decide +kernel
theorem dJ3_checkIndex_8e157_17 : decode cJ3_checkIndex_8e157 17 = .ok (.ireturn, 1) := by decide +kernel
