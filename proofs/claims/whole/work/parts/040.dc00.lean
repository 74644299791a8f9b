theorem dX0_init_0 : decode cX0_init 0 = .ok (.aload_n 0, 1) := by decide +kernel
theorem dX0_init_1 : decode cX0_init 1 = .ok (.invokespecial 3, 3) := by decide +kernel
theorem dX0_init_4 : decode cX0_init 4 = .ok (.aload_n 0, 1) := by decide +kernel
theorem dX0_init_5 : decode cX0_init 5 = .ok (.bipush 16, 2) := by decide +kernel
theorem dX0_init_7 : decode cX0_init 7 = .ok (.bipush 6, 2) := by decide +kernel
theorem dX0_init_9 : decode cX0_init 9 = .ok (.multianewarray 9 2, 4) := by decide +kernel
theorem dX0_init_13 : decode cX0_init 13 = .ok (.putfield 11, 3) := by decide +kernel
theorem dX0_init_16 : decode cX0_init 16 = .ok (.aload_n 0, 1) := by decide +kernel
theorem dX0_init_17 : decode cX0_init 17 = .ok (.bipush 16, 2) := by decide +kernel
theorem dX0_init_19 : decode cX0_init 19 = .ok (.newarray .int, 2) := by decide +kernel
theorem dX0_init_21 : decode cX0_init 21 = .ok (.putfield 16, 3) := by decide +kernel
theorem dX0_init_24 : decode cX0_init 24 = .ok (.aload_n 0, 1) := by decide +kernel
theorem dX0_init_25 : decode cX0_init 25 = .ok (.bipush 16, 2) := by decide +kernel
theorem dX0_init_27 : decode cX0_init 27 = .ok (.bipush 16, 2) := by decide +kernel
theorem dX0_init_29 : decode cX0_init 29 = .ok (.multianewarray 9 2, 4) := by decide +kernel
theorem dX0_init_33 : decode cX0_init 33 = .ok (.putfield 20, 3) := by decide +kernel
theorem dX0_init_36 : decode cX0_init 36 = .ok (.return_, 1) := by decide +kernel
theorem dX0_begin_0 : decode cX0_begin 0 = .ok (.aload_n 0, 1) := by decide +kernel
theorem dX0_begin_1 : decode cX0_begin 1 = .ok (.iload_n 2, 1) := by decide +kernel
theorem dX0_begin_2 : decode cX0_begin 2 = .ok (.putfield 23, 3) := by decide +kernel
theorem dX0_begin_5 : decode cX0_begin 5 = .ok (.aload_n 0, 1) := by decide +kernel
theorem dX0_begin_6 : decode cX0_begin 6 = .ok (.iconst 0, 1) := by decide +kernel
theorem dX0_begin_7 : decode cX0_begin 7 = .ok (.putfield 27, 3) := by decide +kernel
theorem dX0_begin_10 : decode cX0_begin 10 = .ok (.aload_n 0, 1) := by decide +kernel
theorem dX0_begin_11 : decode cX0_begin 11 = .ok (.iconst 0, 1) := by decide +kernel
theorem dX0_begin_12 : decode cX0_begin 12 = .ok (.putfield 31, 3) := by decide +kernel
theorem dX0_begin_15 : decode cX0_begin 15 = .ok (.aload_n 0, 1) := by decide +kernel
theorem dX0_begin_16 : decode cX0_begin 16 = .ok (.aload_n 1, 1) := by decide +kernel
theorem dX0_begin_17 : decode cX0_begin 17 = .ok (.getfield 34, 3) := by decide +kernel
theorem dX0_begin_20 : decode cX0_begin 20 = .ok (.aload_n 1, 1) := by decide +kernel
theorem dX0_begin_21 : decode cX0_begin 21 = .ok (.getfield 39, 3) := by decide +kernel
theorem dX0_begin_24 : decode cX0_begin 24 = .ok (.invokevirtual 42, 3) := by decide +kernel
theorem dX0_begin_27 : decode cX0_begin 27 = .ok (.pop, 1) := by decide +kernel
theorem dX0_begin_28 : decode cX0_begin 28 = .ok (.return_, 1) := by decide +kernel
theorem dX0_visit_0 : decode cX0_visit 0 = .ok (.aload_n 2, 1) := by decide +kernel
theorem dX0_visit_1 : decode cX0_visit 1 = .ok (.aload_n 0, 1) := by decide +kernel
theorem dX0_visit_2 : decode cX0_visit 2 = .ok (.getfield 11, 3) := by decide +kernel
theorem dX0_visit_5 : decode cX0_visit 5 = .ok (.iload_n 1, 1) := by decide +kernel
theorem dX0_visit_6 : decode cX0_visit 6 = .ok (.aaload, 1) := by decide +kernel
theorem dX0_visit_7 : decode cX0_visit 7 = .ok (.aload_n 0, 1) := by decide +kernel
theorem dX0_visit_8 : decode cX0_visit 8 = .ok (.getfield 23, 3) := by decide +kernel
theorem dX0_visit_11 : decode cX0_visit 11 = .ok (.invokevirtual 46, 3) := by decide +kernel
theorem dX0_visit_14 : decode cX0_visit 14 = .ok (.iconst 0, 1) := by decide +kernel
theorem dX0_visit_15 : decode cX0_visit 15 = .ok (.istore 4, 2) := by decide +kernel
theorem dX0_visit_17 : decode cX0_visit 17 = .ok (.iload 4, 2) := by decide +kernel
theorem dX0_visit_19 : decode cX0_visit 19 = .ok (.aload_n 0, 1) := by decide +kernel
theorem dX0_visit_20 : decode cX0_visit 20 = .ok (.getfield 23, 3) := by decide +kernel
theorem dX0_visit_23 : decode cX0_visit 23 = .ok (.if_icmp .gt 91, 3) := by decide +kernel
theorem dX0_visit_26 : decode cX0_visit 26 = .ok (.aload_n 0, 1) := by decide +kernel
theorem dX0_visit_27 : decode cX0_visit 27 = .ok (.getfield 27, 3) := by decide +kernel
theorem dX0_visit_30 : decode cX0_visit 30 = .ok (.ifCond .ne 84, 3) := by decide +kernel
theorem dX0_visit_33 : decode cX0_visit 33 = .ok (.aload_n 2, 1) := by decide +kernel
theorem dX0_visit_34 : decode cX0_visit 34 = .ok (.iload 4, 2) := by decide +kernel
theorem dX0_visit_36 : decode cX0_visit 36 = .ok (.invokevirtual 52, 3) := by decide +kernel
theorem dX0_visit_39 : decode cX0_visit 39 = .ok (.aload_n 2, 1) := by decide +kernel
theorem dX0_visit_40 : decode cX0_visit 40 = .ok (.invokevirtual 56, 3) := by decide +kernel
theorem dX0_visit_43 : decode cX0_visit 43 = .ok (.aload_n 3, 1) := by decide +kernel
theorem dX0_visit_44 : decode cX0_visit 44 = .ok (.aload_n 2, 1) := by decide +kernel
theorem dX0_visit_45 : decode cX0_visit 45 = .ok (.getfield 59, 3) := by decide +kernel
theorem dX0_visit_48 : decode cX0_visit 48 = .ok (.invokevirtual 62, 3) := by decide +kernel
theorem dX0_visit_51 : decode cX0_visit 51 = .ok (.aload_n 0, 1) := by decide +kernel
theorem dX0_visit_52 : decode cX0_visit 52 = .ok (.aload_n 3, 1) := by decide +kernel
theorem dX0_visit_53 : decode cX0_visit 53 = .ok (.getfield 68, 3) := by decide +kernel
theorem dX0_visit_56 : decode cX0_visit 56 = .ok (.invokevirtual 71, 3) := by decide +kernel
theorem dX0_visit_59 : decode cX0_visit 59 = .ok (.istore 5, 2) := by decide +kernel
theorem dX0_visit_61 : decode cX0_visit 61 = .ok (.iload 5, 2) := by decide +kernel
theorem dX0_visit_63 : decode cX0_visit 63 = .ok (.iconst (-1), 1) := by decide +kernel
theorem dX0_visit_64 : decode cX0_visit 64 = .ok (.if_icmp .ne 17, 3) := by decide +kernel
theorem dX0_visit_67 : decode cX0_visit 67 = .ok (.aload_n 0, 1) := by decide +kernel
theorem dX0_visit_68 : decode cX0_visit 68 = .ok (.aload_n 3, 1) := by decide +kernel
theorem dX0_visit_69 : decode cX0_visit 69 = .ok (.getfield 68, 3) := by decide +kernel
theorem dX0_visit_72 : decode cX0_visit 72 = .ok (.aload_n 3, 1) := by decide +kernel
theorem dX0_visit_73 : decode cX0_visit 73 = .ok (.getfield 75, 3) := by decide +kernel
theorem dX0_visit_76 : decode cX0_visit 76 = .ok (.invokevirtual 42, 3) := by decide +kernel
theorem dX0_visit_79 : decode cX0_visit 79 = .ok (.istore 5, 2) := by decide +kernel
theorem dX0_visit_81 : decode cX0_visit 81 = .ok (.iload 5, 2) := by decide +kernel
theorem dX0_visit_83 : decode cX0_visit 83 = .ok (.iconst (-1), 1) := by decide +kernel
theorem dX0_visit_84 : decode cX0_visit 84 = .ok (.if_icmp .ne 11, 3) := by decide +kernel
theorem dX0_visit_87 : decode cX0_visit 87 = .ok (.aload_n 0, 1) := by decide +kernel
theorem dX0_visit_88 : decode cX0_visit 88 = .ok (.iconst 1, 1) := by decide +kernel
theorem dX0_visit_89 : decode cX0_visit 89 = .ok (.putfield 27, 3) := by decide +kernel
theorem dX0_visit_92 : decode cX0_visit 92 = .ok (.goto 16, 3) := by decide +kernel
theorem dX0_visit_95 : decode cX0_visit 95 = .ok (.aload_n 0, 1) := by decide +kernel
theorem dX0_visit_96 : decode cX0_visit 96 = .ok (.getfield 20, 3) := by decide +kernel
theorem dX0_visit_99 : decode cX0_visit 99 = .ok (.iload_n 1, 1) := by decide +kernel
theorem dX0_visit_100 : decode cX0_visit 100 = .ok (.aaload, 1) := by decide +kernel
theorem dX0_visit_101 : decode cX0_visit 101 = .ok (.iload 5, 2) := by decide +kernel
theorem dX0_visit_103 : decode cX0_visit 103 = .ok (.dup2, 1) := by decide +kernel
theorem dX0_visit_104 : decode cX0_visit 104 = .ok (.iaload, 1) := by decide +kernel
theorem dX0_visit_105 : decode cX0_visit 105 = .ok (.iconst 1, 1) := by decide +kernel
theorem dX0_visit_106 : decode cX0_visit 106 = .ok (.iadd, 1) := by decide +kernel
theorem dX0_visit_107 : decode cX0_visit 107 = .ok (.iastore, 1) := by decide +kernel
theorem dX0_visit_108 : decode cX0_visit 108 = .ok (.iinc 4 1, 3) := by decide +kernel
theorem dX0_visit_111 : decode cX0_visit 111 = .ok (.goto (-94), 3) := by decide +kernel
theorem dX0_visit_114 : decode cX0_visit 114 = .ok (.return_, 1) := by decide +kernel
theorem dX0_welcome_0 : decode cX0_welcome 0 = .ok (.aload_n 0, 1) := by decide +kernel
theorem dX0_welcome_1 : decode cX0_welcome 1 = .ok (.getfield 31, 3) := by decide +kernel
theorem dX0_welcome_4 : decode cX0_welcome 4 = .ok (.bipush 16, 2) := by decide +kernel
theorem dX0_welcome_6 : decode cX0_welcome 6 = .ok (.if_icmp .lt 5, 3) := by decide +kernel
theorem dX0_welcome_9 : decode cX0_welcome 9 = .ok (.iconst (-1), 1) := by decide +kernel
theorem dX0_welcome_10 : decode cX0_welcome 10 = .ok (.ireturn, 1) := by decide +kernel
theorem dX0_welcome_11 : decode cX0_welcome 11 = .ok (.aload_n 1, 1) := by decide +kernel
theorem dX0_welcome_12 : decode cX0_welcome 12 = .ok (.iconst 0, 1) := by decide +kernel
theorem dX0_welcome_13 : decode cX0_welcome 13 = .ok (.aload_n 0, 1) := by decide +kernel
theorem dX0_welcome_14 : decode cX0_welcome 14 = .ok (.getfield 11, 3) := by decide +kernel
theorem dX0_welcome_17 : decode cX0_welcome 17 = .ok (.aload_n 0, 1) := by decide +kernel
theorem dX0_welcome_18 : decode cX0_welcome 18 = .ok (.getfield 31, 3) := by decide +kernel
theorem dX0_welcome_21 : decode cX0_welcome 21 = .ok (.aaload, 1) := by decide +kernel
theorem dX0_welcome_22 : decode cX0_welcome 22 = .ok (.iconst 0, 1) := by decide +kernel
theorem dX0_welcome_23 : decode cX0_welcome 23 = .ok (.bipush 6, 2) := by decide +kernel
theorem dX0_welcome_25 : decode cX0_welcome 25 = .ok (.invokestatic 78, 3) := by decide +kernel
theorem dX0_welcome_28 : decode cX0_welcome 28 = .ok (.aload_n 0, 1) := by decide +kernel
theorem dX0_welcome_29 : decode cX0_welcome 29 = .ok (.getfield 16, 3) := by decide +kernel
theorem dX0_welcome_32 : decode cX0_welcome 32 = .ok (.aload_n 0, 1) := by decide +kernel
theorem dX0_welcome_33 : decode cX0_welcome 33 = .ok (.getfield 31, 3) := by decide +kernel
theorem dX0_welcome_36 : decode cX0_welcome 36 = .ok (.iload_n 2, 1) := by decide +kernel
theorem dX0_welcome_37 : decode cX0_welcome 37 = .ok (.iastore, 1) := by decide +kernel
theorem dX0_welcome_38 : decode cX0_welcome 38 = .ok (.iconst 0, 1) := by decide +kernel
theorem dX0_welcome_39 : decode cX0_welcome 39 = .ok (.istore_n 3, 1) := by decide +kernel
theorem dX0_welcome_40 : decode cX0_welcome 40 = .ok (.iload_n 3, 1) := by decide +kernel
theorem dX0_welcome_41 : decode cX0_welcome 41 = .ok (.bipush 16, 2) := by decide +kernel
theorem dX0_welcome_43 : decode cX0_welcome 43 = .ok (.if_icmp .ge 21, 3) := by decide +kernel
theorem dX0_welcome_46 : decode cX0_welcome 46 = .ok (.aload_n 0, 1) := by decide +kernel
theorem dX0_welcome_47 : decode cX0_welcome 47 = .ok (.getfield 20, 3) := by decide +kernel
theorem dX0_welcome_50 : decode cX0_welcome 50 = .ok (.aload_n 0, 1) := by decide +kernel
theorem dX0_welcome_51 : decode cX0_welcome 51 = .ok (.getfield 31, 3) := by decide +kernel
theorem dX0_welcome_54 : decode cX0_welcome 54 = .ok (.aaload, 1) := by decide +kernel
theorem dX0_welcome_55 : decode cX0_welcome 55 = .ok (.iload_n 3, 1) := by decide +kernel
theorem dX0_welcome_56 : decode cX0_welcome 56 = .ok (.iconst 0, 1) := by decide +kernel
theorem dX0_welcome_57 : decode cX0_welcome 57 = .ok (.iastore, 1) := by decide +kernel
theorem dX0_welcome_58 : decode cX0_welcome 58 = .ok (.iinc 3 1, 3) := by decide +kernel
theorem dX0_welcome_61 : decode cX0_welcome 61 = .ok (.goto (-21), 3) := by decide +kernel
theorem dX0_welcome_64 : decode cX0_welcome 64 = .ok (.aload_n 0, 1) := by decide +kernel
theorem dX0_welcome_65 : decode cX0_welcome 65 = .ok (.dup, 1) := by decide +kernel
theorem dX0_welcome_66 : decode cX0_welcome 66 = .ok (.getfield 31, 3) := by decide +kernel
theorem dX0_welcome_69 : decode cX0_welcome 69 = .ok (.iconst 1, 1) := by decide +kernel
theorem dX0_welcome_70 : decode cX0_welcome 70 = .ok (.iadd, 1) := by decide +kernel
theorem dX0_welcome_71 : decode cX0_welcome 71 = .ok (.putfield 31, 3) := by decide +kernel
theorem dX0_welcome_74 : decode cX0_welcome 74 = .ok (.aload_n 0, 1) := by decide +kernel
theorem dX0_welcome_75 : decode cX0_welcome 75 = .ok (.getfield 31, 3) := by decide +kernel
theorem dX0_welcome_78 : decode cX0_welcome 78 = .ok (.iconst 1, 1) := by decide +kernel
theorem dX0_welcome_79 : decode cX0_welcome 79 = .ok (.isub, 1) := by decide +kernel
theorem dX0_welcome_80 : decode cX0_welcome 80 = .ok (.ireturn, 1) := by decide +kernel
theorem dX0_placeOf_0 : decode cX0_placeOf 0 = .ok (.iconst 0, 1) := by decide +kernel
theorem dX0_placeOf_1 : decode cX0_placeOf 1 = .ok (.istore_n 2, 1) := by decide +kernel
theorem dX0_placeOf_2 : decode cX0_placeOf 2 = .ok (.iload_n 2, 1) := by decide +kernel
theorem dX0_placeOf_3 : decode cX0_placeOf 3 = .ok (.aload_n 0, 1) := by decide +kernel
theorem dX0_placeOf_4 : decode cX0_placeOf 4 = .ok (.getfield 31, 3) := by decide +kernel
theorem dX0_placeOf_7 : decode cX0_placeOf 7 = .ok (.if_icmp .ge 24, 3) := by decide +kernel
theorem dX0_placeOf_10 : decode cX0_placeOf 10 = .ok (.aload_n 0, 1) := by decide +kernel
theorem dX0_placeOf_11 : decode cX0_placeOf 11 = .ok (.getfield 11, 3) := by decide +kernel
theorem dX0_placeOf_14 : decode cX0_placeOf 14 = .ok (.iload_n 2, 1) := by decide +kernel
theorem dX0_placeOf_15 : decode cX0_placeOf 15 = .ok (.aaload, 1) := by decide +kernel
theorem dX0_placeOf_16 : decode cX0_placeOf 16 = .ok (.aload_n 1, 1) := by decide +kernel
theorem dX0_placeOf_17 : decode cX0_placeOf 17 = .ok (.invokestatic 84, 3) := by decide +kernel
theorem dX0_placeOf_20 : decode cX0_placeOf 20 = .ok (.ifCond .eq 5, 3) := by decide +kernel
theorem dX0_placeOf_23 : decode cX0_placeOf 23 = .ok (.iload_n 2, 1) := by decide +kernel
theorem dX0_placeOf_24 : decode cX0_placeOf 24 = .ok (.ireturn, 1) := by decide +kernel
theorem dX0_placeOf_25 : decode cX0_placeOf 25 = .ok (.iinc 2 1, 3) := by decide +kernel
theorem dX0_placeOf_28 : decode cX0_placeOf 28 = .ok (.goto (-26), 3) := by decide +kernel
theorem dX0_placeOf_31 : decode cX0_placeOf 31 = .ok (.iconst (-1), 1) := by decide +kernel
theorem dX0_placeOf_32 : decode cX0_placeOf 32 = .ok (.ireturn, 1) := by decide +kernel
theorem dX0_partsOf_0 : decode cX0_partsOf 0 = .ok (.aload_n 0, 1) := by decide +kernel
theorem dX0_partsOf_1 : decode cX0_partsOf 1 = .ok (.getfield 16, 3) := by decide +kernel
theorem dX0_partsOf_4 : decode cX0_partsOf 4 = .ok (.iload_n 1, 1) := by decide +kernel
theorem dX0_partsOf_5 : decode cX0_partsOf 5 = .ok (.iaload, 1) := by decide +kernel
theorem dX0_partsOf_6 : decode cX0_partsOf 6 = .ok (.ifCond .le 16, 3) := by decide +kernel
theorem dX0_partsOf_9 : decode cX0_partsOf 9 = .ok (.bipush 48, 2) := by decide +kernel
theorem dX0_partsOf_11 : decode cX0_partsOf 11 = .ok (.aload_n 0, 1) := by decide +kernel
theorem dX0_partsOf_12 : decode cX0_partsOf 12 = .ok (.getfield 16, 3) := by decide +kernel
theorem dX0_partsOf_15 : decode cX0_partsOf 15 = .ok (.iload_n 1, 1) := by decide +kernel
theorem dX0_partsOf_16 : decode cX0_partsOf 16 = .ok (.iaload, 1) := by decide +kernel
theorem dX0_partsOf_17 : decode cX0_partsOf 17 = .ok (.idiv, 1) := by decide +kernel
theorem dX0_partsOf_18 : decode cX0_partsOf 18 = .ok (.i2l, 1) := by decide +kernel
theorem dX0_partsOf_19 : decode cX0_partsOf 19 = .ok (.goto 4, 3) := by decide +kernel
theorem dX0_partsOf_22 : decode cX0_partsOf 22 = .ok (.lconst 0, 1) := by decide +kernel
theorem dX0_partsOf_23 : decode cX0_partsOf 23 = .ok (.lreturn, 1) := by decide +kernel
theorem dX0_partsOfAll_0 : decode cX0_partsOfAll 0 = .ok (.lconst 0, 1) := by decide +kernel
theorem dX0_partsOfAll_1 : decode cX0_partsOfAll 1 = .ok (.lstore_n 1, 1) := by decide +kernel
theorem dX0_partsOfAll_2 : decode cX0_partsOfAll 2 = .ok (.iconst 0, 1) := by decide +kernel
theorem dX0_partsOfAll_3 : decode cX0_partsOfAll 3 = .ok (.istore_n 3, 1) := by decide +kernel
theorem dX0_partsOfAll_4 : decode cX0_partsOfAll 4 = .ok (.iload_n 3, 1) := by decide +kernel
theorem dX0_partsOfAll_5 : decode cX0_partsOfAll 5 = .ok (.aload_n 0, 1) := by decide +kernel
theorem dX0_partsOfAll_6 : decode cX0_partsOfAll 6 = .ok (.getfield 31, 3) := by decide +kernel
theorem dX0_partsOfAll_9 : decode cX0_partsOfAll 9 = .ok (.if_icmp .ge 17, 3) := by decide +kernel
theorem dX0_partsOfAll_12 : decode cX0_partsOfAll 12 = .ok (.lload_n 1, 1) := by decide +kernel
theorem dX0_partsOfAll_13 : decode cX0_partsOfAll 13 = .ok (.aload_n 0, 1) := by decide +kernel
theorem dX0_partsOfAll_14 : decode cX0_partsOfAll 14 = .ok (.iload_n 3, 1) := by decide +kernel
theorem dX0_partsOfAll_15 : decode cX0_partsOfAll 15 = .ok (.invokevirtual 90, 3) := by decide +kernel
theorem dX0_partsOfAll_18 : decode cX0_partsOfAll 18 = .ok (.ladd, 1) := by decide +kernel
theorem dX0_partsOfAll_19 : decode cX0_partsOfAll 19 = .ok (.lstore_n 1, 1) := by decide +kernel
theorem dX0_partsOfAll_20 : decode cX0_partsOfAll 20 = .ok (.iinc 3 1, 3) := by decide +kernel
theorem dX0_partsOfAll_23 : decode cX0_partsOfAll 23 = .ok (.goto (-19), 3) := by decide +kernel
theorem dX0_partsOfAll_26 : decode cX0_partsOfAll 26 = .ok (.lload_n 1, 1) := by decide +kernel
theorem dX0_partsOfAll_27 : decode cX0_partsOfAll 27 = .ok (.lreturn, 1) := by decide +kernel
theorem dX0_partsTaking_0 : decode cX0_partsTaking 0 = .ok (.lconst 0, 1) := by decide +kernel
theorem dX0_partsTaking_1 : decode cX0_partsTaking 1 = .ok (.lstore_n 2, 1) := by decide +kernel
theorem dX0_partsTaking_2 : decode cX0_partsTaking 2 = .ok (.iconst 0, 1) := by decide +kernel
theorem dX0_partsTaking_3 : decode cX0_partsTaking 3 = .ok (.istore 4, 2) := by decide +kernel
theorem dX0_partsTaking_5 : decode cX0_partsTaking 5 = .ok (.iload 4, 2) := by decide +kernel
theorem dX0_partsTaking_7 : decode cX0_partsTaking 7 = .ok (.aload_n 0, 1) := by decide +kernel
theorem dX0_partsTaking_8 : decode cX0_partsTaking 8 = .ok (.getfield 31, 3) := by decide +kernel
theorem dX0_partsTaking_11 : decode cX0_partsTaking 11 = .ok (.if_icmp .ge 31, 3) := by decide +kernel
theorem dX0_partsTaking_14 : decode cX0_partsTaking 14 = .ok (.lload_n 2, 1) := by decide +kernel
theorem dX0_partsTaking_15 : decode cX0_partsTaking 15 = .ok (.aload_n 0, 1) := by decide +kernel
theorem dX0_partsTaking_16 : decode cX0_partsTaking 16 = .ok (.iload 4, 2) := by decide +kernel
theorem dX0_partsTaking_18 : decode cX0_partsTaking 18 = .ok (.invokevirtual 90, 3) := by decide +kernel
theorem dX0_partsTaking_21 : decode cX0_partsTaking 21 = .ok (.aload_n 0, 1) := by decide +kernel
theorem dX0_partsTaking_22 : decode cX0_partsTaking 22 = .ok (.getfield 11, 3) := by decide +kernel
theorem dX0_partsTaking_25 : decode cX0_partsTaking 25 = .ok (.iload 4, 2) := by decide +kernel
theorem dX0_partsTaking_27 : decode cX0_partsTaking 27 = .ok (.aaload, 1) := by decide +kernel
theorem dX0_partsTaking_28 : decode cX0_partsTaking 28 = .ok (.iload_n 1, 1) := by decide +kernel
theorem dX0_partsTaking_29 : decode cX0_partsTaking 29 = .ok (.invokestatic 94, 3) := by decide +kernel
theorem dX0_partsTaking_32 : decode cX0_partsTaking 32 = .ok (.i2l, 1) := by decide +kernel
theorem dX0_partsTaking_33 : decode cX0_partsTaking 33 = .ok (.lmul, 1) := by decide +kernel
theorem dX0_partsTaking_34 : decode cX0_partsTaking 34 = .ok (.ladd, 1) := by decide +kernel
theorem dX0_partsTaking_35 : decode cX0_partsTaking 35 = .ok (.lstore_n 2, 1) := by decide +kernel
theorem dX0_partsTaking_36 : decode cX0_partsTaking 36 = .ok (.iinc 4 1, 3) := by decide +kernel
theorem dX0_partsTaking_39 : decode cX0_partsTaking 39 = .ok (.goto (-34), 3) := by decide +kernel
theorem dX0_partsTaking_42 : decode cX0_partsTaking 42 = .ok (.lload_n 2, 1) := by decide +kernel
theorem dX0_partsTaking_43 : decode cX0_partsTaking 43 = .ok (.lreturn, 1) := by decide +kernel
theorem dX1_init_0 : decode cX1_init 0 = .ok (.aload_n 0, 1) := by decide +kernel
theorem dX1_init_1 : decode cX1_init 1 = .ok (.invokespecial 1, 3) := by decide +kernel
theorem dX1_init_4 : decode cX1_init 4 = .ok (.aload_n 0, 1) := by decide +kernel
theorem dX1_init_5 : decode cX1_init 5 = .ok (.bipush 6, 2) := by decide +kernel
theorem dX1_init_7 : decode cX1_init 7 = .ok (.newarray .int, 2) := by decide +kernel
theorem dX1_init_9 : decode cX1_init 9 = .ok (.putfield 7, 3) := by decide +kernel
theorem dX1_init_12 : decode cX1_init 12 = .ok (.aload_n 0, 1) := by decide +kernel
theorem dX1_init_13 : decode cX1_init 13 = .ok (.bipush 6, 2) := by decide +kernel
theorem dX1_init_15 : decode cX1_init 15 = .ok (.newarray .int, 2) := by decide +kernel
theorem dX1_init_17 : decode cX1_init 17 = .ok (.putfield 13, 3) := by decide +kernel
theorem dX1_init_20 : decode cX1_init 20 = .ok (.aload_n 0, 1) := by decide +kernel
theorem dX1_init_21 : decode cX1_init 21 = .ok (.bipush 9, 2) := by decide +kernel
theorem dX1_init_23 : decode cX1_init 23 = .ok (.newarray .int, 2) := by decide +kernel
theorem dX1_init_25 : decode cX1_init 25 = .ok (.putfield 16, 3) := by decide +kernel
theorem dX1_init_28 : decode cX1_init 28 = .ok (.aload_n 0, 1) := by decide +kernel
theorem dX1_init_29 : decode cX1_init 29 = .ok (.new 19, 3) := by decide +kernel
theorem dX1_init_32 : decode cX1_init 32 = .ok (.dup, 1) := by decide +kernel
theorem dX1_init_33 : decode cX1_init 33 = .ok (.invokespecial 21, 3) := by decide +kernel
theorem dX1_init_36 : decode cX1_init 36 = .ok (.putfield 22, 3) := by decide +kernel
theorem dX1_init_39 : decode cX1_init 39 = .ok (.return_, 1) := by decide +kernel
theorem dX1_become_0 : decode cX1_become 0 = .ok (.aload_n 1, 1) := by decide +kernel
theorem dX1_become_1 : decode cX1_become 1 = .ok (.iconst 0, 1) := by decide +kernel
theorem dX1_become_2 : decode cX1_become 2 = .ok (.aload_n 0, 1) := by decide +kernel
theorem dX1_become_3 : decode cX1_become 3 = .ok (.getfield 7, 3) := by decide +kernel
theorem dX1_become_6 : decode cX1_become 6 = .ok (.iconst 0, 1) := by decide +kernel
theorem dX1_become_7 : decode cX1_become 7 = .ok (.bipush 6, 2) := by decide +kernel
theorem dX1_become_9 : decode cX1_become 9 = .ok (.invokestatic 26, 3) := by decide +kernel
theorem dX1_become_12 : decode cX1_become 12 = .ok (.aload_n 0, 1) := by decide +kernel
theorem dX1_become_13 : decode cX1_become 13 = .ok (.aload_n 0, 1) := by decide +kernel
theorem dX1_become_14 : decode cX1_become 14 = .ok (.getfield 7, 3) := by decide +kernel
theorem dX1_become_17 : decode cX1_become 17 = .ok (.invokestatic 32, 3) := by decide +kernel
theorem dX1_become_20 : decode cX1_become 20 = .ok (.putfield 38, 3) := by decide +kernel
theorem dX1_become_23 : decode cX1_become 23 = .ok (.aload_n 2, 1) := by decide +kernel
theorem dX1_become_24 : decode cX1_become 24 = .ok (.aload_n 0, 1) := by decide +kernel
theorem dX1_become_25 : decode cX1_become 25 = .ok (.getfield 7, 3) := by decide +kernel
theorem dX1_become_28 : decode cX1_become 28 = .ok (.invokevirtual 42, 3) := by decide +kernel
theorem dX1_become_31 : decode cX1_become 31 = .ok (.aload_n 2, 1) := by decide +kernel
theorem dX1_become_32 : decode cX1_become 32 = .ok (.getfield 48, 3) := by decide +kernel
theorem dX1_become_35 : decode cX1_become 35 = .ok (.iconst 0, 1) := by decide +kernel
theorem dX1_become_36 : decode cX1_become 36 = .ok (.aload_n 0, 1) := by decide +kernel
theorem dX1_become_37 : decode cX1_become 37 = .ok (.getfield 13, 3) := by decide +kernel
theorem dX1_become_40 : decode cX1_become 40 = .ok (.iconst 0, 1) := by decide +kernel
theorem dX1_become_41 : decode cX1_become 41 = .ok (.bipush 6, 2) := by decide +kernel
theorem dX1_become_43 : decode cX1_become 43 = .ok (.invokestatic 26, 3) := by decide +kernel
theorem dX1_become_46 : decode cX1_become 46 = .ok (.aload_n 2, 1) := by decide +kernel
theorem dX1_become_47 : decode cX1_become 47 = .ok (.getfield 51, 3) := by decide +kernel
theorem dX1_become_50 : decode cX1_become 50 = .ok (.iconst 0, 1) := by decide +kernel
theorem dX1_become_51 : decode cX1_become 51 = .ok (.aload_n 0, 1) := by decide +kernel
theorem dX1_become_52 : decode cX1_become 52 = .ok (.getfield 16, 3) := by decide +kernel
theorem dX1_become_55 : decode cX1_become 55 = .ok (.iconst 0, 1) := by decide +kernel
theorem dX1_become_56 : decode cX1_become 56 = .ok (.bipush 9, 2) := by decide +kernel
theorem dX1_become_58 : decode cX1_become 58 = .ok (.invokestatic 26, 3) := by decide +kernel
theorem dX1_become_61 : decode cX1_become 61 = .ok (.aload_n 0, 1) := by decide +kernel
theorem dX1_become_62 : decode cX1_become 62 = .ok (.aload_n 2, 1) := by decide +kernel
theorem dX1_become_63 : decode cX1_become 63 = .ok (.getfield 54, 3) := by decide +kernel
theorem dX1_become_66 : decode cX1_become 66 = .ok (.putfield 57, 3) := by decide +kernel
theorem dX1_become_69 : decode cX1_become 69 = .ok (.aload_n 0, 1) := by decide +kernel
theorem dX1_become_70 : decode cX1_become 70 = .ok (.getfield 22, 3) := by decide +kernel
theorem dX1_become_73 : decode cX1_become 73 = .ok (.iconst 0, 1) := by decide +kernel
theorem dX1_become_74 : decode cX1_become 74 = .ok (.putfield 60, 3) := by decide +kernel
theorem dX1_become_77 : decode cX1_become 77 = .ok (.return_, 1) := by decide +kernel
theorem dX2_init_0 : decode cX2_init 0 = .ok (.aload_n 0, 1) := by decide +kernel
theorem dX2_init_1 : decode cX2_init 1 = .ok (.invokespecial 1, 3) := by decide +kernel
theorem dX2_init_4 : decode cX2_init 4 = .ok (.aload_n 0, 1) := by decide +kernel
theorem dX2_init_5 : decode cX2_init 5 = .ok (.bipush 6, 2) := by decide +kernel
theorem dX2_init_7 : decode cX2_init 7 = .ok (.newarray .int, 2) := by decide +kernel
theorem dX2_init_9 : decode cX2_init 9 = .ok (.putfield 7, 3) := by decide +kernel
theorem dX2_init_12 : decode cX2_init 12 = .ok (.aload_n 0, 1) := by decide +kernel
theorem dX2_init_13 : decode cX2_init 13 = .ok (.bipush 24, 2) := by decide +kernel
theorem dX2_init_15 : decode cX2_init 15 = .ok (.newarray .int, 2) := by decide +kernel
theorem dX2_init_17 : decode cX2_init 17 = .ok (.putfield 13, 3) := by decide +kernel
theorem dX2_init_20 : decode cX2_init 20 = .ok (.aload_n 0, 1) := by decide +kernel
theorem dX2_init_21 : decode cX2_init 21 = .ok (.iconst 3, 1) := by decide +kernel
theorem dX2_init_22 : decode cX2_init 22 = .ok (.newarray .int, 2) := by decide +kernel
theorem dX2_init_24 : decode cX2_init 24 = .ok (.putfield 16, 3) := by decide +kernel
theorem dX2_init_27 : decode cX2_init 27 = .ok (.aload_n 0, 1) := by decide +kernel
theorem dX2_init_28 : decode cX2_init 28 = .ok (.bipush 9, 2) := by decide +kernel
theorem dX2_init_30 : decode cX2_init 30 = .ok (.newarray .int, 2) := by decide +kernel
theorem dX2_init_32 : decode cX2_init 32 = .ok (.putfield 19, 3) := by decide +kernel
theorem dX2_init_35 : decode cX2_init 35 = .ok (.aload_n 0, 1) := by decide +kernel
theorem dX2_init_36 : decode cX2_init 36 = .ok (.bipush 6, 2) := by decide +kernel
theorem dX2_init_38 : decode cX2_init 38 = .ok (.newarray .int, 2) := by decide +kernel
theorem dX2_init_40 : decode cX2_init 40 = .ok (.putfield 22, 3) := by decide +kernel
theorem dX2_init_43 : decode cX2_init 43 = .ok (.aload_n 0, 1) := by decide +kernel
theorem dX2_init_44 : decode cX2_init 44 = .ok (.iconst 3, 1) := by decide +kernel
theorem dX2_init_45 : decode cX2_init 45 = .ok (.putfield 25, 3) := by decide +kernel
theorem dX2_init_48 : decode cX2_init 48 = .ok (.return_, 1) := by decide +kernel
theorem dX2_find_0 : decode cX2_find 0 = .ok (.aload_n 1, 1) := by decide +kernel
theorem dX2_find_1 : decode cX2_find 1 = .ok (.iconst 0, 1) := by decide +kernel
theorem dX2_find_2 : decode cX2_find 2 = .ok (.aload_n 0, 1) := by decide +kernel
theorem dX2_find_3 : decode cX2_find 3 = .ok (.getfield 7, 3) := by decide +kernel
theorem dX2_find_6 : decode cX2_find 6 = .ok (.iconst 0, 1) := by decide +kernel
theorem dX2_find_7 : decode cX2_find 7 = .ok (.bipush 6, 2) := by decide +kernel
theorem dX2_find_9 : decode cX2_find 9 = .ok (.invokestatic 29, 3) := by decide +kernel
theorem dX2_find_12 : decode cX2_find 12 = .ok (.aload_n 0, 1) := by decide +kernel
theorem dX2_find_13 : decode cX2_find 13 = .ok (.iload_n 2, 1) := by decide +kernel
theorem dX2_find_14 : decode cX2_find 14 = .ok (.putfield 25, 3) := by decide +kernel
theorem dX2_find_17 : decode cX2_find 17 = .ok (.aload_n 0, 1) := by decide +kernel
theorem dX2_find_18 : decode cX2_find 18 = .ok (.iconst 0, 1) := by decide +kernel
theorem dX2_find_19 : decode cX2_find 19 = .ok (.putfield 35, 3) := by decide +kernel
theorem dX2_find_22 : decode cX2_find 22 = .ok (.aload_n 0, 1) := by decide +kernel
theorem dX2_find_23 : decode cX2_find 23 = .ok (.iconst 0, 1) := by decide +kernel
theorem dX2_find_24 : decode cX2_find 24 = .ok (.iconst 0, 1) := by decide +kernel
theorem dX2_find_25 : decode cX2_find 25 = .ok (.iconst 1, 1) := by decide +kernel
theorem dX2_find_26 : decode cX2_find 26 = .ok (.invokevirtual 38, 3) := by decide +kernel
theorem dX2_find_29 : decode cX2_find 29 = .ok (.iconst 0, 1) := by decide +kernel
theorem dX2_find_30 : decode cX2_find 30 = .ok (.istore_n 3, 1) := by decide +kernel
theorem dX2_find_31 : decode cX2_find 31 = .ok (.iload_n 3, 1) := by decide +kernel
theorem dX2_find_32 : decode cX2_find 32 = .ok (.aload_n 0, 1) := by decide +kernel
theorem dX2_find_33 : decode cX2_find 33 = .ok (.getfield 25, 3) := by decide +kernel
theorem dX2_find_36 : decode cX2_find 36 = .ok (.if_icmp .ge 16, 3) := by decide +kernel
theorem dX2_find_39 : decode cX2_find 39 = .ok (.aload_n 0, 1) := by decide +kernel
theorem dX2_find_40 : decode cX2_find 40 = .ok (.iconst 0, 1) := by decide +kernel
theorem dX2_find_41 : decode cX2_find 41 = .ok (.iconst 1, 1) := by decide +kernel
theorem dX2_find_42 : decode cX2_find 42 = .ok (.iload_n 3, 1) := by decide +kernel
theorem dX2_find_43 : decode cX2_find 43 = .ok (.invokevirtual 38, 3) := by decide +kernel
theorem dX2_find_46 : decode cX2_find 46 = .ok (.iinc 3 1, 3) := by decide +kernel
theorem dX2_find_49 : decode cX2_find 49 = .ok (.goto (-18), 3) := by decide +kernel
theorem dX2_find_52 : decode cX2_find 52 = .ok (.iconst 0, 1) := by decide +kernel
theorem dX2_find_53 : decode cX2_find 53 = .ok (.istore_n 3, 1) := by decide +kernel
theorem dX2_find_54 : decode cX2_find 54 = .ok (.iload_n 3, 1) := by decide +kernel
theorem dX2_find_55 : decode cX2_find 55 = .ok (.aload_n 0, 1) := by decide +kernel
theorem dX2_find_56 : decode cX2_find 56 = .ok (.getfield 25, 3) := by decide +kernel
theorem dX2_find_59 : decode cX2_find 59 = .ok (.if_icmp .ge 35, 3) := by decide +kernel
theorem dX2_find_62 : decode cX2_find 62 = .ok (.iconst 0, 1) := by decide +kernel
theorem dX2_find_63 : decode cX2_find 63 = .ok (.istore 4, 2) := by decide +kernel
theorem dX2_find_65 : decode cX2_find 65 = .ok (.iload 4, 2) := by decide +kernel
theorem dX2_find_67 : decode cX2_find 67 = .ok (.aload_n 0, 1) := by decide +kernel
theorem dX2_find_68 : decode cX2_find 68 = .ok (.getfield 25, 3) := by decide +kernel
theorem dX2_find_71 : decode cX2_find 71 = .ok (.if_icmp .ge 17, 3) := by decide +kernel
theorem dX2_find_74 : decode cX2_find 74 = .ok (.aload_n 0, 1) := by decide +kernel
theorem dX2_find_75 : decode cX2_find 75 = .ok (.iconst 1, 1) := by decide +kernel
theorem dX2_find_76 : decode cX2_find 76 = .ok (.iload_n 3, 1) := by decide +kernel
theorem dX2_find_77 : decode cX2_find 77 = .ok (.iload 4, 2) := by decide +kernel
theorem dX2_find_79 : decode cX2_find 79 = .ok (.invokevirtual 38, 3) := by decide +kernel
theorem dX2_find_82 : decode cX2_find 82 = .ok (.iinc 4 1, 3) := by decide +kernel
theorem dX2_find_85 : decode cX2_find 85 = .ok (.goto (-20), 3) := by decide +kernel
theorem dX2_find_88 : decode cX2_find 88 = .ok (.iinc 3 1, 3) := by decide +kernel
theorem dX2_find_91 : decode cX2_find 91 = .ok (.goto (-37), 3) := by decide +kernel
theorem dX2_find_94 : decode cX2_find 94 = .ok (.return_, 1) := by decide +kernel
theorem dX2_findOne_0 : decode cX2_findOne 0 = .ok (.aload_n 0, 1) := by decide +kernel
theorem dX2_findOne_1 : decode cX2_findOne 1 = .ok (.getfield 35, 3) := by decide +kernel
theorem dX2_findOne_4 : decode cX2_findOne 4 = .ok (.bipush 8, 2) := by decide +kernel
theorem dX2_findOne_6 : decode cX2_findOne 6 = .ok (.if_icmp .ge 71, 3) := by decide +kernel
theorem dX2_findOne_9 : decode cX2_findOne 9 = .ok (.aload_n 0, 1) := by decide +kernel
theorem dX2_findOne_10 : decode cX2_findOne 10 = .ok (.getfield 7, 3) := by decide +kernel
theorem dX2_findOne_13 : decode cX2_findOne 13 = .ok (.iload_n 1, 1) := by decide +kernel
theorem dX2_findOne_14 : decode cX2_findOne 14 = .ok (.iload_n 2, 1) := by decide +kernel
theorem dX2_findOne_15 : decode cX2_findOne 15 = .ok (.iload_n 3, 1) := by decide +kernel
theorem dX2_findOne_16 : decode cX2_findOne 16 = .ok (.invokestatic 42, 3) := by decide +kernel
theorem dX2_findOne_19 : decode cX2_findOne 19 = .ok (.aload_n 0, 1) := by decide +kernel
theorem dX2_findOne_20 : decode cX2_findOne 20 = .ok (.getfield 25, 3) := by decide +kernel
theorem dX2_findOne_23 : decode cX2_findOne 23 = .ok (.irem, 1) := by decide +kernel
theorem dX2_findOne_24 : decode cX2_findOne 24 = .ok (.ifCond .ne 53, 3) := by decide +kernel
theorem dX2_findOne_27 : decode cX2_findOne 27 = .ok (.aload_n 0, 1) := by decide +kernel
theorem dX2_findOne_28 : decode cX2_findOne 28 = .ok (.getfield 13, 3) := by decide +kernel
theorem dX2_findOne_31 : decode cX2_findOne 31 = .ok (.iconst 3, 1) := by decide +kernel
theorem dX2_findOne_32 : decode cX2_findOne 32 = .ok (.aload_n 0, 1) := by decide +kernel
theorem dX2_findOne_33 : decode cX2_findOne 33 = .ok (.getfield 35, 3) := by decide +kernel
theorem dX2_findOne_36 : decode cX2_findOne 36 = .ok (.imul, 1) := by decide +kernel
theorem dX2_findOne_37 : decode cX2_findOne 37 = .ok (.iload_n 1, 1) := by decide +kernel
theorem dX2_findOne_38 : decode cX2_findOne 38 = .ok (.iastore, 1) := by decide +kernel
theorem dX2_findOne_39 : decode cX2_findOne 39 = .ok (.aload_n 0, 1) := by decide +kernel
theorem dX2_findOne_40 : decode cX2_findOne 40 = .ok (.getfield 13, 3) := by decide +kernel
theorem dX2_findOne_43 : decode cX2_findOne 43 = .ok (.iconst 3, 1) := by decide +kernel
theorem dX2_findOne_44 : decode cX2_findOne 44 = .ok (.aload_n 0, 1) := by decide +kernel
theorem dX2_findOne_45 : decode cX2_findOne 45 = .ok (.getfield 35, 3) := by decide +kernel
theorem dX2_findOne_48 : decode cX2_findOne 48 = .ok (.imul, 1) := by decide +kernel
theorem dX2_findOne_49 : decode cX2_findOne 49 = .ok (.iconst 1, 1) := by decide +kernel
theorem dX2_findOne_50 : decode cX2_findOne 50 = .ok (.iadd, 1) := by decide +kernel
theorem dX2_findOne_51 : decode cX2_findOne 51 = .ok (.iload_n 2, 1) := by decide +kernel
theorem dX2_findOne_52 : decode cX2_findOne 52 = .ok (.iastore, 1) := by decide +kernel
theorem dX2_findOne_53 : decode cX2_findOne 53 = .ok (.aload_n 0, 1) := by decide +kernel
theorem dX2_findOne_54 : decode cX2_findOne 54 = .ok (.getfield 13, 3) := by decide +kernel
theorem dX2_findOne_57 : decode cX2_findOne 57 = .ok (.iconst 3, 1) := by decide +kernel
theorem dX2_findOne_58 : decode cX2_findOne 58 = .ok (.aload_n 0, 1) := by decide +kernel
theorem dX2_findOne_59 : decode cX2_findOne 59 = .ok (.getfield 35, 3) := by decide +kernel
theorem dX2_findOne_62 : decode cX2_findOne 62 = .ok (.imul, 1) := by decide +kernel
theorem dX2_findOne_63 : decode cX2_findOne 63 = .ok (.iconst 2, 1) := by decide +kernel
theorem dX2_findOne_64 : decode cX2_findOne 64 = .ok (.iadd, 1) := by decide +kernel
theorem dX2_findOne_65 : decode cX2_findOne 65 = .ok (.iload_n 3, 1) := by decide +kernel
theorem dX2_findOne_66 : decode cX2_findOne 66 = .ok (.iastore, 1) := by decide +kernel
theorem dX2_findOne_67 : decode cX2_findOne 67 = .ok (.aload_n 0, 1) := by decide +kernel
theorem dX2_findOne_68 : decode cX2_findOne 68 = .ok (.dup, 1) := by decide +kernel
theorem dX2_findOne_69 : decode cX2_findOne 69 = .ok (.getfield 35, 3) := by decide +kernel
theorem dX2_findOne_72 : decode cX2_findOne 72 = .ok (.iconst 1, 1) := by decide +kernel
theorem dX2_findOne_73 : decode cX2_findOne 73 = .ok (.iadd, 1) := by decide +kernel
theorem dX2_findOne_74 : decode cX2_findOne 74 = .ok (.putfield 35, 3) := by decide +kernel
theorem dX2_findOne_77 : decode cX2_findOne 77 = .ok (.return_, 1) := by decide +kernel
theorem dX2_part_0 : decode cX2_part 0 = .ok (.aload_n 0, 1) := by decide +kernel
theorem dX2_part_1 : decode cX2_part 1 = .ok (.getfield 13, 3) := by decide +kernel
theorem dX2_part_4 : decode cX2_part 4 = .ok (.iconst 3, 1) := by decide +kernel
theorem dX2_part_5 : decode cX2_part 5 = .ok (.iload_n 1, 1) := by decide +kernel
theorem dX2_part_6 : decode cX2_part 6 = .ok (.imul, 1) := by decide +kernel
theorem dX2_part_7 : decode cX2_part 7 = .ok (.iload_n 2, 1) := by decide +kernel
theorem dX2_part_8 : decode cX2_part 8 = .ok (.iadd, 1) := by decide +kernel
theorem dX2_part_9 : decode cX2_part 9 = .ok (.iaload, 1) := by decide +kernel
theorem dX2_part_10 : decode cX2_part 10 = .ok (.ireturn, 1) := by decide +kernel
theorem dX2_choose_0 : decode cX2_choose 0 = .ok (.aload_n 0, 1) := by decide +kernel
theorem dX2_choose_1 : decode cX2_choose 1 = .ok (.iconst 0, 1) := by decide +kernel
theorem dX2_choose_2 : decode cX2_choose 2 = .ok (.putfield 48, 3) := by decide +kernel
theorem dX2_choose_5 : decode cX2_choose 5 = .ok (.iconst 2, 1) := by decide +kernel
theorem dX2_choose_6 : decode cX2_choose 6 = .ok (.istore_n 2, 1) := by decide +kernel
theorem dX2_choose_7 : decode cX2_choose 7 = .ok (.iload_n 2, 1) := by decide +kernel
theorem dX2_choose_8 : decode cX2_choose 8 = .ok (.ifCond .lt 37, 3) := by decide +kernel
theorem dX2_choose_11 : decode cX2_choose 11 = .ok (.aload_n 0, 1) := by decide +kernel
theorem dX2_choose_12 : decode cX2_choose 12 = .ok (.getfield 7, 3) := by decide +kernel
theorem dX2_choose_15 : decode cX2_choose 15 = .ok (.aload_n 0, 1) := by decide +kernel
theorem dX2_choose_16 : decode cX2_choose 16 = .ok (.getfield 13, 3) := by decide +kernel
theorem dX2_choose_19 : decode cX2_choose 19 = .ok (.iconst 3, 1) := by decide +kernel
theorem dX2_choose_20 : decode cX2_choose 20 = .ok (.iload_n 1, 1) := by decide +kernel
theorem dX2_choose_21 : decode cX2_choose 21 = .ok (.imul, 1) := by decide +kernel
theorem dX2_choose_22 : decode cX2_choose 22 = .ok (.iload_n 2, 1) := by decide +kernel
theorem dX2_choose_23 : decode cX2_choose 23 = .ok (.invokestatic 51, 3) := by decide +kernel
theorem dX2_choose_26 : decode cX2_choose 26 = .ok (.aload_n 0, 1) := by decide +kernel
theorem dX2_choose_27 : decode cX2_choose 27 = .ok (.getfield 25, 3) := by decide +kernel
theorem dX2_choose_30 : decode cX2_choose 30 = .ok (.irem, 1) := by decide +kernel
theorem dX2_choose_31 : decode cX2_choose 31 = .ok (.ifCond .eq 8, 3) := by decide +kernel
theorem dX2_choose_34 : decode cX2_choose 34 = .ok (.aload_n 0, 1) := by decide +kernel
theorem dX2_choose_35 : decode cX2_choose 35 = .ok (.iload_n 2, 1) := by decide +kernel
theorem dX2_choose_36 : decode cX2_choose 36 = .ok (.putfield 48, 3) := by decide +kernel
theorem dX2_choose_39 : decode cX2_choose 39 = .ok (.iinc 2 (-1), 3) := by decide +kernel
theorem dX2_choose_42 : decode cX2_choose 42 = .ok (.goto (-35), 3) := by decide +kernel
theorem dX2_choose_45 : decode cX2_choose 45 = .ok (.aload_n 0, 1) := by decide +kernel
theorem dX2_choose_46 : decode cX2_choose 46 = .ok (.getfield 13, 3) := by decide +kernel
theorem dX2_choose_49 : decode cX2_choose 49 = .ok (.iconst 3, 1) := by decide +kernel
theorem dX2_choose_50 : decode cX2_choose 50 = .ok (.iload_n 1, 1) := by decide +kernel
theorem dX2_choose_51 : decode cX2_choose 51 = .ok (.imul, 1) := by decide +kernel
theorem dX2_choose_52 : decode cX2_choose 52 = .ok (.aload_n 0, 1) := by decide +kernel
theorem dX2_choose_53 : decode cX2_choose 53 = .ok (.getfield 16, 3) := by decide +kernel
theorem dX2_choose_56 : decode cX2_choose 56 = .ok (.iconst 0, 1) := by decide +kernel
theorem dX2_choose_57 : decode cX2_choose 57 = .ok (.iconst 3, 1) := by decide +kernel
theorem dX2_choose_58 : decode cX2_choose 58 = .ok (.invokestatic 29, 3) := by decide +kernel
theorem dX2_choose_61 : decode cX2_choose 61 = .ok (.aload_n 0, 1) := by decide +kernel
theorem dX2_choose_62 : decode cX2_choose 62 = .ok (.iconst 0, 1) := by decide +kernel
theorem dX2_choose_63 : decode cX2_choose 63 = .ok (.putfield 55, 3) := by decide +kernel
theorem dX2_choose_66 : decode cX2_choose 66 = .ok (.iconst 1, 1) := by decide +kernel
theorem dX2_choose_67 : decode cX2_choose 67 = .ok (.istore_n 2, 1) := by decide +kernel
theorem dX2_choose_68 : decode cX2_choose 68 = .ok (.iload_n 2, 1) := by decide +kernel
theorem dX2_choose_69 : decode cX2_choose 69 = .ok (.aload_n 0, 1) := by decide +kernel
theorem dX2_choose_70 : decode cX2_choose 70 = .ok (.getfield 25, 3) := by decide +kernel
theorem dX2_choose_73 : decode cX2_choose 73 = .ok (.if_icmp .ge 55, 3) := by decide +kernel
theorem dX2_choose_76 : decode cX2_choose 76 = .ok (.aload_n 0, 1) := by decide +kernel
theorem dX2_choose_77 : decode cX2_choose 77 = .ok (.getfield 7, 3) := by decide +kernel
theorem dX2_choose_80 : decode cX2_choose 80 = .ok (.aload_n 0, 1) := by decide +kernel
theorem dX2_choose_81 : decode cX2_choose 81 = .ok (.getfield 16, 3) := by decide +kernel
theorem dX2_choose_84 : decode cX2_choose 84 = .ok (.iconst 0, 1) := by decide +kernel
theorem dX2_choose_85 : decode cX2_choose 85 = .ok (.invokestatic 58, 3) := by decide +kernel
theorem dX2_choose_88 : decode cX2_choose 88 = .ok (.aload_n 0, 1) := by decide +kernel
theorem dX2_choose_89 : decode cX2_choose 89 = .ok (.getfield 25, 3) := by decide +kernel
theorem dX2_choose_92 : decode cX2_choose 92 = .ok (.aload_n 0, 1) := by decide +kernel
theorem dX2_choose_93 : decode cX2_choose 93 = .ok (.getfield 25, 3) := by decide +kernel
theorem dX2_choose_96 : decode cX2_choose 96 = .ok (.imul, 1) := by decide +kernel
theorem dX2_choose_97 : decode cX2_choose 97 = .ok (.irem, 1) := by decide +kernel
theorem dX2_choose_98 : decode cX2_choose 98 = .ok (.ifCond .eq 30, 3) := by decide +kernel
theorem dX2_choose_101 : decode cX2_choose 101 = .ok (.aload_n 0, 1) := by decide +kernel
theorem dX2_choose_102 : decode cX2_choose 102 = .ok (.getfield 16, 3) := by decide +kernel
theorem dX2_choose_105 : decode cX2_choose 105 = .ok (.aload_n 0, 1) := by decide +kernel
theorem dX2_choose_106 : decode cX2_choose 106 = .ok (.getfield 48, 3) := by decide +kernel
theorem dX2_choose_109 : decode cX2_choose 109 = .ok (.dup2, 1) := by decide +kernel
theorem dX2_choose_110 : decode cX2_choose 110 = .ok (.iaload, 1) := by decide +kernel
theorem dX2_choose_111 : decode cX2_choose 111 = .ok (.aload_n 0, 1) := by decide +kernel
theorem dX2_choose_112 : decode cX2_choose 112 = .ok (.getfield 25, 3) := by decide +kernel
theorem dX2_choose_115 : decode cX2_choose 115 = .ok (.iadd, 1) := by decide +kernel
theorem dX2_choose_116 : decode cX2_choose 116 = .ok (.iastore, 1) := by decide +kernel
theorem dX2_choose_117 : decode cX2_choose 117 = .ok (.aload_n 0, 1) := by decide +kernel
theorem dX2_choose_118 : decode cX2_choose 118 = .ok (.iload_n 2, 1) := by decide +kernel
theorem dX2_choose_119 : decode cX2_choose 119 = .ok (.putfield 55, 3) := by decide +kernel
theorem dX2_choose_122 : decode cX2_choose 122 = .ok (.iinc 2 1, 3) := by decide +kernel
theorem dX2_choose_125 : decode cX2_choose 125 = .ok (.goto (-57), 3) := by decide +kernel
theorem dX2_choose_128 : decode cX2_choose 128 = .ok (.return_, 1) := by decide +kernel
theorem dX2_cross_0 : decode cX2_cross 0 = .ok (.aload_n 0, 1) := by decide +kernel
theorem dX2_cross_1 : decode cX2_cross 1 = .ok (.invokevirtual 62, 3) := by decide +kernel
theorem dX2_cross_4 : decode cX2_cross 4 = .ok (.aload_n 0, 1) := by decide +kernel
theorem dX2_cross_5 : decode cX2_cross 5 = .ok (.getfield 7, 3) := by decide +kernel
theorem dX2_cross_8 : decode cX2_cross 8 = .ok (.aload_n 0, 1) := by decide +kernel
theorem dX2_cross_9 : decode cX2_cross 9 = .ok (.getfield 19, 3) := by decide +kernel
theorem dX2_cross_12 : decode cX2_cross 12 = .ok (.aload_n 0, 1) := by decide +kernel
theorem dX2_cross_13 : decode cX2_cross 13 = .ok (.getfield 22, 3) := by decide +kernel
theorem dX2_cross_16 : decode cX2_cross 16 = .ok (.invokestatic 65, 3) := by decide +kernel
theorem dX2_cross_19 : decode cX2_cross 19 = .ok (.aload_n 0, 1) := by decide +kernel
theorem dX2_cross_20 : decode cX2_cross 20 = .ok (.getfield 22, 3) := by decide +kernel
theorem dX2_cross_23 : decode cX2_cross 23 = .ok (.iconst 0, 1) := by decide +kernel
theorem dX2_cross_24 : decode cX2_cross 24 = .ok (.dup2, 1) := by decide +kernel
theorem dX2_cross_25 : decode cX2_cross 25 = .ok (.iaload, 1) := by decide +kernel
theorem dX2_cross_26 : decode cX2_cross 26 = .ok (.aload_n 0, 1) := by decide +kernel
theorem dX2_cross_27 : decode cX2_cross 27 = .ok (.getfield 25, 3) := by decide +kernel
theorem dX2_cross_30 : decode cX2_cross 30 = .ok (.aload_n 0, 1) := by decide +kernel
theorem dX2_cross_31 : decode cX2_cross 31 = .ok (.getfield 25, 3) := by decide +kernel
theorem dX2_cross_34 : decode cX2_cross 34 = .ok (.imul, 1) := by decide +kernel
theorem dX2_cross_35 : decode cX2_cross 35 = .ok (.idiv, 1) := by decide +kernel
theorem dX2_cross_36 : decode cX2_cross 36 = .ok (.iastore, 1) := by decide +kernel
theorem dX2_cross_37 : decode cX2_cross 37 = .ok (.aload_n 0, 1) := by decide +kernel
theorem dX2_cross_38 : decode cX2_cross 38 = .ok (.getfield 22, 3) := by decide +kernel
theorem dX2_cross_41 : decode cX2_cross 41 = .ok (.iconst 4, 1) := by decide +kernel
theorem dX2_cross_42 : decode cX2_cross 42 = .ok (.dup2, 1) := by decide +kernel
theorem dX2_cross_43 : decode cX2_cross 43 = .ok (.iaload, 1) := by decide +kernel
theorem dX2_cross_44 : decode cX2_cross 44 = .ok (.aload_n 0, 1) := by decide +kernel
theorem dX2_cross_45 : decode cX2_cross 45 = .ok (.getfield 25, 3) := by decide +kernel
theorem dX2_cross_48 : decode cX2_cross 48 = .ok (.idiv, 1) := by decide +kernel
theorem dX2_cross_49 : decode cX2_cross 49 = .ok (.iastore, 1) := by decide +kernel
theorem dX2_cross_50 : decode cX2_cross 50 = .ok (.aload_n 0, 1) := by decide +kernel
theorem dX2_cross_51 : decode cX2_cross 51 = .ok (.getfield 22, 3) := by decide +kernel
theorem dX2_cross_54 : decode cX2_cross 54 = .ok (.iconst 5, 1) := by decide +kernel
theorem dX2_cross_55 : decode cX2_cross 55 = .ok (.dup2, 1) := by decide +kernel
theorem dX2_cross_56 : decode cX2_cross 56 = .ok (.iaload, 1) := by decide +kernel
theorem dX2_cross_57 : decode cX2_cross 57 = .ok (.aload_n 0, 1) := by decide +kernel
theorem dX2_cross_58 : decode cX2_cross 58 = .ok (.getfield 25, 3) := by decide +kernel
theorem dX2_cross_61 : decode cX2_cross 61 = .ok (.idiv, 1) := by decide +kernel
theorem dX2_cross_62 : decode cX2_cross 62 = .ok (.iastore, 1) := by decide +kernel
theorem dX2_cross_63 : decode cX2_cross 63 = .ok (.return_, 1) := by decide +kernel
theorem dX2_layBasis_0 : decode cX2_layBasis 0 = .ok (.aload_n 0, 1) := by decide +kernel
theorem dX2_layBasis_1 : decode cX2_layBasis 1 = .ok (.getfield 16, 3) := by decide +kernel
theorem dX2_layBasis_4 : decode cX2_layBasis 4 = .ok (.aload_n 0, 1) := by decide +kernel
theorem dX2_layBasis_5 : decode cX2_layBasis 5 = .ok (.getfield 48, 3) := by decide +kernel
theorem dX2_layBasis_8 : decode cX2_layBasis 8 = .ok (.iconst 1, 1) := by decide +kernel
theorem dX2_layBasis_9 : decode cX2_layBasis 9 = .ok (.iadd, 1) := by decide +kernel
theorem dX2_layBasis_10 : decode cX2_layBasis 10 = .ok (.iconst 3, 1) := by decide +kernel
theorem dX2_layBasis_11 : decode cX2_layBasis 11 = .ok (.irem, 1) := by decide +kernel
theorem dX2_layBasis_12 : decode cX2_layBasis 12 = .ok (.iaload, 1) := by decide +kernel
theorem dX2_layBasis_13 : decode cX2_layBasis 13 = .ok (.aload_n 0, 1) := by decide +kernel
theorem dX2_layBasis_14 : decode cX2_layBasis 14 = .ok (.getfield 25, 3) := by decide +kernel
theorem dX2_layBasis_17 : decode cX2_layBasis 17 = .ok (.irem, 1) := by decide +kernel
theorem dX2_layBasis_18 : decode cX2_layBasis 18 = .ok (.ifCond .eq 14, 3) := by decide +kernel
theorem dX2_layBasis_21 : decode cX2_layBasis 21 = .ok (.aload_n 0, 1) := by decide +kernel
theorem dX2_layBasis_22 : decode cX2_layBasis 22 = .ok (.getfield 48, 3) := by decide +kernel
theorem dX2_layBasis_25 : decode cX2_layBasis 25 = .ok (.iconst 1, 1) := by decide +kernel
theorem dX2_layBasis_26 : decode cX2_layBasis 26 = .ok (.iadd, 1) := by decide +kernel
theorem dX2_layBasis_27 : decode cX2_layBasis 27 = .ok (.iconst 3, 1) := by decide +kernel
theorem dX2_layBasis_28 : decode cX2_layBasis 28 = .ok (.irem, 1) := by decide +kernel
theorem dX2_layBasis_29 : decode cX2_layBasis 29 = .ok (.goto 11, 3) := by decide +kernel
theorem dX2_layBasis_32 : decode cX2_layBasis 32 = .ok (.aload_n 0, 1) := by decide +kernel
theorem dX2_layBasis_33 : decode cX2_layBasis 33 = .ok (.getfield 48, 3) := by decide +kernel
theorem dX2_layBasis_36 : decode cX2_layBasis 36 = .ok (.iconst 2, 1) := by decide +kernel
theorem dX2_layBasis_37 : decode cX2_layBasis 37 = .ok (.iadd, 1) := by decide +kernel
theorem dX2_layBasis_38 : decode cX2_layBasis 38 = .ok (.iconst 3, 1) := by decide +kernel
theorem dX2_layBasis_39 : decode cX2_layBasis 39 = .ok (.irem, 1) := by decide +kernel
theorem dX2_layBasis_40 : decode cX2_layBasis 40 = .ok (.istore_n 1, 1) := by decide +kernel
theorem dX2_layBasis_41 : decode cX2_layBasis 41 = .ok (.iconst 3, 1) := by decide +kernel
theorem dX2_layBasis_42 : decode cX2_layBasis 42 = .ok (.aload_n 0, 1) := by decide +kernel
theorem dX2_layBasis_43 : decode cX2_layBasis 43 = .ok (.getfield 48, 3) := by decide +kernel
theorem dX2_layBasis_46 : decode cX2_layBasis 46 = .ok (.isub, 1) := by decide +kernel
theorem dX2_layBasis_47 : decode cX2_layBasis 47 = .ok (.iload_n 1, 1) := by decide +kernel
theorem dX2_layBasis_48 : decode cX2_layBasis 48 = .ok (.isub, 1) := by decide +kernel
theorem dX2_layBasis_49 : decode cX2_layBasis 49 = .ok (.istore_n 2, 1) := by decide +kernel
theorem dX2_layBasis_50 : decode cX2_layBasis 50 = .ok (.aload_n 0, 1) := by decide +kernel
theorem dX2_layBasis_51 : decode cX2_layBasis 51 = .ok (.aload_n 0, 1) := by decide +kernel
theorem dX2_layBasis_52 : decode cX2_layBasis 52 = .ok (.getfield 7, 3) := by decide +kernel
theorem dX2_layBasis_55 : decode cX2_layBasis 55 = .ok (.aload_n 0, 1) := by decide +kernel
theorem dX2_layBasis_56 : decode cX2_layBasis 56 = .ok (.getfield 16, 3) := by decide +kernel
theorem dX2_layBasis_59 : decode cX2_layBasis 59 = .ok (.iconst 0, 1) := by decide +kernel
theorem dX2_layBasis_60 : decode cX2_layBasis 60 = .ok (.aload_n 0, 1) := by decide +kernel
theorem dX2_layBasis_61 : decode cX2_layBasis 61 = .ok (.getfield 48, 3) := by decide +kernel
theorem dX2_layBasis_64 : decode cX2_layBasis 64 = .ok (.invokestatic 51, 3) := by decide +kernel
theorem dX2_layBasis_67 : decode cX2_layBasis 67 = .ok (.invokevirtual 69, 3) := by decide +kernel
theorem dX2_layBasis_70 : decode cX2_layBasis 70 = .ok (.istore_n 3, 1) := by decide +kernel
theorem dX2_layBasis_71 : decode cX2_layBasis 71 = .ok (.iload_n 3, 1) := by decide +kernel
theorem dX2_layBasis_72 : decode cX2_layBasis 72 = .ok (.aload_n 0, 1) := by decide +kernel
theorem dX2_layBasis_73 : decode cX2_layBasis 73 = .ok (.getfield 7, 3) := by decide +kernel
theorem dX2_layBasis_76 : decode cX2_layBasis 76 = .ok (.aload_n 0, 1) := by decide +kernel
theorem dX2_layBasis_77 : decode cX2_layBasis 77 = .ok (.getfield 16, 3) := by decide +kernel
theorem dX2_layBasis_80 : decode cX2_layBasis 80 = .ok (.iconst 0, 1) := by decide +kernel
theorem dX2_layBasis_81 : decode cX2_layBasis 81 = .ok (.iload_n 1, 1) := by decide +kernel
theorem dX2_layBasis_82 : decode cX2_layBasis 82 = .ok (.invokestatic 51, 3) := by decide +kernel
theorem dX2_layBasis_85 : decode cX2_layBasis 85 = .ok (.aload_n 0, 1) := by decide +kernel
theorem dX2_layBasis_86 : decode cX2_layBasis 86 = .ok (.getfield 25, 3) := by decide +kernel
theorem dX2_layBasis_89 : decode cX2_layBasis 89 = .ok (.invokestatic 73, 3) := by decide +kernel
theorem dX2_layBasis_92 : decode cX2_layBasis 92 = .ok (.imul, 1) := by decide +kernel
theorem dX2_layBasis_93 : decode cX2_layBasis 93 = .ok (.aload_n 0, 1) := by decide +kernel
theorem dX2_layBasis_94 : decode cX2_layBasis 94 = .ok (.getfield 25, 3) := by decide +kernel
theorem dX2_layBasis_97 : decode cX2_layBasis 97 = .ok (.invokestatic 73, 3) := by decide +kernel
theorem dX2_layBasis_100 : decode cX2_layBasis 100 = .ok (.istore 4, 2) := by decide +kernel
theorem dX2_layBasis_102 : decode cX2_layBasis 102 = .ok (.iload_n 3, 1) := by decide +kernel
theorem dX2_layBasis_103 : decode cX2_layBasis 103 = .ok (.aload_n 0, 1) := by decide +kernel
theorem dX2_layBasis_104 : decode cX2_layBasis 104 = .ok (.getfield 7, 3) := by decide +kernel
theorem dX2_layBasis_107 : decode cX2_layBasis 107 = .ok (.aload_n 0, 1) := by decide +kernel
theorem dX2_layBasis_108 : decode cX2_layBasis 108 = .ok (.getfield 16, 3) := by decide +kernel
theorem dX2_layBasis_111 : decode cX2_layBasis 111 = .ok (.iconst 0, 1) := by decide +kernel
theorem dX2_layBasis_112 : decode cX2_layBasis 112 = .ok (.iload_n 2, 1) := by decide +kernel
theorem dX2_layBasis_113 : decode cX2_layBasis 113 = .ok (.invokestatic 51, 3) := by decide +kernel
theorem dX2_layBasis_116 : decode cX2_layBasis 116 = .ok (.aload_n 0, 1) := by decide +kernel
theorem dX2_layBasis_117 : decode cX2_layBasis 117 = .ok (.getfield 25, 3) := by decide +kernel
theorem dX2_layBasis_120 : decode cX2_layBasis 120 = .ok (.invokestatic 73, 3) := by decide +kernel
theorem dX2_layBasis_123 : decode cX2_layBasis 123 = .ok (.imul, 1) := by decide +kernel
theorem dX2_layBasis_124 : decode cX2_layBasis 124 = .ok (.aload_n 0, 1) := by decide +kernel
theorem dX2_layBasis_125 : decode cX2_layBasis 125 = .ok (.getfield 25, 3) := by decide +kernel
theorem dX2_layBasis_128 : decode cX2_layBasis 128 = .ok (.invokestatic 73, 3) := by decide +kernel
theorem dX2_layBasis_131 : decode cX2_layBasis 131 = .ok (.istore 5, 2) := by decide +kernel
theorem dX2_layBasis_133 : decode cX2_layBasis 133 = .ok (.aload_n 0, 1) := by decide +kernel
theorem dX2_layBasis_134 : decode cX2_layBasis 134 = .ok (.getfield 16, 3) := by decide +kernel
theorem dX2_layBasis_137 : decode cX2_layBasis 137 = .ok (.aload_n 0, 1) := by decide +kernel
theorem dX2_layBasis_138 : decode cX2_layBasis 138 = .ok (.getfield 48, 3) := by decide +kernel
theorem dX2_layBasis_141 : decode cX2_layBasis 141 = .ok (.iaload, 1) := by decide +kernel
theorem dX2_layBasis_142 : decode cX2_layBasis 142 = .ok (.iload 4, 2) := by decide +kernel
theorem dX2_layBasis_144 : decode cX2_layBasis 144 = .ok (.aload_n 0, 1) := by decide +kernel
theorem dX2_layBasis_145 : decode cX2_layBasis 145 = .ok (.getfield 16, 3) := by decide +kernel
theorem dX2_layBasis_148 : decode cX2_layBasis 148 = .ok (.iload_n 1, 1) := by decide +kernel
theorem dX2_layBasis_149 : decode cX2_layBasis 149 = .ok (.iaload, 1) := by decide +kernel
theorem dX2_layBasis_150 : decode cX2_layBasis 150 = .ok (.imul, 1) := by decide +kernel
theorem dX2_layBasis_151 : decode cX2_layBasis 151 = .ok (.iadd, 1) := by decide +kernel
theorem dX2_layBasis_152 : decode cX2_layBasis 152 = .ok (.iload 5, 2) := by decide +kernel
theorem dX2_layBasis_154 : decode cX2_layBasis 154 = .ok (.aload_n 0, 1) := by decide +kernel
theorem dX2_layBasis_155 : decode cX2_layBasis 155 = .ok (.getfield 16, 3) := by decide +kernel
theorem dX2_layBasis_158 : decode cX2_layBasis 158 = .ok (.iload_n 2, 1) := by decide +kernel
theorem dX2_layBasis_159 : decode cX2_layBasis 159 = .ok (.iaload, 1) := by decide +kernel
theorem dX2_layBasis_160 : decode cX2_layBasis 160 = .ok (.imul, 1) := by decide +kernel
theorem dX2_layBasis_161 : decode cX2_layBasis 161 = .ok (.iadd, 1) := by decide +kernel
theorem dX2_layBasis_162 : decode cX2_layBasis 162 = .ok (.aload_n 0, 1) := by decide +kernel
theorem dX2_layBasis_163 : decode cX2_layBasis 163 = .ok (.getfield 25, 3) := by decide +kernel
theorem dX2_layBasis_166 : decode cX2_layBasis 166 = .ok (.idiv, 1) := by decide +kernel
theorem dX2_layBasis_167 : decode cX2_layBasis 167 = .ok (.istore 6, 2) := by decide +kernel
theorem dX2_layBasis_169 : decode cX2_layBasis 169 = .ok (.aload_n 0, 1) := by decide +kernel
theorem dX2_layBasis_170 : decode cX2_layBasis 170 = .ok (.aload_n 0, 1) := by decide +kernel
theorem dX2_layBasis_171 : decode cX2_layBasis 171 = .ok (.getfield 16, 3) := by decide +kernel
theorem dX2_layBasis_174 : decode cX2_layBasis 174 = .ok (.iload_n 1, 1) := by decide +kernel
theorem dX2_layBasis_175 : decode cX2_layBasis 175 = .ok (.iaload, 1) := by decide +kernel
theorem dX2_layBasis_176 : decode cX2_layBasis 176 = .ok (.invokevirtual 69, 3) := by decide +kernel
theorem dX2_layBasis_179 : decode cX2_layBasis 179 = .ok (.istore 7, 2) := by decide +kernel
theorem dX2_layBasis_181 : decode cX2_layBasis 181 = .ok (.iload 7, 2) := by decide +kernel
theorem dX2_layBasis_183 : decode cX2_layBasis 183 = .ok (.aload_n 0, 1) := by decide +kernel
theorem dX2_layBasis_184 : decode cX2_layBasis 184 = .ok (.getfield 16, 3) := by decide +kernel
theorem dX2_layBasis_187 : decode cX2_layBasis 187 = .ok (.iload_n 2, 1) := by decide +kernel
theorem dX2_layBasis_188 : decode cX2_layBasis 188 = .ok (.iaload, 1) := by decide +kernel
theorem dX2_layBasis_189 : decode cX2_layBasis 189 = .ok (.imul, 1) := by decide +kernel
theorem dX2_layBasis_190 : decode cX2_layBasis 190 = .ok (.aload_n 0, 1) := by decide +kernel
theorem dX2_layBasis_191 : decode cX2_layBasis 191 = .ok (.getfield 25, 3) := by decide +kernel
theorem dX2_layBasis_194 : decode cX2_layBasis 194 = .ok (.invokestatic 73, 3) := by decide +kernel
theorem dX2_layBasis_197 : decode cX2_layBasis 197 = .ok (.istore 8, 2) := by decide +kernel
theorem dX2_layBasis_199 : decode cX2_layBasis 199 = .ok (.iload 7, 2) := by decide +kernel
theorem dX2_layBasis_201 : decode cX2_layBasis 201 = .ok (.iload 6, 2) := by decide +kernel
theorem dX2_layBasis_203 : decode cX2_layBasis 203 = .ok (.imul, 1) := by decide +kernel
theorem dX2_layBasis_204 : decode cX2_layBasis 204 = .ok (.aload_n 0, 1) := by decide +kernel
theorem dX2_layBasis_205 : decode cX2_layBasis 205 = .ok (.getfield 25, 3) := by decide +kernel
theorem dX2_layBasis_208 : decode cX2_layBasis 208 = .ok (.invokestatic 73, 3) := by decide +kernel
theorem dX2_layBasis_211 : decode cX2_layBasis 211 = .ok (.istore 9, 2) := by decide +kernel
theorem dX2_layBasis_213 : decode cX2_layBasis 213 = .ok (.aload_n 0, 1) := by decide +kernel
theorem dX2_layBasis_214 : decode cX2_layBasis 214 = .ok (.getfield 19, 3) := by decide +kernel
theorem dX2_layBasis_217 : decode cX2_layBasis 217 = .ok (.iload_n 1, 1) := by decide +kernel
theorem dX2_layBasis_218 : decode cX2_layBasis 218 = .ok (.iconst 1, 1) := by decide +kernel
theorem dX2_layBasis_219 : decode cX2_layBasis 219 = .ok (.iastore, 1) := by decide +kernel
theorem dX2_layBasis_220 : decode cX2_layBasis 220 = .ok (.aload_n 0, 1) := by decide +kernel
theorem dX2_layBasis_221 : decode cX2_layBasis 221 = .ok (.getfield 19, 3) := by decide +kernel
theorem dX2_layBasis_224 : decode cX2_layBasis 224 = .ok (.iload_n 2, 1) := by decide +kernel
theorem dX2_layBasis_225 : decode cX2_layBasis 225 = .ok (.iload 8, 2) := by decide +kernel
theorem dX2_layBasis_227 : decode cX2_layBasis 227 = .ok (.iastore, 1) := by decide +kernel
theorem dX2_layBasis_228 : decode cX2_layBasis 228 = .ok (.aload_n 0, 1) := by decide +kernel
theorem dX2_layBasis_229 : decode cX2_layBasis 229 = .ok (.getfield 19, 3) := by decide +kernel
theorem dX2_layBasis_232 : decode cX2_layBasis 232 = .ok (.aload_n 0, 1) := by decide +kernel
theorem dX2_layBasis_233 : decode cX2_layBasis 233 = .ok (.getfield 48, 3) := by decide +kernel
theorem dX2_layBasis_236 : decode cX2_layBasis 236 = .ok (.aload_n 0, 1) := by decide +kernel
theorem dX2_layBasis_237 : decode cX2_layBasis 237 = .ok (.getfield 25, 3) := by decide +kernel
theorem dX2_layBasis_240 : decode cX2_layBasis 240 = .ok (.iload 9, 2) := by decide +kernel
theorem dX2_layBasis_242 : decode cX2_layBasis 242 = .ok (.imul, 1) := by decide +kernel
theorem dX2_layBasis_243 : decode cX2_layBasis 243 = .ok (.iload 4, 2) := by decide +kernel
theorem dX2_layBasis_245 : decode cX2_layBasis 245 = .ok (.isub, 1) := by decide +kernel
theorem dX2_layBasis_246 : decode cX2_layBasis 246 = .ok (.iload 8, 2) := by decide +kernel
theorem dX2_layBasis_248 : decode cX2_layBasis 248 = .ok (.iload 5, 2) := by decide +kernel
theorem dX2_layBasis_250 : decode cX2_layBasis 250 = .ok (.imul, 1) := by decide +kernel
theorem dX2_layBasis_251 : decode cX2_layBasis 251 = .ok (.isub, 1) := by decide +kernel
theorem dX2_layBasis_252 : decode cX2_layBasis 252 = .ok (.iastore, 1) := by decide +kernel
theorem dX2_layBasis_253 : decode cX2_layBasis 253 = .ok (.aload_n 0, 1) := by decide +kernel
theorem dX2_layBasis_254 : decode cX2_layBasis 254 = .ok (.getfield 19, 3) := by decide +kernel
theorem dX2_layBasis_257 : decode cX2_layBasis 257 = .ok (.iconst 3, 1) := by decide +kernel
theorem dX2_layBasis_258 : decode cX2_layBasis 258 = .ok (.iload_n 1, 1) := by decide +kernel
theorem dX2_layBasis_259 : decode cX2_layBasis 259 = .ok (.iadd, 1) := by decide +kernel
theorem dX2_layBasis_260 : decode cX2_layBasis 260 = .ok (.iconst 0, 1) := by decide +kernel
theorem dX2_layBasis_261 : decode cX2_layBasis 261 = .ok (.iastore, 1) := by decide +kernel
theorem dX2_layBasis_262 : decode cX2_layBasis 262 = .ok (.aload_n 0, 1) := by decide +kernel
theorem dX2_layBasis_263 : decode cX2_layBasis 263 = .ok (.getfield 19, 3) := by decide +kernel
theorem dX2_layBasis_266 : decode cX2_layBasis 266 = .ok (.iconst 3, 1) := by decide +kernel
theorem dX2_layBasis_267 : decode cX2_layBasis 267 = .ok (.iload_n 2, 1) := by decide +kernel
theorem dX2_layBasis_268 : decode cX2_layBasis 268 = .ok (.iadd, 1) := by decide +kernel
theorem dX2_layBasis_269 : decode cX2_layBasis 269 = .ok (.iconst 1, 1) := by decide +kernel
theorem dX2_layBasis_270 : decode cX2_layBasis 270 = .ok (.iastore, 1) := by decide +kernel
theorem dX2_layBasis_271 : decode cX2_layBasis 271 = .ok (.aload_n 0, 1) := by decide +kernel
theorem dX2_layBasis_272 : decode cX2_layBasis 272 = .ok (.getfield 19, 3) := by decide +kernel
theorem dX2_layBasis_275 : decode cX2_layBasis 275 = .ok (.iconst 3, 1) := by decide +kernel
theorem dX2_layBasis_276 : decode cX2_layBasis 276 = .ok (.aload_n 0, 1) := by decide +kernel
theorem dX2_layBasis_277 : decode cX2_layBasis 277 = .ok (.getfield 48, 3) := by decide +kernel
theorem dX2_layBasis_280 : decode cX2_layBasis 280 = .ok (.iadd, 1) := by decide +kernel
theorem dX2_layBasis_281 : decode cX2_layBasis 281 = .ok (.iload 5, 2) := by decide +kernel
theorem dX2_layBasis_283 : decode cX2_layBasis 283 = .ok (.ineg, 1) := by decide +kernel
theorem dX2_layBasis_284 : decode cX2_layBasis 284 = .ok (.iastore, 1) := by decide +kernel
theorem dX2_layBasis_285 : decode cX2_layBasis 285 = .ok (.aload_n 0, 1) := by decide +kernel
theorem dX2_layBasis_286 : decode cX2_layBasis 286 = .ok (.getfield 19, 3) := by decide +kernel
theorem dX2_layBasis_289 : decode cX2_layBasis 289 = .ok (.bipush 6, 2) := by decide +kernel
theorem dX2_layBasis_291 : decode cX2_layBasis 291 = .ok (.iload_n 1, 1) := by decide +kernel
theorem dX2_layBasis_292 : decode cX2_layBasis 292 = .ok (.iadd, 1) := by decide +kernel
theorem dX2_layBasis_293 : decode cX2_layBasis 293 = .ok (.iconst 0, 1) := by decide +kernel
theorem dX2_layBasis_294 : decode cX2_layBasis 294 = .ok (.iastore, 1) := by decide +kernel
theorem dX2_layBasis_295 : decode cX2_layBasis 295 = .ok (.aload_n 0, 1) := by decide +kernel
theorem dX2_layBasis_296 : decode cX2_layBasis 296 = .ok (.getfield 19, 3) := by decide +kernel
theorem dX2_layBasis_299 : decode cX2_layBasis 299 = .ok (.bipush 6, 2) := by decide +kernel
theorem dX2_layBasis_301 : decode cX2_layBasis 301 = .ok (.iload_n 2, 1) := by decide +kernel
theorem dX2_layBasis_302 : decode cX2_layBasis 302 = .ok (.iadd, 1) := by decide +kernel
theorem dX2_layBasis_303 : decode cX2_layBasis 303 = .ok (.iconst 0, 1) := by decide +kernel
theorem dX2_layBasis_304 : decode cX2_layBasis 304 = .ok (.iastore, 1) := by decide +kernel
theorem dX2_layBasis_305 : decode cX2_layBasis 305 = .ok (.aload_n 0, 1) := by decide +kernel
theorem dX2_layBasis_306 : decode cX2_layBasis 306 = .ok (.getfield 19, 3) := by decide +kernel
theorem dX2_layBasis_309 : decode cX2_layBasis 309 = .ok (.bipush 6, 2) := by decide +kernel
theorem dX2_layBasis_311 : decode cX2_layBasis 311 = .ok (.aload_n 0, 1) := by decide +kernel
theorem dX2_layBasis_312 : decode cX2_layBasis 312 = .ok (.getfield 48, 3) := by decide +kernel
theorem dX2_layBasis_315 : decode cX2_layBasis 315 = .ok (.iadd, 1) := by decide +kernel
theorem dX2_layBasis_316 : decode cX2_layBasis 316 = .ok (.aload_n 0, 1) := by decide +kernel
theorem dX2_layBasis_317 : decode cX2_layBasis 317 = .ok (.getfield 25, 3) := by decide +kernel
theorem dX2_layBasis_320 : decode cX2_layBasis 320 = .ok (.iastore, 1) := by decide +kernel
theorem dX2_layBasis_321 : decode cX2_layBasis 321 = .ok (.return_, 1) := by decide +kernel
theorem dX2_inverseOf_0 : decode cX2_inverseOf 0 = .ok (.iload_n 1, 1) := by decide +kernel
theorem dX2_inverseOf_1 : decode cX2_inverseOf 1 = .ok (.aload_n 0, 1) := by decide +kernel
theorem dX2_inverseOf_2 : decode cX2_inverseOf 2 = .ok (.getfield 25, 3) := by decide +kernel
theorem dX2_inverseOf_5 : decode cX2_inverseOf 5 = .ok (.invokestatic 73, 3) := by decide +kernel
theorem dX2_inverseOf_8 : decode cX2_inverseOf 8 = .ok (.istore_n 2, 1) := by decide +kernel
theorem dX2_inverseOf_9 : decode cX2_inverseOf 9 = .ok (.iconst 1, 1) := by decide +kernel
theorem dX2_inverseOf_10 : decode cX2_inverseOf 10 = .ok (.istore_n 3, 1) := by decide +kernel
theorem dX2_inverseOf_11 : decode cX2_inverseOf 11 = .ok (.iconst 1, 1) := by decide +kernel
theorem dX2_inverseOf_12 : decode cX2_inverseOf 12 = .ok (.istore 4, 2) := by decide +kernel
theorem dX2_inverseOf_14 : decode cX2_inverseOf 14 = .ok (.iload 4, 2) := by decide +kernel
theorem dX2_inverseOf_16 : decode cX2_inverseOf 16 = .ok (.aload_n 0, 1) := by decide +kernel
theorem dX2_inverseOf_17 : decode cX2_inverseOf 17 = .ok (.getfield 25, 3) := by decide +kernel
theorem dX2_inverseOf_20 : decode cX2_inverseOf 20 = .ok (.if_icmp .ge 25, 3) := by decide +kernel
theorem dX2_inverseOf_23 : decode cX2_inverseOf 23 = .ok (.iload 4, 2) := by decide +kernel
theorem dX2_inverseOf_25 : decode cX2_inverseOf 25 = .ok (.iload_n 2, 1) := by decide +kernel
theorem dX2_inverseOf_26 : decode cX2_inverseOf 26 = .ok (.imul, 1) := by decide +kernel
theorem dX2_inverseOf_27 : decode cX2_inverseOf 27 = .ok (.aload_n 0, 1) := by decide +kernel
theorem dX2_inverseOf_28 : decode cX2_inverseOf 28 = .ok (.getfield 25, 3) := by decide +kernel
theorem dX2_inverseOf_31 : decode cX2_inverseOf 31 = .ok (.irem, 1) := by decide +kernel
theorem dX2_inverseOf_32 : decode cX2_inverseOf 32 = .ok (.iconst 1, 1) := by decide +kernel
theorem dX2_inverseOf_33 : decode cX2_inverseOf 33 = .ok (.if_icmp .ne 6, 3) := by decide +kernel
theorem dX2_inverseOf_36 : decode cX2_inverseOf 36 = .ok (.iload 4, 2) := by decide +kernel
theorem dX2_inverseOf_38 : decode cX2_inverseOf 38 = .ok (.istore_n 3, 1) := by decide +kernel
theorem dX2_inverseOf_39 : decode cX2_inverseOf 39 = .ok (.iinc 4 1, 3) := by decide +kernel
theorem dX2_inverseOf_42 : decode cX2_inverseOf 42 = .ok (.goto (-28), 3) := by decide +kernel
theorem dX2_inverseOf_45 : decode cX2_inverseOf 45 = .ok (.iload_n 3, 1) := by decide +kernel
theorem dX2_inverseOf_46 : decode cX2_inverseOf 46 = .ok (.ireturn, 1) := by decide +kernel
theorem dX3_init_0 : decode cX3_init 0 = .ok (.aload_n 0, 1) := by decide +kernel
theorem dX3_init_1 : decode cX3_init 1 = .ok (.invokespecial 1, 3) := by decide +kernel
theorem dX3_init_4 : decode cX3_init 4 = .ok (.aload_n 0, 1) := by decide +kernel
theorem dX3_init_5 : decode cX3_init 5 = .ok (.bipush 6, 2) := by decide +kernel
theorem dX3_init_7 : decode cX3_init 7 = .ok (.newarray .int, 2) := by decide +kernel
theorem dX3_init_9 : decode cX3_init 9 = .ok (.putfield 7, 3) := by decide +kernel
theorem dX3_init_12 : decode cX3_init 12 = .ok (.aload_n 0, 1) := by decide +kernel
theorem dX3_init_13 : decode cX3_init 13 = .ok (.bipush 9, 2) := by decide +kernel
theorem dX3_init_15 : decode cX3_init 15 = .ok (.newarray .int, 2) := by decide +kernel
theorem dX3_init_17 : decode cX3_init 17 = .ok (.putfield 13, 3) := by decide +kernel
theorem dX3_init_20 : decode cX3_init 20 = .ok (.aload_n 0, 1) := by decide +kernel
theorem dX3_init_21 : decode cX3_init 21 = .ok (.bipush 81, 2) := by decide +kernel
theorem dX3_init_23 : decode cX3_init 23 = .ok (.newarray .int, 2) := by decide +kernel
theorem dX3_init_25 : decode cX3_init 25 = .ok (.putfield 16, 3) := by decide +kernel
theorem dX3_init_28 : decode cX3_init 28 = .ok (.aload_n 0, 1) := by decide +kernel
theorem dX3_init_29 : decode cX3_init 29 = .ok (.bipush 27, 2) := by decide +kernel
theorem dX3_init_31 : decode cX3_init 31 = .ok (.newarray .int, 2) := by decide +kernel
theorem dX3_init_33 : decode cX3_init 33 = .ok (.putfield 19, 3) := by decide +kernel
theorem dX3_init_36 : decode cX3_init 36 = .ok (.aload_n 0, 1) := by decide +kernel
theorem dX3_init_37 : decode cX3_init 37 = .ok (.bipush 81, 2) := by decide +kernel
theorem dX3_init_39 : decode cX3_init 39 = .ok (.newarray .int, 2) := by decide +kernel
theorem dX3_init_41 : decode cX3_init 41 = .ok (.putfield 22, 3) := by decide +kernel
theorem dX3_init_44 : decode cX3_init 44 = .ok (.aload_n 0, 1) := by decide +kernel
theorem dX3_init_45 : decode cX3_init 45 = .ok (.bipush 6, 2) := by decide +kernel
theorem dX3_init_47 : decode cX3_init 47 = .ok (.newarray .int, 2) := by decide +kernel
theorem dX3_init_49 : decode cX3_init 49 = .ok (.putfield 25, 3) := by decide +kernel
theorem dX3_init_52 : decode cX3_init 52 = .ok (.aload_n 0, 1) := by decide +kernel
theorem dX3_init_53 : decode cX3_init 53 = .ok (.bipush 9, 2) := by decide +kernel
theorem dX3_init_55 : decode cX3_init 55 = .ok (.newarray .int, 2) := by decide +kernel
theorem dX3_init_57 : decode cX3_init 57 = .ok (.putfield 28, 3) := by decide +kernel
theorem dX3_init_60 : decode cX3_init 60 = .ok (.iconst 0, 1) := by decide +kernel
theorem dX3_init_61 : decode cX3_init 61 = .ok (.istore_n 1, 1) := by decide +kernel
theorem dX3_init_62 : decode cX3_init 62 = .ok (.iload_n 1, 1) := by decide +kernel
theorem dX3_init_63 : decode cX3_init 63 = .ok (.bipush 27, 2) := by decide +kernel
theorem dX3_init_65 : decode cX3_init 65 = .ok (.if_icmp .ge 55, 3) := by decide +kernel
theorem dX3_init_68 : decode cX3_init 68 = .ok (.aload_n 0, 1) := by decide +kernel
theorem dX3_init_69 : decode cX3_init 69 = .ok (.getfield 16, 3) := by decide +kernel
theorem dX3_init_72 : decode cX3_init 72 = .ok (.iconst 3, 1) := by decide +kernel
theorem dX3_init_73 : decode cX3_init 73 = .ok (.iload_n 1, 1) := by decide +kernel
theorem dX3_init_74 : decode cX3_init 74 = .ok (.imul, 1) := by decide +kernel
theorem dX3_init_75 : decode cX3_init 75 = .ok (.iload_n 1, 1) := by decide +kernel
theorem dX3_init_76 : decode cX3_init 76 = .ok (.bipush 9, 2) := by decide +kernel
theorem dX3_init_78 : decode cX3_init 78 = .ok (.idiv, 1) := by decide +kernel
theorem dX3_init_79 : decode cX3_init 79 = .ok (.iconst 1, 1) := by decide +kernel
theorem dX3_init_80 : decode cX3_init 80 = .ok (.isub, 1) := by decide +kernel
theorem dX3_init_81 : decode cX3_init 81 = .ok (.iastore, 1) := by decide +kernel
theorem dX3_init_82 : decode cX3_init 82 = .ok (.aload_n 0, 1) := by decide +kernel
theorem dX3_init_83 : decode cX3_init 83 = .ok (.getfield 16, 3) := by decide +kernel
theorem dX3_init_86 : decode cX3_init 86 = .ok (.iconst 3, 1) := by decide +kernel
theorem dX3_init_87 : decode cX3_init 87 = .ok (.iload_n 1, 1) := by decide +kernel
theorem dX3_init_88 : decode cX3_init 88 = .ok (.imul, 1) := by decide +kernel
theorem dX3_init_89 : decode cX3_init 89 = .ok (.iconst 1, 1) := by decide +kernel
theorem dX3_init_90 : decode cX3_init 90 = .ok (.iadd, 1) := by decide +kernel
theorem dX3_init_91 : decode cX3_init 91 = .ok (.iload_n 1, 1) := by decide +kernel
theorem dX3_init_92 : decode cX3_init 92 = .ok (.iconst 3, 1) := by decide +kernel
theorem dX3_init_93 : decode cX3_init 93 = .ok (.idiv, 1) := by decide +kernel
theorem dX3_init_94 : decode cX3_init 94 = .ok (.iconst 3, 1) := by decide +kernel
theorem dX3_init_95 : decode cX3_init 95 = .ok (.irem, 1) := by decide +kernel
theorem dX3_init_96 : decode cX3_init 96 = .ok (.iconst 1, 1) := by decide +kernel
theorem dX3_init_97 : decode cX3_init 97 = .ok (.isub, 1) := by decide +kernel
theorem dX3_init_98 : decode cX3_init 98 = .ok (.iastore, 1) := by decide +kernel
theorem dX3_init_99 : decode cX3_init 99 = .ok (.aload_n 0, 1) := by decide +kernel
theorem dX3_init_100 : decode cX3_init 100 = .ok (.getfield 16, 3) := by decide +kernel
theorem dX3_init_103 : decode cX3_init 103 = .ok (.iconst 3, 1) := by decide +kernel
theorem dX3_init_104 : decode cX3_init 104 = .ok (.iload_n 1, 1) := by decide +kernel
theorem dX3_init_105 : decode cX3_init 105 = .ok (.imul, 1) := by decide +kernel
theorem dX3_init_106 : decode cX3_init 106 = .ok (.iconst 2, 1) := by decide +kernel
theorem dX3_init_107 : decode cX3_init 107 = .ok (.iadd, 1) := by decide +kernel
theorem dX3_init_108 : decode cX3_init 108 = .ok (.iload_n 1, 1) := by decide +kernel
theorem dX3_init_109 : decode cX3_init 109 = .ok (.iconst 3, 1) := by decide +kernel
theorem dX3_init_110 : decode cX3_init 110 = .ok (.irem, 1) := by decide +kernel
theorem dX3_init_111 : decode cX3_init 111 = .ok (.iconst 1, 1) := by decide +kernel
theorem dX3_init_112 : decode cX3_init 112 = .ok (.isub, 1) := by decide +kernel
theorem dX3_init_113 : decode cX3_init 113 = .ok (.iastore, 1) := by decide +kernel
theorem dX3_init_114 : decode cX3_init 114 = .ok (.iinc 1 1, 3) := by decide +kernel
theorem dX3_init_117 : decode cX3_init 117 = .ok (.goto (-55), 3) := by decide +kernel
theorem dX3_init_120 : decode cX3_init 120 = .ok (.return_, 1) := by decide +kernel
theorem dX3_settle_0 : decode cX3_settle 0 = .ok (.aload_n 1, 1) := by decide +kernel
theorem dX3_settle_1 : decode cX3_settle 1 = .ok (.iconst 0, 1) := by decide +kernel
theorem dX3_settle_2 : decode cX3_settle 2 = .ok (.aload_n 0, 1) := by decide +kernel
theorem dX3_settle_3 : decode cX3_settle 3 = .ok (.getfield 7, 3) := by decide +kernel
theorem dX3_settle_6 : decode cX3_settle 6 = .ok (.iconst 0, 1) := by decide +kernel
theorem dX3_settle_7 : decode cX3_settle 7 = .ok (.bipush 6, 2) := by decide +kernel
theorem dX3_settle_9 : decode cX3_settle 9 = .ok (.invokestatic 31, 3) := by decide +kernel
theorem dX3_settle_12 : decode cX3_settle 12 = .ok (.iconst 0, 1) := by decide +kernel
theorem dX3_settle_13 : decode cX3_settle 13 = .ok (.istore_n 2, 1) := by decide +kernel
theorem dX3_settle_14 : decode cX3_settle 14 = .ok (.iload_n 2, 1) := by decide +kernel
theorem dX3_settle_15 : decode cX3_settle 15 = .ok (.bipush 9, 2) := by decide +kernel
theorem dX3_settle_17 : decode cX3_settle 17 = .ok (.if_icmp .ge 26, 3) := by decide +kernel
theorem dX3_settle_20 : decode cX3_settle 20 = .ok (.aload_n 0, 1) := by decide +kernel
theorem dX3_settle_21 : decode cX3_settle 21 = .ok (.getfield 13, 3) := by decide +kernel
theorem dX3_settle_24 : decode cX3_settle 24 = .ok (.iload_n 2, 1) := by decide +kernel
theorem dX3_settle_25 : decode cX3_settle 25 = .ok (.iload_n 2, 1) := by decide +kernel
theorem dX3_settle_26 : decode cX3_settle 26 = .ok (.iconst 4, 1) := by decide +kernel
theorem dX3_settle_27 : decode cX3_settle 27 = .ok (.irem, 1) := by decide +kernel
theorem dX3_settle_28 : decode cX3_settle 28 = .ok (.ifCond .ne 7, 3) := by decide +kernel
theorem dX3_settle_31 : decode cX3_settle 31 = .ok (.iconst 1, 1) := by decide +kernel
theorem dX3_settle_32 : decode cX3_settle 32 = .ok (.goto 4, 3) := by decide +kernel
theorem dX3_settle_35 : decode cX3_settle 35 = .ok (.iconst 0, 1) := by decide +kernel
theorem dX3_settle_36 : decode cX3_settle 36 = .ok (.iastore, 1) := by decide +kernel
theorem dX3_settle_37 : decode cX3_settle 37 = .ok (.iinc 2 1, 3) := by decide +kernel
theorem dX3_settle_40 : decode cX3_settle 40 = .ok (.goto (-26), 3) := by decide +kernel
theorem dX3_settle_43 : decode cX3_settle 43 = .ok (.iconst 1, 1) := by decide +kernel
theorem dX3_settle_44 : decode cX3_settle 44 = .ok (.istore_n 2, 1) := by decide +kernel
theorem dX3_settle_45 : decode cX3_settle 45 = .ok (.iconst 0, 1) := by decide +kernel
theorem dX3_settle_46 : decode cX3_settle 46 = .ok (.istore_n 3, 1) := by decide +kernel
theorem dX3_settle_47 : decode cX3_settle 47 = .ok (.iload_n 2, 1) := by decide +kernel
theorem dX3_settle_48 : decode cX3_settle 48 = .ok (.ifCond .eq 35, 3) := by decide +kernel
theorem dX3_settle_51 : decode cX3_settle 51 = .ok (.iload_n 3, 1) := by decide +kernel
theorem dX3_settle_52 : decode cX3_settle 52 = .ok (.ldc 37, 2) := by decide +kernel
theorem dX3_settle_54 : decode cX3_settle 54 = .ok (.if_icmp .ge 29, 3) := by decide +kernel
theorem dX3_settle_57 : decode cX3_settle 57 = .ok (.aload_n 0, 1) := by decide +kernel
theorem dX3_settle_58 : decode cX3_settle 58 = .ok (.invokevirtual 38, 3) := by decide +kernel
theorem dX3_settle_61 : decode cX3_settle 61 = .ok (.ifCond .ne 10, 3) := by decide +kernel
theorem dX3_settle_64 : decode cX3_settle 64 = .ok (.aload_n 0, 1) := by decide +kernel
theorem dX3_settle_65 : decode cX3_settle 65 = .ok (.invokevirtual 42, 3) := by decide +kernel
theorem dX3_settle_68 : decode cX3_settle 68 = .ok (.ifCond .eq 7, 3) := by decide +kernel
theorem dX3_settle_71 : decode cX3_settle 71 = .ok (.iconst 1, 1) := by decide +kernel
theorem dX3_settle_72 : decode cX3_settle 72 = .ok (.goto 4, 3) := by decide +kernel
theorem dX3_settle_75 : decode cX3_settle 75 = .ok (.iconst 0, 1) := by decide +kernel
theorem dX3_settle_76 : decode cX3_settle 76 = .ok (.istore_n 2, 1) := by decide +kernel
theorem dX3_settle_77 : decode cX3_settle 77 = .ok (.iinc 3 1, 3) := by decide +kernel
theorem dX3_settle_80 : decode cX3_settle 80 = .ok (.goto (-33), 3) := by decide +kernel
theorem dX3_settle_83 : decode cX3_settle 83 = .ok (.aload_n 0, 1) := by decide +kernel
theorem dX3_settle_84 : decode cX3_settle 84 = .ok (.invokevirtual 45, 3) := by decide +kernel
theorem dX3_settle_87 : decode cX3_settle 87 = .ok (.aload_n 0, 1) := by decide +kernel
theorem dX3_settle_88 : decode cX3_settle 88 = .ok (.invokevirtual 48, 3) := by decide +kernel
theorem dX3_settle_91 : decode cX3_settle 91 = .ok (.return_, 1) := by decide +kernel
theorem dX3_shortenByOne_0 : decode cX3_shortenByOne 0 = .ok (.iconst 0, 1) := by decide +kernel
theorem dX3_shortenByOne_1 : decode cX3_shortenByOne 1 = .ok (.istore_n 1, 1) := by decide +kernel
theorem dX3_shortenByOne_2 : decode cX3_shortenByOne 2 = .ok (.iload_n 1, 1) := by decide +kernel
theorem dX3_shortenByOne_3 : decode cX3_shortenByOne 3 = .ok (.iconst 3, 1) := by decide +kernel
theorem dX3_shortenByOne_4 : decode cX3_shortenByOne 4 = .ok (.if_icmp .ge 96, 3) := by decide +kernel
theorem dX3_shortenByOne_7 : decode cX3_shortenByOne 7 = .ok (.iconst 0, 1) := by decide +kernel
theorem dX3_shortenByOne_8 : decode cX3_shortenByOne 8 = .ok (.istore_n 2, 1) := by decide +kernel
theorem dX3_shortenByOne_9 : decode cX3_shortenByOne 9 = .ok (.iload_n 2, 1) := by decide +kernel
theorem dX3_shortenByOne_10 : decode cX3_shortenByOne 10 = .ok (.iconst 3, 1) := by decide +kernel
theorem dX3_shortenByOne_11 : decode cX3_shortenByOne 11 = .ok (.if_icmp .ge 83, 3) := by decide +kernel
theorem dX3_shortenByOne_14 : decode cX3_shortenByOne 14 = .ok (.iload_n 1, 1) := by decide +kernel
theorem dX3_shortenByOne_15 : decode cX3_shortenByOne 15 = .ok (.iload_n 2, 1) := by decide +kernel
theorem dX3_shortenByOne_16 : decode cX3_shortenByOne 16 = .ok (.if_icmp .eq 72, 3) := by decide +kernel
theorem dX3_shortenByOne_19 : decode cX3_shortenByOne 19 = .ok (.aload_n 0, 1) := by decide +kernel
theorem dX3_shortenByOne_20 : decode cX3_shortenByOne 20 = .ok (.getfield 7, 3) := by decide +kernel
theorem dX3_shortenByOne_23 : decode cX3_shortenByOne 23 = .ok (.iload_n 2, 1) := by decide +kernel
theorem dX3_shortenByOne_24 : decode cX3_shortenByOne 24 = .ok (.iaload, 1) := by decide +kernel
theorem dX3_shortenByOne_25 : decode cX3_shortenByOne 25 = .ok (.ifCond .le 63, 3) := by decide +kernel
theorem dX3_shortenByOne_28 : decode cX3_shortenByOne 28 = .ok (.aload_n 0, 1) := by decide +kernel
theorem dX3_shortenByOne_29 : decode cX3_shortenByOne 29 = .ok (.getfield 7, 3) := by decide +kernel
theorem dX3_shortenByOne_32 : decode cX3_shortenByOne 32 = .ok (.bipush 6, 2) := by decide +kernel
theorem dX3_shortenByOne_34 : decode cX3_shortenByOne 34 = .ok (.iload_n 1, 1) := by decide +kernel
theorem dX3_shortenByOne_35 : decode cX3_shortenByOne 35 = .ok (.isub, 1) := by decide +kernel
theorem dX3_shortenByOne_36 : decode cX3_shortenByOne 36 = .ok (.iload_n 2, 1) := by decide +kernel
theorem dX3_shortenByOne_37 : decode cX3_shortenByOne 37 = .ok (.isub, 1) := by decide +kernel
theorem dX3_shortenByOne_38 : decode cX3_shortenByOne 38 = .ok (.iaload, 1) := by decide +kernel
theorem dX3_shortenByOne_39 : decode cX3_shortenByOne 39 = .ok (.istore_n 3, 1) := by decide +kernel
theorem dX3_shortenByOne_40 : decode cX3_shortenByOne 40 = .ok (.aload_n 0, 1) := by decide +kernel
theorem dX3_shortenByOne_41 : decode cX3_shortenByOne 41 = .ok (.getfield 7, 3) := by decide +kernel
theorem dX3_shortenByOne_44 : decode cX3_shortenByOne 44 = .ok (.iload_n 2, 1) := by decide +kernel
theorem dX3_shortenByOne_45 : decode cX3_shortenByOne 45 = .ok (.iaload, 1) := by decide +kernel
theorem dX3_shortenByOne_46 : decode cX3_shortenByOne 46 = .ok (.iload_n 3, 1) := by decide +kernel
theorem dX3_shortenByOne_47 : decode cX3_shortenByOne 47 = .ok (.isub, 1) := by decide +kernel
theorem dX3_shortenByOne_48 : decode cX3_shortenByOne 48 = .ok (.iconst 2, 1) := by decide +kernel
theorem dX3_shortenByOne_49 : decode cX3_shortenByOne 49 = .ok (.aload_n 0, 1) := by decide +kernel
theorem dX3_shortenByOne_50 : decode cX3_shortenByOne 50 = .ok (.getfield 7, 3) := by decide +kernel
theorem dX3_shortenByOne_53 : decode cX3_shortenByOne 53 = .ok (.iload_n 2, 1) := by decide +kernel
theorem dX3_shortenByOne_54 : decode cX3_shortenByOne 54 = .ok (.iaload, 1) := by decide +kernel
theorem dX3_shortenByOne_55 : decode cX3_shortenByOne 55 = .ok (.imul, 1) := by decide +kernel
theorem dX3_shortenByOne_56 : decode cX3_shortenByOne 56 = .ok (.invokestatic 51, 3) := by decide +kernel
theorem dX3_shortenByOne_59 : decode cX3_shortenByOne 59 = .ok (.istore 4, 2) := by decide +kernel
theorem dX3_shortenByOne_61 : decode cX3_shortenByOne 61 = .ok (.iload 4, 2) := by decide +kernel
theorem dX3_shortenByOne_63 : decode cX3_shortenByOne 63 = .ok (.iload_n 3, 1) := by decide +kernel
theorem dX3_shortenByOne_64 : decode cX3_shortenByOne 64 = .ok (.iload 4, 2) := by decide +kernel
theorem dX3_shortenByOne_66 : decode cX3_shortenByOne 66 = .ok (.aload_n 0, 1) := by decide +kernel
theorem dX3_shortenByOne_67 : decode cX3_shortenByOne 67 = .ok (.getfield 7, 3) := by decide +kernel
theorem dX3_shortenByOne_70 : decode cX3_shortenByOne 70 = .ok (.iload_n 2, 1) := by decide +kernel
theorem dX3_shortenByOne_71 : decode cX3_shortenByOne 71 = .ok (.iaload, 1) := by decide +kernel
theorem dX3_shortenByOne_72 : decode cX3_shortenByOne 72 = .ok (.imul, 1) := by decide +kernel
theorem dX3_shortenByOne_73 : decode cX3_shortenByOne 73 = .ok (.iadd, 1) := by decide +kernel
theorem dX3_shortenByOne_74 : decode cX3_shortenByOne 74 = .ok (.imul, 1) := by decide +kernel
theorem dX3_shortenByOne_75 : decode cX3_shortenByOne 75 = .ok (.ifCond .ge 13, 3) := by decide +kernel
theorem dX3_shortenByOne_78 : decode cX3_shortenByOne 78 = .ok (.aload_n 0, 1) := by decide +kernel
theorem dX3_shortenByOne_79 : decode cX3_shortenByOne 79 = .ok (.iload_n 1, 1) := by decide +kernel
theorem dX3_shortenByOne_80 : decode cX3_shortenByOne 80 = .ok (.iload_n 2, 1) := by decide +kernel
theorem dX3_shortenByOne_81 : decode cX3_shortenByOne 81 = .ok (.iload 4, 2) := by decide +kernel
theorem dX3_shortenByOne_83 : decode cX3_shortenByOne 83 = .ok (.invokevirtual 57, 3) := by decide +kernel
theorem dX3_shortenByOne_86 : decode cX3_shortenByOne 86 = .ok (.iconst 1, 1) := by decide +kernel
theorem dX3_shortenByOne_87 : decode cX3_shortenByOne 87 = .ok (.ireturn, 1) := by decide +kernel
theorem dX3_shortenByOne_88 : decode cX3_shortenByOne 88 = .ok (.iinc 2 1, 3) := by decide +kernel
theorem dX3_shortenByOne_91 : decode cX3_shortenByOne 91 = .ok (.goto (-82), 3) := by decide +kernel
theorem dX3_shortenByOne_94 : decode cX3_shortenByOne 94 = .ok (.iinc 1 1, 3) := by decide +kernel
theorem dX3_shortenByOne_97 : decode cX3_shortenByOne 97 = .ok (.goto (-95), 3) := by decide +kernel
theorem dX3_shortenByOne_100 : decode cX3_shortenByOne 100 = .ok (.iconst 0, 1) := by decide +kernel
theorem dX3_shortenByOne_101 : decode cX3_shortenByOne 101 = .ok (.ireturn, 1) := by decide +kernel
theorem dX3_shortenByTwo_0 : decode cX3_shortenByTwo 0 = .ok (.iconst 0, 1) := by decide +kernel
theorem dX3_shortenByTwo_1 : decode cX3_shortenByTwo 1 = .ok (.istore_n 1, 1) := by decide +kernel
theorem dX3_shortenByTwo_2 : decode cX3_shortenByTwo 2 = .ok (.iload_n 1, 1) := by decide +kernel
theorem dX3_shortenByTwo_3 : decode cX3_shortenByTwo 3 = .ok (.iconst 3, 1) := by decide +kernel
theorem dX3_shortenByTwo_4 : decode cX3_shortenByTwo 4 = .ok (.if_icmp .ge 124, 3) := by decide +kernel
theorem dX3_shortenByTwo_7 : decode cX3_shortenByTwo 7 = .ok (.iload_n 1, 1) := by decide +kernel
theorem dX3_shortenByTwo_8 : decode cX3_shortenByTwo 8 = .ok (.iconst 1, 1) := by decide +kernel
theorem dX3_shortenByTwo_9 : decode cX3_shortenByTwo 9 = .ok (.iadd, 1) := by decide +kernel
theorem dX3_shortenByTwo_10 : decode cX3_shortenByTwo 10 = .ok (.iconst 3, 1) := by decide +kernel
theorem dX3_shortenByTwo_11 : decode cX3_shortenByTwo 11 = .ok (.irem, 1) := by decide +kernel
theorem dX3_shortenByTwo_12 : decode cX3_shortenByTwo 12 = .ok (.istore_n 2, 1) := by decide +kernel
theorem dX3_shortenByTwo_13 : decode cX3_shortenByTwo 13 = .ok (.iload_n 1, 1) := by decide +kernel
theorem dX3_shortenByTwo_14 : decode cX3_shortenByTwo 14 = .ok (.iconst 2, 1) := by decide +kernel
theorem dX3_shortenByTwo_15 : decode cX3_shortenByTwo 15 = .ok (.iadd, 1) := by decide +kernel
theorem dX3_shortenByTwo_16 : decode cX3_shortenByTwo 16 = .ok (.iconst 3, 1) := by decide +kernel
theorem dX3_shortenByTwo_17 : decode cX3_shortenByTwo 17 = .ok (.irem, 1) := by decide +kernel
theorem dX3_shortenByTwo_18 : decode cX3_shortenByTwo 18 = .ok (.istore_n 3, 1) := by decide +kernel
theorem dX3_shortenByTwo_19 : decode cX3_shortenByTwo 19 = .ok (.iconst (-1), 1) := by decide +kernel
theorem dX3_shortenByTwo_20 : decode cX3_shortenByTwo 20 = .ok (.istore 4, 2) := by decide +kernel
theorem dX3_shortenByTwo_22 : decode cX3_shortenByTwo 22 = .ok (.iload 4, 2) := by decide +kernel
theorem dX3_shortenByTwo_24 : decode cX3_shortenByTwo 24 = .ok (.iconst 1, 1) := by decide +kernel
theorem dX3_shortenByTwo_25 : decode cX3_shortenByTwo 25 = .ok (.if_icmp .gt 97, 3) := by decide +kernel
theorem dX3_shortenByTwo_28 : decode cX3_shortenByTwo 28 = .ok (.iconst (-1), 1) := by decide +kernel
theorem dX3_shortenByTwo_29 : decode cX3_shortenByTwo 29 = .ok (.istore 5, 2) := by decide +kernel
theorem dX3_shortenByTwo_31 : decode cX3_shortenByTwo 31 = .ok (.iload 5, 2) := by decide +kernel
theorem dX3_shortenByTwo_33 : decode cX3_shortenByTwo 33 = .ok (.iconst 1, 1) := by decide +kernel
theorem dX3_shortenByTwo_34 : decode cX3_shortenByTwo 34 = .ok (.if_icmp .gt 82, 3) := by decide +kernel
theorem dX3_shortenByTwo_37 : decode cX3_shortenByTwo 37 = .ok (.aload_n 0, 1) := by decide +kernel
theorem dX3_shortenByTwo_38 : decode cX3_shortenByTwo 38 = .ok (.getfield 7, 3) := by decide +kernel
theorem dX3_shortenByTwo_41 : decode cX3_shortenByTwo 41 = .ok (.iload_n 2, 1) := by decide +kernel
theorem dX3_shortenByTwo_42 : decode cX3_shortenByTwo 42 = .ok (.iaload, 1) := by decide +kernel
theorem dX3_shortenByTwo_43 : decode cX3_shortenByTwo 43 = .ok (.aload_n 0, 1) := by decide +kernel
theorem dX3_shortenByTwo_44 : decode cX3_shortenByTwo 44 = .ok (.getfield 7, 3) := by decide +kernel
theorem dX3_shortenByTwo_47 : decode cX3_shortenByTwo 47 = .ok (.iload_n 3, 1) := by decide +kernel
theorem dX3_shortenByTwo_48 : decode cX3_shortenByTwo 48 = .ok (.iaload, 1) := by decide +kernel
theorem dX3_shortenByTwo_49 : decode cX3_shortenByTwo 49 = .ok (.iadd, 1) := by decide +kernel
theorem dX3_shortenByTwo_50 : decode cX3_shortenByTwo 50 = .ok (.iload 4, 2) := by decide +kernel
theorem dX3_shortenByTwo_52 : decode cX3_shortenByTwo 52 = .ok (.aload_n 0, 1) := by decide +kernel
theorem dX3_shortenByTwo_53 : decode cX3_shortenByTwo 53 = .ok (.getfield 7, 3) := by decide +kernel
theorem dX3_shortenByTwo_56 : decode cX3_shortenByTwo 56 = .ok (.iconst 3, 1) := by decide +kernel
theorem dX3_shortenByTwo_57 : decode cX3_shortenByTwo 57 = .ok (.iload_n 3, 1) := by decide +kernel
theorem dX3_shortenByTwo_58 : decode cX3_shortenByTwo 58 = .ok (.iadd, 1) := by decide +kernel
theorem dX3_shortenByTwo_59 : decode cX3_shortenByTwo 59 = .ok (.iaload, 1) := by decide +kernel
theorem dX3_shortenByTwo_60 : decode cX3_shortenByTwo 60 = .ok (.imul, 1) := by decide +kernel
theorem dX3_shortenByTwo_61 : decode cX3_shortenByTwo 61 = .ok (.iadd, 1) := by decide +kernel
theorem dX3_shortenByTwo_62 : decode cX3_shortenByTwo 62 = .ok (.iload 5, 2) := by decide +kernel
theorem dX3_shortenByTwo_64 : decode cX3_shortenByTwo 64 = .ok (.aload_n 0, 1) := by decide +kernel
theorem dX3_shortenByTwo_65 : decode cX3_shortenByTwo 65 = .ok (.getfield 7, 3) := by decide +kernel
theorem dX3_shortenByTwo_68 : decode cX3_shortenByTwo 68 = .ok (.iconst 3, 1) := by decide +kernel
theorem dX3_shortenByTwo_69 : decode cX3_shortenByTwo 69 = .ok (.iload_n 2, 1) := by decide +kernel
theorem dX3_shortenByTwo_70 : decode cX3_shortenByTwo 70 = .ok (.iadd, 1) := by decide +kernel
theorem dX3_shortenByTwo_71 : decode cX3_shortenByTwo 71 = .ok (.iaload, 1) := by decide +kernel
theorem dX3_shortenByTwo_72 : decode cX3_shortenByTwo 72 = .ok (.imul, 1) := by decide +kernel
theorem dX3_shortenByTwo_73 : decode cX3_shortenByTwo 73 = .ok (.iadd, 1) := by decide +kernel
theorem dX3_shortenByTwo_74 : decode cX3_shortenByTwo 74 = .ok (.iload 4, 2) := by decide +kernel
theorem dX3_shortenByTwo_76 : decode cX3_shortenByTwo 76 = .ok (.iload 5, 2) := by decide +kernel
theorem dX3_shortenByTwo_78 : decode cX3_shortenByTwo 78 = .ok (.imul, 1) := by decide +kernel
theorem dX3_shortenByTwo_79 : decode cX3_shortenByTwo 79 = .ok (.aload_n 0, 1) := by decide +kernel
theorem dX3_shortenByTwo_80 : decode cX3_shortenByTwo 80 = .ok (.getfield 7, 3) := by decide +kernel
theorem dX3_shortenByTwo_83 : decode cX3_shortenByTwo 83 = .ok (.iconst 3, 1) := by decide +kernel
theorem dX3_shortenByTwo_84 : decode cX3_shortenByTwo 84 = .ok (.iload_n 1, 1) := by decide +kernel
theorem dX3_shortenByTwo_85 : decode cX3_shortenByTwo 85 = .ok (.iadd, 1) := by decide +kernel
theorem dX3_shortenByTwo_86 : decode cX3_shortenByTwo 86 = .ok (.iaload, 1) := by decide +kernel
theorem dX3_shortenByTwo_87 : decode cX3_shortenByTwo 87 = .ok (.imul, 1) := by decide +kernel
theorem dX3_shortenByTwo_88 : decode cX3_shortenByTwo 88 = .ok (.iadd, 1) := by decide +kernel
theorem dX3_shortenByTwo_89 : decode cX3_shortenByTwo 89 = .ok (.ifCond .ge 21, 3) := by decide +kernel
theorem dX3_shortenByTwo_92 : decode cX3_shortenByTwo 92 = .ok (.aload_n 0, 1) := by decide +kernel
theorem dX3_shortenByTwo_93 : decode cX3_shortenByTwo 93 = .ok (.iload_n 1, 1) := by decide +kernel
theorem dX3_shortenByTwo_94 : decode cX3_shortenByTwo 94 = .ok (.iload_n 2, 1) := by decide +kernel
theorem dX3_shortenByTwo_95 : decode cX3_shortenByTwo 95 = .ok (.iload 4, 2) := by decide +kernel
theorem dX3_shortenByTwo_97 : decode cX3_shortenByTwo 97 = .ok (.invokevirtual 57, 3) := by decide +kernel
theorem dX3_shortenByTwo_100 : decode cX3_shortenByTwo 100 = .ok (.aload_n 0, 1) := by decide +kernel
theorem dX3_shortenByTwo_101 : decode cX3_shortenByTwo 101 = .ok (.iload_n 1, 1) := by decide +kernel
theorem dX3_shortenByTwo_102 : decode cX3_shortenByTwo 102 = .ok (.iload_n 3, 1) := by decide +kernel
theorem dX3_shortenByTwo_103 : decode cX3_shortenByTwo 103 = .ok (.iload 5, 2) := by decide +kernel
theorem dX3_shortenByTwo_105 : decode cX3_shortenByTwo 105 = .ok (.invokevirtual 57, 3) := by decide +kernel
theorem dX3_shortenByTwo_108 : decode cX3_shortenByTwo 108 = .ok (.iconst 1, 1) := by decide +kernel
theorem dX3_shortenByTwo_109 : decode cX3_shortenByTwo 109 = .ok (.ireturn, 1) := by decide +kernel
theorem dX3_shortenByTwo_110 : decode cX3_shortenByTwo 110 = .ok (.iinc 5 2, 3) := by decide +kernel
theorem dX3_shortenByTwo_113 : decode cX3_shortenByTwo 113 = .ok (.goto (-82), 3) := by decide +kernel
theorem dX3_shortenByTwo_116 : decode cX3_shortenByTwo 116 = .ok (.iinc 4 2, 3) := by decide +kernel
theorem dX3_shortenByTwo_119 : decode cX3_shortenByTwo 119 = .ok (.goto (-97), 3) := by decide +kernel
theorem dX3_shortenByTwo_122 : decode cX3_shortenByTwo 122 = .ok (.iinc 1 1, 3) := by decide +kernel
theorem dX3_shortenByTwo_125 : decode cX3_shortenByTwo 125 = .ok (.goto (-123), 3) := by decide +kernel
theorem dX3_shortenByTwo_128 : decode cX3_shortenByTwo 128 = .ok (.iconst 0, 1) := by decide +kernel
theorem dX3_shortenByTwo_129 : decode cX3_shortenByTwo 129 = .ok (.ireturn, 1) := by decide +kernel
theorem dX3_shift_0 : decode cX3_shift 0 = .ok (.aload_n 0, 1) := by decide +kernel
theorem dX3_shift_1 : decode cX3_shift 1 = .ok (.getfield 7, 3) := by decide +kernel
theorem dX3_shift_4 : decode cX3_shift 4 = .ok (.iload_n 1, 1) := by decide +kernel
theorem dX3_shift_5 : decode cX3_shift 5 = .ok (.dup2, 1) := by decide +kernel
theorem dX3_shift_6 : decode cX3_shift 6 = .ok (.iaload, 1) := by decide +kernel
theorem dX3_shift_7 : decode cX3_shift 7 = .ok (.iload_n 3, 1) := by decide +kernel
theorem dX3_shift_8 : decode cX3_shift 8 = .ok (.aload_n 0, 1) := by decide +kernel
theorem dX3_shift_9 : decode cX3_shift 9 = .ok (.getfield 7, 3) := by decide +kernel
theorem dX3_shift_12 : decode cX3_shift 12 = .ok (.bipush 6, 2) := by decide +kernel
theorem dX3_shift_14 : decode cX3_shift 14 = .ok (.iload_n 1, 1) := by decide +kernel
theorem dX3_shift_15 : decode cX3_shift 15 = .ok (.isub, 1) := by decide +kernel
theorem dX3_shift_16 : decode cX3_shift 16 = .ok (.iload_n 2, 1) := by decide +kernel
theorem dX3_shift_17 : decode cX3_shift 17 = .ok (.isub, 1) := by decide +kernel
theorem dX3_shift_18 : decode cX3_shift 18 = .ok (.iaload, 1) := by decide +kernel
theorem dX3_shift_19 : decode cX3_shift 19 = .ok (.iload_n 3, 1) := by decide +kernel
theorem dX3_shift_20 : decode cX3_shift 20 = .ok (.aload_n 0, 1) := by decide +kernel
theorem dX3_shift_21 : decode cX3_shift 21 = .ok (.getfield 7, 3) := by decide +kernel
theorem dX3_shift_24 : decode cX3_shift 24 = .ok (.iload_n 2, 1) := by decide +kernel
theorem dX3_shift_25 : decode cX3_shift 25 = .ok (.iaload, 1) := by decide +kernel
theorem dX3_shift_26 : decode cX3_shift 26 = .ok (.imul, 1) := by decide +kernel
theorem dX3_shift_27 : decode cX3_shift 27 = .ok (.iadd, 1) := by decide +kernel
theorem dX3_shift_28 : decode cX3_shift 28 = .ok (.imul, 1) := by decide +kernel
theorem dX3_shift_29 : decode cX3_shift 29 = .ok (.iadd, 1) := by decide +kernel
theorem dX3_shift_30 : decode cX3_shift 30 = .ok (.iastore, 1) := by decide +kernel
theorem dX3_shift_31 : decode cX3_shift 31 = .ok (.aload_n 0, 1) := by decide +kernel
theorem dX3_shift_32 : decode cX3_shift 32 = .ok (.getfield 7, 3) := by decide +kernel
theorem dX3_shift_35 : decode cX3_shift 35 = .ok (.bipush 6, 2) := by decide +kernel
theorem dX3_shift_37 : decode cX3_shift 37 = .ok (.iload_n 1, 1) := by decide +kernel
theorem dX3_shift_38 : decode cX3_shift 38 = .ok (.isub, 1) := by decide +kernel
theorem dX3_shift_39 : decode cX3_shift 39 = .ok (.iload_n 2, 1) := by decide +kernel
theorem dX3_shift_40 : decode cX3_shift 40 = .ok (.isub, 1) := by decide +kernel
theorem dX3_shift_41 : decode cX3_shift 41 = .ok (.dup2, 1) := by decide +kernel
theorem dX3_shift_42 : decode cX3_shift 42 = .ok (.iaload, 1) := by decide +kernel
theorem dX3_shift_43 : decode cX3_shift 43 = .ok (.iconst 2, 1) := by decide +kernel
theorem dX3_shift_44 : decode cX3_shift 44 = .ok (.iload_n 3, 1) := by decide +kernel
theorem dX3_shift_45 : decode cX3_shift 45 = .ok (.imul, 1) := by decide +kernel
theorem dX3_shift_46 : decode cX3_shift 46 = .ok (.aload_n 0, 1) := by decide +kernel
theorem dX3_shift_47 : decode cX3_shift 47 = .ok (.getfield 7, 3) := by decide +kernel
theorem dX3_shift_50 : decode cX3_shift 50 = .ok (.iload_n 2, 1) := by decide +kernel
theorem dX3_shift_51 : decode cX3_shift 51 = .ok (.iaload, 1) := by decide +kernel
theorem dX3_shift_52 : decode cX3_shift 52 = .ok (.imul, 1) := by decide +kernel
theorem dX3_shift_53 : decode cX3_shift 53 = .ok (.iadd, 1) := by decide +kernel
theorem dX3_shift_54 : decode cX3_shift 54 = .ok (.iastore, 1) := by decide +kernel
theorem dX3_shift_55 : decode cX3_shift 55 = .ok (.aload_n 0, 1) := by decide +kernel
theorem dX3_shift_56 : decode cX3_shift 56 = .ok (.getfield 7, 3) := by decide +kernel
theorem dX3_shift_59 : decode cX3_shift 59 = .ok (.iconst 3, 1) := by decide +kernel
theorem dX3_shift_60 : decode cX3_shift 60 = .ok (.iload_n 2, 1) := by decide +kernel
theorem dX3_shift_61 : decode cX3_shift 61 = .ok (.iadd, 1) := by decide +kernel
theorem dX3_shift_62 : decode cX3_shift 62 = .ok (.dup2, 1) := by decide +kernel
theorem dX3_shift_63 : decode cX3_shift 63 = .ok (.iaload, 1) := by decide +kernel
theorem dX3_shift_64 : decode cX3_shift 64 = .ok (.iload_n 3, 1) := by decide +kernel
theorem dX3_shift_65 : decode cX3_shift 65 = .ok (.aload_n 0, 1) := by decide +kernel
theorem dX3_shift_66 : decode cX3_shift 66 = .ok (.getfield 7, 3) := by decide +kernel
theorem dX3_shift_69 : decode cX3_shift 69 = .ok (.iconst 3, 1) := by decide +kernel
theorem dX3_shift_70 : decode cX3_shift 70 = .ok (.iload_n 1, 1) := by decide +kernel
theorem dX3_shift_71 : decode cX3_shift 71 = .ok (.iadd, 1) := by decide +kernel
theorem dX3_shift_72 : decode cX3_shift 72 = .ok (.iaload, 1) := by decide +kernel
theorem dX3_shift_73 : decode cX3_shift 73 = .ok (.imul, 1) := by decide +kernel
theorem dX3_shift_74 : decode cX3_shift 74 = .ok (.iadd, 1) := by decide +kernel
theorem dX3_shift_75 : decode cX3_shift 75 = .ok (.iastore, 1) := by decide +kernel
theorem dX3_shift_76 : decode cX3_shift 76 = .ok (.iconst 0, 1) := by decide +kernel
theorem dX3_shift_77 : decode cX3_shift 77 = .ok (.istore 4, 2) := by decide +kernel
theorem dX3_shift_79 : decode cX3_shift 79 = .ok (.iload 4, 2) := by decide +kernel
theorem dX3_shift_81 : decode cX3_shift 81 = .ok (.iconst 3, 1) := by decide +kernel
theorem dX3_shift_82 : decode cX3_shift 82 = .ok (.if_icmp .ge 36, 3) := by decide +kernel
theorem dX3_shift_85 : decode cX3_shift 85 = .ok (.aload_n 0, 1) := by decide +kernel
theorem dX3_shift_86 : decode cX3_shift 86 = .ok (.getfield 13, 3) := by decide +kernel
theorem dX3_shift_89 : decode cX3_shift 89 = .ok (.iconst 3, 1) := by decide +kernel
theorem dX3_shift_90 : decode cX3_shift 90 = .ok (.iload_n 1, 1) := by decide +kernel
theorem dX3_shift_91 : decode cX3_shift 91 = .ok (.imul, 1) := by decide +kernel
theorem dX3_shift_92 : decode cX3_shift 92 = .ok (.iload 4, 2) := by decide +kernel
theorem dX3_shift_94 : decode cX3_shift 94 = .ok (.iadd, 1) := by decide +kernel
theorem dX3_shift_95 : decode cX3_shift 95 = .ok (.dup2, 1) := by decide +kernel
theorem dX3_shift_96 : decode cX3_shift 96 = .ok (.iaload, 1) := by decide +kernel
theorem dX3_shift_97 : decode cX3_shift 97 = .ok (.iload_n 3, 1) := by decide +kernel
theorem dX3_shift_98 : decode cX3_shift 98 = .ok (.aload_n 0, 1) := by decide +kernel
theorem dX3_shift_99 : decode cX3_shift 99 = .ok (.getfield 13, 3) := by decide +kernel
theorem dX3_shift_102 : decode cX3_shift 102 = .ok (.iconst 3, 1) := by decide +kernel
theorem dX3_shift_103 : decode cX3_shift 103 = .ok (.iload_n 2, 1) := by decide +kernel
theorem dX3_shift_104 : decode cX3_shift 104 = .ok (.imul, 1) := by decide +kernel
theorem dX3_shift_105 : decode cX3_shift 105 = .ok (.iload 4, 2) := by decide +kernel
theorem dX3_shift_107 : decode cX3_shift 107 = .ok (.iadd, 1) := by decide +kernel
theorem dX3_shift_108 : decode cX3_shift 108 = .ok (.iaload, 1) := by decide +kernel
theorem dX3_shift_109 : decode cX3_shift 109 = .ok (.imul, 1) := by decide +kernel
theorem dX3_shift_110 : decode cX3_shift 110 = .ok (.iadd, 1) := by decide +kernel
theorem dX3_shift_111 : decode cX3_shift 111 = .ok (.iastore, 1) := by decide +kernel
theorem dX3_shift_112 : decode cX3_shift 112 = .ok (.iinc 4 1, 3) := by decide +kernel
theorem dX3_shift_115 : decode cX3_shift 115 = .ok (.goto (-36), 3) := by decide +kernel
theorem dX3_shift_118 : decode cX3_shift 118 = .ok (.return_, 1) := by decide +kernel
theorem dX3_fillBox_0 : decode cX3_fillBox 0 = .ok (.iconst 0, 1) := by decide +kernel
theorem dX3_fillBox_1 : decode cX3_fillBox 1 = .ok (.istore_n 1, 1) := by decide +kernel
theorem dX3_fillBox_2 : decode cX3_fillBox 2 = .ok (.iload_n 1, 1) := by decide +kernel
theorem dX3_fillBox_3 : decode cX3_fillBox 3 = .ok (.bipush 27, 2) := by decide +kernel
theorem dX3_fillBox_5 : decode cX3_fillBox 5 = .ok (.if_icmp .ge 108, 3) := by decide +kernel
theorem dX3_fillBox_8 : decode cX3_fillBox 8 = .ok (.aload_n 0, 1) := by decide +kernel
theorem dX3_fillBox_9 : decode cX3_fillBox 9 = .ok (.getfield 19, 3) := by decide +kernel
theorem dX3_fillBox_12 : decode cX3_fillBox 12 = .ok (.iload_n 1, 1) := by decide +kernel
theorem dX3_fillBox_13 : decode cX3_fillBox 13 = .ok (.aload_n 0, 1) := by decide +kernel
theorem dX3_fillBox_14 : decode cX3_fillBox 14 = .ok (.getfield 7, 3) := by decide +kernel
theorem dX3_fillBox_17 : decode cX3_fillBox 17 = .ok (.aload_n 0, 1) := by decide +kernel
theorem dX3_fillBox_18 : decode cX3_fillBox 18 = .ok (.getfield 16, 3) := by decide +kernel
theorem dX3_fillBox_21 : decode cX3_fillBox 21 = .ok (.iconst 3, 1) := by decide +kernel
theorem dX3_fillBox_22 : decode cX3_fillBox 22 = .ok (.iload_n 1, 1) := by decide +kernel
theorem dX3_fillBox_23 : decode cX3_fillBox 23 = .ok (.imul, 1) := by decide +kernel
theorem dX3_fillBox_24 : decode cX3_fillBox 24 = .ok (.invokestatic 61, 3) := by decide +kernel
theorem dX3_fillBox_27 : decode cX3_fillBox 27 = .ok (.iastore, 1) := by decide +kernel
theorem dX3_fillBox_28 : decode cX3_fillBox 28 = .ok (.iconst 0, 1) := by decide +kernel
theorem dX3_fillBox_29 : decode cX3_fillBox 29 = .ok (.istore_n 2, 1) := by decide +kernel
theorem dX3_fillBox_30 : decode cX3_fillBox 30 = .ok (.iload_n 2, 1) := by decide +kernel
theorem dX3_fillBox_31 : decode cX3_fillBox 31 = .ok (.iconst 3, 1) := by decide +kernel
theorem dX3_fillBox_32 : decode cX3_fillBox 32 = .ok (.if_icmp .ge 75, 3) := by decide +kernel
theorem dX3_fillBox_35 : decode cX3_fillBox 35 = .ok (.aload_n 0, 1) := by decide +kernel
theorem dX3_fillBox_36 : decode cX3_fillBox 36 = .ok (.getfield 22, 3) := by decide +kernel
theorem dX3_fillBox_39 : decode cX3_fillBox 39 = .ok (.iconst 3, 1) := by decide +kernel
theorem dX3_fillBox_40 : decode cX3_fillBox 40 = .ok (.iload_n 1, 1) := by decide +kernel
theorem dX3_fillBox_41 : decode cX3_fillBox 41 = .ok (.imul, 1) := by decide +kernel
theorem dX3_fillBox_42 : decode cX3_fillBox 42 = .ok (.iload_n 2, 1) := by decide +kernel
theorem dX3_fillBox_43 : decode cX3_fillBox 43 = .ok (.iadd, 1) := by decide +kernel
theorem dX3_fillBox_44 : decode cX3_fillBox 44 = .ok (.aload_n 0, 1) := by decide +kernel
theorem dX3_fillBox_45 : decode cX3_fillBox 45 = .ok (.getfield 16, 3) := by decide +kernel
theorem dX3_fillBox_48 : decode cX3_fillBox 48 = .ok (.iconst 3, 1) := by decide +kernel
theorem dX3_fillBox_49 : decode cX3_fillBox 49 = .ok (.iload_n 1, 1) := by decide +kernel
theorem dX3_fillBox_50 : decode cX3_fillBox 50 = .ok (.imul, 1) := by decide +kernel
theorem dX3_fillBox_51 : decode cX3_fillBox 51 = .ok (.iaload, 1) := by decide +kernel
theorem dX3_fillBox_52 : decode cX3_fillBox 52 = .ok (.aload_n 0, 1) := by decide +kernel
theorem dX3_fillBox_53 : decode cX3_fillBox 53 = .ok (.getfield 13, 3) := by decide +kernel
theorem dX3_fillBox_56 : decode cX3_fillBox 56 = .ok (.iload_n 2, 1) := by decide +kernel
theorem dX3_fillBox_57 : decode cX3_fillBox 57 = .ok (.iaload, 1) := by decide +kernel
theorem dX3_fillBox_58 : decode cX3_fillBox 58 = .ok (.imul, 1) := by decide +kernel
theorem dX3_fillBox_59 : decode cX3_fillBox 59 = .ok (.aload_n 0, 1) := by decide +kernel
theorem dX3_fillBox_60 : decode cX3_fillBox 60 = .ok (.getfield 16, 3) := by decide +kernel
theorem dX3_fillBox_63 : decode cX3_fillBox 63 = .ok (.iconst 3, 1) := by decide +kernel
theorem dX3_fillBox_64 : decode cX3_fillBox 64 = .ok (.iload_n 1, 1) := by decide +kernel
theorem dX3_fillBox_65 : decode cX3_fillBox 65 = .ok (.imul, 1) := by decide +kernel
theorem dX3_fillBox_66 : decode cX3_fillBox 66 = .ok (.iconst 1, 1) := by decide +kernel
theorem dX3_fillBox_67 : decode cX3_fillBox 67 = .ok (.iadd, 1) := by decide +kernel
theorem dX3_fillBox_68 : decode cX3_fillBox 68 = .ok (.iaload, 1) := by decide +kernel
theorem dX3_fillBox_69 : decode cX3_fillBox 69 = .ok (.aload_n 0, 1) := by decide +kernel
theorem dX3_fillBox_70 : decode cX3_fillBox 70 = .ok (.getfield 13, 3) := by decide +kernel
theorem dX3_fillBox_73 : decode cX3_fillBox 73 = .ok (.iconst 3, 1) := by decide +kernel
theorem dX3_fillBox_74 : decode cX3_fillBox 74 = .ok (.iload_n 2, 1) := by decide +kernel
theorem dX3_fillBox_75 : decode cX3_fillBox 75 = .ok (.iadd, 1) := by decide +kernel
theorem dX3_fillBox_76 : decode cX3_fillBox 76 = .ok (.iaload, 1) := by decide +kernel
theorem dX3_fillBox_77 : decode cX3_fillBox 77 = .ok (.imul, 1) := by decide +kernel
theorem dX3_fillBox_78 : decode cX3_fillBox 78 = .ok (.iadd, 1) := by decide +kernel
theorem dX3_fillBox_79 : decode cX3_fillBox 79 = .ok (.aload_n 0, 1) := by decide +kernel
theorem dX3_fillBox_80 : decode cX3_fillBox 80 = .ok (.getfield 16, 3) := by decide +kernel
theorem dX3_fillBox_83 : decode cX3_fillBox 83 = .ok (.iconst 3, 1) := by decide +kernel
theorem dX3_fillBox_84 : decode cX3_fillBox 84 = .ok (.iload_n 1, 1) := by decide +kernel
theorem dX3_fillBox_85 : decode cX3_fillBox 85 = .ok (.imul, 1) := by decide +kernel
theorem dX3_fillBox_86 : decode cX3_fillBox 86 = .ok (.iconst 2, 1) := by decide +kernel
theorem dX3_fillBox_87 : decode cX3_fillBox 87 = .ok (.iadd, 1) := by decide +kernel
theorem dX3_fillBox_88 : decode cX3_fillBox 88 = .ok (.iaload, 1) := by decide +kernel
theorem dX3_fillBox_89 : decode cX3_fillBox 89 = .ok (.aload_n 0, 1) := by decide +kernel
theorem dX3_fillBox_90 : decode cX3_fillBox 90 = .ok (.getfield 13, 3) := by decide +kernel
theorem dX3_fillBox_93 : decode cX3_fillBox 93 = .ok (.bipush 6, 2) := by decide +kernel
theorem dX3_fillBox_95 : decode cX3_fillBox 95 = .ok (.iload_n 2, 1) := by decide +kernel
theorem dX3_fillBox_96 : decode cX3_fillBox 96 = .ok (.iadd, 1) := by decide +kernel
theorem dX3_fillBox_97 : decode cX3_fillBox 97 = .ok (.iaload, 1) := by decide +kernel
theorem dX3_fillBox_98 : decode cX3_fillBox 98 = .ok (.imul, 1) := by decide +kernel
theorem dX3_fillBox_99 : decode cX3_fillBox 99 = .ok (.iadd, 1) := by decide +kernel
theorem dX3_fillBox_100 : decode cX3_fillBox 100 = .ok (.iastore, 1) := by decide +kernel
theorem dX3_fillBox_101 : decode cX3_fillBox 101 = .ok (.iinc 2 1, 3) := by decide +kernel
theorem dX3_fillBox_104 : decode cX3_fillBox 104 = .ok (.goto (-74), 3) := by decide +kernel
theorem dX3_fillBox_107 : decode cX3_fillBox 107 = .ok (.iinc 1 1, 3) := by decide +kernel
theorem dX3_fillBox_110 : decode cX3_fillBox 110 = .ok (.goto (-108), 3) := by decide +kernel
theorem dX3_fillBox_113 : decode cX3_fillBox 113 = .ok (.return_, 1) := by decide +kernel
theorem dX3_search_0 : decode cX3_search 0 = .ok (.aload_n 0, 1) := by decide +kernel
theorem dX3_search_1 : decode cX3_search 1 = .ok (.getfield 25, 3) := by decide +kernel
theorem dX3_search_4 : decode cX3_search 4 = .ok (.iconst 0, 1) := by decide +kernel
theorem dX3_search_5 : decode cX3_search 5 = .ok (.aload_n 0, 1) := by decide +kernel
theorem dX3_search_6 : decode cX3_search 6 = .ok (.getfield 7, 3) := by decide +kernel
theorem dX3_search_9 : decode cX3_search 9 = .ok (.iconst 0, 1) := by decide +kernel
theorem dX3_search_10 : decode cX3_search 10 = .ok (.iaload, 1) := by decide +kernel
theorem dX3_search_11 : decode cX3_search 11 = .ok (.aload_n 0, 1) := by decide +kernel
theorem dX3_search_12 : decode cX3_search 12 = .ok (.getfield 7, 3) := by decide +kernel
theorem dX3_search_15 : decode cX3_search 15 = .ok (.iconst 1, 1) := by decide +kernel
theorem dX3_search_16 : decode cX3_search 16 = .ok (.iaload, 1) := by decide +kernel
theorem dX3_search_17 : decode cX3_search 17 = .ok (.aload_n 0, 1) := by decide +kernel
theorem dX3_search_18 : decode cX3_search 18 = .ok (.getfield 7, 3) := by decide +kernel
theorem dX3_search_21 : decode cX3_search 21 = .ok (.iconst 2, 1) := by decide +kernel
theorem dX3_search_22 : decode cX3_search 22 = .ok (.iaload, 1) := by decide +kernel
theorem dX3_search_23 : decode cX3_search 23 = .ok (.invokestatic 67, 3) := by decide +kernel
theorem dX3_search_26 : decode cX3_search 26 = .ok (.invokestatic 67, 3) := by decide +kernel
theorem dX3_search_29 : decode cX3_search 29 = .ok (.iastore, 1) := by decide +kernel
theorem dX3_search_30 : decode cX3_search 30 = .ok (.aload_n 0, 1) := by decide +kernel
theorem dX3_search_31 : decode cX3_search 31 = .ok (.getfield 25, 3) := by decide +kernel
theorem dX3_search_34 : decode cX3_search 34 = .ok (.iconst 2, 1) := by decide +kernel
theorem dX3_search_35 : decode cX3_search 35 = .ok (.aload_n 0, 1) := by decide +kernel
theorem dX3_search_36 : decode cX3_search 36 = .ok (.getfield 7, 3) := by decide +kernel
theorem dX3_search_39 : decode cX3_search 39 = .ok (.iconst 0, 1) := by decide +kernel
theorem dX3_search_40 : decode cX3_search 40 = .ok (.iaload, 1) := by decide +kernel
theorem dX3_search_41 : decode cX3_search 41 = .ok (.aload_n 0, 1) := by decide +kernel
theorem dX3_search_42 : decode cX3_search 42 = .ok (.getfield 7, 3) := by decide +kernel
theorem dX3_search_45 : decode cX3_search 45 = .ok (.iconst 1, 1) := by decide +kernel
theorem dX3_search_46 : decode cX3_search 46 = .ok (.iaload, 1) := by decide +kernel
theorem dX3_search_47 : decode cX3_search 47 = .ok (.aload_n 0, 1) := by decide +kernel
theorem dX3_search_48 : decode cX3_search 48 = .ok (.getfield 7, 3) := by decide +kernel
theorem dX3_search_51 : decode cX3_search 51 = .ok (.iconst 2, 1) := by decide +kernel
theorem dX3_search_52 : decode cX3_search 52 = .ok (.iaload, 1) := by decide +kernel
theorem dX3_search_53 : decode cX3_search 53 = .ok (.invokestatic 70, 3) := by decide +kernel
theorem dX3_search_56 : decode cX3_search 56 = .ok (.invokestatic 70, 3) := by decide +kernel
theorem dX3_search_59 : decode cX3_search 59 = .ok (.iastore, 1) := by decide +kernel
theorem dX3_search_60 : decode cX3_search 60 = .ok (.aload_n 0, 1) := by decide +kernel
theorem dX3_search_61 : decode cX3_search 61 = .ok (.getfield 25, 3) := by decide +kernel
theorem dX3_search_64 : decode cX3_search 64 = .ok (.iconst 1, 1) := by decide +kernel
theorem dX3_search_65 : decode cX3_search 65 = .ok (.aload_n 0, 1) := by decide +kernel
theorem dX3_search_66 : decode cX3_search 66 = .ok (.getfield 7, 3) := by decide +kernel
theorem dX3_search_69 : decode cX3_search 69 = .ok (.iconst 0, 1) := by decide +kernel
theorem dX3_search_70 : decode cX3_search 70 = .ok (.iaload, 1) := by decide +kernel
theorem dX3_search_71 : decode cX3_search 71 = .ok (.aload_n 0, 1) := by decide +kernel
theorem dX3_search_72 : decode cX3_search 72 = .ok (.getfield 7, 3) := by decide +kernel
theorem dX3_search_75 : decode cX3_search 75 = .ok (.iconst 1, 1) := by decide +kernel
theorem dX3_search_76 : decode cX3_search 76 = .ok (.iaload, 1) := by decide +kernel
theorem dX3_search_77 : decode cX3_search 77 = .ok (.iadd, 1) := by decide +kernel
theorem dX3_search_78 : decode cX3_search 78 = .ok (.aload_n 0, 1) := by decide +kernel
theorem dX3_search_79 : decode cX3_search 79 = .ok (.getfield 7, 3) := by decide +kernel
theorem dX3_search_82 : decode cX3_search 82 = .ok (.iconst 2, 1) := by decide +kernel
theorem dX3_search_83 : decode cX3_search 83 = .ok (.iaload, 1) := by decide +kernel
theorem dX3_search_84 : decode cX3_search 84 = .ok (.iadd, 1) := by decide +kernel
theorem dX3_search_85 : decode cX3_search 85 = .ok (.aload_n 0, 1) := by decide +kernel
theorem dX3_search_86 : decode cX3_search 86 = .ok (.getfield 25, 3) := by decide +kernel
theorem dX3_search_89 : decode cX3_search 89 = .ok (.iconst 0, 1) := by decide +kernel
theorem dX3_search_90 : decode cX3_search 90 = .ok (.iaload, 1) := by decide +kernel
theorem dX3_search_91 : decode cX3_search 91 = .ok (.isub, 1) := by decide +kernel
theorem dX3_search_92 : decode cX3_search 92 = .ok (.aload_n 0, 1) := by decide +kernel
theorem dX3_search_93 : decode cX3_search 93 = .ok (.getfield 25, 3) := by decide +kernel
theorem dX3_search_96 : decode cX3_search 96 = .ok (.iconst 2, 1) := by decide +kernel
theorem dX3_search_97 : decode cX3_search 97 = .ok (.iaload, 1) := by decide +kernel
theorem dX3_search_98 : decode cX3_search 98 = .ok (.isub, 1) := by decide +kernel
theorem dX3_search_99 : decode cX3_search 99 = .ok (.iastore, 1) := by decide +kernel
theorem dX3_search_100 : decode cX3_search 100 = .ok (.aload_n 0, 1) := by decide +kernel
theorem dX3_search_101 : decode cX3_search 101 = .ok (.iconst 0, 1) := by decide +kernel
theorem dX3_search_102 : decode cX3_search 102 = .ok (.putfield 73, 3) := by decide +kernel
theorem dX3_search_105 : decode cX3_search 105 = .ok (.iconst 0, 1) := by decide +kernel
theorem dX3_search_106 : decode cX3_search 106 = .ok (.istore_n 1, 1) := by decide +kernel
theorem dX3_search_107 : decode cX3_search 107 = .ok (.iload_n 1, 1) := by decide +kernel
theorem dX3_search_108 : decode cX3_search 108 = .ok (.bipush 27, 2) := by decide +kernel
theorem dX3_search_110 : decode cX3_search 110 = .ok (.if_icmp .ge 114, 3) := by decide +kernel
theorem dX3_search_113 : decode cX3_search 113 = .ok (.iconst 0, 1) := by decide +kernel
theorem dX3_search_114 : decode cX3_search 114 = .ok (.istore_n 2, 1) := by decide +kernel
theorem dX3_search_115 : decode cX3_search 115 = .ok (.aload_n 0, 1) := by decide +kernel
theorem dX3_search_116 : decode cX3_search 116 = .ok (.getfield 19, 3) := by decide +kernel
theorem dX3_search_119 : decode cX3_search 119 = .ok (.iload_n 1, 1) := by decide +kernel
theorem dX3_search_120 : decode cX3_search 120 = .ok (.iaload, 1) := by decide +kernel
theorem dX3_search_121 : decode cX3_search 121 = .ok (.aload_n 0, 1) := by decide +kernel
theorem dX3_search_122 : decode cX3_search 122 = .ok (.getfield 25, 3) := by decide +kernel
theorem dX3_search_125 : decode cX3_search 125 = .ok (.iconst 0, 1) := by decide +kernel
theorem dX3_search_126 : decode cX3_search 126 = .ok (.iaload, 1) := by decide +kernel
theorem dX3_search_127 : decode cX3_search 127 = .ok (.if_icmp .ne 91, 3) := by decide +kernel
theorem dX3_search_130 : decode cX3_search 130 = .ok (.iload_n 2, 1) := by decide +kernel
theorem dX3_search_131 : decode cX3_search 131 = .ok (.bipush 27, 2) := by decide +kernel
theorem dX3_search_133 : decode cX3_search 133 = .ok (.if_icmp .ge 85, 3) := by decide +kernel
theorem dX3_search_136 : decode cX3_search 136 = .ok (.iconst 0, 1) := by decide +kernel
theorem dX3_search_137 : decode cX3_search 137 = .ok (.istore_n 3, 1) := by decide +kernel
theorem dX3_search_138 : decode cX3_search 138 = .ok (.aload_n 0, 1) := by decide +kernel
theorem dX3_search_139 : decode cX3_search 139 = .ok (.getfield 19, 3) := by decide +kernel
theorem dX3_search_142 : decode cX3_search 142 = .ok (.iload_n 2, 1) := by decide +kernel
theorem dX3_search_143 : decode cX3_search 143 = .ok (.iaload, 1) := by decide +kernel
theorem dX3_search_144 : decode cX3_search 144 = .ok (.aload_n 0, 1) := by decide +kernel
theorem dX3_search_145 : decode cX3_search 145 = .ok (.getfield 25, 3) := by decide +kernel
theorem dX3_search_148 : decode cX3_search 148 = .ok (.iconst 1, 1) := by decide +kernel
theorem dX3_search_149 : decode cX3_search 149 = .ok (.iaload, 1) := by decide +kernel
theorem dX3_search_150 : decode cX3_search 150 = .ok (.if_icmp .ne 62, 3) := by decide +kernel
theorem dX3_search_153 : decode cX3_search 153 = .ok (.iload_n 3, 1) := by decide +kernel
theorem dX3_search_154 : decode cX3_search 154 = .ok (.bipush 27, 2) := by decide +kernel
