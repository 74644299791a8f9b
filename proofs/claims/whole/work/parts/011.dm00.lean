theorem dX7_init_0 : decode cX7_init 0 = .ok (.aload_n 0, 1) := by decide +kernel
theorem dX7_init_1 : decode cX7_init 1 = .ok (.invokespecial 1, 3) := by decide +kernel
theorem dX7_init_4 : decode cX7_init 4 = .ok (.aload_n 0, 1) := by decide +kernel
theorem dX7_init_5 : decode cX7_init 5 = .ok (.bipush 72, 2) := by decide +kernel
theorem dX7_init_7 : decode cX7_init 7 = .ok (.newarray .int, 2) := by decide +kernel
theorem dX7_init_9 : decode cX7_init 9 = .ok (.putfield 7, 3) := by decide +kernel
theorem dX7_init_12 : decode cX7_init 12 = .ok (.aload_n 0, 1) := by decide +kernel
theorem dX7_init_13 : decode cX7_init 13 = .ok (.iconst 3, 1) := by decide +kernel
theorem dX7_init_14 : decode cX7_init 14 = .ok (.putfield 13, 3) := by decide +kernel
theorem dX7_init_17 : decode cX7_init 17 = .ok (.aload_n 0, 1) := by decide +kernel
theorem dX7_init_18 : decode cX7_init 18 = .ok (.bipush 6, 2) := by decide +kernel
theorem dX7_init_20 : decode cX7_init 20 = .ok (.newarray .long, 2) := by decide +kernel
theorem dX7_init_22 : decode cX7_init 22 = .ok (.putfield 17, 3) := by decide +kernel
theorem dX7_init_25 : decode cX7_init 25 = .ok (.aload_n 0, 1) := by decide +kernel
theorem dX7_init_26 : decode cX7_init 26 = .ok (.bipush 9, 2) := by decide +kernel
theorem dX7_init_28 : decode cX7_init 28 = .ok (.newarray .long, 2) := by decide +kernel
theorem dX7_init_30 : decode cX7_init 30 = .ok (.putfield 21, 3) := by decide +kernel
theorem dX7_init_33 : decode cX7_init 33 = .ok (.aload_n 0, 1) := by decide +kernel
theorem dX7_init_34 : decode cX7_init 34 = .ok (.bipush 6, 2) := by decide +kernel
theorem dX7_init_36 : decode cX7_init 36 = .ok (.newarray .long, 2) := by decide +kernel
theorem dX7_init_38 : decode cX7_init 38 = .ok (.putfield 24, 3) := by decide +kernel
theorem dX7_init_41 : decode cX7_init 41 = .ok (.aload_n 0, 1) := by decide +kernel
theorem dX7_init_42 : decode cX7_init 42 = .ok (.bipush 9, 2) := by decide +kernel
theorem dX7_init_44 : decode cX7_init 44 = .ok (.newarray .long, 2) := by decide +kernel
theorem dX7_init_46 : decode cX7_init 46 = .ok (.putfield 27, 3) := by decide +kernel
theorem dX7_init_49 : decode cX7_init 49 = .ok (.aload_n 0, 1) := by decide +kernel
theorem dX7_init_50 : decode cX7_init 50 = .ok (.bipush 9, 2) := by decide +kernel
theorem dX7_init_52 : decode cX7_init 52 = .ok (.newarray .long, 2) := by decide +kernel
theorem dX7_init_54 : decode cX7_init 54 = .ok (.putfield 30, 3) := by decide +kernel
theorem dX7_init_57 : decode cX7_init 57 = .ok (.aload_n 0, 1) := by decide +kernel
theorem dX7_init_58 : decode cX7_init 58 = .ok (.sipush 5400, 3) := by decide +kernel
theorem dX7_init_61 : decode cX7_init 61 = .ok (.newarray .long, 2) := by decide +kernel
theorem dX7_init_63 : decode cX7_init 63 = .ok (.putfield 33, 3) := by decide +kernel
theorem dX7_init_66 : decode cX7_init 66 = .ok (.aload_n 0, 1) := by decide +kernel
theorem dX7_init_67 : decode cX7_init 67 = .ok (.iconst 3, 1) := by decide +kernel
theorem dX7_init_68 : decode cX7_init 68 = .ok (.newarray .int, 2) := by decide +kernel
theorem dX7_init_70 : decode cX7_init 70 = .ok (.putfield 36, 3) := by decide +kernel
theorem dX7_init_73 : decode cX7_init 73 = .ok (.aload_n 0, 1) := by decide +kernel
theorem dX7_init_74 : decode cX7_init 74 = .ok (.bipush 9, 2) := by decide +kernel
theorem dX7_init_76 : decode cX7_init 76 = .ok (.newarray .long, 2) := by decide +kernel
theorem dX7_init_78 : decode cX7_init 78 = .ok (.putfield 39, 3) := by decide +kernel
theorem dX7_init_81 : decode cX7_init 81 = .ok (.aload_n 0, 1) := by decide +kernel
theorem dX7_init_82 : decode cX7_init 82 = .ok (.bipush 6, 2) := by decide +kernel
theorem dX7_init_84 : decode cX7_init 84 = .ok (.newarray .long, 2) := by decide +kernel
theorem dX7_init_86 : decode cX7_init 86 = .ok (.putfield 42, 3) := by decide +kernel
theorem dX7_init_89 : decode cX7_init 89 = .ok (.aload_n 0, 1) := by decide +kernel
theorem dX7_init_90 : decode cX7_init 90 = .ok (.iconst 3, 1) := by decide +kernel
theorem dX7_init_91 : decode cX7_init 91 = .ok (.newarray .long, 2) := by decide +kernel
theorem dX7_init_93 : decode cX7_init 93 = .ok (.putfield 45, 3) := by decide +kernel
theorem dX7_init_96 : decode cX7_init 96 = .ok (.aload_n 0, 1) := by decide +kernel
theorem dX7_init_97 : decode cX7_init 97 = .ok (.bipush 12, 2) := by decide +kernel
theorem dX7_init_99 : decode cX7_init 99 = .ok (.newarray .long, 2) := by decide +kernel
theorem dX7_init_101 : decode cX7_init 101 = .ok (.putfield 48, 3) := by decide +kernel
theorem dX7_init_104 : decode cX7_init 104 = .ok (.aload_n 0, 1) := by decide +kernel
theorem dX7_init_105 : decode cX7_init 105 = .ok (.iconst 3, 1) := by decide +kernel
theorem dX7_init_106 : decode cX7_init 106 = .ok (.newarray .long, 2) := by decide +kernel
theorem dX7_init_108 : decode cX7_init 108 = .ok (.putfield 51, 3) := by decide +kernel
theorem dX7_init_111 : decode cX7_init 111 = .ok (.aload_n 0, 1) := by decide +kernel
theorem dX7_init_112 : decode cX7_init 112 = .ok (.bipush 6, 2) := by decide +kernel
theorem dX7_init_114 : decode cX7_init 114 = .ok (.newarray .long, 2) := by decide +kernel
theorem dX7_init_116 : decode cX7_init 116 = .ok (.putfield 54, 3) := by decide +kernel
theorem dX7_init_119 : decode cX7_init 119 = .ok (.aload_n 0, 1) := by decide +kernel
theorem dX7_init_120 : decode cX7_init 120 = .ok (.bipush 102, 2) := by decide +kernel
theorem dX7_init_122 : decode cX7_init 122 = .ok (.newarray .long, 2) := by decide +kernel
theorem dX7_init_124 : decode cX7_init 124 = .ok (.putfield 57, 3) := by decide +kernel
theorem dX7_init_127 : decode cX7_init 127 = .ok (.aload_n 0, 1) := by decide +kernel
theorem dX7_init_128 : decode cX7_init 128 = .ok (.bipush 17, 2) := by decide +kernel
theorem dX7_init_130 : decode cX7_init 130 = .ok (.newarray .int, 2) := by decide +kernel
theorem dX7_init_132 : decode cX7_init 132 = .ok (.putfield 60, 3) := by decide +kernel
theorem dX7_init_135 : decode cX7_init 135 = .ok (.aload_n 0, 1) := by decide +kernel
theorem dX7_init_136 : decode cX7_init 136 = .ok (.sipush 272, 3) := by decide +kernel
theorem dX7_init_139 : decode cX7_init 139 = .ok (.newarray .int, 2) := by decide +kernel
theorem dX7_init_141 : decode cX7_init 141 = .ok (.putfield 63, 3) := by decide +kernel
theorem dX7_init_144 : decode cX7_init 144 = .ok (.return_, 1) := by decide +kernel
theorem dX7_in_0 : decode cX7_in 0 = .ok (.lload_n 0, 1) := by decide +kernel
theorem dX7_in_1 : decode cX7_in 1 = .ok (.lload_n 2, 1) := by decide +kernel
theorem dX7_in_2 : decode cX7_in 2 = .ok (.lcmp, 1) := by decide +kernel
theorem dX7_in_3 : decode cX7_in 3 = .ok (.ifCond .lt 14, 3) := by decide +kernel
theorem dX7_in_6 : decode cX7_in 6 = .ok (.lload_n 0, 1) := by decide +kernel
theorem dX7_in_7 : decode cX7_in 7 = .ok (.lload 4, 2) := by decide +kernel
theorem dX7_in_9 : decode cX7_in 9 = .ok (.lcmp, 1) := by decide +kernel
theorem dX7_in_10 : decode cX7_in 10 = .ok (.ifCond .gt 7, 3) := by decide +kernel
theorem dX7_in_13 : decode cX7_in 13 = .ok (.iconst 1, 1) := by decide +kernel
theorem dX7_in_14 : decode cX7_in 14 = .ok (.goto 4, 3) := by decide +kernel
theorem dX7_in_17 : decode cX7_in 17 = .ok (.iconst 0, 1) := by decide +kernel
theorem dX7_in_18 : decode cX7_in 18 = .ok (.ireturn, 1) := by decide +kernel
theorem dX7_valueOf_0 : decode cX7_valueOf 0 = .ok (.aload_n 0, 1) := by decide +kernel
theorem dX7_valueOf_1 : decode cX7_valueOf 1 = .ok (.getfield 17, 3) := by decide +kernel
theorem dX7_valueOf_4 : decode cX7_valueOf 4 = .ok (.iconst 0, 1) := by decide +kernel
theorem dX7_valueOf_5 : decode cX7_valueOf 5 = .ok (.laload, 1) := by decide +kernel
theorem dX7_valueOf_6 : decode cX7_valueOf 6 = .ok (.lload_n 1, 1) := by decide +kernel
theorem dX7_valueOf_7 : decode cX7_valueOf 7 = .ok (.lmul, 1) := by decide +kernel
theorem dX7_valueOf_8 : decode cX7_valueOf 8 = .ok (.lload_n 1, 1) := by decide +kernel
theorem dX7_valueOf_9 : decode cX7_valueOf 9 = .ok (.lmul, 1) := by decide +kernel
theorem dX7_valueOf_10 : decode cX7_valueOf 10 = .ok (.aload_n 0, 1) := by decide +kernel
theorem dX7_valueOf_11 : decode cX7_valueOf 11 = .ok (.getfield 17, 3) := by decide +kernel
theorem dX7_valueOf_14 : decode cX7_valueOf 14 = .ok (.iconst 1, 1) := by decide +kernel
theorem dX7_valueOf_15 : decode cX7_valueOf 15 = .ok (.laload, 1) := by decide +kernel
theorem dX7_valueOf_16 : decode cX7_valueOf 16 = .ok (.lload_n 3, 1) := by decide +kernel
theorem dX7_valueOf_17 : decode cX7_valueOf 17 = .ok (.lmul, 1) := by decide +kernel
theorem dX7_valueOf_18 : decode cX7_valueOf 18 = .ok (.lload_n 3, 1) := by decide +kernel
theorem dX7_valueOf_19 : decode cX7_valueOf 19 = .ok (.lmul, 1) := by decide +kernel
theorem dX7_valueOf_20 : decode cX7_valueOf 20 = .ok (.ladd, 1) := by decide +kernel
theorem dX7_valueOf_21 : decode cX7_valueOf 21 = .ok (.aload_n 0, 1) := by decide +kernel
theorem dX7_valueOf_22 : decode cX7_valueOf 22 = .ok (.getfield 17, 3) := by decide +kernel
theorem dX7_valueOf_25 : decode cX7_valueOf 25 = .ok (.iconst 2, 1) := by decide +kernel
theorem dX7_valueOf_26 : decode cX7_valueOf 26 = .ok (.laload, 1) := by decide +kernel
theorem dX7_valueOf_27 : decode cX7_valueOf 27 = .ok (.lload 5, 2) := by decide +kernel
theorem dX7_valueOf_29 : decode cX7_valueOf 29 = .ok (.lmul, 1) := by decide +kernel
theorem dX7_valueOf_30 : decode cX7_valueOf 30 = .ok (.lload 5, 2) := by decide +kernel
theorem dX7_valueOf_32 : decode cX7_valueOf 32 = .ok (.lmul, 1) := by decide +kernel
theorem dX7_valueOf_33 : decode cX7_valueOf 33 = .ok (.ladd, 1) := by decide +kernel
theorem dX7_valueOf_34 : decode cX7_valueOf 34 = .ok (.aload_n 0, 1) := by decide +kernel
theorem dX7_valueOf_35 : decode cX7_valueOf 35 = .ok (.getfield 17, 3) := by decide +kernel
theorem dX7_valueOf_38 : decode cX7_valueOf 38 = .ok (.iconst 3, 1) := by decide +kernel
theorem dX7_valueOf_39 : decode cX7_valueOf 39 = .ok (.laload, 1) := by decide +kernel
theorem dX7_valueOf_40 : decode cX7_valueOf 40 = .ok (.lload_n 3, 1) := by decide +kernel
theorem dX7_valueOf_41 : decode cX7_valueOf 41 = .ok (.lmul, 1) := by decide +kernel
theorem dX7_valueOf_42 : decode cX7_valueOf 42 = .ok (.lload 5, 2) := by decide +kernel
theorem dX7_valueOf_44 : decode cX7_valueOf 44 = .ok (.lmul, 1) := by decide +kernel
theorem dX7_valueOf_45 : decode cX7_valueOf 45 = .ok (.ladd, 1) := by decide +kernel
theorem dX7_valueOf_46 : decode cX7_valueOf 46 = .ok (.aload_n 0, 1) := by decide +kernel
theorem dX7_valueOf_47 : decode cX7_valueOf 47 = .ok (.getfield 17, 3) := by decide +kernel
theorem dX7_valueOf_50 : decode cX7_valueOf 50 = .ok (.iconst 4, 1) := by decide +kernel
theorem dX7_valueOf_51 : decode cX7_valueOf 51 = .ok (.laload, 1) := by decide +kernel
theorem dX7_valueOf_52 : decode cX7_valueOf 52 = .ok (.lload_n 1, 1) := by decide +kernel
theorem dX7_valueOf_53 : decode cX7_valueOf 53 = .ok (.lmul, 1) := by decide +kernel
theorem dX7_valueOf_54 : decode cX7_valueOf 54 = .ok (.lload 5, 2) := by decide +kernel
theorem dX7_valueOf_56 : decode cX7_valueOf 56 = .ok (.lmul, 1) := by decide +kernel
theorem dX7_valueOf_57 : decode cX7_valueOf 57 = .ok (.ladd, 1) := by decide +kernel
theorem dX7_valueOf_58 : decode cX7_valueOf 58 = .ok (.aload_n 0, 1) := by decide +kernel
theorem dX7_valueOf_59 : decode cX7_valueOf 59 = .ok (.getfield 17, 3) := by decide +kernel
theorem dX7_valueOf_62 : decode cX7_valueOf 62 = .ok (.iconst 5, 1) := by decide +kernel
theorem dX7_valueOf_63 : decode cX7_valueOf 63 = .ok (.laload, 1) := by decide +kernel
theorem dX7_valueOf_64 : decode cX7_valueOf 64 = .ok (.lload_n 1, 1) := by decide +kernel
theorem dX7_valueOf_65 : decode cX7_valueOf 65 = .ok (.lmul, 1) := by decide +kernel
theorem dX7_valueOf_66 : decode cX7_valueOf 66 = .ok (.lload_n 3, 1) := by decide +kernel
theorem dX7_valueOf_67 : decode cX7_valueOf 67 = .ok (.lmul, 1) := by decide +kernel
theorem dX7_valueOf_68 : decode cX7_valueOf 68 = .ok (.ladd, 1) := by decide +kernel
theorem dX7_valueOf_69 : decode cX7_valueOf 69 = .ok (.lreturn, 1) := by decide +kernel
theorem dX7_touchOf_0 : decode cX7_touchOf 0 = .ok (.aload_n 0, 1) := by decide +kernel
theorem dX7_touchOf_1 : decode cX7_touchOf 1 = .ok (.lload_n 1, 1) := by decide +kernel
theorem dX7_touchOf_2 : decode cX7_touchOf 2 = .ok (.lload 7, 2) := by decide +kernel
theorem dX7_touchOf_4 : decode cX7_touchOf 4 = .ok (.ladd, 1) := by decide +kernel
theorem dX7_touchOf_5 : decode cX7_touchOf 5 = .ok (.lload_n 3, 1) := by decide +kernel
theorem dX7_touchOf_6 : decode cX7_touchOf 6 = .ok (.lload 9, 2) := by decide +kernel
theorem dX7_touchOf_8 : decode cX7_touchOf 8 = .ok (.ladd, 1) := by decide +kernel
theorem dX7_touchOf_9 : decode cX7_touchOf 9 = .ok (.lload 5, 2) := by decide +kernel
theorem dX7_touchOf_11 : decode cX7_touchOf 11 = .ok (.lload 11, 2) := by decide +kernel
theorem dX7_touchOf_13 : decode cX7_touchOf 13 = .ok (.ladd, 1) := by decide +kernel
theorem dX7_touchOf_14 : decode cX7_touchOf 14 = .ok (.invokevirtual 66, 3) := by decide +kernel
theorem dX7_touchOf_17 : decode cX7_touchOf 17 = .ok (.aload_n 0, 1) := by decide +kernel
theorem dX7_touchOf_18 : decode cX7_touchOf 18 = .ok (.lload_n 1, 1) := by decide +kernel
theorem dX7_touchOf_19 : decode cX7_touchOf 19 = .ok (.lload_n 3, 1) := by decide +kernel
theorem dX7_touchOf_20 : decode cX7_touchOf 20 = .ok (.lload 5, 2) := by decide +kernel
theorem dX7_touchOf_22 : decode cX7_touchOf 22 = .ok (.invokevirtual 66, 3) := by decide +kernel
theorem dX7_touchOf_25 : decode cX7_touchOf 25 = .ok (.lsub, 1) := by decide +kernel
theorem dX7_touchOf_26 : decode cX7_touchOf 26 = .ok (.aload_n 0, 1) := by decide +kernel
theorem dX7_touchOf_27 : decode cX7_touchOf 27 = .ok (.lload 7, 2) := by decide +kernel
theorem dX7_touchOf_29 : decode cX7_touchOf 29 = .ok (.lload 9, 2) := by decide +kernel
theorem dX7_touchOf_31 : decode cX7_touchOf 31 = .ok (.lload 11, 2) := by decide +kernel
theorem dX7_touchOf_33 : decode cX7_touchOf 33 = .ok (.invokevirtual 66, 3) := by decide +kernel
theorem dX7_touchOf_36 : decode cX7_touchOf 36 = .ok (.lsub, 1) := by decide +kernel
theorem dX7_touchOf_37 : decode cX7_touchOf 37 = .ok (.lreturn, 1) := by decide +kernel
theorem dX7_disc_0 : decode cX7_disc 0 = .ok (.ldc2_w 70, 3) := by decide +kernel
theorem dX7_disc_3 : decode cX7_disc 3 = .ok (.aload_n 0, 1) := by decide +kernel
theorem dX7_disc_4 : decode cX7_disc 4 = .ok (.getfield 17, 3) := by decide +kernel
theorem dX7_disc_7 : decode cX7_disc 7 = .ok (.iconst 0, 1) := by decide +kernel
theorem dX7_disc_8 : decode cX7_disc 8 = .ok (.laload, 1) := by decide +kernel
theorem dX7_disc_9 : decode cX7_disc 9 = .ok (.lmul, 1) := by decide +kernel
theorem dX7_disc_10 : decode cX7_disc 10 = .ok (.aload_n 0, 1) := by decide +kernel
theorem dX7_disc_11 : decode cX7_disc 11 = .ok (.getfield 17, 3) := by decide +kernel
theorem dX7_disc_14 : decode cX7_disc 14 = .ok (.iconst 1, 1) := by decide +kernel
theorem dX7_disc_15 : decode cX7_disc 15 = .ok (.laload, 1) := by decide +kernel
theorem dX7_disc_16 : decode cX7_disc 16 = .ok (.lmul, 1) := by decide +kernel
theorem dX7_disc_17 : decode cX7_disc 17 = .ok (.aload_n 0, 1) := by decide +kernel
theorem dX7_disc_18 : decode cX7_disc 18 = .ok (.getfield 17, 3) := by decide +kernel
theorem dX7_disc_21 : decode cX7_disc 21 = .ok (.iconst 2, 1) := by decide +kernel
theorem dX7_disc_22 : decode cX7_disc 22 = .ok (.laload, 1) := by decide +kernel
theorem dX7_disc_23 : decode cX7_disc 23 = .ok (.lmul, 1) := by decide +kernel
theorem dX7_disc_24 : decode cX7_disc 24 = .ok (.aload_n 0, 1) := by decide +kernel
theorem dX7_disc_25 : decode cX7_disc 25 = .ok (.getfield 17, 3) := by decide +kernel
theorem dX7_disc_28 : decode cX7_disc 28 = .ok (.iconst 3, 1) := by decide +kernel
theorem dX7_disc_29 : decode cX7_disc 29 = .ok (.laload, 1) := by decide +kernel
theorem dX7_disc_30 : decode cX7_disc 30 = .ok (.aload_n 0, 1) := by decide +kernel
theorem dX7_disc_31 : decode cX7_disc 31 = .ok (.getfield 17, 3) := by decide +kernel
theorem dX7_disc_34 : decode cX7_disc 34 = .ok (.iconst 4, 1) := by decide +kernel
theorem dX7_disc_35 : decode cX7_disc 35 = .ok (.laload, 1) := by decide +kernel
theorem dX7_disc_36 : decode cX7_disc 36 = .ok (.lmul, 1) := by decide +kernel
theorem dX7_disc_37 : decode cX7_disc 37 = .ok (.aload_n 0, 1) := by decide +kernel
theorem dX7_disc_38 : decode cX7_disc 38 = .ok (.getfield 17, 3) := by decide +kernel
theorem dX7_disc_41 : decode cX7_disc 41 = .ok (.iconst 5, 1) := by decide +kernel
theorem dX7_disc_42 : decode cX7_disc 42 = .ok (.laload, 1) := by decide +kernel
theorem dX7_disc_43 : decode cX7_disc 43 = .ok (.lmul, 1) := by decide +kernel
theorem dX7_disc_44 : decode cX7_disc 44 = .ok (.ladd, 1) := by decide +kernel
theorem dX7_disc_45 : decode cX7_disc 45 = .ok (.aload_n 0, 1) := by decide +kernel
theorem dX7_disc_46 : decode cX7_disc 46 = .ok (.getfield 17, 3) := by decide +kernel
theorem dX7_disc_49 : decode cX7_disc 49 = .ok (.iconst 0, 1) := by decide +kernel
theorem dX7_disc_50 : decode cX7_disc 50 = .ok (.laload, 1) := by decide +kernel
theorem dX7_disc_51 : decode cX7_disc 51 = .ok (.aload_n 0, 1) := by decide +kernel
theorem dX7_disc_52 : decode cX7_disc 52 = .ok (.getfield 17, 3) := by decide +kernel
theorem dX7_disc_55 : decode cX7_disc 55 = .ok (.iconst 3, 1) := by decide +kernel
theorem dX7_disc_56 : decode cX7_disc 56 = .ok (.laload, 1) := by decide +kernel
theorem dX7_disc_57 : decode cX7_disc 57 = .ok (.lmul, 1) := by decide +kernel
theorem dX7_disc_58 : decode cX7_disc 58 = .ok (.aload_n 0, 1) := by decide +kernel
theorem dX7_disc_59 : decode cX7_disc 59 = .ok (.getfield 17, 3) := by decide +kernel
theorem dX7_disc_62 : decode cX7_disc 62 = .ok (.iconst 3, 1) := by decide +kernel
theorem dX7_disc_63 : decode cX7_disc 63 = .ok (.laload, 1) := by decide +kernel
theorem dX7_disc_64 : decode cX7_disc 64 = .ok (.lmul, 1) := by decide +kernel
theorem dX7_disc_65 : decode cX7_disc 65 = .ok (.lsub, 1) := by decide +kernel
theorem dX7_disc_66 : decode cX7_disc 66 = .ok (.aload_n 0, 1) := by decide +kernel
theorem dX7_disc_67 : decode cX7_disc 67 = .ok (.getfield 17, 3) := by decide +kernel
theorem dX7_disc_70 : decode cX7_disc 70 = .ok (.iconst 1, 1) := by decide +kernel
theorem dX7_disc_71 : decode cX7_disc 71 = .ok (.laload, 1) := by decide +kernel
theorem dX7_disc_72 : decode cX7_disc 72 = .ok (.aload_n 0, 1) := by decide +kernel
theorem dX7_disc_73 : decode cX7_disc 73 = .ok (.getfield 17, 3) := by decide +kernel
theorem dX7_disc_76 : decode cX7_disc 76 = .ok (.iconst 4, 1) := by decide +kernel
theorem dX7_disc_77 : decode cX7_disc 77 = .ok (.laload, 1) := by decide +kernel
theorem dX7_disc_78 : decode cX7_disc 78 = .ok (.lmul, 1) := by decide +kernel
theorem dX7_disc_79 : decode cX7_disc 79 = .ok (.aload_n 0, 1) := by decide +kernel
theorem dX7_disc_80 : decode cX7_disc 80 = .ok (.getfield 17, 3) := by decide +kernel
theorem dX7_disc_83 : decode cX7_disc 83 = .ok (.iconst 4, 1) := by decide +kernel
theorem dX7_disc_84 : decode cX7_disc 84 = .ok (.laload, 1) := by decide +kernel
theorem dX7_disc_85 : decode cX7_disc 85 = .ok (.lmul, 1) := by decide +kernel
theorem dX7_disc_86 : decode cX7_disc 86 = .ok (.lsub, 1) := by decide +kernel
theorem dX7_disc_87 : decode cX7_disc 87 = .ok (.aload_n 0, 1) := by decide +kernel
theorem dX7_disc_88 : decode cX7_disc 88 = .ok (.getfield 17, 3) := by decide +kernel
theorem dX7_disc_91 : decode cX7_disc 91 = .ok (.iconst 2, 1) := by decide +kernel
theorem dX7_disc_92 : decode cX7_disc 92 = .ok (.laload, 1) := by decide +kernel
theorem dX7_disc_93 : decode cX7_disc 93 = .ok (.aload_n 0, 1) := by decide +kernel
theorem dX7_disc_94 : decode cX7_disc 94 = .ok (.getfield 17, 3) := by decide +kernel
theorem dX7_disc_97 : decode cX7_disc 97 = .ok (.iconst 5, 1) := by decide +kernel
theorem dX7_disc_98 : decode cX7_disc 98 = .ok (.laload, 1) := by decide +kernel
theorem dX7_disc_99 : decode cX7_disc 99 = .ok (.lmul, 1) := by decide +kernel
theorem dX7_disc_100 : decode cX7_disc 100 = .ok (.aload_n 0, 1) := by decide +kernel
theorem dX7_disc_101 : decode cX7_disc 101 = .ok (.getfield 17, 3) := by decide +kernel
theorem dX7_disc_104 : decode cX7_disc 104 = .ok (.iconst 5, 1) := by decide +kernel
theorem dX7_disc_105 : decode cX7_disc 105 = .ok (.laload, 1) := by decide +kernel
theorem dX7_disc_106 : decode cX7_disc 106 = .ok (.lmul, 1) := by decide +kernel
theorem dX7_disc_107 : decode cX7_disc 107 = .ok (.lsub, 1) := by decide +kernel
theorem dX7_disc_108 : decode cX7_disc 108 = .ok (.lreturn, 1) := by decide +kernel
theorem dX7_hold_0 : decode cX7_hold 0 = .ok (.iconst 0, 1) := by decide +kernel
theorem dX7_hold_1 : decode cX7_hold 1 = .ok (.istore_n 2, 1) := by decide +kernel
theorem dX7_hold_2 : decode cX7_hold 2 = .ok (.iload_n 2, 1) := by decide +kernel
theorem dX7_hold_3 : decode cX7_hold 3 = .ok (.bipush 6, 2) := by decide +kernel
theorem dX7_hold_5 : decode cX7_hold 5 = .ok (.if_icmp .ge 27, 3) := by decide +kernel
theorem dX7_hold_8 : decode cX7_hold 8 = .ok (.aload_n 0, 1) := by decide +kernel
theorem dX7_hold_9 : decode cX7_hold 9 = .ok (.getfield 17, 3) := by decide +kernel
theorem dX7_hold_12 : decode cX7_hold 12 = .ok (.iload_n 2, 1) := by decide +kernel
theorem dX7_hold_13 : decode cX7_hold 13 = .ok (.aload_n 0, 1) := by decide +kernel
theorem dX7_hold_14 : decode cX7_hold 14 = .ok (.getfield 7, 3) := by decide +kernel
theorem dX7_hold_17 : decode cX7_hold 17 = .ok (.bipush 6, 2) := by decide +kernel
theorem dX7_hold_19 : decode cX7_hold 19 = .ok (.iload_n 1, 1) := by decide +kernel
theorem dX7_hold_20 : decode cX7_hold 20 = .ok (.imul, 1) := by decide +kernel
theorem dX7_hold_21 : decode cX7_hold 21 = .ok (.iload_n 2, 1) := by decide +kernel
theorem dX7_hold_22 : decode cX7_hold 22 = .ok (.iadd, 1) := by decide +kernel
theorem dX7_hold_23 : decode cX7_hold 23 = .ok (.iaload, 1) := by decide +kernel
theorem dX7_hold_24 : decode cX7_hold 24 = .ok (.i2l, 1) := by decide +kernel
theorem dX7_hold_25 : decode cX7_hold 25 = .ok (.lastore, 1) := by decide +kernel
theorem dX7_hold_26 : decode cX7_hold 26 = .ok (.iinc 2 1, 3) := by decide +kernel
theorem dX7_hold_29 : decode cX7_hold 29 = .ok (.goto (-27), 3) := by decide +kernel
theorem dX7_hold_32 : decode cX7_hold 32 = .ok (.return_, 1) := by decide +kernel
theorem dX7_root_0 : decode cX7_root 0 = .ok (.lconst 0, 1) := by decide +kernel
theorem dX7_root_1 : decode cX7_root 1 = .ok (.lstore_n 2, 1) := by decide +kernel
theorem dX7_root_2 : decode cX7_root 2 = .ok (.ldc2_w 72, 3) := by decide +kernel
theorem dX7_root_5 : decode cX7_root 5 = .ok (.lstore 4, 2) := by decide +kernel
theorem dX7_root_7 : decode cX7_root 7 = .ok (.lload 4, 2) := by decide +kernel
theorem dX7_root_9 : decode cX7_root 9 = .ok (.lconst 0, 1) := by decide +kernel
theorem dX7_root_10 : decode cX7_root 10 = .ok (.lcmp, 1) := by decide +kernel
theorem dX7_root_11 : decode cX7_root 11 = .ok (.ifCond .le 35, 3) := by decide +kernel
theorem dX7_root_14 : decode cX7_root 14 = .ok (.lload_n 2, 1) := by decide +kernel
theorem dX7_root_15 : decode cX7_root 15 = .ok (.lload 4, 2) := by decide +kernel
theorem dX7_root_17 : decode cX7_root 17 = .ok (.ladd, 1) := by decide +kernel
theorem dX7_root_18 : decode cX7_root 18 = .ok (.lload_n 2, 1) := by decide +kernel
theorem dX7_root_19 : decode cX7_root 19 = .ok (.lload 4, 2) := by decide +kernel
theorem dX7_root_21 : decode cX7_root 21 = .ok (.ladd, 1) := by decide +kernel
theorem dX7_root_22 : decode cX7_root 22 = .ok (.lmul, 1) := by decide +kernel
theorem dX7_root_23 : decode cX7_root 23 = .ok (.lload_n 0, 1) := by decide +kernel
theorem dX7_root_24 : decode cX7_root 24 = .ok (.lcmp, 1) := by decide +kernel
theorem dX7_root_25 : decode cX7_root 25 = .ok (.ifCond .gt 10, 3) := by decide +kernel
theorem dX7_root_28 : decode cX7_root 28 = .ok (.lload_n 2, 1) := by decide +kernel
theorem dX7_root_29 : decode cX7_root 29 = .ok (.lload 4, 2) := by decide +kernel
theorem dX7_root_31 : decode cX7_root 31 = .ok (.ladd, 1) := by decide +kernel
theorem dX7_root_32 : decode cX7_root 32 = .ok (.goto 4, 3) := by decide +kernel
theorem dX7_root_35 : decode cX7_root 35 = .ok (.lload_n 2, 1) := by decide +kernel
theorem dX7_root_36 : decode cX7_root 36 = .ok (.lstore_n 2, 1) := by decide +kernel
theorem dX7_root_37 : decode cX7_root 37 = .ok (.lload 4, 2) := by decide +kernel
theorem dX7_root_39 : decode cX7_root 39 = .ok (.iconst 1, 1) := by decide +kernel
theorem dX7_root_40 : decode cX7_root 40 = .ok (.lshr, 1) := by decide +kernel
theorem dX7_root_41 : decode cX7_root 41 = .ok (.lstore 4, 2) := by decide +kernel
theorem dX7_root_43 : decode cX7_root 43 = .ok (.goto (-36), 3) := by decide +kernel
theorem dX7_root_46 : decode cX7_root 46 = .ok (.lload_n 2, 1) := by decide +kernel
theorem dX7_root_47 : decode cX7_root 47 = .ok (.lreturn, 1) := by decide +kernel
theorem dX7_reach_0 : decode cX7_reach 0 = .ok (.iload_n 1, 1) := by decide +kernel
theorem dX7_reach_1 : decode cX7_reach 1 = .ok (.ifCond .ne 37, 3) := by decide +kernel
theorem dX7_reach_4 : decode cX7_reach 4 = .ok (.ldc2_w 70, 3) := by decide +kernel
theorem dX7_reach_7 : decode cX7_reach 7 = .ok (.aload_n 0, 1) := by decide +kernel
theorem dX7_reach_8 : decode cX7_reach 8 = .ok (.getfield 17, 3) := by decide +kernel
theorem dX7_reach_11 : decode cX7_reach 11 = .ok (.iconst 1, 1) := by decide +kernel
theorem dX7_reach_12 : decode cX7_reach 12 = .ok (.laload, 1) := by decide +kernel
theorem dX7_reach_13 : decode cX7_reach 13 = .ok (.lmul, 1) := by decide +kernel
theorem dX7_reach_14 : decode cX7_reach 14 = .ok (.aload_n 0, 1) := by decide +kernel
theorem dX7_reach_15 : decode cX7_reach 15 = .ok (.getfield 17, 3) := by decide +kernel
theorem dX7_reach_18 : decode cX7_reach 18 = .ok (.iconst 2, 1) := by decide +kernel
theorem dX7_reach_19 : decode cX7_reach 19 = .ok (.laload, 1) := by decide +kernel
theorem dX7_reach_20 : decode cX7_reach 20 = .ok (.lmul, 1) := by decide +kernel
theorem dX7_reach_21 : decode cX7_reach 21 = .ok (.aload_n 0, 1) := by decide +kernel
theorem dX7_reach_22 : decode cX7_reach 22 = .ok (.getfield 17, 3) := by decide +kernel
theorem dX7_reach_25 : decode cX7_reach 25 = .ok (.iconst 3, 1) := by decide +kernel
theorem dX7_reach_26 : decode cX7_reach 26 = .ok (.laload, 1) := by decide +kernel
theorem dX7_reach_27 : decode cX7_reach 27 = .ok (.aload_n 0, 1) := by decide +kernel
theorem dX7_reach_28 : decode cX7_reach 28 = .ok (.getfield 17, 3) := by decide +kernel
theorem dX7_reach_31 : decode cX7_reach 31 = .ok (.iconst 3, 1) := by decide +kernel
theorem dX7_reach_32 : decode cX7_reach 32 = .ok (.laload, 1) := by decide +kernel
theorem dX7_reach_33 : decode cX7_reach 33 = .ok (.lmul, 1) := by decide +kernel
theorem dX7_reach_34 : decode cX7_reach 34 = .ok (.lsub, 1) := by decide +kernel
theorem dX7_reach_35 : decode cX7_reach 35 = .ok (.goto 73, 3) := by decide +kernel
theorem dX7_reach_38 : decode cX7_reach 38 = .ok (.iload_n 1, 1) := by decide +kernel
theorem dX7_reach_39 : decode cX7_reach 39 = .ok (.iconst 1, 1) := by decide +kernel
theorem dX7_reach_40 : decode cX7_reach 40 = .ok (.if_icmp .ne 37, 3) := by decide +kernel
theorem dX7_reach_43 : decode cX7_reach 43 = .ok (.ldc2_w 70, 3) := by decide +kernel
theorem dX7_reach_46 : decode cX7_reach 46 = .ok (.aload_n 0, 1) := by decide +kernel
theorem dX7_reach_47 : decode cX7_reach 47 = .ok (.getfield 17, 3) := by decide +kernel
theorem dX7_reach_50 : decode cX7_reach 50 = .ok (.iconst 0, 1) := by decide +kernel
theorem dX7_reach_51 : decode cX7_reach 51 = .ok (.laload, 1) := by decide +kernel
theorem dX7_reach_52 : decode cX7_reach 52 = .ok (.lmul, 1) := by decide +kernel
theorem dX7_reach_53 : decode cX7_reach 53 = .ok (.aload_n 0, 1) := by decide +kernel
theorem dX7_reach_54 : decode cX7_reach 54 = .ok (.getfield 17, 3) := by decide +kernel
theorem dX7_reach_57 : decode cX7_reach 57 = .ok (.iconst 2, 1) := by decide +kernel
theorem dX7_reach_58 : decode cX7_reach 58 = .ok (.laload, 1) := by decide +kernel
theorem dX7_reach_59 : decode cX7_reach 59 = .ok (.lmul, 1) := by decide +kernel
theorem dX7_reach_60 : decode cX7_reach 60 = .ok (.aload_n 0, 1) := by decide +kernel
theorem dX7_reach_61 : decode cX7_reach 61 = .ok (.getfield 17, 3) := by decide +kernel
theorem dX7_reach_64 : decode cX7_reach 64 = .ok (.iconst 4, 1) := by decide +kernel
theorem dX7_reach_65 : decode cX7_reach 65 = .ok (.laload, 1) := by decide +kernel
theorem dX7_reach_66 : decode cX7_reach 66 = .ok (.aload_n 0, 1) := by decide +kernel
theorem dX7_reach_67 : decode cX7_reach 67 = .ok (.getfield 17, 3) := by decide +kernel
theorem dX7_reach_70 : decode cX7_reach 70 = .ok (.iconst 4, 1) := by decide +kernel
theorem dX7_reach_71 : decode cX7_reach 71 = .ok (.laload, 1) := by decide +kernel
theorem dX7_reach_72 : decode cX7_reach 72 = .ok (.lmul, 1) := by decide +kernel
theorem dX7_reach_73 : decode cX7_reach 73 = .ok (.lsub, 1) := by decide +kernel
theorem dX7_reach_74 : decode cX7_reach 74 = .ok (.goto 34, 3) := by decide +kernel
theorem dX7_reach_77 : decode cX7_reach 77 = .ok (.ldc2_w 70, 3) := by decide +kernel
theorem dX7_reach_80 : decode cX7_reach 80 = .ok (.aload_n 0, 1) := by decide +kernel
theorem dX7_reach_81 : decode cX7_reach 81 = .ok (.getfield 17, 3) := by decide +kernel
theorem dX7_reach_84 : decode cX7_reach 84 = .ok (.iconst 0, 1) := by decide +kernel
theorem dX7_reach_85 : decode cX7_reach 85 = .ok (.laload, 1) := by decide +kernel
theorem dX7_reach_86 : decode cX7_reach 86 = .ok (.lmul, 1) := by decide +kernel
theorem dX7_reach_87 : decode cX7_reach 87 = .ok (.aload_n 0, 1) := by decide +kernel
theorem dX7_reach_88 : decode cX7_reach 88 = .ok (.getfield 17, 3) := by decide +kernel
theorem dX7_reach_91 : decode cX7_reach 91 = .ok (.iconst 1, 1) := by decide +kernel
theorem dX7_reach_92 : decode cX7_reach 92 = .ok (.laload, 1) := by decide +kernel
theorem dX7_reach_93 : decode cX7_reach 93 = .ok (.lmul, 1) := by decide +kernel
theorem dX7_reach_94 : decode cX7_reach 94 = .ok (.aload_n 0, 1) := by decide +kernel
theorem dX7_reach_95 : decode cX7_reach 95 = .ok (.getfield 17, 3) := by decide +kernel
theorem dX7_reach_98 : decode cX7_reach 98 = .ok (.iconst 5, 1) := by decide +kernel
theorem dX7_reach_99 : decode cX7_reach 99 = .ok (.laload, 1) := by decide +kernel
theorem dX7_reach_100 : decode cX7_reach 100 = .ok (.aload_n 0, 1) := by decide +kernel
theorem dX7_reach_101 : decode cX7_reach 101 = .ok (.getfield 17, 3) := by decide +kernel
theorem dX7_reach_104 : decode cX7_reach 104 = .ok (.iconst 5, 1) := by decide +kernel
theorem dX7_reach_105 : decode cX7_reach 105 = .ok (.laload, 1) := by decide +kernel
theorem dX7_reach_106 : decode cX7_reach 106 = .ok (.lmul, 1) := by decide +kernel
theorem dX7_reach_107 : decode cX7_reach 107 = .ok (.lsub, 1) := by decide +kernel
theorem dX7_reach_108 : decode cX7_reach 108 = .ok (.lstore 4, 2) := by decide +kernel
theorem dX7_reach_110 : decode cX7_reach 110 = .ok (.lload_n 2, 1) := by decide +kernel
theorem dX7_reach_111 : decode cX7_reach 111 = .ok (.lload 4, 2) := by decide +kernel
theorem dX7_reach_113 : decode cX7_reach 113 = .ok (.lmul, 1) := by decide +kernel
theorem dX7_reach_114 : decode cX7_reach 114 = .ok (.aload_n 0, 1) := by decide +kernel
theorem dX7_reach_115 : decode cX7_reach 115 = .ok (.invokevirtual 74, 3) := by decide +kernel
theorem dX7_reach_118 : decode cX7_reach 118 = .ok (.ldiv, 1) := by decide +kernel
theorem dX7_reach_119 : decode cX7_reach 119 = .ok (.invokestatic 78, 3) := by decide +kernel
theorem dX7_reach_122 : decode cX7_reach 122 = .ok (.lreturn, 1) := by decide +kernel
theorem dX7_touchAt_0 : decode cX7_touchAt 0 = .ok (.bipush 6, 2) := by decide +kernel
theorem dX7_touchAt_2 : decode cX7_touchAt 2 = .ok (.iload_n 0, 1) := by decide +kernel
theorem dX7_touchAt_3 : decode cX7_touchAt 3 = .ok (.isub, 1) := by decide +kernel
theorem dX7_touchAt_4 : decode cX7_touchAt 4 = .ok (.iload_n 1, 1) := by decide +kernel
theorem dX7_touchAt_5 : decode cX7_touchAt 5 = .ok (.isub, 1) := by decide +kernel
theorem dX7_touchAt_6 : decode cX7_touchAt 6 = .ok (.ireturn, 1) := by decide +kernel
theorem dX7_take_0 : decode cX7_take 0 = .ok (.iconst 3, 1) := by decide +kernel
theorem dX7_take_1 : decode cX7_take 1 = .ok (.iload_n 1, 1) := by decide +kernel
theorem dX7_take_2 : decode cX7_take 2 = .ok (.isub, 1) := by decide +kernel
theorem dX7_take_3 : decode cX7_take 3 = .ok (.iload_n 2, 1) := by decide +kernel
theorem dX7_take_4 : decode cX7_take 4 = .ok (.isub, 1) := by decide +kernel
theorem dX7_take_5 : decode cX7_take 5 = .ok (.istore_n 3, 1) := by decide +kernel
theorem dX7_take_6 : decode cX7_take 6 = .ok (.aload_n 0, 1) := by decide +kernel
theorem dX7_take_7 : decode cX7_take 7 = .ok (.getfield 17, 3) := by decide +kernel
theorem dX7_take_10 : decode cX7_take 10 = .ok (.iload_n 1, 1) := by decide +kernel
theorem dX7_take_11 : decode cX7_take 11 = .ok (.iload_n 2, 1) := by decide +kernel
theorem dX7_take_12 : decode cX7_take 12 = .ok (.invokestatic 82, 3) := by decide +kernel
theorem dX7_take_15 : decode cX7_take 15 = .ok (.laload, 1) := by decide +kernel
theorem dX7_take_16 : decode cX7_take 16 = .ok (.lstore 4, 2) := by decide +kernel
theorem dX7_take_18 : decode cX7_take 18 = .ok (.ldc2_w 86, 3) := by decide +kernel
theorem dX7_take_21 : decode cX7_take 21 = .ok (.aload_n 0, 1) := by decide +kernel
theorem dX7_take_22 : decode cX7_take 22 = .ok (.getfield 17, 3) := by decide +kernel
theorem dX7_take_25 : decode cX7_take 25 = .ok (.iload_n 1, 1) := by decide +kernel
theorem dX7_take_26 : decode cX7_take 26 = .ok (.laload, 1) := by decide +kernel
theorem dX7_take_27 : decode cX7_take 27 = .ok (.lmul, 1) := by decide +kernel
theorem dX7_take_28 : decode cX7_take 28 = .ok (.lstore 6, 2) := by decide +kernel
theorem dX7_take_30 : decode cX7_take 30 = .ok (.lload 4, 2) := by decide +kernel
theorem dX7_take_32 : decode cX7_take 32 = .ok (.aload_n 0, 1) := by decide +kernel
theorem dX7_take_33 : decode cX7_take 33 = .ok (.getfield 17, 3) := by decide +kernel
theorem dX7_take_36 : decode cX7_take 36 = .ok (.iload_n 1, 1) := by decide +kernel
theorem dX7_take_37 : decode cX7_take 37 = .ok (.laload, 1) := by decide +kernel
theorem dX7_take_38 : decode cX7_take 38 = .ok (.ladd, 1) := by decide +kernel
theorem dX7_take_39 : decode cX7_take 39 = .ok (.lstore 8, 2) := by decide +kernel
theorem dX7_take_41 : decode cX7_take 41 = .ok (.lload 8, 2) := by decide +kernel
theorem dX7_take_43 : decode cX7_take 43 = .ok (.lconst 0, 1) := by decide +kernel
theorem dX7_take_44 : decode cX7_take 44 = .ok (.lcmp, 1) := by decide +kernel
theorem dX7_take_45 : decode cX7_take 45 = .ok (.ifCond .lt 11, 3) := by decide +kernel
theorem dX7_take_48 : decode cX7_take 48 = .ok (.lload 8, 2) := by decide +kernel
theorem dX7_take_50 : decode cX7_take 50 = .ok (.lload 6, 2) := by decide +kernel
theorem dX7_take_52 : decode cX7_take 52 = .ok (.ldiv, 1) := by decide +kernel
theorem dX7_take_53 : decode cX7_take 53 = .ok (.goto 15, 3) := by decide +kernel
theorem dX7_take_56 : decode cX7_take 56 = .ok (.lload 8, 2) := by decide +kernel
theorem dX7_take_58 : decode cX7_take 58 = .ok (.lneg, 1) := by decide +kernel
theorem dX7_take_59 : decode cX7_take 59 = .ok (.lload 6, 2) := by decide +kernel
theorem dX7_take_61 : decode cX7_take 61 = .ok (.ladd, 1) := by decide +kernel
theorem dX7_take_62 : decode cX7_take 62 = .ok (.lconst 1, 1) := by decide +kernel
theorem dX7_take_63 : decode cX7_take 63 = .ok (.lsub, 1) := by decide +kernel
theorem dX7_take_64 : decode cX7_take 64 = .ok (.lload 6, 2) := by decide +kernel
theorem dX7_take_66 : decode cX7_take 66 = .ok (.ldiv, 1) := by decide +kernel
theorem dX7_take_67 : decode cX7_take 67 = .ok (.lneg, 1) := by decide +kernel
theorem dX7_take_68 : decode cX7_take 68 = .ok (.lstore 10, 2) := by decide +kernel
theorem dX7_take_70 : decode cX7_take 70 = .ok (.aload_n 0, 1) := by decide +kernel
theorem dX7_take_71 : decode cX7_take 71 = .ok (.getfield 17, 3) := by decide +kernel
theorem dX7_take_74 : decode cX7_take 74 = .ok (.iload_n 2, 1) := by decide +kernel
theorem dX7_take_75 : decode cX7_take 75 = .ok (.laload, 1) := by decide +kernel
theorem dX7_take_76 : decode cX7_take 76 = .ok (.lload 10, 2) := by decide +kernel
theorem dX7_take_78 : decode cX7_take 78 = .ok (.lload 4, 2) := by decide +kernel
theorem dX7_take_80 : decode cX7_take 80 = .ok (.lmul, 1) := by decide +kernel
theorem dX7_take_81 : decode cX7_take 81 = .ok (.lsub, 1) := by decide +kernel
theorem dX7_take_82 : decode cX7_take 82 = .ok (.lload 10, 2) := by decide +kernel
theorem dX7_take_84 : decode cX7_take 84 = .ok (.lload 10, 2) := by decide +kernel
theorem dX7_take_86 : decode cX7_take 86 = .ok (.lmul, 1) := by decide +kernel
theorem dX7_take_87 : decode cX7_take 87 = .ok (.aload_n 0, 1) := by decide +kernel
theorem dX7_take_88 : decode cX7_take 88 = .ok (.getfield 17, 3) := by decide +kernel
theorem dX7_take_91 : decode cX7_take 91 = .ok (.iload_n 1, 1) := by decide +kernel
theorem dX7_take_92 : decode cX7_take 92 = .ok (.laload, 1) := by decide +kernel
theorem dX7_take_93 : decode cX7_take 93 = .ok (.lmul, 1) := by decide +kernel
theorem dX7_take_94 : decode cX7_take 94 = .ok (.ladd, 1) := by decide +kernel
theorem dX7_take_95 : decode cX7_take 95 = .ok (.lstore 12, 2) := by decide +kernel
theorem dX7_take_97 : decode cX7_take 97 = .ok (.lload 12, 2) := by decide +kernel
theorem dX7_take_99 : decode cX7_take 99 = .ok (.aload_n 0, 1) := by decide +kernel
theorem dX7_take_100 : decode cX7_take 100 = .ok (.getfield 17, 3) := by decide +kernel
theorem dX7_take_103 : decode cX7_take 103 = .ok (.iload_n 2, 1) := by decide +kernel
theorem dX7_take_104 : decode cX7_take 104 = .ok (.laload, 1) := by decide +kernel
theorem dX7_take_105 : decode cX7_take 105 = .ok (.lcmp, 1) := by decide +kernel
theorem dX7_take_106 : decode cX7_take 106 = .ok (.ifCond .lt 5, 3) := by decide +kernel
theorem dX7_take_109 : decode cX7_take 109 = .ok (.iconst 0, 1) := by decide +kernel
theorem dX7_take_110 : decode cX7_take 110 = .ok (.ireturn, 1) := by decide +kernel
theorem dX7_take_111 : decode cX7_take 111 = .ok (.aload_n 0, 1) := by decide +kernel
theorem dX7_take_112 : decode cX7_take 112 = .ok (.getfield 17, 3) := by decide +kernel
theorem dX7_take_115 : decode cX7_take 115 = .ok (.iload_n 2, 1) := by decide +kernel
theorem dX7_take_116 : decode cX7_take 116 = .ok (.lload 12, 2) := by decide +kernel
theorem dX7_take_118 : decode cX7_take 118 = .ok (.lastore, 1) := by decide +kernel
theorem dX7_take_119 : decode cX7_take 119 = .ok (.aload_n 0, 1) := by decide +kernel
theorem dX7_take_120 : decode cX7_take 120 = .ok (.getfield 17, 3) := by decide +kernel
theorem dX7_take_123 : decode cX7_take 123 = .ok (.iload_n 1, 1) := by decide +kernel
theorem dX7_take_124 : decode cX7_take 124 = .ok (.iload_n 2, 1) := by decide +kernel
theorem dX7_take_125 : decode cX7_take 125 = .ok (.invokestatic 82, 3) := by decide +kernel
theorem dX7_take_128 : decode cX7_take 128 = .ok (.lload 4, 2) := by decide +kernel
theorem dX7_take_130 : decode cX7_take 130 = .ok (.lload 10, 2) := by decide +kernel
theorem dX7_take_132 : decode cX7_take 132 = .ok (.lload 6, 2) := by decide +kernel
theorem dX7_take_134 : decode cX7_take 134 = .ok (.lmul, 1) := by decide +kernel
theorem dX7_take_135 : decode cX7_take 135 = .ok (.lsub, 1) := by decide +kernel
theorem dX7_take_136 : decode cX7_take 136 = .ok (.lastore, 1) := by decide +kernel
theorem dX7_take_137 : decode cX7_take 137 = .ok (.aload_n 0, 1) := by decide +kernel
theorem dX7_take_138 : decode cX7_take 138 = .ok (.getfield 17, 3) := by decide +kernel
theorem dX7_take_141 : decode cX7_take 141 = .ok (.iload_n 2, 1) := by decide +kernel
theorem dX7_take_142 : decode cX7_take 142 = .ok (.iload_n 3, 1) := by decide +kernel
theorem dX7_take_143 : decode cX7_take 143 = .ok (.invokestatic 82, 3) := by decide +kernel
theorem dX7_take_146 : decode cX7_take 146 = .ok (.dup2, 1) := by decide +kernel
theorem dX7_take_147 : decode cX7_take 147 = .ok (.laload, 1) := by decide +kernel
theorem dX7_take_148 : decode cX7_take 148 = .ok (.lload 10, 2) := by decide +kernel
theorem dX7_take_150 : decode cX7_take 150 = .ok (.aload_n 0, 1) := by decide +kernel
theorem dX7_take_151 : decode cX7_take 151 = .ok (.getfield 17, 3) := by decide +kernel
theorem dX7_take_154 : decode cX7_take 154 = .ok (.iload_n 1, 1) := by decide +kernel
theorem dX7_take_155 : decode cX7_take 155 = .ok (.iload_n 3, 1) := by decide +kernel
theorem dX7_take_156 : decode cX7_take 156 = .ok (.invokestatic 82, 3) := by decide +kernel
theorem dX7_take_159 : decode cX7_take 159 = .ok (.laload, 1) := by decide +kernel
theorem dX7_take_160 : decode cX7_take 160 = .ok (.lmul, 1) := by decide +kernel
theorem dX7_take_161 : decode cX7_take 161 = .ok (.lsub, 1) := by decide +kernel
theorem dX7_take_162 : decode cX7_take 162 = .ok (.lastore, 1) := by decide +kernel
theorem dX7_take_163 : decode cX7_take 163 = .ok (.iconst 0, 1) := by decide +kernel
theorem dX7_take_164 : decode cX7_take 164 = .ok (.istore 14, 2) := by decide +kernel
theorem dX7_take_166 : decode cX7_take 166 = .ok (.iload 14, 2) := by decide +kernel
theorem dX7_take_168 : decode cX7_take 168 = .ok (.iconst 3, 1) := by decide +kernel
theorem dX7_take_169 : decode cX7_take 169 = .ok (.if_icmp .ge 37, 3) := by decide +kernel
theorem dX7_take_172 : decode cX7_take 172 = .ok (.aload_n 0, 1) := by decide +kernel
theorem dX7_take_173 : decode cX7_take 173 = .ok (.getfield 21, 3) := by decide +kernel
theorem dX7_take_176 : decode cX7_take 176 = .ok (.iconst 3, 1) := by decide +kernel
theorem dX7_take_177 : decode cX7_take 177 = .ok (.iload_n 2, 1) := by decide +kernel
theorem dX7_take_178 : decode cX7_take 178 = .ok (.imul, 1) := by decide +kernel
theorem dX7_take_179 : decode cX7_take 179 = .ok (.iload 14, 2) := by decide +kernel
theorem dX7_take_181 : decode cX7_take 181 = .ok (.iadd, 1) := by decide +kernel
theorem dX7_take_182 : decode cX7_take 182 = .ok (.dup2, 1) := by decide +kernel
theorem dX7_take_183 : decode cX7_take 183 = .ok (.laload, 1) := by decide +kernel
theorem dX7_take_184 : decode cX7_take 184 = .ok (.lload 10, 2) := by decide +kernel
theorem dX7_take_186 : decode cX7_take 186 = .ok (.aload_n 0, 1) := by decide +kernel
theorem dX7_take_187 : decode cX7_take 187 = .ok (.getfield 21, 3) := by decide +kernel
theorem dX7_take_190 : decode cX7_take 190 = .ok (.iconst 3, 1) := by decide +kernel
theorem dX7_take_191 : decode cX7_take 191 = .ok (.iload_n 1, 1) := by decide +kernel
theorem dX7_take_192 : decode cX7_take 192 = .ok (.imul, 1) := by decide +kernel
theorem dX7_take_193 : decode cX7_take 193 = .ok (.iload 14, 2) := by decide +kernel
theorem dX7_take_195 : decode cX7_take 195 = .ok (.iadd, 1) := by decide +kernel
theorem dX7_take_196 : decode cX7_take 196 = .ok (.laload, 1) := by decide +kernel
theorem dX7_take_197 : decode cX7_take 197 = .ok (.lmul, 1) := by decide +kernel
theorem dX7_take_198 : decode cX7_take 198 = .ok (.lsub, 1) := by decide +kernel
theorem dX7_take_199 : decode cX7_take 199 = .ok (.lastore, 1) := by decide +kernel
theorem dX7_take_200 : decode cX7_take 200 = .ok (.iinc 14 1, 3) := by decide +kernel
theorem dX7_take_203 : decode cX7_take 203 = .ok (.goto (-37), 3) := by decide +kernel
theorem dX7_take_206 : decode cX7_take 206 = .ok (.iconst 1, 1) := by decide +kernel
theorem dX7_take_207 : decode cX7_take 207 = .ok (.ireturn, 1) := by decide +kernel
theorem dX7_shorten_0 : decode cX7_shorten 0 = .ok (.iconst 0, 1) := by decide +kernel
theorem dX7_shorten_1 : decode cX7_shorten 1 = .ok (.istore_n 1, 1) := by decide +kernel
theorem dX7_shorten_2 : decode cX7_shorten 2 = .ok (.iload_n 1, 1) := by decide +kernel
theorem dX7_shorten_3 : decode cX7_shorten 3 = .ok (.bipush 9, 2) := by decide +kernel
theorem dX7_shorten_5 : decode cX7_shorten 5 = .ok (.if_icmp .ge 26, 3) := by decide +kernel
theorem dX7_shorten_8 : decode cX7_shorten 8 = .ok (.aload_n 0, 1) := by decide +kernel
theorem dX7_shorten_9 : decode cX7_shorten 9 = .ok (.getfield 21, 3) := by decide +kernel
theorem dX7_shorten_12 : decode cX7_shorten 12 = .ok (.iload_n 1, 1) := by decide +kernel
theorem dX7_shorten_13 : decode cX7_shorten 13 = .ok (.iload_n 1, 1) := by decide +kernel
theorem dX7_shorten_14 : decode cX7_shorten 14 = .ok (.iconst 4, 1) := by decide +kernel
theorem dX7_shorten_15 : decode cX7_shorten 15 = .ok (.irem, 1) := by decide +kernel
theorem dX7_shorten_16 : decode cX7_shorten 16 = .ok (.ifCond .ne 7, 3) := by decide +kernel
theorem dX7_shorten_19 : decode cX7_shorten 19 = .ok (.lconst 1, 1) := by decide +kernel
theorem dX7_shorten_20 : decode cX7_shorten 20 = .ok (.goto 4, 3) := by decide +kernel
theorem dX7_shorten_23 : decode cX7_shorten 23 = .ok (.lconst 0, 1) := by decide +kernel
theorem dX7_shorten_24 : decode cX7_shorten 24 = .ok (.lastore, 1) := by decide +kernel
theorem dX7_shorten_25 : decode cX7_shorten 25 = .ok (.iinc 1 1, 3) := by decide +kernel
theorem dX7_shorten_28 : decode cX7_shorten 28 = .ok (.goto (-26), 3) := by decide +kernel
theorem dX7_shorten_31 : decode cX7_shorten 31 = .ok (.iconst 1, 1) := by decide +kernel
theorem dX7_shorten_32 : decode cX7_shorten 32 = .ok (.istore_n 1, 1) := by decide +kernel
theorem dX7_shorten_33 : decode cX7_shorten 33 = .ok (.iload_n 1, 1) := by decide +kernel
theorem dX7_shorten_34 : decode cX7_shorten 34 = .ok (.ifCond .eq 57, 3) := by decide +kernel
theorem dX7_shorten_37 : decode cX7_shorten 37 = .ok (.iconst 0, 1) := by decide +kernel
theorem dX7_shorten_38 : decode cX7_shorten 38 = .ok (.istore_n 1, 1) := by decide +kernel
theorem dX7_shorten_39 : decode cX7_shorten 39 = .ok (.iconst 0, 1) := by decide +kernel
theorem dX7_shorten_40 : decode cX7_shorten 40 = .ok (.istore_n 2, 1) := by decide +kernel
theorem dX7_shorten_41 : decode cX7_shorten 41 = .ok (.iload_n 2, 1) := by decide +kernel
theorem dX7_shorten_42 : decode cX7_shorten 42 = .ok (.bipush 9, 2) := by decide +kernel
theorem dX7_shorten_44 : decode cX7_shorten 44 = .ok (.if_icmp .ge 44, 3) := by decide +kernel
theorem dX7_shorten_47 : decode cX7_shorten 47 = .ok (.iload_n 2, 1) := by decide +kernel
theorem dX7_shorten_48 : decode cX7_shorten 48 = .ok (.iconst 3, 1) := by decide +kernel
theorem dX7_shorten_49 : decode cX7_shorten 49 = .ok (.idiv, 1) := by decide +kernel
theorem dX7_shorten_50 : decode cX7_shorten 50 = .ok (.istore_n 3, 1) := by decide +kernel
theorem dX7_shorten_51 : decode cX7_shorten 51 = .ok (.iload_n 2, 1) := by decide +kernel
theorem dX7_shorten_52 : decode cX7_shorten 52 = .ok (.iconst 3, 1) := by decide +kernel
theorem dX7_shorten_53 : decode cX7_shorten 53 = .ok (.irem, 1) := by decide +kernel
theorem dX7_shorten_54 : decode cX7_shorten 54 = .ok (.istore 4, 2) := by decide +kernel
theorem dX7_shorten_56 : decode cX7_shorten 56 = .ok (.iload_n 3, 1) := by decide +kernel
theorem dX7_shorten_57 : decode cX7_shorten 57 = .ok (.iload 4, 2) := by decide +kernel
theorem dX7_shorten_59 : decode cX7_shorten 59 = .ok (.if_icmp .eq 23, 3) := by decide +kernel
theorem dX7_shorten_62 : decode cX7_shorten 62 = .ok (.aload_n 0, 1) := by decide +kernel
theorem dX7_shorten_63 : decode cX7_shorten 63 = .ok (.iload_n 3, 1) := by decide +kernel
theorem dX7_shorten_64 : decode cX7_shorten 64 = .ok (.iload 4, 2) := by decide +kernel
theorem dX7_shorten_66 : decode cX7_shorten 66 = .ok (.invokevirtual 88, 3) := by decide +kernel
theorem dX7_shorten_69 : decode cX7_shorten 69 = .ok (.ifCond .ne 7, 3) := by decide +kernel
theorem dX7_shorten_72 : decode cX7_shorten 72 = .ok (.iload_n 1, 1) := by decide +kernel
theorem dX7_shorten_73 : decode cX7_shorten 73 = .ok (.ifCond .eq 7, 3) := by decide +kernel
theorem dX7_shorten_76 : decode cX7_shorten 76 = .ok (.iconst 1, 1) := by decide +kernel
theorem dX7_shorten_77 : decode cX7_shorten 77 = .ok (.goto 4, 3) := by decide +kernel
theorem dX7_shorten_80 : decode cX7_shorten 80 = .ok (.iconst 0, 1) := by decide +kernel
theorem dX7_shorten_81 : decode cX7_shorten 81 = .ok (.istore_n 1, 1) := by decide +kernel
theorem dX7_shorten_82 : decode cX7_shorten 82 = .ok (.iinc 2 1, 3) := by decide +kernel
theorem dX7_shorten_85 : decode cX7_shorten 85 = .ok (.goto (-44), 3) := by decide +kernel
theorem dX7_shorten_88 : decode cX7_shorten 88 = .ok (.goto (-55), 3) := by decide +kernel
theorem dX7_shorten_91 : decode cX7_shorten 91 = .ok (.return_, 1) := by decide +kernel
theorem dX7_cross_0 : decode cX7_cross 0 = .ok (.iload 12, 2) := by decide +kernel
theorem dX7_cross_2 : decode cX7_cross 2 = .ok (.ifCond .ne 16, 3) := by decide +kernel
theorem dX7_cross_5 : decode cX7_cross 5 = .ok (.lload_n 2, 1) := by decide +kernel
theorem dX7_cross_6 : decode cX7_cross 6 = .ok (.lload 10, 2) := by decide +kernel
theorem dX7_cross_8 : decode cX7_cross 8 = .ok (.lmul, 1) := by decide +kernel
theorem dX7_cross_9 : decode cX7_cross 9 = .ok (.lload 4, 2) := by decide +kernel
theorem dX7_cross_11 : decode cX7_cross 11 = .ok (.lload 8, 2) := by decide +kernel
theorem dX7_cross_13 : decode cX7_cross 13 = .ok (.lmul, 1) := by decide +kernel
theorem dX7_cross_14 : decode cX7_cross 14 = .ok (.lsub, 1) := by decide +kernel
theorem dX7_cross_15 : decode cX7_cross 15 = .ok (.goto 31, 3) := by decide +kernel
theorem dX7_cross_18 : decode cX7_cross 18 = .ok (.iload 12, 2) := by decide +kernel
theorem dX7_cross_20 : decode cX7_cross 20 = .ok (.iconst 1, 1) := by decide +kernel
theorem dX7_cross_21 : decode cX7_cross 21 = .ok (.if_icmp .ne 16, 3) := by decide +kernel
theorem dX7_cross_24 : decode cX7_cross 24 = .ok (.lload 4, 2) := by decide +kernel
theorem dX7_cross_26 : decode cX7_cross 26 = .ok (.lload 6, 2) := by decide +kernel
theorem dX7_cross_28 : decode cX7_cross 28 = .ok (.lmul, 1) := by decide +kernel
theorem dX7_cross_29 : decode cX7_cross 29 = .ok (.lload_n 0, 1) := by decide +kernel
theorem dX7_cross_30 : decode cX7_cross 30 = .ok (.lload 10, 2) := by decide +kernel
theorem dX7_cross_32 : decode cX7_cross 32 = .ok (.lmul, 1) := by decide +kernel
theorem dX7_cross_33 : decode cX7_cross 33 = .ok (.lsub, 1) := by decide +kernel
theorem dX7_cross_34 : decode cX7_cross 34 = .ok (.goto 12, 3) := by decide +kernel
theorem dX7_cross_37 : decode cX7_cross 37 = .ok (.lload_n 0, 1) := by decide +kernel
theorem dX7_cross_38 : decode cX7_cross 38 = .ok (.lload 8, 2) := by decide +kernel
theorem dX7_cross_40 : decode cX7_cross 40 = .ok (.lmul, 1) := by decide +kernel
theorem dX7_cross_41 : decode cX7_cross 41 = .ok (.lload_n 2, 1) := by decide +kernel
theorem dX7_cross_42 : decode cX7_cross 42 = .ok (.lload 6, 2) := by decide +kernel
theorem dX7_cross_44 : decode cX7_cross 44 = .ok (.lmul, 1) := by decide +kernel
theorem dX7_cross_45 : decode cX7_cross 45 = .ok (.lsub, 1) := by decide +kernel
theorem dX7_cross_46 : decode cX7_cross 46 = .ok (.lreturn, 1) := by decide +kernel
theorem dX7_isApart_0 : decode cX7_isApart 0 = .ok (.iload_n 1, 1) := by decide +kernel
theorem dX7_isApart_1 : decode cX7_isApart 1 = .ok (.ifCond .ne 29, 3) := by decide +kernel
theorem dX7_isApart_4 : decode cX7_isApart 4 = .ok (.lload_n 2, 1) := by decide +kernel
theorem dX7_isApart_5 : decode cX7_isApart 5 = .ok (.lconst 0, 1) := by decide +kernel
theorem dX7_isApart_6 : decode cX7_isApart 6 = .ok (.lcmp, 1) := by decide +kernel
theorem dX7_isApart_7 : decode cX7_isApart 7 = .ok (.ifCond .ne 17, 3) := by decide +kernel
theorem dX7_isApart_10 : decode cX7_isApart 10 = .ok (.lload 4, 2) := by decide +kernel
theorem dX7_isApart_12 : decode cX7_isApart 12 = .ok (.lconst 0, 1) := by decide +kernel
theorem dX7_isApart_13 : decode cX7_isApart 13 = .ok (.lcmp, 1) := by decide +kernel
theorem dX7_isApart_14 : decode cX7_isApart 14 = .ok (.ifCond .ne 10, 3) := by decide +kernel
theorem dX7_isApart_17 : decode cX7_isApart 17 = .ok (.lload 6, 2) := by decide +kernel
theorem dX7_isApart_19 : decode cX7_isApart 19 = .ok (.lconst 0, 1) := by decide +kernel
theorem dX7_isApart_20 : decode cX7_isApart 20 = .ok (.lcmp, 1) := by decide +kernel
theorem dX7_isApart_21 : decode cX7_isApart 21 = .ok (.ifCond .eq 7, 3) := by decide +kernel
theorem dX7_isApart_24 : decode cX7_isApart 24 = .ok (.iconst 1, 1) := by decide +kernel
theorem dX7_isApart_25 : decode cX7_isApart 25 = .ok (.goto 4, 3) := by decide +kernel
theorem dX7_isApart_28 : decode cX7_isApart 28 = .ok (.iconst 0, 1) := by decide +kernel
theorem dX7_isApart_29 : decode cX7_isApart 29 = .ok (.ireturn, 1) := by decide +kernel
theorem dX7_isApart_30 : decode cX7_isApart 30 = .ok (.iload_n 1, 1) := by decide +kernel
theorem dX7_isApart_31 : decode cX7_isApart 31 = .ok (.iconst 1, 1) := by decide +kernel
theorem dX7_isApart_32 : decode cX7_isApart 32 = .ok (.if_icmp .ne 105, 3) := by decide +kernel
theorem dX7_isApart_35 : decode cX7_isApart 35 = .ok (.lload_n 2, 1) := by decide +kernel
theorem dX7_isApart_36 : decode cX7_isApart 36 = .ok (.lload 4, 2) := by decide +kernel
theorem dX7_isApart_38 : decode cX7_isApart 38 = .ok (.lload 6, 2) := by decide +kernel
theorem dX7_isApart_40 : decode cX7_isApart 40 = .ok (.aload_n 0, 1) := by decide +kernel
theorem dX7_isApart_41 : decode cX7_isApart 41 = .ok (.getfield 30, 3) := by decide +kernel
theorem dX7_isApart_44 : decode cX7_isApart 44 = .ok (.iconst 0, 1) := by decide +kernel
theorem dX7_isApart_45 : decode cX7_isApart 45 = .ok (.laload, 1) := by decide +kernel
theorem dX7_isApart_46 : decode cX7_isApart 46 = .ok (.aload_n 0, 1) := by decide +kernel
theorem dX7_isApart_47 : decode cX7_isApart 47 = .ok (.getfield 30, 3) := by decide +kernel
theorem dX7_isApart_50 : decode cX7_isApart 50 = .ok (.iconst 1, 1) := by decide +kernel
theorem dX7_isApart_51 : decode cX7_isApart 51 = .ok (.laload, 1) := by decide +kernel
theorem dX7_isApart_52 : decode cX7_isApart 52 = .ok (.aload_n 0, 1) := by decide +kernel
theorem dX7_isApart_53 : decode cX7_isApart 53 = .ok (.getfield 30, 3) := by decide +kernel
theorem dX7_isApart_56 : decode cX7_isApart 56 = .ok (.iconst 2, 1) := by decide +kernel
theorem dX7_isApart_57 : decode cX7_isApart 57 = .ok (.laload, 1) := by decide +kernel
theorem dX7_isApart_58 : decode cX7_isApart 58 = .ok (.iconst 0, 1) := by decide +kernel
theorem dX7_isApart_59 : decode cX7_isApart 59 = .ok (.invokestatic 92, 3) := by decide +kernel
theorem dX7_isApart_62 : decode cX7_isApart 62 = .ok (.lconst 0, 1) := by decide +kernel
theorem dX7_isApart_63 : decode cX7_isApart 63 = .ok (.lcmp, 1) := by decide +kernel
theorem dX7_isApart_64 : decode cX7_isApart 64 = .ok (.ifCond .ne 67, 3) := by decide +kernel
theorem dX7_isApart_67 : decode cX7_isApart 67 = .ok (.lload_n 2, 1) := by decide +kernel
theorem dX7_isApart_68 : decode cX7_isApart 68 = .ok (.lload 4, 2) := by decide +kernel
theorem dX7_isApart_70 : decode cX7_isApart 70 = .ok (.lload 6, 2) := by decide +kernel
theorem dX7_isApart_72 : decode cX7_isApart 72 = .ok (.aload_n 0, 1) := by decide +kernel
theorem dX7_isApart_73 : decode cX7_isApart 73 = .ok (.getfield 30, 3) := by decide +kernel
theorem dX7_isApart_76 : decode cX7_isApart 76 = .ok (.iconst 0, 1) := by decide +kernel
theorem dX7_isApart_77 : decode cX7_isApart 77 = .ok (.laload, 1) := by decide +kernel
theorem dX7_isApart_78 : decode cX7_isApart 78 = .ok (.aload_n 0, 1) := by decide +kernel
theorem dX7_isApart_79 : decode cX7_isApart 79 = .ok (.getfield 30, 3) := by decide +kernel
theorem dX7_isApart_82 : decode cX7_isApart 82 = .ok (.iconst 1, 1) := by decide +kernel
theorem dX7_isApart_83 : decode cX7_isApart 83 = .ok (.laload, 1) := by decide +kernel
theorem dX7_isApart_84 : decode cX7_isApart 84 = .ok (.aload_n 0, 1) := by decide +kernel
theorem dX7_isApart_85 : decode cX7_isApart 85 = .ok (.getfield 30, 3) := by decide +kernel
theorem dX7_isApart_88 : decode cX7_isApart 88 = .ok (.iconst 2, 1) := by decide +kernel
theorem dX7_isApart_89 : decode cX7_isApart 89 = .ok (.laload, 1) := by decide +kernel
theorem dX7_isApart_90 : decode cX7_isApart 90 = .ok (.iconst 1, 1) := by decide +kernel
theorem dX7_isApart_91 : decode cX7_isApart 91 = .ok (.invokestatic 92, 3) := by decide +kernel
theorem dX7_isApart_94 : decode cX7_isApart 94 = .ok (.lconst 0, 1) := by decide +kernel
theorem dX7_isApart_95 : decode cX7_isApart 95 = .ok (.lcmp, 1) := by decide +kernel
theorem dX7_isApart_96 : decode cX7_isApart 96 = .ok (.ifCond .ne 35, 3) := by decide +kernel
theorem dX7_isApart_99 : decode cX7_isApart 99 = .ok (.lload_n 2, 1) := by decide +kernel
theorem dX7_isApart_100 : decode cX7_isApart 100 = .ok (.lload 4, 2) := by decide +kernel
theorem dX7_isApart_102 : decode cX7_isApart 102 = .ok (.lload 6, 2) := by decide +kernel
theorem dX7_isApart_104 : decode cX7_isApart 104 = .ok (.aload_n 0, 1) := by decide +kernel
theorem dX7_isApart_105 : decode cX7_isApart 105 = .ok (.getfield 30, 3) := by decide +kernel
theorem dX7_isApart_108 : decode cX7_isApart 108 = .ok (.iconst 0, 1) := by decide +kernel
theorem dX7_isApart_109 : decode cX7_isApart 109 = .ok (.laload, 1) := by decide +kernel
theorem dX7_isApart_110 : decode cX7_isApart 110 = .ok (.aload_n 0, 1) := by decide +kernel
theorem dX7_isApart_111 : decode cX7_isApart 111 = .ok (.getfield 30, 3) := by decide +kernel
theorem dX7_isApart_114 : decode cX7_isApart 114 = .ok (.iconst 1, 1) := by decide +kernel
theorem dX7_isApart_115 : decode cX7_isApart 115 = .ok (.laload, 1) := by decide +kernel
theorem dX7_isApart_116 : decode cX7_isApart 116 = .ok (.aload_n 0, 1) := by decide +kernel
theorem dX7_isApart_117 : decode cX7_isApart 117 = .ok (.getfield 30, 3) := by decide +kernel
theorem dX7_isApart_120 : decode cX7_isApart 120 = .ok (.iconst 2, 1) := by decide +kernel
theorem dX7_isApart_121 : decode cX7_isApart 121 = .ok (.laload, 1) := by decide +kernel
theorem dX7_isApart_122 : decode cX7_isApart 122 = .ok (.iconst 2, 1) := by decide +kernel
theorem dX7_isApart_123 : decode cX7_isApart 123 = .ok (.invokestatic 92, 3) := by decide +kernel
theorem dX7_isApart_126 : decode cX7_isApart 126 = .ok (.lconst 0, 1) := by decide +kernel
theorem dX7_isApart_127 : decode cX7_isApart 127 = .ok (.lcmp, 1) := by decide +kernel
theorem dX7_isApart_128 : decode cX7_isApart 128 = .ok (.ifCond .eq 7, 3) := by decide +kernel
theorem dX7_isApart_131 : decode cX7_isApart 131 = .ok (.iconst 1, 1) := by decide +kernel
theorem dX7_isApart_132 : decode cX7_isApart 132 = .ok (.goto 4, 3) := by decide +kernel
theorem dX7_isApart_135 : decode cX7_isApart 135 = .ok (.iconst 0, 1) := by decide +kernel
theorem dX7_isApart_136 : decode cX7_isApart 136 = .ok (.ireturn, 1) := by decide +kernel
theorem dX7_isApart_137 : decode cX7_isApart 137 = .ok (.aload_n 0, 1) := by decide +kernel
theorem dX7_isApart_138 : decode cX7_isApart 138 = .ok (.getfield 30, 3) := by decide +kernel
theorem dX7_isApart_141 : decode cX7_isApart 141 = .ok (.iconst 0, 1) := by decide +kernel
theorem dX7_isApart_142 : decode cX7_isApart 142 = .ok (.laload, 1) := by decide +kernel
theorem dX7_isApart_143 : decode cX7_isApart 143 = .ok (.aload_n 0, 1) := by decide +kernel
theorem dX7_isApart_144 : decode cX7_isApart 144 = .ok (.getfield 30, 3) := by decide +kernel
theorem dX7_isApart_147 : decode cX7_isApart 147 = .ok (.iconst 1, 1) := by decide +kernel
theorem dX7_isApart_148 : decode cX7_isApart 148 = .ok (.laload, 1) := by decide +kernel
theorem dX7_isApart_149 : decode cX7_isApart 149 = .ok (.aload_n 0, 1) := by decide +kernel
theorem dX7_isApart_150 : decode cX7_isApart 150 = .ok (.getfield 30, 3) := by decide +kernel
theorem dX7_isApart_153 : decode cX7_isApart 153 = .ok (.iconst 2, 1) := by decide +kernel
theorem dX7_isApart_154 : decode cX7_isApart 154 = .ok (.laload, 1) := by decide +kernel
theorem dX7_isApart_155 : decode cX7_isApart 155 = .ok (.aload_n 0, 1) := by decide +kernel
theorem dX7_isApart_156 : decode cX7_isApart 156 = .ok (.getfield 30, 3) := by decide +kernel
theorem dX7_isApart_159 : decode cX7_isApart 159 = .ok (.iconst 3, 1) := by decide +kernel
theorem dX7_isApart_160 : decode cX7_isApart 160 = .ok (.laload, 1) := by decide +kernel
theorem dX7_isApart_161 : decode cX7_isApart 161 = .ok (.aload_n 0, 1) := by decide +kernel
theorem dX7_isApart_162 : decode cX7_isApart 162 = .ok (.getfield 30, 3) := by decide +kernel
theorem dX7_isApart_165 : decode cX7_isApart 165 = .ok (.iconst 4, 1) := by decide +kernel
theorem dX7_isApart_166 : decode cX7_isApart 166 = .ok (.laload, 1) := by decide +kernel
theorem dX7_isApart_167 : decode cX7_isApart 167 = .ok (.aload_n 0, 1) := by decide +kernel
theorem dX7_isApart_168 : decode cX7_isApart 168 = .ok (.getfield 30, 3) := by decide +kernel
theorem dX7_isApart_171 : decode cX7_isApart 171 = .ok (.iconst 5, 1) := by decide +kernel
theorem dX7_isApart_172 : decode cX7_isApart 172 = .ok (.laload, 1) := by decide +kernel
theorem dX7_isApart_173 : decode cX7_isApart 173 = .ok (.iconst 0, 1) := by decide +kernel
theorem dX7_isApart_174 : decode cX7_isApart 174 = .ok (.invokestatic 92, 3) := by decide +kernel
theorem dX7_isApart_177 : decode cX7_isApart 177 = .ok (.lstore 8, 2) := by decide +kernel
theorem dX7_isApart_179 : decode cX7_isApart 179 = .ok (.aload_n 0, 1) := by decide +kernel
theorem dX7_isApart_180 : decode cX7_isApart 180 = .ok (.getfield 30, 3) := by decide +kernel
theorem dX7_isApart_183 : decode cX7_isApart 183 = .ok (.iconst 0, 1) := by decide +kernel
theorem dX7_isApart_184 : decode cX7_isApart 184 = .ok (.laload, 1) := by decide +kernel
theorem dX7_isApart_185 : decode cX7_isApart 185 = .ok (.aload_n 0, 1) := by decide +kernel
theorem dX7_isApart_186 : decode cX7_isApart 186 = .ok (.getfield 30, 3) := by decide +kernel
theorem dX7_isApart_189 : decode cX7_isApart 189 = .ok (.iconst 1, 1) := by decide +kernel
theorem dX7_isApart_190 : decode cX7_isApart 190 = .ok (.laload, 1) := by decide +kernel
theorem dX7_isApart_191 : decode cX7_isApart 191 = .ok (.aload_n 0, 1) := by decide +kernel
theorem dX7_isApart_192 : decode cX7_isApart 192 = .ok (.getfield 30, 3) := by decide +kernel
theorem dX7_isApart_195 : decode cX7_isApart 195 = .ok (.iconst 2, 1) := by decide +kernel
theorem dX7_isApart_196 : decode cX7_isApart 196 = .ok (.laload, 1) := by decide +kernel
theorem dX7_isApart_197 : decode cX7_isApart 197 = .ok (.aload_n 0, 1) := by decide +kernel
theorem dX7_isApart_198 : decode cX7_isApart 198 = .ok (.getfield 30, 3) := by decide +kernel
theorem dX7_isApart_201 : decode cX7_isApart 201 = .ok (.iconst 3, 1) := by decide +kernel
theorem dX7_isApart_202 : decode cX7_isApart 202 = .ok (.laload, 1) := by decide +kernel
theorem dX7_isApart_203 : decode cX7_isApart 203 = .ok (.aload_n 0, 1) := by decide +kernel
theorem dX7_isApart_204 : decode cX7_isApart 204 = .ok (.getfield 30, 3) := by decide +kernel
theorem dX7_isApart_207 : decode cX7_isApart 207 = .ok (.iconst 4, 1) := by decide +kernel
theorem dX7_isApart_208 : decode cX7_isApart 208 = .ok (.laload, 1) := by decide +kernel
theorem dX7_isApart_209 : decode cX7_isApart 209 = .ok (.aload_n 0, 1) := by decide +kernel
theorem dX7_isApart_210 : decode cX7_isApart 210 = .ok (.getfield 30, 3) := by decide +kernel
theorem dX7_isApart_213 : decode cX7_isApart 213 = .ok (.iconst 5, 1) := by decide +kernel
theorem dX7_isApart_214 : decode cX7_isApart 214 = .ok (.laload, 1) := by decide +kernel
theorem dX7_isApart_215 : decode cX7_isApart 215 = .ok (.iconst 1, 1) := by decide +kernel
theorem dX7_isApart_216 : decode cX7_isApart 216 = .ok (.invokestatic 92, 3) := by decide +kernel
theorem dX7_isApart_219 : decode cX7_isApart 219 = .ok (.lstore 10, 2) := by decide +kernel
theorem dX7_isApart_221 : decode cX7_isApart 221 = .ok (.aload_n 0, 1) := by decide +kernel
theorem dX7_isApart_222 : decode cX7_isApart 222 = .ok (.getfield 30, 3) := by decide +kernel
theorem dX7_isApart_225 : decode cX7_isApart 225 = .ok (.iconst 0, 1) := by decide +kernel
theorem dX7_isApart_226 : decode cX7_isApart 226 = .ok (.laload, 1) := by decide +kernel
theorem dX7_isApart_227 : decode cX7_isApart 227 = .ok (.aload_n 0, 1) := by decide +kernel
theorem dX7_isApart_228 : decode cX7_isApart 228 = .ok (.getfield 30, 3) := by decide +kernel
theorem dX7_isApart_231 : decode cX7_isApart 231 = .ok (.iconst 1, 1) := by decide +kernel
theorem dX7_isApart_232 : decode cX7_isApart 232 = .ok (.laload, 1) := by decide +kernel
theorem dX7_isApart_233 : decode cX7_isApart 233 = .ok (.aload_n 0, 1) := by decide +kernel
theorem dX7_isApart_234 : decode cX7_isApart 234 = .ok (.getfield 30, 3) := by decide +kernel
theorem dX7_isApart_237 : decode cX7_isApart 237 = .ok (.iconst 2, 1) := by decide +kernel
theorem dX7_isApart_238 : decode cX7_isApart 238 = .ok (.laload, 1) := by decide +kernel
theorem dX7_isApart_239 : decode cX7_isApart 239 = .ok (.aload_n 0, 1) := by decide +kernel
theorem dX7_isApart_240 : decode cX7_isApart 240 = .ok (.getfield 30, 3) := by decide +kernel
theorem dX7_isApart_243 : decode cX7_isApart 243 = .ok (.iconst 3, 1) := by decide +kernel
theorem dX7_isApart_244 : decode cX7_isApart 244 = .ok (.laload, 1) := by decide +kernel
theorem dX7_isApart_245 : decode cX7_isApart 245 = .ok (.aload_n 0, 1) := by decide +kernel
theorem dX7_isApart_246 : decode cX7_isApart 246 = .ok (.getfield 30, 3) := by decide +kernel
theorem dX7_isApart_249 : decode cX7_isApart 249 = .ok (.iconst 4, 1) := by decide +kernel
theorem dX7_isApart_250 : decode cX7_isApart 250 = .ok (.laload, 1) := by decide +kernel
theorem dX7_isApart_251 : decode cX7_isApart 251 = .ok (.aload_n 0, 1) := by decide +kernel
theorem dX7_isApart_252 : decode cX7_isApart 252 = .ok (.getfield 30, 3) := by decide +kernel
theorem dX7_isApart_255 : decode cX7_isApart 255 = .ok (.iconst 5, 1) := by decide +kernel
theorem dX7_isApart_256 : decode cX7_isApart 256 = .ok (.laload, 1) := by decide +kernel
theorem dX7_isApart_257 : decode cX7_isApart 257 = .ok (.iconst 2, 1) := by decide +kernel
theorem dX7_isApart_258 : decode cX7_isApart 258 = .ok (.invokestatic 92, 3) := by decide +kernel
theorem dX7_isApart_261 : decode cX7_isApart 261 = .ok (.lstore 12, 2) := by decide +kernel
theorem dX7_isApart_263 : decode cX7_isApart 263 = .ok (.lload_n 2, 1) := by decide +kernel
theorem dX7_isApart_264 : decode cX7_isApart 264 = .ok (.lload 8, 2) := by decide +kernel
theorem dX7_isApart_266 : decode cX7_isApart 266 = .ok (.lmul, 1) := by decide +kernel
theorem dX7_isApart_267 : decode cX7_isApart 267 = .ok (.lload 4, 2) := by decide +kernel
theorem dX7_isApart_269 : decode cX7_isApart 269 = .ok (.lload 10, 2) := by decide +kernel
theorem dX7_isApart_271 : decode cX7_isApart 271 = .ok (.lmul, 1) := by decide +kernel
theorem dX7_isApart_272 : decode cX7_isApart 272 = .ok (.ladd, 1) := by decide +kernel
theorem dX7_isApart_273 : decode cX7_isApart 273 = .ok (.lload 6, 2) := by decide +kernel
theorem dX7_isApart_275 : decode cX7_isApart 275 = .ok (.lload 12, 2) := by decide +kernel
theorem dX7_isApart_277 : decode cX7_isApart 277 = .ok (.lmul, 1) := by decide +kernel
theorem dX7_isApart_278 : decode cX7_isApart 278 = .ok (.ladd, 1) := by decide +kernel
theorem dX7_isApart_279 : decode cX7_isApart 279 = .ok (.lconst 0, 1) := by decide +kernel
theorem dX7_isApart_280 : decode cX7_isApart 280 = .ok (.lcmp, 1) := by decide +kernel
theorem dX7_isApart_281 : decode cX7_isApart 281 = .ok (.ifCond .eq 7, 3) := by decide +kernel
theorem dX7_isApart_284 : decode cX7_isApart 284 = .ok (.iconst 1, 1) := by decide +kernel
theorem dX7_isApart_285 : decode cX7_isApart 285 = .ok (.goto 4, 3) := by decide +kernel
theorem dX7_isApart_288 : decode cX7_isApart 288 = .ok (.iconst 0, 1) := by decide +kernel
theorem dX7_isApart_289 : decode cX7_isApart 289 = .ok (.ireturn, 1) := by decide +kernel
theorem dX7_findApart_0 : decode cX7_findApart 0 = .ok (.ldc2_w 96, 3) := by decide +kernel
theorem dX7_findApart_3 : decode cX7_findApart 3 = .ok (.lstore 4, 2) := by decide +kernel
theorem dX7_findApart_5 : decode cX7_findApart 5 = .ok (.aload_n 0, 1) := by decide +kernel
theorem dX7_findApart_6 : decode cX7_findApart 6 = .ok (.iconst 0, 1) := by decide +kernel
theorem dX7_findApart_7 : decode cX7_findApart 7 = .ok (.lload_n 2, 1) := by decide +kernel
theorem dX7_findApart_8 : decode cX7_findApart 8 = .ok (.invokevirtual 98, 3) := by decide +kernel
theorem dX7_findApart_11 : decode cX7_findApart 11 = .ok (.lstore 6, 2) := by decide +kernel
theorem dX7_findApart_13 : decode cX7_findApart 13 = .ok (.aload_n 0, 1) := by decide +kernel
theorem dX7_findApart_14 : decode cX7_findApart 14 = .ok (.iconst 1, 1) := by decide +kernel
theorem dX7_findApart_15 : decode cX7_findApart 15 = .ok (.lload_n 2, 1) := by decide +kernel
theorem dX7_findApart_16 : decode cX7_findApart 16 = .ok (.invokevirtual 98, 3) := by decide +kernel
theorem dX7_findApart_19 : decode cX7_findApart 19 = .ok (.lstore 8, 2) := by decide +kernel
theorem dX7_findApart_21 : decode cX7_findApart 21 = .ok (.aload_n 0, 1) := by decide +kernel
theorem dX7_findApart_22 : decode cX7_findApart 22 = .ok (.iconst 2, 1) := by decide +kernel
theorem dX7_findApart_23 : decode cX7_findApart 23 = .ok (.lload_n 2, 1) := by decide +kernel
theorem dX7_findApart_24 : decode cX7_findApart 24 = .ok (.invokevirtual 98, 3) := by decide +kernel
theorem dX7_findApart_27 : decode cX7_findApart 27 = .ok (.lstore 10, 2) := by decide +kernel
theorem dX7_findApart_29 : decode cX7_findApart 29 = .ok (.lload 6, 2) := by decide +kernel
theorem dX7_findApart_31 : decode cX7_findApart 31 = .ok (.lneg, 1) := by decide +kernel
theorem dX7_findApart_32 : decode cX7_findApart 32 = .ok (.lstore 12, 2) := by decide +kernel
theorem dX7_findApart_34 : decode cX7_findApart 34 = .ok (.lload 12, 2) := by decide +kernel
theorem dX7_findApart_36 : decode cX7_findApart 36 = .ok (.lload 6, 2) := by decide +kernel
theorem dX7_findApart_38 : decode cX7_findApart 38 = .ok (.lcmp, 1) := by decide +kernel
theorem dX7_findApart_39 : decode cX7_findApart 39 = .ok (.ifCond .gt 142, 3) := by decide +kernel
theorem dX7_findApart_42 : decode cX7_findApart 42 = .ok (.lload 8, 2) := by decide +kernel
theorem dX7_findApart_44 : decode cX7_findApart 44 = .ok (.lneg, 1) := by decide +kernel
theorem dX7_findApart_45 : decode cX7_findApart 45 = .ok (.lstore 14, 2) := by decide +kernel
theorem dX7_findApart_47 : decode cX7_findApart 47 = .ok (.lload 14, 2) := by decide +kernel
theorem dX7_findApart_49 : decode cX7_findApart 49 = .ok (.lload 8, 2) := by decide +kernel
theorem dX7_findApart_51 : decode cX7_findApart 51 = .ok (.lcmp, 1) := by decide +kernel
theorem dX7_findApart_52 : decode cX7_findApart 52 = .ok (.ifCond .gt 120, 3) := by decide +kernel
theorem dX7_findApart_55 : decode cX7_findApart 55 = .ok (.lload 10, 2) := by decide +kernel
theorem dX7_findApart_57 : decode cX7_findApart 57 = .ok (.lneg, 1) := by decide +kernel
theorem dX7_findApart_58 : decode cX7_findApart 58 = .ok (.lstore 16, 2) := by decide +kernel
theorem dX7_findApart_60 : decode cX7_findApart 60 = .ok (.lload 16, 2) := by decide +kernel
theorem dX7_findApart_62 : decode cX7_findApart 62 = .ok (.lload 10, 2) := by decide +kernel
theorem dX7_findApart_64 : decode cX7_findApart 64 = .ok (.lcmp, 1) := by decide +kernel
theorem dX7_findApart_65 : decode cX7_findApart 65 = .ok (.ifCond .gt 98, 3) := by decide +kernel
theorem dX7_findApart_68 : decode cX7_findApart 68 = .ok (.aload_n 0, 1) := by decide +kernel
theorem dX7_findApart_69 : decode cX7_findApart 69 = .ok (.lload 12, 2) := by decide +kernel
theorem dX7_findApart_71 : decode cX7_findApart 71 = .ok (.lload 14, 2) := by decide +kernel
theorem dX7_findApart_73 : decode cX7_findApart 73 = .ok (.lload 16, 2) := by decide +kernel
theorem dX7_findApart_75 : decode cX7_findApart 75 = .ok (.invokevirtual 66, 3) := by decide +kernel
theorem dX7_findApart_78 : decode cX7_findApart 78 = .ok (.lstore 18, 2) := by decide +kernel
theorem dX7_findApart_80 : decode cX7_findApart 80 = .ok (.lload 18, 2) := by decide +kernel
theorem dX7_findApart_82 : decode cX7_findApart 82 = .ok (.lload_n 2, 1) := by decide +kernel
theorem dX7_findApart_83 : decode cX7_findApart 83 = .ok (.lcmp, 1) := by decide +kernel
theorem dX7_findApart_84 : decode cX7_findApart 84 = .ok (.ifCond .gt 70, 3) := by decide +kernel
theorem dX7_findApart_87 : decode cX7_findApart 87 = .ok (.lload 4, 2) := by decide +kernel
theorem dX7_findApart_89 : decode cX7_findApart 89 = .ok (.lconst 0, 1) := by decide +kernel
theorem dX7_findApart_90 : decode cX7_findApart 90 = .ok (.lcmp, 1) := by decide +kernel
theorem dX7_findApart_91 : decode cX7_findApart 91 = .ok (.ifCond .lt 11, 3) := by decide +kernel
theorem dX7_findApart_94 : decode cX7_findApart 94 = .ok (.lload 18, 2) := by decide +kernel
theorem dX7_findApart_96 : decode cX7_findApart 96 = .ok (.lload 4, 2) := by decide +kernel
theorem dX7_findApart_98 : decode cX7_findApart 98 = .ok (.lcmp, 1) := by decide +kernel
theorem dX7_findApart_99 : decode cX7_findApart 99 = .ok (.ifCond .ge 55, 3) := by decide +kernel
theorem dX7_findApart_102 : decode cX7_findApart 102 = .ok (.aload_n 0, 1) := by decide +kernel
theorem dX7_findApart_103 : decode cX7_findApart 103 = .ok (.iload_n 1, 1) := by decide +kernel
theorem dX7_findApart_104 : decode cX7_findApart 104 = .ok (.lload 12, 2) := by decide +kernel
theorem dX7_findApart_106 : decode cX7_findApart 106 = .ok (.lload 14, 2) := by decide +kernel
theorem dX7_findApart_108 : decode cX7_findApart 108 = .ok (.lload 16, 2) := by decide +kernel
theorem dX7_findApart_110 : decode cX7_findApart 110 = .ok (.invokevirtual 102, 3) := by decide +kernel
theorem dX7_findApart_113 : decode cX7_findApart 113 = .ok (.ifCond .eq 41, 3) := by decide +kernel
theorem dX7_findApart_116 : decode cX7_findApart 116 = .ok (.lload 18, 2) := by decide +kernel
theorem dX7_findApart_118 : decode cX7_findApart 118 = .ok (.lstore 4, 2) := by decide +kernel
theorem dX7_findApart_120 : decode cX7_findApart 120 = .ok (.aload_n 0, 1) := by decide +kernel
theorem dX7_findApart_121 : decode cX7_findApart 121 = .ok (.getfield 30, 3) := by decide +kernel
theorem dX7_findApart_124 : decode cX7_findApart 124 = .ok (.iconst 3, 1) := by decide +kernel
theorem dX7_findApart_125 : decode cX7_findApart 125 = .ok (.iload_n 1, 1) := by decide +kernel
theorem dX7_findApart_126 : decode cX7_findApart 126 = .ok (.imul, 1) := by decide +kernel
theorem dX7_findApart_127 : decode cX7_findApart 127 = .ok (.lload 12, 2) := by decide +kernel
theorem dX7_findApart_129 : decode cX7_findApart 129 = .ok (.lastore, 1) := by decide +kernel
theorem dX7_findApart_130 : decode cX7_findApart 130 = .ok (.aload_n 0, 1) := by decide +kernel
theorem dX7_findApart_131 : decode cX7_findApart 131 = .ok (.getfield 30, 3) := by decide +kernel
theorem dX7_findApart_134 : decode cX7_findApart 134 = .ok (.iconst 3, 1) := by decide +kernel
theorem dX7_findApart_135 : decode cX7_findApart 135 = .ok (.iload_n 1, 1) := by decide +kernel
theorem dX7_findApart_136 : decode cX7_findApart 136 = .ok (.imul, 1) := by decide +kernel
theorem dX7_findApart_137 : decode cX7_findApart 137 = .ok (.iconst 1, 1) := by decide +kernel
theorem dX7_findApart_138 : decode cX7_findApart 138 = .ok (.iadd, 1) := by decide +kernel
theorem dX7_findApart_139 : decode cX7_findApart 139 = .ok (.lload 14, 2) := by decide +kernel
theorem dX7_findApart_141 : decode cX7_findApart 141 = .ok (.lastore, 1) := by decide +kernel
theorem dX7_findApart_142 : decode cX7_findApart 142 = .ok (.aload_n 0, 1) := by decide +kernel
theorem dX7_findApart_143 : decode cX7_findApart 143 = .ok (.getfield 30, 3) := by decide +kernel
theorem dX7_findApart_146 : decode cX7_findApart 146 = .ok (.iconst 3, 1) := by decide +kernel
theorem dX7_findApart_147 : decode cX7_findApart 147 = .ok (.iload_n 1, 1) := by decide +kernel
theorem dX7_findApart_148 : decode cX7_findApart 148 = .ok (.imul, 1) := by decide +kernel
theorem dX7_findApart_149 : decode cX7_findApart 149 = .ok (.iconst 2, 1) := by decide +kernel
theorem dX7_findApart_150 : decode cX7_findApart 150 = .ok (.iadd, 1) := by decide +kernel
theorem dX7_findApart_151 : decode cX7_findApart 151 = .ok (.lload 16, 2) := by decide +kernel
theorem dX7_findApart_153 : decode cX7_findApart 153 = .ok (.lastore, 1) := by decide +kernel
theorem dX7_findApart_154 : decode cX7_findApart 154 = .ok (.lload 16, 2) := by decide +kernel
theorem dX7_findApart_156 : decode cX7_findApart 156 = .ok (.lconst 1, 1) := by decide +kernel
theorem dX7_findApart_157 : decode cX7_findApart 157 = .ok (.ladd, 1) := by decide +kernel
theorem dX7_findApart_158 : decode cX7_findApart 158 = .ok (.lstore 16, 2) := by decide +kernel
theorem dX7_findApart_160 : decode cX7_findApart 160 = .ok (.goto (-100), 3) := by decide +kernel
theorem dX7_findApart_163 : decode cX7_findApart 163 = .ok (.lload 14, 2) := by decide +kernel
theorem dX7_findApart_165 : decode cX7_findApart 165 = .ok (.lconst 1, 1) := by decide +kernel
theorem dX7_findApart_166 : decode cX7_findApart 166 = .ok (.ladd, 1) := by decide +kernel
theorem dX7_findApart_167 : decode cX7_findApart 167 = .ok (.lstore 14, 2) := by decide +kernel
theorem dX7_findApart_169 : decode cX7_findApart 169 = .ok (.goto (-122), 3) := by decide +kernel
theorem dX7_findApart_172 : decode cX7_findApart 172 = .ok (.lload 12, 2) := by decide +kernel
theorem dX7_findApart_174 : decode cX7_findApart 174 = .ok (.lconst 1, 1) := by decide +kernel
theorem dX7_findApart_175 : decode cX7_findApart 175 = .ok (.ladd, 1) := by decide +kernel
theorem dX7_findApart_176 : decode cX7_findApart 176 = .ok (.lstore 12, 2) := by decide +kernel
theorem dX7_findApart_178 : decode cX7_findApart 178 = .ok (.goto (-144), 3) := by decide +kernel
theorem dX7_findApart_181 : decode cX7_findApart 181 = .ok (.lload 4, 2) := by decide +kernel
theorem dX7_findApart_183 : decode cX7_findApart 183 = .ok (.lreturn, 1) := by decide +kernel
theorem dX7_listRows_0 : decode cX7_listRows 0 = .ok (.aload_n 0, 1) := by decide +kernel
theorem dX7_listRows_1 : decode cX7_listRows 1 = .ok (.iconst 0, 1) := by decide +kernel
theorem dX7_listRows_2 : decode cX7_listRows 2 = .ok (.lload 5, 2) := by decide +kernel
theorem dX7_listRows_4 : decode cX7_listRows 4 = .ok (.invokevirtual 98, 3) := by decide +kernel
theorem dX7_listRows_7 : decode cX7_listRows 7 = .ok (.lstore 7, 2) := by decide +kernel
theorem dX7_listRows_9 : decode cX7_listRows 9 = .ok (.aload_n 0, 1) := by decide +kernel
theorem dX7_listRows_10 : decode cX7_listRows 10 = .ok (.iconst 1, 1) := by decide +kernel
theorem dX7_listRows_11 : decode cX7_listRows 11 = .ok (.lload 5, 2) := by decide +kernel
theorem dX7_listRows_13 : decode cX7_listRows 13 = .ok (.invokevirtual 98, 3) := by decide +kernel
theorem dX7_listRows_16 : decode cX7_listRows 16 = .ok (.lstore 9, 2) := by decide +kernel
theorem dX7_listRows_18 : decode cX7_listRows 18 = .ok (.aload_n 0, 1) := by decide +kernel
theorem dX7_listRows_19 : decode cX7_listRows 19 = .ok (.iconst 2, 1) := by decide +kernel
theorem dX7_listRows_20 : decode cX7_listRows 20 = .ok (.lload 5, 2) := by decide +kernel
theorem dX7_listRows_22 : decode cX7_listRows 22 = .ok (.invokevirtual 98, 3) := by decide +kernel
theorem dX7_listRows_25 : decode cX7_listRows 25 = .ok (.lstore 11, 2) := by decide +kernel
theorem dX7_listRows_27 : decode cX7_listRows 27 = .ok (.iconst 0, 1) := by decide +kernel
theorem dX7_listRows_28 : decode cX7_listRows 28 = .ok (.istore 13, 2) := by decide +kernel
theorem dX7_listRows_30 : decode cX7_listRows 30 = .ok (.iload 13, 2) := by decide +kernel
theorem dX7_listRows_32 : decode cX7_listRows 32 = .ok (.iconst 3, 1) := by decide +kernel
theorem dX7_listRows_33 : decode cX7_listRows 33 = .ok (.if_icmp .ge 17, 3) := by decide +kernel
theorem dX7_listRows_36 : decode cX7_listRows 36 = .ok (.aload_n 0, 1) := by decide +kernel
theorem dX7_listRows_37 : decode cX7_listRows 37 = .ok (.getfield 36, 3) := by decide +kernel
theorem dX7_listRows_40 : decode cX7_listRows 40 = .ok (.iload 13, 2) := by decide +kernel
theorem dX7_listRows_42 : decode cX7_listRows 42 = .ok (.iconst 0, 1) := by decide +kernel
theorem dX7_listRows_43 : decode cX7_listRows 43 = .ok (.iastore, 1) := by decide +kernel
theorem dX7_listRows_44 : decode cX7_listRows 44 = .ok (.iinc 13 1, 3) := by decide +kernel
theorem dX7_listRows_47 : decode cX7_listRows 47 = .ok (.goto (-17), 3) := by decide +kernel
theorem dX7_listRows_50 : decode cX7_listRows 50 = .ok (.lload 7, 2) := by decide +kernel
theorem dX7_listRows_52 : decode cX7_listRows 52 = .ok (.lneg, 1) := by decide +kernel
theorem dX7_listRows_53 : decode cX7_listRows 53 = .ok (.lstore 13, 2) := by decide +kernel
theorem dX7_listRows_55 : decode cX7_listRows 55 = .ok (.lload 13, 2) := by decide +kernel
theorem dX7_listRows_57 : decode cX7_listRows 57 = .ok (.lload 7, 2) := by decide +kernel
theorem dX7_listRows_59 : decode cX7_listRows 59 = .ok (.lcmp, 1) := by decide +kernel
theorem dX7_listRows_60 : decode cX7_listRows 60 = .ok (.ifCond .gt 170, 3) := by decide +kernel
theorem dX7_listRows_63 : decode cX7_listRows 63 = .ok (.lload 9, 2) := by decide +kernel
theorem dX7_listRows_65 : decode cX7_listRows 65 = .ok (.lneg, 1) := by decide +kernel
theorem dX7_listRows_66 : decode cX7_listRows 66 = .ok (.lstore 15, 2) := by decide +kernel
theorem dX7_listRows_68 : decode cX7_listRows 68 = .ok (.lload 15, 2) := by decide +kernel
theorem dX7_listRows_70 : decode cX7_listRows 70 = .ok (.lload 9, 2) := by decide +kernel
theorem dX7_listRows_72 : decode cX7_listRows 72 = .ok (.lcmp, 1) := by decide +kernel
theorem dX7_listRows_73 : decode cX7_listRows 73 = .ok (.ifCond .gt 148, 3) := by decide +kernel
theorem dX7_listRows_76 : decode cX7_listRows 76 = .ok (.lload 11, 2) := by decide +kernel
theorem dX7_listRows_78 : decode cX7_listRows 78 = .ok (.lneg, 1) := by decide +kernel
theorem dX7_listRows_79 : decode cX7_listRows 79 = .ok (.lstore 17, 2) := by decide +kernel
theorem dX7_listRows_81 : decode cX7_listRows 81 = .ok (.lload 17, 2) := by decide +kernel
theorem dX7_listRows_83 : decode cX7_listRows 83 = .ok (.lload 11, 2) := by decide +kernel
theorem dX7_listRows_85 : decode cX7_listRows 85 = .ok (.lcmp, 1) := by decide +kernel
theorem dX7_listRows_86 : decode cX7_listRows 86 = .ok (.ifCond .gt 126, 3) := by decide +kernel
theorem dX7_listRows_89 : decode cX7_listRows 89 = .ok (.aload_n 0, 1) := by decide +kernel
theorem dX7_listRows_90 : decode cX7_listRows 90 = .ok (.lload 13, 2) := by decide +kernel
theorem dX7_listRows_92 : decode cX7_listRows 92 = .ok (.lload 15, 2) := by decide +kernel
theorem dX7_listRows_94 : decode cX7_listRows 94 = .ok (.lload 17, 2) := by decide +kernel
theorem dX7_listRows_96 : decode cX7_listRows 96 = .ok (.invokevirtual 66, 3) := by decide +kernel
theorem dX7_listRows_99 : decode cX7_listRows 99 = .ok (.lstore 19, 2) := by decide +kernel
theorem dX7_listRows_101 : decode cX7_listRows 101 = .ok (.iconst 0, 1) := by decide +kernel
theorem dX7_listRows_102 : decode cX7_listRows 102 = .ok (.istore 21, 2) := by decide +kernel
theorem dX7_listRows_104 : decode cX7_listRows 104 = .ok (.iload 21, 2) := by decide +kernel
theorem dX7_listRows_106 : decode cX7_listRows 106 = .ok (.iconst 3, 1) := by decide +kernel
theorem dX7_listRows_107 : decode cX7_listRows 107 = .ok (.if_icmp .ge 96, 3) := by decide +kernel
theorem dX7_listRows_110 : decode cX7_listRows 110 = .ok (.lload 19, 2) := by decide +kernel
theorem dX7_listRows_112 : decode cX7_listRows 112 = .ok (.iload 21, 2) := by decide +kernel
theorem dX7_listRows_114 : decode cX7_listRows 114 = .ok (.ifCond .ne 7, 3) := by decide +kernel
theorem dX7_listRows_117 : decode cX7_listRows 117 = .ok (.lload_n 1, 1) := by decide +kernel
theorem dX7_listRows_118 : decode cX7_listRows 118 = .ok (.goto 15, 3) := by decide +kernel
theorem dX7_listRows_121 : decode cX7_listRows 121 = .ok (.iload 21, 2) := by decide +kernel
theorem dX7_listRows_123 : decode cX7_listRows 123 = .ok (.iconst 1, 1) := by decide +kernel
theorem dX7_listRows_124 : decode cX7_listRows 124 = .ok (.if_icmp .ne 7, 3) := by decide +kernel
theorem dX7_listRows_127 : decode cX7_listRows 127 = .ok (.lload_n 3, 1) := by decide +kernel
theorem dX7_listRows_128 : decode cX7_listRows 128 = .ok (.goto 5, 3) := by decide +kernel
theorem dX7_listRows_131 : decode cX7_listRows 131 = .ok (.lload 5, 2) := by decide +kernel
theorem dX7_listRows_133 : decode cX7_listRows 133 = .ok (.lcmp, 1) := by decide +kernel
theorem dX7_listRows_134 : decode cX7_listRows 134 = .ok (.ifCond .ne 63, 3) := by decide +kernel
theorem dX7_listRows_137 : decode cX7_listRows 137 = .ok (.sipush 1800, 3) := by decide +kernel
theorem dX7_listRows_140 : decode cX7_listRows 140 = .ok (.iload 21, 2) := by decide +kernel
theorem dX7_listRows_142 : decode cX7_listRows 142 = .ok (.imul, 1) := by decide +kernel
theorem dX7_listRows_143 : decode cX7_listRows 143 = .ok (.iconst 3, 1) := by decide +kernel
theorem dX7_listRows_144 : decode cX7_listRows 144 = .ok (.aload_n 0, 1) := by decide +kernel
theorem dX7_listRows_145 : decode cX7_listRows 145 = .ok (.getfield 36, 3) := by decide +kernel
theorem dX7_listRows_148 : decode cX7_listRows 148 = .ok (.iload 21, 2) := by decide +kernel
theorem dX7_listRows_150 : decode cX7_listRows 150 = .ok (.iaload, 1) := by decide +kernel
theorem dX7_listRows_151 : decode cX7_listRows 151 = .ok (.imul, 1) := by decide +kernel
theorem dX7_listRows_152 : decode cX7_listRows 152 = .ok (.iadd, 1) := by decide +kernel
theorem dX7_listRows_153 : decode cX7_listRows 153 = .ok (.istore 22, 2) := by decide +kernel
theorem dX7_listRows_155 : decode cX7_listRows 155 = .ok (.aload_n 0, 1) := by decide +kernel
theorem dX7_listRows_156 : decode cX7_listRows 156 = .ok (.getfield 33, 3) := by decide +kernel
theorem dX7_listRows_159 : decode cX7_listRows 159 = .ok (.iload 22, 2) := by decide +kernel
theorem dX7_listRows_161 : decode cX7_listRows 161 = .ok (.lload 13, 2) := by decide +kernel
theorem dX7_listRows_163 : decode cX7_listRows 163 = .ok (.lastore, 1) := by decide +kernel
theorem dX7_listRows_164 : decode cX7_listRows 164 = .ok (.aload_n 0, 1) := by decide +kernel
theorem dX7_listRows_165 : decode cX7_listRows 165 = .ok (.getfield 33, 3) := by decide +kernel
theorem dX7_listRows_168 : decode cX7_listRows 168 = .ok (.iload 22, 2) := by decide +kernel
theorem dX7_listRows_170 : decode cX7_listRows 170 = .ok (.iconst 1, 1) := by decide +kernel
theorem dX7_listRows_171 : decode cX7_listRows 171 = .ok (.iadd, 1) := by decide +kernel
theorem dX7_listRows_172 : decode cX7_listRows 172 = .ok (.lload 15, 2) := by decide +kernel
theorem dX7_listRows_174 : decode cX7_listRows 174 = .ok (.lastore, 1) := by decide +kernel
theorem dX7_listRows_175 : decode cX7_listRows 175 = .ok (.aload_n 0, 1) := by decide +kernel
theorem dX7_listRows_176 : decode cX7_listRows 176 = .ok (.getfield 33, 3) := by decide +kernel
theorem dX7_listRows_179 : decode cX7_listRows 179 = .ok (.iload 22, 2) := by decide +kernel
theorem dX7_listRows_181 : decode cX7_listRows 181 = .ok (.iconst 2, 1) := by decide +kernel
theorem dX7_listRows_182 : decode cX7_listRows 182 = .ok (.iadd, 1) := by decide +kernel
theorem dX7_listRows_183 : decode cX7_listRows 183 = .ok (.lload 17, 2) := by decide +kernel
theorem dX7_listRows_185 : decode cX7_listRows 185 = .ok (.lastore, 1) := by decide +kernel
theorem dX7_listRows_186 : decode cX7_listRows 186 = .ok (.aload_n 0, 1) := by decide +kernel
theorem dX7_listRows_187 : decode cX7_listRows 187 = .ok (.getfield 36, 3) := by decide +kernel
theorem dX7_listRows_190 : decode cX7_listRows 190 = .ok (.iload 21, 2) := by decide +kernel
theorem dX7_listRows_192 : decode cX7_listRows 192 = .ok (.dup2, 1) := by decide +kernel
theorem dX7_listRows_193 : decode cX7_listRows 193 = .ok (.iaload, 1) := by decide +kernel
theorem dX7_listRows_194 : decode cX7_listRows 194 = .ok (.iconst 1, 1) := by decide +kernel
theorem dX7_listRows_195 : decode cX7_listRows 195 = .ok (.iadd, 1) := by decide +kernel
theorem dX7_listRows_196 : decode cX7_listRows 196 = .ok (.iastore, 1) := by decide +kernel
theorem dX7_listRows_197 : decode cX7_listRows 197 = .ok (.iinc 21 1, 3) := by decide +kernel
theorem dX7_listRows_200 : decode cX7_listRows 200 = .ok (.goto (-96), 3) := by decide +kernel
theorem dX7_listRows_203 : decode cX7_listRows 203 = .ok (.lload 17, 2) := by decide +kernel
theorem dX7_listRows_205 : decode cX7_listRows 205 = .ok (.lconst 1, 1) := by decide +kernel
theorem dX7_listRows_206 : decode cX7_listRows 206 = .ok (.ladd, 1) := by decide +kernel
theorem dX7_listRows_207 : decode cX7_listRows 207 = .ok (.lstore 17, 2) := by decide +kernel
theorem dX7_listRows_209 : decode cX7_listRows 209 = .ok (.goto (-128), 3) := by decide +kernel
theorem dX7_listRows_212 : decode cX7_listRows 212 = .ok (.lload 15, 2) := by decide +kernel
theorem dX7_listRows_214 : decode cX7_listRows 214 = .ok (.lconst 1, 1) := by decide +kernel
theorem dX7_listRows_215 : decode cX7_listRows 215 = .ok (.ladd, 1) := by decide +kernel
theorem dX7_listRows_216 : decode cX7_listRows 216 = .ok (.lstore 15, 2) := by decide +kernel
theorem dX7_listRows_218 : decode cX7_listRows 218 = .ok (.goto (-150), 3) := by decide +kernel
theorem dX7_listRows_221 : decode cX7_listRows 221 = .ok (.lload 13, 2) := by decide +kernel
theorem dX7_listRows_223 : decode cX7_listRows 223 = .ok (.lconst 1, 1) := by decide +kernel
theorem dX7_listRows_224 : decode cX7_listRows 224 = .ok (.ladd, 1) := by decide +kernel
theorem dX7_listRows_225 : decode cX7_listRows 225 = .ok (.lstore 13, 2) := by decide +kernel
theorem dX7_listRows_227 : decode cX7_listRows 227 = .ok (.goto (-172), 3) := by decide +kernel
theorem dX7_listRows_230 : decode cX7_listRows 230 = .ok (.return_, 1) := by decide +kernel
theorem dX7_det_0 : decode cX7_det 0 = .ok (.aload_n 0, 1) := by decide +kernel
theorem dX7_det_1 : decode cX7_det 1 = .ok (.getfield 33, 3) := by decide +kernel
theorem dX7_det_4 : decode cX7_det 4 = .ok (.iload_n 2, 1) := by decide +kernel
theorem dX7_det_5 : decode cX7_det 5 = .ok (.laload, 1) := by decide +kernel
theorem dX7_det_6 : decode cX7_det 6 = .ok (.aload_n 0, 1) := by decide +kernel
theorem dX7_det_7 : decode cX7_det 7 = .ok (.getfield 33, 3) := by decide +kernel
theorem dX7_det_10 : decode cX7_det 10 = .ok (.iload_n 2, 1) := by decide +kernel
theorem dX7_det_11 : decode cX7_det 11 = .ok (.iconst 1, 1) := by decide +kernel
theorem dX7_det_12 : decode cX7_det 12 = .ok (.iadd, 1) := by decide +kernel
theorem dX7_det_13 : decode cX7_det 13 = .ok (.laload, 1) := by decide +kernel
theorem dX7_det_14 : decode cX7_det 14 = .ok (.aload_n 0, 1) := by decide +kernel
theorem dX7_det_15 : decode cX7_det 15 = .ok (.getfield 33, 3) := by decide +kernel
theorem dX7_det_18 : decode cX7_det 18 = .ok (.iload_n 2, 1) := by decide +kernel
theorem dX7_det_19 : decode cX7_det 19 = .ok (.iconst 2, 1) := by decide +kernel
theorem dX7_det_20 : decode cX7_det 20 = .ok (.iadd, 1) := by decide +kernel
theorem dX7_det_21 : decode cX7_det 21 = .ok (.laload, 1) := by decide +kernel
theorem dX7_det_22 : decode cX7_det 22 = .ok (.aload_n 0, 1) := by decide +kernel
theorem dX7_det_23 : decode cX7_det 23 = .ok (.getfield 33, 3) := by decide +kernel
theorem dX7_det_26 : decode cX7_det 26 = .ok (.iload_n 3, 1) := by decide +kernel
theorem dX7_det_27 : decode cX7_det 27 = .ok (.laload, 1) := by decide +kernel
theorem dX7_det_28 : decode cX7_det 28 = .ok (.aload_n 0, 1) := by decide +kernel
theorem dX7_det_29 : decode cX7_det 29 = .ok (.getfield 33, 3) := by decide +kernel
theorem dX7_det_32 : decode cX7_det 32 = .ok (.iload_n 3, 1) := by decide +kernel
theorem dX7_det_33 : decode cX7_det 33 = .ok (.iconst 1, 1) := by decide +kernel
theorem dX7_det_34 : decode cX7_det 34 = .ok (.iadd, 1) := by decide +kernel
theorem dX7_det_35 : decode cX7_det 35 = .ok (.laload, 1) := by decide +kernel
theorem dX7_det_36 : decode cX7_det 36 = .ok (.aload_n 0, 1) := by decide +kernel
theorem dX7_det_37 : decode cX7_det 37 = .ok (.getfield 33, 3) := by decide +kernel
theorem dX7_det_40 : decode cX7_det 40 = .ok (.iload_n 3, 1) := by decide +kernel
theorem dX7_det_41 : decode cX7_det 41 = .ok (.iconst 2, 1) := by decide +kernel
theorem dX7_det_42 : decode cX7_det 42 = .ok (.iadd, 1) := by decide +kernel
theorem dX7_det_43 : decode cX7_det 43 = .ok (.laload, 1) := by decide +kernel
theorem dX7_det_44 : decode cX7_det 44 = .ok (.iconst 0, 1) := by decide +kernel
theorem dX7_det_45 : decode cX7_det 45 = .ok (.invokestatic 92, 3) := by decide +kernel
theorem dX7_det_48 : decode cX7_det 48 = .ok (.lstore 4, 2) := by decide +kernel
theorem dX7_det_50 : decode cX7_det 50 = .ok (.aload_n 0, 1) := by decide +kernel
theorem dX7_det_51 : decode cX7_det 51 = .ok (.getfield 33, 3) := by decide +kernel
theorem dX7_det_54 : decode cX7_det 54 = .ok (.iload_n 2, 1) := by decide +kernel
theorem dX7_det_55 : decode cX7_det 55 = .ok (.laload, 1) := by decide +kernel
theorem dX7_det_56 : decode cX7_det 56 = .ok (.aload_n 0, 1) := by decide +kernel
theorem dX7_det_57 : decode cX7_det 57 = .ok (.getfield 33, 3) := by decide +kernel
theorem dX7_det_60 : decode cX7_det 60 = .ok (.iload_n 2, 1) := by decide +kernel
theorem dX7_det_61 : decode cX7_det 61 = .ok (.iconst 1, 1) := by decide +kernel
theorem dX7_det_62 : decode cX7_det 62 = .ok (.iadd, 1) := by decide +kernel
theorem dX7_det_63 : decode cX7_det 63 = .ok (.laload, 1) := by decide +kernel
theorem dX7_det_64 : decode cX7_det 64 = .ok (.aload_n 0, 1) := by decide +kernel
theorem dX7_det_65 : decode cX7_det 65 = .ok (.getfield 33, 3) := by decide +kernel
theorem dX7_det_68 : decode cX7_det 68 = .ok (.iload_n 2, 1) := by decide +kernel
theorem dX7_det_69 : decode cX7_det 69 = .ok (.iconst 2, 1) := by decide +kernel
theorem dX7_det_70 : decode cX7_det 70 = .ok (.iadd, 1) := by decide +kernel
theorem dX7_det_71 : decode cX7_det 71 = .ok (.laload, 1) := by decide +kernel
theorem dX7_det_72 : decode cX7_det 72 = .ok (.aload_n 0, 1) := by decide +kernel
theorem dX7_det_73 : decode cX7_det 73 = .ok (.getfield 33, 3) := by decide +kernel
theorem dX7_det_76 : decode cX7_det 76 = .ok (.iload_n 3, 1) := by decide +kernel
theorem dX7_det_77 : decode cX7_det 77 = .ok (.laload, 1) := by decide +kernel
theorem dX7_det_78 : decode cX7_det 78 = .ok (.aload_n 0, 1) := by decide +kernel
theorem dX7_det_79 : decode cX7_det 79 = .ok (.getfield 33, 3) := by decide +kernel
theorem dX7_det_82 : decode cX7_det 82 = .ok (.iload_n 3, 1) := by decide +kernel
theorem dX7_det_83 : decode cX7_det 83 = .ok (.iconst 1, 1) := by decide +kernel
theorem dX7_det_84 : decode cX7_det 84 = .ok (.iadd, 1) := by decide +kernel
theorem dX7_det_85 : decode cX7_det 85 = .ok (.laload, 1) := by decide +kernel
theorem dX7_det_86 : decode cX7_det 86 = .ok (.aload_n 0, 1) := by decide +kernel
theorem dX7_det_87 : decode cX7_det 87 = .ok (.getfield 33, 3) := by decide +kernel
theorem dX7_det_90 : decode cX7_det 90 = .ok (.iload_n 3, 1) := by decide +kernel
theorem dX7_det_91 : decode cX7_det 91 = .ok (.iconst 2, 1) := by decide +kernel
theorem dX7_det_92 : decode cX7_det 92 = .ok (.iadd, 1) := by decide +kernel
theorem dX7_det_93 : decode cX7_det 93 = .ok (.laload, 1) := by decide +kernel
theorem dX7_det_94 : decode cX7_det 94 = .ok (.iconst 1, 1) := by decide +kernel
theorem dX7_det_95 : decode cX7_det 95 = .ok (.invokestatic 92, 3) := by decide +kernel
theorem dX7_det_98 : decode cX7_det 98 = .ok (.lstore 6, 2) := by decide +kernel
theorem dX7_det_100 : decode cX7_det 100 = .ok (.aload_n 0, 1) := by decide +kernel
theorem dX7_det_101 : decode cX7_det 101 = .ok (.getfield 33, 3) := by decide +kernel
theorem dX7_det_104 : decode cX7_det 104 = .ok (.iload_n 2, 1) := by decide +kernel
theorem dX7_det_105 : decode cX7_det 105 = .ok (.laload, 1) := by decide +kernel
theorem dX7_det_106 : decode cX7_det 106 = .ok (.aload_n 0, 1) := by decide +kernel
theorem dX7_det_107 : decode cX7_det 107 = .ok (.getfield 33, 3) := by decide +kernel
theorem dX7_det_110 : decode cX7_det 110 = .ok (.iload_n 2, 1) := by decide +kernel
theorem dX7_det_111 : decode cX7_det 111 = .ok (.iconst 1, 1) := by decide +kernel
theorem dX7_det_112 : decode cX7_det 112 = .ok (.iadd, 1) := by decide +kernel
theorem dX7_det_113 : decode cX7_det 113 = .ok (.laload, 1) := by decide +kernel
theorem dX7_det_114 : decode cX7_det 114 = .ok (.aload_n 0, 1) := by decide +kernel
theorem dX7_det_115 : decode cX7_det 115 = .ok (.getfield 33, 3) := by decide +kernel
theorem dX7_det_118 : decode cX7_det 118 = .ok (.iload_n 2, 1) := by decide +kernel
theorem dX7_det_119 : decode cX7_det 119 = .ok (.iconst 2, 1) := by decide +kernel
theorem dX7_det_120 : decode cX7_det 120 = .ok (.iadd, 1) := by decide +kernel
theorem dX7_det_121 : decode cX7_det 121 = .ok (.laload, 1) := by decide +kernel
theorem dX7_det_122 : decode cX7_det 122 = .ok (.aload_n 0, 1) := by decide +kernel
theorem dX7_det_123 : decode cX7_det 123 = .ok (.getfield 33, 3) := by decide +kernel
theorem dX7_det_126 : decode cX7_det 126 = .ok (.iload_n 3, 1) := by decide +kernel
theorem dX7_det_127 : decode cX7_det 127 = .ok (.laload, 1) := by decide +kernel
theorem dX7_det_128 : decode cX7_det 128 = .ok (.aload_n 0, 1) := by decide +kernel
theorem dX7_det_129 : decode cX7_det 129 = .ok (.getfield 33, 3) := by decide +kernel
theorem dX7_det_132 : decode cX7_det 132 = .ok (.iload_n 3, 1) := by decide +kernel
theorem dX7_det_133 : decode cX7_det 133 = .ok (.iconst 1, 1) := by decide +kernel
theorem dX7_det_134 : decode cX7_det 134 = .ok (.iadd, 1) := by decide +kernel
theorem dX7_det_135 : decode cX7_det 135 = .ok (.laload, 1) := by decide +kernel
theorem dX7_det_136 : decode cX7_det 136 = .ok (.aload_n 0, 1) := by decide +kernel
theorem dX7_det_137 : decode cX7_det 137 = .ok (.getfield 33, 3) := by decide +kernel
theorem dX7_det_140 : decode cX7_det 140 = .ok (.iload_n 3, 1) := by decide +kernel
theorem dX7_det_141 : decode cX7_det 141 = .ok (.iconst 2, 1) := by decide +kernel
theorem dX7_det_142 : decode cX7_det 142 = .ok (.iadd, 1) := by decide +kernel
theorem dX7_det_143 : decode cX7_det 143 = .ok (.laload, 1) := by decide +kernel
theorem dX7_det_144 : decode cX7_det 144 = .ok (.iconst 2, 1) := by decide +kernel
theorem dX7_det_145 : decode cX7_det 145 = .ok (.invokestatic 92, 3) := by decide +kernel
theorem dX7_det_148 : decode cX7_det 148 = .ok (.lstore 8, 2) := by decide +kernel
theorem dX7_det_150 : decode cX7_det 150 = .ok (.aload_n 0, 1) := by decide +kernel
theorem dX7_det_151 : decode cX7_det 151 = .ok (.getfield 33, 3) := by decide +kernel
theorem dX7_det_154 : decode cX7_det 154 = .ok (.iload_n 1, 1) := by decide +kernel
theorem dX7_det_155 : decode cX7_det 155 = .ok (.laload, 1) := by decide +kernel
theorem dX7_det_156 : decode cX7_det 156 = .ok (.lload 4, 2) := by decide +kernel
theorem dX7_det_158 : decode cX7_det 158 = .ok (.lmul, 1) := by decide +kernel
theorem dX7_det_159 : decode cX7_det 159 = .ok (.aload_n 0, 1) := by decide +kernel
theorem dX7_det_160 : decode cX7_det 160 = .ok (.getfield 33, 3) := by decide +kernel
theorem dX7_det_163 : decode cX7_det 163 = .ok (.iload_n 1, 1) := by decide +kernel
theorem dX7_det_164 : decode cX7_det 164 = .ok (.iconst 1, 1) := by decide +kernel
theorem dX7_det_165 : decode cX7_det 165 = .ok (.iadd, 1) := by decide +kernel
theorem dX7_det_166 : decode cX7_det 166 = .ok (.laload, 1) := by decide +kernel
theorem dX7_det_167 : decode cX7_det 167 = .ok (.lload 6, 2) := by decide +kernel
theorem dX7_det_169 : decode cX7_det 169 = .ok (.lmul, 1) := by decide +kernel
theorem dX7_det_170 : decode cX7_det 170 = .ok (.ladd, 1) := by decide +kernel
theorem dX7_det_171 : decode cX7_det 171 = .ok (.aload_n 0, 1) := by decide +kernel
theorem dX7_det_172 : decode cX7_det 172 = .ok (.getfield 33, 3) := by decide +kernel
theorem dX7_det_175 : decode cX7_det 175 = .ok (.iload_n 1, 1) := by decide +kernel
theorem dX7_det_176 : decode cX7_det 176 = .ok (.iconst 2, 1) := by decide +kernel
theorem dX7_det_177 : decode cX7_det 177 = .ok (.iadd, 1) := by decide +kernel
theorem dX7_det_178 : decode cX7_det 178 = .ok (.laload, 1) := by decide +kernel
theorem dX7_det_179 : decode cX7_det 179 = .ok (.lload 8, 2) := by decide +kernel
theorem dX7_det_181 : decode cX7_det 181 = .ok (.lmul, 1) := by decide +kernel
theorem dX7_det_182 : decode cX7_det 182 = .ok (.ladd, 1) := by decide +kernel
theorem dX7_det_183 : decode cX7_det 183 = .ok (.lreturn, 1) := by decide +kernel
theorem dX7_touchIn_0 : decode cX7_touchIn 0 = .ok (.aload_n 0, 1) := by decide +kernel
theorem dX7_touchIn_1 : decode cX7_touchIn 1 = .ok (.aload_n 0, 1) := by decide +kernel
theorem dX7_touchIn_2 : decode cX7_touchIn 2 = .ok (.getfield 33, 3) := by decide +kernel
theorem dX7_touchIn_5 : decode cX7_touchIn 5 = .ok (.iload_n 1, 1) := by decide +kernel
theorem dX7_touchIn_6 : decode cX7_touchIn 6 = .ok (.laload, 1) := by decide +kernel
theorem dX7_touchIn_7 : decode cX7_touchIn 7 = .ok (.aload_n 0, 1) := by decide +kernel
theorem dX7_touchIn_8 : decode cX7_touchIn 8 = .ok (.getfield 33, 3) := by decide +kernel
theorem dX7_touchIn_11 : decode cX7_touchIn 11 = .ok (.iload_n 1, 1) := by decide +kernel
theorem dX7_touchIn_12 : decode cX7_touchIn 12 = .ok (.iconst 1, 1) := by decide +kernel
theorem dX7_touchIn_13 : decode cX7_touchIn 13 = .ok (.iadd, 1) := by decide +kernel
theorem dX7_touchIn_14 : decode cX7_touchIn 14 = .ok (.laload, 1) := by decide +kernel
theorem dX7_touchIn_15 : decode cX7_touchIn 15 = .ok (.aload_n 0, 1) := by decide +kernel
theorem dX7_touchIn_16 : decode cX7_touchIn 16 = .ok (.getfield 33, 3) := by decide +kernel
theorem dX7_touchIn_19 : decode cX7_touchIn 19 = .ok (.iload_n 1, 1) := by decide +kernel
theorem dX7_touchIn_20 : decode cX7_touchIn 20 = .ok (.iconst 2, 1) := by decide +kernel
theorem dX7_touchIn_21 : decode cX7_touchIn 21 = .ok (.iadd, 1) := by decide +kernel
theorem dX7_touchIn_22 : decode cX7_touchIn 22 = .ok (.laload, 1) := by decide +kernel
theorem dX7_touchIn_23 : decode cX7_touchIn 23 = .ok (.aload_n 0, 1) := by decide +kernel
theorem dX7_touchIn_24 : decode cX7_touchIn 24 = .ok (.getfield 33, 3) := by decide +kernel
theorem dX7_touchIn_27 : decode cX7_touchIn 27 = .ok (.iload_n 2, 1) := by decide +kernel
theorem dX7_touchIn_28 : decode cX7_touchIn 28 = .ok (.laload, 1) := by decide +kernel
theorem dX7_touchIn_29 : decode cX7_touchIn 29 = .ok (.aload_n 0, 1) := by decide +kernel
theorem dX7_touchIn_30 : decode cX7_touchIn 30 = .ok (.getfield 33, 3) := by decide +kernel
theorem dX7_touchIn_33 : decode cX7_touchIn 33 = .ok (.iload_n 2, 1) := by decide +kernel
theorem dX7_touchIn_34 : decode cX7_touchIn 34 = .ok (.iconst 1, 1) := by decide +kernel
theorem dX7_touchIn_35 : decode cX7_touchIn 35 = .ok (.iadd, 1) := by decide +kernel
theorem dX7_touchIn_36 : decode cX7_touchIn 36 = .ok (.laload, 1) := by decide +kernel
theorem dX7_touchIn_37 : decode cX7_touchIn 37 = .ok (.aload_n 0, 1) := by decide +kernel
theorem dX7_touchIn_38 : decode cX7_touchIn 38 = .ok (.getfield 33, 3) := by decide +kernel
theorem dX7_touchIn_41 : decode cX7_touchIn 41 = .ok (.iload_n 2, 1) := by decide +kernel
theorem dX7_touchIn_42 : decode cX7_touchIn 42 = .ok (.iconst 2, 1) := by decide +kernel
theorem dX7_touchIn_43 : decode cX7_touchIn 43 = .ok (.iadd, 1) := by decide +kernel
theorem dX7_touchIn_44 : decode cX7_touchIn 44 = .ok (.laload, 1) := by decide +kernel
theorem dX7_touchIn_45 : decode cX7_touchIn 45 = .ok (.invokevirtual 106, 3) := by decide +kernel
theorem dX7_touchIn_48 : decode cX7_touchIn 48 = .ok (.lreturn, 1) := by decide +kernel
theorem dX7_tryTable_0 : decode cX7_tryTable 0 = .ok (.iconst 0, 1) := by decide +kernel
theorem dX7_tryTable_1 : decode cX7_tryTable 1 = .ok (.istore 4, 2) := by decide +kernel
theorem dX7_tryTable_3 : decode cX7_tryTable 3 = .ok (.iload 4, 2) := by decide +kernel
theorem dX7_tryTable_5 : decode cX7_tryTable 5 = .ok (.bipush 9, 2) := by decide +kernel
theorem dX7_tryTable_7 : decode cX7_tryTable 7 = .ok (.if_icmp .ge 102, 3) := by decide +kernel
theorem dX7_tryTable_10 : decode cX7_tryTable 10 = .ok (.iload 4, 2) := by decide +kernel
theorem dX7_tryTable_12 : decode cX7_tryTable 12 = .ok (.iconst 3, 1) := by decide +kernel
theorem dX7_tryTable_13 : decode cX7_tryTable 13 = .ok (.if_icmp .ge 7, 3) := by decide +kernel
theorem dX7_tryTable_16 : decode cX7_tryTable 16 = .ok (.iload_n 1, 1) := by decide +kernel
theorem dX7_tryTable_17 : decode cX7_tryTable 17 = .ok (.goto 15, 3) := by decide +kernel
theorem dX7_tryTable_20 : decode cX7_tryTable 20 = .ok (.iload 4, 2) := by decide +kernel
theorem dX7_tryTable_22 : decode cX7_tryTable 22 = .ok (.bipush 6, 2) := by decide +kernel
theorem dX7_tryTable_24 : decode cX7_tryTable 24 = .ok (.if_icmp .ge 7, 3) := by decide +kernel
theorem dX7_tryTable_27 : decode cX7_tryTable 27 = .ok (.iload_n 2, 1) := by decide +kernel
theorem dX7_tryTable_28 : decode cX7_tryTable 28 = .ok (.goto 4, 3) := by decide +kernel
theorem dX7_tryTable_31 : decode cX7_tryTable 31 = .ok (.iload_n 3, 1) := by decide +kernel
theorem dX7_tryTable_32 : decode cX7_tryTable 32 = .ok (.istore 5, 2) := by decide +kernel
theorem dX7_tryTable_34 : decode cX7_tryTable 34 = .ok (.aload_n 0, 1) := by decide +kernel
theorem dX7_tryTable_35 : decode cX7_tryTable 35 = .ok (.getfield 39, 3) := by decide +kernel
theorem dX7_tryTable_38 : decode cX7_tryTable 38 = .ok (.iload 4, 2) := by decide +kernel
theorem dX7_tryTable_40 : decode cX7_tryTable 40 = .ok (.aload_n 0, 1) := by decide +kernel
theorem dX7_tryTable_41 : decode cX7_tryTable 41 = .ok (.getfield 33, 3) := by decide +kernel
theorem dX7_tryTable_44 : decode cX7_tryTable 44 = .ok (.iload 5, 2) := by decide +kernel
theorem dX7_tryTable_46 : decode cX7_tryTable 46 = .ok (.laload, 1) := by decide +kernel
theorem dX7_tryTable_47 : decode cX7_tryTable 47 = .ok (.aload_n 0, 1) := by decide +kernel
theorem dX7_tryTable_48 : decode cX7_tryTable 48 = .ok (.getfield 21, 3) := by decide +kernel
theorem dX7_tryTable_51 : decode cX7_tryTable 51 = .ok (.iload 4, 2) := by decide +kernel
theorem dX7_tryTable_53 : decode cX7_tryTable 53 = .ok (.iconst 3, 1) := by decide +kernel
theorem dX7_tryTable_54 : decode cX7_tryTable 54 = .ok (.irem, 1) := by decide +kernel
theorem dX7_tryTable_55 : decode cX7_tryTable 55 = .ok (.laload, 1) := by decide +kernel
theorem dX7_tryTable_56 : decode cX7_tryTable 56 = .ok (.lmul, 1) := by decide +kernel
theorem dX7_tryTable_57 : decode cX7_tryTable 57 = .ok (.aload_n 0, 1) := by decide +kernel
theorem dX7_tryTable_58 : decode cX7_tryTable 58 = .ok (.getfield 33, 3) := by decide +kernel
theorem dX7_tryTable_61 : decode cX7_tryTable 61 = .ok (.iload 5, 2) := by decide +kernel
theorem dX7_tryTable_63 : decode cX7_tryTable 63 = .ok (.iconst 1, 1) := by decide +kernel
theorem dX7_tryTable_64 : decode cX7_tryTable 64 = .ok (.iadd, 1) := by decide +kernel
theorem dX7_tryTable_65 : decode cX7_tryTable 65 = .ok (.laload, 1) := by decide +kernel
theorem dX7_tryTable_66 : decode cX7_tryTable 66 = .ok (.aload_n 0, 1) := by decide +kernel
theorem dX7_tryTable_67 : decode cX7_tryTable 67 = .ok (.getfield 21, 3) := by decide +kernel
theorem dX7_tryTable_70 : decode cX7_tryTable 70 = .ok (.iconst 3, 1) := by decide +kernel
theorem dX7_tryTable_71 : decode cX7_tryTable 71 = .ok (.iload 4, 2) := by decide +kernel
theorem dX7_tryTable_73 : decode cX7_tryTable 73 = .ok (.iconst 3, 1) := by decide +kernel
theorem dX7_tryTable_74 : decode cX7_tryTable 74 = .ok (.irem, 1) := by decide +kernel
theorem dX7_tryTable_75 : decode cX7_tryTable 75 = .ok (.iadd, 1) := by decide +kernel
theorem dX7_tryTable_76 : decode cX7_tryTable 76 = .ok (.laload, 1) := by decide +kernel
theorem dX7_tryTable_77 : decode cX7_tryTable 77 = .ok (.lmul, 1) := by decide +kernel
theorem dX7_tryTable_78 : decode cX7_tryTable 78 = .ok (.ladd, 1) := by decide +kernel
theorem dX7_tryTable_79 : decode cX7_tryTable 79 = .ok (.aload_n 0, 1) := by decide +kernel
theorem dX7_tryTable_80 : decode cX7_tryTable 80 = .ok (.getfield 33, 3) := by decide +kernel
theorem dX7_tryTable_83 : decode cX7_tryTable 83 = .ok (.iload 5, 2) := by decide +kernel
theorem dX7_tryTable_85 : decode cX7_tryTable 85 = .ok (.iconst 2, 1) := by decide +kernel
theorem dX7_tryTable_86 : decode cX7_tryTable 86 = .ok (.iadd, 1) := by decide +kernel
theorem dX7_tryTable_87 : decode cX7_tryTable 87 = .ok (.laload, 1) := by decide +kernel
theorem dX7_tryTable_88 : decode cX7_tryTable 88 = .ok (.aload_n 0, 1) := by decide +kernel
theorem dX7_tryTable_89 : decode cX7_tryTable 89 = .ok (.getfield 21, 3) := by decide +kernel
theorem dX7_tryTable_92 : decode cX7_tryTable 92 = .ok (.bipush 6, 2) := by decide +kernel
theorem dX7_tryTable_94 : decode cX7_tryTable 94 = .ok (.iload 4, 2) := by decide +kernel
theorem dX7_tryTable_96 : decode cX7_tryTable 96 = .ok (.iconst 3, 1) := by decide +kernel
theorem dX7_tryTable_97 : decode cX7_tryTable 97 = .ok (.irem, 1) := by decide +kernel
theorem dX7_tryTable_98 : decode cX7_tryTable 98 = .ok (.iadd, 1) := by decide +kernel
theorem dX7_tryTable_99 : decode cX7_tryTable 99 = .ok (.laload, 1) := by decide +kernel
theorem dX7_tryTable_100 : decode cX7_tryTable 100 = .ok (.lmul, 1) := by decide +kernel
theorem dX7_tryTable_101 : decode cX7_tryTable 101 = .ok (.ladd, 1) := by decide +kernel
theorem dX7_tryTable_102 : decode cX7_tryTable 102 = .ok (.lastore, 1) := by decide +kernel
theorem dX7_tryTable_103 : decode cX7_tryTable 103 = .ok (.iinc 4 1, 3) := by decide +kernel
theorem dX7_tryTable_106 : decode cX7_tryTable 106 = .ok (.goto (-103), 3) := by decide +kernel
theorem dX7_tryTable_109 : decode cX7_tryTable 109 = .ok (.iconst 0, 1) := by decide +kernel
theorem dX7_tryTable_110 : decode cX7_tryTable 110 = .ok (.istore 4, 2) := by decide +kernel
theorem dX7_tryTable_112 : decode cX7_tryTable 112 = .ok (.iload 4, 2) := by decide +kernel
theorem dX7_tryTable_114 : decode cX7_tryTable 114 = .ok (.bipush 8, 2) := by decide +kernel
theorem dX7_tryTable_116 : decode cX7_tryTable 116 = .ok (.if_icmp .ge 27, 3) := by decide +kernel
theorem dX7_tryTable_119 : decode cX7_tryTable 119 = .ok (.aload_n 0, 1) := by decide +kernel
theorem dX7_tryTable_120 : decode cX7_tryTable 120 = .ok (.getfield 39, 3) := by decide +kernel
theorem dX7_tryTable_123 : decode cX7_tryTable 123 = .ok (.iload 4, 2) := by decide +kernel
theorem dX7_tryTable_125 : decode cX7_tryTable 125 = .ok (.laload, 1) := by decide +kernel
theorem dX7_tryTable_126 : decode cX7_tryTable 126 = .ok (.aload_n 0, 1) := by decide +kernel
theorem dX7_tryTable_127 : decode cX7_tryTable 127 = .ok (.getfield 27, 3) := by decide +kernel
theorem dX7_tryTable_130 : decode cX7_tryTable 130 = .ok (.iload 4, 2) := by decide +kernel
theorem dX7_tryTable_132 : decode cX7_tryTable 132 = .ok (.laload, 1) := by decide +kernel
theorem dX7_tryTable_133 : decode cX7_tryTable 133 = .ok (.lcmp, 1) := by decide +kernel
theorem dX7_tryTable_134 : decode cX7_tryTable 134 = .ok (.ifCond .ne 9, 3) := by decide +kernel
theorem dX7_tryTable_137 : decode cX7_tryTable 137 = .ok (.iinc 4 1, 3) := by decide +kernel
theorem dX7_tryTable_140 : decode cX7_tryTable 140 = .ok (.goto (-28), 3) := by decide +kernel
theorem dX7_tryTable_143 : decode cX7_tryTable 143 = .ok (.aload_n 0, 1) := by decide +kernel
theorem dX7_tryTable_144 : decode cX7_tryTable 144 = .ok (.getfield 110, 3) := by decide +kernel
theorem dX7_tryTable_147 : decode cX7_tryTable 147 = .ok (.iconst 1, 1) := by decide +kernel
theorem dX7_tryTable_148 : decode cX7_tryTable 148 = .ok (.if_icmp .eq 21, 3) := by decide +kernel
theorem dX7_tryTable_151 : decode cX7_tryTable 151 = .ok (.aload_n 0, 1) := by decide +kernel
theorem dX7_tryTable_152 : decode cX7_tryTable 152 = .ok (.getfield 39, 3) := by decide +kernel
theorem dX7_tryTable_155 : decode cX7_tryTable 155 = .ok (.iload 4, 2) := by decide +kernel
theorem dX7_tryTable_157 : decode cX7_tryTable 157 = .ok (.laload, 1) := by decide +kernel
theorem dX7_tryTable_158 : decode cX7_tryTable 158 = .ok (.aload_n 0, 1) := by decide +kernel
theorem dX7_tryTable_159 : decode cX7_tryTable 159 = .ok (.getfield 27, 3) := by decide +kernel
theorem dX7_tryTable_162 : decode cX7_tryTable 162 = .ok (.iload 4, 2) := by decide +kernel
theorem dX7_tryTable_164 : decode cX7_tryTable 164 = .ok (.laload, 1) := by decide +kernel
theorem dX7_tryTable_165 : decode cX7_tryTable 165 = .ok (.lcmp, 1) := by decide +kernel
theorem dX7_tryTable_166 : decode cX7_tryTable 166 = .ok (.ifCond .ge 33, 3) := by decide +kernel
theorem dX7_tryTable_169 : decode cX7_tryTable 169 = .ok (.iconst 0, 1) := by decide +kernel
theorem dX7_tryTable_170 : decode cX7_tryTable 170 = .ok (.istore 5, 2) := by decide +kernel
theorem dX7_tryTable_172 : decode cX7_tryTable 172 = .ok (.iload 5, 2) := by decide +kernel
theorem dX7_tryTable_174 : decode cX7_tryTable 174 = .ok (.bipush 9, 2) := by decide +kernel
theorem dX7_tryTable_176 : decode cX7_tryTable 176 = .ok (.if_icmp .ge 23, 3) := by decide +kernel
theorem dX7_tryTable_179 : decode cX7_tryTable 179 = .ok (.aload_n 0, 1) := by decide +kernel
theorem dX7_tryTable_180 : decode cX7_tryTable 180 = .ok (.getfield 27, 3) := by decide +kernel
theorem dX7_tryTable_183 : decode cX7_tryTable 183 = .ok (.iload 5, 2) := by decide +kernel
theorem dX7_tryTable_185 : decode cX7_tryTable 185 = .ok (.aload_n 0, 1) := by decide +kernel
theorem dX7_tryTable_186 : decode cX7_tryTable 186 = .ok (.getfield 39, 3) := by decide +kernel
theorem dX7_tryTable_189 : decode cX7_tryTable 189 = .ok (.iload 5, 2) := by decide +kernel
theorem dX7_tryTable_191 : decode cX7_tryTable 191 = .ok (.laload, 1) := by decide +kernel
theorem dX7_tryTable_192 : decode cX7_tryTable 192 = .ok (.lastore, 1) := by decide +kernel
theorem dX7_tryTable_193 : decode cX7_tryTable 193 = .ok (.iinc 5 1, 3) := by decide +kernel
theorem dX7_tryTable_196 : decode cX7_tryTable 196 = .ok (.goto (-24), 3) := by decide +kernel
theorem dX7_tryTable_199 : decode cX7_tryTable 199 = .ok (.return_, 1) := by decide +kernel
theorem dX7_tryRows_0 : decode cX7_tryRows 0 = .ok (.aload_n 0, 1) := by decide +kernel
theorem dX7_tryRows_1 : decode cX7_tryRows 1 = .ok (.iload_n 1, 1) := by decide +kernel
theorem dX7_tryRows_2 : decode cX7_tryRows 2 = .ok (.iload_n 2, 1) := by decide +kernel
theorem dX7_tryRows_3 : decode cX7_tryRows 3 = .ok (.iload_n 3, 1) := by decide +kernel
theorem dX7_tryRows_4 : decode cX7_tryRows 4 = .ok (.invokevirtual 113, 3) := by decide +kernel
theorem dX7_tryRows_7 : decode cX7_tryRows 7 = .ok (.lstore 4, 2) := by decide +kernel
