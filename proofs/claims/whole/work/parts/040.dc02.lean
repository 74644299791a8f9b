theorem dX6_kind_83 : decode cX6_kind 83 = .ok (.aload 5, 2) := by decide +kernel
theorem dX6_kind_85 : decode cX6_kind 85 = .ok (.getfield 163, 3) := by decide +kernel
theorem dX6_kind_88 : decode cX6_kind 88 = .ok (.iload_n 2, 1) := by decide +kernel
theorem dX6_kind_89 : decode cX6_kind 89 = .ok (.iaload, 1) := by decide +kernel
theorem dX6_kind_90 : decode cX6_kind 90 = .ok (.ireturn, 1) := by decide +kernel
theorem dX6_among_0 : decode cX6_among 0 = .ok (.aload_n 0, 1) := by decide +kernel
theorem dX6_among_1 : decode cX6_among 1 = .ok (.iload_n 1, 1) := by decide +kernel
theorem dX6_among_2 : decode cX6_among 2 = .ok (.invokevirtual 63, 3) := by decide +kernel
theorem dX6_among_5 : decode cX6_among 5 = .ok (.ifCond .ne 11, 3) := by decide +kernel
theorem dX6_among_8 : decode cX6_among 8 = .ok (.aload_n 0, 1) := by decide +kernel
theorem dX6_among_9 : decode cX6_among 9 = .ok (.iload_n 2, 1) := by decide +kernel
theorem dX6_among_10 : decode cX6_among 10 = .ok (.invokevirtual 63, 3) := by decide +kernel
theorem dX6_among_13 : decode cX6_among 13 = .ok (.ifCond .eq 6, 3) := by decide +kernel
theorem dX6_among_16 : decode cX6_among 16 = .ok (.ldc 67, 2) := by decide +kernel
theorem dX6_among_18 : decode cX6_among 18 = .ok (.ireturn, 1) := by decide +kernel
theorem dX6_among_19 : decode cX6_among 19 = .ok (.aload_n 0, 1) := by decide +kernel
theorem dX6_among_20 : decode cX6_among 20 = .ok (.iload_n 1, 1) := by decide +kernel
theorem dX6_among_21 : decode cX6_among 21 = .ok (.invokevirtual 149, 3) := by decide +kernel
theorem dX6_among_24 : decode cX6_among 24 = .ok (.istore_n 3, 1) := by decide +kernel
theorem dX6_among_25 : decode cX6_among 25 = .ok (.iload_n 3, 1) := by decide +kernel
theorem dX6_among_26 : decode cX6_among 26 = .ok (.ifCond .ge 7, 3) := by decide +kernel
theorem dX6_among_29 : decode cX6_among 29 = .ok (.iload_n 3, 1) := by decide +kernel
theorem dX6_among_30 : decode cX6_among 30 = .ok (.goto 24, 3) := by decide +kernel
theorem dX6_among_33 : decode cX6_among 33 = .ok (.aload_n 0, 1) := by decide +kernel
theorem dX6_among_34 : decode cX6_among 34 = .ok (.getfield 11, 3) := by decide +kernel
theorem dX6_among_37 : decode cX6_among 37 = .ok (.iload_n 1, 1) := by decide +kernel
theorem dX6_among_38 : decode cX6_among 38 = .ok (.aaload, 1) := by decide +kernel
theorem dX6_among_39 : decode cX6_among 39 = .ok (.getfield 153, 3) := by decide +kernel
theorem dX6_among_42 : decode cX6_among 42 = .ok (.aload_n 0, 1) := by decide +kernel
theorem dX6_among_43 : decode cX6_among 43 = .ok (.getfield 11, 3) := by decide +kernel
theorem dX6_among_46 : decode cX6_among 46 = .ok (.iload_n 2, 1) := by decide +kernel
theorem dX6_among_47 : decode cX6_among 47 = .ok (.aaload, 1) := by decide +kernel
theorem dX6_among_48 : decode cX6_among 48 = .ok (.getfield 79, 3) := by decide +kernel
theorem dX6_among_51 : decode cX6_among 51 = .ok (.invokevirtual 166, 3) := by decide +kernel
theorem dX6_among_54 : decode cX6_among 54 = .ok (.ireturn, 1) := by decide +kernel
theorem dX6_ways_0 : decode cX6_ways 0 = .ok (.aload_n 0, 1) := by decide +kernel
theorem dX6_ways_1 : decode cX6_ways 1 = .ok (.iload_n 1, 1) := by decide +kernel
theorem dX6_ways_2 : decode cX6_ways 2 = .ok (.invokevirtual 63, 3) := by decide +kernel
theorem dX6_ways_5 : decode cX6_ways 5 = .ok (.ifCond .eq 6, 3) := by decide +kernel
theorem dX6_ways_8 : decode cX6_ways 8 = .ok (.ldc 67, 2) := by decide +kernel
theorem dX6_ways_10 : decode cX6_ways 10 = .ok (.ireturn, 1) := by decide +kernel
theorem dX6_ways_11 : decode cX6_ways 11 = .ok (.aload_n 0, 1) := by decide +kernel
theorem dX6_ways_12 : decode cX6_ways 12 = .ok (.iload_n 1, 1) := by decide +kernel
theorem dX6_ways_13 : decode cX6_ways 13 = .ok (.invokevirtual 149, 3) := by decide +kernel
theorem dX6_ways_16 : decode cX6_ways 16 = .ok (.istore 4, 2) := by decide +kernel
theorem dX6_ways_18 : decode cX6_ways 18 = .ok (.iload 4, 2) := by decide +kernel
theorem dX6_ways_20 : decode cX6_ways 20 = .ok (.ifCond .ge 6, 3) := by decide +kernel
theorem dX6_ways_23 : decode cX6_ways 23 = .ok (.iload 4, 2) := by decide +kernel
theorem dX6_ways_25 : decode cX6_ways 25 = .ok (.ireturn, 1) := by decide +kernel
theorem dX6_ways_26 : decode cX6_ways 26 = .ok (.iload_n 2, 1) := by decide +kernel
theorem dX6_ways_27 : decode cX6_ways 27 = .ok (.iconst 0, 1) := by decide +kernel
theorem dX6_ways_28 : decode cX6_ways 28 = .ok (.iload 4, 2) := by decide +kernel
theorem dX6_ways_30 : decode cX6_ways 30 = .ok (.iconst 1, 1) := by decide +kernel
theorem dX6_ways_31 : decode cX6_ways 31 = .ok (.isub, 1) := by decide +kernel
theorem dX6_ways_32 : decode cX6_ways 32 = .ok (.invokestatic 69, 3) := by decide +kernel
theorem dX6_ways_35 : decode cX6_ways 35 = .ok (.ifCond .ne 15, 3) := by decide +kernel
theorem dX6_ways_38 : decode cX6_ways 38 = .ok (.iload_n 3, 1) := by decide +kernel
theorem dX6_ways_39 : decode cX6_ways 39 = .ok (.iconst 0, 1) := by decide +kernel
theorem dX6_ways_40 : decode cX6_ways 40 = .ok (.iload 4, 2) := by decide +kernel
theorem dX6_ways_42 : decode cX6_ways 42 = .ok (.iconst 1, 1) := by decide +kernel
theorem dX6_ways_43 : decode cX6_ways 43 = .ok (.isub, 1) := by decide +kernel
theorem dX6_ways_44 : decode cX6_ways 44 = .ok (.invokestatic 69, 3) := by decide +kernel
theorem dX6_ways_47 : decode cX6_ways 47 = .ok (.ifCond .eq 6, 3) := by decide +kernel
theorem dX6_ways_50 : decode cX6_ways 50 = .ok (.ldc 67, 2) := by decide +kernel
theorem dX6_ways_52 : decode cX6_ways 52 = .ok (.ireturn, 1) := by decide +kernel
theorem dX6_ways_53 : decode cX6_ways 53 = .ok (.aload_n 0, 1) := by decide +kernel
theorem dX6_ways_54 : decode cX6_ways 54 = .ok (.getfield 11, 3) := by decide +kernel
theorem dX6_ways_57 : decode cX6_ways 57 = .ok (.iload_n 1, 1) := by decide +kernel
theorem dX6_ways_58 : decode cX6_ways 58 = .ok (.aaload, 1) := by decide +kernel
theorem dX6_ways_59 : decode cX6_ways 59 = .ok (.getfield 153, 3) := by decide +kernel
theorem dX6_ways_62 : decode cX6_ways 62 = .ok (.getfield 170, 3) := by decide +kernel
theorem dX6_ways_65 : decode cX6_ways 65 = .ok (.iload_n 2, 1) := by decide +kernel
theorem dX6_ways_66 : decode cX6_ways 66 = .ok (.aaload, 1) := by decide +kernel
theorem dX6_ways_67 : decode cX6_ways 67 = .ok (.iload_n 3, 1) := by decide +kernel
theorem dX6_ways_68 : decode cX6_ways 68 = .ok (.iaload, 1) := by decide +kernel
theorem dX6_ways_69 : decode cX6_ways 69 = .ok (.ireturn, 1) := by decide +kernel
theorem dX6_weight_0 : decode cX6_weight 0 = .ok (.aload_n 0, 1) := by decide +kernel
theorem dX6_weight_1 : decode cX6_weight 1 = .ok (.iload_n 1, 1) := by decide +kernel
theorem dX6_weight_2 : decode cX6_weight 2 = .ok (.invokevirtual 63, 3) := by decide +kernel
theorem dX6_weight_5 : decode cX6_weight 5 = .ok (.ifCond .eq 7, 3) := by decide +kernel
theorem dX6_weight_8 : decode cX6_weight 8 = .ok (.ldc2_w 173, 3) := by decide +kernel
theorem dX6_weight_11 : decode cX6_weight 11 = .ok (.lreturn, 1) := by decide +kernel
theorem dX6_weight_12 : decode cX6_weight 12 = .ok (.iload_n 2, 1) := by decide +kernel
theorem dX6_weight_13 : decode cX6_weight 13 = .ok (.iconst 0, 1) := by decide +kernel
theorem dX6_weight_14 : decode cX6_weight 14 = .ok (.iconst 1, 1) := by decide +kernel
theorem dX6_weight_15 : decode cX6_weight 15 = .ok (.invokestatic 69, 3) := by decide +kernel
theorem dX6_weight_18 : decode cX6_weight 18 = .ok (.ifCond .eq 7, 3) := by decide +kernel
theorem dX6_weight_21 : decode cX6_weight 21 = .ok (.ldc2_w 175, 3) := by decide +kernel
theorem dX6_weight_24 : decode cX6_weight 24 = .ok (.lreturn, 1) := by decide +kernel
theorem dX6_weight_25 : decode cX6_weight 25 = .ok (.aload_n 0, 1) := by decide +kernel
theorem dX6_weight_26 : decode cX6_weight 26 = .ok (.iload_n 1, 1) := by decide +kernel
theorem dX6_weight_27 : decode cX6_weight 27 = .ok (.invokevirtual 149, 3) := by decide +kernel
theorem dX6_weight_30 : decode cX6_weight 30 = .ok (.istore_n 3, 1) := by decide +kernel
theorem dX6_weight_31 : decode cX6_weight 31 = .ok (.iload_n 3, 1) := by decide +kernel
theorem dX6_weight_32 : decode cX6_weight 32 = .ok (.ifCond .ge 6, 3) := by decide +kernel
theorem dX6_weight_35 : decode cX6_weight 35 = .ok (.iload_n 3, 1) := by decide +kernel
theorem dX6_weight_36 : decode cX6_weight 36 = .ok (.i2l, 1) := by decide +kernel
theorem dX6_weight_37 : decode cX6_weight 37 = .ok (.lreturn, 1) := by decide +kernel
theorem dX6_weight_38 : decode cX6_weight 38 = .ok (.aload_n 0, 1) := by decide +kernel
theorem dX6_weight_39 : decode cX6_weight 39 = .ok (.getfield 11, 3) := by decide +kernel
theorem dX6_weight_42 : decode cX6_weight 42 = .ok (.iload_n 1, 1) := by decide +kernel
theorem dX6_weight_43 : decode cX6_weight 43 = .ok (.aaload, 1) := by decide +kernel
theorem dX6_weight_44 : decode cX6_weight 44 = .ok (.getfield 153, 3) := by decide +kernel
theorem dX6_weight_47 : decode cX6_weight 47 = .ok (.invokevirtual 177, 3) := by decide +kernel
theorem dX6_weight_50 : decode cX6_weight 50 = .ok (.ldc2_w 181, 3) := by decide +kernel
theorem dX6_weight_53 : decode cX6_weight 53 = .ok (.iload_n 2, 1) := by decide +kernel
theorem dX6_weight_54 : decode cX6_weight 54 = .ok (.invokestatic 183, 3) := by decide +kernel
theorem dX6_weight_57 : decode cX6_weight 57 = .ok (.lreturn, 1) := by decide +kernel
theorem dX6_mean_0 : decode cX6_mean 0 = .ok (.aload_n 0, 1) := by decide +kernel
theorem dX6_mean_1 : decode cX6_mean 1 = .ok (.iload_n 1, 1) := by decide +kernel
theorem dX6_mean_2 : decode cX6_mean 2 = .ok (.invokevirtual 63, 3) := by decide +kernel
theorem dX6_mean_5 : decode cX6_mean 5 = .ok (.ifCond .eq 7, 3) := by decide +kernel
theorem dX6_mean_8 : decode cX6_mean 8 = .ok (.ldc2_w 173, 3) := by decide +kernel
theorem dX6_mean_11 : decode cX6_mean 11 = .ok (.lreturn, 1) := by decide +kernel
theorem dX6_mean_12 : decode cX6_mean 12 = .ok (.iload_n 2, 1) := by decide +kernel
theorem dX6_mean_13 : decode cX6_mean 13 = .ok (.iconst 0, 1) := by decide +kernel
theorem dX6_mean_14 : decode cX6_mean 14 = .ok (.bipush 100, 2) := by decide +kernel
theorem dX6_mean_16 : decode cX6_mean 16 = .ok (.invokestatic 69, 3) := by decide +kernel
theorem dX6_mean_19 : decode cX6_mean 19 = .ok (.ifCond .ne 12, 3) := by decide +kernel
theorem dX6_mean_22 : decode cX6_mean 22 = .ok (.iload_n 3, 1) := by decide +kernel
theorem dX6_mean_23 : decode cX6_mean 23 = .ok (.iconst 0, 1) := by decide +kernel
theorem dX6_mean_24 : decode cX6_mean 24 = .ok (.iconst 1, 1) := by decide +kernel
theorem dX6_mean_25 : decode cX6_mean 25 = .ok (.invokestatic 69, 3) := by decide +kernel
theorem dX6_mean_28 : decode cX6_mean 28 = .ok (.ifCond .eq 7, 3) := by decide +kernel
theorem dX6_mean_31 : decode cX6_mean 31 = .ok (.ldc2_w 175, 3) := by decide +kernel
theorem dX6_mean_34 : decode cX6_mean 34 = .ok (.lreturn, 1) := by decide +kernel
theorem dX6_mean_35 : decode cX6_mean 35 = .ok (.aload_n 0, 1) := by decide +kernel
theorem dX6_mean_36 : decode cX6_mean 36 = .ok (.iload_n 1, 1) := by decide +kernel
theorem dX6_mean_37 : decode cX6_mean 37 = .ok (.invokevirtual 149, 3) := by decide +kernel
theorem dX6_mean_40 : decode cX6_mean 40 = .ok (.istore 4, 2) := by decide +kernel
theorem dX6_mean_42 : decode cX6_mean 42 = .ok (.iload 4, 2) := by decide +kernel
theorem dX6_mean_44 : decode cX6_mean 44 = .ok (.ifCond .ge 7, 3) := by decide +kernel
theorem dX6_mean_47 : decode cX6_mean 47 = .ok (.iload 4, 2) := by decide +kernel
theorem dX6_mean_49 : decode cX6_mean 49 = .ok (.i2l, 1) := by decide +kernel
theorem dX6_mean_50 : decode cX6_mean 50 = .ok (.lreturn, 1) := by decide +kernel
theorem dX6_mean_51 : decode cX6_mean 51 = .ok (.aload_n 0, 1) := by decide +kernel
theorem dX6_mean_52 : decode cX6_mean 52 = .ok (.getfield 11, 3) := by decide +kernel
theorem dX6_mean_55 : decode cX6_mean 55 = .ok (.iload_n 1, 1) := by decide +kernel
theorem dX6_mean_56 : decode cX6_mean 56 = .ok (.aaload, 1) := by decide +kernel
theorem dX6_mean_57 : decode cX6_mean 57 = .ok (.getfield 153, 3) := by decide +kernel
theorem dX6_mean_60 : decode cX6_mean 60 = .ok (.astore 5, 2) := by decide +kernel
theorem dX6_mean_62 : decode cX6_mean 62 = .ok (.aload 5, 2) := by decide +kernel
theorem dX6_mean_64 : decode cX6_mean 64 = .ok (.iload_n 2, 1) := by decide +kernel
theorem dX6_mean_65 : decode cX6_mean 65 = .ok (.invokevirtual 187, 3) := by decide +kernel
theorem dX6_mean_68 : decode cX6_mean 68 = .ok (.aload 5, 2) := by decide +kernel
theorem dX6_mean_70 : decode cX6_mean 70 = .ok (.invokevirtual 177, 3) := by decide +kernel
theorem dX6_mean_73 : decode cX6_mean 73 = .ok (.iload_n 3, 1) := by decide +kernel
theorem dX6_mean_74 : decode cX6_mean 74 = .ok (.invokestatic 183, 3) := by decide +kernel
theorem dX6_mean_77 : decode cX6_mean 77 = .ok (.lreturn, 1) := by decide +kernel
theorem dX6_isUnknown_0 : decode cX6_isUnknown 0 = .ok (.iload_n 1, 1) := by decide +kernel
theorem dX6_isUnknown_1 : decode cX6_isUnknown 1 = .ok (.ifCond .lt 11, 3) := by decide +kernel
theorem dX6_isUnknown_4 : decode cX6_isUnknown 4 = .ok (.iload_n 1, 1) := by decide +kernel
theorem dX6_isUnknown_5 : decode cX6_isUnknown 5 = .ok (.aload_n 0, 1) := by decide +kernel
theorem dX6_isUnknown_6 : decode cX6_isUnknown 6 = .ok (.getfield 40, 3) := by decide +kernel
theorem dX6_isUnknown_9 : decode cX6_isUnknown 9 = .ok (.if_icmp .lt 7, 3) := by decide +kernel
theorem dX6_isUnknown_12 : decode cX6_isUnknown 12 = .ok (.iconst 1, 1) := by decide +kernel
theorem dX6_isUnknown_13 : decode cX6_isUnknown 13 = .ok (.goto 4, 3) := by decide +kernel
theorem dX6_isUnknown_16 : decode cX6_isUnknown 16 = .ok (.iconst 0, 1) := by decide +kernel
theorem dX6_isUnknown_17 : decode cX6_isUnknown 17 = .ok (.ireturn, 1) := by decide +kernel
theorem dX6_isOutside_0 : decode cX6_isOutside 0 = .ok (.iload_n 0, 1) := by decide +kernel
theorem dX6_isOutside_1 : decode cX6_isOutside 1 = .ok (.iload_n 1, 1) := by decide +kernel
theorem dX6_isOutside_2 : decode cX6_isOutside 2 = .ok (.if_icmp .lt 8, 3) := by decide +kernel
theorem dX6_isOutside_5 : decode cX6_isOutside 5 = .ok (.iload_n 0, 1) := by decide +kernel
theorem dX6_isOutside_6 : decode cX6_isOutside 6 = .ok (.iload_n 2, 1) := by decide +kernel
theorem dX6_isOutside_7 : decode cX6_isOutside 7 = .ok (.if_icmp .le 7, 3) := by decide +kernel
theorem dX6_isOutside_10 : decode cX6_isOutside 10 = .ok (.iconst 1, 1) := by decide +kernel
theorem dX6_isOutside_11 : decode cX6_isOutside 11 = .ok (.goto 4, 3) := by decide +kernel
theorem dX6_isOutside_14 : decode cX6_isOutside 14 = .ok (.iconst 0, 1) := by decide +kernel
theorem dX6_isOutside_15 : decode cX6_isOutside 15 = .ok (.ireturn, 1) := by decide +kernel
theorem dX6_give_0 : decode cX6_give 0 = .ok (.aload_n 0, 1) := by decide +kernel
theorem dX6_give_1 : decode cX6_give 1 = .ok (.getfield 30, 3) := by decide +kernel
theorem dX6_give_4 : decode cX6_give 4 = .ok (.iconst 0, 1) := by decide +kernel
theorem dX6_give_5 : decode cX6_give 5 = .ok (.iload_n 1, 1) := by decide +kernel
theorem dX6_give_6 : decode cX6_give 6 = .ok (.iastore, 1) := by decide +kernel
theorem dX6_give_7 : decode cX6_give 7 = .ok (.aload_n 0, 1) := by decide +kernel
theorem dX6_give_8 : decode cX6_give 8 = .ok (.getfield 30, 3) := by decide +kernel
theorem dX6_give_11 : decode cX6_give 11 = .ok (.iconst 1, 1) := by decide +kernel
theorem dX6_give_12 : decode cX6_give 12 = .ok (.iload_n 2, 1) := by decide +kernel
theorem dX6_give_13 : decode cX6_give 13 = .ok (.iastore, 1) := by decide +kernel
theorem dX6_give_14 : decode cX6_give 14 = .ok (.aload_n 0, 1) := by decide +kernel
theorem dX6_give_15 : decode cX6_give 15 = .ok (.getfield 30, 3) := by decide +kernel
theorem dX6_give_18 : decode cX6_give 18 = .ok (.iconst 2, 1) := by decide +kernel
theorem dX6_give_19 : decode cX6_give 19 = .ok (.iload_n 3, 1) := by decide +kernel
theorem dX6_give_20 : decode cX6_give 20 = .ok (.iastore, 1) := by decide +kernel
theorem dX6_give_21 : decode cX6_give 21 = .ok (.aload_n 0, 1) := by decide +kernel
theorem dX6_give_22 : decode cX6_give 22 = .ok (.getfield 30, 3) := by decide +kernel
theorem dX6_give_25 : decode cX6_give 25 = .ok (.iconst 3, 1) := by decide +kernel
theorem dX6_give_26 : decode cX6_give 26 = .ok (.iload 4, 2) := by decide +kernel
theorem dX6_give_28 : decode cX6_give 28 = .ok (.iastore, 1) := by decide +kernel
theorem dX6_give_29 : decode cX6_give 29 = .ok (.aload_n 0, 1) := by decide +kernel
theorem dX6_give_30 : decode cX6_give 30 = .ok (.getfield 30, 3) := by decide +kernel
theorem dX6_give_33 : decode cX6_give 33 = .ok (.iconst 4, 1) := by decide +kernel
theorem dX6_give_34 : decode cX6_give 34 = .ok (.iload 5, 2) := by decide +kernel
theorem dX6_give_36 : decode cX6_give 36 = .ok (.iastore, 1) := by decide +kernel
theorem dX6_give_37 : decode cX6_give 37 = .ok (.aload_n 0, 1) := by decide +kernel
theorem dX6_give_38 : decode cX6_give 38 = .ok (.getfield 30, 3) := by decide +kernel
theorem dX6_give_41 : decode cX6_give 41 = .ok (.iconst 5, 1) := by decide +kernel
theorem dX6_give_42 : decode cX6_give 42 = .ok (.iload 6, 2) := by decide +kernel
theorem dX6_give_44 : decode cX6_give 44 = .ok (.iastore, 1) := by decide +kernel
theorem dX6_give_45 : decode cX6_give 45 = .ok (.return_, 1) := by decide +kernel
theorem dX6_giveRow_0 : decode cX6_giveRow 0 = .ok (.aload_n 0, 1) := by decide +kernel
theorem dX6_giveRow_1 : decode cX6_giveRow 1 = .ok (.getfield 34, 3) := by decide +kernel
theorem dX6_giveRow_4 : decode cX6_giveRow 4 = .ok (.iconst 3, 1) := by decide +kernel
theorem dX6_giveRow_5 : decode cX6_giveRow 5 = .ok (.iload_n 1, 1) := by decide +kernel
theorem dX6_giveRow_6 : decode cX6_giveRow 6 = .ok (.imul, 1) := by decide +kernel
theorem dX6_giveRow_7 : decode cX6_giveRow 7 = .ok (.iload_n 2, 1) := by decide +kernel
theorem dX6_giveRow_8 : decode cX6_giveRow 8 = .ok (.iastore, 1) := by decide +kernel
theorem dX6_giveRow_9 : decode cX6_giveRow 9 = .ok (.aload_n 0, 1) := by decide +kernel
theorem dX6_giveRow_10 : decode cX6_giveRow 10 = .ok (.getfield 34, 3) := by decide +kernel
theorem dX6_giveRow_13 : decode cX6_giveRow 13 = .ok (.iconst 3, 1) := by decide +kernel
theorem dX6_giveRow_14 : decode cX6_giveRow 14 = .ok (.iload_n 1, 1) := by decide +kernel
theorem dX6_giveRow_15 : decode cX6_giveRow 15 = .ok (.imul, 1) := by decide +kernel
theorem dX6_giveRow_16 : decode cX6_giveRow 16 = .ok (.iconst 1, 1) := by decide +kernel
theorem dX6_giveRow_17 : decode cX6_giveRow 17 = .ok (.iadd, 1) := by decide +kernel
theorem dX6_giveRow_18 : decode cX6_giveRow 18 = .ok (.iload_n 3, 1) := by decide +kernel
theorem dX6_giveRow_19 : decode cX6_giveRow 19 = .ok (.iastore, 1) := by decide +kernel
theorem dX6_giveRow_20 : decode cX6_giveRow 20 = .ok (.aload_n 0, 1) := by decide +kernel
theorem dX6_giveRow_21 : decode cX6_giveRow 21 = .ok (.getfield 34, 3) := by decide +kernel
theorem dX6_giveRow_24 : decode cX6_giveRow 24 = .ok (.iconst 3, 1) := by decide +kernel
theorem dX6_giveRow_25 : decode cX6_giveRow 25 = .ok (.iload_n 1, 1) := by decide +kernel
theorem dX6_giveRow_26 : decode cX6_giveRow 26 = .ok (.imul, 1) := by decide +kernel
theorem dX6_giveRow_27 : decode cX6_giveRow 27 = .ok (.iconst 2, 1) := by decide +kernel
theorem dX6_giveRow_28 : decode cX6_giveRow 28 = .ok (.iadd, 1) := by decide +kernel
theorem dX6_giveRow_29 : decode cX6_giveRow 29 = .ok (.iload 4, 2) := by decide +kernel
theorem dX6_giveRow_31 : decode cX6_giveRow 31 = .ok (.iastore, 1) := by decide +kernel
theorem dX6_giveRow_32 : decode cX6_giveRow 32 = .ok (.return_, 1) := by decide +kernel
theorem dX6_goesIntoDisc_0 : decode cX6_goesIntoDisc 0 = .ok (.aload_n 0, 1) := by decide +kernel
theorem dX6_goesIntoDisc_1 : decode cX6_goesIntoDisc 1 = .ok (.getfield 11, 3) := by decide +kernel
theorem dX6_goesIntoDisc_4 : decode cX6_goesIntoDisc 4 = .ok (.iload_n 1, 1) := by decide +kernel
theorem dX6_goesIntoDisc_5 : decode cX6_goesIntoDisc 5 = .ok (.aaload, 1) := by decide +kernel
theorem dX6_goesIntoDisc_6 : decode cX6_goesIntoDisc 6 = .ok (.getfield 76, 3) := by decide +kernel
theorem dX6_goesIntoDisc_9 : decode cX6_goesIntoDisc 9 = .ok (.aload_n 0, 1) := by decide +kernel
theorem dX6_goesIntoDisc_10 : decode cX6_goesIntoDisc 10 = .ok (.getfield 44, 3) := by decide +kernel
theorem dX6_goesIntoDisc_13 : decode cX6_goesIntoDisc 13 = .ok (.irem, 1) := by decide +kernel
theorem dX6_goesIntoDisc_14 : decode cX6_goesIntoDisc 14 = .ok (.ifCond .ne 7, 3) := by decide +kernel
theorem dX6_goesIntoDisc_17 : decode cX6_goesIntoDisc 17 = .ok (.iconst 1, 1) := by decide +kernel
theorem dX6_goesIntoDisc_18 : decode cX6_goesIntoDisc 18 = .ok (.goto 4, 3) := by decide +kernel
theorem dX6_goesIntoDisc_21 : decode cX6_goesIntoDisc 21 = .ok (.iconst 0, 1) := by decide +kernel
theorem dX6_goesIntoDisc_22 : decode cX6_goesIntoDisc 22 = .ok (.ireturn, 1) := by decide +kernel
theorem dX6_refusalOfLine_0 : decode cX6_refusalOfLine 0 = .ok (.aload_n 0, 1) := by decide +kernel
theorem dX6_refusalOfLine_1 : decode cX6_refusalOfLine 1 = .ok (.iload_n 1, 1) := by decide +kernel
theorem dX6_refusalOfLine_2 : decode cX6_refusalOfLine 2 = .ok (.invokevirtual 63, 3) := by decide +kernel
theorem dX6_refusalOfLine_5 : decode cX6_refusalOfLine 5 = .ok (.ifCond .eq 6, 3) := by decide +kernel
theorem dX6_refusalOfLine_8 : decode cX6_refusalOfLine 8 = .ok (.ldc 67, 2) := by decide +kernel
theorem dX6_refusalOfLine_10 : decode cX6_refusalOfLine 10 = .ok (.ireturn, 1) := by decide +kernel
theorem dX6_refusalOfLine_11 : decode cX6_refusalOfLine 11 = .ok (.iload_n 2, 1) := by decide +kernel
theorem dX6_refusalOfLine_12 : decode cX6_refusalOfLine 12 = .ok (.iconst 0, 1) := by decide +kernel
theorem dX6_refusalOfLine_13 : decode cX6_refusalOfLine 13 = .ok (.aload_n 0, 1) := by decide +kernel
theorem dX6_refusalOfLine_14 : decode cX6_refusalOfLine 14 = .ok (.getfield 44, 3) := by decide +kernel
theorem dX6_refusalOfLine_17 : decode cX6_refusalOfLine 17 = .ok (.invokestatic 69, 3) := by decide +kernel
theorem dX6_refusalOfLine_20 : decode cX6_refusalOfLine 20 = .ok (.ifCond .ne 13, 3) := by decide +kernel
theorem dX6_refusalOfLine_23 : decode cX6_refusalOfLine 23 = .ok (.iload_n 3, 1) := by decide +kernel
theorem dX6_refusalOfLine_24 : decode cX6_refusalOfLine 24 = .ok (.iconst 0, 1) := by decide +kernel
theorem dX6_refusalOfLine_25 : decode cX6_refusalOfLine 25 = .ok (.iload 4, 2) := by decide +kernel
theorem dX6_refusalOfLine_27 : decode cX6_refusalOfLine 27 = .ok (.invokestatic 69, 3) := by decide +kernel
theorem dX6_refusalOfLine_30 : decode cX6_refusalOfLine 30 = .ok (.ifCond .eq 6, 3) := by decide +kernel
theorem dX6_refusalOfLine_33 : decode cX6_refusalOfLine 33 = .ok (.ldc 57, 2) := by decide +kernel
theorem dX6_refusalOfLine_35 : decode cX6_refusalOfLine 35 = .ok (.ireturn, 1) := by decide +kernel
theorem dX6_refusalOfLine_36 : decode cX6_refusalOfLine 36 = .ok (.aload_n 0, 1) := by decide +kernel
theorem dX6_refusalOfLine_37 : decode cX6_refusalOfLine 37 = .ok (.iload_n 1, 1) := by decide +kernel
theorem dX6_refusalOfLine_38 : decode cX6_refusalOfLine 38 = .ok (.invokevirtual 191, 3) := by decide +kernel
theorem dX6_refusalOfLine_41 : decode cX6_refusalOfLine 41 = .ok (.ifCond .eq 8, 3) := by decide +kernel
theorem dX6_refusalOfLine_44 : decode cX6_refusalOfLine 44 = .ok (.ldc 68, 2) := by decide +kernel
theorem dX6_refusalOfLine_46 : decode cX6_refusalOfLine 46 = .ok (.goto 4, 3) := by decide +kernel
theorem dX6_refusalOfLine_49 : decode cX6_refusalOfLine 49 = .ok (.iconst 0, 1) := by decide +kernel
theorem dX6_refusalOfLine_50 : decode cX6_refusalOfLine 50 = .ok (.ireturn, 1) := by decide +kernel
theorem dX6_sizeOfKin_0 : decode cX6_sizeOfKin 0 = .ok (.aload_n 0, 1) := by decide +kernel
theorem dX6_sizeOfKin_1 : decode cX6_sizeOfKin 1 = .ok (.iload_n 1, 1) := by decide +kernel
theorem dX6_sizeOfKin_2 : decode cX6_sizeOfKin 2 = .ok (.invokevirtual 191, 3) := by decide +kernel
theorem dX6_sizeOfKin_5 : decode cX6_sizeOfKin 5 = .ok (.ifCond .eq 6, 3) := by decide +kernel
theorem dX6_sizeOfKin_8 : decode cX6_sizeOfKin 8 = .ok (.ldc 68, 2) := by decide +kernel
theorem dX6_sizeOfKin_10 : decode cX6_sizeOfKin 10 = .ok (.ireturn, 1) := by decide +kernel
theorem dX6_sizeOfKin_11 : decode cX6_sizeOfKin 11 = .ok (.aload_n 0, 1) := by decide +kernel
theorem dX6_sizeOfKin_12 : decode cX6_sizeOfKin 12 = .ok (.getfield 11, 3) := by decide +kernel
theorem dX6_sizeOfKin_15 : decode cX6_sizeOfKin 15 = .ok (.iload_n 1, 1) := by decide +kernel
theorem dX6_sizeOfKin_16 : decode cX6_sizeOfKin 16 = .ok (.aaload, 1) := by decide +kernel
theorem dX6_sizeOfKin_17 : decode cX6_sizeOfKin 17 = .ok (.astore_n 2, 1) := by decide +kernel
theorem dX6_sizeOfKin_18 : decode cX6_sizeOfKin 18 = .ok (.aload_n 2, 1) := by decide +kernel
theorem dX6_sizeOfKin_19 : decode cX6_sizeOfKin 19 = .ok (.getfield 153, 3) := by decide +kernel
theorem dX6_sizeOfKin_22 : decode cX6_sizeOfKin 22 = .ok (.astore_n 3, 1) := by decide +kernel
theorem dX6_sizeOfKin_23 : decode cX6_sizeOfKin 23 = .ok (.aload_n 3, 1) := by decide +kernel
theorem dX6_sizeOfKin_24 : decode cX6_sizeOfKin 24 = .ok (.getfield 194, 3) := by decide +kernel
theorem dX6_sizeOfKin_27 : decode cX6_sizeOfKin 27 = .ok (.aload_n 0, 1) := by decide +kernel
theorem dX6_sizeOfKin_28 : decode cX6_sizeOfKin 28 = .ok (.getfield 44, 3) := by decide +kernel
theorem dX6_sizeOfKin_31 : decode cX6_sizeOfKin 31 = .ok (.if_icmp .eq 58, 3) := by decide +kernel
theorem dX6_sizeOfKin_34 : decode cX6_sizeOfKin 34 = .ok (.aload_n 3, 1) := by decide +kernel
theorem dX6_sizeOfKin_35 : decode cX6_sizeOfKin 35 = .ok (.aload_n 2, 1) := by decide +kernel
theorem dX6_sizeOfKin_36 : decode cX6_sizeOfKin 36 = .ok (.aload_n 0, 1) := by decide +kernel
theorem dX6_sizeOfKin_37 : decode cX6_sizeOfKin 37 = .ok (.getfield 44, 3) := by decide +kernel
theorem dX6_sizeOfKin_40 : decode cX6_sizeOfKin 40 = .ok (.invokevirtual 197, 3) := by decide +kernel
theorem dX6_sizeOfKin_43 : decode cX6_sizeOfKin 43 = .ok (.iconst 0, 1) := by decide +kernel
theorem dX6_sizeOfKin_44 : decode cX6_sizeOfKin 44 = .ok (.istore 4, 2) := by decide +kernel
theorem dX6_sizeOfKin_46 : decode cX6_sizeOfKin 46 = .ok (.iload 4, 2) := by decide +kernel
theorem dX6_sizeOfKin_48 : decode cX6_sizeOfKin 48 = .ok (.bipush 16, 2) := by decide +kernel
theorem dX6_sizeOfKin_50 : decode cX6_sizeOfKin 50 = .ok (.if_icmp .ge 39, 3) := by decide +kernel
theorem dX6_sizeOfKin_53 : decode cX6_sizeOfKin 53 = .ok (.iload 4, 2) := by decide +kernel
theorem dX6_sizeOfKin_55 : decode cX6_sizeOfKin 55 = .ok (.aload_n 3, 1) := by decide +kernel
theorem dX6_sizeOfKin_56 : decode cX6_sizeOfKin 56 = .ok (.getfield 201, 3) := by decide +kernel
theorem dX6_sizeOfKin_59 : decode cX6_sizeOfKin 59 = .ok (.if_icmp .ge 30, 3) := by decide +kernel
theorem dX6_sizeOfKin_62 : decode cX6_sizeOfKin 62 = .ok (.aload_n 3, 1) := by decide +kernel
theorem dX6_sizeOfKin_63 : decode cX6_sizeOfKin 63 = .ok (.getfield 204, 3) := by decide +kernel
theorem dX6_sizeOfKin_66 : decode cX6_sizeOfKin 66 = .ok (.ifCond .ne 23, 3) := by decide +kernel
theorem dX6_sizeOfKin_69 : decode cX6_sizeOfKin 69 = .ok (.aload_n 3, 1) := by decide +kernel
theorem dX6_sizeOfKin_70 : decode cX6_sizeOfKin 70 = .ok (.iload 4, 2) := by decide +kernel
theorem dX6_sizeOfKin_72 : decode cX6_sizeOfKin 72 = .ok (.aload_n 0, 1) := by decide +kernel
theorem dX6_sizeOfKin_73 : decode cX6_sizeOfKin 73 = .ok (.getfield 26, 3) := by decide +kernel
theorem dX6_sizeOfKin_76 : decode cX6_sizeOfKin 76 = .ok (.aload_n 0, 1) := by decide +kernel
theorem dX6_sizeOfKin_77 : decode cX6_sizeOfKin 77 = .ok (.getfield 19, 3) := by decide +kernel
theorem dX6_sizeOfKin_80 : decode cX6_sizeOfKin 80 = .ok (.invokevirtual 208, 3) := by decide +kernel
theorem dX6_sizeOfKin_83 : decode cX6_sizeOfKin 83 = .ok (.iinc 4 1, 3) := by decide +kernel
theorem dX6_sizeOfKin_86 : decode cX6_sizeOfKin 86 = .ok (.goto (-40), 3) := by decide +kernel
theorem dX6_sizeOfKin_89 : decode cX6_sizeOfKin 89 = .ok (.aload_n 3, 1) := by decide +kernel
theorem dX6_sizeOfKin_90 : decode cX6_sizeOfKin 90 = .ok (.getfield 204, 3) := by decide +kernel
theorem dX6_sizeOfKin_93 : decode cX6_sizeOfKin 93 = .ok (.ifCond .eq 8, 3) := by decide +kernel
theorem dX6_sizeOfKin_96 : decode cX6_sizeOfKin 96 = .ok (.ldc 212, 2) := by decide +kernel
theorem dX6_sizeOfKin_98 : decode cX6_sizeOfKin 98 = .ok (.goto 7, 3) := by decide +kernel
theorem dX6_sizeOfKin_101 : decode cX6_sizeOfKin 101 = .ok (.aload_n 3, 1) := by decide +kernel
theorem dX6_sizeOfKin_102 : decode cX6_sizeOfKin 102 = .ok (.getfield 201, 3) := by decide +kernel
theorem dX6_sizeOfKin_105 : decode cX6_sizeOfKin 105 = .ok (.ireturn, 1) := by decide +kernel
theorem dX6_areTable_0 : decode cX6_areTable 0 = .ok (.aload_n 0, 1) := by decide +kernel
theorem dX6_areTable_1 : decode cX6_areTable 1 = .ok (.iload_n 1, 1) := by decide +kernel
theorem dX6_areTable_2 : decode cX6_areTable 2 = .ok (.iaload, 1) := by decide +kernel
theorem dX6_areTable_3 : decode cX6_areTable 3 = .ok (.aload_n 0, 1) := by decide +kernel
theorem dX6_areTable_4 : decode cX6_areTable 4 = .ok (.iload_n 2, 1) := by decide +kernel
theorem dX6_areTable_5 : decode cX6_areTable 5 = .ok (.iconst 1, 1) := by decide +kernel
theorem dX6_areTable_6 : decode cX6_areTable 6 = .ok (.iadd, 1) := by decide +kernel
theorem dX6_areTable_7 : decode cX6_areTable 7 = .ok (.iaload, 1) := by decide +kernel
theorem dX6_areTable_8 : decode cX6_areTable 8 = .ok (.aload_n 0, 1) := by decide +kernel
theorem dX6_areTable_9 : decode cX6_areTable 9 = .ok (.iload_n 3, 1) := by decide +kernel
theorem dX6_areTable_10 : decode cX6_areTable 10 = .ok (.iconst 2, 1) := by decide +kernel
theorem dX6_areTable_11 : decode cX6_areTable 11 = .ok (.iadd, 1) := by decide +kernel
theorem dX6_areTable_12 : decode cX6_areTable 12 = .ok (.iaload, 1) := by decide +kernel
theorem dX6_areTable_13 : decode cX6_areTable 13 = .ok (.imul, 1) := by decide +kernel
theorem dX6_areTable_14 : decode cX6_areTable 14 = .ok (.aload_n 0, 1) := by decide +kernel
theorem dX6_areTable_15 : decode cX6_areTable 15 = .ok (.iload_n 2, 1) := by decide +kernel
theorem dX6_areTable_16 : decode cX6_areTable 16 = .ok (.iconst 2, 1) := by decide +kernel
theorem dX6_areTable_17 : decode cX6_areTable 17 = .ok (.iadd, 1) := by decide +kernel
theorem dX6_areTable_18 : decode cX6_areTable 18 = .ok (.iaload, 1) := by decide +kernel
theorem dX6_areTable_19 : decode cX6_areTable 19 = .ok (.aload_n 0, 1) := by decide +kernel
theorem dX6_areTable_20 : decode cX6_areTable 20 = .ok (.iload_n 3, 1) := by decide +kernel
theorem dX6_areTable_21 : decode cX6_areTable 21 = .ok (.iconst 1, 1) := by decide +kernel
theorem dX6_areTable_22 : decode cX6_areTable 22 = .ok (.iadd, 1) := by decide +kernel
theorem dX6_areTable_23 : decode cX6_areTable 23 = .ok (.iaload, 1) := by decide +kernel
theorem dX6_areTable_24 : decode cX6_areTable 24 = .ok (.imul, 1) := by decide +kernel
theorem dX6_areTable_25 : decode cX6_areTable 25 = .ok (.isub, 1) := by decide +kernel
theorem dX6_areTable_26 : decode cX6_areTable 26 = .ok (.imul, 1) := by decide +kernel
theorem dX6_areTable_27 : decode cX6_areTable 27 = .ok (.aload_n 0, 1) := by decide +kernel
theorem dX6_areTable_28 : decode cX6_areTable 28 = .ok (.iload_n 1, 1) := by decide +kernel
theorem dX6_areTable_29 : decode cX6_areTable 29 = .ok (.iconst 1, 1) := by decide +kernel
theorem dX6_areTable_30 : decode cX6_areTable 30 = .ok (.iadd, 1) := by decide +kernel
theorem dX6_areTable_31 : decode cX6_areTable 31 = .ok (.iaload, 1) := by decide +kernel
theorem dX6_areTable_32 : decode cX6_areTable 32 = .ok (.aload_n 0, 1) := by decide +kernel
theorem dX6_areTable_33 : decode cX6_areTable 33 = .ok (.iload_n 2, 1) := by decide +kernel
theorem dX6_areTable_34 : decode cX6_areTable 34 = .ok (.iaload, 1) := by decide +kernel
theorem dX6_areTable_35 : decode cX6_areTable 35 = .ok (.aload_n 0, 1) := by decide +kernel
theorem dX6_areTable_36 : decode cX6_areTable 36 = .ok (.iload_n 3, 1) := by decide +kernel
theorem dX6_areTable_37 : decode cX6_areTable 37 = .ok (.iconst 2, 1) := by decide +kernel
theorem dX6_areTable_38 : decode cX6_areTable 38 = .ok (.iadd, 1) := by decide +kernel
theorem dX6_areTable_39 : decode cX6_areTable 39 = .ok (.iaload, 1) := by decide +kernel
theorem dX6_areTable_40 : decode cX6_areTable 40 = .ok (.imul, 1) := by decide +kernel
theorem dX6_areTable_41 : decode cX6_areTable 41 = .ok (.aload_n 0, 1) := by decide +kernel
theorem dX6_areTable_42 : decode cX6_areTable 42 = .ok (.iload_n 2, 1) := by decide +kernel
theorem dX6_areTable_43 : decode cX6_areTable 43 = .ok (.iconst 2, 1) := by decide +kernel
theorem dX6_areTable_44 : decode cX6_areTable 44 = .ok (.iadd, 1) := by decide +kernel
theorem dX6_areTable_45 : decode cX6_areTable 45 = .ok (.iaload, 1) := by decide +kernel
theorem dX6_areTable_46 : decode cX6_areTable 46 = .ok (.aload_n 0, 1) := by decide +kernel
theorem dX6_areTable_47 : decode cX6_areTable 47 = .ok (.iload_n 3, 1) := by decide +kernel
theorem dX6_areTable_48 : decode cX6_areTable 48 = .ok (.iaload, 1) := by decide +kernel
theorem dX6_areTable_49 : decode cX6_areTable 49 = .ok (.imul, 1) := by decide +kernel
theorem dX6_areTable_50 : decode cX6_areTable 50 = .ok (.isub, 1) := by decide +kernel
theorem dX6_areTable_51 : decode cX6_areTable 51 = .ok (.imul, 1) := by decide +kernel
theorem dX6_areTable_52 : decode cX6_areTable 52 = .ok (.isub, 1) := by decide +kernel
theorem dX6_areTable_53 : decode cX6_areTable 53 = .ok (.aload_n 0, 1) := by decide +kernel
theorem dX6_areTable_54 : decode cX6_areTable 54 = .ok (.iload_n 1, 1) := by decide +kernel
theorem dX6_areTable_55 : decode cX6_areTable 55 = .ok (.iconst 2, 1) := by decide +kernel
theorem dX6_areTable_56 : decode cX6_areTable 56 = .ok (.iadd, 1) := by decide +kernel
theorem dX6_areTable_57 : decode cX6_areTable 57 = .ok (.iaload, 1) := by decide +kernel
theorem dX6_areTable_58 : decode cX6_areTable 58 = .ok (.aload_n 0, 1) := by decide +kernel
theorem dX6_areTable_59 : decode cX6_areTable 59 = .ok (.iload_n 2, 1) := by decide +kernel
theorem dX6_areTable_60 : decode cX6_areTable 60 = .ok (.iaload, 1) := by decide +kernel
theorem dX6_areTable_61 : decode cX6_areTable 61 = .ok (.aload_n 0, 1) := by decide +kernel
theorem dX6_areTable_62 : decode cX6_areTable 62 = .ok (.iload_n 3, 1) := by decide +kernel
theorem dX6_areTable_63 : decode cX6_areTable 63 = .ok (.iconst 1, 1) := by decide +kernel
theorem dX6_areTable_64 : decode cX6_areTable 64 = .ok (.iadd, 1) := by decide +kernel
theorem dX6_areTable_65 : decode cX6_areTable 65 = .ok (.iaload, 1) := by decide +kernel
theorem dX6_areTable_66 : decode cX6_areTable 66 = .ok (.imul, 1) := by decide +kernel
theorem dX6_areTable_67 : decode cX6_areTable 67 = .ok (.aload_n 0, 1) := by decide +kernel
theorem dX6_areTable_68 : decode cX6_areTable 68 = .ok (.iload_n 2, 1) := by decide +kernel
theorem dX6_areTable_69 : decode cX6_areTable 69 = .ok (.iconst 1, 1) := by decide +kernel
theorem dX6_areTable_70 : decode cX6_areTable 70 = .ok (.iadd, 1) := by decide +kernel
theorem dX6_areTable_71 : decode cX6_areTable 71 = .ok (.iaload, 1) := by decide +kernel
theorem dX6_areTable_72 : decode cX6_areTable 72 = .ok (.aload_n 0, 1) := by decide +kernel
theorem dX6_areTable_73 : decode cX6_areTable 73 = .ok (.iload_n 3, 1) := by decide +kernel
theorem dX6_areTable_74 : decode cX6_areTable 74 = .ok (.iaload, 1) := by decide +kernel
theorem dX6_areTable_75 : decode cX6_areTable 75 = .ok (.imul, 1) := by decide +kernel
theorem dX6_areTable_76 : decode cX6_areTable 76 = .ok (.isub, 1) := by decide +kernel
theorem dX6_areTable_77 : decode cX6_areTable 77 = .ok (.imul, 1) := by decide +kernel
theorem dX6_areTable_78 : decode cX6_areTable 78 = .ok (.iadd, 1) := by decide +kernel
theorem dX6_areTable_79 : decode cX6_areTable 79 = .ok (.istore 4, 2) := by decide +kernel
theorem dX6_areTable_81 : decode cX6_areTable 81 = .ok (.iload 4, 2) := by decide +kernel
theorem dX6_areTable_83 : decode cX6_areTable 83 = .ok (.iconst 1, 1) := by decide +kernel
theorem dX6_areTable_84 : decode cX6_areTable 84 = .ok (.if_icmp .eq 9, 3) := by decide +kernel
theorem dX6_areTable_87 : decode cX6_areTable 87 = .ok (.iload 4, 2) := by decide +kernel
theorem dX6_areTable_89 : decode cX6_areTable 89 = .ok (.iconst (-1), 1) := by decide +kernel
theorem dX6_areTable_90 : decode cX6_areTable 90 = .ok (.if_icmp .ne 7, 3) := by decide +kernel
theorem dX6_areTable_93 : decode cX6_areTable 93 = .ok (.iconst 1, 1) := by decide +kernel
theorem dX6_areTable_94 : decode cX6_areTable 94 = .ok (.goto 4, 3) := by decide +kernel
theorem dX6_areTable_97 : decode cX6_areTable 97 = .ok (.iconst 0, 1) := by decide +kernel
theorem dX6_areTable_98 : decode cX6_areTable 98 = .ok (.ireturn, 1) := by decide +kernel
theorem dX6_inLeastTerms_0 : decode cX6_inLeastTerms 0 = .ok (.lload_n 0, 1) := by decide +kernel
theorem dX6_inLeastTerms_1 : decode cX6_inLeastTerms 1 = .ok (.lload_n 2, 1) := by decide +kernel
theorem dX6_inLeastTerms_2 : decode cX6_inLeastTerms 2 = .ok (.invokestatic 213, 3) := by decide +kernel
theorem dX6_inLeastTerms_5 : decode cX6_inLeastTerms 5 = .ok (.lstore 5, 2) := by decide +kernel
theorem dX6_inLeastTerms_7 : decode cX6_inLeastTerms 7 = .ok (.lload 5, 2) := by decide +kernel
theorem dX6_inLeastTerms_9 : decode cX6_inLeastTerms 9 = .ok (.lconst 0, 1) := by decide +kernel
theorem dX6_inLeastTerms_10 : decode cX6_inLeastTerms 10 = .ok (.lcmp, 1) := by decide +kernel
theorem dX6_inLeastTerms_11 : decode cX6_inLeastTerms 11 = .ok (.ifCond .gt 5, 3) := by decide +kernel
theorem dX6_inLeastTerms_14 : decode cX6_inLeastTerms 14 = .ok (.lconst 0, 1) := by decide +kernel
theorem dX6_inLeastTerms_15 : decode cX6_inLeastTerms 15 = .ok (.lreturn, 1) := by decide +kernel
theorem dX6_inLeastTerms_16 : decode cX6_inLeastTerms 16 = .ok (.iload 4, 2) := by decide +kernel
theorem dX6_inLeastTerms_18 : decode cX6_inLeastTerms 18 = .ok (.ifCond .ne 10, 3) := by decide +kernel
theorem dX6_inLeastTerms_21 : decode cX6_inLeastTerms 21 = .ok (.lload_n 0, 1) := by decide +kernel
theorem dX6_inLeastTerms_22 : decode cX6_inLeastTerms 22 = .ok (.lload 5, 2) := by decide +kernel
theorem dX6_inLeastTerms_24 : decode cX6_inLeastTerms 24 = .ok (.ldiv, 1) := by decide +kernel
theorem dX6_inLeastTerms_25 : decode cX6_inLeastTerms 25 = .ok (.goto 7, 3) := by decide +kernel
theorem dX6_inLeastTerms_28 : decode cX6_inLeastTerms 28 = .ok (.lload_n 2, 1) := by decide +kernel
theorem dX6_inLeastTerms_29 : decode cX6_inLeastTerms 29 = .ok (.lload 5, 2) := by decide +kernel
theorem dX6_inLeastTerms_31 : decode cX6_inLeastTerms 31 = .ok (.ldiv, 1) := by decide +kernel
theorem dX6_inLeastTerms_32 : decode cX6_inLeastTerms 32 = .ok (.lreturn, 1) := by decide +kernel
theorem dX6_commonOf_0 : decode cX6_commonOf 0 = .ok (.lload_n 0, 1) := by decide +kernel
theorem dX6_commonOf_1 : decode cX6_commonOf 1 = .ok (.lstore 4, 2) := by decide +kernel
theorem dX6_commonOf_3 : decode cX6_commonOf 3 = .ok (.lload_n 2, 1) := by decide +kernel
theorem dX6_commonOf_4 : decode cX6_commonOf 4 = .ok (.lstore 6, 2) := by decide +kernel
theorem dX6_commonOf_6 : decode cX6_commonOf 6 = .ok (.iconst 0, 1) := by decide +kernel
theorem dX6_commonOf_7 : decode cX6_commonOf 7 = .ok (.istore 8, 2) := by decide +kernel
theorem dX6_commonOf_9 : decode cX6_commonOf 9 = .ok (.iload 8, 2) := by decide +kernel
theorem dX6_commonOf_11 : decode cX6_commonOf 11 = .ok (.sipush 128, 3) := by decide +kernel
theorem dX6_commonOf_14 : decode cX6_commonOf 14 = .ok (.if_icmp .ge 31, 3) := by decide +kernel
theorem dX6_commonOf_17 : decode cX6_commonOf 17 = .ok (.lload 6, 2) := by decide +kernel
theorem dX6_commonOf_19 : decode cX6_commonOf 19 = .ok (.lconst 0, 1) := by decide +kernel
theorem dX6_commonOf_20 : decode cX6_commonOf 20 = .ok (.lcmp, 1) := by decide +kernel
theorem dX6_commonOf_21 : decode cX6_commonOf 21 = .ok (.ifCond .eq 24, 3) := by decide +kernel
theorem dX6_commonOf_24 : decode cX6_commonOf 24 = .ok (.lload 4, 2) := by decide +kernel
theorem dX6_commonOf_26 : decode cX6_commonOf 26 = .ok (.lload 6, 2) := by decide +kernel
theorem dX6_commonOf_28 : decode cX6_commonOf 28 = .ok (.lrem, 1) := by decide +kernel
theorem dX6_commonOf_29 : decode cX6_commonOf 29 = .ok (.lstore 9, 2) := by decide +kernel
theorem dX6_commonOf_31 : decode cX6_commonOf 31 = .ok (.lload 6, 2) := by decide +kernel
theorem dX6_commonOf_33 : decode cX6_commonOf 33 = .ok (.lstore 4, 2) := by decide +kernel
theorem dX6_commonOf_35 : decode cX6_commonOf 35 = .ok (.lload 9, 2) := by decide +kernel
theorem dX6_commonOf_37 : decode cX6_commonOf 37 = .ok (.lstore 6, 2) := by decide +kernel
theorem dX6_commonOf_39 : decode cX6_commonOf 39 = .ok (.iinc 8 1, 3) := by decide +kernel
theorem dX6_commonOf_42 : decode cX6_commonOf 42 = .ok (.goto (-33), 3) := by decide +kernel
theorem dX6_commonOf_45 : decode cX6_commonOf 45 = .ok (.lload 4, 2) := by decide +kernel
theorem dX6_commonOf_47 : decode cX6_commonOf 47 = .ok (.lreturn, 1) := by decide +kernel
theorem dJ6_compare_7cf53_0 : decode cJ6_compare_7cf53 0 = .ok (.iload_n 0, 1) := by decide +kernel
theorem dJ6_compare_7cf53_1 : decode cJ6_compare_7cf53 1 = .ok (.iload_n 1, 1) := by decide +kernel
theorem dJ6_compare_7cf53_2 : decode cJ6_compare_7cf53 2 = .ok (.if_icmp .ge 7, 3) := by decide +kernel
theorem dJ6_compare_7cf53_5 : decode cJ6_compare_7cf53 5 = .ok (.iconst (-1), 1) := by decide +kernel
theorem dJ6_compare_7cf53_6 : decode cJ6_compare_7cf53 6 = .ok (.goto 13, 3) := by decide +kernel
theorem dJ6_compare_7cf53_9 : decode cJ6_compare_7cf53 9 = .ok (.iload_n 0, 1) := by decide +kernel
theorem dJ6_compare_7cf53_10 : decode cJ6_compare_7cf53 10 = .ok (.iload_n 1, 1) := by decide +kernel
theorem dJ6_compare_7cf53_11 : decode cJ6_compare_7cf53 11 = .ok (.if_icmp .ne 7, 3) := by decide +kernel
theorem dJ6_compare_7cf53_14 : decode cJ6_compare_7cf53 14 = .ok (.iconst 0, 1) := by decide +kernel
theorem dJ6_compare_7cf53_15 : decode cJ6_compare_7cf53 15 = .ok (.goto 4, 3) := by decide +kernel
theorem dJ6_compare_7cf53_18 : decode cJ6_compare_7cf53 18 = .ok (.iconst 1, 1) := by decide +kernel
theorem dJ6_compare_7cf53_19 : decode cJ6_compare_7cf53 19 = .ok (.ireturn, 1) := by decide +kernel
theorem dJ9_floorDiv_7cf53_0 : decode cJ9_floorDiv_7cf53 0 = .ok (.iload_n 0, 1) := by decide +kernel
theorem dJ9_floorDiv_7cf53_1 : decode cJ9_floorDiv_7cf53 1 = .ok (.iload_n 1, 1) := by decide +kernel
theorem dJ9_floorDiv_7cf53_2 : decode cJ9_floorDiv_7cf53 2 = .ok (.idiv, 1) := by decide +kernel
theorem dJ9_floorDiv_7cf53_3 : decode cJ9_floorDiv_7cf53 3 = .ok (.istore_n 2, 1) := by decide +kernel
theorem dJ9_floorDiv_7cf53_4 : decode cJ9_floorDiv_7cf53 4 = .ok (.iload_n 0, 1) := by decide +kernel
theorem dJ9_floorDiv_7cf53_5 : decode cJ9_floorDiv_7cf53 5 = .ok (.iload_n 1, 1) := by decide +kernel
theorem dJ9_floorDiv_7cf53_6 : decode cJ9_floorDiv_7cf53 6 = .ok (.ixor, 1) := by decide +kernel
theorem dJ9_floorDiv_7cf53_7 : decode cJ9_floorDiv_7cf53 7 = .ok (.ifCond .ge 14, 3) := by decide +kernel
theorem dJ9_floorDiv_7cf53_10 : decode cJ9_floorDiv_7cf53 10 = .ok (.iload_n 2, 1) := by decide +kernel
theorem dJ9_floorDiv_7cf53_11 : decode cJ9_floorDiv_7cf53 11 = .ok (.iload_n 1, 1) := by decide +kernel
theorem dJ9_floorDiv_7cf53_12 : decode cJ9_floorDiv_7cf53 12 = .ok (.imul, 1) := by decide +kernel
theorem dJ9_floorDiv_7cf53_13 : decode cJ9_floorDiv_7cf53 13 = .ok (.iload_n 0, 1) := by decide +kernel
theorem dJ9_floorDiv_7cf53_14 : decode cJ9_floorDiv_7cf53 14 = .ok (.if_icmp .eq 7, 3) := by decide +kernel
theorem dJ9_floorDiv_7cf53_17 : decode cJ9_floorDiv_7cf53 17 = .ok (.iload_n 2, 1) := by decide +kernel
theorem dJ9_floorDiv_7cf53_18 : decode cJ9_floorDiv_7cf53 18 = .ok (.iconst 1, 1) := by decide +kernel
theorem dJ9_floorDiv_7cf53_19 : decode cJ9_floorDiv_7cf53 19 = .ok (.isub, 1) := by decide +kernel
theorem dJ9_floorDiv_7cf53_20 : decode cJ9_floorDiv_7cf53 20 = .ok (.ireturn, 1) := by decide +kernel
theorem dJ9_floorDiv_7cf53_21 : decode cJ9_floorDiv_7cf53 21 = .ok (.iload_n 2, 1) := by decide +kernel
theorem dJ9_floorDiv_7cf53_22 : decode cJ9_floorDiv_7cf53 22 = .ok (.ireturn, 1) := by decide +kernel
theorem dJ9_floorMod_7cf53_0 : decode cJ9_floorMod_7cf53 0 = .ok (.iload_n 0, 1) := by decide +kernel
theorem dJ9_floorMod_7cf53_1 : decode cJ9_floorMod_7cf53 1 = .ok (.iload_n 1, 1) := by decide +kernel
theorem dJ9_floorMod_7cf53_2 : decode cJ9_floorMod_7cf53 2 = .ok (.irem, 1) := by decide +kernel
theorem dJ9_floorMod_7cf53_3 : decode cJ9_floorMod_7cf53 3 = .ok (.istore_n 2, 1) := by decide +kernel
theorem dJ9_floorMod_7cf53_4 : decode cJ9_floorMod_7cf53 4 = .ok (.iload_n 0, 1) := by decide +kernel
theorem dJ9_floorMod_7cf53_5 : decode cJ9_floorMod_7cf53 5 = .ok (.iload_n 1, 1) := by decide +kernel
theorem dJ9_floorMod_7cf53_6 : decode cJ9_floorMod_7cf53 6 = .ok (.ixor, 1) := by decide +kernel
theorem dJ9_floorMod_7cf53_7 : decode cJ9_floorMod_7cf53 7 = .ok (.ifCond .ge 11, 3) := by decide +kernel
theorem dJ9_floorMod_7cf53_10 : decode cJ9_floorMod_7cf53 10 = .ok (.iload_n 2, 1) := by decide +kernel
theorem dJ9_floorMod_7cf53_11 : decode cJ9_floorMod_7cf53 11 = .ok (.ifCond .eq 7, 3) := by decide +kernel
theorem dJ9_floorMod_7cf53_14 : decode cJ9_floorMod_7cf53 14 = .ok (.iload_n 2, 1) := by decide +kernel
theorem dJ9_floorMod_7cf53_15 : decode cJ9_floorMod_7cf53 15 = .ok (.iload_n 1, 1) := by decide +kernel
theorem dJ9_floorMod_7cf53_16 : decode cJ9_floorMod_7cf53 16 = .ok (.iadd, 1) := by decide +kernel
theorem dJ9_floorMod_7cf53_17 : decode cJ9_floorMod_7cf53 17 = .ok (.ireturn, 1) := by decide +kernel
theorem dJ9_floorMod_7cf53_18 : decode cJ9_floorMod_7cf53 18 = .ok (.iload_n 2, 1) := by decide +kernel
theorem dJ9_floorMod_7cf53_19 : decode cJ9_floorMod_7cf53 19 = .ok (.ireturn, 1) := by decide +kernel
theorem dJ9_max_7cf53_0 : decode cJ9_max_7cf53 0 = .ok (.iload_n 0, 1) := by decide +kernel
theorem dJ9_max_7cf53_1 : decode cJ9_max_7cf53 1 = .ok (.iload_n 1, 1) := by decide +kernel
theorem dJ9_max_7cf53_2 : decode cJ9_max_7cf53 2 = .ok (.if_icmp .lt 7, 3) := by decide +kernel
theorem dJ9_max_7cf53_5 : decode cJ9_max_7cf53 5 = .ok (.iload_n 0, 1) := by decide +kernel
theorem dJ9_max_7cf53_6 : decode cJ9_max_7cf53 6 = .ok (.goto 4, 3) := by decide +kernel
theorem dJ9_max_7cf53_9 : decode cJ9_max_7cf53 9 = .ok (.iload_n 1, 1) := by decide +kernel
theorem dJ9_max_7cf53_10 : decode cJ9_max_7cf53 10 = .ok (.ireturn, 1) := by decide +kernel
theorem dJ9_min_7cf53_0 : decode cJ9_min_7cf53 0 = .ok (.iload_n 0, 1) := by decide +kernel
theorem dJ9_min_7cf53_1 : decode cJ9_min_7cf53 1 = .ok (.iload_n 1, 1) := by decide +kernel
theorem dJ9_min_7cf53_2 : decode cJ9_min_7cf53 2 = .ok (.if_icmp .gt 7, 3) := by decide +kernel
theorem dJ9_min_7cf53_5 : decode cJ9_min_7cf53 5 = .ok (.iload_n 0, 1) := by decide +kernel
theorem dJ9_min_7cf53_6 : decode cJ9_min_7cf53 6 = .ok (.goto 4, 3) := by decide +kernel
theorem dJ9_min_7cf53_9 : decode cJ9_min_7cf53 9 = .ok (.iload_n 1, 1) := by decide +kernel
theorem dJ9_min_7cf53_10 : decode cJ9_min_7cf53 10 = .ok (.ireturn, 1) := by decide +kernel
