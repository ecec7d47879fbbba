theorem dX12_held_65 : decode cX12_held 65 = .ok (.laload, 1) := by decide +kernel
theorem dX12_held_66 : decode cX12_held 66 = .ok (.lreturn, 1) := by decide +kernel
theorem dX12_held_67 : decode cX12_held 67 = .ok (.aload_n 0, 1) := by decide +kernel
theorem dX12_held_68 : decode cX12_held 68 = .ok (.getfield 131, 3) := by decide +kernel
theorem dX12_held_71 : decode cX12_held 71 = .ok (.iload_n 1, 1) := by decide +kernel
theorem dX12_held_72 : decode cX12_held 72 = .ok (.iaload, 1) := by decide +kernel
theorem dX12_held_73 : decode cX12_held 73 = .ok (.i2l, 1) := by decide +kernel
theorem dX12_held_74 : decode cX12_held 74 = .ok (.lreturn, 1) := by decide +kernel
theorem dX12_held_75 : decode cX12_held 75 = .ok (.aload_n 0, 1) := by decide +kernel
theorem dX12_held_76 : decode cX12_held 76 = .ok (.getfield 134, 3) := by decide +kernel
theorem dX12_held_79 : decode cX12_held 79 = .ok (.iload_n 1, 1) := by decide +kernel
theorem dX12_held_80 : decode cX12_held 80 = .ok (.iaload, 1) := by decide +kernel
theorem dX12_held_81 : decode cX12_held 81 = .ok (.i2l, 1) := by decide +kernel
theorem dX12_held_82 : decode cX12_held 82 = .ok (.lreturn, 1) := by decide +kernel
theorem dX12_held_83 : decode cX12_held 83 = .ok (.aload_n 0, 1) := by decide +kernel
theorem dX12_held_84 : decode cX12_held 84 = .ok (.iload_n 1, 1) := by decide +kernel
theorem dX12_held_85 : decode cX12_held 85 = .ok (.invokevirtual 417, 3) := by decide +kernel
theorem dX12_held_88 : decode cX12_held 88 = .ok (.lreturn, 1) := by decide +kernel
theorem dX12_held_89 : decode cX12_held 89 = .ok (.aload_n 0, 1) := by decide +kernel
theorem dX12_held_90 : decode cX12_held 90 = .ok (.iload_n 1, 1) := by decide +kernel
theorem dX12_held_91 : decode cX12_held 91 = .ok (.invokevirtual 420, 3) := by decide +kernel
theorem dX12_held_94 : decode cX12_held 94 = .ok (.lreturn, 1) := by decide +kernel
theorem dX12_held_95 : decode cX12_held 95 = .ok (.ldc2_w 257, 3) := by decide +kernel
theorem dX12_held_98 : decode cX12_held 98 = .ok (.lreturn, 1) := by decide +kernel
theorem dX12_isUnlike_0 : decode cX12_isUnlike 0 = .ok (.iload_n 1, 1) := by decide +kernel
theorem dX12_isUnlike_1 : decode cX12_isUnlike 1 = .ok (.iconst (-1), 1) := by decide +kernel
theorem dX12_isUnlike_2 : decode cX12_isUnlike 2 = .ok (.if_icmp .eq 17, 3) := by decide +kernel
theorem dX12_isUnlike_5 : decode cX12_isUnlike 5 = .ok (.iload_n 2, 1) := by decide +kernel
theorem dX12_isUnlike_6 : decode cX12_isUnlike 6 = .ok (.iconst (-1), 1) := by decide +kernel
theorem dX12_isUnlike_7 : decode cX12_isUnlike 7 = .ok (.if_icmp .eq 12, 3) := by decide +kernel
theorem dX12_isUnlike_10 : decode cX12_isUnlike 10 = .ok (.iload_n 1, 1) := by decide +kernel
theorem dX12_isUnlike_11 : decode cX12_isUnlike 11 = .ok (.iload_n 2, 1) := by decide +kernel
theorem dX12_isUnlike_12 : decode cX12_isUnlike 12 = .ok (.if_icmp .eq 7, 3) := by decide +kernel
theorem dX12_isUnlike_15 : decode cX12_isUnlike 15 = .ok (.iconst 1, 1) := by decide +kernel
theorem dX12_isUnlike_16 : decode cX12_isUnlike 16 = .ok (.goto 4, 3) := by decide +kernel
theorem dX12_isUnlike_19 : decode cX12_isUnlike 19 = .ok (.iconst 0, 1) := by decide +kernel
theorem dX12_isUnlike_20 : decode cX12_isUnlike 20 = .ok (.ireturn, 1) := by decide +kernel
theorem dX12_isBarred_0 : decode cX12_isBarred 0 = .ok (.aload_n 0, 1) := by decide +kernel
theorem dX12_isBarred_1 : decode cX12_isBarred 1 = .ok (.aload_n 0, 1) := by decide +kernel
theorem dX12_isBarred_2 : decode cX12_isBarred 2 = .ok (.getfield 22, 3) := by decide +kernel
theorem dX12_isBarred_5 : decode cX12_isBarred 5 = .ok (.iload_n 1, 1) := by decide +kernel
theorem dX12_isBarred_6 : decode cX12_isBarred 6 = .ok (.iaload, 1) := by decide +kernel
theorem dX12_isBarred_7 : decode cX12_isBarred 7 = .ok (.aload_n 0, 1) := by decide +kernel
theorem dX12_isBarred_8 : decode cX12_isBarred 8 = .ok (.getfield 22, 3) := by decide +kernel
theorem dX12_isBarred_11 : decode cX12_isBarred 11 = .ok (.iload_n 2, 1) := by decide +kernel
theorem dX12_isBarred_12 : decode cX12_isBarred 12 = .ok (.iaload, 1) := by decide +kernel
theorem dX12_isBarred_13 : decode cX12_isBarred 13 = .ok (.invokevirtual 423, 3) := by decide +kernel
theorem dX12_isBarred_16 : decode cX12_isBarred 16 = .ok (.ifCond .ne 22, 3) := by decide +kernel
theorem dX12_isBarred_19 : decode cX12_isBarred 19 = .ok (.aload_n 0, 1) := by decide +kernel
theorem dX12_isBarred_20 : decode cX12_isBarred 20 = .ok (.aload_n 0, 1) := by decide +kernel
theorem dX12_isBarred_21 : decode cX12_isBarred 21 = .ok (.getfield 28, 3) := by decide +kernel
theorem dX12_isBarred_24 : decode cX12_isBarred 24 = .ok (.iload_n 1, 1) := by decide +kernel
theorem dX12_isBarred_25 : decode cX12_isBarred 25 = .ok (.iaload, 1) := by decide +kernel
theorem dX12_isBarred_26 : decode cX12_isBarred 26 = .ok (.aload_n 0, 1) := by decide +kernel
theorem dX12_isBarred_27 : decode cX12_isBarred 27 = .ok (.getfield 28, 3) := by decide +kernel
theorem dX12_isBarred_30 : decode cX12_isBarred 30 = .ok (.iload_n 2, 1) := by decide +kernel
theorem dX12_isBarred_31 : decode cX12_isBarred 31 = .ok (.iaload, 1) := by decide +kernel
theorem dX12_isBarred_32 : decode cX12_isBarred 32 = .ok (.invokevirtual 423, 3) := by decide +kernel
theorem dX12_isBarred_35 : decode cX12_isBarred 35 = .ok (.ifCond .eq 5, 3) := by decide +kernel
theorem dX12_isBarred_38 : decode cX12_isBarred 38 = .ok (.iconst 1, 1) := by decide +kernel
theorem dX12_isBarred_39 : decode cX12_isBarred 39 = .ok (.ireturn, 1) := by decide +kernel
theorem dX12_isBarred_40 : decode cX12_isBarred 40 = .ok (.aload_n 0, 1) := by decide +kernel
theorem dX12_isBarred_41 : decode cX12_isBarred 41 = .ok (.getfield 34, 3) := by decide +kernel
theorem dX12_isBarred_44 : decode cX12_isBarred 44 = .ok (.iload_n 1, 1) := by decide +kernel
theorem dX12_isBarred_45 : decode cX12_isBarred 45 = .ok (.iaload, 1) := by decide +kernel
theorem dX12_isBarred_46 : decode cX12_isBarred 46 = .ok (.iconst (-1), 1) := by decide +kernel
theorem dX12_isBarred_47 : decode cX12_isBarred 47 = .ok (.if_icmp .eq 28, 3) := by decide +kernel
theorem dX12_isBarred_50 : decode cX12_isBarred 50 = .ok (.aload_n 0, 1) := by decide +kernel
theorem dX12_isBarred_51 : decode cX12_isBarred 51 = .ok (.getfield 22, 3) := by decide +kernel
theorem dX12_isBarred_54 : decode cX12_isBarred 54 = .ok (.iload_n 2, 1) := by decide +kernel
theorem dX12_isBarred_55 : decode cX12_isBarred 55 = .ok (.iaload, 1) := by decide +kernel
theorem dX12_isBarred_56 : decode cX12_isBarred 56 = .ok (.iconst (-1), 1) := by decide +kernel
theorem dX12_isBarred_57 : decode cX12_isBarred 57 = .ok (.if_icmp .eq 18, 3) := by decide +kernel
theorem dX12_isBarred_60 : decode cX12_isBarred 60 = .ok (.aload_n 0, 1) := by decide +kernel
theorem dX12_isBarred_61 : decode cX12_isBarred 61 = .ok (.getfield 34, 3) := by decide +kernel
theorem dX12_isBarred_64 : decode cX12_isBarred 64 = .ok (.iload_n 1, 1) := by decide +kernel
theorem dX12_isBarred_65 : decode cX12_isBarred 65 = .ok (.iaload, 1) := by decide +kernel
theorem dX12_isBarred_66 : decode cX12_isBarred 66 = .ok (.aload_n 0, 1) := by decide +kernel
theorem dX12_isBarred_67 : decode cX12_isBarred 67 = .ok (.getfield 22, 3) := by decide +kernel
theorem dX12_isBarred_70 : decode cX12_isBarred 70 = .ok (.iload_n 2, 1) := by decide +kernel
theorem dX12_isBarred_71 : decode cX12_isBarred 71 = .ok (.iaload, 1) := by decide +kernel
theorem dX12_isBarred_72 : decode cX12_isBarred 72 = .ok (.if_icmp .lt 38, 3) := by decide +kernel
theorem dX12_isBarred_75 : decode cX12_isBarred 75 = .ok (.aload_n 0, 1) := by decide +kernel
theorem dX12_isBarred_76 : decode cX12_isBarred 76 = .ok (.getfield 34, 3) := by decide +kernel
theorem dX12_isBarred_79 : decode cX12_isBarred 79 = .ok (.iload_n 2, 1) := by decide +kernel
theorem dX12_isBarred_80 : decode cX12_isBarred 80 = .ok (.iaload, 1) := by decide +kernel
theorem dX12_isBarred_81 : decode cX12_isBarred 81 = .ok (.iconst (-1), 1) := by decide +kernel
theorem dX12_isBarred_82 : decode cX12_isBarred 82 = .ok (.if_icmp .eq 32, 3) := by decide +kernel
theorem dX12_isBarred_85 : decode cX12_isBarred 85 = .ok (.aload_n 0, 1) := by decide +kernel
theorem dX12_isBarred_86 : decode cX12_isBarred 86 = .ok (.getfield 22, 3) := by decide +kernel
theorem dX12_isBarred_89 : decode cX12_isBarred 89 = .ok (.iload_n 1, 1) := by decide +kernel
theorem dX12_isBarred_90 : decode cX12_isBarred 90 = .ok (.iaload, 1) := by decide +kernel
theorem dX12_isBarred_91 : decode cX12_isBarred 91 = .ok (.iconst (-1), 1) := by decide +kernel
theorem dX12_isBarred_92 : decode cX12_isBarred 92 = .ok (.if_icmp .eq 22, 3) := by decide +kernel
theorem dX12_isBarred_95 : decode cX12_isBarred 95 = .ok (.aload_n 0, 1) := by decide +kernel
theorem dX12_isBarred_96 : decode cX12_isBarred 96 = .ok (.getfield 34, 3) := by decide +kernel
theorem dX12_isBarred_99 : decode cX12_isBarred 99 = .ok (.iload_n 2, 1) := by decide +kernel
theorem dX12_isBarred_100 : decode cX12_isBarred 100 = .ok (.iaload, 1) := by decide +kernel
theorem dX12_isBarred_101 : decode cX12_isBarred 101 = .ok (.aload_n 0, 1) := by decide +kernel
theorem dX12_isBarred_102 : decode cX12_isBarred 102 = .ok (.getfield 22, 3) := by decide +kernel
theorem dX12_isBarred_105 : decode cX12_isBarred 105 = .ok (.iload_n 1, 1) := by decide +kernel
theorem dX12_isBarred_106 : decode cX12_isBarred 106 = .ok (.iaload, 1) := by decide +kernel
theorem dX12_isBarred_107 : decode cX12_isBarred 107 = .ok (.if_icmp .ge 7, 3) := by decide +kernel
theorem dX12_isBarred_110 : decode cX12_isBarred 110 = .ok (.iconst 1, 1) := by decide +kernel
theorem dX12_isBarred_111 : decode cX12_isBarred 111 = .ok (.goto 4, 3) := by decide +kernel
theorem dX12_isBarred_114 : decode cX12_isBarred 114 = .ok (.iconst 0, 1) := by decide +kernel
theorem dX12_isBarred_115 : decode cX12_isBarred 115 = .ok (.ireturn, 1) := by decide +kernel
theorem dX12_isLike_0 : decode cX12_isLike 0 = .ok (.iload_n 1, 1) := by decide +kernel
theorem dX12_isLike_1 : decode cX12_isLike 1 = .ok (.iconst (-1), 1) := by decide +kernel
theorem dX12_isLike_2 : decode cX12_isLike 2 = .ok (.if_icmp .eq 12, 3) := by decide +kernel
theorem dX12_isLike_5 : decode cX12_isLike 5 = .ok (.iload_n 1, 1) := by decide +kernel
theorem dX12_isLike_6 : decode cX12_isLike 6 = .ok (.iload_n 2, 1) := by decide +kernel
theorem dX12_isLike_7 : decode cX12_isLike 7 = .ok (.if_icmp .ne 7, 3) := by decide +kernel
theorem dX12_isLike_10 : decode cX12_isLike 10 = .ok (.iconst 1, 1) := by decide +kernel
theorem dX12_isLike_11 : decode cX12_isLike 11 = .ok (.goto 4, 3) := by decide +kernel
theorem dX12_isLike_14 : decode cX12_isLike 14 = .ok (.iconst 0, 1) := by decide +kernel
theorem dX12_isLike_15 : decode cX12_isLike 15 = .ok (.ireturn, 1) := by decide +kernel
theorem dX12_pointsOf_0 : decode cX12_pointsOf 0 = .ok (.aload_n 0, 1) := by decide +kernel
theorem dX12_pointsOf_1 : decode cX12_pointsOf 1 = .ok (.getfield 19, 3) := by decide +kernel
theorem dX12_pointsOf_4 : decode cX12_pointsOf 4 = .ok (.iload_n 1, 1) := by decide +kernel
theorem dX12_pointsOf_5 : decode cX12_pointsOf 5 = .ok (.iaload, 1) := by decide +kernel
theorem dX12_pointsOf_6 : decode cX12_pointsOf 6 = .ok (.aload_n 0, 1) := by decide +kernel
theorem dX12_pointsOf_7 : decode cX12_pointsOf 7 = .ok (.getfield 19, 3) := by decide +kernel
theorem dX12_pointsOf_10 : decode cX12_pointsOf 10 = .ok (.iload_n 2, 1) := by decide +kernel
theorem dX12_pointsOf_11 : decode cX12_pointsOf 11 = .ok (.iaload, 1) := by decide +kernel
theorem dX12_pointsOf_12 : decode cX12_pointsOf 12 = .ok (.if_icmp .ne 7, 3) := by decide +kernel
theorem dX12_pointsOf_15 : decode cX12_pointsOf 15 = .ok (.iconst 3, 1) := by decide +kernel
theorem dX12_pointsOf_16 : decode cX12_pointsOf 16 = .ok (.goto 4, 3) := by decide +kernel
theorem dX12_pointsOf_19 : decode cX12_pointsOf 19 = .ok (.iconst 0, 1) := by decide +kernel
theorem dX12_pointsOf_20 : decode cX12_pointsOf 20 = .ok (.aload_n 0, 1) := by decide +kernel
theorem dX12_pointsOf_21 : decode cX12_pointsOf 21 = .ok (.aload_n 0, 1) := by decide +kernel
theorem dX12_pointsOf_22 : decode cX12_pointsOf 22 = .ok (.getfield 28, 3) := by decide +kernel
theorem dX12_pointsOf_25 : decode cX12_pointsOf 25 = .ok (.iload_n 1, 1) := by decide +kernel
theorem dX12_pointsOf_26 : decode cX12_pointsOf 26 = .ok (.iaload, 1) := by decide +kernel
theorem dX12_pointsOf_27 : decode cX12_pointsOf 27 = .ok (.aload_n 0, 1) := by decide +kernel
theorem dX12_pointsOf_28 : decode cX12_pointsOf 28 = .ok (.getfield 28, 3) := by decide +kernel
theorem dX12_pointsOf_31 : decode cX12_pointsOf 31 = .ok (.iload_n 2, 1) := by decide +kernel
theorem dX12_pointsOf_32 : decode cX12_pointsOf 32 = .ok (.iaload, 1) := by decide +kernel
theorem dX12_pointsOf_33 : decode cX12_pointsOf 33 = .ok (.invokevirtual 426, 3) := by decide +kernel
theorem dX12_pointsOf_36 : decode cX12_pointsOf 36 = .ok (.ifCond .eq 8, 3) := by decide +kernel
theorem dX12_pointsOf_39 : decode cX12_pointsOf 39 = .ok (.bipush 6, 2) := by decide +kernel
theorem dX12_pointsOf_41 : decode cX12_pointsOf 41 = .ok (.goto 4, 3) := by decide +kernel
theorem dX12_pointsOf_44 : decode cX12_pointsOf 44 = .ok (.iconst 0, 1) := by decide +kernel
theorem dX12_pointsOf_45 : decode cX12_pointsOf 45 = .ok (.iadd, 1) := by decide +kernel
theorem dX12_pointsOf_46 : decode cX12_pointsOf 46 = .ok (.aload_n 0, 1) := by decide +kernel
theorem dX12_pointsOf_47 : decode cX12_pointsOf 47 = .ok (.aload_n 0, 1) := by decide +kernel
theorem dX12_pointsOf_48 : decode cX12_pointsOf 48 = .ok (.getfield 25, 3) := by decide +kernel
theorem dX12_pointsOf_51 : decode cX12_pointsOf 51 = .ok (.iload_n 1, 1) := by decide +kernel
theorem dX12_pointsOf_52 : decode cX12_pointsOf 52 = .ok (.iaload, 1) := by decide +kernel
theorem dX12_pointsOf_53 : decode cX12_pointsOf 53 = .ok (.aload_n 0, 1) := by decide +kernel
theorem dX12_pointsOf_54 : decode cX12_pointsOf 54 = .ok (.getfield 25, 3) := by decide +kernel
theorem dX12_pointsOf_57 : decode cX12_pointsOf 57 = .ok (.iload_n 2, 1) := by decide +kernel
theorem dX12_pointsOf_58 : decode cX12_pointsOf 58 = .ok (.iaload, 1) := by decide +kernel
theorem dX12_pointsOf_59 : decode cX12_pointsOf 59 = .ok (.invokevirtual 426, 3) := by decide +kernel
theorem dX12_pointsOf_62 : decode cX12_pointsOf 62 = .ok (.ifCond .eq 7, 3) := by decide +kernel
theorem dX12_pointsOf_65 : decode cX12_pointsOf 65 = .ok (.iconst 1, 1) := by decide +kernel
theorem dX12_pointsOf_66 : decode cX12_pointsOf 66 = .ok (.goto 4, 3) := by decide +kernel
theorem dX12_pointsOf_69 : decode cX12_pointsOf 69 = .ok (.iconst 0, 1) := by decide +kernel
theorem dX12_pointsOf_70 : decode cX12_pointsOf 70 = .ok (.iadd, 1) := by decide +kernel
theorem dX12_pointsOf_71 : decode cX12_pointsOf 71 = .ok (.aload_n 0, 1) := by decide +kernel
theorem dX12_pointsOf_72 : decode cX12_pointsOf 72 = .ok (.aload_n 0, 1) := by decide +kernel
theorem dX12_pointsOf_73 : decode cX12_pointsOf 73 = .ok (.getfield 22, 3) := by decide +kernel
theorem dX12_pointsOf_76 : decode cX12_pointsOf 76 = .ok (.iload_n 1, 1) := by decide +kernel
theorem dX12_pointsOf_77 : decode cX12_pointsOf 77 = .ok (.iaload, 1) := by decide +kernel
theorem dX12_pointsOf_78 : decode cX12_pointsOf 78 = .ok (.aload_n 0, 1) := by decide +kernel
theorem dX12_pointsOf_79 : decode cX12_pointsOf 79 = .ok (.getfield 22, 3) := by decide +kernel
theorem dX12_pointsOf_82 : decode cX12_pointsOf 82 = .ok (.iload_n 2, 1) := by decide +kernel
theorem dX12_pointsOf_83 : decode cX12_pointsOf 83 = .ok (.iaload, 1) := by decide +kernel
theorem dX12_pointsOf_84 : decode cX12_pointsOf 84 = .ok (.invokevirtual 426, 3) := by decide +kernel
theorem dX12_pointsOf_87 : decode cX12_pointsOf 87 = .ok (.ifCond .eq 7, 3) := by decide +kernel
theorem dX12_pointsOf_90 : decode cX12_pointsOf 90 = .ok (.iconst 4, 1) := by decide +kernel
theorem dX12_pointsOf_91 : decode cX12_pointsOf 91 = .ok (.goto 4, 3) := by decide +kernel
theorem dX12_pointsOf_94 : decode cX12_pointsOf 94 = .ok (.iconst 0, 1) := by decide +kernel
theorem dX12_pointsOf_95 : decode cX12_pointsOf 95 = .ok (.iadd, 1) := by decide +kernel
theorem dX12_pointsOf_96 : decode cX12_pointsOf 96 = .ok (.ireturn, 1) := by decide +kernel
theorem dX12_points_0 : decode cX12_points 0 = .ok (.aload_n 0, 1) := by decide +kernel
theorem dX12_points_1 : decode cX12_points 1 = .ok (.iload_n 1, 1) := by decide +kernel
theorem dX12_points_2 : decode cX12_points 2 = .ok (.invokevirtual 231, 3) := by decide +kernel
theorem dX12_points_5 : decode cX12_points 5 = .ok (.ifCond .eq 16, 3) := by decide +kernel
theorem dX12_points_8 : decode cX12_points 8 = .ok (.aload_n 0, 1) := by decide +kernel
theorem dX12_points_9 : decode cX12_points 9 = .ok (.iload_n 2, 1) := by decide +kernel
theorem dX12_points_10 : decode cX12_points 10 = .ok (.invokevirtual 231, 3) := by decide +kernel
theorem dX12_points_13 : decode cX12_points 13 = .ok (.ifCond .eq 8, 3) := by decide +kernel
theorem dX12_points_16 : decode cX12_points 16 = .ok (.iload_n 1, 1) := by decide +kernel
theorem dX12_points_17 : decode cX12_points 17 = .ok (.iload_n 2, 1) := by decide +kernel
theorem dX12_points_18 : decode cX12_points 18 = .ok (.if_icmp .ne 6, 3) := by decide +kernel
theorem dX12_points_21 : decode cX12_points 21 = .ok (.bipush (-2), 2) := by decide +kernel
theorem dX12_points_23 : decode cX12_points 23 = .ok (.ireturn, 1) := by decide +kernel
theorem dX12_points_24 : decode cX12_points 24 = .ok (.aload_n 0, 1) := by decide +kernel
theorem dX12_points_25 : decode cX12_points 25 = .ok (.iload_n 1, 1) := by decide +kernel
theorem dX12_points_26 : decode cX12_points 26 = .ok (.iload_n 2, 1) := by decide +kernel
theorem dX12_points_27 : decode cX12_points 27 = .ok (.invokevirtual 429, 3) := by decide +kernel
theorem dX12_points_30 : decode cX12_points 30 = .ok (.ifCond .eq 7, 3) := by decide +kernel
theorem dX12_points_33 : decode cX12_points 33 = .ok (.iconst (-1), 1) := by decide +kernel
theorem dX12_points_34 : decode cX12_points 34 = .ok (.goto 9, 3) := by decide +kernel
theorem dX12_points_37 : decode cX12_points 37 = .ok (.aload_n 0, 1) := by decide +kernel
theorem dX12_points_38 : decode cX12_points 38 = .ok (.iload_n 1, 1) := by decide +kernel
theorem dX12_points_39 : decode cX12_points 39 = .ok (.iload_n 2, 1) := by decide +kernel
theorem dX12_points_40 : decode cX12_points 40 = .ok (.invokevirtual 432, 3) := by decide +kernel
theorem dX12_points_43 : decode cX12_points 43 = .ok (.ireturn, 1) := by decide +kernel
theorem dX12_isSet_0 : decode cX12_isSet 0 = .ok (.aload_n 0, 1) := by decide +kernel
theorem dX12_isSet_1 : decode cX12_isSet 1 = .ok (.iconst 0, 1) := by decide +kernel
theorem dX12_isSet_2 : decode cX12_isSet 2 = .ok (.putfield 435, 3) := by decide +kernel
theorem dX12_isSet_5 : decode cX12_isSet 5 = .ok (.iload_n 1, 1) := by decide +kernel
theorem dX12_isSet_6 : decode cX12_isSet 6 = .ok (.ifCond .le 22, 3) := by decide +kernel
theorem dX12_isSet_9 : decode cX12_isSet 9 = .ok (.aload_n 0, 1) := by decide +kernel
theorem dX12_isSet_10 : decode cX12_isSet 10 = .ok (.getfield 207, 3) := by decide +kernel
theorem dX12_isSet_13 : decode cX12_isSet 13 = .ok (.bipush 31, 2) := by decide +kernel
theorem dX12_isSet_15 : decode cX12_isSet 15 = .ok (.if_icmp .ge 15, 3) := by decide +kernel
theorem dX12_isSet_18 : decode cX12_isSet 18 = .ok (.iload_n 1, 1) := by decide +kernel
theorem dX12_isSet_19 : decode cX12_isSet 19 = .ok (.iconst 1, 1) := by decide +kernel
theorem dX12_isSet_20 : decode cX12_isSet 20 = .ok (.aload_n 0, 1) := by decide +kernel
theorem dX12_isSet_21 : decode cX12_isSet 21 = .ok (.getfield 207, 3) := by decide +kernel
theorem dX12_isSet_24 : decode cX12_isSet 24 = .ok (.ishl, 1) := by decide +kernel
theorem dX12_isSet_25 : decode cX12_isSet 25 = .ok (.if_icmp .lt 5, 3) := by decide +kernel
theorem dX12_isSet_28 : decode cX12_isSet 28 = .ok (.iconst 0, 1) := by decide +kernel
theorem dX12_isSet_29 : decode cX12_isSet 29 = .ok (.ireturn, 1) := by decide +kernel
theorem dX12_isSet_30 : decode cX12_isSet 30 = .ok (.iconst 0, 1) := by decide +kernel
theorem dX12_isSet_31 : decode cX12_isSet 31 = .ok (.istore_n 2, 1) := by decide +kernel
theorem dX12_isSet_32 : decode cX12_isSet 32 = .ok (.iload_n 2, 1) := by decide +kernel
theorem dX12_isSet_33 : decode cX12_isSet 33 = .ok (.aload_n 0, 1) := by decide +kernel
theorem dX12_isSet_34 : decode cX12_isSet 34 = .ok (.getfield 207, 3) := by decide +kernel
theorem dX12_isSet_37 : decode cX12_isSet 37 = .ok (.if_icmp .ge 51, 3) := by decide +kernel
theorem dX12_isSet_40 : decode cX12_isSet 40 = .ok (.iload_n 1, 1) := by decide +kernel
theorem dX12_isSet_41 : decode cX12_isSet 41 = .ok (.iload_n 2, 1) := by decide +kernel
theorem dX12_isSet_42 : decode cX12_isSet 42 = .ok (.ishr, 1) := by decide +kernel
theorem dX12_isSet_43 : decode cX12_isSet 43 = .ok (.iconst 1, 1) := by decide +kernel
theorem dX12_isSet_44 : decode cX12_isSet 44 = .ok (.iand, 1) := by decide +kernel
theorem dX12_isSet_45 : decode cX12_isSet 45 = .ok (.ifCond .ne 6, 3) := by decide +kernel
theorem dX12_isSet_48 : decode cX12_isSet 48 = .ok (.goto 34, 3) := by decide +kernel
theorem dX12_isSet_51 : decode cX12_isSet 51 = .ok (.aload_n 0, 1) := by decide +kernel
theorem dX12_isSet_52 : decode cX12_isSet 52 = .ok (.getfield 435, 3) := by decide +kernel
theorem dX12_isSet_55 : decode cX12_isSet 55 = .ok (.bipush 8, 2) := by decide +kernel
theorem dX12_isSet_57 : decode cX12_isSet 57 = .ok (.if_icmp .ne 5, 3) := by decide +kernel
theorem dX12_isSet_60 : decode cX12_isSet 60 = .ok (.iconst 0, 1) := by decide +kernel
theorem dX12_isSet_61 : decode cX12_isSet 61 = .ok (.ireturn, 1) := by decide +kernel
theorem dX12_isSet_62 : decode cX12_isSet 62 = .ok (.aload_n 0, 1) := by decide +kernel
theorem dX12_isSet_63 : decode cX12_isSet 63 = .ok (.getfield 141, 3) := by decide +kernel
theorem dX12_isSet_66 : decode cX12_isSet 66 = .ok (.aload_n 0, 1) := by decide +kernel
theorem dX12_isSet_67 : decode cX12_isSet 67 = .ok (.getfield 435, 3) := by decide +kernel
theorem dX12_isSet_70 : decode cX12_isSet 70 = .ok (.iload_n 2, 1) := by decide +kernel
theorem dX12_isSet_71 : decode cX12_isSet 71 = .ok (.iastore, 1) := by decide +kernel
theorem dX12_isSet_72 : decode cX12_isSet 72 = .ok (.aload_n 0, 1) := by decide +kernel
theorem dX12_isSet_73 : decode cX12_isSet 73 = .ok (.dup, 1) := by decide +kernel
theorem dX12_isSet_74 : decode cX12_isSet 74 = .ok (.getfield 435, 3) := by decide +kernel
theorem dX12_isSet_77 : decode cX12_isSet 77 = .ok (.iconst 1, 1) := by decide +kernel
theorem dX12_isSet_78 : decode cX12_isSet 78 = .ok (.iadd, 1) := by decide +kernel
theorem dX12_isSet_79 : decode cX12_isSet 79 = .ok (.putfield 435, 3) := by decide +kernel
theorem dX12_isSet_82 : decode cX12_isSet 82 = .ok (.iinc 2 1, 3) := by decide +kernel
theorem dX12_isSet_85 : decode cX12_isSet 85 = .ok (.goto (-53), 3) := by decide +kernel
theorem dX12_isSet_88 : decode cX12_isSet 88 = .ok (.iconst 1, 1) := by decide +kernel
theorem dX12_isSet_89 : decode cX12_isSet 89 = .ok (.ireturn, 1) := by decide +kernel
theorem dX12_joins_0 : decode cX12_joins 0 = .ok (.iload_n 1, 1) := by decide +kernel
theorem dX12_joins_1 : decode cX12_joins 1 = .ok (.aload_n 0, 1) := by decide +kernel
theorem dX12_joins_2 : decode cX12_joins 2 = .ok (.getfield 435, 3) := by decide +kernel
theorem dX12_joins_5 : decode cX12_joins 5 = .ok (.if_icmp .ne 9, 3) := by decide +kernel
theorem dX12_joins_8 : decode cX12_joins 8 = .ok (.aload_n 0, 1) := by decide +kernel
theorem dX12_joins_9 : decode cX12_joins 9 = .ok (.iload_n 3, 1) := by decide +kernel
theorem dX12_joins_10 : decode cX12_joins 10 = .ok (.invokevirtual 438, 3) := by decide +kernel
theorem dX12_joins_13 : decode cX12_joins 13 = .ok (.return_, 1) := by decide +kernel
theorem dX12_joins_14 : decode cX12_joins 14 = .ok (.iconst 0, 1) := by decide +kernel
theorem dX12_joins_15 : decode cX12_joins 15 = .ok (.istore 4, 2) := by decide +kernel
theorem dX12_joins_17 : decode cX12_joins 17 = .ok (.iload 4, 2) := by decide +kernel
theorem dX12_joins_19 : decode cX12_joins 19 = .ok (.iload_n 2, 1) := by decide +kernel
theorem dX12_joins_20 : decode cX12_joins 20 = .ok (.if_icmp .gt 141, 3) := by decide +kernel
theorem dX12_joins_23 : decode cX12_joins 23 = .ok (.iconst 1, 1) := by decide +kernel
theorem dX12_joins_24 : decode cX12_joins 24 = .ok (.istore 5, 2) := by decide +kernel
theorem dX12_joins_26 : decode cX12_joins 26 = .ok (.iconst 0, 1) := by decide +kernel
theorem dX12_joins_27 : decode cX12_joins 27 = .ok (.istore 6, 2) := by decide +kernel
theorem dX12_joins_29 : decode cX12_joins 29 = .ok (.iconst 0, 1) := by decide +kernel
theorem dX12_joins_30 : decode cX12_joins 30 = .ok (.istore 7, 2) := by decide +kernel
theorem dX12_joins_32 : decode cX12_joins 32 = .ok (.iload 7, 2) := by decide +kernel
theorem dX12_joins_34 : decode cX12_joins 34 = .ok (.iload_n 1, 1) := by decide +kernel
theorem dX12_joins_35 : decode cX12_joins 35 = .ok (.if_icmp .ge 80, 3) := by decide +kernel
theorem dX12_joins_38 : decode cX12_joins 38 = .ok (.aload_n 0, 1) := by decide +kernel
theorem dX12_joins_39 : decode cX12_joins 39 = .ok (.getfield 144, 3) := by decide +kernel
theorem dX12_joins_42 : decode cX12_joins 42 = .ok (.iload 7, 2) := by decide +kernel
theorem dX12_joins_44 : decode cX12_joins 44 = .ok (.iaload, 1) := by decide +kernel
theorem dX12_joins_45 : decode cX12_joins 45 = .ok (.iload 4, 2) := by decide +kernel
theorem dX12_joins_47 : decode cX12_joins 47 = .ok (.if_icmp .eq 6, 3) := by decide +kernel
theorem dX12_joins_50 : decode cX12_joins 50 = .ok (.goto 59, 3) := by decide +kernel
theorem dX12_joins_53 : decode cX12_joins 53 = .ok (.iload 5, 2) := by decide +kernel
theorem dX12_joins_55 : decode cX12_joins 55 = .ok (.ifCond .eq 27, 3) := by decide +kernel
theorem dX12_joins_58 : decode cX12_joins 58 = .ok (.aload_n 0, 1) := by decide +kernel
theorem dX12_joins_59 : decode cX12_joins 59 = .ok (.aload_n 0, 1) := by decide +kernel
theorem dX12_joins_60 : decode cX12_joins 60 = .ok (.getfield 141, 3) := by decide +kernel
theorem dX12_joins_63 : decode cX12_joins 63 = .ok (.iload 7, 2) := by decide +kernel
theorem dX12_joins_65 : decode cX12_joins 65 = .ok (.iaload, 1) := by decide +kernel
theorem dX12_joins_66 : decode cX12_joins 66 = .ok (.aload_n 0, 1) := by decide +kernel
theorem dX12_joins_67 : decode cX12_joins 67 = .ok (.getfield 141, 3) := by decide +kernel
theorem dX12_joins_70 : decode cX12_joins 70 = .ok (.iload_n 1, 1) := by decide +kernel
theorem dX12_joins_71 : decode cX12_joins 71 = .ok (.iaload, 1) := by decide +kernel
theorem dX12_joins_72 : decode cX12_joins 72 = .ok (.invokevirtual 429, 3) := by decide +kernel
theorem dX12_joins_75 : decode cX12_joins 75 = .ok (.ifCond .ne 7, 3) := by decide +kernel
theorem dX12_joins_78 : decode cX12_joins 78 = .ok (.iconst 1, 1) := by decide +kernel
theorem dX12_joins_79 : decode cX12_joins 79 = .ok (.goto 4, 3) := by decide +kernel
theorem dX12_joins_82 : decode cX12_joins 82 = .ok (.iconst 0, 1) := by decide +kernel
theorem dX12_joins_83 : decode cX12_joins 83 = .ok (.istore 5, 2) := by decide +kernel
theorem dX12_joins_85 : decode cX12_joins 85 = .ok (.iload 6, 2) := by decide +kernel
theorem dX12_joins_87 : decode cX12_joins 87 = .ok (.aload_n 0, 1) := by decide +kernel
theorem dX12_joins_88 : decode cX12_joins 88 = .ok (.aload_n 0, 1) := by decide +kernel
theorem dX12_joins_89 : decode cX12_joins 89 = .ok (.getfield 141, 3) := by decide +kernel
theorem dX12_joins_92 : decode cX12_joins 92 = .ok (.iload 7, 2) := by decide +kernel
theorem dX12_joins_94 : decode cX12_joins 94 = .ok (.iaload, 1) := by decide +kernel
theorem dX12_joins_95 : decode cX12_joins 95 = .ok (.aload_n 0, 1) := by decide +kernel
theorem dX12_joins_96 : decode cX12_joins 96 = .ok (.getfield 141, 3) := by decide +kernel
theorem dX12_joins_99 : decode cX12_joins 99 = .ok (.iload_n 1, 1) := by decide +kernel
theorem dX12_joins_100 : decode cX12_joins 100 = .ok (.iaload, 1) := by decide +kernel
theorem dX12_joins_101 : decode cX12_joins 101 = .ok (.invokevirtual 432, 3) := by decide +kernel
theorem dX12_joins_104 : decode cX12_joins 104 = .ok (.iconst 5, 1) := by decide +kernel
theorem dX12_joins_105 : decode cX12_joins 105 = .ok (.isub, 1) := by decide +kernel
theorem dX12_joins_106 : decode cX12_joins 106 = .ok (.iadd, 1) := by decide +kernel
theorem dX12_joins_107 : decode cX12_joins 107 = .ok (.istore 6, 2) := by decide +kernel
theorem dX12_joins_109 : decode cX12_joins 109 = .ok (.iinc 7 1, 3) := by decide +kernel
theorem dX12_joins_112 : decode cX12_joins 112 = .ok (.goto (-80), 3) := by decide +kernel
theorem dX12_joins_115 : decode cX12_joins 115 = .ok (.iload 5, 2) := by decide +kernel
theorem dX12_joins_117 : decode cX12_joins 117 = .ok (.ifCond .ne 6, 3) := by decide +kernel
theorem dX12_joins_120 : decode cX12_joins 120 = .ok (.goto 35, 3) := by decide +kernel
theorem dX12_joins_123 : decode cX12_joins 123 = .ok (.aload_n 0, 1) := by decide +kernel
theorem dX12_joins_124 : decode cX12_joins 124 = .ok (.getfield 144, 3) := by decide +kernel
theorem dX12_joins_127 : decode cX12_joins 127 = .ok (.iload_n 1, 1) := by decide +kernel
theorem dX12_joins_128 : decode cX12_joins 128 = .ok (.iload 4, 2) := by decide +kernel
theorem dX12_joins_130 : decode cX12_joins 130 = .ok (.iastore, 1) := by decide +kernel
theorem dX12_joins_131 : decode cX12_joins 131 = .ok (.aload_n 0, 1) := by decide +kernel
theorem dX12_joins_132 : decode cX12_joins 132 = .ok (.iload_n 1, 1) := by decide +kernel
theorem dX12_joins_133 : decode cX12_joins 133 = .ok (.iconst 1, 1) := by decide +kernel
theorem dX12_joins_134 : decode cX12_joins 134 = .ok (.iadd, 1) := by decide +kernel
theorem dX12_joins_135 : decode cX12_joins 135 = .ok (.iload 4, 2) := by decide +kernel
theorem dX12_joins_137 : decode cX12_joins 137 = .ok (.iload_n 2, 1) := by decide +kernel
theorem dX12_joins_138 : decode cX12_joins 138 = .ok (.if_icmp .ne 9, 3) := by decide +kernel
theorem dX12_joins_141 : decode cX12_joins 141 = .ok (.iload_n 2, 1) := by decide +kernel
theorem dX12_joins_142 : decode cX12_joins 142 = .ok (.iconst 1, 1) := by decide +kernel
theorem dX12_joins_143 : decode cX12_joins 143 = .ok (.iadd, 1) := by decide +kernel
theorem dX12_joins_144 : decode cX12_joins 144 = .ok (.goto 4, 3) := by decide +kernel
theorem dX12_joins_147 : decode cX12_joins 147 = .ok (.iload_n 2, 1) := by decide +kernel
theorem dX12_joins_148 : decode cX12_joins 148 = .ok (.iload_n 3, 1) := by decide +kernel
theorem dX12_joins_149 : decode cX12_joins 149 = .ok (.iload 6, 2) := by decide +kernel
theorem dX12_joins_151 : decode cX12_joins 151 = .ok (.iadd, 1) := by decide +kernel
theorem dX12_joins_152 : decode cX12_joins 152 = .ok (.invokevirtual 441, 3) := by decide +kernel
theorem dX12_joins_155 : decode cX12_joins 155 = .ok (.iinc 4 1, 3) := by decide +kernel
theorem dX12_joins_158 : decode cX12_joins 158 = .ok (.goto (-141), 3) := by decide +kernel
theorem dX12_joins_161 : decode cX12_joins 161 = .ok (.return_, 1) := by decide +kernel
theorem dX12_counts_0 : decode cX12_counts 0 = .ok (.aload_n 0, 1) := by decide +kernel
theorem dX12_counts_1 : decode cX12_counts 1 = .ok (.getfield 445, 3) := by decide +kernel
theorem dX12_counts_4 : decode cX12_counts 4 = .ok (.ifCond .le 12, 3) := by decide +kernel
theorem dX12_counts_7 : decode cX12_counts 7 = .ok (.iload_n 1, 1) := by decide +kernel
theorem dX12_counts_8 : decode cX12_counts 8 = .ok (.aload_n 0, 1) := by decide +kernel
theorem dX12_counts_9 : decode cX12_counts 9 = .ok (.getfield 448, 3) := by decide +kernel
theorem dX12_counts_12 : decode cX12_counts 12 = .ok (.if_icmp .ge 4, 3) := by decide +kernel
theorem dX12_counts_15 : decode cX12_counts 15 = .ok (.return_, 1) := by decide +kernel
theorem dX12_counts_16 : decode cX12_counts 16 = .ok (.aload_n 0, 1) := by decide +kernel
theorem dX12_counts_17 : decode cX12_counts 17 = .ok (.getfield 445, 3) := by decide +kernel
theorem dX12_counts_20 : decode cX12_counts 20 = .ok (.ifCond .eq 11, 3) := by decide +kernel
theorem dX12_counts_23 : decode cX12_counts 23 = .ok (.iload_n 1, 1) := by decide +kernel
theorem dX12_counts_24 : decode cX12_counts 24 = .ok (.aload_n 0, 1) := by decide +kernel
theorem dX12_counts_25 : decode cX12_counts 25 = .ok (.getfield 448, 3) := by decide +kernel
theorem dX12_counts_28 : decode cX12_counts 28 = .ok (.if_icmp .le 34, 3) := by decide +kernel
theorem dX12_counts_31 : decode cX12_counts 31 = .ok (.aload_n 0, 1) := by decide +kernel
theorem dX12_counts_32 : decode cX12_counts 32 = .ok (.iload_n 1, 1) := by decide +kernel
theorem dX12_counts_33 : decode cX12_counts 33 = .ok (.putfield 448, 3) := by decide +kernel
theorem dX12_counts_36 : decode cX12_counts 36 = .ok (.aload_n 0, 1) := by decide +kernel
theorem dX12_counts_37 : decode cX12_counts 37 = .ok (.iconst 0, 1) := by decide +kernel
theorem dX12_counts_38 : decode cX12_counts 38 = .ok (.putfield 445, 3) := by decide +kernel
theorem dX12_counts_41 : decode cX12_counts 41 = .ok (.iconst 0, 1) := by decide +kernel
theorem dX12_counts_42 : decode cX12_counts 42 = .ok (.istore_n 2, 1) := by decide +kernel
theorem dX12_counts_43 : decode cX12_counts 43 = .ok (.iload_n 2, 1) := by decide +kernel
theorem dX12_counts_44 : decode cX12_counts 44 = .ok (.bipush 64, 2) := by decide +kernel
theorem dX12_counts_46 : decode cX12_counts 46 = .ok (.if_icmp .ge 16, 3) := by decide +kernel
theorem dX12_counts_49 : decode cX12_counts 49 = .ok (.aload_n 0, 1) := by decide +kernel
theorem dX12_counts_50 : decode cX12_counts 50 = .ok (.getfield 147, 3) := by decide +kernel
theorem dX12_counts_53 : decode cX12_counts 53 = .ok (.iload_n 2, 1) := by decide +kernel
theorem dX12_counts_54 : decode cX12_counts 54 = .ok (.iconst 0, 1) := by decide +kernel
theorem dX12_counts_55 : decode cX12_counts 55 = .ok (.iastore, 1) := by decide +kernel
theorem dX12_counts_56 : decode cX12_counts 56 = .ok (.iinc 2 1, 3) := by decide +kernel
theorem dX12_counts_59 : decode cX12_counts 59 = .ok (.goto (-16), 3) := by decide +kernel
theorem dX12_counts_62 : decode cX12_counts 62 = .ok (.aload_n 0, 1) := by decide +kernel
theorem dX12_counts_63 : decode cX12_counts 63 = .ok (.dup, 1) := by decide +kernel
theorem dX12_counts_64 : decode cX12_counts 64 = .ok (.getfield 445, 3) := by decide +kernel
theorem dX12_counts_67 : decode cX12_counts 67 = .ok (.iconst 1, 1) := by decide +kernel
theorem dX12_counts_68 : decode cX12_counts 68 = .ok (.iadd, 1) := by decide +kernel
theorem dX12_counts_69 : decode cX12_counts 69 = .ok (.putfield 445, 3) := by decide +kernel
theorem dX12_counts_72 : decode cX12_counts 72 = .ok (.iconst 0, 1) := by decide +kernel
theorem dX12_counts_73 : decode cX12_counts 73 = .ok (.istore_n 2, 1) := by decide +kernel
theorem dX12_counts_74 : decode cX12_counts 74 = .ok (.iload_n 2, 1) := by decide +kernel
theorem dX12_counts_75 : decode cX12_counts 75 = .ok (.aload_n 0, 1) := by decide +kernel
theorem dX12_counts_76 : decode cX12_counts 76 = .ok (.getfield 435, 3) := by decide +kernel
theorem dX12_counts_79 : decode cX12_counts 79 = .ok (.if_icmp .ge 59, 3) := by decide +kernel
theorem dX12_counts_82 : decode cX12_counts 82 = .ok (.iconst 0, 1) := by decide +kernel
theorem dX12_counts_83 : decode cX12_counts 83 = .ok (.istore_n 3, 1) := by decide +kernel
theorem dX12_counts_84 : decode cX12_counts 84 = .ok (.iload_n 3, 1) := by decide +kernel
theorem dX12_counts_85 : decode cX12_counts 85 = .ok (.aload_n 0, 1) := by decide +kernel
theorem dX12_counts_86 : decode cX12_counts 86 = .ok (.getfield 435, 3) := by decide +kernel
theorem dX12_counts_89 : decode cX12_counts 89 = .ok (.if_icmp .ge 43, 3) := by decide +kernel
theorem dX12_counts_92 : decode cX12_counts 92 = .ok (.aload_n 0, 1) := by decide +kernel
theorem dX12_counts_93 : decode cX12_counts 93 = .ok (.getfield 147, 3) := by decide +kernel
theorem dX12_counts_96 : decode cX12_counts 96 = .ok (.bipush 8, 2) := by decide +kernel
theorem dX12_counts_98 : decode cX12_counts 98 = .ok (.iload_n 2, 1) := by decide +kernel
theorem dX12_counts_99 : decode cX12_counts 99 = .ok (.imul, 1) := by decide +kernel
theorem dX12_counts_100 : decode cX12_counts 100 = .ok (.iload_n 3, 1) := by decide +kernel
theorem dX12_counts_101 : decode cX12_counts 101 = .ok (.iadd, 1) := by decide +kernel
theorem dX12_counts_102 : decode cX12_counts 102 = .ok (.dup2, 1) := by decide +kernel
theorem dX12_counts_103 : decode cX12_counts 103 = .ok (.iaload, 1) := by decide +kernel
theorem dX12_counts_104 : decode cX12_counts 104 = .ok (.aload_n 0, 1) := by decide +kernel
theorem dX12_counts_105 : decode cX12_counts 105 = .ok (.getfield 144, 3) := by decide +kernel
theorem dX12_counts_108 : decode cX12_counts 108 = .ok (.iload_n 2, 1) := by decide +kernel
theorem dX12_counts_109 : decode cX12_counts 109 = .ok (.iaload, 1) := by decide +kernel
theorem dX12_counts_110 : decode cX12_counts 110 = .ok (.aload_n 0, 1) := by decide +kernel
theorem dX12_counts_111 : decode cX12_counts 111 = .ok (.getfield 144, 3) := by decide +kernel
theorem dX12_counts_114 : decode cX12_counts 114 = .ok (.iload_n 3, 1) := by decide +kernel
theorem dX12_counts_115 : decode cX12_counts 115 = .ok (.iaload, 1) := by decide +kernel
theorem dX12_counts_116 : decode cX12_counts 116 = .ok (.if_icmp .ne 7, 3) := by decide +kernel
theorem dX12_counts_119 : decode cX12_counts 119 = .ok (.iconst 1, 1) := by decide +kernel
theorem dX12_counts_120 : decode cX12_counts 120 = .ok (.goto 4, 3) := by decide +kernel
theorem dX12_counts_123 : decode cX12_counts 123 = .ok (.iconst 0, 1) := by decide +kernel
theorem dX12_counts_124 : decode cX12_counts 124 = .ok (.iadd, 1) := by decide +kernel
theorem dX12_counts_125 : decode cX12_counts 125 = .ok (.iastore, 1) := by decide +kernel
theorem dX12_counts_126 : decode cX12_counts 126 = .ok (.iinc 3 1, 3) := by decide +kernel
theorem dX12_counts_129 : decode cX12_counts 129 = .ok (.goto (-45), 3) := by decide +kernel
theorem dX12_counts_132 : decode cX12_counts 132 = .ok (.iinc 2 1, 3) := by decide +kernel
theorem dX12_counts_135 : decode cX12_counts 135 = .ok (.goto (-61), 3) := by decide +kernel
theorem dX12_counts_138 : decode cX12_counts 138 = .ok (.return_, 1) := by decide +kernel
theorem dX12_joinAll_0 : decode cX12_joinAll 0 = .ok (.aload_n 0, 1) := by decide +kernel
theorem dX12_joinAll_1 : decode cX12_joinAll 1 = .ok (.iconst 0, 1) := by decide +kernel
theorem dX12_joinAll_2 : decode cX12_joinAll 2 = .ok (.putfield 445, 3) := by decide +kernel
theorem dX12_joinAll_5 : decode cX12_joinAll 5 = .ok (.aload_n 0, 1) := by decide +kernel
theorem dX12_joinAll_6 : decode cX12_joinAll 6 = .ok (.iconst 0, 1) := by decide +kernel
theorem dX12_joinAll_7 : decode cX12_joinAll 7 = .ok (.iconst 0, 1) := by decide +kernel
theorem dX12_joinAll_8 : decode cX12_joinAll 8 = .ok (.iconst 0, 1) := by decide +kernel
theorem dX12_joinAll_9 : decode cX12_joinAll 9 = .ok (.invokevirtual 441, 3) := by decide +kernel
theorem dX12_joinAll_12 : decode cX12_joinAll 12 = .ok (.return_, 1) := by decide +kernel
theorem dX12_join_0 : decode cX12_join 0 = .ok (.aload_n 0, 1) := by decide +kernel
theorem dX12_join_1 : decode cX12_join 1 = .ok (.iload_n 1, 1) := by decide +kernel
theorem dX12_join_2 : decode cX12_join 2 = .ok (.invokevirtual 451, 3) := by decide +kernel
theorem dX12_join_5 : decode cX12_join 5 = .ok (.ifCond .eq 12, 3) := by decide +kernel
theorem dX12_join_8 : decode cX12_join 8 = .ok (.iload_n 2, 1) := by decide +kernel
theorem dX12_join_9 : decode cX12_join 9 = .ok (.iconst 0, 1) := by decide +kernel
theorem dX12_join_10 : decode cX12_join 10 = .ok (.iconst 1, 1) := by decide +kernel
theorem dX12_join_11 : decode cX12_join 11 = .ok (.invokestatic 200, 3) := by decide +kernel
theorem dX12_join_14 : decode cX12_join 14 = .ok (.ifCond .ne 7, 3) := by decide +kernel
theorem dX12_join_17 : decode cX12_join 17 = .ok (.sipush (-10000), 3) := by decide +kernel
theorem dX12_join_20 : decode cX12_join 20 = .ok (.ireturn, 1) := by decide +kernel
theorem dX12_join_21 : decode cX12_join 21 = .ok (.aload_n 0, 1) := by decide +kernel
theorem dX12_join_22 : decode cX12_join 22 = .ok (.invokevirtual 454, 3) := by decide +kernel
theorem dX12_join_25 : decode cX12_join 25 = .ok (.iload_n 2, 1) := by decide +kernel
theorem dX12_join_26 : decode cX12_join 26 = .ok (.ifCond .ne 10, 3) := by decide +kernel
theorem dX12_join_29 : decode cX12_join 29 = .ok (.aload_n 0, 1) := by decide +kernel
theorem dX12_join_30 : decode cX12_join 30 = .ok (.getfield 448, 3) := by decide +kernel
theorem dX12_join_33 : decode cX12_join 33 = .ok (.goto 7, 3) := by decide +kernel
theorem dX12_join_36 : decode cX12_join 36 = .ok (.aload_n 0, 1) := by decide +kernel
theorem dX12_join_37 : decode cX12_join 37 = .ok (.getfield 445, 3) := by decide +kernel
theorem dX12_join_40 : decode cX12_join 40 = .ok (.ireturn, 1) := by decide +kernel
theorem dX12_joined_0 : decode cX12_joined 0 = .ok (.aload_n 0, 1) := by decide +kernel
theorem dX12_joined_1 : decode cX12_joined 1 = .ok (.iload_n 1, 1) := by decide +kernel
theorem dX12_joined_2 : decode cX12_joined 2 = .ok (.invokevirtual 451, 3) := by decide +kernel
theorem dX12_joined_5 : decode cX12_joined 5 = .ok (.ifCond .eq 40, 3) := by decide +kernel
theorem dX12_joined_8 : decode cX12_joined 8 = .ok (.aload_n 0, 1) := by decide +kernel
theorem dX12_joined_9 : decode cX12_joined 9 = .ok (.iload_n 2, 1) := by decide +kernel
theorem dX12_joined_10 : decode cX12_joined 10 = .ok (.invokevirtual 231, 3) := by decide +kernel
theorem dX12_joined_13 : decode cX12_joined 13 = .ok (.ifCond .eq 32, 3) := by decide +kernel
theorem dX12_joined_16 : decode cX12_joined 16 = .ok (.aload_n 0, 1) := by decide +kernel
theorem dX12_joined_17 : decode cX12_joined 17 = .ok (.iload_n 3, 1) := by decide +kernel
theorem dX12_joined_18 : decode cX12_joined 18 = .ok (.invokevirtual 231, 3) := by decide +kernel
theorem dX12_joined_21 : decode cX12_joined 21 = .ok (.ifCond .eq 24, 3) := by decide +kernel
theorem dX12_joined_24 : decode cX12_joined 24 = .ok (.iload_n 2, 1) := by decide +kernel
theorem dX12_joined_25 : decode cX12_joined 25 = .ok (.iload_n 3, 1) := by decide +kernel
theorem dX12_joined_26 : decode cX12_joined 26 = .ok (.if_icmp .eq 19, 3) := by decide +kernel
theorem dX12_joined_29 : decode cX12_joined 29 = .ok (.iload_n 1, 1) := by decide +kernel
theorem dX12_joined_30 : decode cX12_joined 30 = .ok (.iload_n 2, 1) := by decide +kernel
theorem dX12_joined_31 : decode cX12_joined 31 = .ok (.ishr, 1) := by decide +kernel
theorem dX12_joined_32 : decode cX12_joined 32 = .ok (.iconst 1, 1) := by decide +kernel
theorem dX12_joined_33 : decode cX12_joined 33 = .ok (.iand, 1) := by decide +kernel
theorem dX12_joined_34 : decode cX12_joined 34 = .ok (.ifCond .eq 11, 3) := by decide +kernel
theorem dX12_joined_37 : decode cX12_joined 37 = .ok (.iload_n 1, 1) := by decide +kernel
theorem dX12_joined_38 : decode cX12_joined 38 = .ok (.iload_n 3, 1) := by decide +kernel
theorem dX12_joined_39 : decode cX12_joined 39 = .ok (.ishr, 1) := by decide +kernel
theorem dX12_joined_40 : decode cX12_joined 40 = .ok (.iconst 1, 1) := by decide +kernel
theorem dX12_joined_41 : decode cX12_joined 41 = .ok (.iand, 1) := by decide +kernel
theorem dX12_joined_42 : decode cX12_joined 42 = .ok (.ifCond .ne 5, 3) := by decide +kernel
theorem dX12_joined_45 : decode cX12_joined 45 = .ok (.iconst (-1), 1) := by decide +kernel
theorem dX12_joined_46 : decode cX12_joined 46 = .ok (.ireturn, 1) := by decide +kernel
theorem dX12_joined_47 : decode cX12_joined 47 = .ok (.aload_n 0, 1) := by decide +kernel
theorem dX12_joined_48 : decode cX12_joined 48 = .ok (.invokevirtual 454, 3) := by decide +kernel
theorem dX12_joined_51 : decode cX12_joined 51 = .ok (.iconst 0, 1) := by decide +kernel
theorem dX12_joined_52 : decode cX12_joined 52 = .ok (.istore 4, 2) := by decide +kernel
theorem dX12_joined_54 : decode cX12_joined 54 = .ok (.iconst 0, 1) := by decide +kernel
theorem dX12_joined_55 : decode cX12_joined 55 = .ok (.istore 5, 2) := by decide +kernel
theorem dX12_joined_57 : decode cX12_joined 57 = .ok (.aload_n 0, 1) := by decide +kernel
theorem dX12_joined_58 : decode cX12_joined 58 = .ok (.getfield 141, 3) := by decide +kernel
theorem dX12_joined_61 : decode cX12_joined 61 = .ok (.iload 4, 2) := by decide +kernel
theorem dX12_joined_63 : decode cX12_joined 63 = .ok (.iaload, 1) := by decide +kernel
theorem dX12_joined_64 : decode cX12_joined 64 = .ok (.iload_n 2, 1) := by decide +kernel
theorem dX12_joined_65 : decode cX12_joined 65 = .ok (.if_icmp .eq 9, 3) := by decide +kernel
theorem dX12_joined_68 : decode cX12_joined 68 = .ok (.iinc 4 1, 3) := by decide +kernel
theorem dX12_joined_71 : decode cX12_joined 71 = .ok (.goto (-14), 3) := by decide +kernel
theorem dX12_joined_74 : decode cX12_joined 74 = .ok (.aload_n 0, 1) := by decide +kernel
theorem dX12_joined_75 : decode cX12_joined 75 = .ok (.getfield 141, 3) := by decide +kernel
theorem dX12_joined_78 : decode cX12_joined 78 = .ok (.iload 5, 2) := by decide +kernel
theorem dX12_joined_80 : decode cX12_joined 80 = .ok (.iaload, 1) := by decide +kernel
theorem dX12_joined_81 : decode cX12_joined 81 = .ok (.iload_n 3, 1) := by decide +kernel
theorem dX12_joined_82 : decode cX12_joined 82 = .ok (.if_icmp .eq 9, 3) := by decide +kernel
theorem dX12_joined_85 : decode cX12_joined 85 = .ok (.iinc 5 1, 3) := by decide +kernel
theorem dX12_joined_88 : decode cX12_joined 88 = .ok (.goto (-14), 3) := by decide +kernel
theorem dX12_joined_91 : decode cX12_joined 91 = .ok (.aload_n 0, 1) := by decide +kernel
theorem dX12_joined_92 : decode cX12_joined 92 = .ok (.getfield 147, 3) := by decide +kernel
theorem dX12_joined_95 : decode cX12_joined 95 = .ok (.bipush 8, 2) := by decide +kernel
theorem dX12_joined_97 : decode cX12_joined 97 = .ok (.iload 4, 2) := by decide +kernel
theorem dX12_joined_99 : decode cX12_joined 99 = .ok (.imul, 1) := by decide +kernel
theorem dX12_joined_100 : decode cX12_joined 100 = .ok (.iload 5, 2) := by decide +kernel
theorem dX12_joined_102 : decode cX12_joined 102 = .ok (.iadd, 1) := by decide +kernel
theorem dX12_joined_103 : decode cX12_joined 103 = .ok (.iaload, 1) := by decide +kernel
theorem dX12_joined_104 : decode cX12_joined 104 = .ok (.istore 6, 2) := by decide +kernel
theorem dX12_joined_106 : decode cX12_joined 106 = .ok (.iload 6, 2) := by decide +kernel
theorem dX12_joined_108 : decode cX12_joined 108 = .ok (.aload_n 0, 1) := by decide +kernel
theorem dX12_joined_109 : decode cX12_joined 109 = .ok (.getfield 445, 3) := by decide +kernel
theorem dX12_joined_112 : decode cX12_joined 112 = .ok (.if_icmp .ne 7, 3) := by decide +kernel
theorem dX12_joined_115 : decode cX12_joined 115 = .ok (.iconst 2, 1) := by decide +kernel
theorem dX12_joined_116 : decode cX12_joined 116 = .ok (.goto 13, 3) := by decide +kernel
theorem dX12_joined_119 : decode cX12_joined 119 = .ok (.iload 6, 2) := by decide +kernel
theorem dX12_joined_121 : decode cX12_joined 121 = .ok (.ifCond .le 7, 3) := by decide +kernel
theorem dX12_joined_124 : decode cX12_joined 124 = .ok (.iconst 1, 1) := by decide +kernel
theorem dX12_joined_125 : decode cX12_joined 125 = .ok (.goto 4, 3) := by decide +kernel
theorem dX12_joined_128 : decode cX12_joined 128 = .ok (.iconst 0, 1) := by decide +kernel
theorem dX12_joined_129 : decode cX12_joined 129 = .ok (.ireturn, 1) := by decide +kernel
theorem dX12_common_0 : decode cX12_common 0 = .ok (.lload_n 0, 1) := by decide +kernel
theorem dX12_common_1 : decode cX12_common 1 = .ok (.lstore 4, 2) := by decide +kernel
theorem dX12_common_3 : decode cX12_common 3 = .ok (.lload_n 2, 1) := by decide +kernel
theorem dX12_common_4 : decode cX12_common 4 = .ok (.lstore 6, 2) := by decide +kernel
theorem dX12_common_6 : decode cX12_common 6 = .ok (.lload 6, 2) := by decide +kernel
theorem dX12_common_8 : decode cX12_common 8 = .ok (.lconst 0, 1) := by decide +kernel
theorem dX12_common_9 : decode cX12_common 9 = .ok (.lcmp, 1) := by decide +kernel
theorem dX12_common_10 : decode cX12_common 10 = .ok (.ifCond .eq 21, 3) := by decide +kernel
theorem dX12_common_13 : decode cX12_common 13 = .ok (.lload 4, 2) := by decide +kernel
theorem dX12_common_15 : decode cX12_common 15 = .ok (.lload 6, 2) := by decide +kernel
theorem dX12_common_17 : decode cX12_common 17 = .ok (.lrem, 1) := by decide +kernel
theorem dX12_common_18 : decode cX12_common 18 = .ok (.lstore 8, 2) := by decide +kernel
theorem dX12_common_20 : decode cX12_common 20 = .ok (.lload 6, 2) := by decide +kernel
theorem dX12_common_22 : decode cX12_common 22 = .ok (.lstore 4, 2) := by decide +kernel
theorem dX12_common_24 : decode cX12_common 24 = .ok (.lload 8, 2) := by decide +kernel
theorem dX12_common_26 : decode cX12_common 26 = .ok (.lstore 6, 2) := by decide +kernel
theorem dX12_common_28 : decode cX12_common 28 = .ok (.goto (-22), 3) := by decide +kernel
theorem dX12_common_31 : decode cX12_common 31 = .ok (.lload 4, 2) := by decide +kernel
theorem dX12_common_33 : decode cX12_common 33 = .ok (.lreturn, 1) := by decide +kernel
theorem dX12_linesOf_0 : decode cX12_linesOf 0 = .ok (.iconst 0, 1) := by decide +kernel
theorem dX12_linesOf_1 : decode cX12_linesOf 1 = .ok (.istore_n 2, 1) := by decide +kernel
theorem dX12_linesOf_2 : decode cX12_linesOf 2 = .ok (.iload_n 1, 1) := by decide +kernel
theorem dX12_linesOf_3 : decode cX12_linesOf 3 = .ok (.iconst 1, 1) := by decide +kernel
theorem dX12_linesOf_4 : decode cX12_linesOf 4 = .ok (.iadd, 1) := by decide +kernel
theorem dX12_linesOf_5 : decode cX12_linesOf 5 = .ok (.istore_n 3, 1) := by decide +kernel
theorem dX12_linesOf_6 : decode cX12_linesOf 6 = .ok (.iload_n 3, 1) := by decide +kernel
theorem dX12_linesOf_7 : decode cX12_linesOf 7 = .ok (.aload_n 0, 1) := by decide +kernel
theorem dX12_linesOf_8 : decode cX12_linesOf 8 = .ok (.getfield 207, 3) := by decide +kernel
theorem dX12_linesOf_11 : decode cX12_linesOf 11 = .ok (.if_icmp .ge 36, 3) := by decide +kernel
theorem dX12_linesOf_14 : decode cX12_linesOf 14 = .ok (.iload_n 2, 1) := by decide +kernel
theorem dX12_linesOf_15 : decode cX12_linesOf 15 = .ok (.aload_n 0, 1) := by decide +kernel
theorem dX12_linesOf_16 : decode cX12_linesOf 16 = .ok (.getfield 31, 3) := by decide +kernel
theorem dX12_linesOf_19 : decode cX12_linesOf 19 = .ok (.iload_n 3, 1) := by decide +kernel
theorem dX12_linesOf_20 : decode cX12_linesOf 20 = .ok (.iaload, 1) := by decide +kernel
theorem dX12_linesOf_21 : decode cX12_linesOf 21 = .ok (.iload_n 1, 1) := by decide +kernel
theorem dX12_linesOf_22 : decode cX12_linesOf 22 = .ok (.if_icmp .ne 16, 3) := by decide +kernel
theorem dX12_linesOf_25 : decode cX12_linesOf 25 = .ok (.aload_n 0, 1) := by decide +kernel
theorem dX12_linesOf_26 : decode cX12_linesOf 26 = .ok (.getfield 150, 3) := by decide +kernel
theorem dX12_linesOf_29 : decode cX12_linesOf 29 = .ok (.iload_n 3, 1) := by decide +kernel
theorem dX12_linesOf_30 : decode cX12_linesOf 30 = .ok (.baload, 1) := by decide +kernel
theorem dX12_linesOf_31 : decode cX12_linesOf 31 = .ok (.ifCond .eq 7, 3) := by decide +kernel
theorem dX12_linesOf_34 : decode cX12_linesOf 34 = .ok (.iconst 1, 1) := by decide +kernel
theorem dX12_linesOf_35 : decode cX12_linesOf 35 = .ok (.goto 4, 3) := by decide +kernel
theorem dX12_linesOf_38 : decode cX12_linesOf 38 = .ok (.iconst 0, 1) := by decide +kernel
theorem dX12_linesOf_39 : decode cX12_linesOf 39 = .ok (.iadd, 1) := by decide +kernel
theorem dX12_linesOf_40 : decode cX12_linesOf 40 = .ok (.istore_n 2, 1) := by decide +kernel
theorem dX12_linesOf_41 : decode cX12_linesOf 41 = .ok (.iinc 3 1, 3) := by decide +kernel
theorem dX12_linesOf_44 : decode cX12_linesOf 44 = .ok (.goto (-38), 3) := by decide +kernel
theorem dX12_linesOf_47 : decode cX12_linesOf 47 = .ok (.iload_n 2, 1) := by decide +kernel
theorem dX12_linesOf_48 : decode cX12_linesOf 48 = .ok (.ireturn, 1) := by decide +kernel
theorem dX12_shares_0 : decode cX12_shares 0 = .ok (.aload_n 0, 1) := by decide +kernel
theorem dX12_shares_1 : decode cX12_shares 1 = .ok (.getfield 207, 3) := by decide +kernel
theorem dX12_shares_4 : decode cX12_shares 4 = .ok (.iconst 1, 1) := by decide +kernel
theorem dX12_shares_5 : decode cX12_shares 5 = .ok (.isub, 1) := by decide +kernel
theorem dX12_shares_6 : decode cX12_shares 6 = .ok (.istore_n 2, 1) := by decide +kernel
theorem dX12_shares_7 : decode cX12_shares 7 = .ok (.iload_n 2, 1) := by decide +kernel
theorem dX12_shares_8 : decode cX12_shares 8 = .ok (.ifCond .lt 61, 3) := by decide +kernel
theorem dX12_shares_11 : decode cX12_shares 11 = .ok (.aload_n 0, 1) := by decide +kernel
theorem dX12_shares_12 : decode cX12_shares 12 = .ok (.getfield 150, 3) := by decide +kernel
theorem dX12_shares_15 : decode cX12_shares 15 = .ok (.iload_n 2, 1) := by decide +kernel
theorem dX12_shares_16 : decode cX12_shares 16 = .ok (.aload_n 0, 1) := by decide +kernel
theorem dX12_shares_17 : decode cX12_shares 17 = .ok (.getfield 34, 3) := by decide +kernel
theorem dX12_shares_20 : decode cX12_shares 20 = .ok (.iload_n 2, 1) := by decide +kernel
theorem dX12_shares_21 : decode cX12_shares 21 = .ok (.iaload, 1) := by decide +kernel
theorem dX12_shares_22 : decode cX12_shares 22 = .ok (.iconst (-1), 1) := by decide +kernel
theorem dX12_shares_23 : decode cX12_shares 23 = .ok (.if_icmp .eq 11, 3) := by decide +kernel
theorem dX12_shares_26 : decode cX12_shares 26 = .ok (.aload_n 0, 1) := by decide +kernel
theorem dX12_shares_27 : decode cX12_shares 27 = .ok (.iload_n 2, 1) := by decide +kernel
theorem dX12_shares_28 : decode cX12_shares 28 = .ok (.invokevirtual 457, 3) := by decide +kernel
theorem dX12_shares_31 : decode cX12_shares 31 = .ok (.ifCond .le 7, 3) := by decide +kernel
theorem dX12_shares_34 : decode cX12_shares 34 = .ok (.iconst 1, 1) := by decide +kernel
theorem dX12_shares_35 : decode cX12_shares 35 = .ok (.goto 4, 3) := by decide +kernel
theorem dX12_shares_38 : decode cX12_shares 38 = .ok (.iconst 0, 1) := by decide +kernel
theorem dX12_shares_39 : decode cX12_shares 39 = .ok (.bastore, 1) := by decide +kernel
theorem dX12_shares_40 : decode cX12_shares 40 = .ok (.aload_n 0, 1) := by decide +kernel
theorem dX12_shares_41 : decode cX12_shares 41 = .ok (.getfield 154, 3) := by decide +kernel
theorem dX12_shares_44 : decode cX12_shares 44 = .ok (.iload_n 2, 1) := by decide +kernel
theorem dX12_shares_45 : decode cX12_shares 45 = .ok (.iload_n 2, 1) := by decide +kernel
theorem dX12_shares_46 : decode cX12_shares 46 = .ok (.iload_n 1, 1) := by decide +kernel
theorem dX12_shares_47 : decode cX12_shares 47 = .ok (.if_icmp .ne 7, 3) := by decide +kernel
theorem dX12_shares_50 : decode cX12_shares 50 = .ok (.lconst 1, 1) := by decide +kernel
theorem dX12_shares_51 : decode cX12_shares 51 = .ok (.goto 4, 3) := by decide +kernel
theorem dX12_shares_54 : decode cX12_shares 54 = .ok (.lconst 0, 1) := by decide +kernel
theorem dX12_shares_55 : decode cX12_shares 55 = .ok (.lastore, 1) := by decide +kernel
theorem dX12_shares_56 : decode cX12_shares 56 = .ok (.aload_n 0, 1) := by decide +kernel
theorem dX12_shares_57 : decode cX12_shares 57 = .ok (.getfield 157, 3) := by decide +kernel
theorem dX12_shares_60 : decode cX12_shares 60 = .ok (.iload_n 2, 1) := by decide +kernel
theorem dX12_shares_61 : decode cX12_shares 61 = .ok (.lconst 1, 1) := by decide +kernel
theorem dX12_shares_62 : decode cX12_shares 62 = .ok (.lastore, 1) := by decide +kernel
theorem dX12_shares_63 : decode cX12_shares 63 = .ok (.iinc 2 (-1), 3) := by decide +kernel
theorem dX12_shares_66 : decode cX12_shares 66 = .ok (.goto (-59), 3) := by decide +kernel
theorem dX12_shares_69 : decode cX12_shares 69 = .ok (.iload_n 1, 1) := by decide +kernel
theorem dX12_shares_70 : decode cX12_shares 70 = .ok (.istore_n 2, 1) := by decide +kernel
theorem dX12_shares_71 : decode cX12_shares 71 = .ok (.iload_n 2, 1) := by decide +kernel
theorem dX12_shares_72 : decode cX12_shares 72 = .ok (.aload_n 0, 1) := by decide +kernel
theorem dX12_shares_73 : decode cX12_shares 73 = .ok (.getfield 207, 3) := by decide +kernel
theorem dX12_shares_76 : decode cX12_shares 76 = .ok (.if_icmp .ge 126, 3) := by decide +kernel
theorem dX12_shares_79 : decode cX12_shares 79 = .ok (.aload_n 0, 1) := by decide +kernel
theorem dX12_shares_80 : decode cX12_shares 80 = .ok (.getfield 154, 3) := by decide +kernel
theorem dX12_shares_83 : decode cX12_shares 83 = .ok (.iload_n 2, 1) := by decide +kernel
theorem dX12_shares_84 : decode cX12_shares 84 = .ok (.laload, 1) := by decide +kernel
theorem dX12_shares_85 : decode cX12_shares 85 = .ok (.lconst 0, 1) := by decide +kernel
theorem dX12_shares_86 : decode cX12_shares 86 = .ok (.lcmp, 1) := by decide +kernel
theorem dX12_shares_87 : decode cX12_shares 87 = .ok (.ifCond .eq 109, 3) := by decide +kernel
theorem dX12_shares_90 : decode cX12_shares 90 = .ok (.aload_n 0, 1) := by decide +kernel
theorem dX12_shares_91 : decode cX12_shares 91 = .ok (.getfield 34, 3) := by decide +kernel
theorem dX12_shares_94 : decode cX12_shares 94 = .ok (.iload_n 2, 1) := by decide +kernel
theorem dX12_shares_95 : decode cX12_shares 95 = .ok (.iaload, 1) := by decide +kernel
theorem dX12_shares_96 : decode cX12_shares 96 = .ok (.iconst (-1), 1) := by decide +kernel
theorem dX12_shares_97 : decode cX12_shares 97 = .ok (.if_icmp .ne 6, 3) := by decide +kernel
theorem dX12_shares_100 : decode cX12_shares 100 = .ok (.goto 96, 3) := by decide +kernel
theorem dX12_shares_103 : decode cX12_shares 103 = .ok (.aload_n 0, 1) := by decide +kernel
theorem dX12_shares_104 : decode cX12_shares 104 = .ok (.iload_n 2, 1) := by decide +kernel
theorem dX12_shares_105 : decode cX12_shares 105 = .ok (.invokevirtual 457, 3) := by decide +kernel
theorem dX12_shares_108 : decode cX12_shares 108 = .ok (.istore_n 3, 1) := by decide +kernel
theorem dX12_shares_109 : decode cX12_shares 109 = .ok (.iload_n 2, 1) := by decide +kernel
theorem dX12_shares_110 : decode cX12_shares 110 = .ok (.iconst 1, 1) := by decide +kernel
theorem dX12_shares_111 : decode cX12_shares 111 = .ok (.iadd, 1) := by decide +kernel
theorem dX12_shares_112 : decode cX12_shares 112 = .ok (.istore 4, 2) := by decide +kernel
theorem dX12_shares_114 : decode cX12_shares 114 = .ok (.iload 4, 2) := by decide +kernel
theorem dX12_shares_116 : decode cX12_shares 116 = .ok (.aload_n 0, 1) := by decide +kernel
theorem dX12_shares_117 : decode cX12_shares 117 = .ok (.getfield 207, 3) := by decide +kernel
theorem dX12_shares_120 : decode cX12_shares 120 = .ok (.if_icmp .ge 62, 3) := by decide +kernel
theorem dX12_shares_123 : decode cX12_shares 123 = .ok (.aload_n 0, 1) := by decide +kernel
theorem dX12_shares_124 : decode cX12_shares 124 = .ok (.getfield 31, 3) := by decide +kernel
theorem dX12_shares_127 : decode cX12_shares 127 = .ok (.iload 4, 2) := by decide +kernel
theorem dX12_shares_129 : decode cX12_shares 129 = .ok (.iaload, 1) := by decide +kernel
theorem dX12_shares_130 : decode cX12_shares 130 = .ok (.iload_n 2, 1) := by decide +kernel
theorem dX12_shares_131 : decode cX12_shares 131 = .ok (.if_icmp .ne 45, 3) := by decide +kernel
theorem dX12_shares_134 : decode cX12_shares 134 = .ok (.aload_n 0, 1) := by decide +kernel
theorem dX12_shares_135 : decode cX12_shares 135 = .ok (.getfield 150, 3) := by decide +kernel
theorem dX12_shares_138 : decode cX12_shares 138 = .ok (.iload 4, 2) := by decide +kernel
theorem dX12_shares_140 : decode cX12_shares 140 = .ok (.baload, 1) := by decide +kernel
theorem dX12_shares_141 : decode cX12_shares 141 = .ok (.ifCond .ne 6, 3) := by decide +kernel
theorem dX12_shares_144 : decode cX12_shares 144 = .ok (.goto 32, 3) := by decide +kernel
theorem dX12_shares_147 : decode cX12_shares 147 = .ok (.aload_n 0, 1) := by decide +kernel
theorem dX12_shares_148 : decode cX12_shares 148 = .ok (.getfield 154, 3) := by decide +kernel
theorem dX12_shares_151 : decode cX12_shares 151 = .ok (.iload 4, 2) := by decide +kernel
theorem dX12_shares_153 : decode cX12_shares 153 = .ok (.aload_n 0, 1) := by decide +kernel
theorem dX12_shares_154 : decode cX12_shares 154 = .ok (.getfield 154, 3) := by decide +kernel
theorem dX12_shares_157 : decode cX12_shares 157 = .ok (.iload_n 2, 1) := by decide +kernel
theorem dX12_shares_158 : decode cX12_shares 158 = .ok (.laload, 1) := by decide +kernel
theorem dX12_shares_159 : decode cX12_shares 159 = .ok (.lastore, 1) := by decide +kernel
theorem dX12_shares_160 : decode cX12_shares 160 = .ok (.aload_n 0, 1) := by decide +kernel
theorem dX12_shares_161 : decode cX12_shares 161 = .ok (.getfield 157, 3) := by decide +kernel
theorem dX12_shares_164 : decode cX12_shares 164 = .ok (.iload 4, 2) := by decide +kernel
theorem dX12_shares_166 : decode cX12_shares 166 = .ok (.aload_n 0, 1) := by decide +kernel
theorem dX12_shares_167 : decode cX12_shares 167 = .ok (.getfield 157, 3) := by decide +kernel
theorem dX12_shares_170 : decode cX12_shares 170 = .ok (.iload_n 2, 1) := by decide +kernel
theorem dX12_shares_171 : decode cX12_shares 171 = .ok (.laload, 1) := by decide +kernel
theorem dX12_shares_172 : decode cX12_shares 172 = .ok (.iload_n 3, 1) := by decide +kernel
theorem dX12_shares_173 : decode cX12_shares 173 = .ok (.i2l, 1) := by decide +kernel
theorem dX12_shares_174 : decode cX12_shares 174 = .ok (.lmul, 1) := by decide +kernel
theorem dX12_shares_175 : decode cX12_shares 175 = .ok (.lastore, 1) := by decide +kernel
theorem dX12_shares_176 : decode cX12_shares 176 = .ok (.iinc 4 1, 3) := by decide +kernel
theorem dX12_shares_179 : decode cX12_shares 179 = .ok (.goto (-65), 3) := by decide +kernel
theorem dX12_shares_182 : decode cX12_shares 182 = .ok (.aload_n 0, 1) := by decide +kernel
theorem dX12_shares_183 : decode cX12_shares 183 = .ok (.getfield 154, 3) := by decide +kernel
theorem dX12_shares_186 : decode cX12_shares 186 = .ok (.iload_n 2, 1) := by decide +kernel
theorem dX12_shares_187 : decode cX12_shares 187 = .ok (.lconst 0, 1) := by decide +kernel
theorem dX12_shares_188 : decode cX12_shares 188 = .ok (.lastore, 1) := by decide +kernel
theorem dX12_shares_189 : decode cX12_shares 189 = .ok (.aload_n 0, 1) := by decide +kernel
theorem dX12_shares_190 : decode cX12_shares 190 = .ok (.getfield 157, 3) := by decide +kernel
theorem dX12_shares_193 : decode cX12_shares 193 = .ok (.iload_n 2, 1) := by decide +kernel
theorem dX12_shares_194 : decode cX12_shares 194 = .ok (.lconst 1, 1) := by decide +kernel
theorem dX12_shares_195 : decode cX12_shares 195 = .ok (.lastore, 1) := by decide +kernel
theorem dX12_shares_196 : decode cX12_shares 196 = .ok (.iinc 2 1, 3) := by decide +kernel
theorem dX12_shares_199 : decode cX12_shares 199 = .ok (.goto (-128), 3) := by decide +kernel
theorem dX12_shares_202 : decode cX12_shares 202 = .ok (.return_, 1) := by decide +kernel
theorem dX12_heirsOf_0 : decode cX12_heirsOf 0 = .ok (.aload_n 0, 1) := by decide +kernel
theorem dX12_heirsOf_1 : decode cX12_heirsOf 1 = .ok (.iload_n 1, 1) := by decide +kernel
theorem dX12_heirsOf_2 : decode cX12_heirsOf 2 = .ok (.invokevirtual 460, 3) := by decide +kernel
theorem dX12_heirsOf_5 : decode cX12_heirsOf 5 = .ok (.iconst 0, 1) := by decide +kernel
theorem dX12_heirsOf_6 : decode cX12_heirsOf 6 = .ok (.istore_n 2, 1) := by decide +kernel
theorem dX12_heirsOf_7 : decode cX12_heirsOf 7 = .ok (.iconst 0, 1) := by decide +kernel
theorem dX12_heirsOf_8 : decode cX12_heirsOf 8 = .ok (.istore_n 3, 1) := by decide +kernel
theorem dX12_heirsOf_9 : decode cX12_heirsOf 9 = .ok (.iload_n 3, 1) := by decide +kernel
theorem dX12_heirsOf_10 : decode cX12_heirsOf 10 = .ok (.aload_n 0, 1) := by decide +kernel
theorem dX12_heirsOf_11 : decode cX12_heirsOf 11 = .ok (.getfield 207, 3) := by decide +kernel
theorem dX12_heirsOf_14 : decode cX12_heirsOf 14 = .ok (.if_icmp .ge 28, 3) := by decide +kernel
theorem dX12_heirsOf_17 : decode cX12_heirsOf 17 = .ok (.iload_n 2, 1) := by decide +kernel
theorem dX12_heirsOf_18 : decode cX12_heirsOf 18 = .ok (.aload_n 0, 1) := by decide +kernel
theorem dX12_heirsOf_19 : decode cX12_heirsOf 19 = .ok (.getfield 154, 3) := by decide +kernel
theorem dX12_heirsOf_22 : decode cX12_heirsOf 22 = .ok (.iload_n 3, 1) := by decide +kernel
theorem dX12_heirsOf_23 : decode cX12_heirsOf 23 = .ok (.laload, 1) := by decide +kernel
theorem dX12_heirsOf_24 : decode cX12_heirsOf 24 = .ok (.lconst 0, 1) := by decide +kernel
theorem dX12_heirsOf_25 : decode cX12_heirsOf 25 = .ok (.lcmp, 1) := by decide +kernel
theorem dX12_heirsOf_26 : decode cX12_heirsOf 26 = .ok (.ifCond .le 7, 3) := by decide +kernel
theorem dX12_heirsOf_29 : decode cX12_heirsOf 29 = .ok (.iconst 1, 1) := by decide +kernel
theorem dX12_heirsOf_30 : decode cX12_heirsOf 30 = .ok (.goto 4, 3) := by decide +kernel
theorem dX12_heirsOf_33 : decode cX12_heirsOf 33 = .ok (.iconst 0, 1) := by decide +kernel
theorem dX12_heirsOf_34 : decode cX12_heirsOf 34 = .ok (.iadd, 1) := by decide +kernel
theorem dX12_heirsOf_35 : decode cX12_heirsOf 35 = .ok (.istore_n 2, 1) := by decide +kernel
theorem dX12_heirsOf_36 : decode cX12_heirsOf 36 = .ok (.iinc 3 1, 3) := by decide +kernel
theorem dX12_heirsOf_39 : decode cX12_heirsOf 39 = .ok (.goto (-30), 3) := by decide +kernel
theorem dX12_heirsOf_42 : decode cX12_heirsOf 42 = .ok (.iload_n 2, 1) := by decide +kernel
theorem dX12_heirsOf_43 : decode cX12_heirsOf 43 = .ok (.ireturn, 1) := by decide +kernel
theorem dX12_heirs_0 : decode cX12_heirs 0 = .ok (.aload_n 0, 1) := by decide +kernel
theorem dX12_heirs_1 : decode cX12_heirs 1 = .ok (.iload_n 1, 1) := by decide +kernel
theorem dX12_heirs_2 : decode cX12_heirs 2 = .ok (.invokevirtual 231, 3) := by decide +kernel
theorem dX12_heirs_5 : decode cX12_heirs 5 = .ok (.ifCond .eq 21, 3) := by decide +kernel
theorem dX12_heirs_8 : decode cX12_heirs 8 = .ok (.aload_n 0, 1) := by decide +kernel
theorem dX12_heirs_9 : decode cX12_heirs 9 = .ok (.getfield 34, 3) := by decide +kernel
theorem dX12_heirs_12 : decode cX12_heirs 12 = .ok (.iload_n 1, 1) := by decide +kernel
theorem dX12_heirs_13 : decode cX12_heirs 13 = .ok (.iaload, 1) := by decide +kernel
theorem dX12_heirs_14 : decode cX12_heirs 14 = .ok (.iconst (-1), 1) := by decide +kernel
theorem dX12_heirs_15 : decode cX12_heirs 15 = .ok (.if_icmp .eq 11, 3) := by decide +kernel
theorem dX12_heirs_18 : decode cX12_heirs 18 = .ok (.aload_n 0, 1) := by decide +kernel
theorem dX12_heirs_19 : decode cX12_heirs 19 = .ok (.iload_n 1, 1) := by decide +kernel
theorem dX12_heirs_20 : decode cX12_heirs 20 = .ok (.invokevirtual 463, 3) := by decide +kernel
theorem dX12_heirs_23 : decode cX12_heirs 23 = .ok (.goto 4, 3) := by decide +kernel
theorem dX12_heirs_26 : decode cX12_heirs 26 = .ok (.iconst (-1), 1) := by decide +kernel
theorem dX12_heirs_27 : decode cX12_heirs 27 = .ok (.ireturn, 1) := by decide +kernel
theorem dX12_share_0 : decode cX12_share 0 = .ok (.aload_n 0, 1) := by decide +kernel
theorem dX12_share_1 : decode cX12_share 1 = .ok (.iload_n 1, 1) := by decide +kernel
theorem dX12_share_2 : decode cX12_share 2 = .ok (.invokevirtual 231, 3) := by decide +kernel
theorem dX12_share_5 : decode cX12_share 5 = .ok (.ifCond .eq 30, 3) := by decide +kernel
theorem dX12_share_8 : decode cX12_share 8 = .ok (.aload_n 0, 1) := by decide +kernel
theorem dX12_share_9 : decode cX12_share 9 = .ok (.getfield 34, 3) := by decide +kernel
theorem dX12_share_12 : decode cX12_share 12 = .ok (.iload_n 1, 1) := by decide +kernel
theorem dX12_share_13 : decode cX12_share 13 = .ok (.iaload, 1) := by decide +kernel
theorem dX12_share_14 : decode cX12_share 14 = .ok (.iconst (-1), 1) := by decide +kernel
theorem dX12_share_15 : decode cX12_share 15 = .ok (.if_icmp .eq 20, 3) := by decide +kernel
theorem dX12_share_18 : decode cX12_share 18 = .ok (.aload_n 0, 1) := by decide +kernel
theorem dX12_share_19 : decode cX12_share 19 = .ok (.iload_n 2, 1) := by decide +kernel
theorem dX12_share_20 : decode cX12_share 20 = .ok (.invokevirtual 231, 3) := by decide +kernel
theorem dX12_share_23 : decode cX12_share 23 = .ok (.ifCond .eq 12, 3) := by decide +kernel
theorem dX12_share_26 : decode cX12_share 26 = .ok (.iload_n 3, 1) := by decide +kernel
theorem dX12_share_27 : decode cX12_share 27 = .ok (.iconst 0, 1) := by decide +kernel
theorem dX12_share_28 : decode cX12_share 28 = .ok (.iconst 1, 1) := by decide +kernel
theorem dX12_share_29 : decode cX12_share 29 = .ok (.invokestatic 200, 3) := by decide +kernel
theorem dX12_share_32 : decode cX12_share 32 = .ok (.ifCond .ne 7, 3) := by decide +kernel
theorem dX12_share_35 : decode cX12_share 35 = .ok (.ldc2_w 257, 3) := by decide +kernel
theorem dX12_share_38 : decode cX12_share 38 = .ok (.lreturn, 1) := by decide +kernel
theorem dX12_share_39 : decode cX12_share 39 = .ok (.aload_n 0, 1) := by decide +kernel
theorem dX12_share_40 : decode cX12_share 40 = .ok (.iload_n 1, 1) := by decide +kernel
theorem dX12_share_41 : decode cX12_share 41 = .ok (.invokevirtual 460, 3) := by decide +kernel
theorem dX12_share_44 : decode cX12_share 44 = .ok (.aload_n 0, 1) := by decide +kernel
theorem dX12_share_45 : decode cX12_share 45 = .ok (.getfield 154, 3) := by decide +kernel
theorem dX12_share_48 : decode cX12_share 48 = .ok (.iload_n 2, 1) := by decide +kernel
theorem dX12_share_49 : decode cX12_share 49 = .ok (.laload, 1) := by decide +kernel
theorem dX12_share_50 : decode cX12_share 50 = .ok (.aload_n 0, 1) := by decide +kernel
theorem dX12_share_51 : decode cX12_share 51 = .ok (.getfield 157, 3) := by decide +kernel
theorem dX12_share_54 : decode cX12_share 54 = .ok (.iload_n 2, 1) := by decide +kernel
theorem dX12_share_55 : decode cX12_share 55 = .ok (.laload, 1) := by decide +kernel
theorem dX12_share_56 : decode cX12_share 56 = .ok (.invokestatic 466, 3) := by decide +kernel
theorem dX12_share_59 : decode cX12_share 59 = .ok (.lstore 4, 2) := by decide +kernel
theorem dX12_share_61 : decode cX12_share 61 = .ok (.iload_n 3, 1) := by decide +kernel
theorem dX12_share_62 : decode cX12_share 62 = .ok (.ifCond .ne 15, 3) := by decide +kernel
theorem dX12_share_65 : decode cX12_share 65 = .ok (.aload_n 0, 1) := by decide +kernel
theorem dX12_share_66 : decode cX12_share 66 = .ok (.getfield 154, 3) := by decide +kernel
theorem dX12_share_69 : decode cX12_share 69 = .ok (.iload_n 2, 1) := by decide +kernel
theorem dX12_share_70 : decode cX12_share 70 = .ok (.laload, 1) := by decide +kernel
theorem dX12_share_71 : decode cX12_share 71 = .ok (.lload 4, 2) := by decide +kernel
theorem dX12_share_73 : decode cX12_share 73 = .ok (.ldiv, 1) := by decide +kernel
theorem dX12_share_74 : decode cX12_share 74 = .ok (.goto 12, 3) := by decide +kernel
theorem dX12_share_77 : decode cX12_share 77 = .ok (.aload_n 0, 1) := by decide +kernel
theorem dX12_share_78 : decode cX12_share 78 = .ok (.getfield 157, 3) := by decide +kernel
theorem dX12_share_81 : decode cX12_share 81 = .ok (.iload_n 2, 1) := by decide +kernel
theorem dX12_share_82 : decode cX12_share 82 = .ok (.laload, 1) := by decide +kernel
theorem dX12_share_83 : decode cX12_share 83 = .ok (.lload 4, 2) := by decide +kernel
theorem dX12_share_85 : decode cX12_share 85 = .ok (.ldiv, 1) := by decide +kernel
theorem dX12_share_86 : decode cX12_share 86 = .ok (.lreturn, 1) := by decide +kernel
theorem dX12_claim_0 : decode cX12_claim 0 = .ok (.aload_n 0, 1) := by decide +kernel
theorem dX12_claim_1 : decode cX12_claim 1 = .ok (.iload_n 1, 1) := by decide +kernel
theorem dX12_claim_2 : decode cX12_claim 2 = .ok (.invokevirtual 231, 3) := by decide +kernel
theorem dX12_claim_5 : decode cX12_claim 5 = .ok (.ifCond .eq 41, 3) := by decide +kernel
theorem dX12_claim_8 : decode cX12_claim 8 = .ok (.aload_n 0, 1) := by decide +kernel
theorem dX12_claim_9 : decode cX12_claim 9 = .ok (.iload_n 2, 1) := by decide +kernel
theorem dX12_claim_10 : decode cX12_claim 10 = .ok (.invokevirtual 414, 3) := by decide +kernel
theorem dX12_claim_13 : decode cX12_claim 13 = .ok (.ifCond .eq 33, 3) := by decide +kernel
theorem dX12_claim_16 : decode cX12_claim 16 = .ok (.iload_n 3, 1) := by decide +kernel
theorem dX12_claim_17 : decode cX12_claim 17 = .ok (.iconst 0, 1) := by decide +kernel
theorem dX12_claim_18 : decode cX12_claim 18 = .ok (.bipush 99, 2) := by decide +kernel
theorem dX12_claim_20 : decode cX12_claim 20 = .ok (.invokestatic 200, 3) := by decide +kernel
theorem dX12_claim_23 : decode cX12_claim 23 = .ok (.ifCond .eq 23, 3) := by decide +kernel
theorem dX12_claim_26 : decode cX12_claim 26 = .ok (.iload 4, 2) := by decide +kernel
theorem dX12_claim_28 : decode cX12_claim 28 = .ok (.iconst 0, 1) := by decide +kernel
theorem dX12_claim_29 : decode cX12_claim 29 = .ok (.bipush 100, 2) := by decide +kernel
theorem dX12_claim_31 : decode cX12_claim 31 = .ok (.invokestatic 200, 3) := by decide +kernel
theorem dX12_claim_34 : decode cX12_claim 34 = .ok (.ifCond .eq 12, 3) := by decide +kernel
theorem dX12_claim_37 : decode cX12_claim 37 = .ok (.aload_n 0, 1) := by decide +kernel
theorem dX12_claim_38 : decode cX12_claim 38 = .ok (.getfield 411, 3) := by decide +kernel
theorem dX12_claim_41 : decode cX12_claim 41 = .ok (.bipush 60, 2) := by decide +kernel
theorem dX12_claim_43 : decode cX12_claim 43 = .ok (.if_icmp .ne 5, 3) := by decide +kernel
theorem dX12_claim_46 : decode cX12_claim 46 = .ok (.iconst (-1), 1) := by decide +kernel
theorem dX12_claim_47 : decode cX12_claim 47 = .ok (.ireturn, 1) := by decide +kernel
theorem dX12_claim_48 : decode cX12_claim 48 = .ok (.aload_n 0, 1) := by decide +kernel
theorem dX12_claim_49 : decode cX12_claim 49 = .ok (.getfield 160, 3) := by decide +kernel
theorem dX12_claim_52 : decode cX12_claim 52 = .ok (.aload_n 0, 1) := by decide +kernel
theorem dX12_claim_53 : decode cX12_claim 53 = .ok (.getfield 411, 3) := by decide +kernel
theorem dX12_claim_56 : decode cX12_claim 56 = .ok (.iload_n 1, 1) := by decide +kernel
theorem dX12_claim_57 : decode cX12_claim 57 = .ok (.iastore, 1) := by decide +kernel
theorem dX12_claim_58 : decode cX12_claim 58 = .ok (.aload_n 0, 1) := by decide +kernel
theorem dX12_claim_59 : decode cX12_claim 59 = .ok (.getfield 163, 3) := by decide +kernel
theorem dX12_claim_62 : decode cX12_claim 62 = .ok (.aload_n 0, 1) := by decide +kernel
theorem dX12_claim_63 : decode cX12_claim 63 = .ok (.getfield 411, 3) := by decide +kernel
theorem dX12_claim_66 : decode cX12_claim 66 = .ok (.iload_n 2, 1) := by decide +kernel
theorem dX12_claim_67 : decode cX12_claim 67 = .ok (.iastore, 1) := by decide +kernel
theorem dX12_claim_68 : decode cX12_claim 68 = .ok (.aload_n 0, 1) := by decide +kernel
theorem dX12_claim_69 : decode cX12_claim 69 = .ok (.getfield 166, 3) := by decide +kernel
theorem dX12_claim_72 : decode cX12_claim 72 = .ok (.aload_n 0, 1) := by decide +kernel
theorem dX12_claim_73 : decode cX12_claim 73 = .ok (.getfield 411, 3) := by decide +kernel
theorem dX12_claim_76 : decode cX12_claim 76 = .ok (.iload_n 3, 1) := by decide +kernel
theorem dX12_claim_77 : decode cX12_claim 77 = .ok (.iastore, 1) := by decide +kernel
theorem dX12_claim_78 : decode cX12_claim 78 = .ok (.aload_n 0, 1) := by decide +kernel
theorem dX12_claim_79 : decode cX12_claim 79 = .ok (.getfield 169, 3) := by decide +kernel
theorem dX12_claim_82 : decode cX12_claim 82 = .ok (.aload_n 0, 1) := by decide +kernel
theorem dX12_claim_83 : decode cX12_claim 83 = .ok (.getfield 411, 3) := by decide +kernel
theorem dX12_claim_86 : decode cX12_claim 86 = .ok (.iload 4, 2) := by decide +kernel
theorem dX12_claim_88 : decode cX12_claim 88 = .ok (.iastore, 1) := by decide +kernel
theorem dX12_claim_89 : decode cX12_claim 89 = .ok (.aload_n 0, 1) := by decide +kernel
theorem dX12_claim_90 : decode cX12_claim 90 = .ok (.dup, 1) := by decide +kernel
theorem dX12_claim_91 : decode cX12_claim 91 = .ok (.getfield 411, 3) := by decide +kernel
theorem dX12_claim_94 : decode cX12_claim 94 = .ok (.iconst 1, 1) := by decide +kernel
theorem dX12_claim_95 : decode cX12_claim 95 = .ok (.iadd, 1) := by decide +kernel
theorem dX12_claim_96 : decode cX12_claim 96 = .ok (.putfield 411, 3) := by decide +kernel
theorem dX12_claim_99 : decode cX12_claim 99 = .ok (.aload_n 0, 1) := by decide +kernel
theorem dX12_claim_100 : decode cX12_claim 100 = .ok (.getfield 411, 3) := by decide +kernel
theorem dX12_claim_103 : decode cX12_claim 103 = .ok (.iconst 1, 1) := by decide +kernel
theorem dX12_claim_104 : decode cX12_claim 104 = .ok (.isub, 1) := by decide +kernel
theorem dX12_claim_105 : decode cX12_claim 105 = .ok (.ireturn, 1) := by decide +kernel
theorem dX12_asked_0 : decode cX12_asked 0 = .ok (.aload_n 0, 1) := by decide +kernel
theorem dX12_asked_1 : decode cX12_asked 1 = .ok (.getfield 128, 3) := by decide +kernel
theorem dX12_asked_4 : decode cX12_asked 4 = .ok (.iload_n 1, 1) := by decide +kernel
theorem dX12_asked_5 : decode cX12_asked 5 = .ok (.iaload, 1) := by decide +kernel
theorem dX12_asked_6 : decode cX12_asked 6 = .ok (.istore_n 2, 1) := by decide +kernel
theorem dX12_asked_7 : decode cX12_asked 7 = .ok (.aload_n 0, 1) := by decide +kernel
theorem dX12_asked_8 : decode cX12_asked 8 = .ok (.getfield 125, 3) := by decide +kernel
theorem dX12_asked_11 : decode cX12_asked 11 = .ok (.iconst 1, 1) := by decide +kernel
theorem dX12_asked_12 : decode cX12_asked 12 = .ok (.aload_n 0, 1) := by decide +kernel
theorem dX12_asked_13 : decode cX12_asked 13 = .ok (.getfield 137, 3) := by decide +kernel
theorem dX12_asked_16 : decode cX12_asked 16 = .ok (.iload_n 1, 1) := by decide +kernel
theorem dX12_asked_17 : decode cX12_asked 17 = .ok (.laload, 1) := by decide +kernel
theorem dX12_asked_18 : decode cX12_asked 18 = .ok (.ldc2_w 470, 3) := by decide +kernel
theorem dX12_asked_21 : decode cX12_asked 21 = .ok (.lcmp, 1) := by decide +kernel
theorem dX12_asked_22 : decode cX12_asked 22 = .ok (.ifCond .le 9, 3) := by decide +kernel
theorem dX12_asked_25 : decode cX12_asked 25 = .ok (.ldc_w 472, 3) := by decide +kernel
theorem dX12_asked_28 : decode cX12_asked 28 = .ok (.goto 10, 3) := by decide +kernel
theorem dX12_asked_31 : decode cX12_asked 31 = .ok (.aload_n 0, 1) := by decide +kernel
theorem dX12_asked_32 : decode cX12_asked 32 = .ok (.getfield 137, 3) := by decide +kernel
theorem dX12_asked_35 : decode cX12_asked 35 = .ok (.iload_n 1, 1) := by decide +kernel
theorem dX12_asked_36 : decode cX12_asked 36 = .ok (.laload, 1) := by decide +kernel
theorem dX12_asked_37 : decode cX12_asked 37 = .ok (.l2i, 1) := by decide +kernel
theorem dX12_asked_38 : decode cX12_asked 38 = .ok (.iastore, 1) := by decide +kernel
theorem dX12_asked_39 : decode cX12_asked 39 = .ok (.aload_n 0, 1) := by decide +kernel
theorem dX12_asked_40 : decode cX12_asked 40 = .ok (.getfield 125, 3) := by decide +kernel
theorem dX12_asked_43 : decode cX12_asked 43 = .ok (.iconst 2, 1) := by decide +kernel
theorem dX12_asked_44 : decode cX12_asked 44 = .ok (.aload_n 0, 1) := by decide +kernel
theorem dX12_asked_45 : decode cX12_asked 45 = .ok (.getfield 197, 3) := by decide +kernel
theorem dX12_asked_48 : decode cX12_asked 48 = .ok (.aload_n 0, 1) := by decide +kernel
theorem dX12_asked_49 : decode cX12_asked 49 = .ok (.getfield 131, 3) := by decide +kernel
theorem dX12_asked_52 : decode cX12_asked 52 = .ok (.iload_n 1, 1) := by decide +kernel
theorem dX12_asked_53 : decode cX12_asked 53 = .ok (.iaload, 1) := by decide +kernel
theorem dX12_asked_54 : decode cX12_asked 54 = .ok (.isub, 1) := by decide +kernel
theorem dX12_asked_55 : decode cX12_asked 55 = .ok (.sipush 360, 3) := by decide +kernel
theorem dX12_asked_58 : decode cX12_asked 58 = .ok (.idiv, 1) := by decide +kernel
theorem dX12_asked_59 : decode cX12_asked 59 = .ok (.iastore, 1) := by decide +kernel
theorem dX12_asked_60 : decode cX12_asked 60 = .ok (.aload_n 0, 1) := by decide +kernel
theorem dX12_asked_61 : decode cX12_asked 61 = .ok (.getfield 125, 3) := by decide +kernel
theorem dX12_asked_64 : decode cX12_asked 64 = .ok (.iconst 3, 1) := by decide +kernel
theorem dX12_asked_65 : decode cX12_asked 65 = .ok (.aload_n 0, 1) := by decide +kernel
theorem dX12_asked_66 : decode cX12_asked 66 = .ok (.getfield 40, 3) := by decide +kernel
theorem dX12_asked_69 : decode cX12_asked 69 = .ok (.iload_n 1, 1) := by decide +kernel
theorem dX12_asked_70 : decode cX12_asked 70 = .ok (.iaload, 1) := by decide +kernel
theorem dX12_asked_71 : decode cX12_asked 71 = .ok (.iastore, 1) := by decide +kernel
theorem dX12_asked_72 : decode cX12_asked 72 = .ok (.aload_n 0, 1) := by decide +kernel
theorem dX12_asked_73 : decode cX12_asked 73 = .ok (.getfield 125, 3) := by decide +kernel
theorem dX12_asked_76 : decode cX12_asked 76 = .ok (.iconst 4, 1) := by decide +kernel
theorem dX12_asked_77 : decode cX12_asked 77 = .ok (.aload_n 0, 1) := by decide +kernel
theorem dX12_asked_78 : decode cX12_asked 78 = .ok (.getfield 34, 3) := by decide +kernel
theorem dX12_asked_81 : decode cX12_asked 81 = .ok (.aload_n 0, 1) := by decide +kernel
theorem dX12_asked_82 : decode cX12_asked 82 = .ok (.getfield 43, 3) := by decide +kernel
theorem dX12_asked_85 : decode cX12_asked 85 = .ok (.iload_n 1, 1) := by decide +kernel
theorem dX12_asked_86 : decode cX12_asked 86 = .ok (.iaload, 1) := by decide +kernel
theorem dX12_asked_87 : decode cX12_asked 87 = .ok (.iaload, 1) := by decide +kernel
theorem dX12_asked_88 : decode cX12_asked 88 = .ok (.iconst (-1), 1) := by decide +kernel
theorem dX12_asked_89 : decode cX12_asked 89 = .ok (.if_icmp .ne 7, 3) := by decide +kernel
theorem dX12_asked_92 : decode cX12_asked 92 = .ok (.iconst 0, 1) := by decide +kernel
theorem dX12_asked_93 : decode cX12_asked 93 = .ok (.goto 13, 3) := by decide +kernel
theorem dX12_asked_96 : decode cX12_asked 96 = .ok (.aload_n 0, 1) := by decide +kernel
theorem dX12_asked_97 : decode cX12_asked 97 = .ok (.aload_n 0, 1) := by decide +kernel
theorem dX12_asked_98 : decode cX12_asked 98 = .ok (.getfield 43, 3) := by decide +kernel
theorem dX12_asked_101 : decode cX12_asked 101 = .ok (.iload_n 1, 1) := by decide +kernel
theorem dX12_asked_102 : decode cX12_asked 102 = .ok (.iaload, 1) := by decide +kernel
theorem dX12_asked_103 : decode cX12_asked 103 = .ok (.invokevirtual 463, 3) := by decide +kernel
theorem dX12_asked_106 : decode cX12_asked 106 = .ok (.iastore, 1) := by decide +kernel
theorem dX12_asked_107 : decode cX12_asked 107 = .ok (.iconst 0, 1) := by decide +kernel
theorem dX12_asked_108 : decode cX12_asked 108 = .ok (.istore_n 3, 1) := by decide +kernel
theorem dX12_asked_109 : decode cX12_asked 109 = .ok (.iconst 0, 1) := by decide +kernel
theorem dX12_asked_110 : decode cX12_asked 110 = .ok (.istore 4, 2) := by decide +kernel
theorem dX12_asked_112 : decode cX12_asked 112 = .ok (.iload 4, 2) := by decide +kernel
theorem dX12_asked_114 : decode cX12_asked 114 = .ok (.aload_n 0, 1) := by decide +kernel
theorem dX12_asked_115 : decode cX12_asked 115 = .ok (.getfield 85, 3) := by decide +kernel
theorem dX12_asked_118 : decode cX12_asked 118 = .ok (.iload_n 2, 1) := by decide +kernel
theorem dX12_asked_119 : decode cX12_asked 119 = .ok (.iaload, 1) := by decide +kernel
theorem dX12_asked_120 : decode cX12_asked 120 = .ok (.if_icmp .ge 96, 3) := by decide +kernel
theorem dX12_asked_123 : decode cX12_asked 123 = .ok (.aload_n 0, 1) := by decide +kernel
theorem dX12_asked_124 : decode cX12_asked 124 = .ok (.getfield 91, 3) := by decide +kernel
theorem dX12_asked_127 : decode cX12_asked 127 = .ok (.bipush 24, 2) := by decide +kernel
theorem dX12_asked_129 : decode cX12_asked 129 = .ok (.iload_n 2, 1) := by decide +kernel
theorem dX12_asked_130 : decode cX12_asked 130 = .ok (.imul, 1) := by decide +kernel
theorem dX12_asked_131 : decode cX12_asked 131 = .ok (.iload 4, 2) := by decide +kernel
theorem dX12_asked_133 : decode cX12_asked 133 = .ok (.iadd, 1) := by decide +kernel
theorem dX12_asked_134 : decode cX12_asked 134 = .ok (.iaload, 1) := by decide +kernel
theorem dX12_asked_135 : decode cX12_asked 135 = .ok (.istore 5, 2) := by decide +kernel
theorem dX12_asked_137 : decode cX12_asked 137 = .ok (.aload_n 0, 1) := by decide +kernel
theorem dX12_asked_138 : decode cX12_asked 138 = .ok (.getfield 88, 3) := by decide +kernel
theorem dX12_asked_141 : decode cX12_asked 141 = .ok (.bipush 25, 2) := by decide +kernel
theorem dX12_asked_143 : decode cX12_asked 143 = .ok (.iload_n 2, 1) := by decide +kernel
theorem dX12_asked_144 : decode cX12_asked 144 = .ok (.imul, 1) := by decide +kernel
theorem dX12_asked_145 : decode cX12_asked 145 = .ok (.iload 4, 2) := by decide +kernel
theorem dX12_asked_147 : decode cX12_asked 147 = .ok (.iadd, 1) := by decide +kernel
theorem dX12_asked_148 : decode cX12_asked 148 = .ok (.iconst 1, 1) := by decide +kernel
theorem dX12_asked_149 : decode cX12_asked 149 = .ok (.iadd, 1) := by decide +kernel
theorem dX12_asked_150 : decode cX12_asked 150 = .ok (.iaload, 1) := by decide +kernel
theorem dX12_asked_151 : decode cX12_asked 151 = .ok (.istore 6, 2) := by decide +kernel
theorem dX12_asked_153 : decode cX12_asked 153 = .ok (.iload 5, 2) := by decide +kernel
theorem dX12_asked_155 : decode cX12_asked 155 = .ok (.iload 6, 2) := by decide +kernel
theorem dX12_asked_157 : decode cX12_asked 157 = .ok (.if_icmp .ge 19, 3) := by decide +kernel
theorem dX12_asked_160 : decode cX12_asked 160 = .ok (.aload_n 0, 1) := by decide +kernel
theorem dX12_asked_161 : decode cX12_asked 161 = .ok (.iload_n 2, 1) := by decide +kernel
theorem dX12_asked_162 : decode cX12_asked 162 = .ok (.iload 5, 2) := by decide +kernel
theorem dX12_asked_164 : decode cX12_asked 164 = .ok (.iload 6, 2) := by decide +kernel
theorem dX12_asked_166 : decode cX12_asked 166 = .ok (.invokevirtual 473, 3) := by decide +kernel
theorem dX12_asked_169 : decode cX12_asked 169 = .ok (.iconst 1, 1) := by decide +kernel
theorem dX12_asked_170 : decode cX12_asked 170 = .ok (.if_icmp .eq 6, 3) := by decide +kernel
theorem dX12_asked_173 : decode cX12_asked 173 = .ok (.goto 37, 3) := by decide +kernel
theorem dX12_asked_176 : decode cX12_asked 176 = .ok (.aload_n 0, 1) := by decide +kernel
theorem dX12_asked_177 : decode cX12_asked 177 = .ok (.iload_n 2, 1) := by decide +kernel
theorem dX12_asked_178 : decode cX12_asked 178 = .ok (.aload_n 0, 1) := by decide +kernel
theorem dX12_asked_179 : decode cX12_asked 179 = .ok (.getfield 88, 3) := by decide +kernel
theorem dX12_asked_182 : decode cX12_asked 182 = .ok (.bipush 25, 2) := by decide +kernel
theorem dX12_asked_184 : decode cX12_asked 184 = .ok (.iload_n 2, 1) := by decide +kernel
theorem dX12_asked_185 : decode cX12_asked 185 = .ok (.imul, 1) := by decide +kernel
theorem dX12_asked_186 : decode cX12_asked 186 = .ok (.iload 4, 2) := by decide +kernel
theorem dX12_asked_188 : decode cX12_asked 188 = .ok (.iadd, 1) := by decide +kernel
theorem dX12_asked_189 : decode cX12_asked 189 = .ok (.iaload, 1) := by decide +kernel
theorem dX12_asked_190 : decode cX12_asked 190 = .ok (.iload 5, 2) := by decide +kernel
theorem dX12_asked_192 : decode cX12_asked 192 = .ok (.invokevirtual 473, 3) := by decide +kernel
theorem dX12_asked_195 : decode cX12_asked 195 = .ok (.istore 7, 2) := by decide +kernel
theorem dX12_asked_197 : decode cX12_asked 197 = .ok (.iload 7, 2) := by decide +kernel
theorem dX12_asked_199 : decode cX12_asked 199 = .ok (.iload_n 3, 1) := by decide +kernel
theorem dX12_asked_200 : decode cX12_asked 200 = .ok (.if_icmp .le 8, 3) := by decide +kernel
theorem dX12_asked_203 : decode cX12_asked 203 = .ok (.iload 7, 2) := by decide +kernel
theorem dX12_asked_205 : decode cX12_asked 205 = .ok (.goto 4, 3) := by decide +kernel
theorem dX12_asked_208 : decode cX12_asked 208 = .ok (.iload_n 3, 1) := by decide +kernel
theorem dX12_asked_209 : decode cX12_asked 209 = .ok (.istore_n 3, 1) := by decide +kernel
theorem dX12_asked_210 : decode cX12_asked 210 = .ok (.iinc 4 1, 3) := by decide +kernel
theorem dX12_asked_213 : decode cX12_asked 213 = .ok (.goto (-101), 3) := by decide +kernel
theorem dX12_asked_216 : decode cX12_asked 216 = .ok (.iload_n 3, 1) := by decide +kernel
theorem dX12_asked_217 : decode cX12_asked 217 = .ok (.ireturn, 1) := by decide +kernel
theorem dX12_isGood_0 : decode cX12_isGood 0 = .ok (.aload_n 0, 1) := by decide +kernel
theorem dX12_isGood_1 : decode cX12_isGood 1 = .ok (.getfield 163, 3) := by decide +kernel
theorem dX12_isGood_4 : decode cX12_isGood 4 = .ok (.iload_n 1, 1) := by decide +kernel
theorem dX12_isGood_5 : decode cX12_isGood 5 = .ok (.iaload, 1) := by decide +kernel
theorem dX12_isGood_6 : decode cX12_isGood 6 = .ok (.istore_n 2, 1) := by decide +kernel
theorem dX12_isGood_7 : decode cX12_isGood 7 = .ok (.aload_n 0, 1) := by decide +kernel
theorem dX12_isGood_8 : decode cX12_isGood 8 = .ok (.getfield 43, 3) := by decide +kernel
theorem dX12_isGood_11 : decode cX12_isGood 11 = .ok (.iload_n 2, 1) := by decide +kernel
theorem dX12_isGood_12 : decode cX12_isGood 12 = .ok (.iaload, 1) := by decide +kernel
theorem dX12_isGood_13 : decode cX12_isGood 13 = .ok (.istore_n 3, 1) := by decide +kernel
theorem dX12_isGood_14 : decode cX12_isGood 14 = .ok (.aload_n 0, 1) := by decide +kernel
theorem dX12_isGood_15 : decode cX12_isGood 15 = .ok (.getfield 166, 3) := by decide +kernel
theorem dX12_isGood_18 : decode cX12_isGood 18 = .ok (.iload_n 1, 1) := by decide +kernel
theorem dX12_isGood_19 : decode cX12_isGood 19 = .ok (.iaload, 1) := by decide +kernel
theorem dX12_isGood_20 : decode cX12_isGood 20 = .ok (.aload_n 0, 1) := by decide +kernel
theorem dX12_isGood_21 : decode cX12_isGood 21 = .ok (.iload_n 2, 1) := by decide +kernel
theorem dX12_isGood_22 : decode cX12_isGood 22 = .ok (.invokevirtual 476, 3) := by decide +kernel
theorem dX12_isGood_25 : decode cX12_isGood 25 = .ok (.if_icmp .ge 5, 3) := by decide +kernel
theorem dX12_isGood_28 : decode cX12_isGood 28 = .ok (.iconst 0, 1) := by decide +kernel
theorem dX12_isGood_29 : decode cX12_isGood 29 = .ok (.ireturn, 1) := by decide +kernel
theorem dX12_isGood_30 : decode cX12_isGood 30 = .ok (.aload_n 0, 1) := by decide +kernel
theorem dX12_isGood_31 : decode cX12_isGood 31 = .ok (.getfield 34, 3) := by decide +kernel
theorem dX12_isGood_34 : decode cX12_isGood 34 = .ok (.iload_n 3, 1) := by decide +kernel
theorem dX12_isGood_35 : decode cX12_isGood 35 = .ok (.iaload, 1) := by decide +kernel
theorem dX12_isGood_36 : decode cX12_isGood 36 = .ok (.iconst (-1), 1) := by decide +kernel
theorem dX12_isGood_37 : decode cX12_isGood 37 = .ok (.if_icmp .ne 19, 3) := by decide +kernel
theorem dX12_isGood_40 : decode cX12_isGood 40 = .ok (.aload_n 0, 1) := by decide +kernel
theorem dX12_isGood_41 : decode cX12_isGood 41 = .ok (.getfield 160, 3) := by decide +kernel
theorem dX12_isGood_44 : decode cX12_isGood 44 = .ok (.iload_n 1, 1) := by decide +kernel
theorem dX12_isGood_45 : decode cX12_isGood 45 = .ok (.iaload, 1) := by decide +kernel
theorem dX12_isGood_46 : decode cX12_isGood 46 = .ok (.iload_n 3, 1) := by decide +kernel
theorem dX12_isGood_47 : decode cX12_isGood 47 = .ok (.if_icmp .ne 7, 3) := by decide +kernel
theorem dX12_isGood_50 : decode cX12_isGood 50 = .ok (.iconst 1, 1) := by decide +kernel
theorem dX12_isGood_51 : decode cX12_isGood 51 = .ok (.goto 4, 3) := by decide +kernel
theorem dX12_isGood_54 : decode cX12_isGood 54 = .ok (.iconst 0, 1) := by decide +kernel
theorem dX12_isGood_55 : decode cX12_isGood 55 = .ok (.ireturn, 1) := by decide +kernel
theorem dX12_isGood_56 : decode cX12_isGood 56 = .ok (.aload_n 0, 1) := by decide +kernel
theorem dX12_isGood_57 : decode cX12_isGood 57 = .ok (.iload_n 3, 1) := by decide +kernel
theorem dX12_isGood_58 : decode cX12_isGood 58 = .ok (.invokevirtual 460, 3) := by decide +kernel
theorem dX12_isGood_61 : decode cX12_isGood 61 = .ok (.aload_n 0, 1) := by decide +kernel
theorem dX12_isGood_62 : decode cX12_isGood 62 = .ok (.getfield 154, 3) := by decide +kernel
theorem dX12_isGood_65 : decode cX12_isGood 65 = .ok (.aload_n 0, 1) := by decide +kernel
theorem dX12_isGood_66 : decode cX12_isGood 66 = .ok (.getfield 160, 3) := by decide +kernel
theorem dX12_isGood_69 : decode cX12_isGood 69 = .ok (.iload_n 1, 1) := by decide +kernel
theorem dX12_isGood_70 : decode cX12_isGood 70 = .ok (.iaload, 1) := by decide +kernel
theorem dX12_isGood_71 : decode cX12_isGood 71 = .ok (.laload, 1) := by decide +kernel
theorem dX12_isGood_72 : decode cX12_isGood 72 = .ok (.lconst 0, 1) := by decide +kernel
theorem dX12_isGood_73 : decode cX12_isGood 73 = .ok (.lcmp, 1) := by decide +kernel
theorem dX12_isGood_74 : decode cX12_isGood 74 = .ok (.ifCond .le 7, 3) := by decide +kernel
theorem dX12_isGood_77 : decode cX12_isGood 77 = .ok (.iconst 1, 1) := by decide +kernel
theorem dX12_isGood_78 : decode cX12_isGood 78 = .ok (.goto 4, 3) := by decide +kernel
theorem dX12_isGood_81 : decode cX12_isGood 81 = .ok (.iconst 0, 1) := by decide +kernel
theorem dX12_isGood_82 : decode cX12_isGood 82 = .ok (.ireturn, 1) := by decide +kernel
theorem dX12_claimOf_0 : decode cX12_claimOf 0 = .ok (.iload_n 1, 1) := by decide +kernel
theorem dX12_claimOf_1 : decode cX12_claimOf 1 = .ok (.iconst 0, 1) := by decide +kernel
theorem dX12_claimOf_2 : decode cX12_claimOf 2 = .ok (.aload_n 0, 1) := by decide +kernel
theorem dX12_claimOf_3 : decode cX12_claimOf 3 = .ok (.getfield 411, 3) := by decide +kernel
theorem dX12_claimOf_6 : decode cX12_claimOf 6 = .ok (.iconst 1, 1) := by decide +kernel
theorem dX12_claimOf_7 : decode cX12_claimOf 7 = .ok (.isub, 1) := by decide +kernel
theorem dX12_claimOf_8 : decode cX12_claimOf 8 = .ok (.invokestatic 200, 3) := by decide +kernel
theorem dX12_claimOf_11 : decode cX12_claimOf 11 = .ok (.ifCond .ne 7, 3) := by decide +kernel
theorem dX12_claimOf_14 : decode cX12_claimOf 14 = .ok (.ldc2_w 257, 3) := by decide +kernel
theorem dX12_claimOf_17 : decode cX12_claimOf 17 = .ok (.lreturn, 1) := by decide +kernel
theorem dX12_claimOf_18 : decode cX12_claimOf 18 = .ok (.iload_n 2, 1) := by decide +kernel
theorem dX12_claimOf_19 : decode cX12_claimOf 19 = .ok (.tableswitch 105 0 6 #[41, 49, 57, 69, 83, 90, 97], 41) := by decide +kernel
theorem dX12_claimOf_60 : decode cX12_claimOf 60 = .ok (.aload_n 0, 1) := by decide +kernel
theorem dX12_claimOf_61 : decode cX12_claimOf 61 = .ok (.getfield 160, 3) := by decide +kernel
theorem dX12_claimOf_64 : decode cX12_claimOf 64 = .ok (.iload_n 1, 1) := by decide +kernel
theorem dX12_claimOf_65 : decode cX12_claimOf 65 = .ok (.iaload, 1) := by decide +kernel
theorem dX12_claimOf_66 : decode cX12_claimOf 66 = .ok (.i2l, 1) := by decide +kernel
theorem dX12_claimOf_67 : decode cX12_claimOf 67 = .ok (.lreturn, 1) := by decide +kernel
theorem dX12_claimOf_68 : decode cX12_claimOf 68 = .ok (.aload_n 0, 1) := by decide +kernel
theorem dX12_claimOf_69 : decode cX12_claimOf 69 = .ok (.getfield 163, 3) := by decide +kernel
theorem dX12_claimOf_72 : decode cX12_claimOf 72 = .ok (.iload_n 1, 1) := by decide +kernel
theorem dX12_claimOf_73 : decode cX12_claimOf 73 = .ok (.iaload, 1) := by decide +kernel
theorem dX12_claimOf_74 : decode cX12_claimOf 74 = .ok (.i2l, 1) := by decide +kernel
theorem dX12_claimOf_75 : decode cX12_claimOf 75 = .ok (.lreturn, 1) := by decide +kernel
theorem dX12_claimOf_76 : decode cX12_claimOf 76 = .ok (.aload_n 0, 1) := by decide +kernel
theorem dX12_claimOf_77 : decode cX12_claimOf 77 = .ok (.aload_n 0, 1) := by decide +kernel
theorem dX12_claimOf_78 : decode cX12_claimOf 78 = .ok (.getfield 163, 3) := by decide +kernel
theorem dX12_claimOf_81 : decode cX12_claimOf 81 = .ok (.iload_n 1, 1) := by decide +kernel
theorem dX12_claimOf_82 : decode cX12_claimOf 82 = .ok (.iaload, 1) := by decide +kernel
theorem dX12_claimOf_83 : decode cX12_claimOf 83 = .ok (.invokevirtual 476, 3) := by decide +kernel
theorem dX12_claimOf_86 : decode cX12_claimOf 86 = .ok (.i2l, 1) := by decide +kernel
theorem dX12_claimOf_87 : decode cX12_claimOf 87 = .ok (.lreturn, 1) := by decide +kernel
theorem dX12_claimOf_88 : decode cX12_claimOf 88 = .ok (.aload_n 0, 1) := by decide +kernel
theorem dX12_claimOf_89 : decode cX12_claimOf 89 = .ok (.iload_n 1, 1) := by decide +kernel
theorem dX12_claimOf_90 : decode cX12_claimOf 90 = .ok (.invokevirtual 479, 3) := by decide +kernel
theorem dX12_claimOf_93 : decode cX12_claimOf 93 = .ok (.ifCond .eq 7, 3) := by decide +kernel
theorem dX12_claimOf_96 : decode cX12_claimOf 96 = .ok (.lconst 1, 1) := by decide +kernel
theorem dX12_claimOf_97 : decode cX12_claimOf 97 = .ok (.goto 4, 3) := by decide +kernel
theorem dX12_claimOf_100 : decode cX12_claimOf 100 = .ok (.lconst 0, 1) := by decide +kernel
theorem dX12_claimOf_101 : decode cX12_claimOf 101 = .ok (.lreturn, 1) := by decide +kernel
theorem dX12_claimOf_102 : decode cX12_claimOf 102 = .ok (.aload_n 0, 1) := by decide +kernel
theorem dX12_claimOf_103 : decode cX12_claimOf 103 = .ok (.getfield 175, 3) := by decide +kernel
theorem dX12_claimOf_106 : decode cX12_claimOf 106 = .ok (.iload_n 1, 1) := by decide +kernel
theorem dX12_claimOf_107 : decode cX12_claimOf 107 = .ok (.laload, 1) := by decide +kernel
theorem dX12_claimOf_108 : decode cX12_claimOf 108 = .ok (.lreturn, 1) := by decide +kernel
theorem dX12_claimOf_109 : decode cX12_claimOf 109 = .ok (.aload_n 0, 1) := by decide +kernel
theorem dX12_claimOf_110 : decode cX12_claimOf 110 = .ok (.getfield 178, 3) := by decide +kernel
theorem dX12_claimOf_113 : decode cX12_claimOf 113 = .ok (.iload_n 1, 1) := by decide +kernel
theorem dX12_claimOf_114 : decode cX12_claimOf 114 = .ok (.laload, 1) := by decide +kernel
theorem dX12_claimOf_115 : decode cX12_claimOf 115 = .ok (.lreturn, 1) := by decide +kernel
theorem dX12_claimOf_116 : decode cX12_claimOf 116 = .ok (.aload_n 0, 1) := by decide +kernel
theorem dX12_claimOf_117 : decode cX12_claimOf 117 = .ok (.getfield 172, 3) := by decide +kernel
theorem dX12_claimOf_120 : decode cX12_claimOf 120 = .ok (.iload_n 1, 1) := by decide +kernel
theorem dX12_claimOf_121 : decode cX12_claimOf 121 = .ok (.iaload, 1) := by decide +kernel
theorem dX12_claimOf_122 : decode cX12_claimOf 122 = .ok (.i2l, 1) := by decide +kernel
theorem dX12_claimOf_123 : decode cX12_claimOf 123 = .ok (.lreturn, 1) := by decide +kernel
theorem dX12_claimOf_124 : decode cX12_claimOf 124 = .ok (.ldc2_w 257, 3) := by decide +kernel
theorem dX12_claimOf_127 : decode cX12_claimOf 127 = .ok (.lreturn, 1) := by decide +kernel
theorem dX12_pay_0 : decode cX12_pay 0 = .ok (.iload_n 1, 1) := by decide +kernel
theorem dX12_pay_1 : decode cX12_pay 1 = .ok (.iconst 0, 1) := by decide +kernel
theorem dX12_pay_2 : decode cX12_pay 2 = .ok (.aload_n 0, 1) := by decide +kernel
theorem dX12_pay_3 : decode cX12_pay 3 = .ok (.getfield 411, 3) := by decide +kernel
theorem dX12_pay_6 : decode cX12_pay 6 = .ok (.iconst 1, 1) := by decide +kernel
theorem dX12_pay_7 : decode cX12_pay 7 = .ok (.isub, 1) := by decide +kernel
theorem dX12_pay_8 : decode cX12_pay 8 = .ok (.invokestatic 200, 3) := by decide +kernel
theorem dX12_pay_11 : decode cX12_pay 11 = .ok (.ifCond .eq 20, 3) := by decide +kernel
theorem dX12_pay_14 : decode cX12_pay 14 = .ok (.aload_n 0, 1) := by decide +kernel
theorem dX12_pay_15 : decode cX12_pay 15 = .ok (.getfield 172, 3) := by decide +kernel
theorem dX12_pay_18 : decode cX12_pay 18 = .ok (.iload_n 1, 1) := by decide +kernel
theorem dX12_pay_19 : decode cX12_pay 19 = .ok (.iaload, 1) := by decide +kernel
theorem dX12_pay_20 : decode cX12_pay 20 = .ok (.ifCond .ne 11, 3) := by decide +kernel
theorem dX12_pay_23 : decode cX12_pay 23 = .ok (.aload_n 0, 1) := by decide +kernel
theorem dX12_pay_24 : decode cX12_pay 24 = .ok (.iload_n 1, 1) := by decide +kernel
theorem dX12_pay_25 : decode cX12_pay 25 = .ok (.invokevirtual 479, 3) := by decide +kernel
theorem dX12_pay_28 : decode cX12_pay 28 = .ok (.ifCond .ne 7, 3) := by decide +kernel
theorem dX12_pay_31 : decode cX12_pay 31 = .ok (.ldc2_w 257, 3) := by decide +kernel
theorem dX12_pay_34 : decode cX12_pay 34 = .ok (.lreturn, 1) := by decide +kernel
theorem dX12_pay_35 : decode cX12_pay 35 = .ok (.aload_n 0, 1) := by decide +kernel
theorem dX12_pay_36 : decode cX12_pay 36 = .ok (.getfield 163, 3) := by decide +kernel
theorem dX12_pay_39 : decode cX12_pay 39 = .ok (.iload_n 1, 1) := by decide +kernel
theorem dX12_pay_40 : decode cX12_pay 40 = .ok (.iaload, 1) := by decide +kernel
theorem dX12_pay_41 : decode cX12_pay 41 = .ok (.istore_n 2, 1) := by decide +kernel
theorem dX12_pay_42 : decode cX12_pay 42 = .ok (.iconst 0, 1) := by decide +kernel
theorem dX12_pay_43 : decode cX12_pay 43 = .ok (.istore_n 3, 1) := by decide +kernel
theorem dX12_pay_44 : decode cX12_pay 44 = .ok (.iload_n 3, 1) := by decide +kernel
theorem dX12_pay_45 : decode cX12_pay 45 = .ok (.aload_n 0, 1) := by decide +kernel
theorem dX12_pay_46 : decode cX12_pay 46 = .ok (.getfield 411, 3) := by decide +kernel
theorem dX12_pay_49 : decode cX12_pay 49 = .ok (.if_icmp .ge 48, 3) := by decide +kernel
theorem dX12_pay_52 : decode cX12_pay 52 = .ok (.aload_n 0, 1) := by decide +kernel
theorem dX12_pay_53 : decode cX12_pay 53 = .ok (.getfield 163, 3) := by decide +kernel
theorem dX12_pay_56 : decode cX12_pay 56 = .ok (.iload_n 3, 1) := by decide +kernel
theorem dX12_pay_57 : decode cX12_pay 57 = .ok (.iaload, 1) := by decide +kernel
theorem dX12_pay_58 : decode cX12_pay 58 = .ok (.iload_n 2, 1) := by decide +kernel
theorem dX12_pay_59 : decode cX12_pay 59 = .ok (.if_icmp .ne 32, 3) := by decide +kernel
theorem dX12_pay_62 : decode cX12_pay 62 = .ok (.aload_n 0, 1) := by decide +kernel
theorem dX12_pay_63 : decode cX12_pay 63 = .ok (.getfield 160, 3) := by decide +kernel
theorem dX12_pay_66 : decode cX12_pay 66 = .ok (.iload_n 3, 1) := by decide +kernel
theorem dX12_pay_67 : decode cX12_pay 67 = .ok (.iaload, 1) := by decide +kernel
theorem dX12_pay_68 : decode cX12_pay 68 = .ok (.aload_n 0, 1) := by decide +kernel
theorem dX12_pay_69 : decode cX12_pay 69 = .ok (.getfield 160, 3) := by decide +kernel
theorem dX12_pay_72 : decode cX12_pay 72 = .ok (.iload_n 1, 1) := by decide +kernel
theorem dX12_pay_73 : decode cX12_pay 73 = .ok (.iaload, 1) := by decide +kernel
theorem dX12_pay_74 : decode cX12_pay 74 = .ok (.if_icmp .ne 17, 3) := by decide +kernel
theorem dX12_pay_77 : decode cX12_pay 77 = .ok (.aload_n 0, 1) := by decide +kernel
theorem dX12_pay_78 : decode cX12_pay 78 = .ok (.getfield 172, 3) := by decide +kernel
theorem dX12_pay_81 : decode cX12_pay 81 = .ok (.iload_n 3, 1) := by decide +kernel
theorem dX12_pay_82 : decode cX12_pay 82 = .ok (.iaload, 1) := by decide +kernel
theorem dX12_pay_83 : decode cX12_pay 83 = .ok (.iconst 1, 1) := by decide +kernel
theorem dX12_pay_84 : decode cX12_pay 84 = .ok (.if_icmp .ne 7, 3) := by decide +kernel
theorem dX12_pay_87 : decode cX12_pay 87 = .ok (.ldc2_w 257, 3) := by decide +kernel
theorem dX12_pay_90 : decode cX12_pay 90 = .ok (.lreturn, 1) := by decide +kernel
theorem dX12_pay_91 : decode cX12_pay 91 = .ok (.iinc 3 1, 3) := by decide +kernel
theorem dX12_pay_94 : decode cX12_pay 94 = .ok (.goto (-50), 3) := by decide +kernel
theorem dX12_pay_97 : decode cX12_pay 97 = .ok (.aload_n 0, 1) := by decide +kernel
theorem dX12_pay_98 : decode cX12_pay 98 = .ok (.getfield 137, 3) := by decide +kernel
theorem dX12_pay_101 : decode cX12_pay 101 = .ok (.iload_n 2, 1) := by decide +kernel
theorem dX12_pay_102 : decode cX12_pay 102 = .ok (.laload, 1) := by decide +kernel
theorem dX12_pay_103 : decode cX12_pay 103 = .ok (.aload_n 0, 1) := by decide +kernel
theorem dX12_pay_104 : decode cX12_pay 104 = .ok (.iload_n 2, 1) := by decide +kernel
theorem dX12_pay_105 : decode cX12_pay 105 = .ok (.invokevirtual 417, 3) := by decide +kernel
theorem dX12_pay_108 : decode cX12_pay 108 = .ok (.ladd, 1) := by decide +kernel
theorem dX12_pay_109 : decode cX12_pay 109 = .ok (.lstore_n 3, 1) := by decide +kernel
theorem dX12_pay_110 : decode cX12_pay 110 = .ok (.lload_n 3, 1) := by decide +kernel
theorem dX12_pay_111 : decode cX12_pay 111 = .ok (.lstore 5, 2) := by decide +kernel
theorem dX12_pay_113 : decode cX12_pay 113 = .ok (.aload_n 0, 1) := by decide +kernel
theorem dX12_pay_114 : decode cX12_pay 114 = .ok (.getfield 34, 3) := by decide +kernel
theorem dX12_pay_117 : decode cX12_pay 117 = .ok (.aload_n 0, 1) := by decide +kernel
theorem dX12_pay_118 : decode cX12_pay 118 = .ok (.getfield 43, 3) := by decide +kernel
theorem dX12_pay_121 : decode cX12_pay 121 = .ok (.iload_n 2, 1) := by decide +kernel
theorem dX12_pay_122 : decode cX12_pay 122 = .ok (.iaload, 1) := by decide +kernel
theorem dX12_pay_123 : decode cX12_pay 123 = .ok (.iaload, 1) := by decide +kernel
theorem dX12_pay_124 : decode cX12_pay 124 = .ok (.iconst (-1), 1) := by decide +kernel
theorem dX12_pay_125 : decode cX12_pay 125 = .ok (.if_icmp .eq 73, 3) := by decide +kernel
theorem dX12_pay_128 : decode cX12_pay 128 = .ok (.aload_n 0, 1) := by decide +kernel
theorem dX12_pay_129 : decode cX12_pay 129 = .ok (.aload_n 0, 1) := by decide +kernel
theorem dX12_pay_130 : decode cX12_pay 130 = .ok (.getfield 43, 3) := by decide +kernel
theorem dX12_pay_133 : decode cX12_pay 133 = .ok (.iload_n 2, 1) := by decide +kernel
theorem dX12_pay_134 : decode cX12_pay 134 = .ok (.iaload, 1) := by decide +kernel
theorem dX12_pay_135 : decode cX12_pay 135 = .ok (.invokevirtual 460, 3) := by decide +kernel
theorem dX12_pay_138 : decode cX12_pay 138 = .ok (.aload_n 0, 1) := by decide +kernel
theorem dX12_pay_139 : decode cX12_pay 139 = .ok (.getfield 154, 3) := by decide +kernel
theorem dX12_pay_142 : decode cX12_pay 142 = .ok (.aload_n 0, 1) := by decide +kernel
theorem dX12_pay_143 : decode cX12_pay 143 = .ok (.getfield 160, 3) := by decide +kernel
theorem dX12_pay_146 : decode cX12_pay 146 = .ok (.iload_n 1, 1) := by decide +kernel
theorem dX12_pay_147 : decode cX12_pay 147 = .ok (.iaload, 1) := by decide +kernel
theorem dX12_pay_148 : decode cX12_pay 148 = .ok (.laload, 1) := by decide +kernel
theorem dX12_pay_149 : decode cX12_pay 149 = .ok (.aload_n 0, 1) := by decide +kernel
theorem dX12_pay_150 : decode cX12_pay 150 = .ok (.getfield 157, 3) := by decide +kernel
theorem dX12_pay_153 : decode cX12_pay 153 = .ok (.aload_n 0, 1) := by decide +kernel
theorem dX12_pay_154 : decode cX12_pay 154 = .ok (.getfield 160, 3) := by decide +kernel
theorem dX12_pay_157 : decode cX12_pay 157 = .ok (.iload_n 1, 1) := by decide +kernel
theorem dX12_pay_158 : decode cX12_pay 158 = .ok (.iaload, 1) := by decide +kernel
theorem dX12_pay_159 : decode cX12_pay 159 = .ok (.laload, 1) := by decide +kernel
theorem dX12_pay_160 : decode cX12_pay 160 = .ok (.invokestatic 466, 3) := by decide +kernel
theorem dX12_pay_163 : decode cX12_pay 163 = .ok (.lstore 7, 2) := by decide +kernel
theorem dX12_pay_165 : decode cX12_pay 165 = .ok (.lload_n 3, 1) := by decide +kernel
theorem dX12_pay_166 : decode cX12_pay 166 = .ok (.aload_n 0, 1) := by decide +kernel
theorem dX12_pay_167 : decode cX12_pay 167 = .ok (.getfield 154, 3) := by decide +kernel
theorem dX12_pay_170 : decode cX12_pay 170 = .ok (.aload_n 0, 1) := by decide +kernel
theorem dX12_pay_171 : decode cX12_pay 171 = .ok (.getfield 160, 3) := by decide +kernel
theorem dX12_pay_174 : decode cX12_pay 174 = .ok (.iload_n 1, 1) := by decide +kernel
theorem dX12_pay_175 : decode cX12_pay 175 = .ok (.iaload, 1) := by decide +kernel
theorem dX12_pay_176 : decode cX12_pay 176 = .ok (.laload, 1) := by decide +kernel
theorem dX12_pay_177 : decode cX12_pay 177 = .ok (.lload 7, 2) := by decide +kernel
theorem dX12_pay_179 : decode cX12_pay 179 = .ok (.ldiv, 1) := by decide +kernel
theorem dX12_pay_180 : decode cX12_pay 180 = .ok (.lmul, 1) := by decide +kernel
theorem dX12_pay_181 : decode cX12_pay 181 = .ok (.aload_n 0, 1) := by decide +kernel
theorem dX12_pay_182 : decode cX12_pay 182 = .ok (.getfield 157, 3) := by decide +kernel
theorem dX12_pay_185 : decode cX12_pay 185 = .ok (.aload_n 0, 1) := by decide +kernel
theorem dX12_pay_186 : decode cX12_pay 186 = .ok (.getfield 160, 3) := by decide +kernel
theorem dX12_pay_189 : decode cX12_pay 189 = .ok (.iload_n 1, 1) := by decide +kernel
theorem dX12_pay_190 : decode cX12_pay 190 = .ok (.iaload, 1) := by decide +kernel
theorem dX12_pay_191 : decode cX12_pay 191 = .ok (.laload, 1) := by decide +kernel
theorem dX12_pay_192 : decode cX12_pay 192 = .ok (.lload 7, 2) := by decide +kernel
theorem dX12_pay_194 : decode cX12_pay 194 = .ok (.ldiv, 1) := by decide +kernel
theorem dX12_pay_195 : decode cX12_pay 195 = .ok (.ldiv, 1) := by decide +kernel
theorem dX12_pay_196 : decode cX12_pay 196 = .ok (.lstore 5, 2) := by decide +kernel
theorem dX12_pay_198 : decode cX12_pay 198 = .ok (.aload_n 0, 1) := by decide +kernel
theorem dX12_pay_199 : decode cX12_pay 199 = .ok (.iload_n 2, 1) := by decide +kernel
theorem dX12_pay_200 : decode cX12_pay 200 = .ok (.invokevirtual 420, 3) := by decide +kernel
theorem dX12_pay_203 : decode cX12_pay 203 = .ok (.lload 5, 2) := by decide +kernel
theorem dX12_pay_205 : decode cX12_pay 205 = .ok (.ladd, 1) := by decide +kernel
theorem dX12_pay_206 : decode cX12_pay 206 = .ok (.lload_n 3, 1) := by decide +kernel
theorem dX12_pay_207 : decode cX12_pay 207 = .ok (.lcmp, 1) := by decide +kernel
theorem dX12_pay_208 : decode cX12_pay 208 = .ok (.ifCond .le 7, 3) := by decide +kernel
theorem dX12_pay_211 : decode cX12_pay 211 = .ok (.ldc2_w 257, 3) := by decide +kernel
theorem dX12_pay_214 : decode cX12_pay 214 = .ok (.lreturn, 1) := by decide +kernel
theorem dX12_pay_215 : decode cX12_pay 215 = .ok (.aload_n 0, 1) := by decide +kernel
theorem dX12_pay_216 : decode cX12_pay 216 = .ok (.getfield 169, 3) := by decide +kernel
theorem dX12_pay_219 : decode cX12_pay 219 = .ok (.iload_n 1, 1) := by decide +kernel
theorem dX12_pay_220 : decode cX12_pay 220 = .ok (.iaload, 1) := by decide +kernel
theorem dX12_pay_221 : decode cX12_pay 221 = .ok (.aload_n 0, 1) := by decide +kernel
theorem dX12_pay_222 : decode cX12_pay 222 = .ok (.getfield 76, 3) := by decide +kernel
theorem dX12_pay_225 : decode cX12_pay 225 = .ok (.aload_n 0, 1) := by decide +kernel
theorem dX12_pay_226 : decode cX12_pay 226 = .ok (.getfield 128, 3) := by decide +kernel
theorem dX12_pay_229 : decode cX12_pay 229 = .ok (.iload_n 2, 1) := by decide +kernel
theorem dX12_pay_230 : decode cX12_pay 230 = .ok (.iaload, 1) := by decide +kernel
theorem dX12_pay_231 : decode cX12_pay 231 = .ok (.iaload, 1) := by decide +kernel
theorem dX12_pay_232 : decode cX12_pay 232 = .ok (.if_icmp .ge 12, 3) := by decide +kernel
theorem dX12_pay_235 : decode cX12_pay 235 = .ok (.aload_n 0, 1) := by decide +kernel
theorem dX12_pay_236 : decode cX12_pay 236 = .ok (.getfield 169, 3) := by decide +kernel
theorem dX12_pay_239 : decode cX12_pay 239 = .ok (.iload_n 1, 1) := by decide +kernel
theorem dX12_pay_240 : decode cX12_pay 240 = .ok (.iaload, 1) := by decide +kernel
theorem dX12_pay_241 : decode cX12_pay 241 = .ok (.goto 14, 3) := by decide +kernel
theorem dX12_pay_244 : decode cX12_pay 244 = .ok (.aload_n 0, 1) := by decide +kernel
theorem dX12_pay_245 : decode cX12_pay 245 = .ok (.getfield 76, 3) := by decide +kernel
theorem dX12_pay_248 : decode cX12_pay 248 = .ok (.aload_n 0, 1) := by decide +kernel
theorem dX12_pay_249 : decode cX12_pay 249 = .ok (.getfield 128, 3) := by decide +kernel
theorem dX12_pay_252 : decode cX12_pay 252 = .ok (.iload_n 2, 1) := by decide +kernel
theorem dX12_pay_253 : decode cX12_pay 253 = .ok (.iaload, 1) := by decide +kernel
theorem dX12_pay_254 : decode cX12_pay 254 = .ok (.iaload, 1) := by decide +kernel
theorem dX12_pay_255 : decode cX12_pay 255 = .ok (.istore 7, 2) := by decide +kernel
theorem dX12_pay_257 : decode cX12_pay 257 = .ok (.aload_n 0, 1) := by decide +kernel
theorem dX12_pay_258 : decode cX12_pay 258 = .ok (.getfield 172, 3) := by decide +kernel
theorem dX12_pay_261 : decode cX12_pay 261 = .ok (.iload_n 1, 1) := by decide +kernel
theorem dX12_pay_262 : decode cX12_pay 262 = .ok (.iconst 1, 1) := by decide +kernel
theorem dX12_pay_263 : decode cX12_pay 263 = .ok (.iastore, 1) := by decide +kernel
theorem dX12_pay_264 : decode cX12_pay 264 = .ok (.aload_n 0, 1) := by decide +kernel
theorem dX12_pay_265 : decode cX12_pay 265 = .ok (.getfield 175, 3) := by decide +kernel
theorem dX12_pay_268 : decode cX12_pay 268 = .ok (.iload_n 1, 1) := by decide +kernel
theorem dX12_pay_269 : decode cX12_pay 269 = .ok (.lload 5, 2) := by decide +kernel
theorem dX12_pay_271 : decode cX12_pay 271 = .ok (.lastore, 1) := by decide +kernel
theorem dX12_pay_272 : decode cX12_pay 272 = .ok (.aload_n 0, 1) := by decide +kernel
theorem dX12_pay_273 : decode cX12_pay 273 = .ok (.getfield 178, 3) := by decide +kernel
theorem dX12_pay_276 : decode cX12_pay 276 = .ok (.iload_n 1, 1) := by decide +kernel
theorem dX12_pay_277 : decode cX12_pay 277 = .ok (.lload 5, 2) := by decide +kernel
theorem dX12_pay_279 : decode cX12_pay 279 = .ok (.iload 7, 2) := by decide +kernel
theorem dX12_pay_281 : decode cX12_pay 281 = .ok (.i2l, 1) := by decide +kernel
theorem dX12_pay_282 : decode cX12_pay 282 = .ok (.lmul, 1) := by decide +kernel
theorem dX12_pay_283 : decode cX12_pay 283 = .ok (.ldc2_w 482, 3) := by decide +kernel
theorem dX12_pay_286 : decode cX12_pay 286 = .ok (.ldiv, 1) := by decide +kernel
theorem dX12_pay_287 : decode cX12_pay 287 = .ok (.lastore, 1) := by decide +kernel
theorem dX12_pay_288 : decode cX12_pay 288 = .ok (.lload 5, 2) := by decide +kernel
theorem dX12_pay_290 : decode cX12_pay 290 = .ok (.lreturn, 1) := by decide +kernel
theorem dX12_back_0 : decode cX12_back 0 = .ok (.iload_n 1, 1) := by decide +kernel
theorem dX12_back_1 : decode cX12_back 1 = .ok (.iconst 0, 1) := by decide +kernel
theorem dX12_back_2 : decode cX12_back 2 = .ok (.aload_n 0, 1) := by decide +kernel
theorem dX12_back_3 : decode cX12_back 3 = .ok (.getfield 411, 3) := by decide +kernel
theorem dX12_back_6 : decode cX12_back 6 = .ok (.iconst 1, 1) := by decide +kernel
theorem dX12_back_7 : decode cX12_back 7 = .ok (.isub, 1) := by decide +kernel
theorem dX12_back_8 : decode cX12_back 8 = .ok (.invokestatic 200, 3) := by decide +kernel
theorem dX12_back_11 : decode cX12_back 11 = .ok (.ifCond .eq 21, 3) := by decide +kernel
theorem dX12_back_14 : decode cX12_back 14 = .ok (.aload_n 0, 1) := by decide +kernel
theorem dX12_back_15 : decode cX12_back 15 = .ok (.getfield 172, 3) := by decide +kernel
theorem dX12_back_18 : decode cX12_back 18 = .ok (.iload_n 1, 1) := by decide +kernel
theorem dX12_back_19 : decode cX12_back 19 = .ok (.iaload, 1) := by decide +kernel
theorem dX12_back_20 : decode cX12_back 20 = .ok (.iconst 1, 1) := by decide +kernel
theorem dX12_back_21 : decode cX12_back 21 = .ok (.if_icmp .ne 11, 3) := by decide +kernel
theorem dX12_back_24 : decode cX12_back 24 = .ok (.aload_n 0, 1) := by decide +kernel
theorem dX12_back_25 : decode cX12_back 25 = .ok (.iload_n 1, 1) := by decide +kernel
theorem dX12_back_26 : decode cX12_back 26 = .ok (.invokevirtual 479, 3) := by decide +kernel
theorem dX12_back_29 : decode cX12_back 29 = .ok (.ifCond .eq 7, 3) := by decide +kernel
theorem dX12_back_32 : decode cX12_back 32 = .ok (.ldc2_w 257, 3) := by decide +kernel
theorem dX12_back_35 : decode cX12_back 35 = .ok (.lreturn, 1) := by decide +kernel
theorem dX12_back_36 : decode cX12_back 36 = .ok (.aload_n 0, 1) := by decide +kernel
theorem dX12_back_37 : decode cX12_back 37 = .ok (.getfield 172, 3) := by decide +kernel
theorem dX12_back_40 : decode cX12_back 40 = .ok (.iload_n 1, 1) := by decide +kernel
theorem dX12_back_41 : decode cX12_back 41 = .ok (.iconst 2, 1) := by decide +kernel
theorem dX12_back_42 : decode cX12_back 42 = .ok (.iastore, 1) := by decide +kernel
theorem dX12_back_43 : decode cX12_back 43 = .ok (.aload_n 0, 1) := by decide +kernel
theorem dX12_back_44 : decode cX12_back 44 = .ok (.getfield 175, 3) := by decide +kernel
theorem dX12_back_47 : decode cX12_back 47 = .ok (.iload_n 1, 1) := by decide +kernel
theorem dX12_back_48 : decode cX12_back 48 = .ok (.laload, 1) := by decide +kernel
theorem dX12_back_49 : decode cX12_back 49 = .ok (.lreturn, 1) := by decide +kernel
theorem dX12_figure_0 : decode cX12_figure 0 = .ok (.aload_n 0, 1) := by decide +kernel
theorem dX12_figure_1 : decode cX12_figure 1 = .ok (.iload_n 1, 1) := by decide +kernel
theorem dX12_figure_2 : decode cX12_figure 2 = .ok (.invokevirtual 217, 3) := by decide +kernel
theorem dX12_figure_5 : decode cX12_figure 5 = .ok (.ifCond .eq 24, 3) := by decide +kernel
theorem dX12_figure_8 : decode cX12_figure 8 = .ok (.iload_n 2, 1) := by decide +kernel
theorem dX12_figure_9 : decode cX12_figure 9 = .ok (.iconst 0, 1) := by decide +kernel
theorem dX12_figure_10 : decode cX12_figure 10 = .ok (.bipush 19, 2) := by decide +kernel
theorem dX12_figure_12 : decode cX12_figure 12 = .ok (.invokestatic 200, 3) := by decide +kernel
theorem dX12_figure_15 : decode cX12_figure 15 = .ok (.ifCond .eq 14, 3) := by decide +kernel
theorem dX12_figure_18 : decode cX12_figure 18 = .ok (.iload_n 3, 1) := by decide +kernel
theorem dX12_figure_19 : decode cX12_figure 19 = .ok (.iconst (-1), 1) := by decide +kernel
theorem dX12_figure_20 : decode cX12_figure 20 = .ok (.ldc_w 484, 3) := by decide +kernel
theorem dX12_figure_23 : decode cX12_figure 23 = .ok (.invokestatic 200, 3) := by decide +kernel
theorem dX12_figure_26 : decode cX12_figure 26 = .ok (.ifCond .ne 5, 3) := by decide +kernel
theorem dX12_figure_29 : decode cX12_figure 29 = .ok (.iconst 0, 1) := by decide +kernel
theorem dX12_figure_30 : decode cX12_figure 30 = .ok (.ireturn, 1) := by decide +kernel
theorem dX12_figure_31 : decode cX12_figure 31 = .ok (.aload_n 0, 1) := by decide +kernel
theorem dX12_figure_32 : decode cX12_figure 32 = .ok (.getfield 181, 3) := by decide +kernel
theorem dX12_figure_35 : decode cX12_figure 35 = .ok (.bipush 20, 2) := by decide +kernel
theorem dX12_figure_37 : decode cX12_figure 37 = .ok (.iload_n 1, 1) := by decide +kernel
theorem dX12_figure_38 : decode cX12_figure 38 = .ok (.imul, 1) := by decide +kernel
theorem dX12_figure_39 : decode cX12_figure 39 = .ok (.iload_n 2, 1) := by decide +kernel
theorem dX12_figure_40 : decode cX12_figure 40 = .ok (.iadd, 1) := by decide +kernel
theorem dX12_figure_41 : decode cX12_figure 41 = .ok (.iload_n 3, 1) := by decide +kernel
theorem dX12_figure_42 : decode cX12_figure 42 = .ok (.iastore, 1) := by decide +kernel
theorem dX12_figure_43 : decode cX12_figure 43 = .ok (.iconst 1, 1) := by decide +kernel
theorem dX12_figure_44 : decode cX12_figure 44 = .ok (.ireturn, 1) := by decide +kernel
theorem dX12_costs_0 : decode cX12_costs 0 = .ok (.iload_n 1, 1) := by decide +kernel
theorem dX12_costs_1 : decode cX12_costs 1 = .ok (.iconst 0, 1) := by decide +kernel
theorem dX12_costs_2 : decode cX12_costs 2 = .ok (.bipush 19, 2) := by decide +kernel
theorem dX12_costs_4 : decode cX12_costs 4 = .ok (.invokestatic 200, 3) := by decide +kernel
theorem dX12_costs_7 : decode cX12_costs 7 = .ok (.ifCond .eq 13, 3) := by decide +kernel
theorem dX12_costs_10 : decode cX12_costs 10 = .ok (.iload_n 2, 1) := by decide +kernel
theorem dX12_costs_11 : decode cX12_costs 11 = .ok (.iconst 1, 1) := by decide +kernel
theorem dX12_costs_12 : decode cX12_costs 12 = .ok (.bipush 99, 2) := by decide +kernel
theorem dX12_costs_14 : decode cX12_costs 14 = .ok (.invokestatic 200, 3) := by decide +kernel
theorem dX12_costs_17 : decode cX12_costs 17 = .ok (.ifCond .ne 5, 3) := by decide +kernel
theorem dX12_costs_20 : decode cX12_costs 20 = .ok (.iconst 0, 1) := by decide +kernel
theorem dX12_costs_21 : decode cX12_costs 21 = .ok (.ireturn, 1) := by decide +kernel
theorem dX12_costs_22 : decode cX12_costs 22 = .ok (.aload_n 0, 1) := by decide +kernel
theorem dX12_costs_23 : decode cX12_costs 23 = .ok (.getfield 184, 3) := by decide +kernel
theorem dX12_costs_26 : decode cX12_costs 26 = .ok (.iload_n 1, 1) := by decide +kernel
theorem dX12_costs_27 : decode cX12_costs 27 = .ok (.iload_n 2, 1) := by decide +kernel
theorem dX12_costs_28 : decode cX12_costs 28 = .ok (.iastore, 1) := by decide +kernel
theorem dX12_costs_29 : decode cX12_costs 29 = .ok (.iconst 1, 1) := by decide +kernel
theorem dX12_costs_30 : decode cX12_costs 30 = .ok (.ireturn, 1) := by decide +kernel
theorem dX12_bound_0 : decode cX12_bound 0 = .ok (.aload_n 0, 1) := by decide +kernel
theorem dX12_bound_1 : decode cX12_bound 1 = .ok (.getfield 181, 3) := by decide +kernel
theorem dX12_bound_4 : decode cX12_bound 4 = .ok (.bipush 20, 2) := by decide +kernel
theorem dX12_bound_6 : decode cX12_bound 6 = .ok (.iload_n 1, 1) := by decide +kernel
theorem dX12_bound_7 : decode cX12_bound 7 = .ok (.imul, 1) := by decide +kernel
theorem dX12_bound_8 : decode cX12_bound 8 = .ok (.iload_n 2, 1) := by decide +kernel
theorem dX12_bound_9 : decode cX12_bound 9 = .ok (.iadd, 1) := by decide +kernel
theorem dX12_bound_10 : decode cX12_bound 10 = .ok (.iaload, 1) := by decide +kernel
theorem dX12_bound_11 : decode cX12_bound 11 = .ok (.iconst (-1), 1) := by decide +kernel
theorem dX12_bound_12 : decode cX12_bound 12 = .ok (.if_icmp .eq 15, 3) := by decide +kernel
theorem dX12_bound_15 : decode cX12_bound 15 = .ok (.aload_n 0, 1) := by decide +kernel
theorem dX12_bound_16 : decode cX12_bound 16 = .ok (.getfield 181, 3) := by decide +kernel
theorem dX12_bound_19 : decode cX12_bound 19 = .ok (.bipush 20, 2) := by decide +kernel
theorem dX12_bound_21 : decode cX12_bound 21 = .ok (.iload_n 1, 1) := by decide +kernel
theorem dX12_bound_22 : decode cX12_bound 22 = .ok (.imul, 1) := by decide +kernel
theorem dX12_bound_23 : decode cX12_bound 23 = .ok (.iload_n 2, 1) := by decide +kernel
theorem dX12_bound_24 : decode cX12_bound 24 = .ok (.iadd, 1) := by decide +kernel
theorem dX12_bound_25 : decode cX12_bound 25 = .ok (.iaload, 1) := by decide +kernel
theorem dX12_bound_26 : decode cX12_bound 26 = .ok (.ireturn, 1) := by decide +kernel
theorem dX12_bound_27 : decode cX12_bound 27 = .ok (.iload_n 2, 1) := by decide +kernel
theorem dX12_bound_28 : decode cX12_bound 28 = .ok (.istore 4, 2) := by decide +kernel
theorem dX12_bound_30 : decode cX12_bound 30 = .ok (.iload 4, 2) := by decide +kernel
theorem dX12_bound_32 : decode cX12_bound 32 = .ok (.ifCond .lt 25, 3) := by decide +kernel
theorem dX12_bound_35 : decode cX12_bound 35 = .ok (.aload_n 0, 1) := by decide +kernel
theorem dX12_bound_36 : decode cX12_bound 36 = .ok (.getfield 181, 3) := by decide +kernel
theorem dX12_bound_39 : decode cX12_bound 39 = .ok (.bipush 20, 2) := by decide +kernel
theorem dX12_bound_41 : decode cX12_bound 41 = .ok (.iload_n 1, 1) := by decide +kernel
theorem dX12_bound_42 : decode cX12_bound 42 = .ok (.imul, 1) := by decide +kernel
theorem dX12_bound_43 : decode cX12_bound 43 = .ok (.iload 4, 2) := by decide +kernel
theorem dX12_bound_45 : decode cX12_bound 45 = .ok (.iadd, 1) := by decide +kernel
theorem dX12_bound_46 : decode cX12_bound 46 = .ok (.iaload, 1) := by decide +kernel
theorem dX12_bound_47 : decode cX12_bound 47 = .ok (.iconst (-1), 1) := by decide +kernel
theorem dX12_bound_48 : decode cX12_bound 48 = .ok (.if_icmp .ne 9, 3) := by decide +kernel
theorem dX12_bound_51 : decode cX12_bound 51 = .ok (.iinc 4 (-1), 3) := by decide +kernel
theorem dX12_bound_54 : decode cX12_bound 54 = .ok (.goto (-24), 3) := by decide +kernel
theorem dX12_bound_57 : decode cX12_bound 57 = .ok (.iload_n 2, 1) := by decide +kernel
theorem dX12_bound_58 : decode cX12_bound 58 = .ok (.istore 5, 2) := by decide +kernel
theorem dX12_bound_60 : decode cX12_bound 60 = .ok (.iload 5, 2) := by decide +kernel
theorem dX12_bound_62 : decode cX12_bound 62 = .ok (.bipush 20, 2) := by decide +kernel
theorem dX12_bound_64 : decode cX12_bound 64 = .ok (.if_icmp .ge 25, 3) := by decide +kernel
theorem dX12_bound_67 : decode cX12_bound 67 = .ok (.aload_n 0, 1) := by decide +kernel
theorem dX12_bound_68 : decode cX12_bound 68 = .ok (.getfield 181, 3) := by decide +kernel
theorem dX12_bound_71 : decode cX12_bound 71 = .ok (.bipush 20, 2) := by decide +kernel
theorem dX12_bound_73 : decode cX12_bound 73 = .ok (.iload_n 1, 1) := by decide +kernel
theorem dX12_bound_74 : decode cX12_bound 74 = .ok (.imul, 1) := by decide +kernel
theorem dX12_bound_75 : decode cX12_bound 75 = .ok (.iload 5, 2) := by decide +kernel
theorem dX12_bound_77 : decode cX12_bound 77 = .ok (.iadd, 1) := by decide +kernel
theorem dX12_bound_78 : decode cX12_bound 78 = .ok (.iaload, 1) := by decide +kernel
theorem dX12_bound_79 : decode cX12_bound 79 = .ok (.iconst (-1), 1) := by decide +kernel
theorem dX12_bound_80 : decode cX12_bound 80 = .ok (.if_icmp .ne 9, 3) := by decide +kernel
theorem dX12_bound_83 : decode cX12_bound 83 = .ok (.iinc 5 1, 3) := by decide +kernel
theorem dX12_bound_86 : decode cX12_bound 86 = .ok (.goto (-26), 3) := by decide +kernel
theorem dX12_bound_89 : decode cX12_bound 89 = .ok (.iload 4, 2) := by decide +kernel
theorem dX12_bound_91 : decode cX12_bound 91 = .ok (.ifCond .ge 7, 3) := by decide +kernel
theorem dX12_bound_94 : decode cX12_bound 94 = .ok (.iconst 0, 1) := by decide +kernel
theorem dX12_bound_95 : decode cX12_bound 95 = .ok (.goto 15, 3) := by decide +kernel
theorem dX12_bound_98 : decode cX12_bound 98 = .ok (.aload_n 0, 1) := by decide +kernel
theorem dX12_bound_99 : decode cX12_bound 99 = .ok (.getfield 181, 3) := by decide +kernel
theorem dX12_bound_102 : decode cX12_bound 102 = .ok (.bipush 20, 2) := by decide +kernel
theorem dX12_bound_104 : decode cX12_bound 104 = .ok (.iload_n 1, 1) := by decide +kernel
theorem dX12_bound_105 : decode cX12_bound 105 = .ok (.imul, 1) := by decide +kernel
theorem dX12_bound_106 : decode cX12_bound 106 = .ok (.iload 4, 2) := by decide +kernel
theorem dX12_bound_108 : decode cX12_bound 108 = .ok (.iadd, 1) := by decide +kernel
theorem dX12_bound_109 : decode cX12_bound 109 = .ok (.iaload, 1) := by decide +kernel
theorem dX12_bound_110 : decode cX12_bound 110 = .ok (.istore 6, 2) := by decide +kernel
theorem dX12_bound_112 : decode cX12_bound 112 = .ok (.iload 5, 2) := by decide +kernel
theorem dX12_bound_114 : decode cX12_bound 114 = .ok (.bipush 20, 2) := by decide +kernel
theorem dX12_bound_116 : decode cX12_bound 116 = .ok (.if_icmp .ne 7, 3) := by decide +kernel
theorem dX12_bound_119 : decode cX12_bound 119 = .ok (.iconst 0, 1) := by decide +kernel
theorem dX12_bound_120 : decode cX12_bound 120 = .ok (.goto 15, 3) := by decide +kernel
theorem dX12_bound_123 : decode cX12_bound 123 = .ok (.aload_n 0, 1) := by decide +kernel
theorem dX12_bound_124 : decode cX12_bound 124 = .ok (.getfield 181, 3) := by decide +kernel
theorem dX12_bound_127 : decode cX12_bound 127 = .ok (.bipush 20, 2) := by decide +kernel
theorem dX12_bound_129 : decode cX12_bound 129 = .ok (.iload_n 1, 1) := by decide +kernel
theorem dX12_bound_130 : decode cX12_bound 130 = .ok (.imul, 1) := by decide +kernel
theorem dX12_bound_131 : decode cX12_bound 131 = .ok (.iload 5, 2) := by decide +kernel
theorem dX12_bound_133 : decode cX12_bound 133 = .ok (.iadd, 1) := by decide +kernel
theorem dX12_bound_134 : decode cX12_bound 134 = .ok (.iaload, 1) := by decide +kernel
theorem dX12_bound_135 : decode cX12_bound 135 = .ok (.istore 7, 2) := by decide +kernel
theorem dX12_bound_137 : decode cX12_bound 137 = .ok (.iload_n 3, 1) := by decide +kernel
theorem dX12_bound_138 : decode cX12_bound 138 = .ok (.ifCond .eq 20, 3) := by decide +kernel
theorem dX12_bound_141 : decode cX12_bound 141 = .ok (.iload 6, 2) := by decide +kernel
theorem dX12_bound_143 : decode cX12_bound 143 = .ok (.iload 7, 2) := by decide +kernel
theorem dX12_bound_145 : decode cX12_bound 145 = .ok (.if_icmp .le 8, 3) := by decide +kernel
theorem dX12_bound_148 : decode cX12_bound 148 = .ok (.iload 6, 2) := by decide +kernel
theorem dX12_bound_150 : decode cX12_bound 150 = .ok (.goto 22, 3) := by decide +kernel
theorem dX12_bound_153 : decode cX12_bound 153 = .ok (.iload 7, 2) := by decide +kernel
theorem dX12_bound_155 : decode cX12_bound 155 = .ok (.goto 17, 3) := by decide +kernel
theorem dX12_bound_158 : decode cX12_bound 158 = .ok (.iload 6, 2) := by decide +kernel
theorem dX12_bound_160 : decode cX12_bound 160 = .ok (.iload 7, 2) := by decide +kernel
theorem dX12_bound_162 : decode cX12_bound 162 = .ok (.if_icmp .ge 8, 3) := by decide +kernel
theorem dX12_bound_165 : decode cX12_bound 165 = .ok (.iload 6, 2) := by decide +kernel
theorem dX12_bound_167 : decode cX12_bound 167 = .ok (.goto 5, 3) := by decide +kernel
theorem dX12_bound_170 : decode cX12_bound 170 = .ok (.iload 7, 2) := by decide +kernel
theorem dX12_bound_172 : decode cX12_bound 172 = .ok (.ireturn, 1) := by decide +kernel
theorem dX12_audit_0 : decode cX12_audit 0 = .ok (.aload_n 0, 1) := by decide +kernel
theorem dX12_audit_1 : decode cX12_audit 1 = .ok (.iload_n 1, 1) := by decide +kernel
theorem dX12_audit_2 : decode cX12_audit 2 = .ok (.invokevirtual 217, 3) := by decide +kernel
theorem dX12_audit_5 : decode cX12_audit 5 = .ok (.ifCond .ne 5, 3) := by decide +kernel
theorem dX12_audit_8 : decode cX12_audit 8 = .ok (.iconst (-1), 1) := by decide +kernel
theorem dX12_audit_9 : decode cX12_audit 9 = .ok (.ireturn, 1) := by decide +kernel
theorem dX12_audit_10 : decode cX12_audit 10 = .ok (.iconst 0, 1) := by decide +kernel
theorem dX12_audit_11 : decode cX12_audit 11 = .ok (.istore_n 3, 1) := by decide +kernel
theorem dX12_audit_12 : decode cX12_audit 12 = .ok (.iload_n 2, 1) := by decide +kernel
theorem dX12_audit_13 : decode cX12_audit 13 = .ok (.iconst 0, 1) := by decide +kernel
theorem dX12_audit_14 : decode cX12_audit 14 = .ok (.iconst 1, 1) := by decide +kernel
theorem dX12_audit_15 : decode cX12_audit 15 = .ok (.invokestatic 200, 3) := by decide +kernel
theorem dX12_audit_18 : decode cX12_audit 18 = .ok (.ifCond .eq 41, 3) := by decide +kernel
theorem dX12_audit_21 : decode cX12_audit 21 = .ok (.iconst 0, 1) := by decide +kernel
theorem dX12_audit_22 : decode cX12_audit 22 = .ok (.istore 4, 2) := by decide +kernel
theorem dX12_audit_24 : decode cX12_audit 24 = .ok (.iload 4, 2) := by decide +kernel
theorem dX12_audit_26 : decode cX12_audit 26 = .ok (.bipush 20, 2) := by decide +kernel
theorem dX12_audit_28 : decode cX12_audit 28 = .ok (.if_icmp .ge 29, 3) := by decide +kernel
theorem dX12_audit_31 : decode cX12_audit 31 = .ok (.iload_n 3, 1) := by decide +kernel
theorem dX12_audit_32 : decode cX12_audit 32 = .ok (.aload_n 0, 1) := by decide +kernel
theorem dX12_audit_33 : decode cX12_audit 33 = .ok (.iload_n 1, 1) := by decide +kernel
theorem dX12_audit_34 : decode cX12_audit 34 = .ok (.iload 4, 2) := by decide +kernel
theorem dX12_audit_36 : decode cX12_audit 36 = .ok (.iload_n 2, 1) := by decide +kernel
theorem dX12_audit_37 : decode cX12_audit 37 = .ok (.iconst 1, 1) := by decide +kernel
theorem dX12_audit_38 : decode cX12_audit 38 = .ok (.if_icmp .ne 7, 3) := by decide +kernel
theorem dX12_audit_41 : decode cX12_audit 41 = .ok (.iconst 1, 1) := by decide +kernel
theorem dX12_audit_42 : decode cX12_audit 42 = .ok (.goto 4, 3) := by decide +kernel
theorem dX12_audit_45 : decode cX12_audit 45 = .ok (.iconst 0, 1) := by decide +kernel
theorem dX12_audit_46 : decode cX12_audit 46 = .ok (.invokevirtual 485, 3) := by decide +kernel
theorem dX12_audit_49 : decode cX12_audit 49 = .ok (.iadd, 1) := by decide +kernel
theorem dX12_audit_50 : decode cX12_audit 50 = .ok (.istore_n 3, 1) := by decide +kernel
theorem dX12_audit_51 : decode cX12_audit 51 = .ok (.iinc 4 1, 3) := by decide +kernel
theorem dX12_audit_54 : decode cX12_audit 54 = .ok (.goto (-30), 3) := by decide +kernel
theorem dX12_audit_57 : decode cX12_audit 57 = .ok (.iload_n 3, 1) := by decide +kernel
theorem dX12_audit_58 : decode cX12_audit 58 = .ok (.ireturn, 1) := by decide +kernel
theorem dX12_audit_59 : decode cX12_audit 59 = .ok (.iload_n 2, 1) := by decide +kernel
theorem dX12_audit_60 : decode cX12_audit 60 = .ok (.bipush 10, 2) := by decide +kernel
theorem dX12_audit_62 : decode cX12_audit 62 = .ok (.bipush 29, 2) := by decide +kernel
theorem dX12_audit_64 : decode cX12_audit 64 = .ok (.invokestatic 200, 3) := by decide +kernel
theorem dX12_audit_67 : decode cX12_audit 67 = .ok (.ifCond .eq 14, 3) := by decide +kernel
theorem dX12_audit_70 : decode cX12_audit 70 = .ok (.aload_n 0, 1) := by decide +kernel
theorem dX12_audit_71 : decode cX12_audit 71 = .ok (.iload_n 1, 1) := by decide +kernel
theorem dX12_audit_72 : decode cX12_audit 72 = .ok (.iload_n 2, 1) := by decide +kernel
theorem dX12_audit_73 : decode cX12_audit 73 = .ok (.bipush 10, 2) := by decide +kernel
theorem dX12_audit_75 : decode cX12_audit 75 = .ok (.isub, 1) := by decide +kernel
theorem dX12_audit_76 : decode cX12_audit 76 = .ok (.iconst 0, 1) := by decide +kernel
theorem dX12_audit_77 : decode cX12_audit 77 = .ok (.invokevirtual 485, 3) := by decide +kernel
theorem dX12_audit_80 : decode cX12_audit 80 = .ok (.ireturn, 1) := by decide +kernel
theorem dX12_audit_81 : decode cX12_audit 81 = .ok (.iload_n 2, 1) := by decide +kernel
theorem dX12_audit_82 : decode cX12_audit 82 = .ok (.bipush 40, 2) := by decide +kernel
theorem dX12_audit_84 : decode cX12_audit 84 = .ok (.bipush 59, 2) := by decide +kernel
theorem dX12_audit_86 : decode cX12_audit 86 = .ok (.invokestatic 200, 3) := by decide +kernel
theorem dX12_audit_89 : decode cX12_audit 89 = .ok (.ifCond .eq 16, 3) := by decide +kernel
theorem dX12_audit_92 : decode cX12_audit 92 = .ok (.aload_n 0, 1) := by decide +kernel
theorem dX12_audit_93 : decode cX12_audit 93 = .ok (.iload_n 1, 1) := by decide +kernel
theorem dX12_audit_94 : decode cX12_audit 94 = .ok (.iload_n 2, 1) := by decide +kernel
theorem dX12_audit_95 : decode cX12_audit 95 = .ok (.bipush 40, 2) := by decide +kernel
theorem dX12_audit_97 : decode cX12_audit 97 = .ok (.isub, 1) := by decide +kernel
theorem dX12_audit_98 : decode cX12_audit 98 = .ok (.iconst 1, 1) := by decide +kernel
theorem dX12_audit_99 : decode cX12_audit 99 = .ok (.invokevirtual 485, 3) := by decide +kernel
theorem dX12_audit_102 : decode cX12_audit 102 = .ok (.goto 4, 3) := by decide +kernel
theorem dX12_audit_105 : decode cX12_audit 105 = .ok (.iconst (-1), 1) := by decide +kernel
theorem dX12_audit_106 : decode cX12_audit 106 = .ok (.ireturn, 1) := by decide +kernel
theorem dX12_looks_0 : decode cX12_looks 0 = .ok (.aload_n 0, 1) := by decide +kernel
theorem dX12_looks_1 : decode cX12_looks 1 = .ok (.iload_n 1, 1) := by decide +kernel
theorem dX12_looks_2 : decode cX12_looks 2 = .ok (.invokevirtual 217, 3) := by decide +kernel
theorem dX12_looks_5 : decode cX12_looks 5 = .ok (.ifCond .eq 34, 3) := by decide +kernel
theorem dX12_looks_8 : decode cX12_looks 8 = .ok (.iload_n 2, 1) := by decide +kernel
theorem dX12_looks_9 : decode cX12_looks 9 = .ok (.iconst 0, 1) := by decide +kernel
theorem dX12_looks_10 : decode cX12_looks 10 = .ok (.bipush 20, 2) := by decide +kernel
theorem dX12_looks_12 : decode cX12_looks 12 = .ok (.invokestatic 200, 3) := by decide +kernel
theorem dX12_looks_15 : decode cX12_looks 15 = .ok (.ifCond .eq 24, 3) := by decide +kernel
theorem dX12_looks_18 : decode cX12_looks 18 = .ok (.iload_n 3, 1) := by decide +kernel
theorem dX12_looks_19 : decode cX12_looks 19 = .ok (.iconst 0, 1) := by decide +kernel
theorem dX12_looks_20 : decode cX12_looks 20 = .ok (.sipush 999, 3) := by decide +kernel
theorem dX12_looks_23 : decode cX12_looks 23 = .ok (.invokestatic 200, 3) := by decide +kernel
theorem dX12_looks_26 : decode cX12_looks 26 = .ok (.ifCond .eq 13, 3) := by decide +kernel
theorem dX12_looks_29 : decode cX12_looks 29 = .ok (.iload 4, 2) := by decide +kernel
theorem dX12_looks_31 : decode cX12_looks 31 = .ok (.iconst 0, 1) := by decide +kernel
theorem dX12_looks_32 : decode cX12_looks 32 = .ok (.iconst 2, 1) := by decide +kernel
theorem dX12_looks_33 : decode cX12_looks 33 = .ok (.invokestatic 200, 3) := by decide +kernel
theorem dX12_looks_36 : decode cX12_looks 36 = .ok (.ifCond .ne 5, 3) := by decide +kernel
theorem dX12_looks_39 : decode cX12_looks 39 = .ok (.iconst (-1), 1) := by decide +kernel
theorem dX12_looks_40 : decode cX12_looks 40 = .ok (.ireturn, 1) := by decide +kernel
theorem dX12_looks_41 : decode cX12_looks 41 = .ok (.iconst 0, 1) := by decide +kernel
theorem dX12_looks_42 : decode cX12_looks 42 = .ok (.istore 5, 2) := by decide +kernel
theorem dX12_looks_44 : decode cX12_looks 44 = .ok (.iload 5, 2) := by decide +kernel
theorem dX12_looks_46 : decode cX12_looks 46 = .ok (.sipush 21000, 3) := by decide +kernel
theorem dX12_looks_49 : decode cX12_looks 49 = .ok (.if_icmp .ge 17, 3) := by decide +kernel
theorem dX12_looks_52 : decode cX12_looks 52 = .ok (.aload_n 0, 1) := by decide +kernel
theorem dX12_looks_53 : decode cX12_looks 53 = .ok (.getfield 187, 3) := by decide +kernel
theorem dX12_looks_56 : decode cX12_looks 56 = .ok (.iload 5, 2) := by decide +kernel
theorem dX12_looks_58 : decode cX12_looks 58 = .ok (.iconst (-1), 1) := by decide +kernel
theorem dX12_looks_59 : decode cX12_looks 59 = .ok (.iastore, 1) := by decide +kernel
theorem dX12_looks_60 : decode cX12_looks 60 = .ok (.iinc 5 1, 3) := by decide +kernel
theorem dX12_looks_63 : decode cX12_looks 63 = .ok (.goto (-19), 3) := by decide +kernel
theorem dX12_looks_66 : decode cX12_looks 66 = .ok (.aload_n 0, 1) := by decide +kernel
theorem dX12_looks_67 : decode cX12_looks 67 = .ok (.getfield 187, 3) := by decide +kernel
theorem dX12_looks_70 : decode cX12_looks 70 = .ok (.iconst 0, 1) := by decide +kernel
theorem dX12_looks_71 : decode cX12_looks 71 = .ok (.iconst 0, 1) := by decide +kernel
theorem dX12_looks_72 : decode cX12_looks 72 = .ok (.iastore, 1) := by decide +kernel
theorem dX12_looks_73 : decode cX12_looks 73 = .ok (.aload_n 0, 1) := by decide +kernel
theorem dX12_looks_74 : decode cX12_looks 74 = .ok (.getfield 190, 3) := by decide +kernel
theorem dX12_looks_77 : decode cX12_looks 77 = .ok (.iconst 0, 1) := by decide +kernel
theorem dX12_looks_78 : decode cX12_looks 78 = .ok (.iconst 0, 1) := by decide +kernel
theorem dX12_looks_79 : decode cX12_looks 79 = .ok (.iastore, 1) := by decide +kernel
theorem dX12_looks_80 : decode cX12_looks 80 = .ok (.iconst 0, 1) := by decide +kernel
theorem dX12_looks_81 : decode cX12_looks 81 = .ok (.istore 5, 2) := by decide +kernel
theorem dX12_looks_83 : decode cX12_looks 83 = .ok (.iload 5, 2) := by decide +kernel
theorem dX12_looks_85 : decode cX12_looks 85 = .ok (.bipush 20, 2) := by decide +kernel
theorem dX12_looks_87 : decode cX12_looks 87 = .ok (.if_icmp .ge 226, 3) := by decide +kernel
theorem dX12_looks_90 : decode cX12_looks 90 = .ok (.aload_n 0, 1) := by decide +kernel
theorem dX12_looks_91 : decode cX12_looks 91 = .ok (.getfield 181, 3) := by decide +kernel
theorem dX12_looks_94 : decode cX12_looks 94 = .ok (.bipush 20, 2) := by decide +kernel
theorem dX12_looks_96 : decode cX12_looks 96 = .ok (.iload_n 1, 1) := by decide +kernel
theorem dX12_looks_97 : decode cX12_looks 97 = .ok (.imul, 1) := by decide +kernel
theorem dX12_looks_98 : decode cX12_looks 98 = .ok (.iload 5, 2) := by decide +kernel
theorem dX12_looks_100 : decode cX12_looks 100 = .ok (.iadd, 1) := by decide +kernel
theorem dX12_looks_101 : decode cX12_looks 101 = .ok (.iaload, 1) := by decide +kernel
theorem dX12_looks_102 : decode cX12_looks 102 = .ok (.iconst (-1), 1) := by decide +kernel
theorem dX12_looks_103 : decode cX12_looks 103 = .ok (.if_icmp .eq 6, 3) := by decide +kernel
theorem dX12_looks_106 : decode cX12_looks 106 = .ok (.goto 201, 3) := by decide +kernel
theorem dX12_looks_109 : decode cX12_looks 109 = .ok (.aload_n 0, 1) := by decide +kernel
theorem dX12_looks_110 : decode cX12_looks 110 = .ok (.iload_n 1, 1) := by decide +kernel
theorem dX12_looks_111 : decode cX12_looks 111 = .ok (.iload 5, 2) := by decide +kernel
theorem dX12_looks_113 : decode cX12_looks 113 = .ok (.iconst 1, 1) := by decide +kernel
theorem dX12_looks_114 : decode cX12_looks 114 = .ok (.invokevirtual 485, 3) := by decide +kernel
theorem dX12_looks_117 : decode cX12_looks 117 = .ok (.aload_n 0, 1) := by decide +kernel
theorem dX12_looks_118 : decode cX12_looks 118 = .ok (.iload_n 1, 1) := by decide +kernel
theorem dX12_looks_119 : decode cX12_looks 119 = .ok (.iload 5, 2) := by decide +kernel
theorem dX12_looks_121 : decode cX12_looks 121 = .ok (.iconst 0, 1) := by decide +kernel
theorem dX12_looks_122 : decode cX12_looks 122 = .ok (.invokevirtual 485, 3) := by decide +kernel
theorem dX12_looks_125 : decode cX12_looks 125 = .ok (.isub, 1) := by decide +kernel
theorem dX12_looks_126 : decode cX12_looks 126 = .ok (.istore 6, 2) := by decide +kernel
theorem dX12_looks_128 : decode cX12_looks 128 = .ok (.iload_n 2, 1) := by decide +kernel
theorem dX12_looks_129 : decode cX12_looks 129 = .ok (.istore 7, 2) := by decide +kernel
theorem dX12_looks_131 : decode cX12_looks 131 = .ok (.iload 7, 2) := by decide +kernel
theorem dX12_looks_133 : decode cX12_looks 133 = .ok (.ifCond .le 174, 3) := by decide +kernel
theorem dX12_looks_136 : decode cX12_looks 136 = .ok (.iload_n 3, 1) := by decide +kernel
theorem dX12_looks_137 : decode cX12_looks 137 = .ok (.istore 8, 2) := by decide +kernel
theorem dX12_looks_139 : decode cX12_looks 139 = .ok (.iload 8, 2) := by decide +kernel
theorem dX12_looks_141 : decode cX12_looks 141 = .ok (.aload_n 0, 1) := by decide +kernel
theorem dX12_looks_142 : decode cX12_looks 142 = .ok (.getfield 184, 3) := by decide +kernel
theorem dX12_looks_145 : decode cX12_looks 145 = .ok (.iload 5, 2) := by decide +kernel
theorem dX12_looks_147 : decode cX12_looks 147 = .ok (.iaload, 1) := by decide +kernel
theorem dX12_looks_148 : decode cX12_looks 148 = .ok (.if_icmp .lt 153, 3) := by decide +kernel
theorem dX12_looks_151 : decode cX12_looks 151 = .ok (.sipush 1000, 3) := by decide +kernel
theorem dX12_looks_154 : decode cX12_looks 154 = .ok (.iload 7, 2) := by decide +kernel
theorem dX12_looks_156 : decode cX12_looks 156 = .ok (.iconst 1, 1) := by decide +kernel
theorem dX12_looks_157 : decode cX12_looks 157 = .ok (.isub, 1) := by decide +kernel
theorem dX12_looks_158 : decode cX12_looks 158 = .ok (.imul, 1) := by decide +kernel
theorem dX12_looks_159 : decode cX12_looks 159 = .ok (.iload 8, 2) := by decide +kernel
theorem dX12_looks_161 : decode cX12_looks 161 = .ok (.iadd, 1) := by decide +kernel
theorem dX12_looks_162 : decode cX12_looks 162 = .ok (.aload_n 0, 1) := by decide +kernel
theorem dX12_looks_163 : decode cX12_looks 163 = .ok (.getfield 184, 3) := by decide +kernel
theorem dX12_looks_166 : decode cX12_looks 166 = .ok (.iload 5, 2) := by decide +kernel
theorem dX12_looks_168 : decode cX12_looks 168 = .ok (.iaload, 1) := by decide +kernel
theorem dX12_looks_169 : decode cX12_looks 169 = .ok (.isub, 1) := by decide +kernel
theorem dX12_looks_170 : decode cX12_looks 170 = .ok (.istore 9, 2) := by decide +kernel
theorem dX12_looks_172 : decode cX12_looks 172 = .ok (.sipush 1000, 3) := by decide +kernel
theorem dX12_looks_175 : decode cX12_looks 175 = .ok (.iload 7, 2) := by decide +kernel
theorem dX12_looks_177 : decode cX12_looks 177 = .ok (.imul, 1) := by decide +kernel
theorem dX12_looks_178 : decode cX12_looks 178 = .ok (.iload 8, 2) := by decide +kernel
theorem dX12_looks_180 : decode cX12_looks 180 = .ok (.iadd, 1) := by decide +kernel
theorem dX12_looks_181 : decode cX12_looks 181 = .ok (.istore 10, 2) := by decide +kernel
theorem dX12_looks_183 : decode cX12_looks 183 = .ok (.aload_n 0, 1) := by decide +kernel
theorem dX12_looks_184 : decode cX12_looks 184 = .ok (.getfield 187, 3) := by decide +kernel
theorem dX12_looks_187 : decode cX12_looks 187 = .ok (.iload 9, 2) := by decide +kernel
theorem dX12_looks_189 : decode cX12_looks 189 = .ok (.iaload, 1) := by decide +kernel
theorem dX12_looks_190 : decode cX12_looks 190 = .ok (.iconst (-1), 1) := by decide +kernel
theorem dX12_looks_191 : decode cX12_looks 191 = .ok (.if_icmp .eq 104, 3) := by decide +kernel
theorem dX12_looks_194 : decode cX12_looks 194 = .ok (.aload_n 0, 1) := by decide +kernel
theorem dX12_looks_195 : decode cX12_looks 195 = .ok (.getfield 187, 3) := by decide +kernel
theorem dX12_looks_198 : decode cX12_looks 198 = .ok (.iload 9, 2) := by decide +kernel
theorem dX12_looks_200 : decode cX12_looks 200 = .ok (.iaload, 1) := by decide +kernel
theorem dX12_looks_201 : decode cX12_looks 201 = .ok (.iload 6, 2) := by decide +kernel
theorem dX12_looks_203 : decode cX12_looks 203 = .ok (.iadd, 1) := by decide +kernel
theorem dX12_looks_204 : decode cX12_looks 204 = .ok (.aload_n 0, 1) := by decide +kernel
theorem dX12_looks_205 : decode cX12_looks 205 = .ok (.getfield 187, 3) := by decide +kernel
theorem dX12_looks_208 : decode cX12_looks 208 = .ok (.iload 10, 2) := by decide +kernel
theorem dX12_looks_210 : decode cX12_looks 210 = .ok (.iaload, 1) := by decide +kernel
theorem dX12_looks_211 : decode cX12_looks 211 = .ok (.if_icmp .lt 84, 3) := by decide +kernel
theorem dX12_looks_214 : decode cX12_looks 214 = .ok (.aload_n 0, 1) := by decide +kernel
theorem dX12_looks_215 : decode cX12_looks 215 = .ok (.getfield 187, 3) := by decide +kernel
theorem dX12_looks_218 : decode cX12_looks 218 = .ok (.iload 9, 2) := by decide +kernel
theorem dX12_looks_220 : decode cX12_looks 220 = .ok (.iaload, 1) := by decide +kernel
theorem dX12_looks_221 : decode cX12_looks 221 = .ok (.iload 6, 2) := by decide +kernel
theorem dX12_looks_223 : decode cX12_looks 223 = .ok (.iadd, 1) := by decide +kernel
theorem dX12_looks_224 : decode cX12_looks 224 = .ok (.aload_n 0, 1) := by decide +kernel
theorem dX12_looks_225 : decode cX12_looks 225 = .ok (.getfield 187, 3) := by decide +kernel
theorem dX12_looks_228 : decode cX12_looks 228 = .ok (.iload 10, 2) := by decide +kernel
theorem dX12_looks_230 : decode cX12_looks 230 = .ok (.iaload, 1) := by decide +kernel
theorem dX12_looks_231 : decode cX12_looks 231 = .ok (.if_icmp .ne 28, 3) := by decide +kernel
theorem dX12_looks_234 : decode cX12_looks 234 = .ok (.aload_n 0, 1) := by decide +kernel
theorem dX12_looks_235 : decode cX12_looks 235 = .ok (.getfield 190, 3) := by decide +kernel
theorem dX12_looks_238 : decode cX12_looks 238 = .ok (.iload 9, 2) := by decide +kernel
theorem dX12_looks_240 : decode cX12_looks 240 = .ok (.iaload, 1) := by decide +kernel
theorem dX12_looks_241 : decode cX12_looks 241 = .ok (.iconst 1, 1) := by decide +kernel
theorem dX12_looks_242 : decode cX12_looks 242 = .ok (.iload 5, 2) := by decide +kernel
theorem dX12_looks_244 : decode cX12_looks 244 = .ok (.ishl, 1) := by decide +kernel
theorem dX12_looks_245 : decode cX12_looks 245 = .ok (.ior, 1) := by decide +kernel
theorem dX12_looks_246 : decode cX12_looks 246 = .ok (.aload_n 0, 1) := by decide +kernel
theorem dX12_looks_247 : decode cX12_looks 247 = .ok (.getfield 190, 3) := by decide +kernel
theorem dX12_looks_250 : decode cX12_looks 250 = .ok (.iload 10, 2) := by decide +kernel
theorem dX12_looks_252 : decode cX12_looks 252 = .ok (.iaload, 1) := by decide +kernel
theorem dX12_looks_253 : decode cX12_looks 253 = .ok (.if_icmp .lt 6, 3) := by decide +kernel
theorem dX12_looks_256 : decode cX12_looks 256 = .ok (.goto 39, 3) := by decide +kernel
theorem dX12_looks_259 : decode cX12_looks 259 = .ok (.aload_n 0, 1) := by decide +kernel
theorem dX12_looks_260 : decode cX12_looks 260 = .ok (.getfield 187, 3) := by decide +kernel
theorem dX12_looks_263 : decode cX12_looks 263 = .ok (.iload 10, 2) := by decide +kernel
theorem dX12_looks_265 : decode cX12_looks 265 = .ok (.aload_n 0, 1) := by decide +kernel
theorem dX12_looks_266 : decode cX12_looks 266 = .ok (.getfield 187, 3) := by decide +kernel
theorem dX12_looks_269 : decode cX12_looks 269 = .ok (.iload 9, 2) := by decide +kernel
theorem dX12_looks_271 : decode cX12_looks 271 = .ok (.iaload, 1) := by decide +kernel
theorem dX12_looks_272 : decode cX12_looks 272 = .ok (.iload 6, 2) := by decide +kernel
theorem dX12_looks_274 : decode cX12_looks 274 = .ok (.iadd, 1) := by decide +kernel
theorem dX12_looks_275 : decode cX12_looks 275 = .ok (.iastore, 1) := by decide +kernel
theorem dX12_looks_276 : decode cX12_looks 276 = .ok (.aload_n 0, 1) := by decide +kernel
theorem dX12_looks_277 : decode cX12_looks 277 = .ok (.getfield 190, 3) := by decide +kernel
theorem dX12_looks_280 : decode cX12_looks 280 = .ok (.iload 10, 2) := by decide +kernel
theorem dX12_looks_282 : decode cX12_looks 282 = .ok (.aload_n 0, 1) := by decide +kernel
theorem dX12_looks_283 : decode cX12_looks 283 = .ok (.getfield 190, 3) := by decide +kernel
theorem dX12_looks_286 : decode cX12_looks 286 = .ok (.iload 9, 2) := by decide +kernel
theorem dX12_looks_288 : decode cX12_looks 288 = .ok (.iaload, 1) := by decide +kernel
theorem dX12_looks_289 : decode cX12_looks 289 = .ok (.iconst 1, 1) := by decide +kernel
theorem dX12_looks_290 : decode cX12_looks 290 = .ok (.iload 5, 2) := by decide +kernel
theorem dX12_looks_292 : decode cX12_looks 292 = .ok (.ishl, 1) := by decide +kernel
theorem dX12_looks_293 : decode cX12_looks 293 = .ok (.ior, 1) := by decide +kernel
theorem dX12_looks_294 : decode cX12_looks 294 = .ok (.iastore, 1) := by decide +kernel
theorem dX12_looks_295 : decode cX12_looks 295 = .ok (.iinc 8 (-1), 3) := by decide +kernel
theorem dX12_looks_298 : decode cX12_looks 298 = .ok (.goto (-159), 3) := by decide +kernel
theorem dX12_looks_301 : decode cX12_looks 301 = .ok (.iinc 7 (-1), 3) := by decide +kernel
theorem dX12_looks_304 : decode cX12_looks 304 = .ok (.goto (-173), 3) := by decide +kernel
theorem dX12_looks_307 : decode cX12_looks 307 = .ok (.iinc 5 1, 3) := by decide +kernel
theorem dX12_looks_310 : decode cX12_looks 310 = .ok (.goto (-227), 3) := by decide +kernel
theorem dX12_looks_313 : decode cX12_looks 313 = .ok (.iconst 0, 1) := by decide +kernel
theorem dX12_looks_314 : decode cX12_looks 314 = .ok (.istore 5, 2) := by decide +kernel
theorem dX12_looks_316 : decode cX12_looks 316 = .ok (.iconst 0, 1) := by decide +kernel
theorem dX12_looks_317 : decode cX12_looks 317 = .ok (.istore 6, 2) := by decide +kernel
theorem dX12_looks_319 : decode cX12_looks 319 = .ok (.iload 6, 2) := by decide +kernel
theorem dX12_looks_321 : decode cX12_looks 321 = .ok (.sipush 21000, 3) := by decide +kernel
theorem dX12_looks_324 : decode cX12_looks 324 = .ok (.if_icmp .ge 108, 3) := by decide +kernel
theorem dX12_looks_327 : decode cX12_looks 327 = .ok (.aload_n 0, 1) := by decide +kernel
theorem dX12_looks_328 : decode cX12_looks 328 = .ok (.getfield 187, 3) := by decide +kernel
theorem dX12_looks_331 : decode cX12_looks 331 = .ok (.iload 6, 2) := by decide +kernel
theorem dX12_looks_333 : decode cX12_looks 333 = .ok (.iaload, 1) := by decide +kernel
theorem dX12_looks_334 : decode cX12_looks 334 = .ok (.aload_n 0, 1) := by decide +kernel
theorem dX12_looks_335 : decode cX12_looks 335 = .ok (.getfield 187, 3) := by decide +kernel
theorem dX12_looks_338 : decode cX12_looks 338 = .ok (.iload 5, 2) := by decide +kernel
theorem dX12_looks_340 : decode cX12_looks 340 = .ok (.iaload, 1) := by decide +kernel
theorem dX12_looks_341 : decode cX12_looks 341 = .ok (.if_icmp .lt 85, 3) := by decide +kernel
theorem dX12_looks_344 : decode cX12_looks 344 = .ok (.aload_n 0, 1) := by decide +kernel
theorem dX12_looks_345 : decode cX12_looks 345 = .ok (.getfield 187, 3) := by decide +kernel
theorem dX12_looks_348 : decode cX12_looks 348 = .ok (.iload 6, 2) := by decide +kernel
theorem dX12_looks_350 : decode cX12_looks 350 = .ok (.iaload, 1) := by decide +kernel
theorem dX12_looks_351 : decode cX12_looks 351 = .ok (.iconst (-1), 1) := by decide +kernel
theorem dX12_looks_352 : decode cX12_looks 352 = .ok (.if_icmp .ne 6, 3) := by decide +kernel
theorem dX12_looks_355 : decode cX12_looks 355 = .ok (.goto 71, 3) := by decide +kernel
theorem dX12_looks_358 : decode cX12_looks 358 = .ok (.aload_n 0, 1) := by decide +kernel
theorem dX12_looks_359 : decode cX12_looks 359 = .ok (.getfield 187, 3) := by decide +kernel
theorem dX12_looks_362 : decode cX12_looks 362 = .ok (.iload 6, 2) := by decide +kernel
theorem dX12_looks_364 : decode cX12_looks 364 = .ok (.iaload, 1) := by decide +kernel
theorem dX12_looks_365 : decode cX12_looks 365 = .ok (.aload_n 0, 1) := by decide +kernel
theorem dX12_looks_366 : decode cX12_looks 366 = .ok (.getfield 187, 3) := by decide +kernel
theorem dX12_looks_369 : decode cX12_looks 369 = .ok (.iload 5, 2) := by decide +kernel
theorem dX12_looks_371 : decode cX12_looks 371 = .ok (.iaload, 1) := by decide +kernel
theorem dX12_looks_372 : decode cX12_looks 372 = .ok (.if_icmp .gt 50, 3) := by decide +kernel
theorem dX12_looks_375 : decode cX12_looks 375 = .ok (.iload 6, 2) := by decide +kernel
theorem dX12_looks_377 : decode cX12_looks 377 = .ok (.sipush 1000, 3) := by decide +kernel
theorem dX12_looks_380 : decode cX12_looks 380 = .ok (.irem, 1) := by decide +kernel
theorem dX12_looks_381 : decode cX12_looks 381 = .ok (.iload 5, 2) := by decide +kernel
theorem dX12_looks_383 : decode cX12_looks 383 = .ok (.sipush 1000, 3) := by decide +kernel
theorem dX12_looks_386 : decode cX12_looks 386 = .ok (.irem, 1) := by decide +kernel
theorem dX12_looks_387 : decode cX12_looks 387 = .ok (.if_icmp .lt 35, 3) := by decide +kernel
theorem dX12_looks_390 : decode cX12_looks 390 = .ok (.iload 6, 2) := by decide +kernel
theorem dX12_looks_392 : decode cX12_looks 392 = .ok (.sipush 1000, 3) := by decide +kernel
theorem dX12_looks_395 : decode cX12_looks 395 = .ok (.irem, 1) := by decide +kernel
theorem dX12_looks_396 : decode cX12_looks 396 = .ok (.iload 5, 2) := by decide +kernel
theorem dX12_looks_398 : decode cX12_looks 398 = .ok (.sipush 1000, 3) := by decide +kernel
theorem dX12_looks_401 : decode cX12_looks 401 = .ok (.irem, 1) := by decide +kernel
theorem dX12_looks_402 : decode cX12_looks 402 = .ok (.if_icmp .ne 24, 3) := by decide +kernel
theorem dX12_looks_405 : decode cX12_looks 405 = .ok (.aload_n 0, 1) := by decide +kernel
theorem dX12_looks_406 : decode cX12_looks 406 = .ok (.getfield 190, 3) := by decide +kernel
theorem dX12_looks_409 : decode cX12_looks 409 = .ok (.iload 6, 2) := by decide +kernel
theorem dX12_looks_411 : decode cX12_looks 411 = .ok (.iaload, 1) := by decide +kernel
theorem dX12_looks_412 : decode cX12_looks 412 = .ok (.aload_n 0, 1) := by decide +kernel
theorem dX12_looks_413 : decode cX12_looks 413 = .ok (.getfield 190, 3) := by decide +kernel
theorem dX12_looks_416 : decode cX12_looks 416 = .ok (.iload 5, 2) := by decide +kernel
theorem dX12_looks_418 : decode cX12_looks 418 = .ok (.iaload, 1) := by decide +kernel
theorem dX12_looks_419 : decode cX12_looks 419 = .ok (.if_icmp .ge 7, 3) := by decide +kernel
theorem dX12_looks_422 : decode cX12_looks 422 = .ok (.iload 6, 2) := by decide +kernel
theorem dX12_looks_424 : decode cX12_looks 424 = .ok (.istore 5, 2) := by decide +kernel
theorem dX12_looks_426 : decode cX12_looks 426 = .ok (.iinc 6 1, 3) := by decide +kernel
theorem dX12_looks_429 : decode cX12_looks 429 = .ok (.goto (-110), 3) := by decide +kernel
theorem dX12_looks_432 : decode cX12_looks 432 = .ok (.iload 4, 2) := by decide +kernel
theorem dX12_looks_434 : decode cX12_looks 434 = .ok (.ifCond .ne 13, 3) := by decide +kernel
theorem dX12_looks_437 : decode cX12_looks 437 = .ok (.aload_n 0, 1) := by decide +kernel
theorem dX12_looks_438 : decode cX12_looks 438 = .ok (.getfield 190, 3) := by decide +kernel
theorem dX12_looks_441 : decode cX12_looks 441 = .ok (.iload 5, 2) := by decide +kernel
theorem dX12_looks_443 : decode cX12_looks 443 = .ok (.iaload, 1) := by decide +kernel
theorem dX12_looks_444 : decode cX12_looks 444 = .ok (.goto 25, 3) := by decide +kernel
theorem dX12_looks_447 : decode cX12_looks 447 = .ok (.iload 4, 2) := by decide +kernel
theorem dX12_looks_449 : decode cX12_looks 449 = .ok (.iconst 1, 1) := by decide +kernel
theorem dX12_looks_450 : decode cX12_looks 450 = .ok (.if_icmp .ne 13, 3) := by decide +kernel
theorem dX12_looks_453 : decode cX12_looks 453 = .ok (.aload_n 0, 1) := by decide +kernel
theorem dX12_looks_454 : decode cX12_looks 454 = .ok (.getfield 187, 3) := by decide +kernel
theorem dX12_looks_457 : decode cX12_looks 457 = .ok (.iload 5, 2) := by decide +kernel
theorem dX12_looks_459 : decode cX12_looks 459 = .ok (.iaload, 1) := by decide +kernel
theorem dX12_looks_460 : decode cX12_looks 460 = .ok (.goto 9, 3) := by decide +kernel
theorem dX12_looks_463 : decode cX12_looks 463 = .ok (.iload 5, 2) := by decide +kernel
theorem dX12_looks_465 : decode cX12_looks 465 = .ok (.sipush 1000, 3) := by decide +kernel
theorem dX12_looks_468 : decode cX12_looks 468 = .ok (.irem, 1) := by decide +kernel
theorem dX12_looks_469 : decode cX12_looks 469 = .ok (.ireturn, 1) := by decide +kernel
theorem dX12_look_0 : decode cX12_look 0 = .ok (.lconst 0, 1) := by decide +kernel
theorem dX12_look_1 : decode cX12_look 1 = .ok (.lstore_n 2, 1) := by decide +kernel
theorem dX12_look_2 : decode cX12_look 2 = .ok (.iload_n 1, 1) := by decide +kernel
theorem dX12_look_3 : decode cX12_look 3 = .ok (.tableswitch 198 0 8 #[49, 55, 61, 67, 73, 79, 118, 163, 192], 49) := by decide +kernel
theorem dX12_look_52 : decode cX12_look 52 = .ok (.aload_n 0, 1) := by decide +kernel
theorem dX12_look_53 : decode cX12_look 53 = .ok (.getfield 197, 3) := by decide +kernel
theorem dX12_look_56 : decode cX12_look 56 = .ok (.i2l, 1) := by decide +kernel
theorem dX12_look_57 : decode cX12_look 57 = .ok (.lreturn, 1) := by decide +kernel
theorem dX12_look_58 : decode cX12_look 58 = .ok (.aload_n 0, 1) := by decide +kernel
theorem dX12_look_59 : decode cX12_look 59 = .ok (.getfield 204, 3) := by decide +kernel
theorem dX12_look_62 : decode cX12_look 62 = .ok (.i2l, 1) := by decide +kernel
theorem dX12_look_63 : decode cX12_look 63 = .ok (.lreturn, 1) := by decide +kernel
theorem dX12_look_64 : decode cX12_look 64 = .ok (.aload_n 0, 1) := by decide +kernel
theorem dX12_look_65 : decode cX12_look 65 = .ok (.getfield 207, 3) := by decide +kernel
theorem dX12_look_68 : decode cX12_look 68 = .ok (.i2l, 1) := by decide +kernel
theorem dX12_look_69 : decode cX12_look 69 = .ok (.lreturn, 1) := by decide +kernel
theorem dX12_look_70 : decode cX12_look 70 = .ok (.aload_n 0, 1) := by decide +kernel
theorem dX12_look_71 : decode cX12_look 71 = .ok (.getfield 210, 3) := by decide +kernel
theorem dX12_look_74 : decode cX12_look 74 = .ok (.i2l, 1) := by decide +kernel
theorem dX12_look_75 : decode cX12_look 75 = .ok (.lreturn, 1) := by decide +kernel
theorem dX12_look_76 : decode cX12_look 76 = .ok (.aload_n 0, 1) := by decide +kernel
theorem dX12_look_77 : decode cX12_look 77 = .ok (.getfield 234, 3) := by decide +kernel
theorem dX12_look_80 : decode cX12_look 80 = .ok (.i2l, 1) := by decide +kernel
theorem dX12_look_81 : decode cX12_look 81 = .ok (.lreturn, 1) := by decide +kernel
theorem dX12_look_82 : decode cX12_look 82 = .ok (.iconst 0, 1) := by decide +kernel
theorem dX12_look_83 : decode cX12_look 83 = .ok (.istore 4, 2) := by decide +kernel
theorem dX12_look_85 : decode cX12_look 85 = .ok (.iload 4, 2) := by decide +kernel
theorem dX12_look_87 : decode cX12_look 87 = .ok (.aload_n 0, 1) := by decide +kernel
theorem dX12_look_88 : decode cX12_look 88 = .ok (.getfield 210, 3) := by decide +kernel
theorem dX12_look_91 : decode cX12_look 91 = .ok (.if_icmp .ge 28, 3) := by decide +kernel
theorem dX12_look_94 : decode cX12_look 94 = .ok (.lload_n 2, 1) := by decide +kernel
theorem dX12_look_95 : decode cX12_look 95 = .ok (.aload_n 0, 1) := by decide +kernel
theorem dX12_look_96 : decode cX12_look 96 = .ok (.getfield 128, 3) := by decide +kernel
theorem dX12_look_99 : decode cX12_look 99 = .ok (.iload 4, 2) := by decide +kernel
theorem dX12_look_101 : decode cX12_look 101 = .ok (.iaload, 1) := by decide +kernel
theorem dX12_look_102 : decode cX12_look 102 = .ok (.iconst (-1), 1) := by decide +kernel
theorem dX12_look_103 : decode cX12_look 103 = .ok (.if_icmp .ne 7, 3) := by decide +kernel
theorem dX12_look_106 : decode cX12_look 106 = .ok (.lconst 0, 1) := by decide +kernel
theorem dX12_look_107 : decode cX12_look 107 = .ok (.goto 4, 3) := by decide +kernel
theorem dX12_look_110 : decode cX12_look 110 = .ok (.lconst 1, 1) := by decide +kernel
theorem dX12_look_111 : decode cX12_look 111 = .ok (.ladd, 1) := by decide +kernel
theorem dX12_look_112 : decode cX12_look 112 = .ok (.lstore_n 2, 1) := by decide +kernel
theorem dX12_look_113 : decode cX12_look 113 = .ok (.iinc 4 1, 3) := by decide +kernel
theorem dX12_look_116 : decode cX12_look 116 = .ok (.goto (-31), 3) := by decide +kernel
theorem dX12_look_119 : decode cX12_look 119 = .ok (.lload_n 2, 1) := by decide +kernel
theorem dX12_look_120 : decode cX12_look 120 = .ok (.lreturn, 1) := by decide +kernel
theorem dX12_look_121 : decode cX12_look 121 = .ok (.iconst 0, 1) := by decide +kernel
theorem dX12_look_122 : decode cX12_look 122 = .ok (.istore 4, 2) := by decide +kernel
theorem dX12_look_124 : decode cX12_look 124 = .ok (.iload 4, 2) := by decide +kernel
theorem dX12_look_126 : decode cX12_look 126 = .ok (.aload_n 0, 1) := by decide +kernel
theorem dX12_look_127 : decode cX12_look 127 = .ok (.getfield 210, 3) := by decide +kernel
theorem dX12_look_130 : decode cX12_look 130 = .ok (.if_icmp .ge 34, 3) := by decide +kernel
theorem dX12_look_133 : decode cX12_look 133 = .ok (.lload_n 2, 1) := by decide +kernel
theorem dX12_look_134 : decode cX12_look 134 = .ok (.aload_n 0, 1) := by decide +kernel
theorem dX12_look_135 : decode cX12_look 135 = .ok (.getfield 128, 3) := by decide +kernel
theorem dX12_look_138 : decode cX12_look 138 = .ok (.iload 4, 2) := by decide +kernel
theorem dX12_look_140 : decode cX12_look 140 = .ok (.iaload, 1) := by decide +kernel
theorem dX12_look_141 : decode cX12_look 141 = .ok (.iconst (-1), 1) := by decide +kernel
theorem dX12_look_142 : decode cX12_look 142 = .ok (.if_icmp .ne 7, 3) := by decide +kernel
theorem dX12_look_145 : decode cX12_look 145 = .ok (.lconst 0, 1) := by decide +kernel
theorem dX12_look_146 : decode cX12_look 146 = .ok (.goto 10, 3) := by decide +kernel
theorem dX12_look_149 : decode cX12_look 149 = .ok (.aload_n 0, 1) := by decide +kernel
theorem dX12_look_150 : decode cX12_look 150 = .ok (.getfield 137, 3) := by decide +kernel
theorem dX12_look_153 : decode cX12_look 153 = .ok (.iload 4, 2) := by decide +kernel
theorem dX12_look_155 : decode cX12_look 155 = .ok (.laload, 1) := by decide +kernel
theorem dX12_look_156 : decode cX12_look 156 = .ok (.ladd, 1) := by decide +kernel
theorem dX12_look_157 : decode cX12_look 157 = .ok (.lstore_n 2, 1) := by decide +kernel
theorem dX12_look_158 : decode cX12_look 158 = .ok (.iinc 4 1, 3) := by decide +kernel
theorem dX12_look_161 : decode cX12_look 161 = .ok (.goto (-37), 3) := by decide +kernel
theorem dX12_look_164 : decode cX12_look 164 = .ok (.lload_n 2, 1) := by decide +kernel
theorem dX12_look_165 : decode cX12_look 165 = .ok (.lreturn, 1) := by decide +kernel
theorem dX12_look_166 : decode cX12_look 166 = .ok (.iconst 0, 1) := by decide +kernel
theorem dX12_look_167 : decode cX12_look 167 = .ok (.istore 4, 2) := by decide +kernel
theorem dX12_look_169 : decode cX12_look 169 = .ok (.iload 4, 2) := by decide +kernel
theorem dX12_look_171 : decode cX12_look 171 = .ok (.aload_n 0, 1) := by decide +kernel
theorem dX12_look_172 : decode cX12_look 172 = .ok (.getfield 210, 3) := by decide +kernel
theorem dX12_look_175 : decode cX12_look 175 = .ok (.if_icmp .ge 18, 3) := by decide +kernel
theorem dX12_look_178 : decode cX12_look 178 = .ok (.lload_n 2, 1) := by decide +kernel
theorem dX12_look_179 : decode cX12_look 179 = .ok (.aload_n 0, 1) := by decide +kernel
theorem dX12_look_180 : decode cX12_look 180 = .ok (.iload 4, 2) := by decide +kernel
theorem dX12_look_182 : decode cX12_look 182 = .ok (.invokevirtual 420, 3) := by decide +kernel
theorem dX12_look_185 : decode cX12_look 185 = .ok (.ladd, 1) := by decide +kernel
theorem dX12_look_186 : decode cX12_look 186 = .ok (.lstore_n 2, 1) := by decide +kernel
theorem dX12_look_187 : decode cX12_look 187 = .ok (.iinc 4 1, 3) := by decide +kernel
theorem dX12_look_190 : decode cX12_look 190 = .ok (.goto (-21), 3) := by decide +kernel
theorem dX12_look_193 : decode cX12_look 193 = .ok (.lload_n 2, 1) := by decide +kernel
theorem dX12_look_194 : decode cX12_look 194 = .ok (.lreturn, 1) := by decide +kernel
theorem dX12_look_195 : decode cX12_look 195 = .ok (.aload_n 0, 1) := by decide +kernel
theorem dX12_look_196 : decode cX12_look 196 = .ok (.getfield 411, 3) := by decide +kernel
theorem dX12_look_199 : decode cX12_look 199 = .ok (.i2l, 1) := by decide +kernel
theorem dX12_look_200 : decode cX12_look 200 = .ok (.lreturn, 1) := by decide +kernel
theorem dX12_look_201 : decode cX12_look 201 = .ok (.ldc2_w 257, 3) := by decide +kernel
theorem dX12_look_204 : decode cX12_look 204 = .ok (.lreturn, 1) := by decide +kernel
theorem dJ6_bitCount_0f7a4_0 : decode cJ6_bitCount_0f7a4 0 = .ok (.iload_n 0, 1) := by decide +kernel
theorem dJ6_bitCount_0f7a4_1 : decode cJ6_bitCount_0f7a4 1 = .ok (.iload_n 0, 1) := by decide +kernel
theorem dJ6_bitCount_0f7a4_2 : decode cJ6_bitCount_0f7a4 2 = .ok (.iconst 1, 1) := by decide +kernel
theorem dJ6_bitCount_0f7a4_3 : decode cJ6_bitCount_0f7a4 3 = .ok (.iushr, 1) := by decide +kernel
theorem dJ6_bitCount_0f7a4_4 : decode cJ6_bitCount_0f7a4 4 = .ok (.ldc_w 265, 3) := by decide +kernel
theorem dJ6_bitCount_0f7a4_7 : decode cJ6_bitCount_0f7a4 7 = .ok (.iand, 1) := by decide +kernel
theorem dJ6_bitCount_0f7a4_8 : decode cJ6_bitCount_0f7a4 8 = .ok (.isub, 1) := by decide +kernel
theorem dJ6_bitCount_0f7a4_9 : decode cJ6_bitCount_0f7a4 9 = .ok (.istore_n 0, 1) := by decide +kernel
theorem dJ6_bitCount_0f7a4_10 : decode cJ6_bitCount_0f7a4 10 = .ok (.iload_n 0, 1) := by decide +kernel
theorem dJ6_bitCount_0f7a4_11 : decode cJ6_bitCount_0f7a4 11 = .ok (.ldc_w 266, 3) := by decide +kernel
theorem dJ6_bitCount_0f7a4_14 : decode cJ6_bitCount_0f7a4 14 = .ok (.iand, 1) := by decide +kernel
theorem dJ6_bitCount_0f7a4_15 : decode cJ6_bitCount_0f7a4 15 = .ok (.iload_n 0, 1) := by decide +kernel
theorem dJ6_bitCount_0f7a4_16 : decode cJ6_bitCount_0f7a4 16 = .ok (.iconst 2, 1) := by decide +kernel
theorem dJ6_bitCount_0f7a4_17 : decode cJ6_bitCount_0f7a4 17 = .ok (.iushr, 1) := by decide +kernel
theorem dJ6_bitCount_0f7a4_18 : decode cJ6_bitCount_0f7a4 18 = .ok (.ldc_w 266, 3) := by decide +kernel
theorem dJ6_bitCount_0f7a4_21 : decode cJ6_bitCount_0f7a4 21 = .ok (.iand, 1) := by decide +kernel
theorem dJ6_bitCount_0f7a4_22 : decode cJ6_bitCount_0f7a4 22 = .ok (.iadd, 1) := by decide +kernel
theorem dJ6_bitCount_0f7a4_23 : decode cJ6_bitCount_0f7a4 23 = .ok (.istore_n 0, 1) := by decide +kernel
theorem dJ6_bitCount_0f7a4_24 : decode cJ6_bitCount_0f7a4 24 = .ok (.iload_n 0, 1) := by decide +kernel
theorem dJ6_bitCount_0f7a4_25 : decode cJ6_bitCount_0f7a4 25 = .ok (.iload_n 0, 1) := by decide +kernel
theorem dJ6_bitCount_0f7a4_26 : decode cJ6_bitCount_0f7a4 26 = .ok (.iconst 4, 1) := by decide +kernel
theorem dJ6_bitCount_0f7a4_27 : decode cJ6_bitCount_0f7a4 27 = .ok (.iushr, 1) := by decide +kernel
theorem dJ6_bitCount_0f7a4_28 : decode cJ6_bitCount_0f7a4 28 = .ok (.iadd, 1) := by decide +kernel
theorem dJ6_bitCount_0f7a4_29 : decode cJ6_bitCount_0f7a4 29 = .ok (.ldc_w 267, 3) := by decide +kernel
theorem dJ6_bitCount_0f7a4_32 : decode cJ6_bitCount_0f7a4 32 = .ok (.iand, 1) := by decide +kernel
theorem dJ6_bitCount_0f7a4_33 : decode cJ6_bitCount_0f7a4 33 = .ok (.istore_n 0, 1) := by decide +kernel
theorem dJ6_bitCount_0f7a4_34 : decode cJ6_bitCount_0f7a4 34 = .ok (.iload_n 0, 1) := by decide +kernel
theorem dJ6_bitCount_0f7a4_35 : decode cJ6_bitCount_0f7a4 35 = .ok (.iload_n 0, 1) := by decide +kernel
theorem dJ6_bitCount_0f7a4_36 : decode cJ6_bitCount_0f7a4 36 = .ok (.bipush 8, 2) := by decide +kernel
theorem dJ6_bitCount_0f7a4_38 : decode cJ6_bitCount_0f7a4 38 = .ok (.iushr, 1) := by decide +kernel
theorem dJ6_bitCount_0f7a4_39 : decode cJ6_bitCount_0f7a4 39 = .ok (.iadd, 1) := by decide +kernel
theorem dJ6_bitCount_0f7a4_40 : decode cJ6_bitCount_0f7a4 40 = .ok (.istore_n 0, 1) := by decide +kernel
theorem dJ6_bitCount_0f7a4_41 : decode cJ6_bitCount_0f7a4 41 = .ok (.iload_n 0, 1) := by decide +kernel
theorem dJ6_bitCount_0f7a4_42 : decode cJ6_bitCount_0f7a4 42 = .ok (.iload_n 0, 1) := by decide +kernel
theorem dJ6_bitCount_0f7a4_43 : decode cJ6_bitCount_0f7a4 43 = .ok (.bipush 16, 2) := by decide +kernel
theorem dJ6_bitCount_0f7a4_45 : decode cJ6_bitCount_0f7a4 45 = .ok (.iushr, 1) := by decide +kernel
theorem dJ6_bitCount_0f7a4_46 : decode cJ6_bitCount_0f7a4 46 = .ok (.iadd, 1) := by decide +kernel
theorem dJ6_bitCount_0f7a4_47 : decode cJ6_bitCount_0f7a4 47 = .ok (.istore_n 0, 1) := by decide +kernel
theorem dJ6_bitCount_0f7a4_48 : decode cJ6_bitCount_0f7a4 48 = .ok (.iload_n 0, 1) := by decide +kernel
theorem dJ6_bitCount_0f7a4_49 : decode cJ6_bitCount_0f7a4 49 = .ok (.bipush 63, 2) := by decide +kernel
theorem dJ6_bitCount_0f7a4_51 : decode cJ6_bitCount_0f7a4 51 = .ok (.iand, 1) := by decide +kernel
theorem dJ6_bitCount_0f7a4_52 : decode cJ6_bitCount_0f7a4 52 = .ok (.ireturn, 1) := by decide +kernel
theorem dJ9_floorDiv_f86c9_0 : decode cJ9_floorDiv_f86c9 0 = .ok (.lload_n 0, 1) := by decide +kernel
theorem dJ9_floorDiv_f86c9_1 : decode cJ9_floorDiv_f86c9 1 = .ok (.lload_n 2, 1) := by decide +kernel
theorem dJ9_floorDiv_f86c9_2 : decode cJ9_floorDiv_f86c9 2 = .ok (.ldiv, 1) := by decide +kernel
theorem dJ9_floorDiv_f86c9_3 : decode cJ9_floorDiv_f86c9 3 = .ok (.lstore 4, 2) := by decide +kernel
theorem dJ9_floorDiv_f86c9_5 : decode cJ9_floorDiv_f86c9 5 = .ok (.lload_n 0, 1) := by decide +kernel
theorem dJ9_floorDiv_f86c9_6 : decode cJ9_floorDiv_f86c9 6 = .ok (.lload_n 2, 1) := by decide +kernel
theorem dJ9_floorDiv_f86c9_7 : decode cJ9_floorDiv_f86c9 7 = .ok (.lxor, 1) := by decide +kernel
theorem dJ9_floorDiv_f86c9_8 : decode cJ9_floorDiv_f86c9 8 = .ok (.lconst 0, 1) := by decide +kernel
theorem dJ9_floorDiv_f86c9_9 : decode cJ9_floorDiv_f86c9 9 = .ok (.lcmp, 1) := by decide +kernel
theorem dJ9_floorDiv_f86c9_10 : decode cJ9_floorDiv_f86c9 10 = .ok (.ifCond .ge 17, 3) := by decide +kernel
theorem dJ9_floorDiv_f86c9_13 : decode cJ9_floorDiv_f86c9 13 = .ok (.lload 4, 2) := by decide +kernel
theorem dJ9_floorDiv_f86c9_15 : decode cJ9_floorDiv_f86c9 15 = .ok (.lload_n 2, 1) := by decide +kernel
theorem dJ9_floorDiv_f86c9_16 : decode cJ9_floorDiv_f86c9 16 = .ok (.lmul, 1) := by decide +kernel
theorem dJ9_floorDiv_f86c9_17 : decode cJ9_floorDiv_f86c9 17 = .ok (.lload_n 0, 1) := by decide +kernel
theorem dJ9_floorDiv_f86c9_18 : decode cJ9_floorDiv_f86c9 18 = .ok (.lcmp, 1) := by decide +kernel
theorem dJ9_floorDiv_f86c9_19 : decode cJ9_floorDiv_f86c9 19 = .ok (.ifCond .eq 8, 3) := by decide +kernel
theorem dJ9_floorDiv_f86c9_22 : decode cJ9_floorDiv_f86c9 22 = .ok (.lload 4, 2) := by decide +kernel
theorem dJ9_floorDiv_f86c9_24 : decode cJ9_floorDiv_f86c9 24 = .ok (.lconst 1, 1) := by decide +kernel
theorem dJ9_floorDiv_f86c9_25 : decode cJ9_floorDiv_f86c9 25 = .ok (.lsub, 1) := by decide +kernel
theorem dJ9_floorDiv_f86c9_26 : decode cJ9_floorDiv_f86c9 26 = .ok (.lreturn, 1) := by decide +kernel
theorem dJ9_floorDiv_f86c9_27 : decode cJ9_floorDiv_f86c9 27 = .ok (.lload 4, 2) := by decide +kernel
theorem dJ9_floorDiv_f86c9_29 : decode cJ9_floorDiv_f86c9 29 = .ok (.lreturn, 1) := by decide +kernel
theorem dJ9_max_7cf53_0 : decode cJ9_max_7cf53 0 = .ok (.iload_n 0, 1) := by decide +kernel
theorem dJ9_max_7cf53_1 : decode cJ9_max_7cf53 1 = .ok (.iload_n 1, 1) := by decide +kernel
theorem dJ9_max_7cf53_2 : decode cJ9_max_7cf53 2 = .ok (.if_icmp .lt 7, 3) := by decide +kernel
theorem dJ9_max_7cf53_5 : decode cJ9_max_7cf53 5 = .ok (.iload_n 0, 1) := by decide +kernel
theorem dJ9_max_7cf53_6 : decode cJ9_max_7cf53 6 = .ok (.goto 4, 3) := by decide +kernel
theorem dJ9_max_7cf53_9 : decode cJ9_max_7cf53 9 = .ok (.iload_n 1, 1) := by decide +kernel
theorem dJ9_max_7cf53_10 : decode cJ9_max_7cf53 10 = .ok (.ireturn, 1) := by decide +kernel
theorem dJ9_max_f86c9_0 : decode cJ9_max_f86c9 0 = .ok (.lload_n 0, 1) := by decide +kernel
theorem dJ9_max_f86c9_1 : decode cJ9_max_f86c9 1 = .ok (.lload_n 2, 1) := by decide +kernel
theorem dJ9_max_f86c9_2 : decode cJ9_max_f86c9 2 = .ok (.lcmp, 1) := by decide +kernel
theorem dJ9_max_f86c9_3 : decode cJ9_max_f86c9 3 = .ok (.ifCond .lt 7, 3) := by decide +kernel
theorem dJ9_max_f86c9_6 : decode cJ9_max_f86c9 6 = .ok (.lload_n 0, 1) := by decide +kernel
theorem dJ9_max_f86c9_7 : decode cJ9_max_f86c9 7 = .ok (.goto 4, 3) := by decide +kernel
theorem dJ9_max_f86c9_10 : decode cJ9_max_f86c9 10 = .ok (.lload_n 2, 1) := by decide +kernel
theorem dJ9_max_f86c9_11 : decode cJ9_max_f86c9 11 = .ok (.lreturn, 1) := by decide +kernel
theorem dJ9_min_7cf53_0 : decode cJ9_min_7cf53 0 = .ok (.iload_n 0, 1) := by decide +kernel
theorem dJ9_min_7cf53_1 : decode cJ9_min_7cf53 1 = .ok (.iload_n 1, 1) := by decide +kernel
theorem dJ9_min_7cf53_2 : decode cJ9_min_7cf53 2 = .ok (.if_icmp .gt 7, 3) := by decide +kernel
theorem dJ9_min_7cf53_5 : decode cJ9_min_7cf53 5 = .ok (.iload_n 0, 1) := by decide +kernel
theorem dJ9_min_7cf53_6 : decode cJ9_min_7cf53 6 = .ok (.goto 4, 3) := by decide +kernel
theorem dJ9_min_7cf53_9 : decode cJ9_min_7cf53 9 = .ok (.iload_n 1, 1) := by decide +kernel
theorem dJ9_min_7cf53_10 : decode cJ9_min_7cf53 10 = .ok (.ireturn, 1) := by decide +kernel
theorem dJ9_min_f86c9_0 : decode cJ9_min_f86c9 0 = .ok (.lload_n 0, 1) := by decide +kernel
theorem dJ9_min_f86c9_1 : decode cJ9_min_f86c9 1 = .ok (.lload_n 2, 1) := by decide +kernel
theorem dJ9_min_f86c9_2 : decode cJ9_min_f86c9 2 = .ok (.lcmp, 1) := by decide +kernel
theorem dJ9_min_f86c9_3 : decode cJ9_min_f86c9 3 = .ok (.ifCond .gt 7, 3) := by decide +kernel
theorem dJ9_min_f86c9_6 : decode cJ9_min_f86c9 6 = .ok (.lload_n 0, 1) := by decide +kernel
theorem dJ9_min_f86c9_7 : decode cJ9_min_f86c9 7 = .ok (.goto 4, 3) := by decide +kernel
theorem dJ9_min_f86c9_10 : decode cJ9_min_f86c9 10 = .ok (.lload_n 2, 1) := by decide +kernel
theorem dJ9_min_f86c9_11 : decode cJ9_min_f86c9 11 = .ok (.lreturn, 1) := by decide +kernel
theorem dJ0_length_8abf5_0 : decode cJ0_length_8abf5 0 = .ok (.aload_n 0, 1) := by decide +kernel
theorem dJ0_length_8abf5_1 : decode cJ0_length_8abf5 1 = .ok (.getfield 9, 3) := by decide +kernel
theorem dJ0_length_8abf5_4 : decode cJ0_length_8abf5 4 = .ok (.arraylength, 1) := by decide +kernel
theorem dJ0_length_8abf5_5 : decode cJ0_length_8abf5 5 = .ok (.aload_n 0, 1) := by decide +kernel
theorem dJ0_length_8abf5_6 : decode cJ0_length_8abf5 6 = .ok (.invokevirtual 335, 3) := by decide +kernel
theorem dJ0_length_8abf5_9 : decode cJ0_length_8abf5 9 = .ok (.ishr, 1) := by decide +kernel
theorem dJ0_length_8abf5_10 : decode cJ0_length_8abf5 10 = .ok (.ireturn, 1) := by decide +kernel
theorem dJ0_charAt_5068e_0 : decode cJ0_charAt_5068e 0 = .ok (.aload_n 0, 1) := by decide +kernel
theorem dJ0_charAt_5068e_1 : decode cJ0_charAt_5068e 1 = .ok (.invokevirtual 492, 3) := by decide +kernel
theorem dJ0_charAt_5068e_4 : decode cJ0_charAt_5068e 4 = .ok (.ifCond .eq 12, 3) := by decide +kernel
theorem dJ0_charAt_5068e_7 : decode cJ0_charAt_5068e 7 = .ok (.aload_n 0, 1) := by decide +kernel
theorem dJ0_charAt_5068e_8 : decode cJ0_charAt_5068e 8 = .ok (.getfield 9, 3) := by decide +kernel
theorem dJ0_charAt_5068e_11 : decode cJ0_charAt_5068e 11 = .ok (.iload_n 1, 1) := by decide +kernel
theorem dJ0_charAt_5068e_12 : decode cJ0_charAt_5068e 12 = .ok (.invokestatic 495, 3) := by decide +kernel
theorem dJ0_charAt_5068e_15 : decode cJ0_charAt_5068e 15 = .ok (.ireturn, 1) := by decide +kernel
theorem dJ0_charAt_5068e_16 : decode cJ0_charAt_5068e 16 = .ok (.aload_n 0, 1) := by decide +kernel
theorem dJ0_charAt_5068e_17 : decode cJ0_charAt_5068e 17 = .ok (.getfield 9, 3) := by decide +kernel
theorem dJ0_charAt_5068e_20 : decode cJ0_charAt_5068e 20 = .ok (.iload_n 1, 1) := by decide +kernel
theorem dJ0_charAt_5068e_21 : decode cJ0_charAt_5068e 21 = .ok (.invokestatic 498, 3) := by decide +kernel
theorem dJ0_charAt_5068e_24 : decode cJ0_charAt_5068e 24 = .ok (.ireturn, 1) := by decide +kernel
theorem dJ0_coder_7d493_0 : decode cJ0_coder_7d493 0 = .ok (.getstatic 38, 3) := by decide +kernel
theorem dJ0_coder_7d493_3 : decode cJ0_coder_7d493 3 = .ok (.ifCond .eq 10, 3) := by decide +kernel
theorem dJ0_coder_7d493_6 : decode cJ0_coder_7d493 6 = .ok (.aload_n 0, 1) := by decide +kernel
theorem dJ0_coder_7d493_7 : decode cJ0_coder_7d493 7 = .ok (.getfield 15, 3) := by decide +kernel
theorem dJ0_coder_7d493_10 : decode cJ0_coder_7d493 10 = .ok (.goto 4, 3) := by decide +kernel
theorem dJ0_coder_7d493_13 : decode cJ0_coder_7d493 13 = .ok (.iconst 1, 1) := by decide +kernel
theorem dJ0_coder_7d493_14 : decode cJ0_coder_7d493 14 = .ok (.ireturn, 1) := by decide +kernel
theorem dJ0_isLatin1_aae02_0 : decode cJ0_isLatin1_aae02 0 = .ok (.getstatic 38, 3) := by decide +kernel
theorem dJ0_isLatin1_aae02_3 : decode cJ0_isLatin1_aae02 3 = .ok (.ifCond .eq 14, 3) := by decide +kernel
theorem dJ0_isLatin1_aae02_6 : decode cJ0_isLatin1_aae02 6 = .ok (.aload_n 0, 1) := by decide +kernel
theorem dJ0_isLatin1_aae02_7 : decode cJ0_isLatin1_aae02 7 = .ok (.getfield 15, 3) := by decide +kernel
theorem dJ0_isLatin1_aae02_10 : decode cJ0_isLatin1_aae02 10 = .ok (.ifCond .ne 7, 3) := by decide +kernel
theorem dJ0_isLatin1_aae02_13 : decode cJ0_isLatin1_aae02 13 = .ok (.iconst 1, 1) := by decide +kernel
theorem dJ0_isLatin1_aae02_14 : decode cJ0_isLatin1_aae02 14 = .ok (.goto 4, 3) := by decide +kernel
theorem dJ0_isLatin1_aae02_17 : decode cJ0_isLatin1_aae02 17 = .ok (.iconst 0, 1) := by decide +kernel
theorem dJ0_isLatin1_aae02_18 : decode cJ0_isLatin1_aae02 18 = .ok (.ireturn, 1) := by decide +kernel
theorem dJ0_checkIndex_df160_0 : decode cJ0_checkIndex_df160 0 = .ok (.iload_n 0, 1) := by decide +kernel
theorem dJ0_checkIndex_df160_1 : decode cJ0_checkIndex_df160 1 = .ok (.iload_n 1, 1) := by decide +kernel
theorem dJ0_checkIndex_df160_2 : decode cJ0_checkIndex_df160 2 = .ok (.getstatic 1053, 3) := by decide +kernel
theorem dJ0_checkIndex_df160_5 : decode cJ0_checkIndex_df160 5 = .ok (.invokestatic 1059, 3) := by decide +kernel
theorem dJ0_checkIndex_df160_8 : decode cJ0_checkIndex_df160 8 = .ok (.pop, 1) := by decide +kernel
theorem dJ0_checkIndex_df160_9 : decode cJ0_checkIndex_df160 9 = .ok (.return_, 1) := by decide +kernel
theorem dJ1_charAt_3b067_0 : decode cJ1_charAt_3b067 0 = .ok (.iload_n 1, 1) := by decide +kernel
theorem dJ1_charAt_3b067_1 : decode cJ1_charAt_3b067 1 = .ok (.aload_n 0, 1) := by decide +kernel
theorem dJ1_charAt_3b067_2 : decode cJ1_charAt_3b067 2 = .ok (.arraylength, 1) := by decide +kernel
theorem dJ1_charAt_3b067_3 : decode cJ1_charAt_3b067 3 = .ok (.invokestatic 9, 3) := by decide +kernel
theorem dJ1_charAt_3b067_6 : decode cJ1_charAt_3b067 6 = .ok (.aload_n 0, 1) := by decide +kernel
theorem dJ1_charAt_3b067_7 : decode cJ1_charAt_3b067 7 = .ok (.iload_n 1, 1) := by decide +kernel
theorem dJ1_charAt_3b067_8 : decode cJ1_charAt_3b067 8 = .ok (.baload, 1) := by decide +kernel
theorem dJ1_charAt_3b067_9 : decode cJ1_charAt_3b067 9 = .ok (.sipush 255, 3) := by decide +kernel
theorem dJ1_charAt_3b067_12 : decode cJ1_charAt_3b067 12 = .ok (.iand, 1) := by decide +kernel
theorem dJ1_charAt_3b067_13 : decode cJ1_charAt_3b067 13 = .ok (.i2c, 1) := by decide +kernel
theorem dJ1_charAt_3b067_14 : decode cJ1_charAt_3b067 14 = .ok (.ireturn, 1) := by decide +kernel
theorem dJ2_getChar_3b067_0 : decode cJ2_getChar_3b067 0 = .ok (.getstatic 44, 3) := by decide +kernel
theorem dJ2_getChar_3b067_3 : decode cJ2_getChar_3b067 3 = .ok (.ifCond .ne 25, 3) := by decide +kernel
theorem dJ2_getChar_3b067_6 : decode cJ2_getChar_3b067 6 = .ok (.iload_n 1, 1) := by decide +kernel
theorem dJ2_getChar_3b067_7 : decode cJ2_getChar_3b067 7 = .ok (.ifCond .lt 11, 3) := by decide +kernel
theorem dJ2_getChar_3b067_10 : decode cJ2_getChar_3b067 10 = .ok (.iload_n 1, 1) := by decide +kernel
theorem dJ2_getChar_3b067_11 : decode cJ2_getChar_3b067 11 = .ok (.aload_n 0, 1) := by decide +kernel
theorem dJ2_getChar_3b067_12 : decode cJ2_getChar_3b067 12 = .ok (.invokestatic 48, 3) := by decide +kernel
theorem dJ2_getChar_3b067_15 : decode cJ2_getChar_3b067 15 = .ok (.if_icmp .lt 13, 3) := by decide +kernel
theorem dJ2_getChar_3b067_18 : decode cJ2_getChar_3b067 18 = .ok (.new 52, 3) := by decide +kernel
theorem dJ2_getChar_3b067_21 : decode cJ2_getChar_3b067 21 = .ok (.dup, 1) := by decide +kernel
theorem dJ2_getChar_3b067_22 : decode cJ2_getChar_3b067 22 = .ok (.ldc 54, 2) := by decide +kernel
theorem dJ2_getChar_3b067_24 : decode cJ2_getChar_3b067 24 = .ok (.invokespecial 56, 3) := by decide +kernel
theorem dJ2_getChar_3b067_27 : decode cJ2_getChar_3b067 27 = .ok (.athrow, 1) := by decide +kernel
theorem dJ2_getChar_3b067_28 : decode cJ2_getChar_3b067 28 = .ok (.iload_n 1, 1) := by decide +kernel
theorem dJ2_getChar_3b067_29 : decode cJ2_getChar_3b067 29 = .ok (.iconst 1, 1) := by decide +kernel
theorem dJ2_getChar_3b067_30 : decode cJ2_getChar_3b067 30 = .ok (.ishl, 1) := by decide +kernel
theorem dJ2_getChar_3b067_31 : decode cJ2_getChar_3b067 31 = .ok (.istore_n 1, 1) := by decide +kernel
theorem dJ2_getChar_3b067_32 : decode cJ2_getChar_3b067 32 = .ok (.aload_n 0, 1) := by decide +kernel
theorem dJ2_getChar_3b067_33 : decode cJ2_getChar_3b067 33 = .ok (.iload_n 1, 1) := by decide +kernel
theorem dJ2_getChar_3b067_34 : decode cJ2_getChar_3b067 34 = .ok (.iinc 1 1, 3) := by decide +kernel
theorem dJ2_getChar_3b067_37 : decode cJ2_getChar_3b067 37 = .ok (.baload, 1) := by decide +kernel
theorem dJ2_getChar_3b067_38 : decode cJ2_getChar_3b067 38 = .ok (.sipush 255, 3) := by decide +kernel
theorem dJ2_getChar_3b067_41 : decode cJ2_getChar_3b067 41 = .ok (.iand, 1) := by decide +kernel
theorem dJ2_getChar_3b067_42 : decode cJ2_getChar_3b067 42 = .ok (.getstatic 59, 3) := by decide +kernel
theorem dJ2_getChar_3b067_45 : decode cJ2_getChar_3b067 45 = .ok (.ishl, 1) := by decide +kernel
theorem dJ2_getChar_3b067_46 : decode cJ2_getChar_3b067 46 = .ok (.aload_n 0, 1) := by decide +kernel
theorem dJ2_getChar_3b067_47 : decode cJ2_getChar_3b067 47 = .ok (.iload_n 1, 1) := by decide +kernel
theorem dJ2_getChar_3b067_48 : decode cJ2_getChar_3b067 48 = .ok (.baload, 1) := by decide +kernel
theorem dJ2_getChar_3b067_49 : decode cJ2_getChar_3b067 49 = .ok (.sipush 255, 3) := by decide +kernel
theorem dJ2_getChar_3b067_52 : decode cJ2_getChar_3b067 52 = .ok (.iand, 1) := by decide +kernel
theorem dJ2_getChar_3b067_53 : decode cJ2_getChar_3b067 53 = .ok (.getstatic 63, 3) := by decide +kernel
theorem dJ2_getChar_3b067_56 : decode cJ2_getChar_3b067 56 = .ok (.ishl, 1) := by decide +kernel
theorem dJ2_getChar_3b067_57 : decode cJ2_getChar_3b067 57 = .ok (.ior, 1) := by decide +kernel
theorem dJ2_getChar_3b067_58 : decode cJ2_getChar_3b067 58 = .ok (.i2c, 1) := by decide +kernel
theorem dJ2_getChar_3b067_59 : decode cJ2_getChar_3b067 59 = .ok (.ireturn, 1) := by decide +kernel
theorem dJ2_length_9d52b_0 : decode cJ2_length_9d52b 0 = .ok (.aload_n 0, 1) := by decide +kernel
theorem dJ2_length_9d52b_1 : decode cJ2_length_9d52b 1 = .ok (.arraylength, 1) := by decide +kernel
theorem dJ2_length_9d52b_2 : decode cJ2_length_9d52b 2 = .ok (.iconst 1, 1) := by decide +kernel
theorem dJ2_length_9d52b_3 : decode cJ2_length_9d52b 3 = .ok (.ishr, 1) := by decide +kernel
theorem dJ2_length_9d52b_4 : decode cJ2_length_9d52b 4 = .ok (.ireturn, 1) := by decide +kernel
theorem dJ2_charAt_3b067_0 : decode cJ2_charAt_3b067 0 = .ok (.iload_n 1, 1) := by decide +kernel
theorem dJ2_charAt_3b067_1 : decode cJ2_charAt_3b067 1 = .ok (.aload_n 0, 1) := by decide +kernel
theorem dJ2_charAt_3b067_2 : decode cJ2_charAt_3b067 2 = .ok (.invokestatic 67, 3) := by decide +kernel
theorem dJ2_charAt_3b067_5 : decode cJ2_charAt_3b067 5 = .ok (.aload_n 0, 1) := by decide +kernel
theorem dJ2_charAt_3b067_6 : decode cJ2_charAt_3b067 6 = .ok (.iload_n 1, 1) := by decide +kernel
theorem dJ2_charAt_3b067_7 : decode cJ2_charAt_3b067 7 = .ok (.invokestatic 71, 3) := by decide +kernel
theorem dJ2_charAt_3b067_10 : decode cJ2_charAt_3b067 10 = .ok (.ireturn, 1) := by decide +kernel
theorem dJ2_checkIndex_2214a_0 : decode cJ2_checkIndex_2214a 0 = .ok (.iload_n 0, 1) := by decide +kernel
theorem dJ2_checkIndex_2214a_1 : decode cJ2_checkIndex_2214a 1 = .ok (.aload_n 1, 1) := by decide +kernel
theorem dJ2_checkIndex_2214a_2 : decode cJ2_checkIndex_2214a 2 = .ok (.invokestatic 48, 3) := by decide +kernel
theorem dJ2_checkIndex_2214a_5 : decode cJ2_checkIndex_2214a 5 = .ok (.invokestatic 414, 3) := by decide +kernel
theorem dJ2_checkIndex_2214a_8 : decode cJ2_checkIndex_2214a 8 = .ok (.return_, 1) := by decide +kernel
theorem dJxa1e45_init_da8c8_0 : decode cJxa1e45_init_da8c8 0 = .ok (.aload_n 0, 1) := by decide +kernel
theorem dJxa1e45_init_da8c8_1 : decode cJxa1e45_init_da8c8 1 = .ok (.invokespecial 1, 3) := by decide +kernel
theorem dJxa1e45_init_da8c8_4 : decode cJxa1e45_init_da8c8 4 = .ok (.return_, 1) := by decide +kernel
theorem dJxc12de_init_da8c8_0 : decode cJxc12de_init_da8c8 0 = .ok (.aload_n 0, 1) := by decide +kernel
theorem dJxc12de_init_da8c8_1 : decode cJxc12de_init_da8c8 1 = .ok (.invokespecial 1, 3) := by decide +kernel
theorem dJxc12de_init_da8c8_4 : decode cJxc12de_init_da8c8 4 = .ok (.aload_n 0, 1) := by decide +kernel
theorem dJxc12de_init_da8c8_5 : decode cJxc12de_init_da8c8 5 = .ok (.iconst 0, 1) := by decide +kernel
theorem dJxc12de_init_da8c8_6 : decode cJxc12de_init_da8c8 6 = .ok (.putfield 7, 3) := by decide +kernel
theorem dJxc12de_init_da8c8_9 : decode cJxc12de_init_da8c8 9 = .ok (.return_, 1) := by decide +kernel
theorem dJx4a65c_init_da8c8_0 : decode cJx4a65c_init_da8c8 0 = .ok (.aload_n 0, 1) := by decide +kernel
theorem dJx4a65c_init_da8c8_1 : decode cJx4a65c_init_da8c8 1 = .ok (.invokespecial 1, 3) := by decide +kernel
theorem dJx4a65c_init_da8c8_4 : decode cJx4a65c_init_da8c8 4 = .ok (.aload_n 0, 1) := by decide +kernel
theorem dJx4a65c_init_da8c8_5 : decode cJx4a65c_init_da8c8 5 = .ok (.getstatic 39, 3) := by decide +kernel
theorem dJx4a65c_init_da8c8_8 : decode cJx4a65c_init_da8c8 8 = .ok (.putfield 9, 3) := by decide +kernel
theorem dJx4a65c_init_da8c8_11 : decode cJx4a65c_init_da8c8 11 = .ok (.return_, 1) := by decide +kernel
theorem dJx4a65c_grow_92f84_0 : decode cJx4a65c_grow_92f84 0 = .ok (.aload_n 0, 1) := by decide +kernel
theorem dJx4a65c_grow_92f84_1 : decode cJx4a65c_grow_92f84 1 = .ok (.getfield 9, 3) := by decide +kernel
theorem dJx4a65c_grow_92f84_4 : decode cJx4a65c_grow_92f84 4 = .ok (.arraylength, 1) := by decide +kernel
theorem dJx4a65c_grow_92f84_5 : decode cJx4a65c_grow_92f84 5 = .ok (.istore_n 2, 1) := by decide +kernel
theorem dJx4a65c_grow_92f84_6 : decode cJx4a65c_grow_92f84 6 = .ok (.iload_n 2, 1) := by decide +kernel
theorem dJx4a65c_grow_92f84_7 : decode cJx4a65c_grow_92f84 7 = .ok (.ifCond .gt 13, 3) := by decide +kernel
theorem dJx4a65c_grow_92f84_10 : decode cJx4a65c_grow_92f84 10 = .ok (.aload_n 0, 1) := by decide +kernel
theorem dJx4a65c_grow_92f84_11 : decode cJx4a65c_grow_92f84 11 = .ok (.getfield 9, 3) := by decide +kernel
theorem dJx4a65c_grow_92f84_14 : decode cJx4a65c_grow_92f84 14 = .ok (.getstatic 39, 3) := by decide +kernel
theorem dJx4a65c_grow_92f84_17 : decode cJx4a65c_grow_92f84 17 = .ok (.if_acmp .eq 28, 3) := by decide +kernel
theorem dJx4a65c_grow_92f84_20 : decode cJx4a65c_grow_92f84 20 = .ok (.iload_n 2, 1) := by decide +kernel
theorem dJx4a65c_grow_92f84_21 : decode cJx4a65c_grow_92f84 21 = .ok (.iload_n 1, 1) := by decide +kernel
theorem dJx4a65c_grow_92f84_22 : decode cJx4a65c_grow_92f84 22 = .ok (.iload_n 2, 1) := by decide +kernel
theorem dJx4a65c_grow_92f84_23 : decode cJx4a65c_grow_92f84 23 = .ok (.isub, 1) := by decide +kernel
theorem dJx4a65c_grow_92f84_24 : decode cJx4a65c_grow_92f84 24 = .ok (.iload_n 2, 1) := by decide +kernel
theorem dJx4a65c_grow_92f84_25 : decode cJx4a65c_grow_92f84 25 = .ok (.iconst 1, 1) := by decide +kernel
theorem dJx4a65c_grow_92f84_26 : decode cJx4a65c_grow_92f84 26 = .ok (.ishr, 1) := by decide +kernel
theorem dJx4a65c_grow_92f84_27 : decode cJx4a65c_grow_92f84 27 = .ok (.invokestatic 73, 3) := by decide +kernel
theorem dJx4a65c_grow_92f84_30 : decode cJx4a65c_grow_92f84 30 = .ok (.istore_n 3, 1) := by decide +kernel
theorem dJx4a65c_grow_92f84_31 : decode cJx4a65c_grow_92f84 31 = .ok (.aload_n 0, 1) := by decide +kernel
theorem dJx4a65c_grow_92f84_32 : decode cJx4a65c_grow_92f84 32 = .ok (.aload_n 0, 1) := by decide +kernel
theorem dJx4a65c_grow_92f84_33 : decode cJx4a65c_grow_92f84 33 = .ok (.getfield 9, 3) := by decide +kernel
theorem dJx4a65c_grow_92f84_36 : decode cJx4a65c_grow_92f84 36 = .ok (.iload_n 3, 1) := by decide +kernel
theorem dJx4a65c_grow_92f84_37 : decode cJx4a65c_grow_92f84 37 = .ok (.invokestatic 66, 3) := by decide +kernel
theorem dJx4a65c_grow_92f84_40 : decode cJx4a65c_grow_92f84 40 = .ok (.dup_x1, 1) := by decide +kernel
theorem dJx4a65c_grow_92f84_41 : decode cJx4a65c_grow_92f84 41 = .ok (.putfield 9, 3) := by decide +kernel
theorem dJx4a65c_grow_92f84_44 : decode cJx4a65c_grow_92f84 44 = .ok (.areturn, 1) := by decide +kernel
theorem dJx4a65c_grow_92f84_45 : decode cJx4a65c_grow_92f84 45 = .ok (.aload_n 0, 1) := by decide +kernel
theorem dJx4a65c_grow_92f84_46 : decode cJx4a65c_grow_92f84 46 = .ok (.bipush 10, 2) := by decide +kernel
theorem dJx4a65c_grow_92f84_48 : decode cJx4a65c_grow_92f84 48 = .ok (.iload_n 1, 1) := by decide +kernel
theorem dJx4a65c_grow_92f84_49 : decode cJx4a65c_grow_92f84 49 = .ok (.invokestatic 79, 3) := by decide +kernel
theorem dJx4a65c_grow_92f84_52 : decode cJx4a65c_grow_92f84 52 = .ok (.anewarray 7, 3) := by decide +kernel
theorem dJx4a65c_grow_92f84_55 : decode cJx4a65c_grow_92f84 55 = .ok (.dup_x1, 1) := by decide +kernel
theorem dJx4a65c_grow_92f84_56 : decode cJx4a65c_grow_92f84 56 = .ok (.putfield 9, 3) := by decide +kernel
theorem dJx4a65c_grow_92f84_59 : decode cJx4a65c_grow_92f84 59 = .ok (.areturn, 1) := by decide +kernel
theorem dJx4a65c_grow_d5877_0 : decode cJx4a65c_grow_d5877 0 = .ok (.aload_n 0, 1) := by decide +kernel
theorem dJx4a65c_grow_d5877_1 : decode cJx4a65c_grow_d5877 1 = .ok (.aload_n 0, 1) := by decide +kernel
theorem dJx4a65c_grow_d5877_2 : decode cJx4a65c_grow_d5877 2 = .ok (.getfield 48, 3) := by decide +kernel
theorem dJx4a65c_grow_d5877_5 : decode cJx4a65c_grow_d5877 5 = .ok (.iconst 1, 1) := by decide +kernel
theorem dJx4a65c_grow_d5877_6 : decode cJx4a65c_grow_d5877 6 = .ok (.iadd, 1) := by decide +kernel
theorem dJx4a65c_grow_d5877_7 : decode cJx4a65c_grow_d5877 7 = .ok (.invokevirtual 69, 3) := by decide +kernel
theorem dJx4a65c_grow_d5877_10 : decode cJx4a65c_grow_d5877 10 = .ok (.areturn, 1) := by decide +kernel
theorem dJx4a65c_size_8abf5_0 : decode cJx4a65c_size_8abf5 0 = .ok (.aload_n 0, 1) := by decide +kernel
theorem dJx4a65c_size_8abf5_1 : decode cJx4a65c_size_8abf5 1 = .ok (.getfield 48, 3) := by decide +kernel
theorem dJx4a65c_size_8abf5_4 : decode cJx4a65c_size_8abf5 4 = .ok (.ireturn, 1) := by decide +kernel
theorem dJx4a65c_elementData_915e3_0 : decode cJx4a65c_elementData_915e3 0 = .ok (.aload_n 0, 1) := by decide +kernel
theorem dJx4a65c_elementData_915e3_1 : decode cJx4a65c_elementData_915e3 1 = .ok (.getfield 9, 3) := by decide +kernel
theorem dJx4a65c_elementData_915e3_4 : decode cJx4a65c_elementData_915e3 4 = .ok (.iload_n 1, 1) := by decide +kernel
theorem dJx4a65c_elementData_915e3_5 : decode cJx4a65c_elementData_915e3 5 = .ok (.aaload, 1) := by decide +kernel
theorem dJx4a65c_elementData_915e3_6 : decode cJx4a65c_elementData_915e3 6 = .ok (.areturn, 1) := by decide +kernel
theorem dJx4a65c_get_915e3_0 : decode cJx4a65c_get_915e3 0 = .ok (.iload_n 1, 1) := by decide +kernel
theorem dJx4a65c_get_915e3_1 : decode cJx4a65c_get_915e3 1 = .ok (.aload_n 0, 1) := by decide +kernel
theorem dJx4a65c_get_915e3_2 : decode cJx4a65c_get_915e3 2 = .ok (.getfield 48, 3) := by decide +kernel
theorem dJx4a65c_get_915e3_5 : decode cJx4a65c_get_915e3 5 = .ok (.invokestatic 118, 3) := by decide +kernel
theorem dJx4a65c_get_915e3_8 : decode cJx4a65c_get_915e3 8 = .ok (.pop, 1) := by decide +kernel
theorem dJx4a65c_get_915e3_9 : decode cJx4a65c_get_915e3 9 = .ok (.aload_n 0, 1) := by decide +kernel
theorem dJx4a65c_get_915e3_10 : decode cJx4a65c_get_915e3 10 = .ok (.iload_n 1, 1) := by decide +kernel
theorem dJx4a65c_get_915e3_11 : decode cJx4a65c_get_915e3 11 = .ok (.invokevirtual 123, 3) := by decide +kernel
theorem dJx4a65c_get_915e3_14 : decode cJx4a65c_get_915e3 14 = .ok (.areturn, 1) := by decide +kernel
theorem dJx4a65c_add_72be8_0 : decode cJx4a65c_add_72be8 0 = .ok (.iload_n 3, 1) := by decide +kernel
theorem dJx4a65c_add_72be8_1 : decode cJx4a65c_add_72be8 1 = .ok (.aload_n 2, 1) := by decide +kernel
theorem dJx4a65c_add_72be8_2 : decode cJx4a65c_add_72be8 2 = .ok (.arraylength, 1) := by decide +kernel
theorem dJx4a65c_add_72be8_3 : decode cJx4a65c_add_72be8 3 = .ok (.if_icmp .ne 8, 3) := by decide +kernel
theorem dJx4a65c_add_72be8_6 : decode cJx4a65c_add_72be8 6 = .ok (.aload_n 0, 1) := by decide +kernel
theorem dJx4a65c_add_72be8_7 : decode cJx4a65c_add_72be8 7 = .ok (.invokevirtual 129, 3) := by decide +kernel
theorem dJx4a65c_add_72be8_10 : decode cJx4a65c_add_72be8 10 = .ok (.astore_n 2, 1) := by decide +kernel
theorem dJx4a65c_add_72be8_11 : decode cJx4a65c_add_72be8 11 = .ok (.aload_n 2, 1) := by decide +kernel
theorem dJx4a65c_add_72be8_12 : decode cJx4a65c_add_72be8 12 = .ok (.iload_n 3, 1) := by decide +kernel
theorem dJx4a65c_add_72be8_13 : decode cJx4a65c_add_72be8 13 = .ok (.aload_n 1, 1) := by decide +kernel
theorem dJx4a65c_add_72be8_14 : decode cJx4a65c_add_72be8 14 = .ok (.aastore, 1) := by decide +kernel
theorem dJx4a65c_add_72be8_15 : decode cJx4a65c_add_72be8 15 = .ok (.aload_n 0, 1) := by decide +kernel
theorem dJx4a65c_add_72be8_16 : decode cJx4a65c_add_72be8 16 = .ok (.iload_n 3, 1) := by decide +kernel
theorem dJx4a65c_add_72be8_17 : decode cJx4a65c_add_72be8 17 = .ok (.iconst 1, 1) := by decide +kernel
theorem dJx4a65c_add_72be8_18 : decode cJx4a65c_add_72be8 18 = .ok (.iadd, 1) := by decide +kernel
theorem dJx4a65c_add_72be8_19 : decode cJx4a65c_add_72be8 19 = .ok (.putfield 48, 3) := by decide +kernel
theorem dJx4a65c_add_72be8_22 : decode cJx4a65c_add_72be8 22 = .ok (.return_, 1) := by decide +kernel
theorem dJx4a65c_add_9ea2d_0 : decode cJx4a65c_add_9ea2d 0 = .ok (.aload_n 0, 1) := by decide +kernel
theorem dJx4a65c_add_9ea2d_1 : decode cJx4a65c_add_9ea2d 1 = .ok (.dup, 1) := by decide +kernel
theorem dJx4a65c_add_9ea2d_2 : decode cJx4a65c_add_9ea2d 2 = .ok (.getfield 63, 3) := by decide +kernel
theorem dJx4a65c_add_9ea2d_5 : decode cJx4a65c_add_9ea2d 5 = .ok (.iconst 1, 1) := by decide +kernel
theorem dJx4a65c_add_9ea2d_6 : decode cJx4a65c_add_9ea2d 6 = .ok (.iadd, 1) := by decide +kernel
theorem dJx4a65c_add_9ea2d_7 : decode cJx4a65c_add_9ea2d 7 = .ok (.putfield 63, 3) := by decide +kernel
theorem dJx4a65c_add_9ea2d_10 : decode cJx4a65c_add_9ea2d 10 = .ok (.aload_n 0, 1) := by decide +kernel
theorem dJx4a65c_add_9ea2d_11 : decode cJx4a65c_add_9ea2d 11 = .ok (.aload_n 1, 1) := by decide +kernel
theorem dJx4a65c_add_9ea2d_12 : decode cJx4a65c_add_9ea2d 12 = .ok (.aload_n 0, 1) := by decide +kernel
theorem dJx4a65c_add_9ea2d_13 : decode cJx4a65c_add_9ea2d 13 = .ok (.getfield 9, 3) := by decide +kernel
theorem dJx4a65c_add_9ea2d_16 : decode cJx4a65c_add_9ea2d 16 = .ok (.aload_n 0, 1) := by decide +kernel
theorem dJx4a65c_add_9ea2d_17 : decode cJx4a65c_add_9ea2d 17 = .ok (.getfield 48, 3) := by decide +kernel
theorem dJx4a65c_add_9ea2d_20 : decode cJx4a65c_add_9ea2d 20 = .ok (.invokevirtual 131, 3) := by decide +kernel
theorem dJx4a65c_add_9ea2d_23 : decode cJx4a65c_add_9ea2d 23 = .ok (.iconst 1, 1) := by decide +kernel
theorem dJx4a65c_add_9ea2d_24 : decode cJx4a65c_add_9ea2d 24 = .ok (.ireturn, 1) := by decide +kernel
theorem dJx4a65c_add_7a177_0 : decode cJx4a65c_add_7a177 0 = .ok (.aload_n 0, 1) := by decide +kernel
theorem dJx4a65c_add_7a177_1 : decode cJx4a65c_add_7a177 1 = .ok (.iload_n 1, 1) := by decide +kernel
theorem dJx4a65c_add_7a177_2 : decode cJx4a65c_add_7a177 2 = .ok (.invokevirtual 135, 3) := by decide +kernel
theorem dJx4a65c_add_7a177_5 : decode cJx4a65c_add_7a177 5 = .ok (.aload_n 0, 1) := by decide +kernel
theorem dJx4a65c_add_7a177_6 : decode cJx4a65c_add_7a177 6 = .ok (.dup, 1) := by decide +kernel
theorem dJx4a65c_add_7a177_7 : decode cJx4a65c_add_7a177 7 = .ok (.getfield 63, 3) := by decide +kernel
theorem dJx4a65c_add_7a177_10 : decode cJx4a65c_add_7a177 10 = .ok (.iconst 1, 1) := by decide +kernel
theorem dJx4a65c_add_7a177_11 : decode cJx4a65c_add_7a177 11 = .ok (.iadd, 1) := by decide +kernel
theorem dJx4a65c_add_7a177_12 : decode cJx4a65c_add_7a177 12 = .ok (.putfield 63, 3) := by decide +kernel
theorem dJx4a65c_add_7a177_15 : decode cJx4a65c_add_7a177 15 = .ok (.aload_n 0, 1) := by decide +kernel
theorem dJx4a65c_add_7a177_16 : decode cJx4a65c_add_7a177 16 = .ok (.getfield 48, 3) := by decide +kernel
theorem dJx4a65c_add_7a177_19 : decode cJx4a65c_add_7a177 19 = .ok (.dup, 1) := by decide +kernel
theorem dJx4a65c_add_7a177_20 : decode cJx4a65c_add_7a177 20 = .ok (.istore_n 3, 1) := by decide +kernel
theorem dJx4a65c_add_7a177_21 : decode cJx4a65c_add_7a177 21 = .ok (.aload_n 0, 1) := by decide +kernel
theorem dJx4a65c_add_7a177_22 : decode cJx4a65c_add_7a177 22 = .ok (.getfield 9, 3) := by decide +kernel
theorem dJx4a65c_add_7a177_25 : decode cJx4a65c_add_7a177 25 = .ok (.dup, 1) := by decide +kernel
theorem dJx4a65c_add_7a177_26 : decode cJx4a65c_add_7a177 26 = .ok (.astore 4, 2) := by decide +kernel
theorem dJx4a65c_add_7a177_28 : decode cJx4a65c_add_7a177 28 = .ok (.arraylength, 1) := by decide +kernel
theorem dJx4a65c_add_7a177_29 : decode cJx4a65c_add_7a177 29 = .ok (.if_icmp .ne 9, 3) := by decide +kernel
theorem dJx4a65c_add_7a177_32 : decode cJx4a65c_add_7a177 32 = .ok (.aload_n 0, 1) := by decide +kernel
theorem dJx4a65c_add_7a177_33 : decode cJx4a65c_add_7a177 33 = .ok (.invokevirtual 129, 3) := by decide +kernel
theorem dJx4a65c_add_7a177_36 : decode cJx4a65c_add_7a177 36 = .ok (.astore 4, 2) := by decide +kernel
theorem dJx4a65c_add_7a177_38 : decode cJx4a65c_add_7a177 38 = .ok (.aload 4, 2) := by decide +kernel
theorem dJx4a65c_add_7a177_40 : decode cJx4a65c_add_7a177 40 = .ok (.iload_n 1, 1) := by decide +kernel
theorem dJx4a65c_add_7a177_41 : decode cJx4a65c_add_7a177 41 = .ok (.aload 4, 2) := by decide +kernel
theorem dJx4a65c_add_7a177_43 : decode cJx4a65c_add_7a177 43 = .ok (.iload_n 1, 1) := by decide +kernel
theorem dJx4a65c_add_7a177_44 : decode cJx4a65c_add_7a177 44 = .ok (.iconst 1, 1) := by decide +kernel
theorem dJx4a65c_add_7a177_45 : decode cJx4a65c_add_7a177 45 = .ok (.iadd, 1) := by decide +kernel
theorem dJx4a65c_add_7a177_46 : decode cJx4a65c_add_7a177 46 = .ok (.iload_n 3, 1) := by decide +kernel
theorem dJx4a65c_add_7a177_47 : decode cJx4a65c_add_7a177 47 = .ok (.iload_n 1, 1) := by decide +kernel
theorem dJx4a65c_add_7a177_48 : decode cJx4a65c_add_7a177 48 = .ok (.isub, 1) := by decide +kernel
theorem dJx4a65c_add_7a177_49 : decode cJx4a65c_add_7a177 49 = .ok (.invokestatic 112, 3) := by decide +kernel
theorem dJx4a65c_add_7a177_52 : decode cJx4a65c_add_7a177 52 = .ok (.aload 4, 2) := by decide +kernel
theorem dJx4a65c_add_7a177_54 : decode cJx4a65c_add_7a177 54 = .ok (.iload_n 1, 1) := by decide +kernel
theorem dJx4a65c_add_7a177_55 : decode cJx4a65c_add_7a177 55 = .ok (.aload_n 2, 1) := by decide +kernel
theorem dJx4a65c_add_7a177_56 : decode cJx4a65c_add_7a177 56 = .ok (.aastore, 1) := by decide +kernel
theorem dJx4a65c_add_7a177_57 : decode cJx4a65c_add_7a177 57 = .ok (.aload_n 0, 1) := by decide +kernel
theorem dJx4a65c_add_7a177_58 : decode cJx4a65c_add_7a177 58 = .ok (.iload_n 3, 1) := by decide +kernel
theorem dJx4a65c_add_7a177_59 : decode cJx4a65c_add_7a177 59 = .ok (.iconst 1, 1) := by decide +kernel
theorem dJx4a65c_add_7a177_60 : decode cJx4a65c_add_7a177 60 = .ok (.iadd, 1) := by decide +kernel
theorem dJx4a65c_add_7a177_61 : decode cJx4a65c_add_7a177 61 = .ok (.putfield 48, 3) := by decide +kernel
theorem dJx4a65c_add_7a177_64 : decode cJx4a65c_add_7a177 64 = .ok (.return_, 1) := by decide +kernel
theorem dJx4a65c_rangeCheckForAdd_d00df_0 : decode cJx4a65c_rangeCheckForAdd_d00df 0 = .ok (.iload_n 1, 1) := by decide +kernel
theorem dJx4a65c_rangeCheckForAdd_d00df_1 : decode cJx4a65c_rangeCheckForAdd_d00df 1 = .ok (.aload_n 0, 1) := by decide +kernel
theorem dJx4a65c_rangeCheckForAdd_d00df_2 : decode cJx4a65c_rangeCheckForAdd_d00df 2 = .ok (.getfield 48, 3) := by decide +kernel
theorem dJx4a65c_rangeCheckForAdd_d00df_5 : decode cJx4a65c_rangeCheckForAdd_d00df 5 = .ok (.if_icmp .gt 7, 3) := by decide +kernel
theorem dJx4a65c_rangeCheckForAdd_d00df_8 : decode cJx4a65c_rangeCheckForAdd_d00df 8 = .ok (.iload_n 1, 1) := by decide +kernel
theorem dJx4a65c_rangeCheckForAdd_d00df_9 : decode cJx4a65c_rangeCheckForAdd_d00df 9 = .ok (.ifCond .ge 16, 3) := by decide +kernel
theorem dJx4a65c_rangeCheckForAdd_d00df_12 : decode cJx4a65c_rangeCheckForAdd_d00df 12 = .ok (.new 187, 3) := by decide +kernel
theorem dJx4a65c_rangeCheckForAdd_d00df_15 : decode cJx4a65c_rangeCheckForAdd_d00df 15 = .ok (.dup, 1) := by decide +kernel
theorem dJx4a65c_rangeCheckForAdd_d00df_16 : decode cJx4a65c_rangeCheckForAdd_d00df 16 = .ok (.aload_n 0, 1) := by decide +kernel
theorem dJx4a65c_rangeCheckForAdd_d00df_17 : decode cJx4a65c_rangeCheckForAdd_d00df 17 = .ok (.iload_n 1, 1) := by decide +kernel
theorem dJx4a65c_rangeCheckForAdd_d00df_18 : decode cJx4a65c_rangeCheckForAdd_d00df 18 = .ok (.invokevirtual 198, 3) := by decide +kernel
theorem dJx4a65c_rangeCheckForAdd_d00df_21 : decode cJx4a65c_rangeCheckForAdd_d00df 21 = .ok (.invokespecial 193, 3) := by decide +kernel
theorem dJx4a65c_rangeCheckForAdd_d00df_24 : decode cJx4a65c_rangeCheckForAdd_d00df 24 = .ok (.athrow, 1) := by decide +kernel
theorem dJx4a65c_rangeCheckForAdd_d00df_25 : decode cJx4a65c_rangeCheckForAdd_d00df 25 = .ok (.return_, 1) := by decide +kernel
theorem dJ7_copyOf_1904c_0 : decode cJ7_copyOf_1904c 0 = .ok (.aload_n 0, 1) := by decide +kernel
theorem dJ7_copyOf_1904c_1 : decode cJ7_copyOf_1904c 1 = .ok (.iload_n 1, 1) := by decide +kernel
theorem dJ7_copyOf_1904c_2 : decode cJ7_copyOf_1904c 2 = .ok (.aload_n 0, 1) := by decide +kernel
theorem dJ7_copyOf_1904c_3 : decode cJ7_copyOf_1904c 3 = .ok (.invokevirtual 86, 3) := by decide +kernel
theorem dJ7_copyOf_1904c_6 : decode cJ7_copyOf_1904c 6 = .ok (.invokestatic 300, 3) := by decide +kernel
theorem dJ7_copyOf_1904c_9 : decode cJ7_copyOf_1904c 9 = .ok (.areturn, 1) := by decide +kernel
theorem dJ7_copyOf_6403c_0 : decode cJ7_copyOf_6403c 0 = .ok (.aload_n 2, 1) := by decide +kernel
theorem dJ7_copyOf_6403c_1 : decode cJ7_copyOf_6403c 1 = .ok (.ldc 110, 2) := by decide +kernel
theorem dJ7_copyOf_6403c_3 : decode cJ7_copyOf_6403c 3 = .ok (.if_acmp .ne 10, 3) := by decide +kernel
theorem dJ7_copyOf_6403c_6 : decode cJ7_copyOf_6403c 6 = .ok (.iload_n 1, 1) := by decide +kernel
theorem dJ7_copyOf_6403c_7 : decode cJ7_copyOf_6403c 7 = .ok (.anewarray 2, 3) := by decide +kernel
theorem dJ7_copyOf_6403c_10 : decode cJ7_copyOf_6403c 10 = .ok (.goto 14, 3) := by decide +kernel
theorem dJ7_copyOf_6403c_13 : decode cJ7_copyOf_6403c 13 = .ok (.aload_n 2, 1) := by decide +kernel
theorem dJ7_copyOf_6403c_14 : decode cJ7_copyOf_6403c 14 = .ok (.invokevirtual 90, 3) := by decide +kernel
theorem dJ7_copyOf_6403c_17 : decode cJ7_copyOf_6403c 17 = .ok (.iload_n 1, 1) := by decide +kernel
theorem dJ7_copyOf_6403c_18 : decode cJ7_copyOf_6403c 18 = .ok (.invokestatic 95, 3) := by decide +kernel
theorem dJ7_copyOf_6403c_21 : decode cJ7_copyOf_6403c 21 = .ok (.checkcast 110, 3) := by decide +kernel
theorem dJ7_copyOf_6403c_24 : decode cJ7_copyOf_6403c 24 = .ok (.astore_n 3, 1) := by decide +kernel
theorem dJ7_copyOf_6403c_25 : decode cJ7_copyOf_6403c 25 = .ok (.aload_n 0, 1) := by decide +kernel
theorem dJ7_copyOf_6403c_26 : decode cJ7_copyOf_6403c 26 = .ok (.iconst 0, 1) := by decide +kernel
theorem dJ7_copyOf_6403c_27 : decode cJ7_copyOf_6403c 27 = .ok (.aload_n 3, 1) := by decide +kernel
theorem dJ7_copyOf_6403c_28 : decode cJ7_copyOf_6403c 28 = .ok (.iconst 0, 1) := by decide +kernel
theorem dJ7_copyOf_6403c_29 : decode cJ7_copyOf_6403c 29 = .ok (.aload_n 0, 1) := by decide +kernel
theorem dJ7_copyOf_6403c_30 : decode cJ7_copyOf_6403c 30 = .ok (.arraylength, 1) := by decide +kernel
theorem dJ7_copyOf_6403c_31 : decode cJ7_copyOf_6403c 31 = .ok (.iload_n 1, 1) := by decide +kernel
theorem dJ7_copyOf_6403c_32 : decode cJ7_copyOf_6403c 32 = .ok (.invokestatic 304, 3) := by decide +kernel
theorem dJ7_copyOf_6403c_35 : decode cJ7_copyOf_6403c 35 = .ok (.invokestatic 150, 3) := by decide +kernel
theorem dJ7_copyOf_6403c_38 : decode cJ7_copyOf_6403c 38 = .ok (.aload_n 3, 1) := by decide +kernel
theorem dJ7_copyOf_6403c_39 : decode cJ7_copyOf_6403c 39 = .ok (.areturn, 1) := by decide +kernel
theorem dJ15_checkIndex_7cf53_0 : decode cJ15_checkIndex_7cf53 0 = .ok (.iload_n 0, 1) := by decide +kernel
theorem dJ15_checkIndex_7cf53_1 : decode cJ15_checkIndex_7cf53 1 = .ok (.iload_n 1, 1) := by decide +kernel
theorem dJ15_checkIndex_7cf53_2 : decode cJ15_checkIndex_7cf53 2 = .ok (.aconst_null, 1) := by decide +kernel
theorem dJ15_checkIndex_7cf53_3 : decode cJ15_checkIndex_7cf53 3 = .ok (.invokestatic 105, 3) := by decide +kernel
theorem dJ15_checkIndex_7cf53_6 : decode cJ15_checkIndex_7cf53 6 = .ok (.ireturn, 1) := by decide +kernel
theorem dJ8_newLength_cabcc_0 : decode cJ8_newLength_cabcc 0 = .ok (.iload_n 0, 1) := by decide +kernel
theorem dJ8_newLength_cabcc_1 : decode cJ8_newLength_cabcc 1 = .ok (.iload_n 1, 1) := by decide +kernel
theorem dJ8_newLength_cabcc_2 : decode cJ8_newLength_cabcc 2 = .ok (.iload_n 2, 1) := by decide +kernel
theorem dJ8_newLength_cabcc_3 : decode cJ8_newLength_cabcc 3 = .ok (.invokestatic 194, 3) := by decide +kernel
theorem dJ8_newLength_cabcc_6 : decode cJ8_newLength_cabcc 6 = .ok (.iadd, 1) := by decide +kernel
theorem dJ8_newLength_cabcc_7 : decode cJ8_newLength_cabcc 7 = .ok (.istore_n 3, 1) := by decide +kernel
theorem dJ8_newLength_cabcc_8 : decode cJ8_newLength_cabcc 8 = .ok (.iconst 0, 1) := by decide +kernel
theorem dJ8_newLength_cabcc_9 : decode cJ8_newLength_cabcc 9 = .ok (.iload_n 3, 1) := by decide +kernel
theorem dJ8_newLength_cabcc_10 : decode cJ8_newLength_cabcc 10 = .ok (.if_icmp .ge 11, 3) := by decide +kernel
theorem dJ8_newLength_cabcc_13 : decode cJ8_newLength_cabcc 13 = .ok (.iload_n 3, 1) := by decide +kernel
theorem dJ8_newLength_cabcc_14 : decode cJ8_newLength_cabcc 14 = .ok (.ldc 200, 2) := by decide +kernel
theorem dJ8_newLength_cabcc_16 : decode cJ8_newLength_cabcc 16 = .ok (.if_icmp .gt 5, 3) := by decide +kernel
theorem dJ8_newLength_cabcc_19 : decode cJ8_newLength_cabcc 19 = .ok (.iload_n 3, 1) := by decide +kernel
theorem dJ8_newLength_cabcc_20 : decode cJ8_newLength_cabcc 20 = .ok (.ireturn, 1) := by decide +kernel
theorem dJ8_newLength_cabcc_21 : decode cJ8_newLength_cabcc 21 = .ok (.iload_n 0, 1) := by decide +kernel
theorem dJ8_newLength_cabcc_22 : decode cJ8_newLength_cabcc 22 = .ok (.iload_n 1, 1) := by decide +kernel
theorem dJ8_newLength_cabcc_23 : decode cJ8_newLength_cabcc 23 = .ok (.invokestatic 201, 3) := by decide +kernel
theorem dJ8_newLength_cabcc_26 : decode cJ8_newLength_cabcc 26 = .ok (.ireturn, 1) := by decide +kernel
theorem dJ8_hugeLength_7cf53_0 : decode cJ8_hugeLength_7cf53 0 = .ok (.iload_n 0, 1) := by decide +kernel
theorem dJ8_hugeLength_7cf53_1 : decode cJ8_hugeLength_7cf53 1 = .ok (.iload_n 1, 1) := by decide +kernel
theorem dJ8_hugeLength_7cf53_2 : decode cJ8_hugeLength_7cf53 2 = .ok (.iadd, 1) := by decide +kernel
theorem dJ8_hugeLength_7cf53_3 : decode cJ8_hugeLength_7cf53 3 = .ok (.istore_n 2, 1) := by decide +kernel
theorem dJ8_hugeLength_7cf53_4 : decode cJ8_hugeLength_7cf53 4 = .ok (.iload_n 2, 1) := by decide +kernel
theorem dJ8_hugeLength_7cf53_5 : decode cJ8_hugeLength_7cf53 5 = .ok (.ifCond .ge 44, 3) := by decide +kernel
theorem dJ8_hugeLength_7cf53_8 : decode cJ8_hugeLength_7cf53 8 = .ok (.new 204, 3) := by decide +kernel
theorem dJ8_hugeLength_7cf53_11 : decode cJ8_hugeLength_7cf53 11 = .ok (.dup, 1) := by decide +kernel
theorem dJ8_hugeLength_7cf53_12 : decode cJ8_hugeLength_7cf53 12 = .ok (.new 89, 3) := by decide +kernel
theorem dJ8_hugeLength_7cf53_15 : decode cJ8_hugeLength_7cf53 15 = .ok (.dup, 1) := by decide +kernel
theorem dJ8_hugeLength_7cf53_16 : decode cJ8_hugeLength_7cf53 16 = .ok (.invokespecial 91, 3) := by decide +kernel
theorem dJ8_hugeLength_7cf53_19 : decode cJ8_hugeLength_7cf53 19 = .ok (.ldc 206, 2) := by decide +kernel
theorem dJ8_hugeLength_7cf53_21 : decode cJ8_hugeLength_7cf53 21 = .ok (.invokevirtual 94, 3) := by decide +kernel
theorem dJ8_hugeLength_7cf53_24 : decode cJ8_hugeLength_7cf53 24 = .ok (.iload_n 0, 1) := by decide +kernel
theorem dJ8_hugeLength_7cf53_25 : decode cJ8_hugeLength_7cf53 25 = .ok (.invokevirtual 98, 3) := by decide +kernel
theorem dJ8_hugeLength_7cf53_28 : decode cJ8_hugeLength_7cf53 28 = .ok (.ldc 208, 2) := by decide +kernel
theorem dJ8_hugeLength_7cf53_30 : decode cJ8_hugeLength_7cf53 30 = .ok (.invokevirtual 94, 3) := by decide +kernel
theorem dJ8_hugeLength_7cf53_33 : decode cJ8_hugeLength_7cf53 33 = .ok (.iload_n 1, 1) := by decide +kernel
theorem dJ8_hugeLength_7cf53_34 : decode cJ8_hugeLength_7cf53 34 = .ok (.invokevirtual 98, 3) := by decide +kernel
theorem dJ8_hugeLength_7cf53_37 : decode cJ8_hugeLength_7cf53 37 = .ok (.ldc 210, 2) := by decide +kernel
theorem dJ8_hugeLength_7cf53_39 : decode cJ8_hugeLength_7cf53 39 = .ok (.invokevirtual 94, 3) := by decide +kernel
theorem dJ8_hugeLength_7cf53_42 : decode cJ8_hugeLength_7cf53 42 = .ok (.invokevirtual 101, 3) := by decide +kernel
theorem dJ8_hugeLength_7cf53_45 : decode cJ8_hugeLength_7cf53 45 = .ok (.invokespecial 212, 3) := by decide +kernel
theorem dJ8_hugeLength_7cf53_48 : decode cJ8_hugeLength_7cf53 48 = .ok (.athrow, 1) := by decide +kernel
theorem dJ8_hugeLength_7cf53_49 : decode cJ8_hugeLength_7cf53 49 = .ok (.iload_n 2, 1) := by decide +kernel
theorem dJ8_hugeLength_7cf53_50 : decode cJ8_hugeLength_7cf53 50 = .ok (.ldc 200, 2) := by decide +kernel
theorem dJ8_hugeLength_7cf53_52 : decode cJ8_hugeLength_7cf53 52 = .ok (.if_icmp .gt 6, 3) := by decide +kernel
theorem dJ8_hugeLength_7cf53_55 : decode cJ8_hugeLength_7cf53 55 = .ok (.ldc 200, 2) := by decide +kernel
theorem dJ8_hugeLength_7cf53_57 : decode cJ8_hugeLength_7cf53 57 = .ok (.ireturn, 1) := by decide +kernel
theorem dJ8_hugeLength_7cf53_58 : decode cJ8_hugeLength_7cf53 58 = .ok (.iload_n 2, 1) := by decide +kernel
theorem dJ8_hugeLength_7cf53_59 : decode cJ8_hugeLength_7cf53 59 = .ok (.ireturn, 1) := by decide +kernel
theorem dJ3_checkIndex_8e157_0 : decode cJ3_checkIndex_8e157 0 = .ok (.iload_n 0, 1) := by decide +kernel
theorem dJ3_checkIndex_8e157_1 : decode cJ3_checkIndex_8e157 1 = .ok (.ifCond .lt 8, 3) := by decide +kernel
theorem dJ3_checkIndex_8e157_4 : decode cJ3_checkIndex_8e157 4 = .ok (.iload_n 0, 1) := by decide +kernel
theorem dJ3_checkIndex_8e157_5 : decode cJ3_checkIndex_8e157 5 = .ok (.iload_n 1, 1) := by decide +kernel
theorem dJ3_checkIndex_8e157_6 : decode cJ3_checkIndex_8e157 6 = .ok (.if_icmp .lt 10, 3) := by decide +kernel
theorem dJ3_checkIndex_8e157_9 : decode cJ3_checkIndex_8e157 9 = .ok (.aload_n 2, 1) := by decide +kernel
theorem dJ3_checkIndex_8e157_10 : decode cJ3_checkIndex_8e157 10 = .ok (.iload_n 0, 1) := by decide +kernel
theorem dJ3_checkIndex_8e157_11 : decode cJ3_checkIndex_8e157 11 = .ok (.iload_n 1, 1) := by decide +kernel
theorem dJ3_checkIndex_8e157_12 : decode cJ3_checkIndex_8e157 12 = .ok (.invokestatic 95, 3) := by decide +kernel
theorem dJ3_checkIndex_8e157_15 : decode cJ3_checkIndex_8e157 15 = .ok (.athrow, 1) := by decide +kernel
theorem dJ3_checkIndex_8e157_16 : decode cJ3_checkIndex_8e157 16 = .ok (.iload_n 0, 1) := by decide +kernel
theorem dJ3_checkIndex_8e157_17 : decode cJ3_checkIndex_8e157 17 = .ok (.ireturn, 1) := by decide +kernel
theorem dL_law_0 : decode cL_law 0 = .ok (.new 7, 3) := by decide +kernel
theorem dL_law_3 : decode cL_law 3 = .ok (.dup, 1) := by decide +kernel
theorem dL_law_4 : decode cL_law 4 = .ok (.invokespecial 9, 3) := by decide +kernel
theorem dL_law_7 : decode cL_law 7 = .ok (.astore_n 1, 1) := by decide +kernel
theorem dL_law_8 : decode cL_law 8 = .ok (.new 10, 3) := by decide +kernel
theorem dL_law_11 : decode cL_law 11 = .ok (.dup, 1) := by decide +kernel
theorem dL_law_12 : decode cL_law 12 = .ok (.invokespecial 12, 3) := by decide +kernel
theorem dL_law_15 : decode cL_law 15 = .ok (.astore_n 2, 1) := by decide +kernel
theorem dL_law_16 : decode cL_law 16 = .ok (.iconst 0, 1) := by decide +kernel
theorem dL_law_17 : decode cL_law 17 = .ok (.istore_n 3, 1) := by decide +kernel
theorem dL_law_18 : decode cL_law 18 = .ok (.iload_n 3, 1) := by decide +kernel
theorem dL_law_19 : decode cL_law 19 = .ok (.aload_n 0, 1) := by decide +kernel
theorem dL_law_20 : decode cL_law 20 = .ok (.arraylength, 1) := by decide +kernel
theorem dL_law_21 : decode cL_law 21 = .ok (.bipush 6, 2) := by decide +kernel
theorem dL_law_23 : decode cL_law 23 = .ok (.isub, 1) := by decide +kernel
theorem dL_law_24 : decode cL_law 24 = .ok (.if_icmp .gt 1378, 3) := by decide +kernel
theorem dL_law_27 : decode cL_law 27 = .ok (.aload_n 0, 1) := by decide +kernel
theorem dL_law_28 : decode cL_law 28 = .ok (.iload_n 3, 1) := by decide +kernel
theorem dL_law_29 : decode cL_law 29 = .ok (.iaload, 1) := by decide +kernel
theorem dL_law_30 : decode cL_law 30 = .ok (.bipush 63, 2) := by decide +kernel
theorem dL_law_32 : decode cL_law 32 = .ok (.iand, 1) := by decide +kernel
theorem dL_law_33 : decode cL_law 33 = .ok (.tableswitch 1363 0 32 #[147, 170, 193, 236, 269, 332, 365, 398, 451, 504, 557, 601, 664, 687, 710, 733, 766, 809, 832, 866, 899, 932, 975, 998, 1042, 1095, 1129, 1153, 1177, 1220, 1253, 1286, 1339], 147) := by decide +kernel
theorem dL_law_180 : decode cL_law 180 = .ok (.aload_n 1, 1) := by decide +kernel
theorem dL_law_181 : decode cL_law 181 = .ok (.aload_n 0, 1) := by decide +kernel
theorem dL_law_182 : decode cL_law 182 = .ok (.iload_n 3, 1) := by decide +kernel
theorem dL_law_183 : decode cL_law 183 = .ok (.iconst 1, 1) := by decide +kernel
theorem dL_law_184 : decode cL_law 184 = .ok (.iadd, 1) := by decide +kernel
theorem dL_law_185 : decode cL_law 185 = .ok (.iaload, 1) := by decide +kernel
theorem dL_law_186 : decode cL_law 186 = .ok (.invokevirtual 13, 3) := by decide +kernel
theorem dL_law_189 : decode cL_law 189 = .ok (.aload_n 2, 1) := by decide +kernel
theorem dL_law_190 : decode cL_law 190 = .ok (.aload_n 0, 1) := by decide +kernel
theorem dL_law_191 : decode cL_law 191 = .ok (.iload_n 3, 1) := by decide +kernel
theorem dL_law_192 : decode cL_law 192 = .ok (.iconst 1, 1) := by decide +kernel
theorem dL_law_193 : decode cL_law 193 = .ok (.iadd, 1) := by decide +kernel
theorem dL_law_194 : decode cL_law 194 = .ok (.iaload, 1) := by decide +kernel
theorem dL_law_195 : decode cL_law 195 = .ok (.invokevirtual 17, 3) := by decide +kernel
theorem dL_law_198 : decode cL_law 198 = .ok (.if_icmp .eq 1198, 3) := by decide +kernel
theorem dL_law_201 : decode cL_law 201 = .ok (.iconst 0, 1) := by decide +kernel
theorem dL_law_202 : decode cL_law 202 = .ok (.ireturn, 1) := by decide +kernel
theorem dL_law_203 : decode cL_law 203 = .ok (.aload_n 1, 1) := by decide +kernel
theorem dL_law_204 : decode cL_law 204 = .ok (.aload_n 0, 1) := by decide +kernel
theorem dL_law_205 : decode cL_law 205 = .ok (.iload_n 3, 1) := by decide +kernel
theorem dL_law_206 : decode cL_law 206 = .ok (.iconst 1, 1) := by decide +kernel
theorem dL_law_207 : decode cL_law 207 = .ok (.iadd, 1) := by decide +kernel
theorem dL_law_208 : decode cL_law 208 = .ok (.iaload, 1) := by decide +kernel
theorem dL_law_209 : decode cL_law 209 = .ok (.invokevirtual 18, 3) := by decide +kernel
theorem dL_law_212 : decode cL_law 212 = .ok (.aload_n 2, 1) := by decide +kernel
theorem dL_law_213 : decode cL_law 213 = .ok (.aload_n 0, 1) := by decide +kernel
theorem dL_law_214 : decode cL_law 214 = .ok (.iload_n 3, 1) := by decide +kernel
theorem dL_law_215 : decode cL_law 215 = .ok (.iconst 1, 1) := by decide +kernel
theorem dL_law_216 : decode cL_law 216 = .ok (.iadd, 1) := by decide +kernel
theorem dL_law_217 : decode cL_law 217 = .ok (.iaload, 1) := by decide +kernel
theorem dL_law_218 : decode cL_law 218 = .ok (.invokevirtual 21, 3) := by decide +kernel
theorem dL_law_221 : decode cL_law 221 = .ok (.if_icmp .eq 1175, 3) := by decide +kernel
theorem dL_law_224 : decode cL_law 224 = .ok (.iconst 0, 1) := by decide +kernel
theorem dL_law_225 : decode cL_law 225 = .ok (.ireturn, 1) := by decide +kernel
theorem dL_law_226 : decode cL_law 226 = .ok (.aload_n 1, 1) := by decide +kernel
theorem dL_law_227 : decode cL_law 227 = .ok (.aload_n 0, 1) := by decide +kernel
theorem dL_law_228 : decode cL_law 228 = .ok (.iload_n 3, 1) := by decide +kernel
theorem dL_law_229 : decode cL_law 229 = .ok (.iconst 1, 1) := by decide +kernel
theorem dL_law_230 : decode cL_law 230 = .ok (.iadd, 1) := by decide +kernel
theorem dL_law_231 : decode cL_law 231 = .ok (.iaload, 1) := by decide +kernel
theorem dL_law_232 : decode cL_law 232 = .ok (.aload_n 0, 1) := by decide +kernel
theorem dL_law_233 : decode cL_law 233 = .ok (.iload_n 3, 1) := by decide +kernel
theorem dL_law_234 : decode cL_law 234 = .ok (.iconst 2, 1) := by decide +kernel
theorem dL_law_235 : decode cL_law 235 = .ok (.iadd, 1) := by decide +kernel
theorem dL_law_236 : decode cL_law 236 = .ok (.iaload, 1) := by decide +kernel
theorem dL_law_237 : decode cL_law 237 = .ok (.aload_n 0, 1) := by decide +kernel
theorem dL_law_238 : decode cL_law 238 = .ok (.iload_n 3, 1) := by decide +kernel
theorem dL_law_239 : decode cL_law 239 = .ok (.iconst 3, 1) := by decide +kernel
theorem dL_law_240 : decode cL_law 240 = .ok (.iadd, 1) := by decide +kernel
theorem dL_law_241 : decode cL_law 241 = .ok (.iaload, 1) := by decide +kernel
theorem dL_law_242 : decode cL_law 242 = .ok (.invokevirtual 22, 3) := by decide +kernel
theorem dL_law_245 : decode cL_law 245 = .ok (.aload_n 2, 1) := by decide +kernel
theorem dL_law_246 : decode cL_law 246 = .ok (.aload_n 0, 1) := by decide +kernel
theorem dL_law_247 : decode cL_law 247 = .ok (.iload_n 3, 1) := by decide +kernel
theorem dL_law_248 : decode cL_law 248 = .ok (.iconst 1, 1) := by decide +kernel
theorem dL_law_249 : decode cL_law 249 = .ok (.iadd, 1) := by decide +kernel
theorem dL_law_250 : decode cL_law 250 = .ok (.iaload, 1) := by decide +kernel
theorem dL_law_251 : decode cL_law 251 = .ok (.aload_n 0, 1) := by decide +kernel
theorem dL_law_252 : decode cL_law 252 = .ok (.iload_n 3, 1) := by decide +kernel
theorem dL_law_253 : decode cL_law 253 = .ok (.iconst 2, 1) := by decide +kernel
theorem dL_law_254 : decode cL_law 254 = .ok (.iadd, 1) := by decide +kernel
theorem dL_law_255 : decode cL_law 255 = .ok (.iaload, 1) := by decide +kernel
theorem dL_law_256 : decode cL_law 256 = .ok (.aload_n 0, 1) := by decide +kernel
theorem dL_law_257 : decode cL_law 257 = .ok (.iload_n 3, 1) := by decide +kernel
theorem dL_law_258 : decode cL_law 258 = .ok (.iconst 3, 1) := by decide +kernel
theorem dL_law_259 : decode cL_law 259 = .ok (.iadd, 1) := by decide +kernel
theorem dL_law_260 : decode cL_law 260 = .ok (.iaload, 1) := by decide +kernel
theorem dL_law_261 : decode cL_law 261 = .ok (.invokevirtual 26, 3) := by decide +kernel
theorem dL_law_264 : decode cL_law 264 = .ok (.if_icmp .eq 1132, 3) := by decide +kernel
theorem dL_law_267 : decode cL_law 267 = .ok (.iconst 0, 1) := by decide +kernel
theorem dL_law_268 : decode cL_law 268 = .ok (.ireturn, 1) := by decide +kernel
theorem dL_law_269 : decode cL_law 269 = .ok (.aload_n 1, 1) := by decide +kernel
theorem dL_law_270 : decode cL_law 270 = .ok (.aload_n 0, 1) := by decide +kernel
theorem dL_law_271 : decode cL_law 271 = .ok (.iload_n 3, 1) := by decide +kernel
theorem dL_law_272 : decode cL_law 272 = .ok (.iconst 1, 1) := by decide +kernel
theorem dL_law_273 : decode cL_law 273 = .ok (.iadd, 1) := by decide +kernel
theorem dL_law_274 : decode cL_law 274 = .ok (.iaload, 1) := by decide +kernel
theorem dL_law_275 : decode cL_law 275 = .ok (.aload_n 0, 1) := by decide +kernel
theorem dL_law_276 : decode cL_law 276 = .ok (.iload_n 3, 1) := by decide +kernel
theorem dL_law_277 : decode cL_law 277 = .ok (.iconst 2, 1) := by decide +kernel
theorem dL_law_278 : decode cL_law 278 = .ok (.iadd, 1) := by decide +kernel
theorem dL_law_279 : decode cL_law 279 = .ok (.iaload, 1) := by decide +kernel
theorem dL_law_280 : decode cL_law 280 = .ok (.invokevirtual 27, 3) := by decide +kernel
theorem dL_law_283 : decode cL_law 283 = .ok (.aload_n 2, 1) := by decide +kernel
theorem dL_law_284 : decode cL_law 284 = .ok (.aload_n 0, 1) := by decide +kernel
theorem dL_law_285 : decode cL_law 285 = .ok (.iload_n 3, 1) := by decide +kernel
theorem dL_law_286 : decode cL_law 286 = .ok (.iconst 1, 1) := by decide +kernel
theorem dL_law_287 : decode cL_law 287 = .ok (.iadd, 1) := by decide +kernel
theorem dL_law_288 : decode cL_law 288 = .ok (.iaload, 1) := by decide +kernel
theorem dL_law_289 : decode cL_law 289 = .ok (.aload_n 0, 1) := by decide +kernel
theorem dL_law_290 : decode cL_law 290 = .ok (.iload_n 3, 1) := by decide +kernel
theorem dL_law_291 : decode cL_law 291 = .ok (.iconst 2, 1) := by decide +kernel
theorem dL_law_292 : decode cL_law 292 = .ok (.iadd, 1) := by decide +kernel
theorem dL_law_293 : decode cL_law 293 = .ok (.iaload, 1) := by decide +kernel
theorem dL_law_294 : decode cL_law 294 = .ok (.invokevirtual 31, 3) := by decide +kernel
theorem dL_law_297 : decode cL_law 297 = .ok (.if_icmp .eq 1099, 3) := by decide +kernel
theorem dL_law_300 : decode cL_law 300 = .ok (.iconst 0, 1) := by decide +kernel
theorem dL_law_301 : decode cL_law 301 = .ok (.ireturn, 1) := by decide +kernel
theorem dL_law_302 : decode cL_law 302 = .ok (.aload_n 1, 1) := by decide +kernel
theorem dL_law_303 : decode cL_law 303 = .ok (.aload_n 0, 1) := by decide +kernel
theorem dL_law_304 : decode cL_law 304 = .ok (.iload_n 3, 1) := by decide +kernel
theorem dL_law_305 : decode cL_law 305 = .ok (.iconst 1, 1) := by decide +kernel
theorem dL_law_306 : decode cL_law 306 = .ok (.iadd, 1) := by decide +kernel
theorem dL_law_307 : decode cL_law 307 = .ok (.iaload, 1) := by decide +kernel
theorem dL_law_308 : decode cL_law 308 = .ok (.aload_n 0, 1) := by decide +kernel
theorem dL_law_309 : decode cL_law 309 = .ok (.iload_n 3, 1) := by decide +kernel
theorem dL_law_310 : decode cL_law 310 = .ok (.iconst 2, 1) := by decide +kernel
theorem dL_law_311 : decode cL_law 311 = .ok (.iadd, 1) := by decide +kernel
theorem dL_law_312 : decode cL_law 312 = .ok (.iaload, 1) := by decide +kernel
theorem dL_law_313 : decode cL_law 313 = .ok (.aload_n 0, 1) := by decide +kernel
theorem dL_law_314 : decode cL_law 314 = .ok (.iload_n 3, 1) := by decide +kernel
theorem dL_law_315 : decode cL_law 315 = .ok (.iconst 3, 1) := by decide +kernel
theorem dL_law_316 : decode cL_law 316 = .ok (.iadd, 1) := by decide +kernel
theorem dL_law_317 : decode cL_law 317 = .ok (.iaload, 1) := by decide +kernel
theorem dL_law_318 : decode cL_law 318 = .ok (.aload_n 0, 1) := by decide +kernel
theorem dL_law_319 : decode cL_law 319 = .ok (.iload_n 3, 1) := by decide +kernel
theorem dL_law_320 : decode cL_law 320 = .ok (.iconst 4, 1) := by decide +kernel
theorem dL_law_321 : decode cL_law 321 = .ok (.iadd, 1) := by decide +kernel
theorem dL_law_322 : decode cL_law 322 = .ok (.iaload, 1) := by decide +kernel
theorem dL_law_323 : decode cL_law 323 = .ok (.aload_n 0, 1) := by decide +kernel
theorem dL_law_324 : decode cL_law 324 = .ok (.iload_n 3, 1) := by decide +kernel
theorem dL_law_325 : decode cL_law 325 = .ok (.iconst 5, 1) := by decide +kernel
theorem dL_law_326 : decode cL_law 326 = .ok (.iadd, 1) := by decide +kernel
theorem dL_law_327 : decode cL_law 327 = .ok (.iaload, 1) := by decide +kernel
theorem dL_law_328 : decode cL_law 328 = .ok (.invokevirtual 32, 3) := by decide +kernel
theorem dL_law_331 : decode cL_law 331 = .ok (.aload_n 2, 1) := by decide +kernel
theorem dL_law_332 : decode cL_law 332 = .ok (.aload_n 0, 1) := by decide +kernel
theorem dL_law_333 : decode cL_law 333 = .ok (.iload_n 3, 1) := by decide +kernel
theorem dL_law_334 : decode cL_law 334 = .ok (.iconst 1, 1) := by decide +kernel
theorem dL_law_335 : decode cL_law 335 = .ok (.iadd, 1) := by decide +kernel
theorem dL_law_336 : decode cL_law 336 = .ok (.iaload, 1) := by decide +kernel
theorem dL_law_337 : decode cL_law 337 = .ok (.aload_n 0, 1) := by decide +kernel
theorem dL_law_338 : decode cL_law 338 = .ok (.iload_n 3, 1) := by decide +kernel
theorem dL_law_339 : decode cL_law 339 = .ok (.iconst 2, 1) := by decide +kernel
theorem dL_law_340 : decode cL_law 340 = .ok (.iadd, 1) := by decide +kernel
theorem dL_law_341 : decode cL_law 341 = .ok (.iaload, 1) := by decide +kernel
theorem dL_law_342 : decode cL_law 342 = .ok (.aload_n 0, 1) := by decide +kernel
theorem dL_law_343 : decode cL_law 343 = .ok (.iload_n 3, 1) := by decide +kernel
theorem dL_law_344 : decode cL_law 344 = .ok (.iconst 3, 1) := by decide +kernel
theorem dL_law_345 : decode cL_law 345 = .ok (.iadd, 1) := by decide +kernel
theorem dL_law_346 : decode cL_law 346 = .ok (.iaload, 1) := by decide +kernel
theorem dL_law_347 : decode cL_law 347 = .ok (.aload_n 0, 1) := by decide +kernel
theorem dL_law_348 : decode cL_law 348 = .ok (.iload_n 3, 1) := by decide +kernel
theorem dL_law_349 : decode cL_law 349 = .ok (.iconst 4, 1) := by decide +kernel
theorem dL_law_350 : decode cL_law 350 = .ok (.iadd, 1) := by decide +kernel
theorem dL_law_351 : decode cL_law 351 = .ok (.iaload, 1) := by decide +kernel
theorem dL_law_352 : decode cL_law 352 = .ok (.aload_n 0, 1) := by decide +kernel
theorem dL_law_353 : decode cL_law 353 = .ok (.iload_n 3, 1) := by decide +kernel
theorem dL_law_354 : decode cL_law 354 = .ok (.iconst 5, 1) := by decide +kernel
theorem dL_law_355 : decode cL_law 355 = .ok (.iadd, 1) := by decide +kernel
theorem dL_law_356 : decode cL_law 356 = .ok (.iaload, 1) := by decide +kernel
theorem dL_law_357 : decode cL_law 357 = .ok (.invokevirtual 36, 3) := by decide +kernel
theorem dL_law_360 : decode cL_law 360 = .ok (.if_icmp .eq 1036, 3) := by decide +kernel
theorem dL_law_363 : decode cL_law 363 = .ok (.iconst 0, 1) := by decide +kernel
theorem dL_law_364 : decode cL_law 364 = .ok (.ireturn, 1) := by decide +kernel
theorem dL_law_365 : decode cL_law 365 = .ok (.aload_n 1, 1) := by decide +kernel
theorem dL_law_366 : decode cL_law 366 = .ok (.aload_n 0, 1) := by decide +kernel
theorem dL_law_367 : decode cL_law 367 = .ok (.iload_n 3, 1) := by decide +kernel
theorem dL_law_368 : decode cL_law 368 = .ok (.iconst 1, 1) := by decide +kernel
theorem dL_law_369 : decode cL_law 369 = .ok (.iadd, 1) := by decide +kernel
theorem dL_law_370 : decode cL_law 370 = .ok (.iaload, 1) := by decide +kernel
theorem dL_law_371 : decode cL_law 371 = .ok (.aload_n 0, 1) := by decide +kernel
theorem dL_law_372 : decode cL_law 372 = .ok (.iload_n 3, 1) := by decide +kernel
theorem dL_law_373 : decode cL_law 373 = .ok (.iconst 2, 1) := by decide +kernel
theorem dL_law_374 : decode cL_law 374 = .ok (.iadd, 1) := by decide +kernel
theorem dL_law_375 : decode cL_law 375 = .ok (.iaload, 1) := by decide +kernel
theorem dL_law_376 : decode cL_law 376 = .ok (.invokevirtual 37, 3) := by decide +kernel
theorem dL_law_379 : decode cL_law 379 = .ok (.aload_n 2, 1) := by decide +kernel
theorem dL_law_380 : decode cL_law 380 = .ok (.aload_n 0, 1) := by decide +kernel
theorem dL_law_381 : decode cL_law 381 = .ok (.iload_n 3, 1) := by decide +kernel
theorem dL_law_382 : decode cL_law 382 = .ok (.iconst 1, 1) := by decide +kernel
theorem dL_law_383 : decode cL_law 383 = .ok (.iadd, 1) := by decide +kernel
theorem dL_law_384 : decode cL_law 384 = .ok (.iaload, 1) := by decide +kernel
theorem dL_law_385 : decode cL_law 385 = .ok (.aload_n 0, 1) := by decide +kernel
theorem dL_law_386 : decode cL_law 386 = .ok (.iload_n 3, 1) := by decide +kernel
theorem dL_law_387 : decode cL_law 387 = .ok (.iconst 2, 1) := by decide +kernel
theorem dL_law_388 : decode cL_law 388 = .ok (.iadd, 1) := by decide +kernel
theorem dL_law_389 : decode cL_law 389 = .ok (.iaload, 1) := by decide +kernel
theorem dL_law_390 : decode cL_law 390 = .ok (.invokevirtual 41, 3) := by decide +kernel
theorem dL_law_393 : decode cL_law 393 = .ok (.if_icmp .eq 1003, 3) := by decide +kernel
theorem dL_law_396 : decode cL_law 396 = .ok (.iconst 0, 1) := by decide +kernel
theorem dL_law_397 : decode cL_law 397 = .ok (.ireturn, 1) := by decide +kernel
theorem dL_law_398 : decode cL_law 398 = .ok (.aload_n 1, 1) := by decide +kernel
theorem dL_law_399 : decode cL_law 399 = .ok (.aload_n 0, 1) := by decide +kernel
theorem dL_law_400 : decode cL_law 400 = .ok (.iload_n 3, 1) := by decide +kernel
theorem dL_law_401 : decode cL_law 401 = .ok (.iconst 1, 1) := by decide +kernel
theorem dL_law_402 : decode cL_law 402 = .ok (.iadd, 1) := by decide +kernel
theorem dL_law_403 : decode cL_law 403 = .ok (.iaload, 1) := by decide +kernel
theorem dL_law_404 : decode cL_law 404 = .ok (.aload_n 0, 1) := by decide +kernel
theorem dL_law_405 : decode cL_law 405 = .ok (.iload_n 3, 1) := by decide +kernel
theorem dL_law_406 : decode cL_law 406 = .ok (.iconst 2, 1) := by decide +kernel
theorem dL_law_407 : decode cL_law 407 = .ok (.iadd, 1) := by decide +kernel
theorem dL_law_408 : decode cL_law 408 = .ok (.iaload, 1) := by decide +kernel
theorem dL_law_409 : decode cL_law 409 = .ok (.invokevirtual 42, 3) := by decide +kernel
theorem dL_law_412 : decode cL_law 412 = .ok (.aload_n 2, 1) := by decide +kernel
theorem dL_law_413 : decode cL_law 413 = .ok (.aload_n 0, 1) := by decide +kernel
theorem dL_law_414 : decode cL_law 414 = .ok (.iload_n 3, 1) := by decide +kernel
theorem dL_law_415 : decode cL_law 415 = .ok (.iconst 1, 1) := by decide +kernel
theorem dL_law_416 : decode cL_law 416 = .ok (.iadd, 1) := by decide +kernel
theorem dL_law_417 : decode cL_law 417 = .ok (.iaload, 1) := by decide +kernel
theorem dL_law_418 : decode cL_law 418 = .ok (.aload_n 0, 1) := by decide +kernel
theorem dL_law_419 : decode cL_law 419 = .ok (.iload_n 3, 1) := by decide +kernel
theorem dL_law_420 : decode cL_law 420 = .ok (.iconst 2, 1) := by decide +kernel
theorem dL_law_421 : decode cL_law 421 = .ok (.iadd, 1) := by decide +kernel
theorem dL_law_422 : decode cL_law 422 = .ok (.iaload, 1) := by decide +kernel
theorem dL_law_423 : decode cL_law 423 = .ok (.invokevirtual 45, 3) := by decide +kernel
theorem dL_law_426 : decode cL_law 426 = .ok (.if_icmp .eq 970, 3) := by decide +kernel
theorem dL_law_429 : decode cL_law 429 = .ok (.iconst 0, 1) := by decide +kernel
theorem dL_law_430 : decode cL_law 430 = .ok (.ireturn, 1) := by decide +kernel
theorem dL_law_431 : decode cL_law 431 = .ok (.aload_n 1, 1) := by decide +kernel
theorem dL_law_432 : decode cL_law 432 = .ok (.aload_n 0, 1) := by decide +kernel
theorem dL_law_433 : decode cL_law 433 = .ok (.iload_n 3, 1) := by decide +kernel
theorem dL_law_434 : decode cL_law 434 = .ok (.iconst 1, 1) := by decide +kernel
theorem dL_law_435 : decode cL_law 435 = .ok (.iadd, 1) := by decide +kernel
theorem dL_law_436 : decode cL_law 436 = .ok (.iaload, 1) := by decide +kernel
theorem dL_law_437 : decode cL_law 437 = .ok (.aload_n 0, 1) := by decide +kernel
theorem dL_law_438 : decode cL_law 438 = .ok (.iload_n 3, 1) := by decide +kernel
theorem dL_law_439 : decode cL_law 439 = .ok (.iconst 2, 1) := by decide +kernel
theorem dL_law_440 : decode cL_law 440 = .ok (.iadd, 1) := by decide +kernel
theorem dL_law_441 : decode cL_law 441 = .ok (.iaload, 1) := by decide +kernel
theorem dL_law_442 : decode cL_law 442 = .ok (.aload_n 0, 1) := by decide +kernel
theorem dL_law_443 : decode cL_law 443 = .ok (.iload_n 3, 1) := by decide +kernel
theorem dL_law_444 : decode cL_law 444 = .ok (.iconst 3, 1) := by decide +kernel
theorem dL_law_445 : decode cL_law 445 = .ok (.iadd, 1) := by decide +kernel
theorem dL_law_446 : decode cL_law 446 = .ok (.iaload, 1) := by decide +kernel
theorem dL_law_447 : decode cL_law 447 = .ok (.aload_n 0, 1) := by decide +kernel
theorem dL_law_448 : decode cL_law 448 = .ok (.iload_n 3, 1) := by decide +kernel
theorem dL_law_449 : decode cL_law 449 = .ok (.iconst 4, 1) := by decide +kernel
theorem dL_law_450 : decode cL_law 450 = .ok (.iadd, 1) := by decide +kernel
theorem dL_law_451 : decode cL_law 451 = .ok (.iaload, 1) := by decide +kernel
theorem dL_law_452 : decode cL_law 452 = .ok (.invokevirtual 46, 3) := by decide +kernel
theorem dL_law_455 : decode cL_law 455 = .ok (.aload_n 2, 1) := by decide +kernel
theorem dL_law_456 : decode cL_law 456 = .ok (.aload_n 0, 1) := by decide +kernel
theorem dL_law_457 : decode cL_law 457 = .ok (.iload_n 3, 1) := by decide +kernel
theorem dL_law_458 : decode cL_law 458 = .ok (.iconst 1, 1) := by decide +kernel
theorem dL_law_459 : decode cL_law 459 = .ok (.iadd, 1) := by decide +kernel
theorem dL_law_460 : decode cL_law 460 = .ok (.iaload, 1) := by decide +kernel
theorem dL_law_461 : decode cL_law 461 = .ok (.aload_n 0, 1) := by decide +kernel
theorem dL_law_462 : decode cL_law 462 = .ok (.iload_n 3, 1) := by decide +kernel
theorem dL_law_463 : decode cL_law 463 = .ok (.iconst 2, 1) := by decide +kernel
theorem dL_law_464 : decode cL_law 464 = .ok (.iadd, 1) := by decide +kernel
theorem dL_law_465 : decode cL_law 465 = .ok (.iaload, 1) := by decide +kernel
theorem dL_law_466 : decode cL_law 466 = .ok (.aload_n 0, 1) := by decide +kernel
theorem dL_law_467 : decode cL_law 467 = .ok (.iload_n 3, 1) := by decide +kernel
theorem dL_law_468 : decode cL_law 468 = .ok (.iconst 3, 1) := by decide +kernel
theorem dL_law_469 : decode cL_law 469 = .ok (.iadd, 1) := by decide +kernel
theorem dL_law_470 : decode cL_law 470 = .ok (.iaload, 1) := by decide +kernel
theorem dL_law_471 : decode cL_law 471 = .ok (.aload_n 0, 1) := by decide +kernel
theorem dL_law_472 : decode cL_law 472 = .ok (.iload_n 3, 1) := by decide +kernel
theorem dL_law_473 : decode cL_law 473 = .ok (.iconst 4, 1) := by decide +kernel
theorem dL_law_474 : decode cL_law 474 = .ok (.iadd, 1) := by decide +kernel
theorem dL_law_475 : decode cL_law 475 = .ok (.iaload, 1) := by decide +kernel
theorem dL_law_476 : decode cL_law 476 = .ok (.invokevirtual 50, 3) := by decide +kernel
theorem dL_law_479 : decode cL_law 479 = .ok (.if_icmp .eq 917, 3) := by decide +kernel
theorem dL_law_482 : decode cL_law 482 = .ok (.iconst 0, 1) := by decide +kernel
theorem dL_law_483 : decode cL_law 483 = .ok (.ireturn, 1) := by decide +kernel
theorem dL_law_484 : decode cL_law 484 = .ok (.aload_n 1, 1) := by decide +kernel
theorem dL_law_485 : decode cL_law 485 = .ok (.aload_n 0, 1) := by decide +kernel
theorem dL_law_486 : decode cL_law 486 = .ok (.iload_n 3, 1) := by decide +kernel
theorem dL_law_487 : decode cL_law 487 = .ok (.iconst 1, 1) := by decide +kernel
theorem dL_law_488 : decode cL_law 488 = .ok (.iadd, 1) := by decide +kernel
theorem dL_law_489 : decode cL_law 489 = .ok (.iaload, 1) := by decide +kernel
theorem dL_law_490 : decode cL_law 490 = .ok (.aload_n 0, 1) := by decide +kernel
theorem dL_law_491 : decode cL_law 491 = .ok (.iload_n 3, 1) := by decide +kernel
theorem dL_law_492 : decode cL_law 492 = .ok (.iconst 2, 1) := by decide +kernel
theorem dL_law_493 : decode cL_law 493 = .ok (.iadd, 1) := by decide +kernel
theorem dL_law_494 : decode cL_law 494 = .ok (.iaload, 1) := by decide +kernel
theorem dL_law_495 : decode cL_law 495 = .ok (.aload_n 0, 1) := by decide +kernel
theorem dL_law_496 : decode cL_law 496 = .ok (.iload_n 3, 1) := by decide +kernel
theorem dL_law_497 : decode cL_law 497 = .ok (.iconst 3, 1) := by decide +kernel
theorem dL_law_498 : decode cL_law 498 = .ok (.iadd, 1) := by decide +kernel
theorem dL_law_499 : decode cL_law 499 = .ok (.iaload, 1) := by decide +kernel
theorem dL_law_500 : decode cL_law 500 = .ok (.aload_n 0, 1) := by decide +kernel
theorem dL_law_501 : decode cL_law 501 = .ok (.iload_n 3, 1) := by decide +kernel
theorem dL_law_502 : decode cL_law 502 = .ok (.iconst 4, 1) := by decide +kernel
theorem dL_law_503 : decode cL_law 503 = .ok (.iadd, 1) := by decide +kernel
theorem dL_law_504 : decode cL_law 504 = .ok (.iaload, 1) := by decide +kernel
theorem dL_law_505 : decode cL_law 505 = .ok (.invokevirtual 51, 3) := by decide +kernel
theorem dL_law_508 : decode cL_law 508 = .ok (.aload_n 2, 1) := by decide +kernel
theorem dL_law_509 : decode cL_law 509 = .ok (.aload_n 0, 1) := by decide +kernel
theorem dL_law_510 : decode cL_law 510 = .ok (.iload_n 3, 1) := by decide +kernel
theorem dL_law_511 : decode cL_law 511 = .ok (.iconst 1, 1) := by decide +kernel
theorem dL_law_512 : decode cL_law 512 = .ok (.iadd, 1) := by decide +kernel
theorem dL_law_513 : decode cL_law 513 = .ok (.iaload, 1) := by decide +kernel
theorem dL_law_514 : decode cL_law 514 = .ok (.aload_n 0, 1) := by decide +kernel
theorem dL_law_515 : decode cL_law 515 = .ok (.iload_n 3, 1) := by decide +kernel
theorem dL_law_516 : decode cL_law 516 = .ok (.iconst 2, 1) := by decide +kernel
theorem dL_law_517 : decode cL_law 517 = .ok (.iadd, 1) := by decide +kernel
theorem dL_law_518 : decode cL_law 518 = .ok (.iaload, 1) := by decide +kernel
theorem dL_law_519 : decode cL_law 519 = .ok (.aload_n 0, 1) := by decide +kernel
theorem dL_law_520 : decode cL_law 520 = .ok (.iload_n 3, 1) := by decide +kernel
theorem dL_law_521 : decode cL_law 521 = .ok (.iconst 3, 1) := by decide +kernel
theorem dL_law_522 : decode cL_law 522 = .ok (.iadd, 1) := by decide +kernel
theorem dL_law_523 : decode cL_law 523 = .ok (.iaload, 1) := by decide +kernel
theorem dL_law_524 : decode cL_law 524 = .ok (.aload_n 0, 1) := by decide +kernel
theorem dL_law_525 : decode cL_law 525 = .ok (.iload_n 3, 1) := by decide +kernel
theorem dL_law_526 : decode cL_law 526 = .ok (.iconst 4, 1) := by decide +kernel
theorem dL_law_527 : decode cL_law 527 = .ok (.iadd, 1) := by decide +kernel
theorem dL_law_528 : decode cL_law 528 = .ok (.iaload, 1) := by decide +kernel
theorem dL_law_529 : decode cL_law 529 = .ok (.invokevirtual 55, 3) := by decide +kernel
theorem dL_law_532 : decode cL_law 532 = .ok (.if_icmp .eq 864, 3) := by decide +kernel
theorem dL_law_535 : decode cL_law 535 = .ok (.iconst 0, 1) := by decide +kernel
theorem dL_law_536 : decode cL_law 536 = .ok (.ireturn, 1) := by decide +kernel
theorem dL_law_537 : decode cL_law 537 = .ok (.aload_n 1, 1) := by decide +kernel
theorem dL_law_538 : decode cL_law 538 = .ok (.aload_n 0, 1) := by decide +kernel
theorem dL_law_539 : decode cL_law 539 = .ok (.iload_n 3, 1) := by decide +kernel
theorem dL_law_540 : decode cL_law 540 = .ok (.iconst 1, 1) := by decide +kernel
theorem dL_law_541 : decode cL_law 541 = .ok (.iadd, 1) := by decide +kernel
theorem dL_law_542 : decode cL_law 542 = .ok (.iaload, 1) := by decide +kernel
theorem dL_law_543 : decode cL_law 543 = .ok (.aload_n 0, 1) := by decide +kernel
theorem dL_law_544 : decode cL_law 544 = .ok (.iload_n 3, 1) := by decide +kernel
theorem dL_law_545 : decode cL_law 545 = .ok (.iconst 2, 1) := by decide +kernel
theorem dL_law_546 : decode cL_law 546 = .ok (.iadd, 1) := by decide +kernel
theorem dL_law_547 : decode cL_law 547 = .ok (.iaload, 1) := by decide +kernel
theorem dL_law_548 : decode cL_law 548 = .ok (.aload_n 0, 1) := by decide +kernel
theorem dL_law_549 : decode cL_law 549 = .ok (.iload_n 3, 1) := by decide +kernel
theorem dL_law_550 : decode cL_law 550 = .ok (.iconst 3, 1) := by decide +kernel
theorem dL_law_551 : decode cL_law 551 = .ok (.iadd, 1) := by decide +kernel
theorem dL_law_552 : decode cL_law 552 = .ok (.iaload, 1) := by decide +kernel
theorem dL_law_553 : decode cL_law 553 = .ok (.aload_n 0, 1) := by decide +kernel
theorem dL_law_554 : decode cL_law 554 = .ok (.iload_n 3, 1) := by decide +kernel
theorem dL_law_555 : decode cL_law 555 = .ok (.iconst 4, 1) := by decide +kernel
theorem dL_law_556 : decode cL_law 556 = .ok (.iadd, 1) := by decide +kernel
theorem dL_law_557 : decode cL_law 557 = .ok (.iaload, 1) := by decide +kernel
theorem dL_law_558 : decode cL_law 558 = .ok (.invokevirtual 56, 3) := by decide +kernel
theorem dL_law_561 : decode cL_law 561 = .ok (.aload_n 2, 1) := by decide +kernel
theorem dL_law_562 : decode cL_law 562 = .ok (.aload_n 0, 1) := by decide +kernel
theorem dL_law_563 : decode cL_law 563 = .ok (.iload_n 3, 1) := by decide +kernel
theorem dL_law_564 : decode cL_law 564 = .ok (.iconst 1, 1) := by decide +kernel
theorem dL_law_565 : decode cL_law 565 = .ok (.iadd, 1) := by decide +kernel
theorem dL_law_566 : decode cL_law 566 = .ok (.iaload, 1) := by decide +kernel
theorem dL_law_567 : decode cL_law 567 = .ok (.aload_n 0, 1) := by decide +kernel
theorem dL_law_568 : decode cL_law 568 = .ok (.iload_n 3, 1) := by decide +kernel
theorem dL_law_569 : decode cL_law 569 = .ok (.iconst 2, 1) := by decide +kernel
theorem dL_law_570 : decode cL_law 570 = .ok (.iadd, 1) := by decide +kernel
theorem dL_law_571 : decode cL_law 571 = .ok (.iaload, 1) := by decide +kernel
theorem dL_law_572 : decode cL_law 572 = .ok (.aload_n 0, 1) := by decide +kernel
theorem dL_law_573 : decode cL_law 573 = .ok (.iload_n 3, 1) := by decide +kernel
theorem dL_law_574 : decode cL_law 574 = .ok (.iconst 3, 1) := by decide +kernel
theorem dL_law_575 : decode cL_law 575 = .ok (.iadd, 1) := by decide +kernel
theorem dL_law_576 : decode cL_law 576 = .ok (.iaload, 1) := by decide +kernel
theorem dL_law_577 : decode cL_law 577 = .ok (.aload_n 0, 1) := by decide +kernel
theorem dL_law_578 : decode cL_law 578 = .ok (.iload_n 3, 1) := by decide +kernel
theorem dL_law_579 : decode cL_law 579 = .ok (.iconst 4, 1) := by decide +kernel
theorem dL_law_580 : decode cL_law 580 = .ok (.iadd, 1) := by decide +kernel
theorem dL_law_581 : decode cL_law 581 = .ok (.iaload, 1) := by decide +kernel
theorem dL_law_582 : decode cL_law 582 = .ok (.invokevirtual 59, 3) := by decide +kernel
theorem dL_law_585 : decode cL_law 585 = .ok (.if_icmp .eq 811, 3) := by decide +kernel
theorem dL_law_588 : decode cL_law 588 = .ok (.iconst 0, 1) := by decide +kernel
theorem dL_law_589 : decode cL_law 589 = .ok (.ireturn, 1) := by decide +kernel
theorem dL_law_590 : decode cL_law 590 = .ok (.aload_n 1, 1) := by decide +kernel
theorem dL_law_591 : decode cL_law 591 = .ok (.aload_n 0, 1) := by decide +kernel
theorem dL_law_592 : decode cL_law 592 = .ok (.iload_n 3, 1) := by decide +kernel
theorem dL_law_593 : decode cL_law 593 = .ok (.iconst 1, 1) := by decide +kernel
theorem dL_law_594 : decode cL_law 594 = .ok (.iadd, 1) := by decide +kernel
theorem dL_law_595 : decode cL_law 595 = .ok (.iaload, 1) := by decide +kernel
theorem dL_law_596 : decode cL_law 596 = .ok (.aload_n 0, 1) := by decide +kernel
theorem dL_law_597 : decode cL_law 597 = .ok (.iload_n 3, 1) := by decide +kernel
theorem dL_law_598 : decode cL_law 598 = .ok (.iconst 2, 1) := by decide +kernel
theorem dL_law_599 : decode cL_law 599 = .ok (.iadd, 1) := by decide +kernel
theorem dL_law_600 : decode cL_law 600 = .ok (.iaload, 1) := by decide +kernel
theorem dL_law_601 : decode cL_law 601 = .ok (.aload_n 0, 1) := by decide +kernel
theorem dL_law_602 : decode cL_law 602 = .ok (.iload_n 3, 1) := by decide +kernel
theorem dL_law_603 : decode cL_law 603 = .ok (.iconst 3, 1) := by decide +kernel
theorem dL_law_604 : decode cL_law 604 = .ok (.iadd, 1) := by decide +kernel
theorem dL_law_605 : decode cL_law 605 = .ok (.iaload, 1) := by decide +kernel
theorem dL_law_606 : decode cL_law 606 = .ok (.invokevirtual 60, 3) := by decide +kernel
theorem dL_law_609 : decode cL_law 609 = .ok (.aload_n 2, 1) := by decide +kernel
theorem dL_law_610 : decode cL_law 610 = .ok (.aload_n 0, 1) := by decide +kernel
theorem dL_law_611 : decode cL_law 611 = .ok (.iload_n 3, 1) := by decide +kernel
theorem dL_law_612 : decode cL_law 612 = .ok (.iconst 1, 1) := by decide +kernel
theorem dL_law_613 : decode cL_law 613 = .ok (.iadd, 1) := by decide +kernel
theorem dL_law_614 : decode cL_law 614 = .ok (.iaload, 1) := by decide +kernel
theorem dL_law_615 : decode cL_law 615 = .ok (.aload_n 0, 1) := by decide +kernel
theorem dL_law_616 : decode cL_law 616 = .ok (.iload_n 3, 1) := by decide +kernel
theorem dL_law_617 : decode cL_law 617 = .ok (.iconst 2, 1) := by decide +kernel
theorem dL_law_618 : decode cL_law 618 = .ok (.iadd, 1) := by decide +kernel
theorem dL_law_619 : decode cL_law 619 = .ok (.iaload, 1) := by decide +kernel
theorem dL_law_620 : decode cL_law 620 = .ok (.aload_n 0, 1) := by decide +kernel
theorem dL_law_621 : decode cL_law 621 = .ok (.iload_n 3, 1) := by decide +kernel
theorem dL_law_622 : decode cL_law 622 = .ok (.iconst 3, 1) := by decide +kernel
theorem dL_law_623 : decode cL_law 623 = .ok (.iadd, 1) := by decide +kernel
theorem dL_law_624 : decode cL_law 624 = .ok (.iaload, 1) := by decide +kernel
theorem dL_law_625 : decode cL_law 625 = .ok (.invokevirtual 64, 3) := by decide +kernel
theorem dL_law_628 : decode cL_law 628 = .ok (.lcmp, 1) := by decide +kernel
theorem dL_law_629 : decode cL_law 629 = .ok (.ifCond .eq 767, 3) := by decide +kernel
theorem dL_law_632 : decode cL_law 632 = .ok (.iconst 0, 1) := by decide +kernel
theorem dL_law_633 : decode cL_law 633 = .ok (.ireturn, 1) := by decide +kernel
theorem dL_law_634 : decode cL_law 634 = .ok (.aload_n 1, 1) := by decide +kernel
theorem dL_law_635 : decode cL_law 635 = .ok (.aload_n 0, 1) := by decide +kernel
theorem dL_law_636 : decode cL_law 636 = .ok (.iload_n 3, 1) := by decide +kernel
theorem dL_law_637 : decode cL_law 637 = .ok (.iconst 1, 1) := by decide +kernel
theorem dL_law_638 : decode cL_law 638 = .ok (.iadd, 1) := by decide +kernel
theorem dL_law_639 : decode cL_law 639 = .ok (.iaload, 1) := by decide +kernel
theorem dL_law_640 : decode cL_law 640 = .ok (.aload_n 0, 1) := by decide +kernel
theorem dL_law_641 : decode cL_law 641 = .ok (.iload_n 3, 1) := by decide +kernel
theorem dL_law_642 : decode cL_law 642 = .ok (.iconst 2, 1) := by decide +kernel
theorem dL_law_643 : decode cL_law 643 = .ok (.iadd, 1) := by decide +kernel
theorem dL_law_644 : decode cL_law 644 = .ok (.iaload, 1) := by decide +kernel
theorem dL_law_645 : decode cL_law 645 = .ok (.aload_n 0, 1) := by decide +kernel
theorem dL_law_646 : decode cL_law 646 = .ok (.iload_n 3, 1) := by decide +kernel
theorem dL_law_647 : decode cL_law 647 = .ok (.iconst 3, 1) := by decide +kernel
theorem dL_law_648 : decode cL_law 648 = .ok (.iadd, 1) := by decide +kernel
theorem dL_law_649 : decode cL_law 649 = .ok (.iaload, 1) := by decide +kernel
theorem dL_law_650 : decode cL_law 650 = .ok (.aload_n 0, 1) := by decide +kernel
theorem dL_law_651 : decode cL_law 651 = .ok (.iload_n 3, 1) := by decide +kernel
theorem dL_law_652 : decode cL_law 652 = .ok (.iconst 4, 1) := by decide +kernel
theorem dL_law_653 : decode cL_law 653 = .ok (.iadd, 1) := by decide +kernel
theorem dL_law_654 : decode cL_law 654 = .ok (.iaload, 1) := by decide +kernel
theorem dL_law_655 : decode cL_law 655 = .ok (.aload_n 0, 1) := by decide +kernel
theorem dL_law_656 : decode cL_law 656 = .ok (.iload_n 3, 1) := by decide +kernel
theorem dL_law_657 : decode cL_law 657 = .ok (.iconst 5, 1) := by decide +kernel
theorem dL_law_658 : decode cL_law 658 = .ok (.iadd, 1) := by decide +kernel
theorem dL_law_659 : decode cL_law 659 = .ok (.iaload, 1) := by decide +kernel
theorem dL_law_660 : decode cL_law 660 = .ok (.invokevirtual 65, 3) := by decide +kernel
theorem dL_law_663 : decode cL_law 663 = .ok (.aload_n 2, 1) := by decide +kernel
theorem dL_law_664 : decode cL_law 664 = .ok (.aload_n 0, 1) := by decide +kernel
theorem dL_law_665 : decode cL_law 665 = .ok (.iload_n 3, 1) := by decide +kernel
theorem dL_law_666 : decode cL_law 666 = .ok (.iconst 1, 1) := by decide +kernel
theorem dL_law_667 : decode cL_law 667 = .ok (.iadd, 1) := by decide +kernel
theorem dL_law_668 : decode cL_law 668 = .ok (.iaload, 1) := by decide +kernel
theorem dL_law_669 : decode cL_law 669 = .ok (.aload_n 0, 1) := by decide +kernel
theorem dL_law_670 : decode cL_law 670 = .ok (.iload_n 3, 1) := by decide +kernel
theorem dL_law_671 : decode cL_law 671 = .ok (.iconst 2, 1) := by decide +kernel
theorem dL_law_672 : decode cL_law 672 = .ok (.iadd, 1) := by decide +kernel
theorem dL_law_673 : decode cL_law 673 = .ok (.iaload, 1) := by decide +kernel
theorem dL_law_674 : decode cL_law 674 = .ok (.aload_n 0, 1) := by decide +kernel
theorem dL_law_675 : decode cL_law 675 = .ok (.iload_n 3, 1) := by decide +kernel
theorem dL_law_676 : decode cL_law 676 = .ok (.iconst 3, 1) := by decide +kernel
theorem dL_law_677 : decode cL_law 677 = .ok (.iadd, 1) := by decide +kernel
theorem dL_law_678 : decode cL_law 678 = .ok (.iaload, 1) := by decide +kernel
theorem dL_law_679 : decode cL_law 679 = .ok (.aload_n 0, 1) := by decide +kernel
theorem dL_law_680 : decode cL_law 680 = .ok (.iload_n 3, 1) := by decide +kernel
theorem dL_law_681 : decode cL_law 681 = .ok (.iconst 4, 1) := by decide +kernel
theorem dL_law_682 : decode cL_law 682 = .ok (.iadd, 1) := by decide +kernel
theorem dL_law_683 : decode cL_law 683 = .ok (.iaload, 1) := by decide +kernel
theorem dL_law_684 : decode cL_law 684 = .ok (.aload_n 0, 1) := by decide +kernel
theorem dL_law_685 : decode cL_law 685 = .ok (.iload_n 3, 1) := by decide +kernel
theorem dL_law_686 : decode cL_law 686 = .ok (.iconst 5, 1) := by decide +kernel
theorem dL_law_687 : decode cL_law 687 = .ok (.iadd, 1) := by decide +kernel
theorem dL_law_688 : decode cL_law 688 = .ok (.iaload, 1) := by decide +kernel
theorem dL_law_689 : decode cL_law 689 = .ok (.invokevirtual 68, 3) := by decide +kernel
theorem dL_law_692 : decode cL_law 692 = .ok (.if_icmp .eq 704, 3) := by decide +kernel
theorem dL_law_695 : decode cL_law 695 = .ok (.iconst 0, 1) := by decide +kernel
theorem dL_law_696 : decode cL_law 696 = .ok (.ireturn, 1) := by decide +kernel
theorem dL_law_697 : decode cL_law 697 = .ok (.aload_n 1, 1) := by decide +kernel
theorem dL_law_698 : decode cL_law 698 = .ok (.aload_n 0, 1) := by decide +kernel
theorem dL_law_699 : decode cL_law 699 = .ok (.iload_n 3, 1) := by decide +kernel
theorem dL_law_700 : decode cL_law 700 = .ok (.iconst 1, 1) := by decide +kernel
theorem dL_law_701 : decode cL_law 701 = .ok (.iadd, 1) := by decide +kernel
theorem dL_law_702 : decode cL_law 702 = .ok (.iaload, 1) := by decide +kernel
theorem dL_law_703 : decode cL_law 703 = .ok (.invokevirtual 69, 3) := by decide +kernel
theorem dL_law_706 : decode cL_law 706 = .ok (.aload_n 2, 1) := by decide +kernel
theorem dL_law_707 : decode cL_law 707 = .ok (.aload_n 0, 1) := by decide +kernel
theorem dL_law_708 : decode cL_law 708 = .ok (.iload_n 3, 1) := by decide +kernel
theorem dL_law_709 : decode cL_law 709 = .ok (.iconst 1, 1) := by decide +kernel
theorem dL_law_710 : decode cL_law 710 = .ok (.iadd, 1) := by decide +kernel
theorem dL_law_711 : decode cL_law 711 = .ok (.iaload, 1) := by decide +kernel
theorem dL_law_712 : decode cL_law 712 = .ok (.invokevirtual 73, 3) := by decide +kernel
theorem dL_law_715 : decode cL_law 715 = .ok (.if_icmp .eq 681, 3) := by decide +kernel
theorem dL_law_718 : decode cL_law 718 = .ok (.iconst 0, 1) := by decide +kernel
theorem dL_law_719 : decode cL_law 719 = .ok (.ireturn, 1) := by decide +kernel
theorem dL_law_720 : decode cL_law 720 = .ok (.aload_n 1, 1) := by decide +kernel
theorem dL_law_721 : decode cL_law 721 = .ok (.aload_n 0, 1) := by decide +kernel
theorem dL_law_722 : decode cL_law 722 = .ok (.iload_n 3, 1) := by decide +kernel
theorem dL_law_723 : decode cL_law 723 = .ok (.iconst 1, 1) := by decide +kernel
theorem dL_law_724 : decode cL_law 724 = .ok (.iadd, 1) := by decide +kernel
theorem dL_law_725 : decode cL_law 725 = .ok (.iaload, 1) := by decide +kernel
theorem dL_law_726 : decode cL_law 726 = .ok (.invokevirtual 74, 3) := by decide +kernel
theorem dL_law_729 : decode cL_law 729 = .ok (.aload_n 2, 1) := by decide +kernel
theorem dL_law_730 : decode cL_law 730 = .ok (.aload_n 0, 1) := by decide +kernel
theorem dL_law_731 : decode cL_law 731 = .ok (.iload_n 3, 1) := by decide +kernel
theorem dL_law_732 : decode cL_law 732 = .ok (.iconst 1, 1) := by decide +kernel
theorem dL_law_733 : decode cL_law 733 = .ok (.iadd, 1) := by decide +kernel
theorem dL_law_734 : decode cL_law 734 = .ok (.iaload, 1) := by decide +kernel
theorem dL_law_735 : decode cL_law 735 = .ok (.invokevirtual 77, 3) := by decide +kernel
theorem dL_law_738 : decode cL_law 738 = .ok (.if_icmp .eq 658, 3) := by decide +kernel
theorem dL_law_741 : decode cL_law 741 = .ok (.iconst 0, 1) := by decide +kernel
theorem dL_law_742 : decode cL_law 742 = .ok (.ireturn, 1) := by decide +kernel
theorem dL_law_743 : decode cL_law 743 = .ok (.aload_n 1, 1) := by decide +kernel
theorem dL_law_744 : decode cL_law 744 = .ok (.aload_n 0, 1) := by decide +kernel
theorem dL_law_745 : decode cL_law 745 = .ok (.iload_n 3, 1) := by decide +kernel
theorem dL_law_746 : decode cL_law 746 = .ok (.iconst 1, 1) := by decide +kernel
theorem dL_law_747 : decode cL_law 747 = .ok (.iadd, 1) := by decide +kernel
theorem dL_law_748 : decode cL_law 748 = .ok (.iaload, 1) := by decide +kernel
theorem dL_law_749 : decode cL_law 749 = .ok (.invokevirtual 78, 3) := by decide +kernel
theorem dL_law_752 : decode cL_law 752 = .ok (.aload_n 2, 1) := by decide +kernel
theorem dL_law_753 : decode cL_law 753 = .ok (.aload_n 0, 1) := by decide +kernel
theorem dL_law_754 : decode cL_law 754 = .ok (.iload_n 3, 1) := by decide +kernel
theorem dL_law_755 : decode cL_law 755 = .ok (.iconst 1, 1) := by decide +kernel
theorem dL_law_756 : decode cL_law 756 = .ok (.iadd, 1) := by decide +kernel
theorem dL_law_757 : decode cL_law 757 = .ok (.iaload, 1) := by decide +kernel
theorem dL_law_758 : decode cL_law 758 = .ok (.invokevirtual 81, 3) := by decide +kernel
theorem dL_law_761 : decode cL_law 761 = .ok (.if_icmp .eq 635, 3) := by decide +kernel
theorem dL_law_764 : decode cL_law 764 = .ok (.iconst 0, 1) := by decide +kernel
theorem dL_law_765 : decode cL_law 765 = .ok (.ireturn, 1) := by decide +kernel
theorem dL_law_766 : decode cL_law 766 = .ok (.aload_n 1, 1) := by decide +kernel
theorem dL_law_767 : decode cL_law 767 = .ok (.aload_n 0, 1) := by decide +kernel
theorem dL_law_768 : decode cL_law 768 = .ok (.iload_n 3, 1) := by decide +kernel
theorem dL_law_769 : decode cL_law 769 = .ok (.iconst 1, 1) := by decide +kernel
theorem dL_law_770 : decode cL_law 770 = .ok (.iadd, 1) := by decide +kernel
theorem dL_law_771 : decode cL_law 771 = .ok (.iaload, 1) := by decide +kernel
theorem dL_law_772 : decode cL_law 772 = .ok (.aload_n 0, 1) := by decide +kernel
theorem dL_law_773 : decode cL_law 773 = .ok (.iload_n 3, 1) := by decide +kernel
theorem dL_law_774 : decode cL_law 774 = .ok (.iconst 2, 1) := by decide +kernel
theorem dL_law_775 : decode cL_law 775 = .ok (.iadd, 1) := by decide +kernel
theorem dL_law_776 : decode cL_law 776 = .ok (.iaload, 1) := by decide +kernel
theorem dL_law_777 : decode cL_law 777 = .ok (.invokevirtual 82, 3) := by decide +kernel
theorem dL_law_780 : decode cL_law 780 = .ok (.aload_n 2, 1) := by decide +kernel
theorem dL_law_781 : decode cL_law 781 = .ok (.aload_n 0, 1) := by decide +kernel
theorem dL_law_782 : decode cL_law 782 = .ok (.iload_n 3, 1) := by decide +kernel
theorem dL_law_783 : decode cL_law 783 = .ok (.iconst 1, 1) := by decide +kernel
theorem dL_law_784 : decode cL_law 784 = .ok (.iadd, 1) := by decide +kernel
theorem dL_law_785 : decode cL_law 785 = .ok (.iaload, 1) := by decide +kernel
theorem dL_law_786 : decode cL_law 786 = .ok (.aload_n 0, 1) := by decide +kernel
theorem dL_law_787 : decode cL_law 787 = .ok (.iload_n 3, 1) := by decide +kernel
theorem dL_law_788 : decode cL_law 788 = .ok (.iconst 2, 1) := by decide +kernel
theorem dL_law_789 : decode cL_law 789 = .ok (.iadd, 1) := by decide +kernel
theorem dL_law_790 : decode cL_law 790 = .ok (.iaload, 1) := by decide +kernel
theorem dL_law_791 : decode cL_law 791 = .ok (.invokevirtual 85, 3) := by decide +kernel
theorem dL_law_794 : decode cL_law 794 = .ok (.if_icmp .eq 602, 3) := by decide +kernel
theorem dL_law_797 : decode cL_law 797 = .ok (.iconst 0, 1) := by decide +kernel
theorem dL_law_798 : decode cL_law 798 = .ok (.ireturn, 1) := by decide +kernel
theorem dL_law_799 : decode cL_law 799 = .ok (.aload_n 1, 1) := by decide +kernel
theorem dL_law_800 : decode cL_law 800 = .ok (.aload_n 0, 1) := by decide +kernel
theorem dL_law_801 : decode cL_law 801 = .ok (.iload_n 3, 1) := by decide +kernel
theorem dL_law_802 : decode cL_law 802 = .ok (.iconst 1, 1) := by decide +kernel
theorem dL_law_803 : decode cL_law 803 = .ok (.iadd, 1) := by decide +kernel
theorem dL_law_804 : decode cL_law 804 = .ok (.iaload, 1) := by decide +kernel
theorem dL_law_805 : decode cL_law 805 = .ok (.aload_n 0, 1) := by decide +kernel
theorem dL_law_806 : decode cL_law 806 = .ok (.iload_n 3, 1) := by decide +kernel
theorem dL_law_807 : decode cL_law 807 = .ok (.iconst 2, 1) := by decide +kernel
theorem dL_law_808 : decode cL_law 808 = .ok (.iadd, 1) := by decide +kernel
theorem dL_law_809 : decode cL_law 809 = .ok (.iaload, 1) := by decide +kernel
theorem dL_law_810 : decode cL_law 810 = .ok (.aload_n 0, 1) := by decide +kernel
theorem dL_law_811 : decode cL_law 811 = .ok (.iload_n 3, 1) := by decide +kernel
theorem dL_law_812 : decode cL_law 812 = .ok (.iconst 3, 1) := by decide +kernel
theorem dL_law_813 : decode cL_law 813 = .ok (.iadd, 1) := by decide +kernel
theorem dL_law_814 : decode cL_law 814 = .ok (.iaload, 1) := by decide +kernel
theorem dL_law_815 : decode cL_law 815 = .ok (.invokevirtual 86, 3) := by decide +kernel
theorem dL_law_818 : decode cL_law 818 = .ok (.aload_n 2, 1) := by decide +kernel
theorem dL_law_819 : decode cL_law 819 = .ok (.aload_n 0, 1) := by decide +kernel
theorem dL_law_820 : decode cL_law 820 = .ok (.iload_n 3, 1) := by decide +kernel
theorem dL_law_821 : decode cL_law 821 = .ok (.iconst 1, 1) := by decide +kernel
theorem dL_law_822 : decode cL_law 822 = .ok (.iadd, 1) := by decide +kernel
theorem dL_law_823 : decode cL_law 823 = .ok (.iaload, 1) := by decide +kernel
theorem dL_law_824 : decode cL_law 824 = .ok (.aload_n 0, 1) := by decide +kernel
theorem dL_law_825 : decode cL_law 825 = .ok (.iload_n 3, 1) := by decide +kernel
theorem dL_law_826 : decode cL_law 826 = .ok (.iconst 2, 1) := by decide +kernel
theorem dL_law_827 : decode cL_law 827 = .ok (.iadd, 1) := by decide +kernel
theorem dL_law_828 : decode cL_law 828 = .ok (.iaload, 1) := by decide +kernel
theorem dL_law_829 : decode cL_law 829 = .ok (.aload_n 0, 1) := by decide +kernel
theorem dL_law_830 : decode cL_law 830 = .ok (.iload_n 3, 1) := by decide +kernel
theorem dL_law_831 : decode cL_law 831 = .ok (.iconst 3, 1) := by decide +kernel
theorem dL_law_832 : decode cL_law 832 = .ok (.iadd, 1) := by decide +kernel
theorem dL_law_833 : decode cL_law 833 = .ok (.iaload, 1) := by decide +kernel
theorem dL_law_834 : decode cL_law 834 = .ok (.invokevirtual 90, 3) := by decide +kernel
theorem dL_law_837 : decode cL_law 837 = .ok (.if_icmp .eq 559, 3) := by decide +kernel
theorem dL_law_840 : decode cL_law 840 = .ok (.iconst 0, 1) := by decide +kernel
theorem dL_law_841 : decode cL_law 841 = .ok (.ireturn, 1) := by decide +kernel
theorem dL_law_842 : decode cL_law 842 = .ok (.aload_n 1, 1) := by decide +kernel
theorem dL_law_843 : decode cL_law 843 = .ok (.aload_n 0, 1) := by decide +kernel
theorem dL_law_844 : decode cL_law 844 = .ok (.iload_n 3, 1) := by decide +kernel
theorem dL_law_845 : decode cL_law 845 = .ok (.iconst 1, 1) := by decide +kernel
theorem dL_law_846 : decode cL_law 846 = .ok (.iadd, 1) := by decide +kernel
theorem dL_law_847 : decode cL_law 847 = .ok (.iaload, 1) := by decide +kernel
theorem dL_law_848 : decode cL_law 848 = .ok (.invokevirtual 91, 3) := by decide +kernel
theorem dL_law_851 : decode cL_law 851 = .ok (.aload_n 2, 1) := by decide +kernel
theorem dL_law_852 : decode cL_law 852 = .ok (.aload_n 0, 1) := by decide +kernel
theorem dL_law_853 : decode cL_law 853 = .ok (.iload_n 3, 1) := by decide +kernel
theorem dL_law_854 : decode cL_law 854 = .ok (.iconst 1, 1) := by decide +kernel
theorem dL_law_855 : decode cL_law 855 = .ok (.iadd, 1) := by decide +kernel
theorem dL_law_856 : decode cL_law 856 = .ok (.iaload, 1) := by decide +kernel
theorem dL_law_857 : decode cL_law 857 = .ok (.invokevirtual 94, 3) := by decide +kernel
theorem dL_law_860 : decode cL_law 860 = .ok (.if_icmp .eq 536, 3) := by decide +kernel
theorem dL_law_863 : decode cL_law 863 = .ok (.iconst 0, 1) := by decide +kernel
theorem dL_law_864 : decode cL_law 864 = .ok (.ireturn, 1) := by decide +kernel
theorem dL_law_865 : decode cL_law 865 = .ok (.aload_n 1, 1) := by decide +kernel
theorem dL_law_866 : decode cL_law 866 = .ok (.aload_n 0, 1) := by decide +kernel
theorem dL_law_867 : decode cL_law 867 = .ok (.iload_n 3, 1) := by decide +kernel
theorem dL_law_868 : decode cL_law 868 = .ok (.iconst 1, 1) := by decide +kernel
theorem dL_law_869 : decode cL_law 869 = .ok (.iadd, 1) := by decide +kernel
theorem dL_law_870 : decode cL_law 870 = .ok (.iaload, 1) := by decide +kernel
theorem dL_law_871 : decode cL_law 871 = .ok (.aload_n 0, 1) := by decide +kernel
theorem dL_law_872 : decode cL_law 872 = .ok (.iload_n 3, 1) := by decide +kernel
theorem dL_law_873 : decode cL_law 873 = .ok (.iconst 2, 1) := by decide +kernel
theorem dL_law_874 : decode cL_law 874 = .ok (.iadd, 1) := by decide +kernel
theorem dL_law_875 : decode cL_law 875 = .ok (.iaload, 1) := by decide +kernel
theorem dL_law_876 : decode cL_law 876 = .ok (.invokevirtual 95, 3) := by decide +kernel
theorem dL_law_879 : decode cL_law 879 = .ok (.aload_n 2, 1) := by decide +kernel
theorem dL_law_880 : decode cL_law 880 = .ok (.aload_n 0, 1) := by decide +kernel
theorem dL_law_881 : decode cL_law 881 = .ok (.iload_n 3, 1) := by decide +kernel
theorem dL_law_882 : decode cL_law 882 = .ok (.iconst 1, 1) := by decide +kernel
theorem dL_law_883 : decode cL_law 883 = .ok (.iadd, 1) := by decide +kernel
theorem dL_law_884 : decode cL_law 884 = .ok (.iaload, 1) := by decide +kernel
theorem dL_law_885 : decode cL_law 885 = .ok (.aload_n 0, 1) := by decide +kernel
theorem dL_law_886 : decode cL_law 886 = .ok (.iload_n 3, 1) := by decide +kernel
theorem dL_law_887 : decode cL_law 887 = .ok (.iconst 2, 1) := by decide +kernel
theorem dL_law_888 : decode cL_law 888 = .ok (.iadd, 1) := by decide +kernel
theorem dL_law_889 : decode cL_law 889 = .ok (.iaload, 1) := by decide +kernel
theorem dL_law_890 : decode cL_law 890 = .ok (.invokevirtual 99, 3) := by decide +kernel
theorem dL_law_893 : decode cL_law 893 = .ok (.lcmp, 1) := by decide +kernel
theorem dL_law_894 : decode cL_law 894 = .ok (.ifCond .eq 502, 3) := by decide +kernel
theorem dL_law_897 : decode cL_law 897 = .ok (.iconst 0, 1) := by decide +kernel
theorem dL_law_898 : decode cL_law 898 = .ok (.ireturn, 1) := by decide +kernel
theorem dL_law_899 : decode cL_law 899 = .ok (.aload_n 1, 1) := by decide +kernel
theorem dL_law_900 : decode cL_law 900 = .ok (.aload_n 0, 1) := by decide +kernel
theorem dL_law_901 : decode cL_law 901 = .ok (.iload_n 3, 1) := by decide +kernel
theorem dL_law_902 : decode cL_law 902 = .ok (.iconst 1, 1) := by decide +kernel
theorem dL_law_903 : decode cL_law 903 = .ok (.iadd, 1) := by decide +kernel
theorem dL_law_904 : decode cL_law 904 = .ok (.iaload, 1) := by decide +kernel
theorem dL_law_905 : decode cL_law 905 = .ok (.aload_n 0, 1) := by decide +kernel
theorem dL_law_906 : decode cL_law 906 = .ok (.iload_n 3, 1) := by decide +kernel
theorem dL_law_907 : decode cL_law 907 = .ok (.iconst 2, 1) := by decide +kernel
theorem dL_law_908 : decode cL_law 908 = .ok (.iadd, 1) := by decide +kernel
theorem dL_law_909 : decode cL_law 909 = .ok (.iaload, 1) := by decide +kernel
theorem dL_law_910 : decode cL_law 910 = .ok (.invokevirtual 100, 3) := by decide +kernel
theorem dL_law_913 : decode cL_law 913 = .ok (.aload_n 2, 1) := by decide +kernel
theorem dL_law_914 : decode cL_law 914 = .ok (.aload_n 0, 1) := by decide +kernel
theorem dL_law_915 : decode cL_law 915 = .ok (.iload_n 3, 1) := by decide +kernel
theorem dL_law_916 : decode cL_law 916 = .ok (.iconst 1, 1) := by decide +kernel
theorem dL_law_917 : decode cL_law 917 = .ok (.iadd, 1) := by decide +kernel
theorem dL_law_918 : decode cL_law 918 = .ok (.iaload, 1) := by decide +kernel
theorem dL_law_919 : decode cL_law 919 = .ok (.aload_n 0, 1) := by decide +kernel
theorem dL_law_920 : decode cL_law 920 = .ok (.iload_n 3, 1) := by decide +kernel
theorem dL_law_921 : decode cL_law 921 = .ok (.iconst 2, 1) := by decide +kernel
theorem dL_law_922 : decode cL_law 922 = .ok (.iadd, 1) := by decide +kernel
theorem dL_law_923 : decode cL_law 923 = .ok (.iaload, 1) := by decide +kernel
theorem dL_law_924 : decode cL_law 924 = .ok (.invokevirtual 103, 3) := by decide +kernel
theorem dL_law_927 : decode cL_law 927 = .ok (.if_icmp .eq 469, 3) := by decide +kernel
theorem dL_law_930 : decode cL_law 930 = .ok (.iconst 0, 1) := by decide +kernel
theorem dL_law_931 : decode cL_law 931 = .ok (.ireturn, 1) := by decide +kernel
theorem dL_law_932 : decode cL_law 932 = .ok (.aload_n 1, 1) := by decide +kernel
theorem dL_law_933 : decode cL_law 933 = .ok (.aload_n 0, 1) := by decide +kernel
theorem dL_law_934 : decode cL_law 934 = .ok (.iload_n 3, 1) := by decide +kernel
theorem dL_law_935 : decode cL_law 935 = .ok (.iconst 1, 1) := by decide +kernel
theorem dL_law_936 : decode cL_law 936 = .ok (.iadd, 1) := by decide +kernel
theorem dL_law_937 : decode cL_law 937 = .ok (.iaload, 1) := by decide +kernel
theorem dL_law_938 : decode cL_law 938 = .ok (.aload_n 0, 1) := by decide +kernel
theorem dL_law_939 : decode cL_law 939 = .ok (.iload_n 3, 1) := by decide +kernel
theorem dL_law_940 : decode cL_law 940 = .ok (.iconst 2, 1) := by decide +kernel
theorem dL_law_941 : decode cL_law 941 = .ok (.iadd, 1) := by decide +kernel
theorem dL_law_942 : decode cL_law 942 = .ok (.iaload, 1) := by decide +kernel
theorem dL_law_943 : decode cL_law 943 = .ok (.invokevirtual 104, 3) := by decide +kernel
theorem dL_law_946 : decode cL_law 946 = .ok (.aload_n 2, 1) := by decide +kernel
theorem dL_law_947 : decode cL_law 947 = .ok (.aload_n 0, 1) := by decide +kernel
theorem dL_law_948 : decode cL_law 948 = .ok (.iload_n 3, 1) := by decide +kernel
theorem dL_law_949 : decode cL_law 949 = .ok (.iconst 1, 1) := by decide +kernel
theorem dL_law_950 : decode cL_law 950 = .ok (.iadd, 1) := by decide +kernel
theorem dL_law_951 : decode cL_law 951 = .ok (.iaload, 1) := by decide +kernel
theorem dL_law_952 : decode cL_law 952 = .ok (.aload_n 0, 1) := by decide +kernel
theorem dL_law_953 : decode cL_law 953 = .ok (.iload_n 3, 1) := by decide +kernel
theorem dL_law_954 : decode cL_law 954 = .ok (.iconst 2, 1) := by decide +kernel
theorem dL_law_955 : decode cL_law 955 = .ok (.iadd, 1) := by decide +kernel
theorem dL_law_956 : decode cL_law 956 = .ok (.iaload, 1) := by decide +kernel
theorem dL_law_957 : decode cL_law 957 = .ok (.invokevirtual 107, 3) := by decide +kernel
theorem dL_law_960 : decode cL_law 960 = .ok (.if_icmp .eq 436, 3) := by decide +kernel
theorem dL_law_963 : decode cL_law 963 = .ok (.iconst 0, 1) := by decide +kernel
theorem dL_law_964 : decode cL_law 964 = .ok (.ireturn, 1) := by decide +kernel
theorem dL_law_965 : decode cL_law 965 = .ok (.aload_n 1, 1) := by decide +kernel
theorem dL_law_966 : decode cL_law 966 = .ok (.aload_n 0, 1) := by decide +kernel
theorem dL_law_967 : decode cL_law 967 = .ok (.iload_n 3, 1) := by decide +kernel
theorem dL_law_968 : decode cL_law 968 = .ok (.iconst 1, 1) := by decide +kernel
theorem dL_law_969 : decode cL_law 969 = .ok (.iadd, 1) := by decide +kernel
theorem dL_law_970 : decode cL_law 970 = .ok (.iaload, 1) := by decide +kernel
theorem dL_law_971 : decode cL_law 971 = .ok (.aload_n 0, 1) := by decide +kernel
theorem dL_law_972 : decode cL_law 972 = .ok (.iload_n 3, 1) := by decide +kernel
theorem dL_law_973 : decode cL_law 973 = .ok (.iconst 2, 1) := by decide +kernel
theorem dL_law_974 : decode cL_law 974 = .ok (.iadd, 1) := by decide +kernel
theorem dL_law_975 : decode cL_law 975 = .ok (.iaload, 1) := by decide +kernel
theorem dL_law_976 : decode cL_law 976 = .ok (.aload_n 0, 1) := by decide +kernel
theorem dL_law_977 : decode cL_law 977 = .ok (.iload_n 3, 1) := by decide +kernel
theorem dL_law_978 : decode cL_law 978 = .ok (.iconst 3, 1) := by decide +kernel
theorem dL_law_979 : decode cL_law 979 = .ok (.iadd, 1) := by decide +kernel
theorem dL_law_980 : decode cL_law 980 = .ok (.iaload, 1) := by decide +kernel
theorem dL_law_981 : decode cL_law 981 = .ok (.invokevirtual 108, 3) := by decide +kernel
theorem dL_law_984 : decode cL_law 984 = .ok (.aload_n 2, 1) := by decide +kernel
theorem dL_law_985 : decode cL_law 985 = .ok (.aload_n 0, 1) := by decide +kernel
theorem dL_law_986 : decode cL_law 986 = .ok (.iload_n 3, 1) := by decide +kernel
theorem dL_law_987 : decode cL_law 987 = .ok (.iconst 1, 1) := by decide +kernel
theorem dL_law_988 : decode cL_law 988 = .ok (.iadd, 1) := by decide +kernel
theorem dL_law_989 : decode cL_law 989 = .ok (.iaload, 1) := by decide +kernel
theorem dL_law_990 : decode cL_law 990 = .ok (.aload_n 0, 1) := by decide +kernel
theorem dL_law_991 : decode cL_law 991 = .ok (.iload_n 3, 1) := by decide +kernel
theorem dL_law_992 : decode cL_law 992 = .ok (.iconst 2, 1) := by decide +kernel
theorem dL_law_993 : decode cL_law 993 = .ok (.iadd, 1) := by decide +kernel
theorem dL_law_994 : decode cL_law 994 = .ok (.iaload, 1) := by decide +kernel
theorem dL_law_995 : decode cL_law 995 = .ok (.aload_n 0, 1) := by decide +kernel
theorem dL_law_996 : decode cL_law 996 = .ok (.iload_n 3, 1) := by decide +kernel
theorem dL_law_997 : decode cL_law 997 = .ok (.iconst 3, 1) := by decide +kernel
theorem dL_law_998 : decode cL_law 998 = .ok (.iadd, 1) := by decide +kernel
theorem dL_law_999 : decode cL_law 999 = .ok (.iaload, 1) := by decide +kernel
theorem dL_law_1000 : decode cL_law 1000 = .ok (.invokevirtual 111, 3) := by decide +kernel
theorem dL_law_1003 : decode cL_law 1003 = .ok (.if_icmp .eq 393, 3) := by decide +kernel
theorem dL_law_1006 : decode cL_law 1006 = .ok (.iconst 0, 1) := by decide +kernel
theorem dL_law_1007 : decode cL_law 1007 = .ok (.ireturn, 1) := by decide +kernel
theorem dL_law_1008 : decode cL_law 1008 = .ok (.aload_n 1, 1) := by decide +kernel
theorem dL_law_1009 : decode cL_law 1009 = .ok (.aload_n 0, 1) := by decide +kernel
theorem dL_law_1010 : decode cL_law 1010 = .ok (.iload_n 3, 1) := by decide +kernel
theorem dL_law_1011 : decode cL_law 1011 = .ok (.iconst 1, 1) := by decide +kernel
theorem dL_law_1012 : decode cL_law 1012 = .ok (.iadd, 1) := by decide +kernel
theorem dL_law_1013 : decode cL_law 1013 = .ok (.iaload, 1) := by decide +kernel
theorem dL_law_1014 : decode cL_law 1014 = .ok (.invokevirtual 112, 3) := by decide +kernel
theorem dL_law_1017 : decode cL_law 1017 = .ok (.aload_n 2, 1) := by decide +kernel
theorem dL_law_1018 : decode cL_law 1018 = .ok (.aload_n 0, 1) := by decide +kernel
theorem dL_law_1019 : decode cL_law 1019 = .ok (.iload_n 3, 1) := by decide +kernel
theorem dL_law_1020 : decode cL_law 1020 = .ok (.iconst 1, 1) := by decide +kernel
theorem dL_law_1021 : decode cL_law 1021 = .ok (.iadd, 1) := by decide +kernel
theorem dL_law_1022 : decode cL_law 1022 = .ok (.iaload, 1) := by decide +kernel
theorem dL_law_1023 : decode cL_law 1023 = .ok (.invokevirtual 115, 3) := by decide +kernel
theorem dL_law_1026 : decode cL_law 1026 = .ok (.if_icmp .eq 370, 3) := by decide +kernel
theorem dL_law_1029 : decode cL_law 1029 = .ok (.iconst 0, 1) := by decide +kernel
theorem dL_law_1030 : decode cL_law 1030 = .ok (.ireturn, 1) := by decide +kernel
theorem dL_law_1031 : decode cL_law 1031 = .ok (.aload_n 1, 1) := by decide +kernel
theorem dL_law_1032 : decode cL_law 1032 = .ok (.aload_n 0, 1) := by decide +kernel
theorem dL_law_1033 : decode cL_law 1033 = .ok (.iload_n 3, 1) := by decide +kernel
theorem dL_law_1034 : decode cL_law 1034 = .ok (.iconst 1, 1) := by decide +kernel
theorem dL_law_1035 : decode cL_law 1035 = .ok (.iadd, 1) := by decide +kernel
theorem dL_law_1036 : decode cL_law 1036 = .ok (.iaload, 1) := by decide +kernel
theorem dL_law_1037 : decode cL_law 1037 = .ok (.aload_n 0, 1) := by decide +kernel
theorem dL_law_1038 : decode cL_law 1038 = .ok (.iload_n 3, 1) := by decide +kernel
theorem dL_law_1039 : decode cL_law 1039 = .ok (.iconst 2, 1) := by decide +kernel
theorem dL_law_1040 : decode cL_law 1040 = .ok (.iadd, 1) := by decide +kernel
theorem dL_law_1041 : decode cL_law 1041 = .ok (.iaload, 1) := by decide +kernel
theorem dL_law_1042 : decode cL_law 1042 = .ok (.aload_n 0, 1) := by decide +kernel
theorem dL_law_1043 : decode cL_law 1043 = .ok (.iload_n 3, 1) := by decide +kernel
theorem dL_law_1044 : decode cL_law 1044 = .ok (.iconst 3, 1) := by decide +kernel
theorem dL_law_1045 : decode cL_law 1045 = .ok (.iadd, 1) := by decide +kernel
theorem dL_law_1046 : decode cL_law 1046 = .ok (.iaload, 1) := by decide +kernel
theorem dL_law_1047 : decode cL_law 1047 = .ok (.invokevirtual 116, 3) := by decide +kernel
theorem dL_law_1050 : decode cL_law 1050 = .ok (.aload_n 2, 1) := by decide +kernel
theorem dL_law_1051 : decode cL_law 1051 = .ok (.aload_n 0, 1) := by decide +kernel
theorem dL_law_1052 : decode cL_law 1052 = .ok (.iload_n 3, 1) := by decide +kernel
theorem dL_law_1053 : decode cL_law 1053 = .ok (.iconst 1, 1) := by decide +kernel
theorem dL_law_1054 : decode cL_law 1054 = .ok (.iadd, 1) := by decide +kernel
theorem dL_law_1055 : decode cL_law 1055 = .ok (.iaload, 1) := by decide +kernel
theorem dL_law_1056 : decode cL_law 1056 = .ok (.aload_n 0, 1) := by decide +kernel
theorem dL_law_1057 : decode cL_law 1057 = .ok (.iload_n 3, 1) := by decide +kernel
theorem dL_law_1058 : decode cL_law 1058 = .ok (.iconst 2, 1) := by decide +kernel
theorem dL_law_1059 : decode cL_law 1059 = .ok (.iadd, 1) := by decide +kernel
theorem dL_law_1060 : decode cL_law 1060 = .ok (.iaload, 1) := by decide +kernel
theorem dL_law_1061 : decode cL_law 1061 = .ok (.aload_n 0, 1) := by decide +kernel
theorem dL_law_1062 : decode cL_law 1062 = .ok (.iload_n 3, 1) := by decide +kernel
theorem dL_law_1063 : decode cL_law 1063 = .ok (.iconst 3, 1) := by decide +kernel
theorem dL_law_1064 : decode cL_law 1064 = .ok (.iadd, 1) := by decide +kernel
theorem dL_law_1065 : decode cL_law 1065 = .ok (.iaload, 1) := by decide +kernel
theorem dL_law_1066 : decode cL_law 1066 = .ok (.invokevirtual 119, 3) := by decide +kernel
theorem dL_law_1069 : decode cL_law 1069 = .ok (.lcmp, 1) := by decide +kernel
theorem dL_law_1070 : decode cL_law 1070 = .ok (.ifCond .eq 326, 3) := by decide +kernel
theorem dL_law_1073 : decode cL_law 1073 = .ok (.iconst 0, 1) := by decide +kernel
theorem dL_law_1074 : decode cL_law 1074 = .ok (.ireturn, 1) := by decide +kernel
theorem dL_law_1075 : decode cL_law 1075 = .ok (.aload_n 1, 1) := by decide +kernel
theorem dL_law_1076 : decode cL_law 1076 = .ok (.aload_n 0, 1) := by decide +kernel
theorem dL_law_1077 : decode cL_law 1077 = .ok (.iload_n 3, 1) := by decide +kernel
theorem dL_law_1078 : decode cL_law 1078 = .ok (.iconst 1, 1) := by decide +kernel
theorem dL_law_1079 : decode cL_law 1079 = .ok (.iadd, 1) := by decide +kernel
theorem dL_law_1080 : decode cL_law 1080 = .ok (.iaload, 1) := by decide +kernel
theorem dL_law_1081 : decode cL_law 1081 = .ok (.aload_n 0, 1) := by decide +kernel
theorem dL_law_1082 : decode cL_law 1082 = .ok (.iload_n 3, 1) := by decide +kernel
theorem dL_law_1083 : decode cL_law 1083 = .ok (.iconst 2, 1) := by decide +kernel
theorem dL_law_1084 : decode cL_law 1084 = .ok (.iadd, 1) := by decide +kernel
theorem dL_law_1085 : decode cL_law 1085 = .ok (.iaload, 1) := by decide +kernel
theorem dL_law_1086 : decode cL_law 1086 = .ok (.aload_n 0, 1) := by decide +kernel
theorem dL_law_1087 : decode cL_law 1087 = .ok (.iload_n 3, 1) := by decide +kernel
theorem dL_law_1088 : decode cL_law 1088 = .ok (.iconst 3, 1) := by decide +kernel
theorem dL_law_1089 : decode cL_law 1089 = .ok (.iadd, 1) := by decide +kernel
theorem dL_law_1090 : decode cL_law 1090 = .ok (.iaload, 1) := by decide +kernel
theorem dL_law_1091 : decode cL_law 1091 = .ok (.aload_n 0, 1) := by decide +kernel
theorem dL_law_1092 : decode cL_law 1092 = .ok (.iload_n 3, 1) := by decide +kernel
theorem dL_law_1093 : decode cL_law 1093 = .ok (.iconst 4, 1) := by decide +kernel
theorem dL_law_1094 : decode cL_law 1094 = .ok (.iadd, 1) := by decide +kernel
theorem dL_law_1095 : decode cL_law 1095 = .ok (.iaload, 1) := by decide +kernel
theorem dL_law_1096 : decode cL_law 1096 = .ok (.invokevirtual 120, 3) := by decide +kernel
theorem dL_law_1099 : decode cL_law 1099 = .ok (.aload_n 2, 1) := by decide +kernel
theorem dL_law_1100 : decode cL_law 1100 = .ok (.aload_n 0, 1) := by decide +kernel
theorem dL_law_1101 : decode cL_law 1101 = .ok (.iload_n 3, 1) := by decide +kernel
theorem dL_law_1102 : decode cL_law 1102 = .ok (.iconst 1, 1) := by decide +kernel
theorem dL_law_1103 : decode cL_law 1103 = .ok (.iadd, 1) := by decide +kernel
theorem dL_law_1104 : decode cL_law 1104 = .ok (.iaload, 1) := by decide +kernel
theorem dL_law_1105 : decode cL_law 1105 = .ok (.aload_n 0, 1) := by decide +kernel
theorem dL_law_1106 : decode cL_law 1106 = .ok (.iload_n 3, 1) := by decide +kernel
theorem dL_law_1107 : decode cL_law 1107 = .ok (.iconst 2, 1) := by decide +kernel
theorem dL_law_1108 : decode cL_law 1108 = .ok (.iadd, 1) := by decide +kernel
theorem dL_law_1109 : decode cL_law 1109 = .ok (.iaload, 1) := by decide +kernel
theorem dL_law_1110 : decode cL_law 1110 = .ok (.aload_n 0, 1) := by decide +kernel
theorem dL_law_1111 : decode cL_law 1111 = .ok (.iload_n 3, 1) := by decide +kernel
theorem dL_law_1112 : decode cL_law 1112 = .ok (.iconst 3, 1) := by decide +kernel
theorem dL_law_1113 : decode cL_law 1113 = .ok (.iadd, 1) := by decide +kernel
theorem dL_law_1114 : decode cL_law 1114 = .ok (.iaload, 1) := by decide +kernel
theorem dL_law_1115 : decode cL_law 1115 = .ok (.aload_n 0, 1) := by decide +kernel
theorem dL_law_1116 : decode cL_law 1116 = .ok (.iload_n 3, 1) := by decide +kernel
theorem dL_law_1117 : decode cL_law 1117 = .ok (.iconst 4, 1) := by decide +kernel
theorem dL_law_1118 : decode cL_law 1118 = .ok (.iadd, 1) := by decide +kernel
theorem dL_law_1119 : decode cL_law 1119 = .ok (.iaload, 1) := by decide +kernel
theorem dL_law_1120 : decode cL_law 1120 = .ok (.invokevirtual 123, 3) := by decide +kernel
theorem dL_law_1123 : decode cL_law 1123 = .ok (.if_icmp .eq 273, 3) := by decide +kernel
theorem dL_law_1126 : decode cL_law 1126 = .ok (.iconst 0, 1) := by decide +kernel
theorem dL_law_1127 : decode cL_law 1127 = .ok (.ireturn, 1) := by decide +kernel
theorem dL_law_1128 : decode cL_law 1128 = .ok (.aload_n 1, 1) := by decide +kernel
theorem dL_law_1129 : decode cL_law 1129 = .ok (.aload_n 0, 1) := by decide +kernel
theorem dL_law_1130 : decode cL_law 1130 = .ok (.iload_n 3, 1) := by decide +kernel
theorem dL_law_1131 : decode cL_law 1131 = .ok (.iconst 1, 1) := by decide +kernel
theorem dL_law_1132 : decode cL_law 1132 = .ok (.iadd, 1) := by decide +kernel
theorem dL_law_1133 : decode cL_law 1133 = .ok (.iaload, 1) := by decide +kernel
theorem dL_law_1134 : decode cL_law 1134 = .ok (.aload_n 0, 1) := by decide +kernel
theorem dL_law_1135 : decode cL_law 1135 = .ok (.iload_n 3, 1) := by decide +kernel
theorem dL_law_1136 : decode cL_law 1136 = .ok (.iconst 2, 1) := by decide +kernel
theorem dL_law_1137 : decode cL_law 1137 = .ok (.iadd, 1) := by decide +kernel
theorem dL_law_1138 : decode cL_law 1138 = .ok (.iaload, 1) := by decide +kernel
theorem dL_law_1139 : decode cL_law 1139 = .ok (.invokevirtual 124, 3) := by decide +kernel
theorem dL_law_1142 : decode cL_law 1142 = .ok (.aload_n 2, 1) := by decide +kernel
theorem dL_law_1143 : decode cL_law 1143 = .ok (.aload_n 0, 1) := by decide +kernel
theorem dL_law_1144 : decode cL_law 1144 = .ok (.iload_n 3, 1) := by decide +kernel
theorem dL_law_1145 : decode cL_law 1145 = .ok (.iconst 1, 1) := by decide +kernel
theorem dL_law_1146 : decode cL_law 1146 = .ok (.iadd, 1) := by decide +kernel
theorem dL_law_1147 : decode cL_law 1147 = .ok (.iaload, 1) := by decide +kernel
theorem dL_law_1148 : decode cL_law 1148 = .ok (.aload_n 0, 1) := by decide +kernel
theorem dL_law_1149 : decode cL_law 1149 = .ok (.iload_n 3, 1) := by decide +kernel
theorem dL_law_1150 : decode cL_law 1150 = .ok (.iconst 2, 1) := by decide +kernel
theorem dL_law_1151 : decode cL_law 1151 = .ok (.iadd, 1) := by decide +kernel
theorem dL_law_1152 : decode cL_law 1152 = .ok (.iaload, 1) := by decide +kernel
theorem dL_law_1153 : decode cL_law 1153 = .ok (.invokevirtual 127, 3) := by decide +kernel
theorem dL_law_1156 : decode cL_law 1156 = .ok (.lcmp, 1) := by decide +kernel
theorem dL_law_1157 : decode cL_law 1157 = .ok (.ifCond .eq 239, 3) := by decide +kernel
theorem dL_law_1160 : decode cL_law 1160 = .ok (.iconst 0, 1) := by decide +kernel
theorem dL_law_1161 : decode cL_law 1161 = .ok (.ireturn, 1) := by decide +kernel
theorem dL_law_1162 : decode cL_law 1162 = .ok (.aload_n 1, 1) := by decide +kernel
theorem dL_law_1163 : decode cL_law 1163 = .ok (.aload_n 0, 1) := by decide +kernel
theorem dL_law_1164 : decode cL_law 1164 = .ok (.iload_n 3, 1) := by decide +kernel
theorem dL_law_1165 : decode cL_law 1165 = .ok (.iconst 1, 1) := by decide +kernel
theorem dL_law_1166 : decode cL_law 1166 = .ok (.iadd, 1) := by decide +kernel
theorem dL_law_1167 : decode cL_law 1167 = .ok (.iaload, 1) := by decide +kernel
theorem dL_law_1168 : decode cL_law 1168 = .ok (.invokevirtual 128, 3) := by decide +kernel
theorem dL_law_1171 : decode cL_law 1171 = .ok (.aload_n 2, 1) := by decide +kernel
theorem dL_law_1172 : decode cL_law 1172 = .ok (.aload_n 0, 1) := by decide +kernel
theorem dL_law_1173 : decode cL_law 1173 = .ok (.iload_n 3, 1) := by decide +kernel
theorem dL_law_1174 : decode cL_law 1174 = .ok (.iconst 1, 1) := by decide +kernel
theorem dL_law_1175 : decode cL_law 1175 = .ok (.iadd, 1) := by decide +kernel
theorem dL_law_1176 : decode cL_law 1176 = .ok (.iaload, 1) := by decide +kernel
theorem dL_law_1177 : decode cL_law 1177 = .ok (.invokevirtual 132, 3) := by decide +kernel
theorem dL_law_1180 : decode cL_law 1180 = .ok (.lcmp, 1) := by decide +kernel
theorem dL_law_1181 : decode cL_law 1181 = .ok (.ifCond .eq 215, 3) := by decide +kernel
theorem dL_law_1184 : decode cL_law 1184 = .ok (.iconst 0, 1) := by decide +kernel
theorem dL_law_1185 : decode cL_law 1185 = .ok (.ireturn, 1) := by decide +kernel
theorem dL_law_1186 : decode cL_law 1186 = .ok (.aload_n 1, 1) := by decide +kernel
theorem dL_law_1187 : decode cL_law 1187 = .ok (.aload_n 0, 1) := by decide +kernel
theorem dL_law_1188 : decode cL_law 1188 = .ok (.iload_n 3, 1) := by decide +kernel
theorem dL_law_1189 : decode cL_law 1189 = .ok (.iconst 1, 1) := by decide +kernel
theorem dL_law_1190 : decode cL_law 1190 = .ok (.iadd, 1) := by decide +kernel
theorem dL_law_1191 : decode cL_law 1191 = .ok (.iaload, 1) := by decide +kernel
theorem dL_law_1192 : decode cL_law 1192 = .ok (.invokevirtual 133, 3) := by decide +kernel
theorem dL_law_1195 : decode cL_law 1195 = .ok (.aload_n 2, 1) := by decide +kernel
theorem dL_law_1196 : decode cL_law 1196 = .ok (.aload_n 0, 1) := by decide +kernel
theorem dL_law_1197 : decode cL_law 1197 = .ok (.iload_n 3, 1) := by decide +kernel
theorem dL_law_1198 : decode cL_law 1198 = .ok (.iconst 1, 1) := by decide +kernel
theorem dL_law_1199 : decode cL_law 1199 = .ok (.iadd, 1) := by decide +kernel
theorem dL_law_1200 : decode cL_law 1200 = .ok (.iaload, 1) := by decide +kernel
theorem dL_law_1201 : decode cL_law 1201 = .ok (.invokevirtual 136, 3) := by decide +kernel
theorem dL_law_1204 : decode cL_law 1204 = .ok (.lcmp, 1) := by decide +kernel
theorem dL_law_1205 : decode cL_law 1205 = .ok (.ifCond .eq 191, 3) := by decide +kernel
theorem dL_law_1208 : decode cL_law 1208 = .ok (.iconst 0, 1) := by decide +kernel
theorem dL_law_1209 : decode cL_law 1209 = .ok (.ireturn, 1) := by decide +kernel
theorem dL_law_1210 : decode cL_law 1210 = .ok (.aload_n 1, 1) := by decide +kernel
theorem dL_law_1211 : decode cL_law 1211 = .ok (.aload_n 0, 1) := by decide +kernel
theorem dL_law_1212 : decode cL_law 1212 = .ok (.iload_n 3, 1) := by decide +kernel
theorem dL_law_1213 : decode cL_law 1213 = .ok (.iconst 1, 1) := by decide +kernel
theorem dL_law_1214 : decode cL_law 1214 = .ok (.iadd, 1) := by decide +kernel
theorem dL_law_1215 : decode cL_law 1215 = .ok (.iaload, 1) := by decide +kernel
theorem dL_law_1216 : decode cL_law 1216 = .ok (.aload_n 0, 1) := by decide +kernel
theorem dL_law_1217 : decode cL_law 1217 = .ok (.iload_n 3, 1) := by decide +kernel
theorem dL_law_1218 : decode cL_law 1218 = .ok (.iconst 2, 1) := by decide +kernel
theorem dL_law_1219 : decode cL_law 1219 = .ok (.iadd, 1) := by decide +kernel
theorem dL_law_1220 : decode cL_law 1220 = .ok (.iaload, 1) := by decide +kernel
theorem dL_law_1221 : decode cL_law 1221 = .ok (.aload_n 0, 1) := by decide +kernel
theorem dL_law_1222 : decode cL_law 1222 = .ok (.iload_n 3, 1) := by decide +kernel
theorem dL_law_1223 : decode cL_law 1223 = .ok (.iconst 3, 1) := by decide +kernel
theorem dL_law_1224 : decode cL_law 1224 = .ok (.iadd, 1) := by decide +kernel
theorem dL_law_1225 : decode cL_law 1225 = .ok (.iaload, 1) := by decide +kernel
theorem dL_law_1226 : decode cL_law 1226 = .ok (.invokevirtual 137, 3) := by decide +kernel
theorem dL_law_1229 : decode cL_law 1229 = .ok (.aload_n 2, 1) := by decide +kernel
theorem dL_law_1230 : decode cL_law 1230 = .ok (.aload_n 0, 1) := by decide +kernel
theorem dL_law_1231 : decode cL_law 1231 = .ok (.iload_n 3, 1) := by decide +kernel
theorem dL_law_1232 : decode cL_law 1232 = .ok (.iconst 1, 1) := by decide +kernel
theorem dL_law_1233 : decode cL_law 1233 = .ok (.iadd, 1) := by decide +kernel
theorem dL_law_1234 : decode cL_law 1234 = .ok (.iaload, 1) := by decide +kernel
theorem dL_law_1235 : decode cL_law 1235 = .ok (.aload_n 0, 1) := by decide +kernel
theorem dL_law_1236 : decode cL_law 1236 = .ok (.iload_n 3, 1) := by decide +kernel
theorem dL_law_1237 : decode cL_law 1237 = .ok (.iconst 2, 1) := by decide +kernel
theorem dL_law_1238 : decode cL_law 1238 = .ok (.iadd, 1) := by decide +kernel
theorem dL_law_1239 : decode cL_law 1239 = .ok (.iaload, 1) := by decide +kernel
theorem dL_law_1240 : decode cL_law 1240 = .ok (.aload_n 0, 1) := by decide +kernel
theorem dL_law_1241 : decode cL_law 1241 = .ok (.iload_n 3, 1) := by decide +kernel
theorem dL_law_1242 : decode cL_law 1242 = .ok (.iconst 3, 1) := by decide +kernel
theorem dL_law_1243 : decode cL_law 1243 = .ok (.iadd, 1) := by decide +kernel
theorem dL_law_1244 : decode cL_law 1244 = .ok (.iaload, 1) := by decide +kernel
theorem dL_law_1245 : decode cL_law 1245 = .ok (.invokevirtual 140, 3) := by decide +kernel
theorem dL_law_1248 : decode cL_law 1248 = .ok (.if_icmp .eq 148, 3) := by decide +kernel
theorem dL_law_1251 : decode cL_law 1251 = .ok (.iconst 0, 1) := by decide +kernel
theorem dL_law_1252 : decode cL_law 1252 = .ok (.ireturn, 1) := by decide +kernel
theorem dL_law_1253 : decode cL_law 1253 = .ok (.aload_n 1, 1) := by decide +kernel
theorem dL_law_1254 : decode cL_law 1254 = .ok (.aload_n 0, 1) := by decide +kernel
theorem dL_law_1255 : decode cL_law 1255 = .ok (.iload_n 3, 1) := by decide +kernel
theorem dL_law_1256 : decode cL_law 1256 = .ok (.iconst 1, 1) := by decide +kernel
theorem dL_law_1257 : decode cL_law 1257 = .ok (.iadd, 1) := by decide +kernel
theorem dL_law_1258 : decode cL_law 1258 = .ok (.iaload, 1) := by decide +kernel
theorem dL_law_1259 : decode cL_law 1259 = .ok (.aload_n 0, 1) := by decide +kernel
theorem dL_law_1260 : decode cL_law 1260 = .ok (.iload_n 3, 1) := by decide +kernel
theorem dL_law_1261 : decode cL_law 1261 = .ok (.iconst 2, 1) := by decide +kernel
theorem dL_law_1262 : decode cL_law 1262 = .ok (.iadd, 1) := by decide +kernel
theorem dL_law_1263 : decode cL_law 1263 = .ok (.iaload, 1) := by decide +kernel
theorem dL_law_1264 : decode cL_law 1264 = .ok (.invokevirtual 141, 3) := by decide +kernel
theorem dL_law_1267 : decode cL_law 1267 = .ok (.aload_n 2, 1) := by decide +kernel
theorem dL_law_1268 : decode cL_law 1268 = .ok (.aload_n 0, 1) := by decide +kernel
theorem dL_law_1269 : decode cL_law 1269 = .ok (.iload_n 3, 1) := by decide +kernel
theorem dL_law_1270 : decode cL_law 1270 = .ok (.iconst 1, 1) := by decide +kernel
theorem dL_law_1271 : decode cL_law 1271 = .ok (.iadd, 1) := by decide +kernel
theorem dL_law_1272 : decode cL_law 1272 = .ok (.iaload, 1) := by decide +kernel
theorem dL_law_1273 : decode cL_law 1273 = .ok (.aload_n 0, 1) := by decide +kernel
theorem dL_law_1274 : decode cL_law 1274 = .ok (.iload_n 3, 1) := by decide +kernel
theorem dL_law_1275 : decode cL_law 1275 = .ok (.iconst 2, 1) := by decide +kernel
theorem dL_law_1276 : decode cL_law 1276 = .ok (.iadd, 1) := by decide +kernel
theorem dL_law_1277 : decode cL_law 1277 = .ok (.iaload, 1) := by decide +kernel
theorem dL_law_1278 : decode cL_law 1278 = .ok (.invokevirtual 144, 3) := by decide +kernel
theorem dL_law_1281 : decode cL_law 1281 = .ok (.if_icmp .eq 115, 3) := by decide +kernel
theorem dL_law_1284 : decode cL_law 1284 = .ok (.iconst 0, 1) := by decide +kernel
theorem dL_law_1285 : decode cL_law 1285 = .ok (.ireturn, 1) := by decide +kernel
theorem dL_law_1286 : decode cL_law 1286 = .ok (.aload_n 1, 1) := by decide +kernel
theorem dL_law_1287 : decode cL_law 1287 = .ok (.aload_n 0, 1) := by decide +kernel
theorem dL_law_1288 : decode cL_law 1288 = .ok (.iload_n 3, 1) := by decide +kernel
theorem dL_law_1289 : decode cL_law 1289 = .ok (.iconst 1, 1) := by decide +kernel
theorem dL_law_1290 : decode cL_law 1290 = .ok (.iadd, 1) := by decide +kernel
theorem dL_law_1291 : decode cL_law 1291 = .ok (.iaload, 1) := by decide +kernel
theorem dL_law_1292 : decode cL_law 1292 = .ok (.aload_n 0, 1) := by decide +kernel
theorem dL_law_1293 : decode cL_law 1293 = .ok (.iload_n 3, 1) := by decide +kernel
theorem dL_law_1294 : decode cL_law 1294 = .ok (.iconst 2, 1) := by decide +kernel
theorem dL_law_1295 : decode cL_law 1295 = .ok (.iadd, 1) := by decide +kernel
theorem dL_law_1296 : decode cL_law 1296 = .ok (.iaload, 1) := by decide +kernel
theorem dL_law_1297 : decode cL_law 1297 = .ok (.invokevirtual 145, 3) := by decide +kernel
theorem dL_law_1300 : decode cL_law 1300 = .ok (.aload_n 2, 1) := by decide +kernel
theorem dL_law_1301 : decode cL_law 1301 = .ok (.aload_n 0, 1) := by decide +kernel
theorem dL_law_1302 : decode cL_law 1302 = .ok (.iload_n 3, 1) := by decide +kernel
theorem dL_law_1303 : decode cL_law 1303 = .ok (.iconst 1, 1) := by decide +kernel
theorem dL_law_1304 : decode cL_law 1304 = .ok (.iadd, 1) := by decide +kernel
theorem dL_law_1305 : decode cL_law 1305 = .ok (.iaload, 1) := by decide +kernel
theorem dL_law_1306 : decode cL_law 1306 = .ok (.aload_n 0, 1) := by decide +kernel
theorem dL_law_1307 : decode cL_law 1307 = .ok (.iload_n 3, 1) := by decide +kernel
theorem dL_law_1308 : decode cL_law 1308 = .ok (.iconst 2, 1) := by decide +kernel
theorem dL_law_1309 : decode cL_law 1309 = .ok (.iadd, 1) := by decide +kernel
theorem dL_law_1310 : decode cL_law 1310 = .ok (.iaload, 1) := by decide +kernel
theorem dL_law_1311 : decode cL_law 1311 = .ok (.invokevirtual 148, 3) := by decide +kernel
theorem dL_law_1314 : decode cL_law 1314 = .ok (.if_icmp .eq 82, 3) := by decide +kernel
theorem dL_law_1317 : decode cL_law 1317 = .ok (.iconst 0, 1) := by decide +kernel
theorem dL_law_1318 : decode cL_law 1318 = .ok (.ireturn, 1) := by decide +kernel
theorem dL_law_1319 : decode cL_law 1319 = .ok (.aload_n 1, 1) := by decide +kernel
theorem dL_law_1320 : decode cL_law 1320 = .ok (.aload_n 0, 1) := by decide +kernel
theorem dL_law_1321 : decode cL_law 1321 = .ok (.iload_n 3, 1) := by decide +kernel
theorem dL_law_1322 : decode cL_law 1322 = .ok (.iconst 1, 1) := by decide +kernel
theorem dL_law_1323 : decode cL_law 1323 = .ok (.iadd, 1) := by decide +kernel
theorem dL_law_1324 : decode cL_law 1324 = .ok (.iaload, 1) := by decide +kernel
theorem dL_law_1325 : decode cL_law 1325 = .ok (.aload_n 0, 1) := by decide +kernel
theorem dL_law_1326 : decode cL_law 1326 = .ok (.iload_n 3, 1) := by decide +kernel
theorem dL_law_1327 : decode cL_law 1327 = .ok (.iconst 2, 1) := by decide +kernel
theorem dL_law_1328 : decode cL_law 1328 = .ok (.iadd, 1) := by decide +kernel
theorem dL_law_1329 : decode cL_law 1329 = .ok (.iaload, 1) := by decide +kernel
theorem dL_law_1330 : decode cL_law 1330 = .ok (.aload_n 0, 1) := by decide +kernel
theorem dL_law_1331 : decode cL_law 1331 = .ok (.iload_n 3, 1) := by decide +kernel
theorem dL_law_1332 : decode cL_law 1332 = .ok (.iconst 3, 1) := by decide +kernel
theorem dL_law_1333 : decode cL_law 1333 = .ok (.iadd, 1) := by decide +kernel
theorem dL_law_1334 : decode cL_law 1334 = .ok (.iaload, 1) := by decide +kernel
theorem dL_law_1335 : decode cL_law 1335 = .ok (.aload_n 0, 1) := by decide +kernel
theorem dL_law_1336 : decode cL_law 1336 = .ok (.iload_n 3, 1) := by decide +kernel
theorem dL_law_1337 : decode cL_law 1337 = .ok (.iconst 4, 1) := by decide +kernel
theorem dL_law_1338 : decode cL_law 1338 = .ok (.iadd, 1) := by decide +kernel
theorem dL_law_1339 : decode cL_law 1339 = .ok (.iaload, 1) := by decide +kernel
theorem dL_law_1340 : decode cL_law 1340 = .ok (.invokevirtual 149, 3) := by decide +kernel
theorem dL_law_1343 : decode cL_law 1343 = .ok (.aload_n 2, 1) := by decide +kernel
theorem dL_law_1344 : decode cL_law 1344 = .ok (.aload_n 0, 1) := by decide +kernel
theorem dL_law_1345 : decode cL_law 1345 = .ok (.iload_n 3, 1) := by decide +kernel
theorem dL_law_1346 : decode cL_law 1346 = .ok (.iconst 1, 1) := by decide +kernel
theorem dL_law_1347 : decode cL_law 1347 = .ok (.iadd, 1) := by decide +kernel
theorem dL_law_1348 : decode cL_law 1348 = .ok (.iaload, 1) := by decide +kernel
theorem dL_law_1349 : decode cL_law 1349 = .ok (.aload_n 0, 1) := by decide +kernel
theorem dL_law_1350 : decode cL_law 1350 = .ok (.iload_n 3, 1) := by decide +kernel
theorem dL_law_1351 : decode cL_law 1351 = .ok (.iconst 2, 1) := by decide +kernel
theorem dL_law_1352 : decode cL_law 1352 = .ok (.iadd, 1) := by decide +kernel
theorem dL_law_1353 : decode cL_law 1353 = .ok (.iaload, 1) := by decide +kernel
theorem dL_law_1354 : decode cL_law 1354 = .ok (.aload_n 0, 1) := by decide +kernel
theorem dL_law_1355 : decode cL_law 1355 = .ok (.iload_n 3, 1) := by decide +kernel
theorem dL_law_1356 : decode cL_law 1356 = .ok (.iconst 3, 1) := by decide +kernel
theorem dL_law_1357 : decode cL_law 1357 = .ok (.iadd, 1) := by decide +kernel
theorem dL_law_1358 : decode cL_law 1358 = .ok (.iaload, 1) := by decide +kernel
theorem dL_law_1359 : decode cL_law 1359 = .ok (.aload_n 0, 1) := by decide +kernel
theorem dL_law_1360 : decode cL_law 1360 = .ok (.iload_n 3, 1) := by decide +kernel
theorem dL_law_1361 : decode cL_law 1361 = .ok (.iconst 4, 1) := by decide +kernel
theorem dL_law_1362 : decode cL_law 1362 = .ok (.iadd, 1) := by decide +kernel
theorem dL_law_1363 : decode cL_law 1363 = .ok (.iaload, 1) := by decide +kernel
theorem dL_law_1364 : decode cL_law 1364 = .ok (.invokevirtual 152, 3) := by decide +kernel
theorem dL_law_1367 : decode cL_law 1367 = .ok (.if_icmp .eq 29, 3) := by decide +kernel
theorem dL_law_1370 : decode cL_law 1370 = .ok (.iconst 0, 1) := by decide +kernel
theorem dL_law_1371 : decode cL_law 1371 = .ok (.ireturn, 1) := by decide +kernel
theorem dL_law_1372 : decode cL_law 1372 = .ok (.aload_n 1, 1) := by decide +kernel
theorem dL_law_1373 : decode cL_law 1373 = .ok (.aload_n 0, 1) := by decide +kernel
theorem dL_law_1374 : decode cL_law 1374 = .ok (.iload_n 3, 1) := by decide +kernel
theorem dL_law_1375 : decode cL_law 1375 = .ok (.iconst 1, 1) := by decide +kernel
theorem dL_law_1376 : decode cL_law 1376 = .ok (.iadd, 1) := by decide +kernel
theorem dL_law_1377 : decode cL_law 1377 = .ok (.iaload, 1) := by decide +kernel
theorem dL_law_1378 : decode cL_law 1378 = .ok (.invokevirtual 153, 3) := by decide +kernel
theorem dL_law_1381 : decode cL_law 1381 = .ok (.aload_n 2, 1) := by decide +kernel
theorem dL_law_1382 : decode cL_law 1382 = .ok (.aload_n 0, 1) := by decide +kernel
theorem dL_law_1383 : decode cL_law 1383 = .ok (.iload_n 3, 1) := by decide +kernel
theorem dL_law_1384 : decode cL_law 1384 = .ok (.iconst 1, 1) := by decide +kernel
theorem dL_law_1385 : decode cL_law 1385 = .ok (.iadd, 1) := by decide +kernel
theorem dL_law_1386 : decode cL_law 1386 = .ok (.iaload, 1) := by decide +kernel
theorem dL_law_1387 : decode cL_law 1387 = .ok (.invokevirtual 156, 3) := by decide +kernel
theorem dL_law_1390 : decode cL_law 1390 = .ok (.lcmp, 1) := by decide +kernel
theorem dL_law_1391 : decode cL_law 1391 = .ok (.ifCond .eq 5, 3) := by decide +kernel
theorem dL_law_1394 : decode cL_law 1394 = .ok (.iconst 0, 1) := by decide +kernel
theorem dL_law_1395 : decode cL_law 1395 = .ok (.ireturn, 1) := by decide +kernel
theorem dL_law_1396 : decode cL_law 1396 = .ok (.iinc 3 6, 3) := by decide +kernel
theorem dL_law_1399 : decode cL_law 1399 = .ok (.goto (-1381), 3) := by decide +kernel
theorem dL_law_1402 : decode cL_law 1402 = .ok (.iconst 1, 1) := by decide +kernel
theorem dL_law_1403 : decode cL_law 1403 = .ok (.ireturn, 1) := by decide +kernel
