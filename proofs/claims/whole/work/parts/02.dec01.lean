theorem dX11_gather_31 : decode cX11_gather 31 = .ok (.iconst 1, 1) := by decide +kernel
theorem dX11_gather_32 : decode cX11_gather 32 = .ok (.iand, 1) := by decide +kernel
theorem dX11_gather_33 : decode cX11_gather 33 = .ok (.iconst 1, 1) := by decide +kernel
theorem dX11_gather_34 : decode cX11_gather 34 = .ok (.if_icmp .ne 26, 3) := by decide +kernel
theorem dX11_gather_37 : decode cX11_gather 37 = .ok (.aload_n 0, 1) := by decide +kernel
theorem dX11_gather_38 : decode cX11_gather 38 = .ok (.iload_n 2, 1) := by decide +kernel
theorem dX11_gather_39 : decode cX11_gather 39 = .ok (.invokevirtual 133, 3) := by decide +kernel
theorem dX11_gather_42 : decode cX11_gather 42 = .ok (.astore_n 3, 1) := by decide +kernel
theorem dX11_gather_43 : decode cX11_gather 43 = .ok (.aload_n 3, 1) := by decide +kernel
theorem dX11_gather_44 : decode cX11_gather 44 = .ok (.ifnull 14, 3) := by decide +kernel
theorem dX11_gather_47 : decode cX11_gather 47 = .ok (.aload_n 0, 1) := by decide +kernel
theorem dX11_gather_48 : decode cX11_gather 48 = .ok (.getfield 68, 3) := by decide +kernel
theorem dX11_gather_51 : decode cX11_gather 51 = .ok (.aload_n 3, 1) := by decide +kernel
theorem dX11_gather_52 : decode cX11_gather 52 = .ok (.invokevirtual 356, 3) := by decide +kernel
theorem dX11_gather_55 : decode cX11_gather 55 = .ok (.ifCond .ne 5, 3) := by decide +kernel
theorem dX11_gather_58 : decode cX11_gather 58 = .ok (.iconst 0, 1) := by decide +kernel
theorem dX11_gather_59 : decode cX11_gather 59 = .ok (.ireturn, 1) := by decide +kernel
theorem dX11_gather_60 : decode cX11_gather 60 = .ok (.iinc 2 1, 3) := by decide +kernel
theorem dX11_gather_63 : decode cX11_gather 63 = .ok (.goto (-41), 3) := by decide +kernel
theorem dX11_gather_66 : decode cX11_gather 66 = .ok (.aload_n 0, 1) := by decide +kernel
theorem dX11_gather_67 : decode cX11_gather 67 = .ok (.getfield 68, 3) := by decide +kernel
theorem dX11_gather_70 : decode cX11_gather 70 = .ok (.invokevirtual 359, 3) := by decide +kernel
theorem dX11_gather_73 : decode cX11_gather 73 = .ok (.iconst 1, 1) := by decide +kernel
theorem dX11_gather_74 : decode cX11_gather 74 = .ok (.ireturn, 1) := by decide +kernel
theorem dX11_heirs_0 : decode cX11_heirs 0 = .ok (.aload_n 0, 1) := by decide +kernel
theorem dX11_heirs_1 : decode cX11_heirs 1 = .ok (.iload_n 1, 1) := by decide +kernel
theorem dX11_heirs_2 : decode cX11_heirs 2 = .ok (.invokevirtual 133, 3) := by decide +kernel
theorem dX11_heirs_5 : decode cX11_heirs 5 = .ok (.astore_n 2, 1) := by decide +kernel
theorem dX11_heirs_6 : decode cX11_heirs 6 = .ok (.aload_n 2, 1) := by decide +kernel
theorem dX11_heirs_7 : decode cX11_heirs 7 = .ok (.ifnull 10, 3) := by decide +kernel
theorem dX11_heirs_10 : decode cX11_heirs 10 = .ok (.aload_n 2, 1) := by decide +kernel
theorem dX11_heirs_11 : decode cX11_heirs 11 = .ok (.invokevirtual 152, 3) := by decide +kernel
theorem dX11_heirs_14 : decode cX11_heirs 14 = .ok (.ifCond .eq 7, 3) := by decide +kernel
theorem dX11_heirs_17 : decode cX11_heirs 17 = .ok (.iconst (-1), 1) := by decide +kernel
theorem dX11_heirs_18 : decode cX11_heirs 18 = .ok (.goto 8, 3) := by decide +kernel
theorem dX11_heirs_21 : decode cX11_heirs 21 = .ok (.aload_n 0, 1) := by decide +kernel
theorem dX11_heirs_22 : decode cX11_heirs 22 = .ok (.aload_n 2, 1) := by decide +kernel
theorem dX11_heirs_23 : decode cX11_heirs 23 = .ok (.invokevirtual 362, 3) := by decide +kernel
theorem dX11_heirs_26 : decode cX11_heirs 26 = .ok (.ireturn, 1) := by decide +kernel
theorem dX11_share_0 : decode cX11_share 0 = .ok (.aload_n 0, 1) := by decide +kernel
theorem dX11_share_1 : decode cX11_share 1 = .ok (.iload_n 1, 1) := by decide +kernel
theorem dX11_share_2 : decode cX11_share 2 = .ok (.invokevirtual 133, 3) := by decide +kernel
theorem dX11_share_5 : decode cX11_share 5 = .ok (.astore 4, 2) := by decide +kernel
theorem dX11_share_7 : decode cX11_share 7 = .ok (.aload_n 0, 1) := by decide +kernel
theorem dX11_share_8 : decode cX11_share 8 = .ok (.iload_n 2, 1) := by decide +kernel
theorem dX11_share_9 : decode cX11_share 9 = .ok (.invokevirtual 133, 3) := by decide +kernel
theorem dX11_share_12 : decode cX11_share 12 = .ok (.astore 5, 2) := by decide +kernel
theorem dX11_share_14 : decode cX11_share 14 = .ok (.aload 4, 2) := by decide +kernel
theorem dX11_share_16 : decode cX11_share 16 = .ok (.ifnull 25, 3) := by decide +kernel
theorem dX11_share_19 : decode cX11_share 19 = .ok (.aload 5, 2) := by decide +kernel
theorem dX11_share_21 : decode cX11_share 21 = .ok (.ifnull 20, 3) := by decide +kernel
theorem dX11_share_24 : decode cX11_share 24 = .ok (.aload 4, 2) := by decide +kernel
theorem dX11_share_26 : decode cX11_share 26 = .ok (.invokevirtual 152, 3) := by decide +kernel
theorem dX11_share_29 : decode cX11_share 29 = .ok (.ifCond .ne 12, 3) := by decide +kernel
theorem dX11_share_32 : decode cX11_share 32 = .ok (.iload_n 3, 1) := by decide +kernel
theorem dX11_share_33 : decode cX11_share 33 = .ok (.ifCond .lt 8, 3) := by decide +kernel
theorem dX11_share_36 : decode cX11_share 36 = .ok (.iload_n 3, 1) := by decide +kernel
theorem dX11_share_37 : decode cX11_share 37 = .ok (.iconst 1, 1) := by decide +kernel
theorem dX11_share_38 : decode cX11_share 38 = .ok (.if_icmp .le 7, 3) := by decide +kernel
theorem dX11_share_41 : decode cX11_share 41 = .ok (.ldc2_w 193, 3) := by decide +kernel
theorem dX11_share_44 : decode cX11_share 44 = .ok (.lreturn, 1) := by decide +kernel
theorem dX11_share_45 : decode cX11_share 45 = .ok (.aload 4, 2) := by decide +kernel
theorem dX11_share_47 : decode cX11_share 47 = .ok (.aload 5, 2) := by decide +kernel
theorem dX11_share_49 : decode cX11_share 49 = .ok (.invokestatic 365, 3) := by decide +kernel
theorem dX11_share_52 : decode cX11_share 52 = .ok (.istore 6, 2) := by decide +kernel
theorem dX11_share_54 : decode cX11_share 54 = .ok (.iload_n 3, 1) := by decide +kernel
theorem dX11_share_55 : decode cX11_share 55 = .ok (.ifCond .ne 14, 3) := by decide +kernel
theorem dX11_share_58 : decode cX11_share 58 = .ok (.iload 6, 2) := by decide +kernel
theorem dX11_share_60 : decode cX11_share 60 = .ok (.ifCond .ne 7, 3) := by decide +kernel
theorem dX11_share_63 : decode cX11_share 63 = .ok (.lconst 0, 1) := by decide +kernel
theorem dX11_share_64 : decode cX11_share 64 = .ok (.goto 4, 3) := by decide +kernel
theorem dX11_share_67 : decode cX11_share 67 = .ok (.lconst 1, 1) := by decide +kernel
theorem dX11_share_68 : decode cX11_share 68 = .ok (.lreturn, 1) := by decide +kernel
theorem dX11_share_69 : decode cX11_share 69 = .ok (.iload 6, 2) := by decide +kernel
theorem dX11_share_71 : decode cX11_share 71 = .ok (.ifCond .ne 7, 3) := by decide +kernel
theorem dX11_share_74 : decode cX11_share 74 = .ok (.lconst 1, 1) := by decide +kernel
theorem dX11_share_75 : decode cX11_share 75 = .ok (.goto 6, 3) := by decide +kernel
theorem dX11_share_78 : decode cX11_share 78 = .ok (.iload 6, 2) := by decide +kernel
theorem dX11_share_80 : decode cX11_share 80 = .ok (.i2l, 1) := by decide +kernel
theorem dX11_share_81 : decode cX11_share 81 = .ok (.lreturn, 1) := by decide +kernel
theorem dX11_countLines_0 : decode cX11_countLines 0 = .ok (.iconst 0, 1) := by decide +kernel
theorem dX11_countLines_1 : decode cX11_countLines 1 = .ok (.istore_n 1, 1) := by decide +kernel
theorem dX11_countLines_2 : decode cX11_countLines 2 = .ok (.iload_n 1, 1) := by decide +kernel
theorem dX11_countLines_3 : decode cX11_countLines 3 = .ok (.aload_n 0, 1) := by decide +kernel
theorem dX11_countLines_4 : decode cX11_countLines 4 = .ok (.getfield 20, 3) := by decide +kernel
theorem dX11_countLines_7 : decode cX11_countLines 7 = .ok (.invokevirtual 87, 3) := by decide +kernel
theorem dX11_countLines_10 : decode cX11_countLines 10 = .ok (.if_icmp .ge 24, 3) := by decide +kernel
theorem dX11_countLines_13 : decode cX11_countLines 13 = .ok (.aload_n 0, 1) := by decide +kernel
theorem dX11_countLines_14 : decode cX11_countLines 14 = .ok (.getfield 20, 3) := by decide +kernel
theorem dX11_countLines_17 : decode cX11_countLines 17 = .ok (.iload_n 1, 1) := by decide +kernel
theorem dX11_countLines_18 : decode cX11_countLines 18 = .ok (.invokevirtual 129, 3) := by decide +kernel
theorem dX11_countLines_21 : decode cX11_countLines 21 = .ok (.checkcast 140, 3) := by decide +kernel
theorem dX11_countLines_24 : decode cX11_countLines 24 = .ok (.iconst 0, 1) := by decide +kernel
theorem dX11_countLines_25 : decode cX11_countLines 25 = .ok (.putfield 369, 3) := by decide +kernel
theorem dX11_countLines_28 : decode cX11_countLines 28 = .ok (.iinc 1 1, 3) := by decide +kernel
theorem dX11_countLines_31 : decode cX11_countLines 31 = .ok (.goto (-29), 3) := by decide +kernel
theorem dX11_countLines_34 : decode cX11_countLines 34 = .ok (.aload_n 0, 1) := by decide +kernel
theorem dX11_countLines_35 : decode cX11_countLines 35 = .ok (.getfield 20, 3) := by decide +kernel
theorem dX11_countLines_38 : decode cX11_countLines 38 = .ok (.invokevirtual 87, 3) := by decide +kernel
theorem dX11_countLines_41 : decode cX11_countLines 41 = .ok (.iconst 1, 1) := by decide +kernel
theorem dX11_countLines_42 : decode cX11_countLines 42 = .ok (.isub, 1) := by decide +kernel
theorem dX11_countLines_43 : decode cX11_countLines 43 = .ok (.istore_n 1, 1) := by decide +kernel
theorem dX11_countLines_44 : decode cX11_countLines 44 = .ok (.iload_n 1, 1) := by decide +kernel
theorem dX11_countLines_45 : decode cX11_countLines 45 = .ok (.ifCond .lt 66, 3) := by decide +kernel
theorem dX11_countLines_48 : decode cX11_countLines 48 = .ok (.iload_n 1, 1) := by decide +kernel
theorem dX11_countLines_49 : decode cX11_countLines 49 = .ok (.aload_n 0, 1) := by decide +kernel
theorem dX11_countLines_50 : decode cX11_countLines 50 = .ok (.getfield 20, 3) := by decide +kernel
theorem dX11_countLines_53 : decode cX11_countLines 53 = .ok (.invokevirtual 87, 3) := by decide +kernel
theorem dX11_countLines_56 : decode cX11_countLines 56 = .ok (.if_icmp .ge 55, 3) := by decide +kernel
theorem dX11_countLines_59 : decode cX11_countLines 59 = .ok (.aload_n 0, 1) := by decide +kernel
theorem dX11_countLines_60 : decode cX11_countLines 60 = .ok (.getfield 20, 3) := by decide +kernel
theorem dX11_countLines_63 : decode cX11_countLines 63 = .ok (.iload_n 1, 1) := by decide +kernel
theorem dX11_countLines_64 : decode cX11_countLines 64 = .ok (.invokevirtual 129, 3) := by decide +kernel
theorem dX11_countLines_67 : decode cX11_countLines 67 = .ok (.checkcast 140, 3) := by decide +kernel
theorem dX11_countLines_70 : decode cX11_countLines 70 = .ok (.astore_n 2, 1) := by decide +kernel
theorem dX11_countLines_71 : decode cX11_countLines 71 = .ok (.aload_n 2, 1) := by decide +kernel
theorem dX11_countLines_72 : decode cX11_countLines 72 = .ok (.getfield 370, 3) := by decide +kernel
theorem dX11_countLines_75 : decode cX11_countLines 75 = .ok (.ifnull 30, 3) := by decide +kernel
theorem dX11_countLines_78 : decode cX11_countLines 78 = .ok (.aload_n 2, 1) := by decide +kernel
theorem dX11_countLines_79 : decode cX11_countLines 79 = .ok (.invokevirtual 152, 3) := by decide +kernel
theorem dX11_countLines_82 : decode cX11_countLines 82 = .ok (.ifCond .ne 10, 3) := by decide +kernel
theorem dX11_countLines_85 : decode cX11_countLines 85 = .ok (.aload_n 2, 1) := by decide +kernel
theorem dX11_countLines_86 : decode cX11_countLines 86 = .ok (.getfield 369, 3) := by decide +kernel
theorem dX11_countLines_89 : decode cX11_countLines 89 = .ok (.ifCond .le 16, 3) := by decide +kernel
theorem dX11_countLines_92 : decode cX11_countLines 92 = .ok (.aload_n 2, 1) := by decide +kernel
theorem dX11_countLines_93 : decode cX11_countLines 93 = .ok (.getfield 370, 3) := by decide +kernel
theorem dX11_countLines_96 : decode cX11_countLines 96 = .ok (.dup, 1) := by decide +kernel
theorem dX11_countLines_97 : decode cX11_countLines 97 = .ok (.getfield 369, 3) := by decide +kernel
theorem dX11_countLines_100 : decode cX11_countLines 100 = .ok (.iconst 1, 1) := by decide +kernel
theorem dX11_countLines_101 : decode cX11_countLines 101 = .ok (.iadd, 1) := by decide +kernel
theorem dX11_countLines_102 : decode cX11_countLines 102 = .ok (.putfield 369, 3) := by decide +kernel
theorem dX11_countLines_105 : decode cX11_countLines 105 = .ok (.iinc 1 (-1), 3) := by decide +kernel
theorem dX11_countLines_108 : decode cX11_countLines 108 = .ok (.goto (-64), 3) := by decide +kernel
theorem dX11_countLines_111 : decode cX11_countLines 111 = .ok (.return_, 1) := by decide +kernel
theorem dX11_partsFor_0 : decode cX11_partsFor 0 = .ok (.aload_n 1, 1) := by decide +kernel
theorem dX11_partsFor_1 : decode cX11_partsFor 1 = .ok (.invokevirtual 152, 3) := by decide +kernel
theorem dX11_partsFor_4 : decode cX11_partsFor 4 = .ok (.ifCond .ne 5, 3) := by decide +kernel
theorem dX11_partsFor_7 : decode cX11_partsFor 7 = .ok (.iconst 0, 1) := by decide +kernel
theorem dX11_partsFor_8 : decode cX11_partsFor 8 = .ok (.ireturn, 1) := by decide +kernel
theorem dX11_partsFor_9 : decode cX11_partsFor 9 = .ok (.iconst 1, 1) := by decide +kernel
theorem dX11_partsFor_10 : decode cX11_partsFor 10 = .ok (.istore_n 2, 1) := by decide +kernel
theorem dX11_partsFor_11 : decode cX11_partsFor 11 = .ok (.aload_n 1, 1) := by decide +kernel
theorem dX11_partsFor_12 : decode cX11_partsFor 12 = .ok (.getfield 370, 3) := by decide +kernel
theorem dX11_partsFor_15 : decode cX11_partsFor 15 = .ok (.astore_n 3, 1) := by decide +kernel
theorem dX11_partsFor_16 : decode cX11_partsFor 16 = .ok (.iconst 0, 1) := by decide +kernel
theorem dX11_partsFor_17 : decode cX11_partsFor 17 = .ok (.istore 4, 2) := by decide +kernel
theorem dX11_partsFor_19 : decode cX11_partsFor 19 = .ok (.iload 4, 2) := by decide +kernel
theorem dX11_partsFor_21 : decode cX11_partsFor 21 = .ok (.bipush 24, 2) := by decide +kernel
theorem dX11_partsFor_23 : decode cX11_partsFor 23 = .ok (.if_icmp .ge 39, 3) := by decide +kernel
theorem dX11_partsFor_26 : decode cX11_partsFor 26 = .ok (.aload_n 3, 1) := by decide +kernel
theorem dX11_partsFor_27 : decode cX11_partsFor 27 = .ok (.ifnull 35, 3) := by decide +kernel
theorem dX11_partsFor_30 : decode cX11_partsFor 30 = .ok (.aload_n 3, 1) := by decide +kernel
theorem dX11_partsFor_31 : decode cX11_partsFor 31 = .ok (.invokevirtual 152, 3) := by decide +kernel
theorem dX11_partsFor_34 : decode cX11_partsFor 34 = .ok (.ifCond .ne 28, 3) := by decide +kernel
theorem dX11_partsFor_37 : decode cX11_partsFor 37 = .ok (.iload_n 2, 1) := by decide +kernel
theorem dX11_partsFor_38 : decode cX11_partsFor 38 = .ok (.aload_n 3, 1) := by decide +kernel
theorem dX11_partsFor_39 : decode cX11_partsFor 39 = .ok (.getfield 369, 3) := by decide +kernel
theorem dX11_partsFor_42 : decode cX11_partsFor 42 = .ok (.imul, 1) := by decide +kernel
theorem dX11_partsFor_43 : decode cX11_partsFor 43 = .ok (.istore_n 2, 1) := by decide +kernel
theorem dX11_partsFor_44 : decode cX11_partsFor 44 = .ok (.aload_n 3, 1) := by decide +kernel
theorem dX11_partsFor_45 : decode cX11_partsFor 45 = .ok (.aload_n 0, 1) := by decide +kernel
theorem dX11_partsFor_46 : decode cX11_partsFor 46 = .ok (.if_acmp .ne 5, 3) := by decide +kernel
theorem dX11_partsFor_49 : decode cX11_partsFor 49 = .ok (.iload_n 2, 1) := by decide +kernel
theorem dX11_partsFor_50 : decode cX11_partsFor 50 = .ok (.ireturn, 1) := by decide +kernel
theorem dX11_partsFor_51 : decode cX11_partsFor 51 = .ok (.aload_n 3, 1) := by decide +kernel
theorem dX11_partsFor_52 : decode cX11_partsFor 52 = .ok (.getfield 370, 3) := by decide +kernel
theorem dX11_partsFor_55 : decode cX11_partsFor 55 = .ok (.astore_n 3, 1) := by decide +kernel
theorem dX11_partsFor_56 : decode cX11_partsFor 56 = .ok (.iinc 4 1, 3) := by decide +kernel
theorem dX11_partsFor_59 : decode cX11_partsFor 59 = .ok (.goto (-40), 3) := by decide +kernel
theorem dX11_partsFor_62 : decode cX11_partsFor 62 = .ok (.iconst 0, 1) := by decide +kernel
theorem dX11_partsFor_63 : decode cX11_partsFor 63 = .ok (.ireturn, 1) := by decide +kernel
theorem dX11_countHeirs_0 : decode cX11_countHeirs 0 = .ok (.iconst 0, 1) := by decide +kernel
theorem dX11_countHeirs_1 : decode cX11_countHeirs 1 = .ok (.istore_n 2, 1) := by decide +kernel
theorem dX11_countHeirs_2 : decode cX11_countHeirs 2 = .ok (.iconst 0, 1) := by decide +kernel
theorem dX11_countHeirs_3 : decode cX11_countHeirs 3 = .ok (.istore_n 3, 1) := by decide +kernel
theorem dX11_countHeirs_4 : decode cX11_countHeirs 4 = .ok (.iload_n 3, 1) := by decide +kernel
theorem dX11_countHeirs_5 : decode cX11_countHeirs 5 = .ok (.aload_n 0, 1) := by decide +kernel
theorem dX11_countHeirs_6 : decode cX11_countHeirs 6 = .ok (.getfield 20, 3) := by decide +kernel
theorem dX11_countHeirs_9 : decode cX11_countHeirs 9 = .ok (.invokevirtual 87, 3) := by decide +kernel
theorem dX11_countHeirs_12 : decode cX11_countHeirs 12 = .ok (.if_icmp .ge 30, 3) := by decide +kernel
theorem dX11_countHeirs_15 : decode cX11_countHeirs 15 = .ok (.aload_n 1, 1) := by decide +kernel
theorem dX11_countHeirs_16 : decode cX11_countHeirs 16 = .ok (.aload_n 0, 1) := by decide +kernel
theorem dX11_countHeirs_17 : decode cX11_countHeirs 17 = .ok (.getfield 20, 3) := by decide +kernel
theorem dX11_countHeirs_20 : decode cX11_countHeirs 20 = .ok (.iload_n 3, 1) := by decide +kernel
theorem dX11_countHeirs_21 : decode cX11_countHeirs 21 = .ok (.invokevirtual 129, 3) := by decide +kernel
theorem dX11_countHeirs_24 : decode cX11_countHeirs 24 = .ok (.checkcast 140, 3) := by decide +kernel
theorem dX11_countHeirs_27 : decode cX11_countHeirs 27 = .ok (.invokestatic 365, 3) := by decide +kernel
theorem dX11_countHeirs_30 : decode cX11_countHeirs 30 = .ok (.ifCond .le 6, 3) := by decide +kernel
theorem dX11_countHeirs_33 : decode cX11_countHeirs 33 = .ok (.iinc 2 1, 3) := by decide +kernel
theorem dX11_countHeirs_36 : decode cX11_countHeirs 36 = .ok (.iinc 3 1, 3) := by decide +kernel
theorem dX11_countHeirs_39 : decode cX11_countHeirs 39 = .ok (.goto (-35), 3) := by decide +kernel
theorem dX11_countHeirs_42 : decode cX11_countHeirs 42 = .ok (.iload_n 2, 1) := by decide +kernel
theorem dX11_countHeirs_43 : decode cX11_countHeirs 43 = .ok (.ireturn, 1) := by decide +kernel
theorem dX11_claim_0 : decode cX11_claim 0 = .ok (.aload_n 0, 1) := by decide +kernel
theorem dX11_claim_1 : decode cX11_claim 1 = .ok (.iload_n 1, 1) := by decide +kernel
theorem dX11_claim_2 : decode cX11_claim 2 = .ok (.invokevirtual 133, 3) := by decide +kernel
theorem dX11_claim_5 : decode cX11_claim 5 = .ok (.astore 5, 2) := by decide +kernel
theorem dX11_claim_7 : decode cX11_claim 7 = .ok (.aload_n 0, 1) := by decide +kernel
theorem dX11_claim_8 : decode cX11_claim 8 = .ok (.iload_n 2, 1) := by decide +kernel
theorem dX11_claim_9 : decode cX11_claim 9 = .ok (.invokevirtual 168, 3) := by decide +kernel
theorem dX11_claim_12 : decode cX11_claim 12 = .ok (.astore 6, 2) := by decide +kernel
theorem dX11_claim_14 : decode cX11_claim 14 = .ok (.aload 5, 2) := by decide +kernel
theorem dX11_claim_16 : decode cX11_claim 16 = .ok (.ifnull 28, 3) := by decide +kernel
theorem dX11_claim_19 : decode cX11_claim 19 = .ok (.aload 6, 2) := by decide +kernel
theorem dX11_claim_21 : decode cX11_claim 21 = .ok (.ifnull 23, 3) := by decide +kernel
theorem dX11_claim_24 : decode cX11_claim 24 = .ok (.aload 6, 2) := by decide +kernel
theorem dX11_claim_26 : decode cX11_claim 26 = .ok (.invokevirtual 262, 3) := by decide +kernel
theorem dX11_claim_29 : decode cX11_claim 29 = .ok (.ifCond .eq 15, 3) := by decide +kernel
theorem dX11_claim_32 : decode cX11_claim 32 = .ok (.aload_n 0, 1) := by decide +kernel
theorem dX11_claim_33 : decode cX11_claim 33 = .ok (.getfield 26, 3) := by decide +kernel
theorem dX11_claim_36 : decode cX11_claim 36 = .ok (.invokevirtual 87, 3) := by decide +kernel
theorem dX11_claim_39 : decode cX11_claim 39 = .ok (.bipush 60, 2) := by decide +kernel
theorem dX11_claim_41 : decode cX11_claim 41 = .ok (.if_icmp .lt 5, 3) := by decide +kernel
theorem dX11_claim_44 : decode cX11_claim 44 = .ok (.iconst (-1), 1) := by decide +kernel
theorem dX11_claim_45 : decode cX11_claim 45 = .ok (.ireturn, 1) := by decide +kernel
theorem dX11_claim_46 : decode cX11_claim 46 = .ok (.iload_n 3, 1) := by decide +kernel
theorem dX11_claim_47 : decode cX11_claim 47 = .ok (.bipush 100, 2) := by decide +kernel
theorem dX11_claim_49 : decode cX11_claim 49 = .ok (.invokestatic 83, 3) := by decide +kernel
theorem dX11_claim_52 : decode cX11_claim 52 = .ok (.ifCond .eq 13, 3) := by decide +kernel
theorem dX11_claim_55 : decode cX11_claim 55 = .ok (.iload 4, 2) := by decide +kernel
theorem dX11_claim_57 : decode cX11_claim 57 = .ok (.bipush 101, 2) := by decide +kernel
theorem dX11_claim_59 : decode cX11_claim 59 = .ok (.invokestatic 83, 3) := by decide +kernel
theorem dX11_claim_62 : decode cX11_claim 62 = .ok (.ifCond .ne 5, 3) := by decide +kernel
theorem dX11_claim_65 : decode cX11_claim 65 = .ok (.iconst (-1), 1) := by decide +kernel
theorem dX11_claim_66 : decode cX11_claim 66 = .ok (.ireturn, 1) := by decide +kernel
theorem dX11_claim_67 : decode cX11_claim 67 = .ok (.aload_n 0, 1) := by decide +kernel
theorem dX11_claim_68 : decode cX11_claim 68 = .ok (.getfield 26, 3) := by decide +kernel
theorem dX11_claim_71 : decode cX11_claim 71 = .ok (.new 313, 3) := by decide +kernel
theorem dX11_claim_74 : decode cX11_claim 74 = .ok (.dup, 1) := by decide +kernel
theorem dX11_claim_75 : decode cX11_claim 75 = .ok (.aload 5, 2) := by decide +kernel
theorem dX11_claim_77 : decode cX11_claim 77 = .ok (.aload 6, 2) := by decide +kernel
theorem dX11_claim_79 : decode cX11_claim 79 = .ok (.iload_n 3, 1) := by decide +kernel
theorem dX11_claim_80 : decode cX11_claim 80 = .ok (.iload 4, 2) := by decide +kernel
theorem dX11_claim_82 : decode cX11_claim 82 = .ok (.invokespecial 373, 3) := by decide +kernel
theorem dX11_claim_85 : decode cX11_claim 85 = .ok (.invokevirtual 96, 3) := by decide +kernel
theorem dX11_claim_88 : decode cX11_claim 88 = .ok (.pop, 1) := by decide +kernel
theorem dX11_claim_89 : decode cX11_claim 89 = .ok (.aload_n 0, 1) := by decide +kernel
theorem dX11_claim_90 : decode cX11_claim 90 = .ok (.getfield 26, 3) := by decide +kernel
theorem dX11_claim_93 : decode cX11_claim 93 = .ok (.invokevirtual 87, 3) := by decide +kernel
theorem dX11_claim_96 : decode cX11_claim 96 = .ok (.iconst 1, 1) := by decide +kernel
theorem dX11_claim_97 : decode cX11_claim 97 = .ok (.isub, 1) := by decide +kernel
theorem dX11_claim_98 : decode cX11_claim 98 = .ok (.ireturn, 1) := by decide +kernel
theorem dX11_claimOf_0 : decode cX11_claimOf 0 = .ok (.aload_n 0, 1) := by decide +kernel
theorem dX11_claimOf_1 : decode cX11_claimOf 1 = .ok (.iload_n 1, 1) := by decide +kernel
theorem dX11_claimOf_2 : decode cX11_claimOf 2 = .ok (.invokevirtual 376, 3) := by decide +kernel
theorem dX11_claimOf_5 : decode cX11_claimOf 5 = .ok (.astore_n 3, 1) := by decide +kernel
theorem dX11_claimOf_6 : decode cX11_claimOf 6 = .ok (.aload_n 3, 1) := by decide +kernel
theorem dX11_claimOf_7 : decode cX11_claimOf 7 = .ok (.ifnonnull 7, 3) := by decide +kernel
theorem dX11_claimOf_10 : decode cX11_claimOf 10 = .ok (.ldc2_w 193, 3) := by decide +kernel
theorem dX11_claimOf_13 : decode cX11_claimOf 13 = .ok (.lreturn, 1) := by decide +kernel
theorem dX11_claimOf_14 : decode cX11_claimOf 14 = .ok (.iload_n 2, 1) := by decide +kernel
theorem dX11_claimOf_15 : decode cX11_claimOf 15 = .ok (.tableswitch 99 0 6 #[41, 50, 59, 69, 83, 88, 93], 41) := by decide +kernel
theorem dX11_claimOf_56 : decode cX11_claimOf 56 = .ok (.aload_n 3, 1) := by decide +kernel
theorem dX11_claimOf_57 : decode cX11_claimOf 57 = .ok (.getfield 380, 3) := by decide +kernel
theorem dX11_claimOf_60 : decode cX11_claimOf 60 = .ok (.getfield 151, 3) := by decide +kernel
theorem dX11_claimOf_63 : decode cX11_claimOf 63 = .ok (.i2l, 1) := by decide +kernel
theorem dX11_claimOf_64 : decode cX11_claimOf 64 = .ok (.lreturn, 1) := by decide +kernel
theorem dX11_claimOf_65 : decode cX11_claimOf 65 = .ok (.aload_n 3, 1) := by decide +kernel
theorem dX11_claimOf_66 : decode cX11_claimOf 66 = .ok (.getfield 315, 3) := by decide +kernel
theorem dX11_claimOf_69 : decode cX11_claimOf 69 = .ok (.getfield 167, 3) := by decide +kernel
theorem dX11_claimOf_72 : decode cX11_claimOf 72 = .ok (.i2l, 1) := by decide +kernel
theorem dX11_claimOf_73 : decode cX11_claimOf 73 = .ok (.lreturn, 1) := by decide +kernel
theorem dX11_claimOf_74 : decode cX11_claimOf 74 = .ok (.aload_n 0, 1) := by decide +kernel
theorem dX11_claimOf_75 : decode cX11_claimOf 75 = .ok (.aload_n 3, 1) := by decide +kernel
theorem dX11_claimOf_76 : decode cX11_claimOf 76 = .ok (.getfield 315, 3) := by decide +kernel
theorem dX11_claimOf_79 : decode cX11_claimOf 79 = .ok (.invokevirtual 383, 3) := by decide +kernel
theorem dX11_claimOf_82 : decode cX11_claimOf 82 = .ok (.i2l, 1) := by decide +kernel
theorem dX11_claimOf_83 : decode cX11_claimOf 83 = .ok (.lreturn, 1) := by decide +kernel
theorem dX11_claimOf_84 : decode cX11_claimOf 84 = .ok (.aload_n 0, 1) := by decide +kernel
theorem dX11_claimOf_85 : decode cX11_claimOf 85 = .ok (.aload_n 3, 1) := by decide +kernel
theorem dX11_claimOf_86 : decode cX11_claimOf 86 = .ok (.invokevirtual 387, 3) := by decide +kernel
theorem dX11_claimOf_89 : decode cX11_claimOf 89 = .ok (.ifCond .eq 7, 3) := by decide +kernel
theorem dX11_claimOf_92 : decode cX11_claimOf 92 = .ok (.lconst 1, 1) := by decide +kernel
theorem dX11_claimOf_93 : decode cX11_claimOf 93 = .ok (.goto 4, 3) := by decide +kernel
theorem dX11_claimOf_96 : decode cX11_claimOf 96 = .ok (.lconst 0, 1) := by decide +kernel
theorem dX11_claimOf_97 : decode cX11_claimOf 97 = .ok (.lreturn, 1) := by decide +kernel
theorem dX11_claimOf_98 : decode cX11_claimOf 98 = .ok (.aload_n 3, 1) := by decide +kernel
theorem dX11_claimOf_99 : decode cX11_claimOf 99 = .ok (.getfield 322, 3) := by decide +kernel
theorem dX11_claimOf_102 : decode cX11_claimOf 102 = .ok (.lreturn, 1) := by decide +kernel
theorem dX11_claimOf_103 : decode cX11_claimOf 103 = .ok (.aload_n 3, 1) := by decide +kernel
theorem dX11_claimOf_104 : decode cX11_claimOf 104 = .ok (.getfield 391, 3) := by decide +kernel
theorem dX11_claimOf_107 : decode cX11_claimOf 107 = .ok (.lreturn, 1) := by decide +kernel
theorem dX11_claimOf_108 : decode cX11_claimOf 108 = .ok (.aload_n 3, 1) := by decide +kernel
theorem dX11_claimOf_109 : decode cX11_claimOf 109 = .ok (.getfield 319, 3) := by decide +kernel
theorem dX11_claimOf_112 : decode cX11_claimOf 112 = .ok (.i2l, 1) := by decide +kernel
theorem dX11_claimOf_113 : decode cX11_claimOf 113 = .ok (.lreturn, 1) := by decide +kernel
theorem dX11_claimOf_114 : decode cX11_claimOf 114 = .ok (.ldc2_w 193, 3) := by decide +kernel
theorem dX11_claimOf_117 : decode cX11_claimOf 117 = .ok (.lreturn, 1) := by decide +kernel
theorem dX11_pay_0 : decode cX11_pay 0 = .ok (.aload_n 0, 1) := by decide +kernel
theorem dX11_pay_1 : decode cX11_pay 1 = .ok (.iload_n 1, 1) := by decide +kernel
theorem dX11_pay_2 : decode cX11_pay 2 = .ok (.invokevirtual 376, 3) := by decide +kernel
theorem dX11_pay_5 : decode cX11_pay 5 = .ok (.astore_n 2, 1) := by decide +kernel
theorem dX11_pay_6 : decode cX11_pay 6 = .ok (.aload_n 2, 1) := by decide +kernel
theorem dX11_pay_7 : decode cX11_pay 7 = .ok (.ifnull 26, 3) := by decide +kernel
theorem dX11_pay_10 : decode cX11_pay 10 = .ok (.aload_n 2, 1) := by decide +kernel
theorem dX11_pay_11 : decode cX11_pay 11 = .ok (.getfield 319, 3) := by decide +kernel
theorem dX11_pay_14 : decode cX11_pay 14 = .ok (.ifCond .ne 19, 3) := by decide +kernel
theorem dX11_pay_17 : decode cX11_pay 17 = .ok (.aload_n 0, 1) := by decide +kernel
theorem dX11_pay_18 : decode cX11_pay 18 = .ok (.aload_n 2, 1) := by decide +kernel
theorem dX11_pay_19 : decode cX11_pay 19 = .ok (.invokevirtual 387, 3) := by decide +kernel
theorem dX11_pay_22 : decode cX11_pay 22 = .ok (.ifCond .eq 11, 3) := by decide +kernel
theorem dX11_pay_25 : decode cX11_pay 25 = .ok (.aload_n 0, 1) := by decide +kernel
theorem dX11_pay_26 : decode cX11_pay 26 = .ok (.aload_n 2, 1) := by decide +kernel
theorem dX11_pay_27 : decode cX11_pay 27 = .ok (.invokevirtual 394, 3) := by decide +kernel
theorem dX11_pay_30 : decode cX11_pay 30 = .ok (.ifCond .eq 7, 3) := by decide +kernel
theorem dX11_pay_33 : decode cX11_pay 33 = .ok (.ldc2_w 193, 3) := by decide +kernel
theorem dX11_pay_36 : decode cX11_pay 36 = .ok (.lreturn, 1) := by decide +kernel
theorem dX11_pay_37 : decode cX11_pay 37 = .ok (.aload_n 2, 1) := by decide +kernel
theorem dX11_pay_38 : decode cX11_pay 38 = .ok (.invokestatic 397, 3) := by decide +kernel
theorem dX11_pay_41 : decode cX11_pay 41 = .ok (.istore_n 3, 1) := by decide +kernel
theorem dX11_pay_42 : decode cX11_pay 42 = .ok (.iload_n 3, 1) := by decide +kernel
theorem dX11_pay_43 : decode cX11_pay 43 = .ok (.ifCond .gt 7, 3) := by decide +kernel
theorem dX11_pay_46 : decode cX11_pay 46 = .ok (.ldc2_w 193, 3) := by decide +kernel
theorem dX11_pay_49 : decode cX11_pay 49 = .ok (.lreturn, 1) := by decide +kernel
theorem dX11_pay_50 : decode cX11_pay 50 = .ok (.aload_n 2, 1) := by decide +kernel
theorem dX11_pay_51 : decode cX11_pay 51 = .ok (.getfield 315, 3) := by decide +kernel
theorem dX11_pay_54 : decode cX11_pay 54 = .ok (.getfield 275, 3) := by decide +kernel
theorem dX11_pay_57 : decode cX11_pay 57 = .ok (.aload_n 0, 1) := by decide +kernel
theorem dX11_pay_58 : decode cX11_pay 58 = .ok (.aload_n 2, 1) := by decide +kernel
theorem dX11_pay_59 : decode cX11_pay 59 = .ok (.getfield 315, 3) := by decide +kernel
theorem dX11_pay_62 : decode cX11_pay 62 = .ok (.invokevirtual 285, 3) := by decide +kernel
theorem dX11_pay_65 : decode cX11_pay 65 = .ok (.ladd, 1) := by decide +kernel
theorem dX11_pay_66 : decode cX11_pay 66 = .ok (.lstore 4, 2) := by decide +kernel
theorem dX11_pay_68 : decode cX11_pay 68 = .ok (.lload 4, 2) := by decide +kernel
theorem dX11_pay_70 : decode cX11_pay 70 = .ok (.iload_n 3, 1) := by decide +kernel
theorem dX11_pay_71 : decode cX11_pay 71 = .ok (.i2l, 1) := by decide +kernel
theorem dX11_pay_72 : decode cX11_pay 72 = .ok (.ldiv, 1) := by decide +kernel
theorem dX11_pay_73 : decode cX11_pay 73 = .ok (.lstore 6, 2) := by decide +kernel
theorem dX11_pay_75 : decode cX11_pay 75 = .ok (.aload_n 0, 1) := by decide +kernel
theorem dX11_pay_76 : decode cX11_pay 76 = .ok (.aload_n 2, 1) := by decide +kernel
theorem dX11_pay_77 : decode cX11_pay 77 = .ok (.getfield 315, 3) := by decide +kernel
theorem dX11_pay_80 : decode cX11_pay 80 = .ok (.invokevirtual 289, 3) := by decide +kernel
theorem dX11_pay_83 : decode cX11_pay 83 = .ok (.lload 6, 2) := by decide +kernel
theorem dX11_pay_85 : decode cX11_pay 85 = .ok (.ladd, 1) := by decide +kernel
theorem dX11_pay_86 : decode cX11_pay 86 = .ok (.lload 4, 2) := by decide +kernel
theorem dX11_pay_88 : decode cX11_pay 88 = .ok (.lcmp, 1) := by decide +kernel
theorem dX11_pay_89 : decode cX11_pay 89 = .ok (.ifCond .le 7, 3) := by decide +kernel
theorem dX11_pay_92 : decode cX11_pay 92 = .ok (.ldc2_w 193, 3) := by decide +kernel
theorem dX11_pay_95 : decode cX11_pay 95 = .ok (.lreturn, 1) := by decide +kernel
theorem dX11_pay_96 : decode cX11_pay 96 = .ok (.aload_n 2, 1) := by decide +kernel
theorem dX11_pay_97 : decode cX11_pay 97 = .ok (.iconst 1, 1) := by decide +kernel
theorem dX11_pay_98 : decode cX11_pay 98 = .ok (.putfield 319, 3) := by decide +kernel
theorem dX11_pay_101 : decode cX11_pay 101 = .ok (.aload_n 2, 1) := by decide +kernel
theorem dX11_pay_102 : decode cX11_pay 102 = .ok (.lload 6, 2) := by decide +kernel
theorem dX11_pay_104 : decode cX11_pay 104 = .ok (.putfield 322, 3) := by decide +kernel
theorem dX11_pay_107 : decode cX11_pay 107 = .ok (.aload_n 2, 1) := by decide +kernel
theorem dX11_pay_108 : decode cX11_pay 108 = .ok (.lload 6, 2) := by decide +kernel
theorem dX11_pay_110 : decode cX11_pay 110 = .ok (.aload_n 2, 1) := by decide +kernel
theorem dX11_pay_111 : decode cX11_pay 111 = .ok (.getfield 401, 3) := by decide +kernel
theorem dX11_pay_114 : decode cX11_pay 114 = .ok (.aload_n 0, 1) := by decide +kernel
theorem dX11_pay_115 : decode cX11_pay 115 = .ok (.aload_n 2, 1) := by decide +kernel
theorem dX11_pay_116 : decode cX11_pay 116 = .ok (.getfield 315, 3) := by decide +kernel
theorem dX11_pay_119 : decode cX11_pay 119 = .ok (.getfield 272, 3) := by decide +kernel
theorem dX11_pay_122 : decode cX11_pay 122 = .ok (.invokevirtual 231, 3) := by decide +kernel
theorem dX11_pay_125 : decode cX11_pay 125 = .ok (.getfield 245, 3) := by decide +kernel
theorem dX11_pay_128 : decode cX11_pay 128 = .ok (.invokestatic 306, 3) := by decide +kernel
theorem dX11_pay_131 : decode cX11_pay 131 = .ok (.i2l, 1) := by decide +kernel
theorem dX11_pay_132 : decode cX11_pay 132 = .ok (.lmul, 1) := by decide +kernel
theorem dX11_pay_133 : decode cX11_pay 133 = .ok (.ldc2_w 402, 3) := by decide +kernel
theorem dX11_pay_136 : decode cX11_pay 136 = .ok (.ldiv, 1) := by decide +kernel
theorem dX11_pay_137 : decode cX11_pay 137 = .ok (.putfield 391, 3) := by decide +kernel
theorem dX11_pay_140 : decode cX11_pay 140 = .ok (.lload 6, 2) := by decide +kernel
theorem dX11_pay_142 : decode cX11_pay 142 = .ok (.lreturn, 1) := by decide +kernel
theorem dX11_back_0 : decode cX11_back 0 = .ok (.aload_n 0, 1) := by decide +kernel
theorem dX11_back_1 : decode cX11_back 1 = .ok (.iload_n 1, 1) := by decide +kernel
theorem dX11_back_2 : decode cX11_back 2 = .ok (.invokevirtual 376, 3) := by decide +kernel
theorem dX11_back_5 : decode cX11_back 5 = .ok (.astore_n 2, 1) := by decide +kernel
theorem dX11_back_6 : decode cX11_back 6 = .ok (.aload_n 2, 1) := by decide +kernel
theorem dX11_back_7 : decode cX11_back 7 = .ok (.ifnull 19, 3) := by decide +kernel
theorem dX11_back_10 : decode cX11_back 10 = .ok (.aload_n 2, 1) := by decide +kernel
theorem dX11_back_11 : decode cX11_back 11 = .ok (.getfield 319, 3) := by decide +kernel
theorem dX11_back_14 : decode cX11_back 14 = .ok (.iconst 1, 1) := by decide +kernel
theorem dX11_back_15 : decode cX11_back 15 = .ok (.if_icmp .ne 11, 3) := by decide +kernel
theorem dX11_back_18 : decode cX11_back 18 = .ok (.aload_n 0, 1) := by decide +kernel
theorem dX11_back_19 : decode cX11_back 19 = .ok (.aload_n 2, 1) := by decide +kernel
theorem dX11_back_20 : decode cX11_back 20 = .ok (.invokevirtual 387, 3) := by decide +kernel
theorem dX11_back_23 : decode cX11_back 23 = .ok (.ifCond .eq 7, 3) := by decide +kernel
theorem dX11_back_26 : decode cX11_back 26 = .ok (.ldc2_w 193, 3) := by decide +kernel
theorem dX11_back_29 : decode cX11_back 29 = .ok (.lreturn, 1) := by decide +kernel
theorem dX11_back_30 : decode cX11_back 30 = .ok (.aload_n 2, 1) := by decide +kernel
theorem dX11_back_31 : decode cX11_back 31 = .ok (.iconst 2, 1) := by decide +kernel
theorem dX11_back_32 : decode cX11_back 32 = .ok (.putfield 319, 3) := by decide +kernel
theorem dX11_back_35 : decode cX11_back 35 = .ok (.aload_n 2, 1) := by decide +kernel
theorem dX11_back_36 : decode cX11_back 36 = .ok (.getfield 322, 3) := by decide +kernel
theorem dX11_back_39 : decode cX11_back 39 = .ok (.lreturn, 1) := by decide +kernel
theorem dX11_claimAt_0 : decode cX11_claimAt 0 = .ok (.iload_n 1, 1) := by decide +kernel
theorem dX11_claimAt_1 : decode cX11_claimAt 1 = .ok (.ifCond .lt 14, 3) := by decide +kernel
theorem dX11_claimAt_4 : decode cX11_claimAt 4 = .ok (.iload_n 1, 1) := by decide +kernel
theorem dX11_claimAt_5 : decode cX11_claimAt 5 = .ok (.aload_n 0, 1) := by decide +kernel
theorem dX11_claimAt_6 : decode cX11_claimAt 6 = .ok (.getfield 26, 3) := by decide +kernel
theorem dX11_claimAt_9 : decode cX11_claimAt 9 = .ok (.invokevirtual 87, 3) := by decide +kernel
theorem dX11_claimAt_12 : decode cX11_claimAt 12 = .ok (.if_icmp .lt 7, 3) := by decide +kernel
theorem dX11_claimAt_15 : decode cX11_claimAt 15 = .ok (.aconst_null, 1) := by decide +kernel
theorem dX11_claimAt_16 : decode cX11_claimAt 16 = .ok (.goto 14, 3) := by decide +kernel
theorem dX11_claimAt_19 : decode cX11_claimAt 19 = .ok (.aload_n 0, 1) := by decide +kernel
theorem dX11_claimAt_20 : decode cX11_claimAt 20 = .ok (.getfield 26, 3) := by decide +kernel
theorem dX11_claimAt_23 : decode cX11_claimAt 23 = .ok (.iload_n 1, 1) := by decide +kernel
theorem dX11_claimAt_24 : decode cX11_claimAt 24 = .ok (.invokevirtual 129, 3) := by decide +kernel
theorem dX11_claimAt_27 : decode cX11_claimAt 27 = .ok (.checkcast 313, 3) := by decide +kernel
theorem dX11_claimAt_30 : decode cX11_claimAt 30 = .ok (.areturn, 1) := by decide +kernel
theorem dX11_pointsAsked_0 : decode cX11_pointsAsked 0 = .ok (.aload_n 1, 1) := by decide +kernel
theorem dX11_pointsAsked_1 : decode cX11_pointsAsked 1 = .ok (.getfield 292, 3) := by decide +kernel
theorem dX11_pointsAsked_4 : decode cX11_pointsAsked 4 = .ok (.astore_n 2, 1) := by decide +kernel
theorem dX11_pointsAsked_5 : decode cX11_pointsAsked 5 = .ok (.aload_n 0, 1) := by decide +kernel
theorem dX11_pointsAsked_6 : decode cX11_pointsAsked 6 = .ok (.getfield 61, 3) := by decide +kernel
theorem dX11_pointsAsked_9 : decode cX11_pointsAsked 9 = .ok (.aload_n 1, 1) := by decide +kernel
theorem dX11_pointsAsked_10 : decode cX11_pointsAsked 10 = .ok (.getfield 275, 3) := by decide +kernel
theorem dX11_pointsAsked_13 : decode cX11_pointsAsked 13 = .ok (.ldc2_w 404, 3) := by decide +kernel
theorem dX11_pointsAsked_16 : decode cX11_pointsAsked 16 = .ok (.invokestatic 406, 3) := by decide +kernel
theorem dX11_pointsAsked_19 : decode cX11_pointsAsked 19 = .ok (.l2i, 1) := by decide +kernel
theorem dX11_pointsAsked_20 : decode cX11_pointsAsked 20 = .ok (.putfield 409, 3) := by decide +kernel
theorem dX11_pointsAsked_23 : decode cX11_pointsAsked 23 = .ok (.aload_n 0, 1) := by decide +kernel
theorem dX11_pointsAsked_24 : decode cX11_pointsAsked 24 = .ok (.getfield 61, 3) := by decide +kernel
theorem dX11_pointsAsked_27 : decode cX11_pointsAsked 27 = .ok (.aload_n 0, 1) := by decide +kernel
theorem dX11_pointsAsked_28 : decode cX11_pointsAsked 28 = .ok (.getfield 7, 3) := by decide +kernel
theorem dX11_pointsAsked_31 : decode cX11_pointsAsked 31 = .ok (.aload_n 1, 1) := by decide +kernel
theorem dX11_pointsAsked_32 : decode cX11_pointsAsked 32 = .ok (.getfield 279, 3) := by decide +kernel
theorem dX11_pointsAsked_35 : decode cX11_pointsAsked 35 = .ok (.isub, 1) := by decide +kernel
theorem dX11_pointsAsked_36 : decode cX11_pointsAsked 36 = .ok (.sipush 360, 3) := by decide +kernel
theorem dX11_pointsAsked_39 : decode cX11_pointsAsked 39 = .ok (.idiv, 1) := by decide +kernel
theorem dX11_pointsAsked_40 : decode cX11_pointsAsked 40 = .ok (.putfield 412, 3) := by decide +kernel
theorem dX11_pointsAsked_43 : decode cX11_pointsAsked 43 = .ok (.aload_n 0, 1) := by decide +kernel
theorem dX11_pointsAsked_44 : decode cX11_pointsAsked 44 = .ok (.getfield 61, 3) := by decide +kernel
theorem dX11_pointsAsked_47 : decode cX11_pointsAsked 47 = .ok (.aload_n 1, 1) := by decide +kernel
theorem dX11_pointsAsked_48 : decode cX11_pointsAsked 48 = .ok (.getfield 303, 3) := by decide +kernel
theorem dX11_pointsAsked_51 : decode cX11_pointsAsked 51 = .ok (.putfield 415, 3) := by decide +kernel
theorem dX11_pointsAsked_54 : decode cX11_pointsAsked 54 = .ok (.aload_n 0, 1) := by decide +kernel
theorem dX11_pointsAsked_55 : decode cX11_pointsAsked 55 = .ok (.getfield 61, 3) := by decide +kernel
theorem dX11_pointsAsked_58 : decode cX11_pointsAsked 58 = .ok (.aload_n 2, 1) := by decide +kernel
theorem dX11_pointsAsked_59 : decode cX11_pointsAsked 59 = .ok (.invokevirtual 152, 3) := by decide +kernel
theorem dX11_pointsAsked_62 : decode cX11_pointsAsked 62 = .ok (.ifCond .eq 7, 3) := by decide +kernel
theorem dX11_pointsAsked_65 : decode cX11_pointsAsked 65 = .ok (.iconst 0, 1) := by decide +kernel
theorem dX11_pointsAsked_66 : decode cX11_pointsAsked 66 = .ok (.goto 8, 3) := by decide +kernel
theorem dX11_pointsAsked_69 : decode cX11_pointsAsked 69 = .ok (.aload_n 0, 1) := by decide +kernel
theorem dX11_pointsAsked_70 : decode cX11_pointsAsked 70 = .ok (.aload_n 2, 1) := by decide +kernel
theorem dX11_pointsAsked_71 : decode cX11_pointsAsked 71 = .ok (.invokevirtual 362, 3) := by decide +kernel
theorem dX11_pointsAsked_74 : decode cX11_pointsAsked 74 = .ok (.putfield 416, 3) := by decide +kernel
theorem dX11_pointsAsked_77 : decode cX11_pointsAsked 77 = .ok (.aload_n 0, 1) := by decide +kernel
theorem dX11_pointsAsked_78 : decode cX11_pointsAsked 78 = .ok (.getfield 61, 3) := by decide +kernel
theorem dX11_pointsAsked_81 : decode cX11_pointsAsked 81 = .ok (.aload_n 0, 1) := by decide +kernel
theorem dX11_pointsAsked_82 : decode cX11_pointsAsked 82 = .ok (.aload_n 1, 1) := by decide +kernel
theorem dX11_pointsAsked_83 : decode cX11_pointsAsked 83 = .ok (.getfield 272, 3) := by decide +kernel
theorem dX11_pointsAsked_86 : decode cX11_pointsAsked 86 = .ok (.invokevirtual 231, 3) := by decide +kernel
theorem dX11_pointsAsked_89 : decode cX11_pointsAsked 89 = .ok (.invokevirtual 419, 3) := by decide +kernel
theorem dX11_pointsAsked_92 : decode cX11_pointsAsked 92 = .ok (.ireturn, 1) := by decide +kernel
theorem dX11_partsOf_0 : decode cX11_partsOf 0 = .ok (.aload_n 0, 1) := by decide +kernel
theorem dX11_partsOf_1 : decode cX11_partsOf 1 = .ok (.getfield 315, 3) := by decide +kernel
theorem dX11_partsOf_4 : decode cX11_partsOf 4 = .ok (.getfield 292, 3) := by decide +kernel
theorem dX11_partsOf_7 : decode cX11_partsOf 7 = .ok (.astore_n 1, 1) := by decide +kernel
theorem dX11_partsOf_8 : decode cX11_partsOf 8 = .ok (.aload_n 1, 1) := by decide +kernel
theorem dX11_partsOf_9 : decode cX11_partsOf 9 = .ok (.invokevirtual 152, 3) := by decide +kernel
theorem dX11_partsOf_12 : decode cX11_partsOf 12 = .ok (.ifCond .eq 17, 3) := by decide +kernel
theorem dX11_partsOf_15 : decode cX11_partsOf 15 = .ok (.aload_n 0, 1) := by decide +kernel
theorem dX11_partsOf_16 : decode cX11_partsOf 16 = .ok (.getfield 380, 3) := by decide +kernel
theorem dX11_partsOf_19 : decode cX11_partsOf 19 = .ok (.aload_n 1, 1) := by decide +kernel
theorem dX11_partsOf_20 : decode cX11_partsOf 20 = .ok (.if_acmp .ne 7, 3) := by decide +kernel
theorem dX11_partsOf_23 : decode cX11_partsOf 23 = .ok (.iconst 1, 1) := by decide +kernel
theorem dX11_partsOf_24 : decode cX11_partsOf 24 = .ok (.goto 4, 3) := by decide +kernel
theorem dX11_partsOf_27 : decode cX11_partsOf 27 = .ok (.iconst 0, 1) := by decide +kernel
theorem dX11_partsOf_28 : decode cX11_partsOf 28 = .ok (.ireturn, 1) := by decide +kernel
theorem dX11_partsOf_29 : decode cX11_partsOf 29 = .ok (.aload_n 1, 1) := by decide +kernel
theorem dX11_partsOf_30 : decode cX11_partsOf 30 = .ok (.aload_n 0, 1) := by decide +kernel
theorem dX11_partsOf_31 : decode cX11_partsOf 31 = .ok (.getfield 380, 3) := by decide +kernel
theorem dX11_partsOf_34 : decode cX11_partsOf 34 = .ok (.invokestatic 365, 3) := by decide +kernel
theorem dX11_partsOf_37 : decode cX11_partsOf 37 = .ok (.ireturn, 1) := by decide +kernel
theorem dX11_isGood_0 : decode cX11_isGood 0 = .ok (.aload_n 1, 1) := by decide +kernel
theorem dX11_isGood_1 : decode cX11_isGood 1 = .ok (.invokestatic 397, 3) := by decide +kernel
theorem dX11_isGood_4 : decode cX11_isGood 4 = .ok (.ifCond .le 22, 3) := by decide +kernel
theorem dX11_isGood_7 : decode cX11_isGood 7 = .ok (.aload_n 1, 1) := by decide +kernel
theorem dX11_isGood_8 : decode cX11_isGood 8 = .ok (.getfield 423, 3) := by decide +kernel
theorem dX11_isGood_11 : decode cX11_isGood 11 = .ok (.aload_n 0, 1) := by decide +kernel
theorem dX11_isGood_12 : decode cX11_isGood 12 = .ok (.aload_n 1, 1) := by decide +kernel
theorem dX11_isGood_13 : decode cX11_isGood 13 = .ok (.getfield 315, 3) := by decide +kernel
theorem dX11_isGood_16 : decode cX11_isGood 16 = .ok (.invokevirtual 383, 3) := by decide +kernel
theorem dX11_isGood_19 : decode cX11_isGood 19 = .ok (.if_icmp .lt 7, 3) := by decide +kernel
theorem dX11_isGood_22 : decode cX11_isGood 22 = .ok (.iconst 1, 1) := by decide +kernel
theorem dX11_isGood_23 : decode cX11_isGood 23 = .ok (.goto 4, 3) := by decide +kernel
theorem dX11_isGood_26 : decode cX11_isGood 26 = .ok (.iconst 0, 1) := by decide +kernel
theorem dX11_isGood_27 : decode cX11_isGood 27 = .ok (.ireturn, 1) := by decide +kernel
theorem dX11_wasPaidBefore_0 : decode cX11_wasPaidBefore 0 = .ok (.iconst 0, 1) := by decide +kernel
theorem dX11_wasPaidBefore_1 : decode cX11_wasPaidBefore 1 = .ok (.istore_n 2, 1) := by decide +kernel
theorem dX11_wasPaidBefore_2 : decode cX11_wasPaidBefore 2 = .ok (.iload_n 2, 1) := by decide +kernel
theorem dX11_wasPaidBefore_3 : decode cX11_wasPaidBefore 3 = .ok (.aload_n 0, 1) := by decide +kernel
theorem dX11_wasPaidBefore_4 : decode cX11_wasPaidBefore 4 = .ok (.getfield 26, 3) := by decide +kernel
theorem dX11_wasPaidBefore_7 : decode cX11_wasPaidBefore 7 = .ok (.invokevirtual 87, 3) := by decide +kernel
theorem dX11_wasPaidBefore_10 : decode cX11_wasPaidBefore 10 = .ok (.if_icmp .ge 53, 3) := by decide +kernel
theorem dX11_wasPaidBefore_13 : decode cX11_wasPaidBefore 13 = .ok (.aload_n 0, 1) := by decide +kernel
theorem dX11_wasPaidBefore_14 : decode cX11_wasPaidBefore 14 = .ok (.getfield 26, 3) := by decide +kernel
theorem dX11_wasPaidBefore_17 : decode cX11_wasPaidBefore 17 = .ok (.iload_n 2, 1) := by decide +kernel
theorem dX11_wasPaidBefore_18 : decode cX11_wasPaidBefore 18 = .ok (.invokevirtual 129, 3) := by decide +kernel
theorem dX11_wasPaidBefore_21 : decode cX11_wasPaidBefore 21 = .ok (.checkcast 313, 3) := by decide +kernel
theorem dX11_wasPaidBefore_24 : decode cX11_wasPaidBefore 24 = .ok (.astore_n 3, 1) := by decide +kernel
theorem dX11_wasPaidBefore_25 : decode cX11_wasPaidBefore 25 = .ok (.aload_n 3, 1) := by decide +kernel
theorem dX11_wasPaidBefore_26 : decode cX11_wasPaidBefore 26 = .ok (.getfield 319, 3) := by decide +kernel
theorem dX11_wasPaidBefore_29 : decode cX11_wasPaidBefore 29 = .ok (.iconst 1, 1) := by decide +kernel
theorem dX11_wasPaidBefore_30 : decode cX11_wasPaidBefore 30 = .ok (.if_icmp .ne 27, 3) := by decide +kernel
theorem dX11_wasPaidBefore_33 : decode cX11_wasPaidBefore 33 = .ok (.aload_n 3, 1) := by decide +kernel
theorem dX11_wasPaidBefore_34 : decode cX11_wasPaidBefore 34 = .ok (.getfield 380, 3) := by decide +kernel
theorem dX11_wasPaidBefore_37 : decode cX11_wasPaidBefore 37 = .ok (.aload_n 1, 1) := by decide +kernel
theorem dX11_wasPaidBefore_38 : decode cX11_wasPaidBefore 38 = .ok (.getfield 380, 3) := by decide +kernel
theorem dX11_wasPaidBefore_41 : decode cX11_wasPaidBefore 41 = .ok (.if_acmp .ne 16, 3) := by decide +kernel
theorem dX11_wasPaidBefore_44 : decode cX11_wasPaidBefore 44 = .ok (.aload_n 3, 1) := by decide +kernel
theorem dX11_wasPaidBefore_45 : decode cX11_wasPaidBefore 45 = .ok (.getfield 315, 3) := by decide +kernel
theorem dX11_wasPaidBefore_48 : decode cX11_wasPaidBefore 48 = .ok (.aload_n 1, 1) := by decide +kernel
theorem dX11_wasPaidBefore_49 : decode cX11_wasPaidBefore 49 = .ok (.getfield 315, 3) := by decide +kernel
theorem dX11_wasPaidBefore_52 : decode cX11_wasPaidBefore 52 = .ok (.if_acmp .ne 5, 3) := by decide +kernel
theorem dX11_wasPaidBefore_55 : decode cX11_wasPaidBefore 55 = .ok (.iconst 1, 1) := by decide +kernel
theorem dX11_wasPaidBefore_56 : decode cX11_wasPaidBefore 56 = .ok (.ireturn, 1) := by decide +kernel
theorem dX11_wasPaidBefore_57 : decode cX11_wasPaidBefore 57 = .ok (.iinc 2 1, 3) := by decide +kernel
theorem dX11_wasPaidBefore_60 : decode cX11_wasPaidBefore 60 = .ok (.goto (-58), 3) := by decide +kernel
theorem dX11_wasPaidBefore_63 : decode cX11_wasPaidBefore 63 = .ok (.iconst 0, 1) := by decide +kernel
theorem dX11_wasPaidBefore_64 : decode cX11_wasPaidBefore 64 = .ok (.ireturn, 1) := by decide +kernel
theorem dX11_figure_0 : decode cX11_figure 0 = .ok (.aload_n 0, 1) := by decide +kernel
theorem dX11_figure_1 : decode cX11_figure 1 = .ok (.iload_n 1, 1) := by decide +kernel
theorem dX11_figure_2 : decode cX11_figure 2 = .ok (.invokevirtual 103, 3) := by decide +kernel
theorem dX11_figure_5 : decode cX11_figure 5 = .ok (.astore 4, 2) := by decide +kernel
theorem dX11_figure_7 : decode cX11_figure 7 = .ok (.iload_n 3, 1) := by decide +kernel
theorem dX11_figure_8 : decode cX11_figure 8 = .ok (.iconst (-1), 1) := by decide +kernel
theorem dX11_figure_9 : decode cX11_figure 9 = .ok (.if_icmp .eq 13, 3) := by decide +kernel
theorem dX11_figure_12 : decode cX11_figure 12 = .ok (.iload_n 3, 1) := by decide +kernel
theorem dX11_figure_13 : decode cX11_figure 13 = .ok (.ldc_w 426, 3) := by decide +kernel
theorem dX11_figure_16 : decode cX11_figure 16 = .ok (.invokestatic 83, 3) := by decide +kernel
theorem dX11_figure_19 : decode cX11_figure 19 = .ok (.ifCond .eq 7, 3) := by decide +kernel
theorem dX11_figure_22 : decode cX11_figure 22 = .ok (.iconst 1, 1) := by decide +kernel
theorem dX11_figure_23 : decode cX11_figure 23 = .ok (.goto 4, 3) := by decide +kernel
theorem dX11_figure_26 : decode cX11_figure 26 = .ok (.iconst 0, 1) := by decide +kernel
theorem dX11_figure_27 : decode cX11_figure 27 = .ok (.istore 5, 2) := by decide +kernel
theorem dX11_figure_29 : decode cX11_figure 29 = .ok (.aload 4, 2) := by decide +kernel
theorem dX11_figure_31 : decode cX11_figure 31 = .ok (.ifnull 22, 3) := by decide +kernel
theorem dX11_figure_34 : decode cX11_figure 34 = .ok (.iload 5, 2) := by decide +kernel
theorem dX11_figure_36 : decode cX11_figure 36 = .ok (.ifCond .eq 17, 3) := by decide +kernel
theorem dX11_figure_39 : decode cX11_figure 39 = .ok (.aload 4, 2) := by decide +kernel
theorem dX11_figure_41 : decode cX11_figure 41 = .ok (.iload_n 2, 1) := by decide +kernel
theorem dX11_figure_42 : decode cX11_figure 42 = .ok (.iload_n 3, 1) := by decide +kernel
theorem dX11_figure_43 : decode cX11_figure 43 = .ok (.invokevirtual 427, 3) := by decide +kernel
theorem dX11_figure_46 : decode cX11_figure 46 = .ok (.ifCond .eq 7, 3) := by decide +kernel
theorem dX11_figure_49 : decode cX11_figure 49 = .ok (.iconst 1, 1) := by decide +kernel
theorem dX11_figure_50 : decode cX11_figure 50 = .ok (.goto 4, 3) := by decide +kernel
theorem dX11_figure_53 : decode cX11_figure 53 = .ok (.iconst 0, 1) := by decide +kernel
theorem dX11_figure_54 : decode cX11_figure 54 = .ok (.ireturn, 1) := by decide +kernel
theorem dX11_costs_0 : decode cX11_costs 0 = .ok (.iload_n 1, 1) := by decide +kernel
theorem dX11_costs_1 : decode cX11_costs 1 = .ok (.aload_n 0, 1) := by decide +kernel
theorem dX11_costs_2 : decode cX11_costs 2 = .ok (.getfield 72, 3) := by decide +kernel
theorem dX11_costs_5 : decode cX11_costs 5 = .ok (.arraylength, 1) := by decide +kernel
theorem dX11_costs_6 : decode cX11_costs 6 = .ok (.invokestatic 83, 3) := by decide +kernel
theorem dX11_costs_9 : decode cX11_costs 9 = .ok (.ifCond .eq 14, 3) := by decide +kernel
theorem dX11_costs_12 : decode cX11_costs 12 = .ok (.iload_n 2, 1) := by decide +kernel
theorem dX11_costs_13 : decode cX11_costs 13 = .ok (.iconst 1, 1) := by decide +kernel
theorem dX11_costs_14 : decode cX11_costs 14 = .ok (.if_icmp .lt 9, 3) := by decide +kernel
theorem dX11_costs_17 : decode cX11_costs 17 = .ok (.iload_n 2, 1) := by decide +kernel
theorem dX11_costs_18 : decode cX11_costs 18 = .ok (.bipush 99, 2) := by decide +kernel
theorem dX11_costs_20 : decode cX11_costs 20 = .ok (.if_icmp .le 5, 3) := by decide +kernel
theorem dX11_costs_23 : decode cX11_costs 23 = .ok (.iconst 0, 1) := by decide +kernel
theorem dX11_costs_24 : decode cX11_costs 24 = .ok (.ireturn, 1) := by decide +kernel
theorem dX11_costs_25 : decode cX11_costs 25 = .ok (.aload_n 0, 1) := by decide +kernel
theorem dX11_costs_26 : decode cX11_costs 26 = .ok (.getfield 72, 3) := by decide +kernel
theorem dX11_costs_29 : decode cX11_costs 29 = .ok (.iload_n 1, 1) := by decide +kernel
theorem dX11_costs_30 : decode cX11_costs 30 = .ok (.iload_n 2, 1) := by decide +kernel
theorem dX11_costs_31 : decode cX11_costs 31 = .ok (.iastore, 1) := by decide +kernel
theorem dX11_costs_32 : decode cX11_costs 32 = .ok (.iconst 1, 1) := by decide +kernel
theorem dX11_costs_33 : decode cX11_costs 33 = .ok (.ireturn, 1) := by decide +kernel
theorem dX11_audit_0 : decode cX11_audit 0 = .ok (.aload_n 0, 1) := by decide +kernel
theorem dX11_audit_1 : decode cX11_audit 1 = .ok (.iload_n 1, 1) := by decide +kernel
theorem dX11_audit_2 : decode cX11_audit 2 = .ok (.invokevirtual 103, 3) := by decide +kernel
theorem dX11_audit_5 : decode cX11_audit 5 = .ok (.astore_n 3, 1) := by decide +kernel
theorem dX11_audit_6 : decode cX11_audit 6 = .ok (.aload_n 3, 1) := by decide +kernel
theorem dX11_audit_7 : decode cX11_audit 7 = .ok (.ifnonnull 5, 3) := by decide +kernel
theorem dX11_audit_10 : decode cX11_audit 10 = .ok (.iconst (-1), 1) := by decide +kernel
theorem dX11_audit_11 : decode cX11_audit 11 = .ok (.ireturn, 1) := by decide +kernel
theorem dX11_audit_12 : decode cX11_audit 12 = .ok (.iload_n 2, 1) := by decide +kernel
theorem dX11_audit_13 : decode cX11_audit 13 = .ok (.ifCond .eq 8, 3) := by decide +kernel
theorem dX11_audit_16 : decode cX11_audit 16 = .ok (.iload_n 2, 1) := by decide +kernel
theorem dX11_audit_17 : decode cX11_audit 17 = .ok (.iconst 1, 1) := by decide +kernel
theorem dX11_audit_18 : decode cX11_audit 18 = .ok (.if_icmp .ne 18, 3) := by decide +kernel
theorem dX11_audit_21 : decode cX11_audit 21 = .ok (.aload_n 3, 1) := by decide +kernel
theorem dX11_audit_22 : decode cX11_audit 22 = .ok (.iload_n 2, 1) := by decide +kernel
theorem dX11_audit_23 : decode cX11_audit 23 = .ok (.iconst 1, 1) := by decide +kernel
theorem dX11_audit_24 : decode cX11_audit 24 = .ok (.if_icmp .ne 7, 3) := by decide +kernel
theorem dX11_audit_27 : decode cX11_audit 27 = .ok (.iconst 1, 1) := by decide +kernel
theorem dX11_audit_28 : decode cX11_audit 28 = .ok (.goto 4, 3) := by decide +kernel
theorem dX11_audit_31 : decode cX11_audit 31 = .ok (.iconst 0, 1) := by decide +kernel
theorem dX11_audit_32 : decode cX11_audit 32 = .ok (.invokestatic 430, 3) := by decide +kernel
theorem dX11_audit_35 : decode cX11_audit 35 = .ok (.ireturn, 1) := by decide +kernel
theorem dX11_audit_36 : decode cX11_audit 36 = .ok (.iload_n 2, 1) := by decide +kernel
theorem dX11_audit_37 : decode cX11_audit 37 = .ok (.bipush 10, 2) := by decide +kernel
theorem dX11_audit_39 : decode cX11_audit 39 = .ok (.if_icmp .lt 18, 3) := by decide +kernel
theorem dX11_audit_42 : decode cX11_audit 42 = .ok (.iload_n 2, 1) := by decide +kernel
theorem dX11_audit_43 : decode cX11_audit 43 = .ok (.bipush 30, 2) := by decide +kernel
theorem dX11_audit_45 : decode cX11_audit 45 = .ok (.if_icmp .ge 12, 3) := by decide +kernel
theorem dX11_audit_48 : decode cX11_audit 48 = .ok (.aload_n 3, 1) := by decide +kernel
theorem dX11_audit_49 : decode cX11_audit 49 = .ok (.iload_n 2, 1) := by decide +kernel
theorem dX11_audit_50 : decode cX11_audit 50 = .ok (.bipush 10, 2) := by decide +kernel
theorem dX11_audit_52 : decode cX11_audit 52 = .ok (.isub, 1) := by decide +kernel
theorem dX11_audit_53 : decode cX11_audit 53 = .ok (.invokevirtual 434, 3) := by decide +kernel
theorem dX11_audit_56 : decode cX11_audit 56 = .ok (.ireturn, 1) := by decide +kernel
theorem dX11_audit_57 : decode cX11_audit 57 = .ok (.iload_n 2, 1) := by decide +kernel
theorem dX11_audit_58 : decode cX11_audit 58 = .ok (.bipush 40, 2) := by decide +kernel
theorem dX11_audit_60 : decode cX11_audit 60 = .ok (.if_icmp .lt 18, 3) := by decide +kernel
theorem dX11_audit_63 : decode cX11_audit 63 = .ok (.iload_n 2, 1) := by decide +kernel
theorem dX11_audit_64 : decode cX11_audit 64 = .ok (.bipush 60, 2) := by decide +kernel
theorem dX11_audit_66 : decode cX11_audit 66 = .ok (.if_icmp .ge 12, 3) := by decide +kernel
theorem dX11_audit_69 : decode cX11_audit 69 = .ok (.aload_n 3, 1) := by decide +kernel
theorem dX11_audit_70 : decode cX11_audit 70 = .ok (.iload_n 2, 1) := by decide +kernel
theorem dX11_audit_71 : decode cX11_audit 71 = .ok (.bipush 40, 2) := by decide +kernel
theorem dX11_audit_73 : decode cX11_audit 73 = .ok (.isub, 1) := by decide +kernel
theorem dX11_audit_74 : decode cX11_audit 74 = .ok (.invokevirtual 437, 3) := by decide +kernel
theorem dX11_audit_77 : decode cX11_audit 77 = .ok (.ireturn, 1) := by decide +kernel
theorem dX11_audit_78 : decode cX11_audit 78 = .ok (.iconst (-1), 1) := by decide +kernel
theorem dX11_audit_79 : decode cX11_audit 79 = .ok (.ireturn, 1) := by decide +kernel
theorem dX11_looks_0 : decode cX11_looks 0 = .ok (.aload_n 0, 1) := by decide +kernel
theorem dX11_looks_1 : decode cX11_looks 1 = .ok (.iload_n 1, 1) := by decide +kernel
theorem dX11_looks_2 : decode cX11_looks 2 = .ok (.invokevirtual 103, 3) := by decide +kernel
theorem dX11_looks_5 : decode cX11_looks 5 = .ok (.astore 5, 2) := by decide +kernel
theorem dX11_looks_7 : decode cX11_looks 7 = .ok (.aload 5, 2) := by decide +kernel
theorem dX11_looks_9 : decode cX11_looks 9 = .ok (.ifnull 22, 3) := by decide +kernel
theorem dX11_looks_12 : decode cX11_looks 12 = .ok (.iload_n 2, 1) := by decide +kernel
theorem dX11_looks_13 : decode cX11_looks 13 = .ok (.bipush 21, 2) := by decide +kernel
theorem dX11_looks_15 : decode cX11_looks 15 = .ok (.invokestatic 83, 3) := by decide +kernel
theorem dX11_looks_18 : decode cX11_looks 18 = .ok (.ifCond .eq 13, 3) := by decide +kernel
theorem dX11_looks_21 : decode cX11_looks 21 = .ok (.iload_n 3, 1) := by decide +kernel
theorem dX11_looks_22 : decode cX11_looks 22 = .ok (.sipush 1000, 3) := by decide +kernel
theorem dX11_looks_25 : decode cX11_looks 25 = .ok (.invokestatic 83, 3) := by decide +kernel
theorem dX11_looks_28 : decode cX11_looks 28 = .ok (.ifCond .ne 5, 3) := by decide +kernel
theorem dX11_looks_31 : decode cX11_looks 31 = .ok (.iconst (-1), 1) := by decide +kernel
theorem dX11_looks_32 : decode cX11_looks 32 = .ok (.ireturn, 1) := by decide +kernel
theorem dX11_looks_33 : decode cX11_looks 33 = .ok (.aload_n 0, 1) := by decide +kernel
theorem dX11_looks_34 : decode cX11_looks 34 = .ok (.getfield 79, 3) := by decide +kernel
theorem dX11_looks_37 : decode cX11_looks 37 = .ok (.aload 5, 2) := by decide +kernel
theorem dX11_looks_39 : decode cX11_looks 39 = .ok (.aload_n 0, 1) := by decide +kernel
theorem dX11_looks_40 : decode cX11_looks 40 = .ok (.getfield 72, 3) := by decide +kernel
theorem dX11_looks_43 : decode cX11_looks 43 = .ok (.iload_n 2, 1) := by decide +kernel
theorem dX11_looks_44 : decode cX11_looks 44 = .ok (.iload_n 3, 1) := by decide +kernel
theorem dX11_looks_45 : decode cX11_looks 45 = .ok (.invokevirtual 440, 3) := by decide +kernel
theorem dX11_looks_48 : decode cX11_looks 48 = .ok (.iload 4, 2) := by decide +kernel
theorem dX11_looks_50 : decode cX11_looks 50 = .ok (.tableswitch 50 0 2 #[26, 34, 42], 26) := by decide +kernel
theorem dX11_looks_76 : decode cX11_looks 76 = .ok (.aload_n 0, 1) := by decide +kernel
theorem dX11_looks_77 : decode cX11_looks 77 = .ok (.getfield 79, 3) := by decide +kernel
theorem dX11_looks_80 : decode cX11_looks 80 = .ok (.invokevirtual 444, 3) := by decide +kernel
theorem dX11_looks_83 : decode cX11_looks 83 = .ok (.ireturn, 1) := by decide +kernel
theorem dX11_looks_84 : decode cX11_looks 84 = .ok (.aload_n 0, 1) := by decide +kernel
theorem dX11_looks_85 : decode cX11_looks 85 = .ok (.getfield 79, 3) := by decide +kernel
theorem dX11_looks_88 : decode cX11_looks 88 = .ok (.invokevirtual 447, 3) := by decide +kernel
theorem dX11_looks_91 : decode cX11_looks 91 = .ok (.ireturn, 1) := by decide +kernel
theorem dX11_looks_92 : decode cX11_looks 92 = .ok (.aload_n 0, 1) := by decide +kernel
theorem dX11_looks_93 : decode cX11_looks 93 = .ok (.getfield 79, 3) := by decide +kernel
theorem dX11_looks_96 : decode cX11_looks 96 = .ok (.invokevirtual 450, 3) := by decide +kernel
theorem dX11_looks_99 : decode cX11_looks 99 = .ok (.ireturn, 1) := by decide +kernel
theorem dX11_looks_100 : decode cX11_looks 100 = .ok (.iconst (-1), 1) := by decide +kernel
theorem dX11_looks_101 : decode cX11_looks 101 = .ok (.ireturn, 1) := by decide +kernel
theorem dX11_spanEnd_0 : decode cX11_spanEnd 0 = .ok (.iconst 0, 1) := by decide +kernel
theorem dX11_spanEnd_1 : decode cX11_spanEnd 1 = .ok (.istore_n 2, 1) := by decide +kernel
theorem dX11_spanEnd_2 : decode cX11_spanEnd 2 = .ok (.iconst 0, 1) := by decide +kernel
theorem dX11_spanEnd_3 : decode cX11_spanEnd 3 = .ok (.istore_n 3, 1) := by decide +kernel
theorem dX11_spanEnd_4 : decode cX11_spanEnd 4 = .ok (.iload_n 3, 1) := by decide +kernel
theorem dX11_spanEnd_5 : decode cX11_spanEnd 5 = .ok (.bipush 20, 2) := by decide +kernel
theorem dX11_spanEnd_7 : decode cX11_spanEnd 7 = .ok (.if_icmp .ge 29, 3) := by decide +kernel
theorem dX11_spanEnd_10 : decode cX11_spanEnd 10 = .ok (.iload_n 2, 1) := by decide +kernel
theorem dX11_spanEnd_11 : decode cX11_spanEnd 11 = .ok (.iload_n 1, 1) := by decide +kernel
theorem dX11_spanEnd_12 : decode cX11_spanEnd 12 = .ok (.ifCond .eq 11, 3) := by decide +kernel
theorem dX11_spanEnd_15 : decode cX11_spanEnd 15 = .ok (.aload_n 0, 1) := by decide +kernel
theorem dX11_spanEnd_16 : decode cX11_spanEnd 16 = .ok (.iload_n 3, 1) := by decide +kernel
theorem dX11_spanEnd_17 : decode cX11_spanEnd 17 = .ok (.invokevirtual 437, 3) := by decide +kernel
theorem dX11_spanEnd_20 : decode cX11_spanEnd 20 = .ok (.goto 8, 3) := by decide +kernel
theorem dX11_spanEnd_23 : decode cX11_spanEnd 23 = .ok (.aload_n 0, 1) := by decide +kernel
theorem dX11_spanEnd_24 : decode cX11_spanEnd 24 = .ok (.iload_n 3, 1) := by decide +kernel
theorem dX11_spanEnd_25 : decode cX11_spanEnd 25 = .ok (.invokevirtual 434, 3) := by decide +kernel
theorem dX11_spanEnd_28 : decode cX11_spanEnd 28 = .ok (.iadd, 1) := by decide +kernel
theorem dX11_spanEnd_29 : decode cX11_spanEnd 29 = .ok (.istore_n 2, 1) := by decide +kernel
theorem dX11_spanEnd_30 : decode cX11_spanEnd 30 = .ok (.iinc 3 1, 3) := by decide +kernel
theorem dX11_spanEnd_33 : decode cX11_spanEnd 33 = .ok (.goto (-29), 3) := by decide +kernel
theorem dX11_spanEnd_36 : decode cX11_spanEnd 36 = .ok (.iload_n 2, 1) := by decide +kernel
theorem dX11_spanEnd_37 : decode cX11_spanEnd 37 = .ok (.ireturn, 1) := by decide +kernel
theorem dX11_look_0 : decode cX11_look 0 = .ok (.iload_n 1, 1) := by decide +kernel
theorem dX11_look_1 : decode cX11_look 1 = .ok (.tableswitch 115 0 8 #[51, 57, 66, 75, 84, 90, 96, 101, 106], 51) := by decide +kernel
theorem dX11_look_52 : decode cX11_look 52 = .ok (.aload_n 0, 1) := by decide +kernel
theorem dX11_look_53 : decode cX11_look 53 = .ok (.getfield 7, 3) := by decide +kernel
theorem dX11_look_56 : decode cX11_look 56 = .ok (.i2l, 1) := by decide +kernel
theorem dX11_look_57 : decode cX11_look 57 = .ok (.lreturn, 1) := by decide +kernel
theorem dX11_look_58 : decode cX11_look 58 = .ok (.aload_n 0, 1) := by decide +kernel
theorem dX11_look_59 : decode cX11_look 59 = .ok (.getfield 16, 3) := by decide +kernel
theorem dX11_look_62 : decode cX11_look 62 = .ok (.invokevirtual 87, 3) := by decide +kernel
theorem dX11_look_65 : decode cX11_look 65 = .ok (.i2l, 1) := by decide +kernel
theorem dX11_look_66 : decode cX11_look 66 = .ok (.lreturn, 1) := by decide +kernel
theorem dX11_look_67 : decode cX11_look 67 = .ok (.aload_n 0, 1) := by decide +kernel
theorem dX11_look_68 : decode cX11_look 68 = .ok (.getfield 20, 3) := by decide +kernel
theorem dX11_look_71 : decode cX11_look 71 = .ok (.invokevirtual 87, 3) := by decide +kernel
theorem dX11_look_74 : decode cX11_look 74 = .ok (.i2l, 1) := by decide +kernel
theorem dX11_look_75 : decode cX11_look 75 = .ok (.lreturn, 1) := by decide +kernel
theorem dX11_look_76 : decode cX11_look 76 = .ok (.aload_n 0, 1) := by decide +kernel
theorem dX11_look_77 : decode cX11_look 77 = .ok (.getfield 23, 3) := by decide +kernel
theorem dX11_look_80 : decode cX11_look 80 = .ok (.invokevirtual 87, 3) := by decide +kernel
theorem dX11_look_83 : decode cX11_look 83 = .ok (.i2l, 1) := by decide +kernel
theorem dX11_look_84 : decode cX11_look 84 = .ok (.lreturn, 1) := by decide +kernel
theorem dX11_look_85 : decode cX11_look 85 = .ok (.aload_n 0, 1) := by decide +kernel
theorem dX11_look_86 : decode cX11_look 86 = .ok (.getfield 29, 3) := by decide +kernel
theorem dX11_look_89 : decode cX11_look 89 = .ok (.i2l, 1) := by decide +kernel
theorem dX11_look_90 : decode cX11_look 90 = .ok (.lreturn, 1) := by decide +kernel
theorem dX11_look_91 : decode cX11_look 91 = .ok (.aload_n 0, 1) := by decide +kernel
theorem dX11_look_92 : decode cX11_look 92 = .ok (.invokevirtual 453, 3) := by decide +kernel
theorem dX11_look_95 : decode cX11_look 95 = .ok (.i2l, 1) := by decide +kernel
theorem dX11_look_96 : decode cX11_look 96 = .ok (.lreturn, 1) := by decide +kernel
theorem dX11_look_97 : decode cX11_look 97 = .ok (.aload_n 0, 1) := by decide +kernel
theorem dX11_look_98 : decode cX11_look 98 = .ok (.invokevirtual 456, 3) := by decide +kernel
theorem dX11_look_101 : decode cX11_look 101 = .ok (.lreturn, 1) := by decide +kernel
theorem dX11_look_102 : decode cX11_look 102 = .ok (.aload_n 0, 1) := by decide +kernel
theorem dX11_look_103 : decode cX11_look 103 = .ok (.invokevirtual 460, 3) := by decide +kernel
theorem dX11_look_106 : decode cX11_look 106 = .ok (.lreturn, 1) := by decide +kernel
theorem dX11_look_107 : decode cX11_look 107 = .ok (.aload_n 0, 1) := by decide +kernel
theorem dX11_look_108 : decode cX11_look 108 = .ok (.getfield 26, 3) := by decide +kernel
theorem dX11_look_111 : decode cX11_look 111 = .ok (.invokevirtual 87, 3) := by decide +kernel
theorem dX11_look_114 : decode cX11_look 114 = .ok (.i2l, 1) := by decide +kernel
theorem dX11_look_115 : decode cX11_look 115 = .ok (.lreturn, 1) := by decide +kernel
theorem dX11_look_116 : decode cX11_look 116 = .ok (.ldc2_w 193, 3) := by decide +kernel
theorem dX11_look_119 : decode cX11_look 119 = .ok (.lreturn, 1) := by decide +kernel
theorem dX11_countHeld_0 : decode cX11_countHeld 0 = .ok (.iconst 0, 1) := by decide +kernel
theorem dX11_countHeld_1 : decode cX11_countHeld 1 = .ok (.istore_n 1, 1) := by decide +kernel
theorem dX11_countHeld_2 : decode cX11_countHeld 2 = .ok (.iconst 0, 1) := by decide +kernel
theorem dX11_countHeld_3 : decode cX11_countHeld 3 = .ok (.istore_n 2, 1) := by decide +kernel
theorem dX11_countHeld_4 : decode cX11_countHeld 4 = .ok (.iload_n 2, 1) := by decide +kernel
theorem dX11_countHeld_5 : decode cX11_countHeld 5 = .ok (.aload_n 0, 1) := by decide +kernel
theorem dX11_countHeld_6 : decode cX11_countHeld 6 = .ok (.getfield 23, 3) := by decide +kernel
theorem dX11_countHeld_9 : decode cX11_countHeld 9 = .ok (.invokevirtual 87, 3) := by decide +kernel
theorem dX11_countHeld_12 : decode cX11_countHeld 12 = .ok (.if_icmp .ge 29, 3) := by decide +kernel
theorem dX11_countHeld_15 : decode cX11_countHeld 15 = .ok (.aload_n 0, 1) := by decide +kernel
theorem dX11_countHeld_16 : decode cX11_countHeld 16 = .ok (.getfield 23, 3) := by decide +kernel
theorem dX11_countHeld_19 : decode cX11_countHeld 19 = .ok (.iload_n 2, 1) := by decide +kernel
theorem dX11_countHeld_20 : decode cX11_countHeld 20 = .ok (.invokevirtual 129, 3) := by decide +kernel
theorem dX11_countHeld_23 : decode cX11_countHeld 23 = .ok (.checkcast 162, 3) := by decide +kernel
theorem dX11_countHeld_26 : decode cX11_countHeld 26 = .ok (.invokevirtual 262, 3) := by decide +kernel
theorem dX11_countHeld_29 : decode cX11_countHeld 29 = .ok (.ifCond .eq 6, 3) := by decide +kernel
theorem dX11_countHeld_32 : decode cX11_countHeld 32 = .ok (.iinc 1 1, 3) := by decide +kernel
theorem dX11_countHeld_35 : decode cX11_countHeld 35 = .ok (.iinc 2 1, 3) := by decide +kernel
theorem dX11_countHeld_38 : decode cX11_countHeld 38 = .ok (.goto (-34), 3) := by decide +kernel
theorem dX11_countHeld_41 : decode cX11_countHeld 41 = .ok (.iload_n 1, 1) := by decide +kernel
theorem dX11_countHeld_42 : decode cX11_countHeld 42 = .ok (.ireturn, 1) := by decide +kernel
theorem dX11_sumHeld_0 : decode cX11_sumHeld 0 = .ok (.lconst 0, 1) := by decide +kernel
theorem dX11_sumHeld_1 : decode cX11_sumHeld 1 = .ok (.lstore_n 1, 1) := by decide +kernel
theorem dX11_sumHeld_2 : decode cX11_sumHeld 2 = .ok (.iconst 0, 1) := by decide +kernel
theorem dX11_sumHeld_3 : decode cX11_sumHeld 3 = .ok (.istore_n 3, 1) := by decide +kernel
theorem dX11_sumHeld_4 : decode cX11_sumHeld 4 = .ok (.iload_n 3, 1) := by decide +kernel
theorem dX11_sumHeld_5 : decode cX11_sumHeld 5 = .ok (.aload_n 0, 1) := by decide +kernel
theorem dX11_sumHeld_6 : decode cX11_sumHeld 6 = .ok (.getfield 23, 3) := by decide +kernel
theorem dX11_sumHeld_9 : decode cX11_sumHeld 9 = .ok (.invokevirtual 87, 3) := by decide +kernel
theorem dX11_sumHeld_12 : decode cX11_sumHeld 12 = .ok (.if_icmp .ge 26, 3) := by decide +kernel
theorem dX11_sumHeld_15 : decode cX11_sumHeld 15 = .ok (.lload_n 1, 1) := by decide +kernel
theorem dX11_sumHeld_16 : decode cX11_sumHeld 16 = .ok (.aload_n 0, 1) := by decide +kernel
theorem dX11_sumHeld_17 : decode cX11_sumHeld 17 = .ok (.getfield 23, 3) := by decide +kernel
theorem dX11_sumHeld_20 : decode cX11_sumHeld 20 = .ok (.iload_n 3, 1) := by decide +kernel
theorem dX11_sumHeld_21 : decode cX11_sumHeld 21 = .ok (.invokevirtual 129, 3) := by decide +kernel
theorem dX11_sumHeld_24 : decode cX11_sumHeld 24 = .ok (.checkcast 162, 3) := by decide +kernel
theorem dX11_sumHeld_27 : decode cX11_sumHeld 27 = .ok (.getfield 275, 3) := by decide +kernel
theorem dX11_sumHeld_30 : decode cX11_sumHeld 30 = .ok (.ladd, 1) := by decide +kernel
theorem dX11_sumHeld_31 : decode cX11_sumHeld 31 = .ok (.lstore_n 1, 1) := by decide +kernel
theorem dX11_sumHeld_32 : decode cX11_sumHeld 32 = .ok (.iinc 3 1, 3) := by decide +kernel
theorem dX11_sumHeld_35 : decode cX11_sumHeld 35 = .ok (.goto (-31), 3) := by decide +kernel
theorem dX11_sumHeld_38 : decode cX11_sumHeld 38 = .ok (.lload_n 1, 1) := by decide +kernel
theorem dX11_sumHeld_39 : decode cX11_sumHeld 39 = .ok (.lreturn, 1) := by decide +kernel
theorem dX11_sumPaid_0 : decode cX11_sumPaid 0 = .ok (.lconst 0, 1) := by decide +kernel
theorem dX11_sumPaid_1 : decode cX11_sumPaid 1 = .ok (.lstore_n 1, 1) := by decide +kernel
theorem dX11_sumPaid_2 : decode cX11_sumPaid 2 = .ok (.iconst 0, 1) := by decide +kernel
theorem dX11_sumPaid_3 : decode cX11_sumPaid 3 = .ok (.istore_n 3, 1) := by decide +kernel
theorem dX11_sumPaid_4 : decode cX11_sumPaid 4 = .ok (.iload_n 3, 1) := by decide +kernel
theorem dX11_sumPaid_5 : decode cX11_sumPaid 5 = .ok (.aload_n 0, 1) := by decide +kernel
theorem dX11_sumPaid_6 : decode cX11_sumPaid 6 = .ok (.getfield 23, 3) := by decide +kernel
theorem dX11_sumPaid_9 : decode cX11_sumPaid 9 = .ok (.invokevirtual 87, 3) := by decide +kernel
theorem dX11_sumPaid_12 : decode cX11_sumPaid 12 = .ok (.if_icmp .ge 27, 3) := by decide +kernel
theorem dX11_sumPaid_15 : decode cX11_sumPaid 15 = .ok (.lload_n 1, 1) := by decide +kernel
theorem dX11_sumPaid_16 : decode cX11_sumPaid 16 = .ok (.aload_n 0, 1) := by decide +kernel
theorem dX11_sumPaid_17 : decode cX11_sumPaid 17 = .ok (.aload_n 0, 1) := by decide +kernel
theorem dX11_sumPaid_18 : decode cX11_sumPaid 18 = .ok (.getfield 23, 3) := by decide +kernel
theorem dX11_sumPaid_21 : decode cX11_sumPaid 21 = .ok (.iload_n 3, 1) := by decide +kernel
theorem dX11_sumPaid_22 : decode cX11_sumPaid 22 = .ok (.invokevirtual 129, 3) := by decide +kernel
theorem dX11_sumPaid_25 : decode cX11_sumPaid 25 = .ok (.checkcast 162, 3) := by decide +kernel
theorem dX11_sumPaid_28 : decode cX11_sumPaid 28 = .ok (.invokevirtual 289, 3) := by decide +kernel
theorem dX11_sumPaid_31 : decode cX11_sumPaid 31 = .ok (.ladd, 1) := by decide +kernel
theorem dX11_sumPaid_32 : decode cX11_sumPaid 32 = .ok (.lstore_n 1, 1) := by decide +kernel
theorem dX11_sumPaid_33 : decode cX11_sumPaid 33 = .ok (.iinc 3 1, 3) := by decide +kernel
theorem dX11_sumPaid_36 : decode cX11_sumPaid 36 = .ok (.goto (-32), 3) := by decide +kernel
theorem dX11_sumPaid_39 : decode cX11_sumPaid 39 = .ok (.lload_n 1, 1) := by decide +kernel
theorem dX11_sumPaid_40 : decode cX11_sumPaid 40 = .ok (.lreturn, 1) := by decide +kernel
theorem dX11_isWithin_0 : decode cX11_isWithin 0 = .ok (.iload_n 0, 1) := by decide +kernel
theorem dX11_isWithin_1 : decode cX11_isWithin 1 = .ok (.ifCond .lt 12, 3) := by decide +kernel
theorem dX11_isWithin_4 : decode cX11_isWithin 4 = .ok (.iload_n 0, 1) := by decide +kernel
theorem dX11_isWithin_5 : decode cX11_isWithin 5 = .ok (.iload_n 1, 1) := by decide +kernel
theorem dX11_isWithin_6 : decode cX11_isWithin 6 = .ok (.if_icmp .ge 7, 3) := by decide +kernel
theorem dX11_isWithin_9 : decode cX11_isWithin 9 = .ok (.iconst 1, 1) := by decide +kernel
theorem dX11_isWithin_10 : decode cX11_isWithin 10 = .ok (.goto 4, 3) := by decide +kernel
theorem dX11_isWithin_13 : decode cX11_isWithin 13 = .ok (.iconst 0, 1) := by decide +kernel
theorem dX11_isWithin_14 : decode cX11_isWithin 14 = .ok (.ireturn, 1) := by decide +kernel
theorem dX11_isPast_0 : decode cX11_isPast 0 = .ok (.iload_n 1, 1) := by decide +kernel
theorem dX11_isPast_1 : decode cX11_isPast 1 = .ok (.ifCond .lt 15, 3) := by decide +kernel
theorem dX11_isPast_4 : decode cX11_isPast 4 = .ok (.iload_n 1, 1) := by decide +kernel
theorem dX11_isPast_5 : decode cX11_isPast 5 = .ok (.aload_n 0, 1) := by decide +kernel
theorem dX11_isPast_6 : decode cX11_isPast 6 = .ok (.getfield 7, 3) := by decide +kernel
theorem dX11_isPast_9 : decode cX11_isPast 9 = .ok (.if_icmp .gt 7, 3) := by decide +kernel
theorem dX11_isPast_12 : decode cX11_isPast 12 = .ok (.iconst 1, 1) := by decide +kernel
theorem dX11_isPast_13 : decode cX11_isPast 13 = .ok (.goto 4, 3) := by decide +kernel
theorem dX11_isPast_16 : decode cX11_isPast 16 = .ok (.iconst 0, 1) := by decide +kernel
theorem dX11_isPast_17 : decode cX11_isPast 17 = .ok (.ireturn, 1) := by decide +kernel
theorem dX11_isHome_0 : decode cX11_isHome 0 = .ok (.iload_n 0, 1) := by decide +kernel
theorem dX11_isHome_1 : decode cX11_isHome 1 = .ok (.iconst (-1), 1) := by decide +kernel
theorem dX11_isHome_2 : decode cX11_isHome 2 = .ok (.if_icmp .eq 11, 3) := by decide +kernel
theorem dX11_isHome_5 : decode cX11_isHome 5 = .ok (.iload_n 0, 1) := by decide +kernel
theorem dX11_isHome_6 : decode cX11_isHome 6 = .ok (.iconst 4, 1) := by decide +kernel
theorem dX11_isHome_7 : decode cX11_isHome 7 = .ok (.invokestatic 83, 3) := by decide +kernel
theorem dX11_isHome_10 : decode cX11_isHome 10 = .ok (.ifCond .eq 7, 3) := by decide +kernel
theorem dX11_isHome_13 : decode cX11_isHome 13 = .ok (.iconst 1, 1) := by decide +kernel
theorem dX11_isHome_14 : decode cX11_isHome 14 = .ok (.goto 4, 3) := by decide +kernel
theorem dX11_isHome_17 : decode cX11_isHome 17 = .ok (.iconst 0, 1) := by decide +kernel
theorem dX11_isHome_18 : decode cX11_isHome 18 = .ok (.ireturn, 1) := by decide +kernel
theorem dX12_init_0 : decode cX12_init 0 = .ok (.aload_n 0, 1) := by decide +kernel
theorem dX12_init_1 : decode cX12_init 1 = .ok (.invokespecial 1, 3) := by decide +kernel
theorem dX12_init_4 : decode cX12_init 4 = .ok (.aload_n 0, 1) := by decide +kernel
theorem dX12_init_5 : decode cX12_init 5 = .ok (.bipush 8, 2) := by decide +kernel
theorem dX12_init_7 : decode cX12_init 7 = .ok (.newarray .int, 2) := by decide +kernel
theorem dX12_init_9 : decode cX12_init 9 = .ok (.putfield 7, 3) := by decide +kernel
theorem dX12_init_12 : decode cX12_init 12 = .ok (.aload_n 0, 1) := by decide +kernel
theorem dX12_init_13 : decode cX12_init 13 = .ok (.bipush 8, 2) := by decide +kernel
theorem dX12_init_15 : decode cX12_init 15 = .ok (.newarray .int, 2) := by decide +kernel
theorem dX12_init_17 : decode cX12_init 17 = .ok (.putfield 13, 3) := by decide +kernel
theorem dX12_init_20 : decode cX12_init 20 = .ok (.aload_n 0, 1) := by decide +kernel
theorem dX12_init_21 : decode cX12_init 21 = .ok (.bipush 8, 2) := by decide +kernel
theorem dX12_init_23 : decode cX12_init 23 = .ok (.newarray .int, 2) := by decide +kernel
theorem dX12_init_25 : decode cX12_init 25 = .ok (.putfield 16, 3) := by decide +kernel
theorem dX12_init_28 : decode cX12_init 28 = .ok (.aload_n 0, 1) := by decide +kernel
theorem dX12_init_29 : decode cX12_init 29 = .ok (.bipush 24, 2) := by decide +kernel
theorem dX12_init_31 : decode cX12_init 31 = .ok (.newarray .int, 2) := by decide +kernel
theorem dX12_init_33 : decode cX12_init 33 = .ok (.putfield 19, 3) := by decide +kernel
theorem dX12_init_36 : decode cX12_init 36 = .ok (.aload_n 0, 1) := by decide +kernel
theorem dX12_init_37 : decode cX12_init 37 = .ok (.bipush 24, 2) := by decide +kernel
theorem dX12_init_39 : decode cX12_init 39 = .ok (.newarray .int, 2) := by decide +kernel
theorem dX12_init_41 : decode cX12_init 41 = .ok (.putfield 22, 3) := by decide +kernel
theorem dX12_init_44 : decode cX12_init 44 = .ok (.aload_n 0, 1) := by decide +kernel
theorem dX12_init_45 : decode cX12_init 45 = .ok (.bipush 24, 2) := by decide +kernel
theorem dX12_init_47 : decode cX12_init 47 = .ok (.newarray .int, 2) := by decide +kernel
theorem dX12_init_49 : decode cX12_init 49 = .ok (.putfield 25, 3) := by decide +kernel
theorem dX12_init_52 : decode cX12_init 52 = .ok (.aload_n 0, 1) := by decide +kernel
theorem dX12_init_53 : decode cX12_init 53 = .ok (.bipush 24, 2) := by decide +kernel
theorem dX12_init_55 : decode cX12_init 55 = .ok (.newarray .int, 2) := by decide +kernel
theorem dX12_init_57 : decode cX12_init 57 = .ok (.putfield 28, 3) := by decide +kernel
theorem dX12_init_60 : decode cX12_init 60 = .ok (.aload_n 0, 1) := by decide +kernel
theorem dX12_init_61 : decode cX12_init 61 = .ok (.bipush 24, 2) := by decide +kernel
theorem dX12_init_63 : decode cX12_init 63 = .ok (.newarray .int, 2) := by decide +kernel
theorem dX12_init_65 : decode cX12_init 65 = .ok (.putfield 31, 3) := by decide +kernel
theorem dX12_init_68 : decode cX12_init 68 = .ok (.aload_n 0, 1) := by decide +kernel
theorem dX12_init_69 : decode cX12_init 69 = .ok (.bipush 24, 2) := by decide +kernel
theorem dX12_init_71 : decode cX12_init 71 = .ok (.newarray .int, 2) := by decide +kernel
theorem dX12_init_73 : decode cX12_init 73 = .ok (.putfield 34, 3) := by decide +kernel
theorem dX12_init_76 : decode cX12_init 76 = .ok (.aload_n 0, 1) := by decide +kernel
theorem dX12_init_77 : decode cX12_init 77 = .ok (.bipush 40, 2) := by decide +kernel
theorem dX12_init_79 : decode cX12_init 79 = .ok (.newarray .int, 2) := by decide +kernel
theorem dX12_init_81 : decode cX12_init 81 = .ok (.putfield 37, 3) := by decide +kernel
theorem dX12_init_84 : decode cX12_init 84 = .ok (.aload_n 0, 1) := by decide +kernel
theorem dX12_init_85 : decode cX12_init 85 = .ok (.bipush 40, 2) := by decide +kernel
theorem dX12_init_87 : decode cX12_init 87 = .ok (.newarray .int, 2) := by decide +kernel
theorem dX12_init_89 : decode cX12_init 89 = .ok (.putfield 40, 3) := by decide +kernel
theorem dX12_init_92 : decode cX12_init 92 = .ok (.aload_n 0, 1) := by decide +kernel
theorem dX12_init_93 : decode cX12_init 93 = .ok (.bipush 40, 2) := by decide +kernel
theorem dX12_init_95 : decode cX12_init 95 = .ok (.newarray .int, 2) := by decide +kernel
theorem dX12_init_97 : decode cX12_init 97 = .ok (.putfield 43, 3) := by decide +kernel
theorem dX12_init_100 : decode cX12_init 100 = .ok (.aload_n 0, 1) := by decide +kernel
theorem dX12_init_101 : decode cX12_init 101 = .ok (.bipush 40, 2) := by decide +kernel
theorem dX12_init_103 : decode cX12_init 103 = .ok (.newarray .int, 2) := by decide +kernel
theorem dX12_init_105 : decode cX12_init 105 = .ok (.putfield 46, 3) := by decide +kernel
theorem dX12_init_108 : decode cX12_init 108 = .ok (.aload_n 0, 1) := by decide +kernel
theorem dX12_init_109 : decode cX12_init 109 = .ok (.sipush 600, 3) := by decide +kernel
theorem dX12_init_112 : decode cX12_init 112 = .ok (.newarray .int, 2) := by decide +kernel
theorem dX12_init_114 : decode cX12_init 114 = .ok (.putfield 49, 3) := by decide +kernel
theorem dX12_init_117 : decode cX12_init 117 = .ok (.aload_n 0, 1) := by decide +kernel
theorem dX12_init_118 : decode cX12_init 118 = .ok (.sipush 600, 3) := by decide +kernel
theorem dX12_init_121 : decode cX12_init 121 = .ok (.newarray .int, 2) := by decide +kernel
theorem dX12_init_123 : decode cX12_init 123 = .ok (.putfield 52, 3) := by decide +kernel
theorem dX12_init_126 : decode cX12_init 126 = .ok (.aload_n 0, 1) := by decide +kernel
theorem dX12_init_127 : decode cX12_init 127 = .ok (.sipush 600, 3) := by decide +kernel
theorem dX12_init_130 : decode cX12_init 130 = .ok (.newarray .int, 2) := by decide +kernel
theorem dX12_init_132 : decode cX12_init 132 = .ok (.putfield 55, 3) := by decide +kernel
theorem dX12_init_135 : decode cX12_init 135 = .ok (.aload_n 0, 1) := by decide +kernel
theorem dX12_init_136 : decode cX12_init 136 = .ok (.sipush 600, 3) := by decide +kernel
theorem dX12_init_139 : decode cX12_init 139 = .ok (.newarray .int, 2) := by decide +kernel
theorem dX12_init_141 : decode cX12_init 141 = .ok (.putfield 58, 3) := by decide +kernel
theorem dX12_init_144 : decode cX12_init 144 = .ok (.aload_n 0, 1) := by decide +kernel
theorem dX12_init_145 : decode cX12_init 145 = .ok (.sipush 600, 3) := by decide +kernel
theorem dX12_init_148 : decode cX12_init 148 = .ok (.newarray .int, 2) := by decide +kernel
theorem dX12_init_150 : decode cX12_init 150 = .ok (.putfield 61, 3) := by decide +kernel
theorem dX12_init_153 : decode cX12_init 153 = .ok (.aload_n 0, 1) := by decide +kernel
theorem dX12_init_154 : decode cX12_init 154 = .ok (.sipush 600, 3) := by decide +kernel
theorem dX12_init_157 : decode cX12_init 157 = .ok (.newarray .int, 2) := by decide +kernel
theorem dX12_init_159 : decode cX12_init 159 = .ok (.putfield 64, 3) := by decide +kernel
theorem dX12_init_162 : decode cX12_init 162 = .ok (.aload_n 0, 1) := by decide +kernel
theorem dX12_init_163 : decode cX12_init 163 = .ok (.bipush 16, 2) := by decide +kernel
theorem dX12_init_165 : decode cX12_init 165 = .ok (.newarray .int, 2) := by decide +kernel
theorem dX12_init_167 : decode cX12_init 167 = .ok (.putfield 67, 3) := by decide +kernel
theorem dX12_init_170 : decode cX12_init 170 = .ok (.aload_n 0, 1) := by decide +kernel
theorem dX12_init_171 : decode cX12_init 171 = .ok (.iconst 4, 1) := by decide +kernel
theorem dX12_init_172 : decode cX12_init 172 = .ok (.newarray .int, 2) := by decide +kernel
theorem dX12_init_174 : decode cX12_init 174 = .ok (.putfield 70, 3) := by decide +kernel
theorem dX12_init_177 : decode cX12_init 177 = .ok (.aload_n 0, 1) := by decide +kernel
theorem dX12_init_178 : decode cX12_init 178 = .ok (.iconst 4, 1) := by decide +kernel
theorem dX12_init_179 : decode cX12_init 179 = .ok (.newarray .int, 2) := by decide +kernel
theorem dX12_init_181 : decode cX12_init 181 = .ok (.putfield 73, 3) := by decide +kernel
theorem dX12_init_184 : decode cX12_init 184 = .ok (.aload_n 0, 1) := by decide +kernel
theorem dX12_init_185 : decode cX12_init 185 = .ok (.iconst 4, 1) := by decide +kernel
theorem dX12_init_186 : decode cX12_init 186 = .ok (.newarray .int, 2) := by decide +kernel
theorem dX12_init_188 : decode cX12_init 188 = .ok (.putfield 76, 3) := by decide +kernel
theorem dX12_init_191 : decode cX12_init 191 = .ok (.aload_n 0, 1) := by decide +kernel
theorem dX12_init_192 : decode cX12_init 192 = .ok (.iconst 4, 1) := by decide +kernel
theorem dX12_init_193 : decode cX12_init 193 = .ok (.newarray .int, 2) := by decide +kernel
theorem dX12_init_195 : decode cX12_init 195 = .ok (.putfield 79, 3) := by decide +kernel
theorem dX12_init_198 : decode cX12_init 198 = .ok (.aload_n 0, 1) := by decide +kernel
theorem dX12_init_199 : decode cX12_init 199 = .ok (.iconst 4, 1) := by decide +kernel
theorem dX12_init_200 : decode cX12_init 200 = .ok (.newarray .int, 2) := by decide +kernel
theorem dX12_init_202 : decode cX12_init 202 = .ok (.putfield 82, 3) := by decide +kernel
theorem dX12_init_205 : decode cX12_init 205 = .ok (.aload_n 0, 1) := by decide +kernel
theorem dX12_init_206 : decode cX12_init 206 = .ok (.iconst 4, 1) := by decide +kernel
theorem dX12_init_207 : decode cX12_init 207 = .ok (.newarray .int, 2) := by decide +kernel
theorem dX12_init_209 : decode cX12_init 209 = .ok (.putfield 85, 3) := by decide +kernel
theorem dX12_init_212 : decode cX12_init 212 = .ok (.aload_n 0, 1) := by decide +kernel
theorem dX12_init_213 : decode cX12_init 213 = .ok (.bipush 100, 2) := by decide +kernel
theorem dX12_init_215 : decode cX12_init 215 = .ok (.newarray .int, 2) := by decide +kernel
theorem dX12_init_217 : decode cX12_init 217 = .ok (.putfield 88, 3) := by decide +kernel
theorem dX12_init_220 : decode cX12_init 220 = .ok (.aload_n 0, 1) := by decide +kernel
theorem dX12_init_221 : decode cX12_init 221 = .ok (.bipush 96, 2) := by decide +kernel
theorem dX12_init_223 : decode cX12_init 223 = .ok (.newarray .int, 2) := by decide +kernel
theorem dX12_init_225 : decode cX12_init 225 = .ok (.putfield 91, 3) := by decide +kernel
theorem dX12_init_228 : decode cX12_init 228 = .ok (.aload_n 0, 1) := by decide +kernel
theorem dX12_init_229 : decode cX12_init 229 = .ok (.sipush 4880, 3) := by decide +kernel
theorem dX12_init_232 : decode cX12_init 232 = .ok (.newarray .int, 2) := by decide +kernel
theorem dX12_init_234 : decode cX12_init 234 = .ok (.putfield 94, 3) := by decide +kernel
theorem dX12_init_237 : decode cX12_init 237 = .ok (.aload_n 0, 1) := by decide +kernel
theorem dX12_init_238 : decode cX12_init 238 = .ok (.bipush 24, 2) := by decide +kernel
theorem dX12_init_240 : decode cX12_init 240 = .ok (.newarray .int, 2) := by decide +kernel
theorem dX12_init_242 : decode cX12_init 242 = .ok (.putfield 97, 3) := by decide +kernel
theorem dX12_init_245 : decode cX12_init 245 = .ok (.aload_n 0, 1) := by decide +kernel
theorem dX12_init_246 : decode cX12_init 246 = .ok (.bipush 24, 2) := by decide +kernel
theorem dX12_init_248 : decode cX12_init 248 = .ok (.newarray .int, 2) := by decide +kernel
theorem dX12_init_250 : decode cX12_init 250 = .ok (.putfield 100, 3) := by decide +kernel
theorem dX12_init_253 : decode cX12_init 253 = .ok (.aload_n 0, 1) := by decide +kernel
theorem dX12_init_254 : decode cX12_init 254 = .ok (.bipush 24, 2) := by decide +kernel
theorem dX12_init_256 : decode cX12_init 256 = .ok (.newarray .int, 2) := by decide +kernel
theorem dX12_init_258 : decode cX12_init 258 = .ok (.putfield 103, 3) := by decide +kernel
theorem dX12_init_261 : decode cX12_init 261 = .ok (.aload_n 0, 1) := by decide +kernel
theorem dX12_init_262 : decode cX12_init 262 = .ok (.bipush 25, 2) := by decide +kernel
theorem dX12_init_264 : decode cX12_init 264 = .ok (.newarray .int, 2) := by decide +kernel
theorem dX12_init_266 : decode cX12_init 266 = .ok (.putfield 106, 3) := by decide +kernel
theorem dX12_init_269 : decode cX12_init 269 = .ok (.aload_n 0, 1) := by decide +kernel
theorem dX12_init_270 : decode cX12_init 270 = .ok (.bipush 24, 2) := by decide +kernel
theorem dX12_init_272 : decode cX12_init 272 = .ok (.newarray .int, 2) := by decide +kernel
theorem dX12_init_274 : decode cX12_init 274 = .ok (.putfield 109, 3) := by decide +kernel
theorem dX12_init_277 : decode cX12_init 277 = .ok (.aload_n 0, 1) := by decide +kernel
theorem dX12_init_278 : decode cX12_init 278 = .ok (.sipush 1220, 3) := by decide +kernel
theorem dX12_init_281 : decode cX12_init 281 = .ok (.newarray .int, 2) := by decide +kernel
theorem dX12_init_283 : decode cX12_init 283 = .ok (.putfield 112, 3) := by decide +kernel
theorem dX12_init_286 : decode cX12_init 286 = .ok (.aload_n 0, 1) := by decide +kernel
theorem dX12_init_287 : decode cX12_init 287 = .ok (.sipush 600, 3) := by decide +kernel
theorem dX12_init_290 : decode cX12_init 290 = .ok (.newarray .int, 2) := by decide +kernel
theorem dX12_init_292 : decode cX12_init 292 = .ok (.putfield 115, 3) := by decide +kernel
theorem dX12_init_295 : decode cX12_init 295 = .ok (.aload_n 0, 1) := by decide +kernel
theorem dX12_init_296 : decode cX12_init 296 = .ok (.sipush 620, 3) := by decide +kernel
theorem dX12_init_299 : decode cX12_init 299 = .ok (.newarray .int, 2) := by decide +kernel
theorem dX12_init_301 : decode cX12_init 301 = .ok (.putfield 118, 3) := by decide +kernel
theorem dX12_init_304 : decode cX12_init 304 = .ok (.aload_n 0, 1) := by decide +kernel
theorem dX12_init_305 : decode cX12_init 305 = .ok (.iconst (-1), 1) := by decide +kernel
theorem dX12_init_306 : decode cX12_init 306 = .ok (.putfield 121, 3) := by decide +kernel
theorem dX12_init_309 : decode cX12_init 309 = .ok (.aload_n 0, 1) := by decide +kernel
theorem dX12_init_310 : decode cX12_init 310 = .ok (.iconst 5, 1) := by decide +kernel
theorem dX12_init_311 : decode cX12_init 311 = .ok (.newarray .int, 2) := by decide +kernel
theorem dX12_init_313 : decode cX12_init 313 = .ok (.putfield 125, 3) := by decide +kernel
theorem dX12_init_316 : decode cX12_init 316 = .ok (.aload_n 0, 1) := by decide +kernel
theorem dX12_init_317 : decode cX12_init 317 = .ok (.bipush 40, 2) := by decide +kernel
theorem dX12_init_319 : decode cX12_init 319 = .ok (.newarray .int, 2) := by decide +kernel
theorem dX12_init_321 : decode cX12_init 321 = .ok (.putfield 128, 3) := by decide +kernel
theorem dX12_init_324 : decode cX12_init 324 = .ok (.aload_n 0, 1) := by decide +kernel
theorem dX12_init_325 : decode cX12_init 325 = .ok (.bipush 40, 2) := by decide +kernel
theorem dX12_init_327 : decode cX12_init 327 = .ok (.newarray .int, 2) := by decide +kernel
theorem dX12_init_329 : decode cX12_init 329 = .ok (.putfield 131, 3) := by decide +kernel
theorem dX12_init_332 : decode cX12_init 332 = .ok (.aload_n 0, 1) := by decide +kernel
theorem dX12_init_333 : decode cX12_init 333 = .ok (.bipush 40, 2) := by decide +kernel
theorem dX12_init_335 : decode cX12_init 335 = .ok (.newarray .int, 2) := by decide +kernel
theorem dX12_init_337 : decode cX12_init 337 = .ok (.putfield 134, 3) := by decide +kernel
theorem dX12_init_340 : decode cX12_init 340 = .ok (.aload_n 0, 1) := by decide +kernel
theorem dX12_init_341 : decode cX12_init 341 = .ok (.bipush 40, 2) := by decide +kernel
theorem dX12_init_343 : decode cX12_init 343 = .ok (.newarray .long, 2) := by decide +kernel
theorem dX12_init_345 : decode cX12_init 345 = .ok (.putfield 137, 3) := by decide +kernel
theorem dX12_init_348 : decode cX12_init 348 = .ok (.aload_n 0, 1) := by decide +kernel
theorem dX12_init_349 : decode cX12_init 349 = .ok (.bipush 8, 2) := by decide +kernel
theorem dX12_init_351 : decode cX12_init 351 = .ok (.newarray .int, 2) := by decide +kernel
theorem dX12_init_353 : decode cX12_init 353 = .ok (.putfield 141, 3) := by decide +kernel
theorem dX12_init_356 : decode cX12_init 356 = .ok (.aload_n 0, 1) := by decide +kernel
theorem dX12_init_357 : decode cX12_init 357 = .ok (.bipush 8, 2) := by decide +kernel
theorem dX12_init_359 : decode cX12_init 359 = .ok (.newarray .int, 2) := by decide +kernel
theorem dX12_init_361 : decode cX12_init 361 = .ok (.putfield 144, 3) := by decide +kernel
theorem dX12_init_364 : decode cX12_init 364 = .ok (.aload_n 0, 1) := by decide +kernel
theorem dX12_init_365 : decode cX12_init 365 = .ok (.bipush 64, 2) := by decide +kernel
theorem dX12_init_367 : decode cX12_init 367 = .ok (.newarray .int, 2) := by decide +kernel
theorem dX12_init_369 : decode cX12_init 369 = .ok (.putfield 147, 3) := by decide +kernel
theorem dX12_init_372 : decode cX12_init 372 = .ok (.aload_n 0, 1) := by decide +kernel
theorem dX12_init_373 : decode cX12_init 373 = .ok (.bipush 24, 2) := by decide +kernel
theorem dX12_init_375 : decode cX12_init 375 = .ok (.newarray .boolean, 2) := by decide +kernel
theorem dX12_init_377 : decode cX12_init 377 = .ok (.putfield 150, 3) := by decide +kernel
theorem dX12_init_380 : decode cX12_init 380 = .ok (.aload_n 0, 1) := by decide +kernel
theorem dX12_init_381 : decode cX12_init 381 = .ok (.bipush 24, 2) := by decide +kernel
theorem dX12_init_383 : decode cX12_init 383 = .ok (.newarray .long, 2) := by decide +kernel
theorem dX12_init_385 : decode cX12_init 385 = .ok (.putfield 154, 3) := by decide +kernel
theorem dX12_init_388 : decode cX12_init 388 = .ok (.aload_n 0, 1) := by decide +kernel
theorem dX12_init_389 : decode cX12_init 389 = .ok (.bipush 24, 2) := by decide +kernel
theorem dX12_init_391 : decode cX12_init 391 = .ok (.newarray .long, 2) := by decide +kernel
theorem dX12_init_393 : decode cX12_init 393 = .ok (.putfield 157, 3) := by decide +kernel
theorem dX12_init_396 : decode cX12_init 396 = .ok (.aload_n 0, 1) := by decide +kernel
theorem dX12_init_397 : decode cX12_init 397 = .ok (.bipush 60, 2) := by decide +kernel
theorem dX12_init_399 : decode cX12_init 399 = .ok (.newarray .int, 2) := by decide +kernel
theorem dX12_init_401 : decode cX12_init 401 = .ok (.putfield 160, 3) := by decide +kernel
theorem dX12_init_404 : decode cX12_init 404 = .ok (.aload_n 0, 1) := by decide +kernel
theorem dX12_init_405 : decode cX12_init 405 = .ok (.bipush 60, 2) := by decide +kernel
theorem dX12_init_407 : decode cX12_init 407 = .ok (.newarray .int, 2) := by decide +kernel
theorem dX12_init_409 : decode cX12_init 409 = .ok (.putfield 163, 3) := by decide +kernel
theorem dX12_init_412 : decode cX12_init 412 = .ok (.aload_n 0, 1) := by decide +kernel
theorem dX12_init_413 : decode cX12_init 413 = .ok (.bipush 60, 2) := by decide +kernel
theorem dX12_init_415 : decode cX12_init 415 = .ok (.newarray .int, 2) := by decide +kernel
theorem dX12_init_417 : decode cX12_init 417 = .ok (.putfield 166, 3) := by decide +kernel
theorem dX12_init_420 : decode cX12_init 420 = .ok (.aload_n 0, 1) := by decide +kernel
theorem dX12_init_421 : decode cX12_init 421 = .ok (.bipush 60, 2) := by decide +kernel
theorem dX12_init_423 : decode cX12_init 423 = .ok (.newarray .int, 2) := by decide +kernel
theorem dX12_init_425 : decode cX12_init 425 = .ok (.putfield 169, 3) := by decide +kernel
theorem dX12_init_428 : decode cX12_init 428 = .ok (.aload_n 0, 1) := by decide +kernel
theorem dX12_init_429 : decode cX12_init 429 = .ok (.bipush 60, 2) := by decide +kernel
theorem dX12_init_431 : decode cX12_init 431 = .ok (.newarray .int, 2) := by decide +kernel
theorem dX12_init_433 : decode cX12_init 433 = .ok (.putfield 172, 3) := by decide +kernel
theorem dX12_init_436 : decode cX12_init 436 = .ok (.aload_n 0, 1) := by decide +kernel
theorem dX12_init_437 : decode cX12_init 437 = .ok (.bipush 60, 2) := by decide +kernel
theorem dX12_init_439 : decode cX12_init 439 = .ok (.newarray .long, 2) := by decide +kernel
theorem dX12_init_441 : decode cX12_init 441 = .ok (.putfield 175, 3) := by decide +kernel
theorem dX12_init_444 : decode cX12_init 444 = .ok (.aload_n 0, 1) := by decide +kernel
theorem dX12_init_445 : decode cX12_init 445 = .ok (.bipush 60, 2) := by decide +kernel
theorem dX12_init_447 : decode cX12_init 447 = .ok (.newarray .long, 2) := by decide +kernel
theorem dX12_init_449 : decode cX12_init 449 = .ok (.putfield 178, 3) := by decide +kernel
theorem dX12_init_452 : decode cX12_init 452 = .ok (.aload_n 0, 1) := by decide +kernel
theorem dX12_init_453 : decode cX12_init 453 = .ok (.sipush 160, 3) := by decide +kernel
theorem dX12_init_456 : decode cX12_init 456 = .ok (.newarray .int, 2) := by decide +kernel
theorem dX12_init_458 : decode cX12_init 458 = .ok (.putfield 181, 3) := by decide +kernel
theorem dX12_init_461 : decode cX12_init 461 = .ok (.aload_n 0, 1) := by decide +kernel
theorem dX12_init_462 : decode cX12_init 462 = .ok (.bipush 20, 2) := by decide +kernel
theorem dX12_init_464 : decode cX12_init 464 = .ok (.newarray .int, 2) := by decide +kernel
theorem dX12_init_466 : decode cX12_init 466 = .ok (.putfield 184, 3) := by decide +kernel
theorem dX12_init_469 : decode cX12_init 469 = .ok (.aload_n 0, 1) := by decide +kernel
theorem dX12_init_470 : decode cX12_init 470 = .ok (.sipush 21000, 3) := by decide +kernel
theorem dX12_init_473 : decode cX12_init 473 = .ok (.newarray .int, 2) := by decide +kernel
theorem dX12_init_475 : decode cX12_init 475 = .ok (.putfield 187, 3) := by decide +kernel
theorem dX12_init_478 : decode cX12_init 478 = .ok (.aload_n 0, 1) := by decide +kernel
theorem dX12_init_479 : decode cX12_init 479 = .ok (.sipush 21000, 3) := by decide +kernel
theorem dX12_init_482 : decode cX12_init 482 = .ok (.newarray .int, 2) := by decide +kernel
theorem dX12_init_484 : decode cX12_init 484 = .ok (.putfield 190, 3) := by decide +kernel
theorem dX12_init_487 : decode cX12_init 487 = .ok (.iconst 0, 1) := by decide +kernel
theorem dX12_init_488 : decode cX12_init 488 = .ok (.istore_n 1, 1) := by decide +kernel
theorem dX12_init_489 : decode cX12_init 489 = .ok (.iload_n 1, 1) := by decide +kernel
theorem dX12_init_490 : decode cX12_init 490 = .ok (.iconst 4, 1) := by decide +kernel
theorem dX12_init_491 : decode cX12_init 491 = .ok (.if_icmp .ge 14, 3) := by decide +kernel
theorem dX12_init_494 : decode cX12_init 494 = .ok (.aload_n 0, 1) := by decide +kernel
theorem dX12_init_495 : decode cX12_init 495 = .ok (.iload_n 1, 1) := by decide +kernel
theorem dX12_init_496 : decode cX12_init 496 = .ok (.invokevirtual 193, 3) := by decide +kernel
theorem dX12_init_499 : decode cX12_init 499 = .ok (.iinc 1 1, 3) := by decide +kernel
theorem dX12_init_502 : decode cX12_init 502 = .ok (.goto (-13), 3) := by decide +kernel
theorem dX12_init_505 : decode cX12_init 505 = .ok (.iconst 0, 1) := by decide +kernel
theorem dX12_init_506 : decode cX12_init 506 = .ok (.istore_n 1, 1) := by decide +kernel
theorem dX12_init_507 : decode cX12_init 507 = .ok (.iload_n 1, 1) := by decide +kernel
theorem dX12_init_508 : decode cX12_init 508 = .ok (.bipush 20, 2) := by decide +kernel
theorem dX12_init_510 : decode cX12_init 510 = .ok (.if_icmp .ge 16, 3) := by decide +kernel
theorem dX12_init_513 : decode cX12_init 513 = .ok (.aload_n 0, 1) := by decide +kernel
theorem dX12_init_514 : decode cX12_init 514 = .ok (.getfield 184, 3) := by decide +kernel
theorem dX12_init_517 : decode cX12_init 517 = .ok (.iload_n 1, 1) := by decide +kernel
theorem dX12_init_518 : decode cX12_init 518 = .ok (.iconst 1, 1) := by decide +kernel
theorem dX12_init_519 : decode cX12_init 519 = .ok (.iastore, 1) := by decide +kernel
theorem dX12_init_520 : decode cX12_init 520 = .ok (.iinc 1 1, 3) := by decide +kernel
theorem dX12_init_523 : decode cX12_init 523 = .ok (.goto (-16), 3) := by decide +kernel
theorem dX12_init_526 : decode cX12_init 526 = .ok (.iconst 0, 1) := by decide +kernel
theorem dX12_init_527 : decode cX12_init 527 = .ok (.istore_n 1, 1) := by decide +kernel
theorem dX12_init_528 : decode cX12_init 528 = .ok (.iload_n 1, 1) := by decide +kernel
theorem dX12_init_529 : decode cX12_init 529 = .ok (.sipush 160, 3) := by decide +kernel
theorem dX12_init_532 : decode cX12_init 532 = .ok (.if_icmp .ge 16, 3) := by decide +kernel
theorem dX12_init_535 : decode cX12_init 535 = .ok (.aload_n 0, 1) := by decide +kernel
theorem dX12_init_536 : decode cX12_init 536 = .ok (.getfield 181, 3) := by decide +kernel
theorem dX12_init_539 : decode cX12_init 539 = .ok (.iload_n 1, 1) := by decide +kernel
theorem dX12_init_540 : decode cX12_init 540 = .ok (.iconst (-1), 1) := by decide +kernel
theorem dX12_init_541 : decode cX12_init 541 = .ok (.iastore, 1) := by decide +kernel
theorem dX12_init_542 : decode cX12_init 542 = .ok (.iinc 1 1, 3) := by decide +kernel
theorem dX12_init_545 : decode cX12_init 545 = .ok (.goto (-17), 3) := by decide +kernel
theorem dX12_init_548 : decode cX12_init 548 = .ok (.return_, 1) := by decide +kernel
theorem dX12_isIn_0 : decode cX12_isIn 0 = .ok (.iload_n 0, 1) := by decide +kernel
theorem dX12_isIn_1 : decode cX12_isIn 1 = .ok (.iload_n 1, 1) := by decide +kernel
theorem dX12_isIn_2 : decode cX12_isIn 2 = .ok (.if_icmp .lt 12, 3) := by decide +kernel
theorem dX12_isIn_5 : decode cX12_isIn 5 = .ok (.iload_n 0, 1) := by decide +kernel
theorem dX12_isIn_6 : decode cX12_isIn 6 = .ok (.iload_n 2, 1) := by decide +kernel
theorem dX12_isIn_7 : decode cX12_isIn 7 = .ok (.if_icmp .gt 7, 3) := by decide +kernel
theorem dX12_isIn_10 : decode cX12_isIn 10 = .ok (.iconst 1, 1) := by decide +kernel
theorem dX12_isIn_11 : decode cX12_isIn 11 = .ok (.goto 4, 3) := by decide +kernel
theorem dX12_isIn_14 : decode cX12_isIn 14 = .ok (.iconst 0, 1) := by decide +kernel
theorem dX12_isIn_15 : decode cX12_isIn 15 = .ok (.ireturn, 1) := by decide +kernel
theorem dX12_isPast_0 : decode cX12_isPast 0 = .ok (.iload_n 1, 1) := by decide +kernel
theorem dX12_isPast_1 : decode cX12_isPast 1 = .ok (.iconst 0, 1) := by decide +kernel
theorem dX12_isPast_2 : decode cX12_isPast 2 = .ok (.aload_n 0, 1) := by decide +kernel
theorem dX12_isPast_3 : decode cX12_isPast 3 = .ok (.getfield 197, 3) := by decide +kernel
theorem dX12_isPast_6 : decode cX12_isPast 6 = .ok (.invokestatic 200, 3) := by decide +kernel
theorem dX12_isPast_9 : decode cX12_isPast 9 = .ok (.ireturn, 1) := by decide +kernel
theorem dX12_isState_0 : decode cX12_isState 0 = .ok (.iload_n 0, 1) := by decide +kernel
theorem dX12_isState_1 : decode cX12_isState 1 = .ok (.iconst 0, 1) := by decide +kernel
theorem dX12_isState_2 : decode cX12_isState 2 = .ok (.iconst 3, 1) := by decide +kernel
theorem dX12_isState_3 : decode cX12_isState 3 = .ok (.invokestatic 200, 3) := by decide +kernel
theorem dX12_isState_6 : decode cX12_isState 6 = .ok (.ireturn, 1) := by decide +kernel
theorem dX12_isFirm_0 : decode cX12_isFirm 0 = .ok (.iload_n 1, 1) := by decide +kernel
theorem dX12_isFirm_1 : decode cX12_isFirm 1 = .ok (.iconst 0, 1) := by decide +kernel
theorem dX12_isFirm_2 : decode cX12_isFirm 2 = .ok (.aload_n 0, 1) := by decide +kernel
theorem dX12_isFirm_3 : decode cX12_isFirm 3 = .ok (.getfield 204, 3) := by decide +kernel
theorem dX12_isFirm_6 : decode cX12_isFirm 6 = .ok (.iconst 1, 1) := by decide +kernel
theorem dX12_isFirm_7 : decode cX12_isFirm 7 = .ok (.isub, 1) := by decide +kernel
theorem dX12_isFirm_8 : decode cX12_isFirm 8 = .ok (.invokestatic 200, 3) := by decide +kernel
theorem dX12_isFirm_11 : decode cX12_isFirm 11 = .ok (.ireturn, 1) := by decide +kernel
theorem dX12_isPerson_0 : decode cX12_isPerson 0 = .ok (.iload_n 1, 1) := by decide +kernel
theorem dX12_isPerson_1 : decode cX12_isPerson 1 = .ok (.iconst 0, 1) := by decide +kernel
theorem dX12_isPerson_2 : decode cX12_isPerson 2 = .ok (.aload_n 0, 1) := by decide +kernel
theorem dX12_isPerson_3 : decode cX12_isPerson 3 = .ok (.getfield 207, 3) := by decide +kernel
theorem dX12_isPerson_6 : decode cX12_isPerson 6 = .ok (.iconst 1, 1) := by decide +kernel
theorem dX12_isPerson_7 : decode cX12_isPerson 7 = .ok (.isub, 1) := by decide +kernel
theorem dX12_isPerson_8 : decode cX12_isPerson 8 = .ok (.invokestatic 200, 3) := by decide +kernel
theorem dX12_isPerson_11 : decode cX12_isPerson 11 = .ok (.ireturn, 1) := by decide +kernel
theorem dX12_isAccount_0 : decode cX12_isAccount 0 = .ok (.iload_n 1, 1) := by decide +kernel
theorem dX12_isAccount_1 : decode cX12_isAccount 1 = .ok (.iconst 0, 1) := by decide +kernel
theorem dX12_isAccount_2 : decode cX12_isAccount 2 = .ok (.aload_n 0, 1) := by decide +kernel
theorem dX12_isAccount_3 : decode cX12_isAccount 3 = .ok (.getfield 210, 3) := by decide +kernel
theorem dX12_isAccount_6 : decode cX12_isAccount 6 = .ok (.iconst 1, 1) := by decide +kernel
theorem dX12_isAccount_7 : decode cX12_isAccount 7 = .ok (.isub, 1) := by decide +kernel
theorem dX12_isAccount_8 : decode cX12_isAccount 8 = .ok (.invokestatic 200, 3) := by decide +kernel
theorem dX12_isAccount_11 : decode cX12_isAccount 11 = .ok (.ireturn, 1) := by decide +kernel
theorem dX12_days_0 : decode cX12_days 0 = .ok (.iload_n 1, 1) := by decide +kernel
theorem dX12_days_1 : decode cX12_days 1 = .ok (.iconst 1, 1) := by decide +kernel
theorem dX12_days_2 : decode cX12_days 2 = .ok (.sipush 9999, 3) := by decide +kernel
theorem dX12_days_5 : decode cX12_days 5 = .ok (.invokestatic 200, 3) := by decide +kernel
theorem dX12_days_8 : decode cX12_days 8 = .ok (.ifCond .eq 15, 3) := by decide +kernel
theorem dX12_days_11 : decode cX12_days 11 = .ok (.aload_n 0, 1) := by decide +kernel
theorem dX12_days_12 : decode cX12_days 12 = .ok (.getfield 197, 3) := by decide +kernel
theorem dX12_days_15 : decode cX12_days 15 = .ok (.sipush 19999, 3) := by decide +kernel
theorem dX12_days_18 : decode cX12_days 18 = .ok (.iload_n 1, 1) := by decide +kernel
theorem dX12_days_19 : decode cX12_days 19 = .ok (.isub, 1) := by decide +kernel
theorem dX12_days_20 : decode cX12_days 20 = .ok (.if_icmp .le 5, 3) := by decide +kernel
theorem dX12_days_23 : decode cX12_days 23 = .ok (.iconst (-1), 1) := by decide +kernel
theorem dX12_days_24 : decode cX12_days 24 = .ok (.ireturn, 1) := by decide +kernel
theorem dX12_days_25 : decode cX12_days 25 = .ok (.aload_n 0, 1) := by decide +kernel
theorem dX12_days_26 : decode cX12_days 26 = .ok (.dup, 1) := by decide +kernel
theorem dX12_days_27 : decode cX12_days 27 = .ok (.getfield 197, 3) := by decide +kernel
theorem dX12_days_30 : decode cX12_days 30 = .ok (.iload_n 1, 1) := by decide +kernel
theorem dX12_days_31 : decode cX12_days 31 = .ok (.iadd, 1) := by decide +kernel
theorem dX12_days_32 : decode cX12_days 32 = .ok (.putfield 197, 3) := by decide +kernel
theorem dX12_days_35 : decode cX12_days 35 = .ok (.aload_n 0, 1) := by decide +kernel
theorem dX12_days_36 : decode cX12_days 36 = .ok (.getfield 197, 3) := by decide +kernel
theorem dX12_days_39 : decode cX12_days 39 = .ok (.ireturn, 1) := by decide +kernel
theorem dX12_firm_0 : decode cX12_firm 0 = .ok (.iload_n 1, 1) := by decide +kernel
theorem dX12_firm_1 : decode cX12_firm 1 = .ok (.invokestatic 213, 3) := by decide +kernel
theorem dX12_firm_4 : decode cX12_firm 4 = .ok (.ifCond .eq 12, 3) := by decide +kernel
theorem dX12_firm_7 : decode cX12_firm 7 = .ok (.aload_n 0, 1) := by decide +kernel
theorem dX12_firm_8 : decode cX12_firm 8 = .ok (.getfield 204, 3) := by decide +kernel
theorem dX12_firm_11 : decode cX12_firm 11 = .ok (.bipush 8, 2) := by decide +kernel
theorem dX12_firm_13 : decode cX12_firm 13 = .ok (.if_icmp .ne 5, 3) := by decide +kernel
theorem dX12_firm_16 : decode cX12_firm 16 = .ok (.iconst (-1), 1) := by decide +kernel
theorem dX12_firm_17 : decode cX12_firm 17 = .ok (.ireturn, 1) := by decide +kernel
theorem dX12_firm_18 : decode cX12_firm 18 = .ok (.aload_n 0, 1) := by decide +kernel
theorem dX12_firm_19 : decode cX12_firm 19 = .ok (.getfield 7, 3) := by decide +kernel
theorem dX12_firm_22 : decode cX12_firm 22 = .ok (.aload_n 0, 1) := by decide +kernel
theorem dX12_firm_23 : decode cX12_firm 23 = .ok (.getfield 204, 3) := by decide +kernel
theorem dX12_firm_26 : decode cX12_firm 26 = .ok (.iload_n 1, 1) := by decide +kernel
theorem dX12_firm_27 : decode cX12_firm 27 = .ok (.iastore, 1) := by decide +kernel
theorem dX12_firm_28 : decode cX12_firm 28 = .ok (.aload_n 0, 1) := by decide +kernel
theorem dX12_firm_29 : decode cX12_firm 29 = .ok (.getfield 13, 3) := by decide +kernel
theorem dX12_firm_32 : decode cX12_firm 32 = .ok (.aload_n 0, 1) := by decide +kernel
theorem dX12_firm_33 : decode cX12_firm 33 = .ok (.getfield 204, 3) := by decide +kernel
theorem dX12_firm_36 : decode cX12_firm 36 = .ok (.iconst (-1), 1) := by decide +kernel
theorem dX12_firm_37 : decode cX12_firm 37 = .ok (.iastore, 1) := by decide +kernel
theorem dX12_firm_38 : decode cX12_firm 38 = .ok (.aload_n 0, 1) := by decide +kernel
theorem dX12_firm_39 : decode cX12_firm 39 = .ok (.dup, 1) := by decide +kernel
theorem dX12_firm_40 : decode cX12_firm 40 = .ok (.getfield 204, 3) := by decide +kernel
theorem dX12_firm_43 : decode cX12_firm 43 = .ok (.iconst 1, 1) := by decide +kernel
theorem dX12_firm_44 : decode cX12_firm 44 = .ok (.iadd, 1) := by decide +kernel
theorem dX12_firm_45 : decode cX12_firm 45 = .ok (.putfield 204, 3) := by decide +kernel
theorem dX12_firm_48 : decode cX12_firm 48 = .ok (.aload_n 0, 1) := by decide +kernel
theorem dX12_firm_49 : decode cX12_firm 49 = .ok (.getfield 204, 3) := by decide +kernel
theorem dX12_firm_52 : decode cX12_firm 52 = .ok (.iconst 1, 1) := by decide +kernel
theorem dX12_firm_53 : decode cX12_firm 53 = .ok (.isub, 1) := by decide +kernel
theorem dX12_firm_54 : decode cX12_firm 54 = .ok (.ireturn, 1) := by decide +kernel
theorem dX12_isMerged_0 : decode cX12_isMerged 0 = .ok (.aload_n 0, 1) := by decide +kernel
theorem dX12_isMerged_1 : decode cX12_isMerged 1 = .ok (.getfield 13, 3) := by decide +kernel
theorem dX12_isMerged_4 : decode cX12_isMerged 4 = .ok (.iload_n 1, 1) := by decide +kernel
theorem dX12_isMerged_5 : decode cX12_isMerged 5 = .ok (.iaload, 1) := by decide +kernel
theorem dX12_isMerged_6 : decode cX12_isMerged 6 = .ok (.iconst (-1), 1) := by decide +kernel
theorem dX12_isMerged_7 : decode cX12_isMerged 7 = .ok (.if_icmp .eq 17, 3) := by decide +kernel
theorem dX12_isMerged_10 : decode cX12_isMerged 10 = .ok (.aload_n 0, 1) := by decide +kernel
theorem dX12_isMerged_11 : decode cX12_isMerged 11 = .ok (.getfield 16, 3) := by decide +kernel
theorem dX12_isMerged_14 : decode cX12_isMerged 14 = .ok (.iload_n 1, 1) := by decide +kernel
theorem dX12_isMerged_15 : decode cX12_isMerged 15 = .ok (.iaload, 1) := by decide +kernel
theorem dX12_isMerged_16 : decode cX12_isMerged 16 = .ok (.iload_n 2, 1) := by decide +kernel
theorem dX12_isMerged_17 : decode cX12_isMerged 17 = .ok (.if_icmp .gt 7, 3) := by decide +kernel
theorem dX12_isMerged_20 : decode cX12_isMerged 20 = .ok (.iconst 1, 1) := by decide +kernel
theorem dX12_isMerged_21 : decode cX12_isMerged 21 = .ok (.goto 4, 3) := by decide +kernel
theorem dX12_isMerged_24 : decode cX12_isMerged 24 = .ok (.iconst 0, 1) := by decide +kernel
theorem dX12_isMerged_25 : decode cX12_isMerged 25 = .ok (.ireturn, 1) := by decide +kernel
theorem dX12_merge_0 : decode cX12_merge 0 = .ok (.aload_n 0, 1) := by decide +kernel
theorem dX12_merge_1 : decode cX12_merge 1 = .ok (.iload_n 1, 1) := by decide +kernel
theorem dX12_merge_2 : decode cX12_merge 2 = .ok (.invokevirtual 217, 3) := by decide +kernel
theorem dX12_merge_5 : decode cX12_merge 5 = .ok (.ifCond .eq 43, 3) := by decide +kernel
theorem dX12_merge_8 : decode cX12_merge 8 = .ok (.aload_n 0, 1) := by decide +kernel
theorem dX12_merge_9 : decode cX12_merge 9 = .ok (.iload_n 2, 1) := by decide +kernel
theorem dX12_merge_10 : decode cX12_merge 10 = .ok (.invokevirtual 217, 3) := by decide +kernel
theorem dX12_merge_13 : decode cX12_merge 13 = .ok (.ifCond .eq 35, 3) := by decide +kernel
theorem dX12_merge_16 : decode cX12_merge 16 = .ok (.iload_n 1, 1) := by decide +kernel
theorem dX12_merge_17 : decode cX12_merge 17 = .ok (.iload_n 2, 1) := by decide +kernel
theorem dX12_merge_18 : decode cX12_merge 18 = .ok (.if_icmp .eq 30, 3) := by decide +kernel
theorem dX12_merge_21 : decode cX12_merge 21 = .ok (.aload_n 0, 1) := by decide +kernel
theorem dX12_merge_22 : decode cX12_merge 22 = .ok (.iload_n 3, 1) := by decide +kernel
theorem dX12_merge_23 : decode cX12_merge 23 = .ok (.invokevirtual 220, 3) := by decide +kernel
theorem dX12_merge_26 : decode cX12_merge 26 = .ok (.ifCond .eq 22, 3) := by decide +kernel
theorem dX12_merge_29 : decode cX12_merge 29 = .ok (.aload_n 0, 1) := by decide +kernel
theorem dX12_merge_30 : decode cX12_merge 30 = .ok (.getfield 13, 3) := by decide +kernel
theorem dX12_merge_33 : decode cX12_merge 33 = .ok (.iload_n 1, 1) := by decide +kernel
theorem dX12_merge_34 : decode cX12_merge 34 = .ok (.iaload, 1) := by decide +kernel
theorem dX12_merge_35 : decode cX12_merge 35 = .ok (.iconst (-1), 1) := by decide +kernel
theorem dX12_merge_36 : decode cX12_merge 36 = .ok (.if_icmp .ne 12, 3) := by decide +kernel
theorem dX12_merge_39 : decode cX12_merge 39 = .ok (.aload_n 0, 1) := by decide +kernel
theorem dX12_merge_40 : decode cX12_merge 40 = .ok (.iload_n 2, 1) := by decide +kernel
theorem dX12_merge_41 : decode cX12_merge 41 = .ok (.iload_n 3, 1) := by decide +kernel
theorem dX12_merge_42 : decode cX12_merge 42 = .ok (.invokevirtual 223, 3) := by decide +kernel
theorem dX12_merge_45 : decode cX12_merge 45 = .ok (.ifCond .eq 5, 3) := by decide +kernel
theorem dX12_merge_48 : decode cX12_merge 48 = .ok (.iconst 0, 1) := by decide +kernel
theorem dX12_merge_49 : decode cX12_merge 49 = .ok (.ireturn, 1) := by decide +kernel
theorem dX12_merge_50 : decode cX12_merge 50 = .ok (.iconst 0, 1) := by decide +kernel
theorem dX12_merge_51 : decode cX12_merge 51 = .ok (.istore 4, 2) := by decide +kernel
theorem dX12_merge_53 : decode cX12_merge 53 = .ok (.iload 4, 2) := by decide +kernel
theorem dX12_merge_55 : decode cX12_merge 55 = .ok (.aload_n 0, 1) := by decide +kernel
theorem dX12_merge_56 : decode cX12_merge 56 = .ok (.getfield 204, 3) := by decide +kernel
theorem dX12_merge_59 : decode cX12_merge 59 = .ok (.if_icmp .ge 33, 3) := by decide +kernel
theorem dX12_merge_62 : decode cX12_merge 62 = .ok (.aload_n 0, 1) := by decide +kernel
theorem dX12_merge_63 : decode cX12_merge 63 = .ok (.getfield 13, 3) := by decide +kernel
theorem dX12_merge_66 : decode cX12_merge 66 = .ok (.iload 4, 2) := by decide +kernel
theorem dX12_merge_68 : decode cX12_merge 68 = .ok (.iaload, 1) := by decide +kernel
theorem dX12_merge_69 : decode cX12_merge 69 = .ok (.iload_n 1, 1) := by decide +kernel
theorem dX12_merge_70 : decode cX12_merge 70 = .ok (.if_icmp .ne 16, 3) := by decide +kernel
theorem dX12_merge_73 : decode cX12_merge 73 = .ok (.aload_n 0, 1) := by decide +kernel
theorem dX12_merge_74 : decode cX12_merge 74 = .ok (.getfield 16, 3) := by decide +kernel
theorem dX12_merge_77 : decode cX12_merge 77 = .ok (.iload 4, 2) := by decide +kernel
theorem dX12_merge_79 : decode cX12_merge 79 = .ok (.iaload, 1) := by decide +kernel
theorem dX12_merge_80 : decode cX12_merge 80 = .ok (.iload_n 3, 1) := by decide +kernel
theorem dX12_merge_81 : decode cX12_merge 81 = .ok (.if_icmp .lt 5, 3) := by decide +kernel
theorem dX12_merge_84 : decode cX12_merge 84 = .ok (.iconst 0, 1) := by decide +kernel
theorem dX12_merge_85 : decode cX12_merge 85 = .ok (.ireturn, 1) := by decide +kernel
theorem dX12_merge_86 : decode cX12_merge 86 = .ok (.iinc 4 1, 3) := by decide +kernel
theorem dX12_merge_89 : decode cX12_merge 89 = .ok (.goto (-36), 3) := by decide +kernel
theorem dX12_merge_92 : decode cX12_merge 92 = .ok (.aload_n 0, 1) := by decide +kernel
theorem dX12_merge_93 : decode cX12_merge 93 = .ok (.getfield 13, 3) := by decide +kernel
theorem dX12_merge_96 : decode cX12_merge 96 = .ok (.iload_n 1, 1) := by decide +kernel
theorem dX12_merge_97 : decode cX12_merge 97 = .ok (.iload_n 2, 1) := by decide +kernel
theorem dX12_merge_98 : decode cX12_merge 98 = .ok (.iastore, 1) := by decide +kernel
theorem dX12_merge_99 : decode cX12_merge 99 = .ok (.aload_n 0, 1) := by decide +kernel
theorem dX12_merge_100 : decode cX12_merge 100 = .ok (.getfield 16, 3) := by decide +kernel
theorem dX12_merge_103 : decode cX12_merge 103 = .ok (.iload_n 1, 1) := by decide +kernel
theorem dX12_merge_104 : decode cX12_merge 104 = .ok (.iload_n 3, 1) := by decide +kernel
theorem dX12_merge_105 : decode cX12_merge 105 = .ok (.iastore, 1) := by decide +kernel
theorem dX12_merge_106 : decode cX12_merge 106 = .ok (.iconst 1, 1) := by decide +kernel
theorem dX12_merge_107 : decode cX12_merge 107 = .ok (.ireturn, 1) := by decide +kernel
theorem dX12_firmOf_0 : decode cX12_firmOf 0 = .ok (.iload_n 1, 1) := by decide +kernel
theorem dX12_firmOf_1 : decode cX12_firmOf 1 = .ok (.istore_n 3, 1) := by decide +kernel
theorem dX12_firmOf_2 : decode cX12_firmOf 2 = .ok (.aload_n 0, 1) := by decide +kernel
theorem dX12_firmOf_3 : decode cX12_firmOf 3 = .ok (.iload_n 3, 1) := by decide +kernel
theorem dX12_firmOf_4 : decode cX12_firmOf 4 = .ok (.iload_n 2, 1) := by decide +kernel
theorem dX12_firmOf_5 : decode cX12_firmOf 5 = .ok (.invokevirtual 223, 3) := by decide +kernel
theorem dX12_firmOf_8 : decode cX12_firmOf 8 = .ok (.ifCond .eq 13, 3) := by decide +kernel
theorem dX12_firmOf_11 : decode cX12_firmOf 11 = .ok (.aload_n 0, 1) := by decide +kernel
theorem dX12_firmOf_12 : decode cX12_firmOf 12 = .ok (.getfield 13, 3) := by decide +kernel
theorem dX12_firmOf_15 : decode cX12_firmOf 15 = .ok (.iload_n 3, 1) := by decide +kernel
theorem dX12_firmOf_16 : decode cX12_firmOf 16 = .ok (.iaload, 1) := by decide +kernel
theorem dX12_firmOf_17 : decode cX12_firmOf 17 = .ok (.istore_n 3, 1) := by decide +kernel
theorem dX12_firmOf_18 : decode cX12_firmOf 18 = .ok (.goto (-16), 3) := by decide +kernel
theorem dX12_firmOf_21 : decode cX12_firmOf 21 = .ok (.iload_n 3, 1) := by decide +kernel
theorem dX12_firmOf_22 : decode cX12_firmOf 22 = .ok (.ireturn, 1) := by decide +kernel
theorem dX12_firmOn_0 : decode cX12_firmOn 0 = .ok (.aload_n 0, 1) := by decide +kernel
theorem dX12_firmOn_1 : decode cX12_firmOn 1 = .ok (.iload_n 1, 1) := by decide +kernel
theorem dX12_firmOn_2 : decode cX12_firmOn 2 = .ok (.invokevirtual 217, 3) := by decide +kernel
theorem dX12_firmOn_5 : decode cX12_firmOn 5 = .ok (.ifCond .eq 23, 3) := by decide +kernel
theorem dX12_firmOn_8 : decode cX12_firmOn 8 = .ok (.iload_n 2, 1) := by decide +kernel
theorem dX12_firmOn_9 : decode cX12_firmOn 9 = .ok (.iconst 0, 1) := by decide +kernel
theorem dX12_firmOn_10 : decode cX12_firmOn 10 = .ok (.sipush 19999, 3) := by decide +kernel
theorem dX12_firmOn_13 : decode cX12_firmOn 13 = .ok (.invokestatic 200, 3) := by decide +kernel
theorem dX12_firmOn_16 : decode cX12_firmOn 16 = .ok (.ifCond .eq 12, 3) := by decide +kernel
theorem dX12_firmOn_19 : decode cX12_firmOn 19 = .ok (.aload_n 0, 1) := by decide +kernel
theorem dX12_firmOn_20 : decode cX12_firmOn 20 = .ok (.iload_n 1, 1) := by decide +kernel
theorem dX12_firmOn_21 : decode cX12_firmOn 21 = .ok (.iload_n 2, 1) := by decide +kernel
theorem dX12_firmOn_22 : decode cX12_firmOn 22 = .ok (.invokevirtual 227, 3) := by decide +kernel
theorem dX12_firmOn_25 : decode cX12_firmOn 25 = .ok (.goto 4, 3) := by decide +kernel
theorem dX12_firmOn_28 : decode cX12_firmOn 28 = .ok (.iconst (-1), 1) := by decide +kernel
theorem dX12_firmOn_29 : decode cX12_firmOn 29 = .ok (.ireturn, 1) := by decide +kernel
theorem dX12_person_0 : decode cX12_person 0 = .ok (.iload_n 1, 1) := by decide +kernel
theorem dX12_person_1 : decode cX12_person 1 = .ok (.iconst 0, 1) := by decide +kernel
theorem dX12_person_2 : decode cX12_person 2 = .ok (.bipush 99, 2) := by decide +kernel
theorem dX12_person_4 : decode cX12_person 4 = .ok (.invokestatic 200, 3) := by decide +kernel
theorem dX12_person_7 : decode cX12_person 7 = .ok (.ifCond .eq 60, 3) := by decide +kernel
theorem dX12_person_10 : decode cX12_person 10 = .ok (.iload_n 2, 1) := by decide +kernel
theorem dX12_person_11 : decode cX12_person 11 = .ok (.iconst (-1), 1) := by decide +kernel
theorem dX12_person_12 : decode cX12_person 12 = .ok (.aload_n 0, 1) := by decide +kernel
theorem dX12_person_13 : decode cX12_person 13 = .ok (.getfield 197, 3) := by decide +kernel
theorem dX12_person_16 : decode cX12_person 16 = .ok (.invokestatic 200, 3) := by decide +kernel
theorem dX12_person_19 : decode cX12_person 19 = .ok (.ifCond .eq 48, 3) := by decide +kernel
theorem dX12_person_22 : decode cX12_person 22 = .ok (.iload_n 3, 1) := by decide +kernel
theorem dX12_person_23 : decode cX12_person 23 = .ok (.iconst (-1), 1) := by decide +kernel
theorem dX12_person_24 : decode cX12_person 24 = .ok (.iconst 3, 1) := by decide +kernel
theorem dX12_person_25 : decode cX12_person 25 = .ok (.invokestatic 200, 3) := by decide +kernel
theorem dX12_person_28 : decode cX12_person 28 = .ok (.ifCond .eq 39, 3) := by decide +kernel
theorem dX12_person_31 : decode cX12_person 31 = .ok (.iload 4, 2) := by decide +kernel
theorem dX12_person_33 : decode cX12_person 33 = .ok (.iconst (-1), 1) := by decide +kernel
theorem dX12_person_34 : decode cX12_person 34 = .ok (.sipush 9999, 3) := by decide +kernel
theorem dX12_person_37 : decode cX12_person 37 = .ok (.invokestatic 200, 3) := by decide +kernel
theorem dX12_person_40 : decode cX12_person 40 = .ok (.ifCond .eq 27, 3) := by decide +kernel
theorem dX12_person_43 : decode cX12_person 43 = .ok (.iload 5, 2) := by decide +kernel
theorem dX12_person_45 : decode cX12_person 45 = .ok (.iconst (-1), 1) := by decide +kernel
theorem dX12_person_46 : decode cX12_person 46 = .ok (.if_icmp .eq 12, 3) := by decide +kernel
theorem dX12_person_49 : decode cX12_person 49 = .ok (.aload_n 0, 1) := by decide +kernel
theorem dX12_person_50 : decode cX12_person 50 = .ok (.iload 5, 2) := by decide +kernel
theorem dX12_person_52 : decode cX12_person 52 = .ok (.invokevirtual 231, 3) := by decide +kernel
theorem dX12_person_55 : decode cX12_person 55 = .ok (.ifCond .eq 12, 3) := by decide +kernel
theorem dX12_person_58 : decode cX12_person 58 = .ok (.aload_n 0, 1) := by decide +kernel
theorem dX12_person_59 : decode cX12_person 59 = .ok (.getfield 207, 3) := by decide +kernel
theorem dX12_person_62 : decode cX12_person 62 = .ok (.bipush 24, 2) := by decide +kernel
theorem dX12_person_64 : decode cX12_person 64 = .ok (.if_icmp .ne 5, 3) := by decide +kernel
theorem dX12_person_67 : decode cX12_person 67 = .ok (.iconst (-1), 1) := by decide +kernel
theorem dX12_person_68 : decode cX12_person 68 = .ok (.ireturn, 1) := by decide +kernel
theorem dX12_person_69 : decode cX12_person 69 = .ok (.aload_n 0, 1) := by decide +kernel
theorem dX12_person_70 : decode cX12_person 70 = .ok (.getfield 19, 3) := by decide +kernel
theorem dX12_person_73 : decode cX12_person 73 = .ok (.aload_n 0, 1) := by decide +kernel
theorem dX12_person_74 : decode cX12_person 74 = .ok (.getfield 207, 3) := by decide +kernel
theorem dX12_person_77 : decode cX12_person 77 = .ok (.iload_n 1, 1) := by decide +kernel
theorem dX12_person_78 : decode cX12_person 78 = .ok (.iastore, 1) := by decide +kernel
theorem dX12_person_79 : decode cX12_person 79 = .ok (.aload_n 0, 1) := by decide +kernel
theorem dX12_person_80 : decode cX12_person 80 = .ok (.getfield 22, 3) := by decide +kernel
theorem dX12_person_83 : decode cX12_person 83 = .ok (.aload_n 0, 1) := by decide +kernel
theorem dX12_person_84 : decode cX12_person 84 = .ok (.getfield 207, 3) := by decide +kernel
theorem dX12_person_87 : decode cX12_person 87 = .ok (.iload_n 2, 1) := by decide +kernel
theorem dX12_person_88 : decode cX12_person 88 = .ok (.iastore, 1) := by decide +kernel
theorem dX12_person_89 : decode cX12_person 89 = .ok (.aload_n 0, 1) := by decide +kernel
theorem dX12_person_90 : decode cX12_person 90 = .ok (.getfield 25, 3) := by decide +kernel
theorem dX12_person_93 : decode cX12_person 93 = .ok (.aload_n 0, 1) := by decide +kernel
theorem dX12_person_94 : decode cX12_person 94 = .ok (.getfield 207, 3) := by decide +kernel
theorem dX12_person_97 : decode cX12_person 97 = .ok (.iload_n 3, 1) := by decide +kernel
theorem dX12_person_98 : decode cX12_person 98 = .ok (.iastore, 1) := by decide +kernel
theorem dX12_person_99 : decode cX12_person 99 = .ok (.aload_n 0, 1) := by decide +kernel
theorem dX12_person_100 : decode cX12_person 100 = .ok (.getfield 28, 3) := by decide +kernel
theorem dX12_person_103 : decode cX12_person 103 = .ok (.aload_n 0, 1) := by decide +kernel
theorem dX12_person_104 : decode cX12_person 104 = .ok (.getfield 207, 3) := by decide +kernel
theorem dX12_person_107 : decode cX12_person 107 = .ok (.iload 4, 2) := by decide +kernel
theorem dX12_person_109 : decode cX12_person 109 = .ok (.iastore, 1) := by decide +kernel
theorem dX12_person_110 : decode cX12_person 110 = .ok (.aload_n 0, 1) := by decide +kernel
theorem dX12_person_111 : decode cX12_person 111 = .ok (.getfield 31, 3) := by decide +kernel
theorem dX12_person_114 : decode cX12_person 114 = .ok (.aload_n 0, 1) := by decide +kernel
theorem dX12_person_115 : decode cX12_person 115 = .ok (.getfield 207, 3) := by decide +kernel
theorem dX12_person_118 : decode cX12_person 118 = .ok (.iload 5, 2) := by decide +kernel
theorem dX12_person_120 : decode cX12_person 120 = .ok (.iastore, 1) := by decide +kernel
theorem dX12_person_121 : decode cX12_person 121 = .ok (.aload_n 0, 1) := by decide +kernel
theorem dX12_person_122 : decode cX12_person 122 = .ok (.getfield 34, 3) := by decide +kernel
theorem dX12_person_125 : decode cX12_person 125 = .ok (.aload_n 0, 1) := by decide +kernel
theorem dX12_person_126 : decode cX12_person 126 = .ok (.getfield 207, 3) := by decide +kernel
theorem dX12_person_129 : decode cX12_person 129 = .ok (.iconst (-1), 1) := by decide +kernel
theorem dX12_person_130 : decode cX12_person 130 = .ok (.iastore, 1) := by decide +kernel
theorem dX12_person_131 : decode cX12_person 131 = .ok (.aload_n 0, 1) := by decide +kernel
theorem dX12_person_132 : decode cX12_person 132 = .ok (.dup, 1) := by decide +kernel
theorem dX12_person_133 : decode cX12_person 133 = .ok (.getfield 207, 3) := by decide +kernel
theorem dX12_person_136 : decode cX12_person 136 = .ok (.iconst 1, 1) := by decide +kernel
theorem dX12_person_137 : decode cX12_person 137 = .ok (.iadd, 1) := by decide +kernel
theorem dX12_person_138 : decode cX12_person 138 = .ok (.putfield 207, 3) := by decide +kernel
theorem dX12_person_141 : decode cX12_person 141 = .ok (.aload_n 0, 1) := by decide +kernel
theorem dX12_person_142 : decode cX12_person 142 = .ok (.getfield 207, 3) := by decide +kernel
theorem dX12_person_145 : decode cX12_person 145 = .ok (.iconst 1, 1) := by decide +kernel
theorem dX12_person_146 : decode cX12_person 146 = .ok (.isub, 1) := by decide +kernel
theorem dX12_person_147 : decode cX12_person 147 = .ok (.ireturn, 1) := by decide +kernel
theorem dX12_dies_0 : decode cX12_dies 0 = .ok (.aload_n 0, 1) := by decide +kernel
theorem dX12_dies_1 : decode cX12_dies 1 = .ok (.iload_n 1, 1) := by decide +kernel
theorem dX12_dies_2 : decode cX12_dies 2 = .ok (.invokevirtual 231, 3) := by decide +kernel
theorem dX12_dies_5 : decode cX12_dies 5 = .ok (.ifCond .eq 44, 3) := by decide +kernel
theorem dX12_dies_8 : decode cX12_dies 8 = .ok (.aload_n 0, 1) := by decide +kernel
theorem dX12_dies_9 : decode cX12_dies 9 = .ok (.getfield 34, 3) := by decide +kernel
theorem dX12_dies_12 : decode cX12_dies 12 = .ok (.iload_n 1, 1) := by decide +kernel
theorem dX12_dies_13 : decode cX12_dies 13 = .ok (.iaload, 1) := by decide +kernel
theorem dX12_dies_14 : decode cX12_dies 14 = .ok (.iconst (-1), 1) := by decide +kernel
theorem dX12_dies_15 : decode cX12_dies 15 = .ok (.if_icmp .ne 34, 3) := by decide +kernel
theorem dX12_dies_18 : decode cX12_dies 18 = .ok (.iload_n 2, 1) := by decide +kernel
theorem dX12_dies_19 : decode cX12_dies 19 = .ok (.aload_n 0, 1) := by decide +kernel
theorem dX12_dies_20 : decode cX12_dies 20 = .ok (.getfield 22, 3) := by decide +kernel
theorem dX12_dies_23 : decode cX12_dies 23 = .ok (.iload_n 1, 1) := by decide +kernel
theorem dX12_dies_24 : decode cX12_dies 24 = .ok (.iaload, 1) := by decide +kernel
theorem dX12_dies_25 : decode cX12_dies 25 = .ok (.iconst (-1), 1) := by decide +kernel
theorem dX12_dies_26 : decode cX12_dies 26 = .ok (.if_icmp .ne 7, 3) := by decide +kernel
theorem dX12_dies_29 : decode cX12_dies 29 = .ok (.iconst 0, 1) := by decide +kernel
theorem dX12_dies_30 : decode cX12_dies 30 = .ok (.goto 9, 3) := by decide +kernel
theorem dX12_dies_33 : decode cX12_dies 33 = .ok (.aload_n 0, 1) := by decide +kernel
theorem dX12_dies_34 : decode cX12_dies 34 = .ok (.getfield 22, 3) := by decide +kernel
theorem dX12_dies_37 : decode cX12_dies 37 = .ok (.iload_n 1, 1) := by decide +kernel
theorem dX12_dies_38 : decode cX12_dies 38 = .ok (.iaload, 1) := by decide +kernel
theorem dX12_dies_39 : decode cX12_dies 39 = .ok (.aload_n 0, 1) := by decide +kernel
theorem dX12_dies_40 : decode cX12_dies 40 = .ok (.getfield 197, 3) := by decide +kernel
theorem dX12_dies_43 : decode cX12_dies 43 = .ok (.invokestatic 200, 3) := by decide +kernel
theorem dX12_dies_46 : decode cX12_dies 46 = .ok (.ifCond .ne 5, 3) := by decide +kernel
theorem dX12_dies_49 : decode cX12_dies 49 = .ok (.iconst 0, 1) := by decide +kernel
theorem dX12_dies_50 : decode cX12_dies 50 = .ok (.ireturn, 1) := by decide +kernel
theorem dX12_dies_51 : decode cX12_dies 51 = .ok (.aload_n 0, 1) := by decide +kernel
theorem dX12_dies_52 : decode cX12_dies 52 = .ok (.getfield 34, 3) := by decide +kernel
theorem dX12_dies_55 : decode cX12_dies 55 = .ok (.iload_n 1, 1) := by decide +kernel
theorem dX12_dies_56 : decode cX12_dies 56 = .ok (.iload_n 2, 1) := by decide +kernel
theorem dX12_dies_57 : decode cX12_dies 57 = .ok (.iastore, 1) := by decide +kernel
theorem dX12_dies_58 : decode cX12_dies 58 = .ok (.iconst 1, 1) := by decide +kernel
theorem dX12_dies_59 : decode cX12_dies 59 = .ok (.ireturn, 1) := by decide +kernel
theorem dX12_moves_0 : decode cX12_moves 0 = .ok (.aload_n 0, 1) := by decide +kernel
theorem dX12_moves_1 : decode cX12_moves 1 = .ok (.iload_n 1, 1) := by decide +kernel
theorem dX12_moves_2 : decode cX12_moves 2 = .ok (.invokevirtual 231, 3) := by decide +kernel
theorem dX12_moves_5 : decode cX12_moves 5 = .ok (.ifCond .eq 12, 3) := by decide +kernel
theorem dX12_moves_8 : decode cX12_moves 8 = .ok (.iload_n 2, 1) := by decide +kernel
theorem dX12_moves_9 : decode cX12_moves 9 = .ok (.iconst (-1), 1) := by decide +kernel
theorem dX12_moves_10 : decode cX12_moves 10 = .ok (.iconst 3, 1) := by decide +kernel
theorem dX12_moves_11 : decode cX12_moves 11 = .ok (.invokestatic 200, 3) := by decide +kernel
theorem dX12_moves_14 : decode cX12_moves 14 = .ok (.ifCond .ne 5, 3) := by decide +kernel
theorem dX12_moves_17 : decode cX12_moves 17 = .ok (.iconst 0, 1) := by decide +kernel
theorem dX12_moves_18 : decode cX12_moves 18 = .ok (.ireturn, 1) := by decide +kernel
theorem dX12_moves_19 : decode cX12_moves 19 = .ok (.aload_n 0, 1) := by decide +kernel
theorem dX12_moves_20 : decode cX12_moves 20 = .ok (.getfield 25, 3) := by decide +kernel
theorem dX12_moves_23 : decode cX12_moves 23 = .ok (.iload_n 1, 1) := by decide +kernel
theorem dX12_moves_24 : decode cX12_moves 24 = .ok (.iload_n 2, 1) := by decide +kernel
theorem dX12_moves_25 : decode cX12_moves 25 = .ok (.iastore, 1) := by decide +kernel
theorem dX12_moves_26 : decode cX12_moves 26 = .ok (.iconst 1, 1) := by decide +kernel
theorem dX12_moves_27 : decode cX12_moves 27 = .ok (.ireturn, 1) := by decide +kernel
theorem dX12_tells_0 : decode cX12_tells 0 = .ok (.aload_n 0, 1) := by decide +kernel
theorem dX12_tells_1 : decode cX12_tells 1 = .ok (.getfield 49, 3) := by decide +kernel
theorem dX12_tells_4 : decode cX12_tells 4 = .ok (.aload_n 0, 1) := by decide +kernel
theorem dX12_tells_5 : decode cX12_tells 5 = .ok (.getfield 234, 3) := by decide +kernel
theorem dX12_tells_8 : decode cX12_tells 8 = .ok (.iload_n 1, 1) := by decide +kernel
theorem dX12_tells_9 : decode cX12_tells 9 = .ok (.iastore, 1) := by decide +kernel
theorem dX12_tells_10 : decode cX12_tells 10 = .ok (.aload_n 0, 1) := by decide +kernel
theorem dX12_tells_11 : decode cX12_tells 11 = .ok (.getfield 52, 3) := by decide +kernel
theorem dX12_tells_14 : decode cX12_tells 14 = .ok (.aload_n 0, 1) := by decide +kernel
theorem dX12_tells_15 : decode cX12_tells 15 = .ok (.getfield 234, 3) := by decide +kernel
theorem dX12_tells_18 : decode cX12_tells 18 = .ok (.iload_n 2, 1) := by decide +kernel
theorem dX12_tells_19 : decode cX12_tells 19 = .ok (.iastore, 1) := by decide +kernel
theorem dX12_tells_20 : decode cX12_tells 20 = .ok (.aload_n 0, 1) := by decide +kernel
theorem dX12_tells_21 : decode cX12_tells 21 = .ok (.getfield 55, 3) := by decide +kernel
theorem dX12_tells_24 : decode cX12_tells 24 = .ok (.aload_n 0, 1) := by decide +kernel
theorem dX12_tells_25 : decode cX12_tells 25 = .ok (.getfield 234, 3) := by decide +kernel
theorem dX12_tells_28 : decode cX12_tells 28 = .ok (.iload_n 3, 1) := by decide +kernel
theorem dX12_tells_29 : decode cX12_tells 29 = .ok (.iastore, 1) := by decide +kernel
theorem dX12_tells_30 : decode cX12_tells 30 = .ok (.aload_n 0, 1) := by decide +kernel
theorem dX12_tells_31 : decode cX12_tells 31 = .ok (.getfield 58, 3) := by decide +kernel
theorem dX12_tells_34 : decode cX12_tells 34 = .ok (.aload_n 0, 1) := by decide +kernel
theorem dX12_tells_35 : decode cX12_tells 35 = .ok (.getfield 234, 3) := by decide +kernel
theorem dX12_tells_38 : decode cX12_tells 38 = .ok (.iload 4, 2) := by decide +kernel
theorem dX12_tells_40 : decode cX12_tells 40 = .ok (.iastore, 1) := by decide +kernel
theorem dX12_tells_41 : decode cX12_tells 41 = .ok (.aload_n 0, 1) := by decide +kernel
theorem dX12_tells_42 : decode cX12_tells 42 = .ok (.getfield 61, 3) := by decide +kernel
theorem dX12_tells_45 : decode cX12_tells 45 = .ok (.aload_n 0, 1) := by decide +kernel
theorem dX12_tells_46 : decode cX12_tells 46 = .ok (.getfield 234, 3) := by decide +kernel
theorem dX12_tells_49 : decode cX12_tells 49 = .ok (.iload 5, 2) := by decide +kernel
theorem dX12_tells_51 : decode cX12_tells 51 = .ok (.iastore, 1) := by decide +kernel
theorem dX12_tells_52 : decode cX12_tells 52 = .ok (.aload_n 0, 1) := by decide +kernel
theorem dX12_tells_53 : decode cX12_tells 53 = .ok (.getfield 64, 3) := by decide +kernel
theorem dX12_tells_56 : decode cX12_tells 56 = .ok (.aload_n 0, 1) := by decide +kernel
theorem dX12_tells_57 : decode cX12_tells 57 = .ok (.getfield 234, 3) := by decide +kernel
theorem dX12_tells_60 : decode cX12_tells 60 = .ok (.aload_n 0, 1) := by decide +kernel
theorem dX12_tells_61 : decode cX12_tells 61 = .ok (.getfield 197, 3) := by decide +kernel
theorem dX12_tells_64 : decode cX12_tells 64 = .ok (.iastore, 1) := by decide +kernel
theorem dX12_tells_65 : decode cX12_tells 65 = .ok (.aload_n 0, 1) := by decide +kernel
theorem dX12_tells_66 : decode cX12_tells 66 = .ok (.dup, 1) := by decide +kernel
theorem dX12_tells_67 : decode cX12_tells 67 = .ok (.getfield 234, 3) := by decide +kernel
theorem dX12_tells_70 : decode cX12_tells 70 = .ok (.iconst 1, 1) := by decide +kernel
theorem dX12_tells_71 : decode cX12_tells 71 = .ok (.iadd, 1) := by decide +kernel
theorem dX12_tells_72 : decode cX12_tells 72 = .ok (.putfield 234, 3) := by decide +kernel
theorem dX12_tells_75 : decode cX12_tells 75 = .ok (.return_, 1) := by decide +kernel
theorem dX12_account_0 : decode cX12_account 0 = .ok (.aload_n 0, 1) := by decide +kernel
theorem dX12_account_1 : decode cX12_account 1 = .ok (.iload_n 1, 1) := by decide +kernel
theorem dX12_account_2 : decode cX12_account 2 = .ok (.invokevirtual 217, 3) := by decide +kernel
theorem dX12_account_5 : decode cX12_account 5 = .ok (.ifCond .eq 48, 3) := by decide +kernel
theorem dX12_account_8 : decode cX12_account 8 = .ok (.iload_n 2, 1) := by decide +kernel
theorem dX12_account_9 : decode cX12_account 9 = .ok (.iconst 0, 1) := by decide +kernel
theorem dX12_account_10 : decode cX12_account 10 = .ok (.iconst 3, 1) := by decide +kernel
theorem dX12_account_11 : decode cX12_account 11 = .ok (.invokestatic 200, 3) := by decide +kernel
theorem dX12_account_14 : decode cX12_account 14 = .ok (.ifCond .eq 39, 3) := by decide +kernel
theorem dX12_account_17 : decode cX12_account 17 = .ok (.aload_n 0, 1) := by decide +kernel
theorem dX12_account_18 : decode cX12_account 18 = .ok (.iload_n 3, 1) := by decide +kernel
theorem dX12_account_19 : decode cX12_account 19 = .ok (.invokevirtual 231, 3) := by decide +kernel
theorem dX12_account_22 : decode cX12_account 22 = .ok (.ifCond .eq 31, 3) := by decide +kernel
theorem dX12_account_25 : decode cX12_account 25 = .ok (.aload_n 0, 1) := by decide +kernel
theorem dX12_account_26 : decode cX12_account 26 = .ok (.iload 4, 2) := by decide +kernel
theorem dX12_account_28 : decode cX12_account 28 = .ok (.invokevirtual 220, 3) := by decide +kernel
theorem dX12_account_31 : decode cX12_account 31 = .ok (.ifCond .eq 22, 3) := by decide +kernel
theorem dX12_account_34 : decode cX12_account 34 = .ok (.aload_n 0, 1) := by decide +kernel
theorem dX12_account_35 : decode cX12_account 35 = .ok (.iload_n 1, 1) := by decide +kernel
theorem dX12_account_36 : decode cX12_account 36 = .ok (.iload 4, 2) := by decide +kernel
theorem dX12_account_38 : decode cX12_account 38 = .ok (.invokevirtual 223, 3) := by decide +kernel
theorem dX12_account_41 : decode cX12_account 41 = .ok (.ifCond .ne 12, 3) := by decide +kernel
theorem dX12_account_44 : decode cX12_account 44 = .ok (.aload_n 0, 1) := by decide +kernel
theorem dX12_account_45 : decode cX12_account 45 = .ok (.getfield 210, 3) := by decide +kernel
theorem dX12_account_48 : decode cX12_account 48 = .ok (.bipush 40, 2) := by decide +kernel
theorem dX12_account_50 : decode cX12_account 50 = .ok (.if_icmp .ne 5, 3) := by decide +kernel
theorem dX12_account_53 : decode cX12_account 53 = .ok (.iconst (-1), 1) := by decide +kernel
theorem dX12_account_54 : decode cX12_account 54 = .ok (.ireturn, 1) := by decide +kernel
theorem dX12_account_55 : decode cX12_account 55 = .ok (.aload_n 0, 1) := by decide +kernel
theorem dX12_account_56 : decode cX12_account 56 = .ok (.getfield 37, 3) := by decide +kernel
theorem dX12_account_59 : decode cX12_account 59 = .ok (.aload_n 0, 1) := by decide +kernel
theorem dX12_account_60 : decode cX12_account 60 = .ok (.getfield 210, 3) := by decide +kernel
theorem dX12_account_63 : decode cX12_account 63 = .ok (.iload_n 1, 1) := by decide +kernel
theorem dX12_account_64 : decode cX12_account 64 = .ok (.iastore, 1) := by decide +kernel
theorem dX12_account_65 : decode cX12_account 65 = .ok (.aload_n 0, 1) := by decide +kernel
theorem dX12_account_66 : decode cX12_account 66 = .ok (.getfield 40, 3) := by decide +kernel
theorem dX12_account_69 : decode cX12_account 69 = .ok (.aload_n 0, 1) := by decide +kernel
theorem dX12_account_70 : decode cX12_account 70 = .ok (.getfield 210, 3) := by decide +kernel
theorem dX12_account_73 : decode cX12_account 73 = .ok (.iload_n 2, 1) := by decide +kernel
theorem dX12_account_74 : decode cX12_account 74 = .ok (.iastore, 1) := by decide +kernel
theorem dX12_account_75 : decode cX12_account 75 = .ok (.aload_n 0, 1) := by decide +kernel
theorem dX12_account_76 : decode cX12_account 76 = .ok (.getfield 43, 3) := by decide +kernel
theorem dX12_account_79 : decode cX12_account 79 = .ok (.aload_n 0, 1) := by decide +kernel
theorem dX12_account_80 : decode cX12_account 80 = .ok (.getfield 210, 3) := by decide +kernel
theorem dX12_account_83 : decode cX12_account 83 = .ok (.iload_n 3, 1) := by decide +kernel
theorem dX12_account_84 : decode cX12_account 84 = .ok (.iastore, 1) := by decide +kernel
theorem dX12_account_85 : decode cX12_account 85 = .ok (.aload_n 0, 1) := by decide +kernel
theorem dX12_account_86 : decode cX12_account 86 = .ok (.getfield 46, 3) := by decide +kernel
theorem dX12_account_89 : decode cX12_account 89 = .ok (.aload_n 0, 1) := by decide +kernel
theorem dX12_account_90 : decode cX12_account 90 = .ok (.getfield 210, 3) := by decide +kernel
theorem dX12_account_93 : decode cX12_account 93 = .ok (.iload 4, 2) := by decide +kernel
theorem dX12_account_95 : decode cX12_account 95 = .ok (.iastore, 1) := by decide +kernel
theorem dX12_account_96 : decode cX12_account 96 = .ok (.aload_n 0, 1) := by decide +kernel
theorem dX12_account_97 : decode cX12_account 97 = .ok (.getfield 128, 3) := by decide +kernel
theorem dX12_account_100 : decode cX12_account 100 = .ok (.aload_n 0, 1) := by decide +kernel
theorem dX12_account_101 : decode cX12_account 101 = .ok (.getfield 210, 3) := by decide +kernel
theorem dX12_account_104 : decode cX12_account 104 = .ok (.iconst (-1), 1) := by decide +kernel
theorem dX12_account_105 : decode cX12_account 105 = .ok (.iastore, 1) := by decide +kernel
theorem dX12_account_106 : decode cX12_account 106 = .ok (.aload_n 0, 1) := by decide +kernel
theorem dX12_account_107 : decode cX12_account 107 = .ok (.dup, 1) := by decide +kernel
theorem dX12_account_108 : decode cX12_account 108 = .ok (.getfield 210, 3) := by decide +kernel
theorem dX12_account_111 : decode cX12_account 111 = .ok (.iconst 1, 1) := by decide +kernel
theorem dX12_account_112 : decode cX12_account 112 = .ok (.iadd, 1) := by decide +kernel
theorem dX12_account_113 : decode cX12_account 113 = .ok (.putfield 210, 3) := by decide +kernel
theorem dX12_account_116 : decode cX12_account 116 = .ok (.aload_n 0, 1) := by decide +kernel
theorem dX12_account_117 : decode cX12_account 117 = .ok (.getfield 210, 3) := by decide +kernel
theorem dX12_account_120 : decode cX12_account 120 = .ok (.iconst 1, 1) := by decide +kernel
theorem dX12_account_121 : decode cX12_account 121 = .ok (.isub, 1) := by decide +kernel
theorem dX12_account_122 : decode cX12_account 122 = .ok (.ireturn, 1) := by decide +kernel
theorem dX12_act_0 : decode cX12_act 0 = .ok (.aload_n 0, 1) := by decide +kernel
theorem dX12_act_1 : decode cX12_act 1 = .ok (.iload_n 1, 1) := by decide +kernel
theorem dX12_act_2 : decode cX12_act 2 = .ok (.invokevirtual 237, 3) := by decide +kernel
theorem dX12_act_5 : decode cX12_act 5 = .ok (.ifCond .eq 51, 3) := by decide +kernel
theorem dX12_act_8 : decode cX12_act 8 = .ok (.iload_n 2, 1) := by decide +kernel
theorem dX12_act_9 : decode cX12_act 9 = .ok (.iconst 0, 1) := by decide +kernel
theorem dX12_act_10 : decode cX12_act 10 = .ok (.iconst 5, 1) := by decide +kernel
theorem dX12_act_11 : decode cX12_act 11 = .ok (.invokestatic 200, 3) := by decide +kernel
theorem dX12_act_14 : decode cX12_act 14 = .ok (.ifCond .eq 42, 3) := by decide +kernel
theorem dX12_act_17 : decode cX12_act 17 = .ok (.iload_n 3, 1) := by decide +kernel
theorem dX12_act_18 : decode cX12_act 18 = .ok (.aload_n 0, 1) := by decide +kernel
theorem dX12_act_19 : decode cX12_act 19 = .ok (.getfield 46, 3) := by decide +kernel
theorem dX12_act_22 : decode cX12_act 22 = .ok (.iload_n 1, 1) := by decide +kernel
theorem dX12_act_23 : decode cX12_act 23 = .ok (.iaload, 1) := by decide +kernel
theorem dX12_act_24 : decode cX12_act 24 = .ok (.aload_n 0, 1) := by decide +kernel
theorem dX12_act_25 : decode cX12_act 25 = .ok (.getfield 197, 3) := by decide +kernel
theorem dX12_act_28 : decode cX12_act 28 = .ok (.invokestatic 200, 3) := by decide +kernel
theorem dX12_act_31 : decode cX12_act 31 = .ok (.ifCond .eq 25, 3) := by decide +kernel
theorem dX12_act_34 : decode cX12_act 34 = .ok (.iload 4, 2) := by decide +kernel
theorem dX12_act_36 : decode cX12_act 36 = .ok (.ldc 240, 2) := by decide +kernel
theorem dX12_act_38 : decode cX12_act 38 = .ok (.ldc 241, 2) := by decide +kernel
theorem dX12_act_40 : decode cX12_act 40 = .ok (.invokestatic 200, 3) := by decide +kernel
theorem dX12_act_43 : decode cX12_act 43 = .ok (.ifCond .eq 13, 3) := by decide +kernel
theorem dX12_act_46 : decode cX12_act 46 = .ok (.aload_n 0, 1) := by decide +kernel
theorem dX12_act_47 : decode cX12_act 47 = .ok (.getfield 234, 3) := by decide +kernel
theorem dX12_act_50 : decode cX12_act 50 = .ok (.sipush 600, 3) := by decide +kernel
theorem dX12_act_53 : decode cX12_act 53 = .ok (.if_icmp .ne 5, 3) := by decide +kernel
theorem dX12_act_56 : decode cX12_act 56 = .ok (.iconst 0, 1) := by decide +kernel
theorem dX12_act_57 : decode cX12_act 57 = .ok (.ireturn, 1) := by decide +kernel
theorem dX12_act_58 : decode cX12_act 58 = .ok (.aload_n 0, 1) := by decide +kernel
theorem dX12_act_59 : decode cX12_act 59 = .ok (.iload_n 1, 1) := by decide +kernel
theorem dX12_act_60 : decode cX12_act 60 = .ok (.iload_n 2, 1) := by decide +kernel
theorem dX12_act_61 : decode cX12_act 61 = .ok (.iload_n 3, 1) := by decide +kernel
theorem dX12_act_62 : decode cX12_act 62 = .ok (.iload 4, 2) := by decide +kernel
theorem dX12_act_64 : decode cX12_act 64 = .ok (.iconst 1, 1) := by decide +kernel
theorem dX12_act_65 : decode cX12_act 65 = .ok (.invokevirtual 242, 3) := by decide +kernel
theorem dX12_act_68 : decode cX12_act 68 = .ok (.iconst 1, 1) := by decide +kernel
theorem dX12_act_69 : decode cX12_act 69 = .ok (.ireturn, 1) := by decide +kernel
theorem dX12_grow_0 : decode cX12_grow 0 = .ok (.aload_n 0, 1) := by decide +kernel
theorem dX12_grow_1 : decode cX12_grow 1 = .ok (.iload_n 1, 1) := by decide +kernel
theorem dX12_grow_2 : decode cX12_grow 2 = .ok (.invokevirtual 237, 3) := by decide +kernel
theorem dX12_grow_5 : decode cX12_grow 5 = .ok (.ifCond .eq 51, 3) := by decide +kernel
theorem dX12_grow_8 : decode cX12_grow 8 = .ok (.iload_n 2, 1) := by decide +kernel
theorem dX12_grow_9 : decode cX12_grow 9 = .ok (.aload_n 0, 1) := by decide +kernel
theorem dX12_grow_10 : decode cX12_grow 10 = .ok (.getfield 46, 3) := by decide +kernel
theorem dX12_grow_13 : decode cX12_grow 13 = .ok (.iload_n 1, 1) := by decide +kernel
theorem dX12_grow_14 : decode cX12_grow 14 = .ok (.iaload, 1) := by decide +kernel
theorem dX12_grow_15 : decode cX12_grow 15 = .ok (.aload_n 0, 1) := by decide +kernel
theorem dX12_grow_16 : decode cX12_grow 16 = .ok (.getfield 197, 3) := by decide +kernel
theorem dX12_grow_19 : decode cX12_grow 19 = .ok (.invokestatic 200, 3) := by decide +kernel
theorem dX12_grow_22 : decode cX12_grow 22 = .ok (.ifCond .eq 34, 3) := by decide +kernel
theorem dX12_grow_25 : decode cX12_grow 25 = .ok (.iload_n 3, 1) := by decide +kernel
theorem dX12_grow_26 : decode cX12_grow 26 = .ok (.iconst 1, 1) := by decide +kernel
theorem dX12_grow_27 : decode cX12_grow 27 = .ok (.bipush 9, 2) := by decide +kernel
theorem dX12_grow_29 : decode cX12_grow 29 = .ok (.invokestatic 200, 3) := by decide +kernel
theorem dX12_grow_32 : decode cX12_grow 32 = .ok (.ifCond .eq 24, 3) := by decide +kernel
theorem dX12_grow_35 : decode cX12_grow 35 = .ok (.iload 4, 2) := by decide +kernel
theorem dX12_grow_37 : decode cX12_grow 37 = .ok (.iconst 1, 1) := by decide +kernel
theorem dX12_grow_38 : decode cX12_grow 38 = .ok (.bipush 9, 2) := by decide +kernel
theorem dX12_grow_40 : decode cX12_grow 40 = .ok (.invokestatic 200, 3) := by decide +kernel
theorem dX12_grow_43 : decode cX12_grow 43 = .ok (.ifCond .eq 13, 3) := by decide +kernel
theorem dX12_grow_46 : decode cX12_grow 46 = .ok (.aload_n 0, 1) := by decide +kernel
theorem dX12_grow_47 : decode cX12_grow 47 = .ok (.getfield 234, 3) := by decide +kernel
theorem dX12_grow_50 : decode cX12_grow 50 = .ok (.sipush 600, 3) := by decide +kernel
theorem dX12_grow_53 : decode cX12_grow 53 = .ok (.if_icmp .ne 5, 3) := by decide +kernel
theorem dX12_grow_56 : decode cX12_grow 56 = .ok (.iconst 0, 1) := by decide +kernel
theorem dX12_grow_57 : decode cX12_grow 57 = .ok (.ireturn, 1) := by decide +kernel
theorem dX12_grow_58 : decode cX12_grow 58 = .ok (.iconst 0, 1) := by decide +kernel
theorem dX12_grow_59 : decode cX12_grow 59 = .ok (.istore 5, 2) := by decide +kernel
theorem dX12_grow_61 : decode cX12_grow 61 = .ok (.iconst 0, 1) := by decide +kernel
theorem dX12_grow_62 : decode cX12_grow 62 = .ok (.istore 6, 2) := by decide +kernel
theorem dX12_grow_64 : decode cX12_grow 64 = .ok (.iload 6, 2) := by decide +kernel
theorem dX12_grow_66 : decode cX12_grow 66 = .ok (.aload_n 0, 1) := by decide +kernel
theorem dX12_grow_67 : decode cX12_grow 67 = .ok (.getfield 234, 3) := by decide +kernel
theorem dX12_grow_70 : decode cX12_grow 70 = .ok (.if_icmp .ge 51, 3) := by decide +kernel
theorem dX12_grow_73 : decode cX12_grow 73 = .ok (.aload_n 0, 1) := by decide +kernel
theorem dX12_grow_74 : decode cX12_grow 74 = .ok (.getfield 49, 3) := by decide +kernel
theorem dX12_grow_77 : decode cX12_grow 77 = .ok (.iload 6, 2) := by decide +kernel
theorem dX12_grow_79 : decode cX12_grow 79 = .ok (.iaload, 1) := by decide +kernel
theorem dX12_grow_80 : decode cX12_grow 80 = .ok (.iload_n 1, 1) := by decide +kernel
theorem dX12_grow_81 : decode cX12_grow 81 = .ok (.if_icmp .ne 34, 3) := by decide +kernel
theorem dX12_grow_84 : decode cX12_grow 84 = .ok (.aload_n 0, 1) := by decide +kernel
theorem dX12_grow_85 : decode cX12_grow 85 = .ok (.getfield 52, 3) := by decide +kernel
theorem dX12_grow_88 : decode cX12_grow 88 = .ok (.iload 6, 2) := by decide +kernel
theorem dX12_grow_90 : decode cX12_grow 90 = .ok (.iaload, 1) := by decide +kernel
theorem dX12_grow_91 : decode cX12_grow 91 = .ok (.bipush 6, 2) := by decide +kernel
theorem dX12_grow_93 : decode cX12_grow 93 = .ok (.if_icmp .eq 6, 3) := by decide +kernel
theorem dX12_grow_96 : decode cX12_grow 96 = .ok (.goto 19, 3) := by decide +kernel
theorem dX12_grow_99 : decode cX12_grow 99 = .ok (.aload_n 0, 1) := by decide +kernel
theorem dX12_grow_100 : decode cX12_grow 100 = .ok (.getfield 55, 3) := by decide +kernel
theorem dX12_grow_103 : decode cX12_grow 103 = .ok (.iload 6, 2) := by decide +kernel
theorem dX12_grow_105 : decode cX12_grow 105 = .ok (.iaload, 1) := by decide +kernel
theorem dX12_grow_106 : decode cX12_grow 106 = .ok (.iload_n 2, 1) := by decide +kernel
theorem dX12_grow_107 : decode cX12_grow 107 = .ok (.if_icmp .ne 5, 3) := by decide +kernel
theorem dX12_grow_110 : decode cX12_grow 110 = .ok (.iconst 0, 1) := by decide +kernel
theorem dX12_grow_111 : decode cX12_grow 111 = .ok (.ireturn, 1) := by decide +kernel
theorem dX12_grow_112 : decode cX12_grow 112 = .ok (.iinc 5 1, 3) := by decide +kernel
theorem dX12_grow_115 : decode cX12_grow 115 = .ok (.iinc 6 1, 3) := by decide +kernel
theorem dX12_grow_118 : decode cX12_grow 118 = .ok (.goto (-54), 3) := by decide +kernel
theorem dX12_grow_121 : decode cX12_grow 121 = .ok (.iload 5, 2) := by decide +kernel
theorem dX12_grow_123 : decode cX12_grow 123 = .ok (.iconst 4, 1) := by decide +kernel
theorem dX12_grow_124 : decode cX12_grow 124 = .ok (.if_icmp .ne 5, 3) := by decide +kernel
theorem dX12_grow_127 : decode cX12_grow 127 = .ok (.iconst 0, 1) := by decide +kernel
theorem dX12_grow_128 : decode cX12_grow 128 = .ok (.ireturn, 1) := by decide +kernel
theorem dX12_grow_129 : decode cX12_grow 129 = .ok (.aload_n 0, 1) := by decide +kernel
theorem dX12_grow_130 : decode cX12_grow 130 = .ok (.iload_n 1, 1) := by decide +kernel
theorem dX12_grow_131 : decode cX12_grow 131 = .ok (.bipush 6, 2) := by decide +kernel
theorem dX12_grow_133 : decode cX12_grow 133 = .ok (.iload_n 2, 1) := by decide +kernel
theorem dX12_grow_134 : decode cX12_grow 134 = .ok (.iload_n 3, 1) := by decide +kernel
theorem dX12_grow_135 : decode cX12_grow 135 = .ok (.iload 4, 2) := by decide +kernel
theorem dX12_grow_137 : decode cX12_grow 137 = .ok (.invokevirtual 242, 3) := by decide +kernel
theorem dX12_grow_140 : decode cX12_grow 140 = .ok (.iconst 1, 1) := by decide +kernel
theorem dX12_grow_141 : decode cX12_grow 141 = .ok (.ireturn, 1) := by decide +kernel
theorem dX12_nextDay_0 : decode cX12_nextDay 0 = .ok (.iconst (-1), 1) := by decide +kernel
theorem dX12_nextDay_1 : decode cX12_nextDay 1 = .ok (.istore 4, 2) := by decide +kernel
theorem dX12_nextDay_3 : decode cX12_nextDay 3 = .ok (.iconst 0, 1) := by decide +kernel
theorem dX12_nextDay_4 : decode cX12_nextDay 4 = .ok (.istore 5, 2) := by decide +kernel
theorem dX12_nextDay_6 : decode cX12_nextDay 6 = .ok (.iload 5, 2) := by decide +kernel
theorem dX12_nextDay_8 : decode cX12_nextDay 8 = .ok (.aload_n 0, 1) := by decide +kernel
theorem dX12_nextDay_9 : decode cX12_nextDay 9 = .ok (.getfield 234, 3) := by decide +kernel
theorem dX12_nextDay_12 : decode cX12_nextDay 12 = .ok (.if_icmp .ge 69, 3) := by decide +kernel
theorem dX12_nextDay_15 : decode cX12_nextDay 15 = .ok (.aload_n 0, 1) := by decide +kernel
theorem dX12_nextDay_16 : decode cX12_nextDay 16 = .ok (.getfield 49, 3) := by decide +kernel
theorem dX12_nextDay_19 : decode cX12_nextDay 19 = .ok (.iload 5, 2) := by decide +kernel
theorem dX12_nextDay_21 : decode cX12_nextDay 21 = .ok (.iaload, 1) := by decide +kernel
theorem dX12_nextDay_22 : decode cX12_nextDay 22 = .ok (.iload_n 1, 1) := by decide +kernel
theorem dX12_nextDay_23 : decode cX12_nextDay 23 = .ok (.if_icmp .ne 52, 3) := by decide +kernel
theorem dX12_nextDay_26 : decode cX12_nextDay 26 = .ok (.aload_n 0, 1) := by decide +kernel
theorem dX12_nextDay_27 : decode cX12_nextDay 27 = .ok (.getfield 64, 3) := by decide +kernel
theorem dX12_nextDay_30 : decode cX12_nextDay 30 = .ok (.iload 5, 2) := by decide +kernel
theorem dX12_nextDay_32 : decode cX12_nextDay 32 = .ok (.iaload, 1) := by decide +kernel
theorem dX12_nextDay_33 : decode cX12_nextDay 33 = .ok (.iload_n 3, 1) := by decide +kernel
theorem dX12_nextDay_34 : decode cX12_nextDay 34 = .ok (.if_icmp .gt 41, 3) := by decide +kernel
theorem dX12_nextDay_37 : decode cX12_nextDay 37 = .ok (.aload_n 0, 1) := by decide +kernel
theorem dX12_nextDay_38 : decode cX12_nextDay 38 = .ok (.getfield 55, 3) := by decide +kernel
theorem dX12_nextDay_41 : decode cX12_nextDay 41 = .ok (.iload 5, 2) := by decide +kernel
theorem dX12_nextDay_43 : decode cX12_nextDay 43 = .ok (.iaload, 1) := by decide +kernel
theorem dX12_nextDay_44 : decode cX12_nextDay 44 = .ok (.iload_n 2, 1) := by decide +kernel
theorem dX12_nextDay_45 : decode cX12_nextDay 45 = .ok (.if_icmp .lt 30, 3) := by decide +kernel
theorem dX12_nextDay_48 : decode cX12_nextDay 48 = .ok (.iload 4, 2) := by decide +kernel
theorem dX12_nextDay_50 : decode cX12_nextDay 50 = .ok (.iconst (-1), 1) := by decide +kernel
theorem dX12_nextDay_51 : decode cX12_nextDay 51 = .ok (.if_icmp .eq 15, 3) := by decide +kernel
theorem dX12_nextDay_54 : decode cX12_nextDay 54 = .ok (.aload_n 0, 1) := by decide +kernel
theorem dX12_nextDay_55 : decode cX12_nextDay 55 = .ok (.getfield 55, 3) := by decide +kernel
theorem dX12_nextDay_58 : decode cX12_nextDay 58 = .ok (.iload 5, 2) := by decide +kernel
theorem dX12_nextDay_60 : decode cX12_nextDay 60 = .ok (.iaload, 1) := by decide +kernel
theorem dX12_nextDay_61 : decode cX12_nextDay 61 = .ok (.iload 4, 2) := by decide +kernel
theorem dX12_nextDay_63 : decode cX12_nextDay 63 = .ok (.if_icmp .ge 12, 3) := by decide +kernel
theorem dX12_nextDay_66 : decode cX12_nextDay 66 = .ok (.aload_n 0, 1) := by decide +kernel
theorem dX12_nextDay_67 : decode cX12_nextDay 67 = .ok (.getfield 55, 3) := by decide +kernel
theorem dX12_nextDay_70 : decode cX12_nextDay 70 = .ok (.iload 5, 2) := by decide +kernel
theorem dX12_nextDay_72 : decode cX12_nextDay 72 = .ok (.iaload, 1) := by decide +kernel
theorem dX12_nextDay_73 : decode cX12_nextDay 73 = .ok (.istore 4, 2) := by decide +kernel
theorem dX12_nextDay_75 : decode cX12_nextDay 75 = .ok (.iinc 5 1, 3) := by decide +kernel
theorem dX12_nextDay_78 : decode cX12_nextDay 78 = .ok (.goto (-72), 3) := by decide +kernel
theorem dX12_nextDay_81 : decode cX12_nextDay 81 = .ok (.iload 4, 2) := by decide +kernel
theorem dX12_nextDay_83 : decode cX12_nextDay 83 = .ok (.ireturn, 1) := by decide +kernel
theorem dX12_sumOf_0 : decode cX12_sumOf 0 = .ok (.lconst 0, 1) := by decide +kernel
theorem dX12_sumOf_1 : decode cX12_sumOf 1 = .ok (.lstore 4, 2) := by decide +kernel
theorem dX12_sumOf_3 : decode cX12_sumOf 3 = .ok (.aload_n 0, 1) := by decide +kernel
theorem dX12_sumOf_4 : decode cX12_sumOf 4 = .ok (.iload_n 1, 1) := by decide +kernel
theorem dX12_sumOf_5 : decode cX12_sumOf 5 = .ok (.iconst 0, 1) := by decide +kernel
theorem dX12_sumOf_6 : decode cX12_sumOf 6 = .ok (.iload_n 3, 1) := by decide +kernel
theorem dX12_sumOf_7 : decode cX12_sumOf 7 = .ok (.invokevirtual 246, 3) := by decide +kernel
theorem dX12_sumOf_10 : decode cX12_sumOf 10 = .ok (.istore 6, 2) := by decide +kernel
theorem dX12_sumOf_12 : decode cX12_sumOf 12 = .ok (.iload 6, 2) := by decide +kernel
theorem dX12_sumOf_14 : decode cX12_sumOf 14 = .ok (.iconst (-1), 1) := by decide +kernel
theorem dX12_sumOf_15 : decode cX12_sumOf 15 = .ok (.if_icmp .eq 229, 3) := by decide +kernel
theorem dX12_sumOf_18 : decode cX12_sumOf 18 = .ok (.iload 6, 2) := by decide +kernel
theorem dX12_sumOf_20 : decode cX12_sumOf 20 = .ok (.iload_n 2, 1) := by decide +kernel
theorem dX12_sumOf_21 : decode cX12_sumOf 21 = .ok (.if_icmp .gt 223, 3) := by decide +kernel
theorem dX12_sumOf_24 : decode cX12_sumOf 24 = .ok (.iconst 0, 1) := by decide +kernel
theorem dX12_sumOf_25 : decode cX12_sumOf 25 = .ok (.istore 7, 2) := by decide +kernel
theorem dX12_sumOf_27 : decode cX12_sumOf 27 = .ok (.iload 7, 2) := by decide +kernel
theorem dX12_sumOf_29 : decode cX12_sumOf 29 = .ok (.aload_n 0, 1) := by decide +kernel
theorem dX12_sumOf_30 : decode cX12_sumOf 30 = .ok (.getfield 234, 3) := by decide +kernel
theorem dX12_sumOf_33 : decode cX12_sumOf 33 = .ok (.if_icmp .ge 119, 3) := by decide +kernel
theorem dX12_sumOf_36 : decode cX12_sumOf 36 = .ok (.aload_n 0, 1) := by decide +kernel
theorem dX12_sumOf_37 : decode cX12_sumOf 37 = .ok (.getfield 49, 3) := by decide +kernel
theorem dX12_sumOf_40 : decode cX12_sumOf 40 = .ok (.iload 7, 2) := by decide +kernel
theorem dX12_sumOf_42 : decode cX12_sumOf 42 = .ok (.iaload, 1) := by decide +kernel
theorem dX12_sumOf_43 : decode cX12_sumOf 43 = .ok (.iload_n 1, 1) := by decide +kernel
theorem dX12_sumOf_44 : decode cX12_sumOf 44 = .ok (.if_icmp .ne 102, 3) := by decide +kernel
theorem dX12_sumOf_47 : decode cX12_sumOf 47 = .ok (.aload_n 0, 1) := by decide +kernel
theorem dX12_sumOf_48 : decode cX12_sumOf 48 = .ok (.getfield 55, 3) := by decide +kernel
theorem dX12_sumOf_51 : decode cX12_sumOf 51 = .ok (.iload 7, 2) := by decide +kernel
theorem dX12_sumOf_53 : decode cX12_sumOf 53 = .ok (.iaload, 1) := by decide +kernel
theorem dX12_sumOf_54 : decode cX12_sumOf 54 = .ok (.iload 6, 2) := by decide +kernel
theorem dX12_sumOf_56 : decode cX12_sumOf 56 = .ok (.if_icmp .ne 90, 3) := by decide +kernel
theorem dX12_sumOf_59 : decode cX12_sumOf 59 = .ok (.aload_n 0, 1) := by decide +kernel
theorem dX12_sumOf_60 : decode cX12_sumOf 60 = .ok (.getfield 64, 3) := by decide +kernel
theorem dX12_sumOf_63 : decode cX12_sumOf 63 = .ok (.iload 7, 2) := by decide +kernel
theorem dX12_sumOf_65 : decode cX12_sumOf 65 = .ok (.iaload, 1) := by decide +kernel
theorem dX12_sumOf_66 : decode cX12_sumOf 66 = .ok (.iload_n 3, 1) := by decide +kernel
theorem dX12_sumOf_67 : decode cX12_sumOf 67 = .ok (.if_icmp .gt 79, 3) := by decide +kernel
theorem dX12_sumOf_70 : decode cX12_sumOf 70 = .ok (.aload_n 0, 1) := by decide +kernel
theorem dX12_sumOf_71 : decode cX12_sumOf 71 = .ok (.getfield 52, 3) := by decide +kernel
theorem dX12_sumOf_74 : decode cX12_sumOf 74 = .ok (.iload 7, 2) := by decide +kernel
theorem dX12_sumOf_76 : decode cX12_sumOf 76 = .ok (.iaload, 1) := by decide +kernel
theorem dX12_sumOf_77 : decode cX12_sumOf 77 = .ok (.bipush 6, 2) := by decide +kernel
theorem dX12_sumOf_79 : decode cX12_sumOf 79 = .ok (.if_icmp .eq 6, 3) := by decide +kernel
theorem dX12_sumOf_82 : decode cX12_sumOf 82 = .ok (.goto 64, 3) := by decide +kernel
theorem dX12_sumOf_85 : decode cX12_sumOf 85 = .ok (.lload 4, 2) := by decide +kernel
theorem dX12_sumOf_87 : decode cX12_sumOf 87 = .ok (.aload_n 0, 1) := by decide +kernel
theorem dX12_sumOf_88 : decode cX12_sumOf 88 = .ok (.getfield 58, 3) := by decide +kernel
theorem dX12_sumOf_91 : decode cX12_sumOf 91 = .ok (.iload 7, 2) := by decide +kernel
theorem dX12_sumOf_93 : decode cX12_sumOf 93 = .ok (.iaload, 1) := by decide +kernel
theorem dX12_sumOf_94 : decode cX12_sumOf 94 = .ok (.i2l, 1) := by decide +kernel
theorem dX12_sumOf_95 : decode cX12_sumOf 95 = .ok (.lmul, 1) := by decide +kernel
theorem dX12_sumOf_96 : decode cX12_sumOf 96 = .ok (.lstore 8, 2) := by decide +kernel
theorem dX12_sumOf_98 : decode cX12_sumOf 98 = .ok (.lload 8, 2) := by decide +kernel
theorem dX12_sumOf_100 : decode cX12_sumOf 100 = .ok (.aload_n 0, 1) := by decide +kernel
theorem dX12_sumOf_101 : decode cX12_sumOf 101 = .ok (.getfield 61, 3) := by decide +kernel
theorem dX12_sumOf_104 : decode cX12_sumOf 104 = .ok (.iload 7, 2) := by decide +kernel
theorem dX12_sumOf_106 : decode cX12_sumOf 106 = .ok (.iaload, 1) := by decide +kernel
theorem dX12_sumOf_107 : decode cX12_sumOf 107 = .ok (.i2l, 1) := by decide +kernel
theorem dX12_sumOf_108 : decode cX12_sumOf 108 = .ok (.ldiv, 1) := by decide +kernel
theorem dX12_sumOf_109 : decode cX12_sumOf 109 = .ok (.lstore 10, 2) := by decide +kernel
theorem dX12_sumOf_111 : decode cX12_sumOf 111 = .ok (.lload 8, 2) := by decide +kernel
theorem dX12_sumOf_113 : decode cX12_sumOf 113 = .ok (.lconst 0, 1) := by decide +kernel
theorem dX12_sumOf_114 : decode cX12_sumOf 114 = .ok (.lcmp, 1) := by decide +kernel
theorem dX12_sumOf_115 : decode cX12_sumOf 115 = .ok (.ifCond .ge 27, 3) := by decide +kernel
theorem dX12_sumOf_118 : decode cX12_sumOf 118 = .ok (.lload 10, 2) := by decide +kernel
theorem dX12_sumOf_120 : decode cX12_sumOf 120 = .ok (.aload_n 0, 1) := by decide +kernel
theorem dX12_sumOf_121 : decode cX12_sumOf 121 = .ok (.getfield 61, 3) := by decide +kernel
theorem dX12_sumOf_124 : decode cX12_sumOf 124 = .ok (.iload 7, 2) := by decide +kernel
theorem dX12_sumOf_126 : decode cX12_sumOf 126 = .ok (.iaload, 1) := by decide +kernel
theorem dX12_sumOf_127 : decode cX12_sumOf 127 = .ok (.i2l, 1) := by decide +kernel
theorem dX12_sumOf_128 : decode cX12_sumOf 128 = .ok (.lmul, 1) := by decide +kernel
theorem dX12_sumOf_129 : decode cX12_sumOf 129 = .ok (.lload 8, 2) := by decide +kernel
theorem dX12_sumOf_131 : decode cX12_sumOf 131 = .ok (.lcmp, 1) := by decide +kernel
theorem dX12_sumOf_132 : decode cX12_sumOf 132 = .ok (.ifCond .eq 10, 3) := by decide +kernel
theorem dX12_sumOf_135 : decode cX12_sumOf 135 = .ok (.lload 10, 2) := by decide +kernel
theorem dX12_sumOf_137 : decode cX12_sumOf 137 = .ok (.lconst 1, 1) := by decide +kernel
theorem dX12_sumOf_138 : decode cX12_sumOf 138 = .ok (.lsub, 1) := by decide +kernel
theorem dX12_sumOf_139 : decode cX12_sumOf 139 = .ok (.goto 5, 3) := by decide +kernel
theorem dX12_sumOf_142 : decode cX12_sumOf 142 = .ok (.lload 10, 2) := by decide +kernel
theorem dX12_sumOf_144 : decode cX12_sumOf 144 = .ok (.lstore 4, 2) := by decide +kernel
theorem dX12_sumOf_146 : decode cX12_sumOf 146 = .ok (.iinc 7 1, 3) := by decide +kernel
theorem dX12_sumOf_149 : decode cX12_sumOf 149 = .ok (.goto (-122), 3) := by decide +kernel
theorem dX12_sumOf_152 : decode cX12_sumOf 152 = .ok (.iconst 0, 1) := by decide +kernel
theorem dX12_sumOf_153 : decode cX12_sumOf 153 = .ok (.istore 7, 2) := by decide +kernel
theorem dX12_sumOf_155 : decode cX12_sumOf 155 = .ok (.iload 7, 2) := by decide +kernel
theorem dX12_sumOf_157 : decode cX12_sumOf 157 = .ok (.aload_n 0, 1) := by decide +kernel
theorem dX12_sumOf_158 : decode cX12_sumOf 158 = .ok (.getfield 234, 3) := by decide +kernel
theorem dX12_sumOf_161 : decode cX12_sumOf 161 = .ok (.if_icmp .ge 68, 3) := by decide +kernel
theorem dX12_sumOf_164 : decode cX12_sumOf 164 = .ok (.aload_n 0, 1) := by decide +kernel
theorem dX12_sumOf_165 : decode cX12_sumOf 165 = .ok (.getfield 49, 3) := by decide +kernel
theorem dX12_sumOf_168 : decode cX12_sumOf 168 = .ok (.iload 7, 2) := by decide +kernel
theorem dX12_sumOf_170 : decode cX12_sumOf 170 = .ok (.iaload, 1) := by decide +kernel
theorem dX12_sumOf_171 : decode cX12_sumOf 171 = .ok (.iload_n 1, 1) := by decide +kernel
theorem dX12_sumOf_172 : decode cX12_sumOf 172 = .ok (.if_icmp .ne 51, 3) := by decide +kernel
theorem dX12_sumOf_175 : decode cX12_sumOf 175 = .ok (.aload_n 0, 1) := by decide +kernel
theorem dX12_sumOf_176 : decode cX12_sumOf 176 = .ok (.getfield 55, 3) := by decide +kernel
theorem dX12_sumOf_179 : decode cX12_sumOf 179 = .ok (.iload 7, 2) := by decide +kernel
theorem dX12_sumOf_181 : decode cX12_sumOf 181 = .ok (.iaload, 1) := by decide +kernel
theorem dX12_sumOf_182 : decode cX12_sumOf 182 = .ok (.iload 6, 2) := by decide +kernel
theorem dX12_sumOf_184 : decode cX12_sumOf 184 = .ok (.if_icmp .ne 39, 3) := by decide +kernel
theorem dX12_sumOf_187 : decode cX12_sumOf 187 = .ok (.aload_n 0, 1) := by decide +kernel
theorem dX12_sumOf_188 : decode cX12_sumOf 188 = .ok (.getfield 64, 3) := by decide +kernel
theorem dX12_sumOf_191 : decode cX12_sumOf 191 = .ok (.iload 7, 2) := by decide +kernel
theorem dX12_sumOf_193 : decode cX12_sumOf 193 = .ok (.iaload, 1) := by decide +kernel
theorem dX12_sumOf_194 : decode cX12_sumOf 194 = .ok (.iload_n 3, 1) := by decide +kernel
theorem dX12_sumOf_195 : decode cX12_sumOf 195 = .ok (.if_icmp .gt 28, 3) := by decide +kernel
theorem dX12_sumOf_198 : decode cX12_sumOf 198 = .ok (.aload_n 0, 1) := by decide +kernel
theorem dX12_sumOf_199 : decode cX12_sumOf 199 = .ok (.getfield 52, 3) := by decide +kernel
theorem dX12_sumOf_202 : decode cX12_sumOf 202 = .ok (.iload 7, 2) := by decide +kernel
theorem dX12_sumOf_204 : decode cX12_sumOf 204 = .ok (.iaload, 1) := by decide +kernel
theorem dX12_sumOf_205 : decode cX12_sumOf 205 = .ok (.bipush 6, 2) := by decide +kernel
theorem dX12_sumOf_207 : decode cX12_sumOf 207 = .ok (.if_icmp .eq 16, 3) := by decide +kernel
theorem dX12_sumOf_210 : decode cX12_sumOf 210 = .ok (.lload 4, 2) := by decide +kernel
theorem dX12_sumOf_212 : decode cX12_sumOf 212 = .ok (.aload_n 0, 1) := by decide +kernel
theorem dX12_sumOf_213 : decode cX12_sumOf 213 = .ok (.getfield 58, 3) := by decide +kernel
theorem dX12_sumOf_216 : decode cX12_sumOf 216 = .ok (.iload 7, 2) := by decide +kernel
theorem dX12_sumOf_218 : decode cX12_sumOf 218 = .ok (.iaload, 1) := by decide +kernel
theorem dX12_sumOf_219 : decode cX12_sumOf 219 = .ok (.i2l, 1) := by decide +kernel
theorem dX12_sumOf_220 : decode cX12_sumOf 220 = .ok (.ladd, 1) := by decide +kernel
theorem dX12_sumOf_221 : decode cX12_sumOf 221 = .ok (.lstore 4, 2) := by decide +kernel
theorem dX12_sumOf_223 : decode cX12_sumOf 223 = .ok (.iinc 7 1, 3) := by decide +kernel
theorem dX12_sumOf_226 : decode cX12_sumOf 226 = .ok (.goto (-71), 3) := by decide +kernel
theorem dX12_sumOf_229 : decode cX12_sumOf 229 = .ok (.aload_n 0, 1) := by decide +kernel
theorem dX12_sumOf_230 : decode cX12_sumOf 230 = .ok (.iload_n 1, 1) := by decide +kernel
theorem dX12_sumOf_231 : decode cX12_sumOf 231 = .ok (.iload 6, 2) := by decide +kernel
theorem dX12_sumOf_233 : decode cX12_sumOf 233 = .ok (.iconst 1, 1) := by decide +kernel
theorem dX12_sumOf_234 : decode cX12_sumOf 234 = .ok (.iadd, 1) := by decide +kernel
theorem dX12_sumOf_235 : decode cX12_sumOf 235 = .ok (.iload_n 3, 1) := by decide +kernel
theorem dX12_sumOf_236 : decode cX12_sumOf 236 = .ok (.invokevirtual 246, 3) := by decide +kernel
theorem dX12_sumOf_239 : decode cX12_sumOf 239 = .ok (.istore 6, 2) := by decide +kernel
theorem dX12_sumOf_241 : decode cX12_sumOf 241 = .ok (.goto (-229), 3) := by decide +kernel
theorem dX12_sumOf_244 : decode cX12_sumOf 244 = .ok (.lload 4, 2) := by decide +kernel
theorem dX12_sumOf_246 : decode cX12_sumOf 246 = .ok (.lreturn, 1) := by decide +kernel
theorem dX12_sumNow_0 : decode cX12_sumNow 0 = .ok (.aload_n 0, 1) := by decide +kernel
theorem dX12_sumNow_1 : decode cX12_sumNow 1 = .ok (.iload_n 1, 1) := by decide +kernel
theorem dX12_sumNow_2 : decode cX12_sumNow 2 = .ok (.iload_n 2, 1) := by decide +kernel
theorem dX12_sumNow_3 : decode cX12_sumNow 3 = .ok (.iload_n 3, 1) := by decide +kernel
theorem dX12_sumNow_4 : decode cX12_sumNow 4 = .ok (.invokevirtual 250, 3) := by decide +kernel
theorem dX12_sumNow_7 : decode cX12_sumNow 7 = .ok (.lstore 4, 2) := by decide +kernel
theorem dX12_sumNow_9 : decode cX12_sumNow 9 = .ok (.lload 4, 2) := by decide +kernel
theorem dX12_sumNow_11 : decode cX12_sumNow 11 = .ok (.lconst 0, 1) := by decide +kernel
theorem dX12_sumNow_12 : decode cX12_sumNow 12 = .ok (.lcmp, 1) := by decide +kernel
theorem dX12_sumNow_13 : decode cX12_sumNow 13 = .ok (.ifCond .ge 7, 3) := by decide +kernel
theorem dX12_sumNow_16 : decode cX12_sumNow 16 = .ok (.lconst 0, 1) := by decide +kernel
theorem dX12_sumNow_17 : decode cX12_sumNow 17 = .ok (.goto 5, 3) := by decide +kernel
theorem dX12_sumNow_20 : decode cX12_sumNow 20 = .ok (.lload 4, 2) := by decide +kernel
theorem dX12_sumNow_22 : decode cX12_sumNow 22 = .ok (.lreturn, 1) := by decide +kernel
theorem dX12_sum_0 : decode cX12_sum 0 = .ok (.aload_n 0, 1) := by decide +kernel
theorem dX12_sum_1 : decode cX12_sum 1 = .ok (.iload_n 1, 1) := by decide +kernel
theorem dX12_sum_2 : decode cX12_sum 2 = .ok (.invokevirtual 237, 3) := by decide +kernel
theorem dX12_sum_5 : decode cX12_sum 5 = .ok (.ifCond .eq 29, 3) := by decide +kernel
theorem dX12_sum_8 : decode cX12_sum 8 = .ok (.aload_n 0, 1) := by decide +kernel
theorem dX12_sum_9 : decode cX12_sum 9 = .ok (.iload_n 2, 1) := by decide +kernel
theorem dX12_sum_10 : decode cX12_sum 10 = .ok (.invokevirtual 220, 3) := by decide +kernel
theorem dX12_sum_13 : decode cX12_sum 13 = .ok (.ifCond .eq 21, 3) := by decide +kernel
theorem dX12_sum_16 : decode cX12_sum 16 = .ok (.aload_n 0, 1) := by decide +kernel
theorem dX12_sum_17 : decode cX12_sum 17 = .ok (.iload_n 3, 1) := by decide +kernel
theorem dX12_sum_18 : decode cX12_sum 18 = .ok (.invokevirtual 220, 3) := by decide +kernel
theorem dX12_sum_21 : decode cX12_sum 21 = .ok (.ifCond .eq 13, 3) := by decide +kernel
theorem dX12_sum_24 : decode cX12_sum 24 = .ok (.aload_n 0, 1) := by decide +kernel
theorem dX12_sum_25 : decode cX12_sum 25 = .ok (.iload_n 1, 1) := by decide +kernel
theorem dX12_sum_26 : decode cX12_sum 26 = .ok (.iload_n 2, 1) := by decide +kernel
theorem dX12_sum_27 : decode cX12_sum 27 = .ok (.iload_n 3, 1) := by decide +kernel
theorem dX12_sum_28 : decode cX12_sum 28 = .ok (.invokevirtual 254, 3) := by decide +kernel
theorem dX12_sum_31 : decode cX12_sum 31 = .ok (.goto 6, 3) := by decide +kernel
theorem dX12_sum_34 : decode cX12_sum 34 = .ok (.ldc2_w 257, 3) := by decide +kernel
theorem dX12_sum_37 : decode cX12_sum 37 = .ok (.lreturn, 1) := by decide +kernel
theorem dX12_clears_0 : decode cX12_clears 0 = .ok (.iconst 0, 1) := by decide +kernel
theorem dX12_clears_1 : decode cX12_clears 1 = .ok (.istore_n 2, 1) := by decide +kernel
theorem dX12_clears_2 : decode cX12_clears 2 = .ok (.iload_n 2, 1) := by decide +kernel
theorem dX12_clears_3 : decode cX12_clears 3 = .ok (.iconst 4, 1) := by decide +kernel
theorem dX12_clears_4 : decode cX12_clears 4 = .ok (.if_icmp .ge 20, 3) := by decide +kernel
theorem dX12_clears_7 : decode cX12_clears 7 = .ok (.aload_n 0, 1) := by decide +kernel
theorem dX12_clears_8 : decode cX12_clears 8 = .ok (.getfield 67, 3) := by decide +kernel
theorem dX12_clears_11 : decode cX12_clears 11 = .ok (.iconst 4, 1) := by decide +kernel
theorem dX12_clears_12 : decode cX12_clears 12 = .ok (.iload_n 1, 1) := by decide +kernel
theorem dX12_clears_13 : decode cX12_clears 13 = .ok (.imul, 1) := by decide +kernel
theorem dX12_clears_14 : decode cX12_clears 14 = .ok (.iload_n 2, 1) := by decide +kernel
theorem dX12_clears_15 : decode cX12_clears 15 = .ok (.iadd, 1) := by decide +kernel
theorem dX12_clears_16 : decode cX12_clears 16 = .ok (.iconst 5, 1) := by decide +kernel
theorem dX12_clears_17 : decode cX12_clears 17 = .ok (.iastore, 1) := by decide +kernel
theorem dX12_clears_18 : decode cX12_clears 18 = .ok (.iinc 2 1, 3) := by decide +kernel
theorem dX12_clears_21 : decode cX12_clears 21 = .ok (.goto (-19), 3) := by decide +kernel
theorem dX12_clears_24 : decode cX12_clears 24 = .ok (.aload_n 0, 1) := by decide +kernel
theorem dX12_clears_25 : decode cX12_clears 25 = .ok (.getfield 70, 3) := by decide +kernel
theorem dX12_clears_28 : decode cX12_clears 28 = .ok (.iload_n 1, 1) := by decide +kernel
theorem dX12_clears_29 : decode cX12_clears 29 = .ok (.bipush 63, 2) := by decide +kernel
theorem dX12_clears_31 : decode cX12_clears 31 = .ok (.iastore, 1) := by decide +kernel
theorem dX12_clears_32 : decode cX12_clears 32 = .ok (.aload_n 0, 1) := by decide +kernel
theorem dX12_clears_33 : decode cX12_clears 33 = .ok (.getfield 73, 3) := by decide +kernel
theorem dX12_clears_36 : decode cX12_clears 36 = .ok (.iload_n 1, 1) := by decide +kernel
theorem dX12_clears_37 : decode cX12_clears 37 = .ok (.bipush 30, 2) := by decide +kernel
theorem dX12_clears_39 : decode cX12_clears 39 = .ok (.iastore, 1) := by decide +kernel
theorem dX12_clears_40 : decode cX12_clears 40 = .ok (.aload_n 0, 1) := by decide +kernel
theorem dX12_clears_41 : decode cX12_clears 41 = .ok (.getfield 76, 3) := by decide +kernel
theorem dX12_clears_44 : decode cX12_clears 44 = .ok (.iload_n 1, 1) := by decide +kernel
theorem dX12_clears_45 : decode cX12_clears 45 = .ok (.bipush 10, 2) := by decide +kernel
theorem dX12_clears_47 : decode cX12_clears 47 = .ok (.iastore, 1) := by decide +kernel
theorem dX12_clears_48 : decode cX12_clears 48 = .ok (.aload_n 0, 1) := by decide +kernel
theorem dX12_clears_49 : decode cX12_clears 49 = .ok (.getfield 79, 3) := by decide +kernel
theorem dX12_clears_52 : decode cX12_clears 52 = .ok (.iload_n 1, 1) := by decide +kernel
theorem dX12_clears_53 : decode cX12_clears 53 = .ok (.iconst 0, 1) := by decide +kernel
theorem dX12_clears_54 : decode cX12_clears 54 = .ok (.iastore, 1) := by decide +kernel
theorem dX12_clears_55 : decode cX12_clears 55 = .ok (.aload_n 0, 1) := by decide +kernel
theorem dX12_clears_56 : decode cX12_clears 56 = .ok (.getfield 82, 3) := by decide +kernel
theorem dX12_clears_59 : decode cX12_clears 59 = .ok (.iload_n 1, 1) := by decide +kernel
theorem dX12_clears_60 : decode cX12_clears 60 = .ok (.iconst 0, 1) := by decide +kernel
theorem dX12_clears_61 : decode cX12_clears 61 = .ok (.iastore, 1) := by decide +kernel
theorem dX12_clears_62 : decode cX12_clears 62 = .ok (.aload_n 0, 1) := by decide +kernel
theorem dX12_clears_63 : decode cX12_clears 63 = .ok (.getfield 85, 3) := by decide +kernel
theorem dX12_clears_66 : decode cX12_clears 66 = .ok (.iload_n 1, 1) := by decide +kernel
theorem dX12_clears_67 : decode cX12_clears 67 = .ok (.iconst 0, 1) := by decide +kernel
theorem dX12_clears_68 : decode cX12_clears 68 = .ok (.iastore, 1) := by decide +kernel
theorem dX12_clears_69 : decode cX12_clears 69 = .ok (.return_, 1) := by decide +kernel
theorem dX12_feed_0 : decode cX12_feed 0 = .ok (.aload_n 0, 1) := by decide +kernel
theorem dX12_feed_1 : decode cX12_feed 1 = .ok (.getfield 259, 3) := by decide +kernel
theorem dX12_feed_4 : decode cX12_feed 4 = .ok (.bipush 20, 2) := by decide +kernel
theorem dX12_feed_6 : decode cX12_feed 6 = .ok (.iadd, 1) := by decide +kernel
theorem dX12_feed_7 : decode cX12_feed 7 = .ok (.sipush 600, 3) := by decide +kernel
theorem dX12_feed_10 : decode cX12_feed 10 = .ok (.if_icmp .le 5, 3) := by decide +kernel
theorem dX12_feed_13 : decode cX12_feed 13 = .ok (.iconst (-1), 1) := by decide +kernel
theorem dX12_feed_14 : decode cX12_feed 14 = .ok (.ireturn, 1) := by decide +kernel
theorem dX12_feed_15 : decode cX12_feed 15 = .ok (.iconst 0, 1) := by decide +kernel
theorem dX12_feed_16 : decode cX12_feed 16 = .ok (.istore 6, 2) := by decide +kernel
theorem dX12_feed_18 : decode cX12_feed 18 = .ok (.iload 6, 2) := by decide +kernel
theorem dX12_feed_20 : decode cX12_feed 20 = .ok (.bipush 20, 2) := by decide +kernel
theorem dX12_feed_22 : decode cX12_feed 22 = .ok (.if_icmp .ge 93, 3) := by decide +kernel
theorem dX12_feed_25 : decode cX12_feed 25 = .ok (.iload 6, 2) := by decide +kernel
theorem dX12_feed_27 : decode cX12_feed 27 = .ok (.iconst 4, 1) := by decide +kernel
theorem dX12_feed_28 : decode cX12_feed 28 = .ok (.if_icmp .ge 7, 3) := by decide +kernel
theorem dX12_feed_31 : decode cX12_feed 31 = .ok (.iload_n 1, 1) := by decide +kernel
theorem dX12_feed_32 : decode cX12_feed 32 = .ok (.goto 39, 3) := by decide +kernel
theorem dX12_feed_35 : decode cX12_feed 35 = .ok (.iload 6, 2) := by decide +kernel
theorem dX12_feed_37 : decode cX12_feed 37 = .ok (.bipush 8, 2) := by decide +kernel
theorem dX12_feed_39 : decode cX12_feed 39 = .ok (.if_icmp .ge 7, 3) := by decide +kernel
theorem dX12_feed_42 : decode cX12_feed 42 = .ok (.iload_n 2, 1) := by decide +kernel
theorem dX12_feed_43 : decode cX12_feed 43 = .ok (.goto 28, 3) := by decide +kernel
theorem dX12_feed_46 : decode cX12_feed 46 = .ok (.iload 6, 2) := by decide +kernel
theorem dX12_feed_48 : decode cX12_feed 48 = .ok (.bipush 12, 2) := by decide +kernel
theorem dX12_feed_50 : decode cX12_feed 50 = .ok (.if_icmp .ge 7, 3) := by decide +kernel
theorem dX12_feed_53 : decode cX12_feed 53 = .ok (.iload_n 3, 1) := by decide +kernel
theorem dX12_feed_54 : decode cX12_feed 54 = .ok (.goto 17, 3) := by decide +kernel
theorem dX12_feed_57 : decode cX12_feed 57 = .ok (.iload 6, 2) := by decide +kernel
theorem dX12_feed_59 : decode cX12_feed 59 = .ok (.bipush 16, 2) := by decide +kernel
theorem dX12_feed_61 : decode cX12_feed 61 = .ok (.if_icmp .ge 8, 3) := by decide +kernel
theorem dX12_feed_64 : decode cX12_feed 64 = .ok (.iload 4, 2) := by decide +kernel
theorem dX12_feed_66 : decode cX12_feed 66 = .ok (.goto 5, 3) := by decide +kernel
theorem dX12_feed_69 : decode cX12_feed 69 = .ok (.iload 5, 2) := by decide +kernel
theorem dX12_feed_71 : decode cX12_feed 71 = .ok (.istore 7, 2) := by decide +kernel
theorem dX12_feed_73 : decode cX12_feed 73 = .ok (.aload_n 0, 1) := by decide +kernel
theorem dX12_feed_74 : decode cX12_feed 74 = .ok (.getfield 115, 3) := by decide +kernel
theorem dX12_feed_77 : decode cX12_feed 77 = .ok (.aload_n 0, 1) := by decide +kernel
theorem dX12_feed_78 : decode cX12_feed 78 = .ok (.getfield 259, 3) := by decide +kernel
theorem dX12_feed_81 : decode cX12_feed 81 = .ok (.iload 7, 2) := by decide +kernel
theorem dX12_feed_83 : decode cX12_feed 83 = .ok (.bipush 24, 2) := by decide +kernel
theorem dX12_feed_85 : decode cX12_feed 85 = .ok (.bipush 8, 2) := by decide +kernel
theorem dX12_feed_87 : decode cX12_feed 87 = .ok (.iload 6, 2) := by decide +kernel
theorem dX12_feed_89 : decode cX12_feed 89 = .ok (.iconst 4, 1) := by decide +kernel
theorem dX12_feed_90 : decode cX12_feed 90 = .ok (.irem, 1) := by decide +kernel
theorem dX12_feed_91 : decode cX12_feed 91 = .ok (.imul, 1) := by decide +kernel
theorem dX12_feed_92 : decode cX12_feed 92 = .ok (.isub, 1) := by decide +kernel
theorem dX12_feed_93 : decode cX12_feed 93 = .ok (.ishr, 1) := by decide +kernel
theorem dX12_feed_94 : decode cX12_feed 94 = .ok (.sipush 255, 3) := by decide +kernel
theorem dX12_feed_97 : decode cX12_feed 97 = .ok (.iand, 1) := by decide +kernel
theorem dX12_feed_98 : decode cX12_feed 98 = .ok (.iastore, 1) := by decide +kernel
theorem dX12_feed_99 : decode cX12_feed 99 = .ok (.aload_n 0, 1) := by decide +kernel
theorem dX12_feed_100 : decode cX12_feed 100 = .ok (.dup, 1) := by decide +kernel
theorem dX12_feed_101 : decode cX12_feed 101 = .ok (.getfield 259, 3) := by decide +kernel
theorem dX12_feed_104 : decode cX12_feed 104 = .ok (.iconst 1, 1) := by decide +kernel
theorem dX12_feed_105 : decode cX12_feed 105 = .ok (.iadd, 1) := by decide +kernel
theorem dX12_feed_106 : decode cX12_feed 106 = .ok (.putfield 259, 3) := by decide +kernel
theorem dX12_feed_109 : decode cX12_feed 109 = .ok (.iinc 6 1, 3) := by decide +kernel
theorem dX12_feed_112 : decode cX12_feed 112 = .ok (.goto (-94), 3) := by decide +kernel
theorem dX12_feed_115 : decode cX12_feed 115 = .ok (.aload_n 0, 1) := by decide +kernel
theorem dX12_feed_116 : decode cX12_feed 116 = .ok (.getfield 259, 3) := by decide +kernel
theorem dX12_feed_119 : decode cX12_feed 119 = .ok (.ireturn, 1) := by decide +kernel
theorem dX12_end_0 : decode cX12_end 0 = .ok (.iload_n 1, 1) := by decide +kernel
theorem dX12_end_1 : decode cX12_end 1 = .ok (.iconst 0, 1) := by decide +kernel
theorem dX12_end_2 : decode cX12_end 2 = .ok (.aload_n 0, 1) := by decide +kernel
theorem dX12_end_3 : decode cX12_end 3 = .ok (.getfield 259, 3) := by decide +kernel
theorem dX12_end_6 : decode cX12_end 6 = .ok (.invokestatic 200, 3) := by decide +kernel
theorem dX12_end_9 : decode cX12_end 9 = .ok (.ifCond .ne 5, 3) := by decide +kernel
theorem dX12_end_12 : decode cX12_end 12 = .ok (.iconst 0, 1) := by decide +kernel
theorem dX12_end_13 : decode cX12_end 13 = .ok (.ireturn, 1) := by decide +kernel
theorem dX12_end_14 : decode cX12_end 14 = .ok (.aload_n 0, 1) := by decide +kernel
theorem dX12_end_15 : decode cX12_end 15 = .ok (.iload_n 1, 1) := by decide +kernel
theorem dX12_end_16 : decode cX12_end 16 = .ok (.putfield 259, 3) := by decide +kernel
theorem dX12_end_19 : decode cX12_end 19 = .ok (.iconst 1, 1) := by decide +kernel
theorem dX12_end_20 : decode cX12_end 20 = .ok (.ireturn, 1) := by decide +kernel
theorem dX12_see_0 : decode cX12_see 0 = .ok (.iload_n 1, 1) := by decide +kernel
theorem dX12_see_1 : decode cX12_see 1 = .ok (.aload_n 0, 1) := by decide +kernel
theorem dX12_see_2 : decode cX12_see 2 = .ok (.getfield 259, 3) := by decide +kernel
theorem dX12_see_5 : decode cX12_see 5 = .ok (.if_icmp .ge 12, 3) := by decide +kernel
theorem dX12_see_8 : decode cX12_see 8 = .ok (.aload_n 0, 1) := by decide +kernel
theorem dX12_see_9 : decode cX12_see 9 = .ok (.getfield 115, 3) := by decide +kernel
theorem dX12_see_12 : decode cX12_see 12 = .ok (.iload_n 1, 1) := by decide +kernel
theorem dX12_see_13 : decode cX12_see 13 = .ok (.iaload, 1) := by decide +kernel
theorem dX12_see_14 : decode cX12_see 14 = .ok (.goto 4, 3) := by decide +kernel
theorem dX12_see_17 : decode cX12_see 17 = .ok (.iconst (-1), 1) := by decide +kernel
theorem dX12_see_18 : decode cX12_see 18 = .ok (.ireturn, 1) := by decide +kernel
theorem dX12_isLetter_0 : decode cX12_isLetter 0 = .ok (.iload_n 0, 1) := by decide +kernel
theorem dX12_isLetter_1 : decode cX12_isLetter 1 = .ok (.bipush 97, 2) := by decide +kernel
theorem dX12_isLetter_3 : decode cX12_isLetter 3 = .ok (.bipush 122, 2) := by decide +kernel
theorem dX12_isLetter_5 : decode cX12_isLetter 5 = .ok (.invokestatic 200, 3) := by decide +kernel
theorem dX12_isLetter_8 : decode cX12_isLetter 8 = .ok (.ifCond .ne 14, 3) := by decide +kernel
theorem dX12_isLetter_11 : decode cX12_isLetter 11 = .ok (.iload_n 0, 1) := by decide +kernel
theorem dX12_isLetter_12 : decode cX12_isLetter 12 = .ok (.bipush 65, 2) := by decide +kernel
theorem dX12_isLetter_14 : decode cX12_isLetter 14 = .ok (.bipush 90, 2) := by decide +kernel
theorem dX12_isLetter_16 : decode cX12_isLetter 16 = .ok (.invokestatic 200, 3) := by decide +kernel
theorem dX12_isLetter_19 : decode cX12_isLetter 19 = .ok (.ifCond .eq 7, 3) := by decide +kernel
theorem dX12_isLetter_22 : decode cX12_isLetter 22 = .ok (.iconst 1, 1) := by decide +kernel
theorem dX12_isLetter_23 : decode cX12_isLetter 23 = .ok (.goto 4, 3) := by decide +kernel
theorem dX12_isLetter_26 : decode cX12_isLetter 26 = .ok (.iconst 0, 1) := by decide +kernel
theorem dX12_isLetter_27 : decode cX12_isLetter 27 = .ok (.ireturn, 1) := by decide +kernel
theorem dX12_isDigit_0 : decode cX12_isDigit 0 = .ok (.iload_n 0, 1) := by decide +kernel
theorem dX12_isDigit_1 : decode cX12_isDigit 1 = .ok (.bipush 48, 2) := by decide +kernel
theorem dX12_isDigit_3 : decode cX12_isDigit 3 = .ok (.bipush 57, 2) := by decide +kernel
theorem dX12_isDigit_5 : decode cX12_isDigit 5 = .ok (.invokestatic 200, 3) := by decide +kernel
theorem dX12_isDigit_8 : decode cX12_isDigit 8 = .ok (.ireturn, 1) := by decide +kernel
theorem dX12_is_0 : decode cX12_is 0 = .ok (.aload_n 0, 1) := by decide +kernel
theorem dX12_is_1 : decode cX12_is 1 = .ok (.getfield 262, 3) := by decide +kernel
theorem dX12_is_4 : decode cX12_is 4 = .ok (.aload_n 0, 1) := by decide +kernel
theorem dX12_is_5 : decode cX12_is 5 = .ok (.getfield 265, 3) := by decide +kernel
theorem dX12_is_8 : decode cX12_is 8 = .ok (.isub, 1) := by decide +kernel
theorem dX12_is_9 : decode cX12_is 9 = .ok (.aload_n 1, 1) := by decide +kernel
theorem dX12_is_10 : decode cX12_is 10 = .ok (.invokevirtual 268, 3) := by decide +kernel
theorem dX12_is_13 : decode cX12_is 13 = .ok (.if_icmp .ne 7, 3) := by decide +kernel
theorem dX12_is_16 : decode cX12_is 16 = .ok (.iconst 1, 1) := by decide +kernel
theorem dX12_is_17 : decode cX12_is 17 = .ok (.goto 4, 3) := by decide +kernel
theorem dX12_is_20 : decode cX12_is 20 = .ok (.iconst 0, 1) := by decide +kernel
theorem dX12_is_21 : decode cX12_is 21 = .ok (.istore_n 2, 1) := by decide +kernel
theorem dX12_is_22 : decode cX12_is 22 = .ok (.iconst 0, 1) := by decide +kernel
theorem dX12_is_23 : decode cX12_is 23 = .ok (.istore_n 3, 1) := by decide +kernel
theorem dX12_is_24 : decode cX12_is 24 = .ok (.iload_n 3, 1) := by decide +kernel
theorem dX12_is_25 : decode cX12_is 25 = .ok (.aload_n 1, 1) := by decide +kernel
theorem dX12_is_26 : decode cX12_is 26 = .ok (.invokevirtual 268, 3) := by decide +kernel
theorem dX12_is_29 : decode cX12_is 29 = .ok (.if_icmp .ge 38, 3) := by decide +kernel
theorem dX12_is_32 : decode cX12_is 32 = .ok (.iload_n 2, 1) := by decide +kernel
theorem dX12_is_33 : decode cX12_is 33 = .ok (.ifCond .eq 34, 3) := by decide +kernel
theorem dX12_is_36 : decode cX12_is 36 = .ok (.aload_n 0, 1) := by decide +kernel
theorem dX12_is_37 : decode cX12_is 37 = .ok (.getfield 115, 3) := by decide +kernel
theorem dX12_is_40 : decode cX12_is 40 = .ok (.aload_n 0, 1) := by decide +kernel
theorem dX12_is_41 : decode cX12_is 41 = .ok (.getfield 265, 3) := by decide +kernel
theorem dX12_is_44 : decode cX12_is 44 = .ok (.iload_n 3, 1) := by decide +kernel
theorem dX12_is_45 : decode cX12_is 45 = .ok (.iadd, 1) := by decide +kernel
theorem dX12_is_46 : decode cX12_is 46 = .ok (.iaload, 1) := by decide +kernel
theorem dX12_is_47 : decode cX12_is 47 = .ok (.aload_n 1, 1) := by decide +kernel
theorem dX12_is_48 : decode cX12_is 48 = .ok (.iload_n 3, 1) := by decide +kernel
theorem dX12_is_49 : decode cX12_is 49 = .ok (.invokevirtual 274, 3) := by decide +kernel
theorem dX12_is_52 : decode cX12_is 52 = .ok (.if_icmp .ne 7, 3) := by decide +kernel
theorem dX12_is_55 : decode cX12_is 55 = .ok (.iconst 1, 1) := by decide +kernel
theorem dX12_is_56 : decode cX12_is 56 = .ok (.goto 4, 3) := by decide +kernel
theorem dX12_is_59 : decode cX12_is 59 = .ok (.iconst 0, 1) := by decide +kernel
theorem dX12_is_60 : decode cX12_is 60 = .ok (.istore_n 2, 1) := by decide +kernel
theorem dX12_is_61 : decode cX12_is 61 = .ok (.iinc 3 1, 3) := by decide +kernel
theorem dX12_is_64 : decode cX12_is 64 = .ok (.goto (-40), 3) := by decide +kernel
theorem dX12_is_67 : decode cX12_is 67 = .ok (.iload_n 2, 1) := by decide +kernel
theorem dX12_is_68 : decode cX12_is 68 = .ok (.ireturn, 1) := by decide +kernel
theorem dX12_word_0 : decode cX12_word 0 = .ok (.aload_n 0, 1) := by decide +kernel
theorem dX12_word_1 : decode cX12_word 1 = .ok (.ldc_w 278, 3) := by decide +kernel
theorem dX12_word_4 : decode cX12_word 4 = .ok (.invokevirtual 280, 3) := by decide +kernel
theorem dX12_word_7 : decode cX12_word 7 = .ok (.ifCond .eq 5, 3) := by decide +kernel
theorem dX12_word_10 : decode cX12_word 10 = .ok (.iconst 3, 1) := by decide +kernel
theorem dX12_word_11 : decode cX12_word 11 = .ok (.ireturn, 1) := by decide +kernel
theorem dX12_word_12 : decode cX12_word 12 = .ok (.aload_n 0, 1) := by decide +kernel
theorem dX12_word_13 : decode cX12_word 13 = .ok (.ldc_w 284, 3) := by decide +kernel
theorem dX12_word_16 : decode cX12_word 16 = .ok (.invokevirtual 280, 3) := by decide +kernel
theorem dX12_word_19 : decode cX12_word 19 = .ok (.ifCond .eq 5, 3) := by decide +kernel
theorem dX12_word_22 : decode cX12_word 22 = .ok (.iconst 4, 1) := by decide +kernel
theorem dX12_word_23 : decode cX12_word 23 = .ok (.ireturn, 1) := by decide +kernel
theorem dX12_word_24 : decode cX12_word 24 = .ok (.aload_n 0, 1) := by decide +kernel
theorem dX12_word_25 : decode cX12_word 25 = .ok (.ldc_w 286, 3) := by decide +kernel
theorem dX12_word_28 : decode cX12_word 28 = .ok (.invokevirtual 280, 3) := by decide +kernel
theorem dX12_word_31 : decode cX12_word 31 = .ok (.ifCond .eq 5, 3) := by decide +kernel
theorem dX12_word_34 : decode cX12_word 34 = .ok (.iconst 5, 1) := by decide +kernel
theorem dX12_word_35 : decode cX12_word 35 = .ok (.ireturn, 1) := by decide +kernel
theorem dX12_word_36 : decode cX12_word 36 = .ok (.aload_n 0, 1) := by decide +kernel
theorem dX12_word_37 : decode cX12_word 37 = .ok (.ldc_w 287, 3) := by decide +kernel
theorem dX12_word_40 : decode cX12_word 40 = .ok (.invokevirtual 280, 3) := by decide +kernel
theorem dX12_word_43 : decode cX12_word 43 = .ok (.ifCond .eq 6, 3) := by decide +kernel
theorem dX12_word_46 : decode cX12_word 46 = .ok (.bipush 6, 2) := by decide +kernel
theorem dX12_word_48 : decode cX12_word 48 = .ok (.ireturn, 1) := by decide +kernel
theorem dX12_word_49 : decode cX12_word 49 = .ok (.aload_n 0, 1) := by decide +kernel
theorem dX12_word_50 : decode cX12_word 50 = .ok (.ldc_w 288, 3) := by decide +kernel
theorem dX12_word_53 : decode cX12_word 53 = .ok (.invokevirtual 280, 3) := by decide +kernel
theorem dX12_word_56 : decode cX12_word 56 = .ok (.ifCond .eq 6, 3) := by decide +kernel
theorem dX12_word_59 : decode cX12_word 59 = .ok (.bipush 7, 2) := by decide +kernel
theorem dX12_word_61 : decode cX12_word 61 = .ok (.ireturn, 1) := by decide +kernel
theorem dX12_word_62 : decode cX12_word 62 = .ok (.aload_n 0, 1) := by decide +kernel
theorem dX12_word_63 : decode cX12_word 63 = .ok (.ldc_w 290, 3) := by decide +kernel
theorem dX12_word_66 : decode cX12_word 66 = .ok (.invokevirtual 280, 3) := by decide +kernel
theorem dX12_word_69 : decode cX12_word 69 = .ok (.ifCond .eq 6, 3) := by decide +kernel
theorem dX12_word_72 : decode cX12_word 72 = .ok (.bipush 8, 2) := by decide +kernel
theorem dX12_word_74 : decode cX12_word 74 = .ok (.ireturn, 1) := by decide +kernel
theorem dX12_word_75 : decode cX12_word 75 = .ok (.aload_n 0, 1) := by decide +kernel
theorem dX12_word_76 : decode cX12_word 76 = .ok (.ldc_w 292, 3) := by decide +kernel
theorem dX12_word_79 : decode cX12_word 79 = .ok (.invokevirtual 280, 3) := by decide +kernel
theorem dX12_word_82 : decode cX12_word 82 = .ok (.ifCond .eq 6, 3) := by decide +kernel
theorem dX12_word_85 : decode cX12_word 85 = .ok (.bipush 9, 2) := by decide +kernel
theorem dX12_word_87 : decode cX12_word 87 = .ok (.ireturn, 1) := by decide +kernel
theorem dX12_word_88 : decode cX12_word 88 = .ok (.aload_n 0, 1) := by decide +kernel
theorem dX12_word_89 : decode cX12_word 89 = .ok (.ldc_w 293, 3) := by decide +kernel
theorem dX12_word_92 : decode cX12_word 92 = .ok (.invokevirtual 280, 3) := by decide +kernel
theorem dX12_word_95 : decode cX12_word 95 = .ok (.ifCond .eq 6, 3) := by decide +kernel
theorem dX12_word_98 : decode cX12_word 98 = .ok (.bipush 10, 2) := by decide +kernel
theorem dX12_word_100 : decode cX12_word 100 = .ok (.ireturn, 1) := by decide +kernel
theorem dX12_word_101 : decode cX12_word 101 = .ok (.aload_n 0, 1) := by decide +kernel
theorem dX12_word_102 : decode cX12_word 102 = .ok (.ldc_w 295, 3) := by decide +kernel
theorem dX12_word_105 : decode cX12_word 105 = .ok (.invokevirtual 280, 3) := by decide +kernel
theorem dX12_word_108 : decode cX12_word 108 = .ok (.ifCond .eq 6, 3) := by decide +kernel
theorem dX12_word_111 : decode cX12_word 111 = .ok (.bipush 11, 2) := by decide +kernel
theorem dX12_word_113 : decode cX12_word 113 = .ok (.ireturn, 1) := by decide +kernel
theorem dX12_word_114 : decode cX12_word 114 = .ok (.aload_n 0, 1) := by decide +kernel
theorem dX12_word_115 : decode cX12_word 115 = .ok (.ldc_w 297, 3) := by decide +kernel
theorem dX12_word_118 : decode cX12_word 118 = .ok (.invokevirtual 280, 3) := by decide +kernel
theorem dX12_word_121 : decode cX12_word 121 = .ok (.ifCond .eq 6, 3) := by decide +kernel
theorem dX12_word_124 : decode cX12_word 124 = .ok (.bipush 12, 2) := by decide +kernel
theorem dX12_word_126 : decode cX12_word 126 = .ok (.ireturn, 1) := by decide +kernel
theorem dX12_word_127 : decode cX12_word 127 = .ok (.aload_n 0, 1) := by decide +kernel
theorem dX12_word_128 : decode cX12_word 128 = .ok (.ldc_w 299, 3) := by decide +kernel
theorem dX12_word_131 : decode cX12_word 131 = .ok (.invokevirtual 280, 3) := by decide +kernel
theorem dX12_word_134 : decode cX12_word 134 = .ok (.ifCond .eq 7, 3) := by decide +kernel
theorem dX12_word_137 : decode cX12_word 137 = .ok (.sipush 201, 3) := by decide +kernel
theorem dX12_word_140 : decode cX12_word 140 = .ok (.ireturn, 1) := by decide +kernel
theorem dX12_word_141 : decode cX12_word 141 = .ok (.aload_n 0, 1) := by decide +kernel
theorem dX12_word_142 : decode cX12_word 142 = .ok (.ldc_w 301, 3) := by decide +kernel
theorem dX12_word_145 : decode cX12_word 145 = .ok (.invokevirtual 280, 3) := by decide +kernel
theorem dX12_word_148 : decode cX12_word 148 = .ok (.ifCond .eq 7, 3) := by decide +kernel
theorem dX12_word_151 : decode cX12_word 151 = .ok (.sipush 202, 3) := by decide +kernel
theorem dX12_word_154 : decode cX12_word 154 = .ok (.ireturn, 1) := by decide +kernel
theorem dX12_word_155 : decode cX12_word 155 = .ok (.aload_n 0, 1) := by decide +kernel
theorem dX12_word_156 : decode cX12_word 156 = .ok (.ldc_w 303, 3) := by decide +kernel
theorem dX12_word_159 : decode cX12_word 159 = .ok (.invokevirtual 280, 3) := by decide +kernel
theorem dX12_word_162 : decode cX12_word 162 = .ok (.ifCond .eq 7, 3) := by decide +kernel
theorem dX12_word_165 : decode cX12_word 165 = .ok (.sipush 203, 3) := by decide +kernel
theorem dX12_word_168 : decode cX12_word 168 = .ok (.ireturn, 1) := by decide +kernel
theorem dX12_word_169 : decode cX12_word 169 = .ok (.aload_n 0, 1) := by decide +kernel
theorem dX12_word_170 : decode cX12_word 170 = .ok (.ldc_w 305, 3) := by decide +kernel
theorem dX12_word_173 : decode cX12_word 173 = .ok (.invokevirtual 280, 3) := by decide +kernel
theorem dX12_word_176 : decode cX12_word 176 = .ok (.ifCond .eq 9, 3) := by decide +kernel
theorem dX12_word_179 : decode cX12_word 179 = .ok (.sipush 204, 3) := by decide +kernel
theorem dX12_word_182 : decode cX12_word 182 = .ok (.goto 4, 3) := by decide +kernel
theorem dX12_word_185 : decode cX12_word 185 = .ok (.iconst 1, 1) := by decide +kernel
theorem dX12_word_186 : decode cX12_word 186 = .ok (.ireturn, 1) := by decide +kernel
theorem dX12_next0_0 : decode cX12_next0 0 = .ok (.aload_n 0, 1) := by decide +kernel
theorem dX12_next0_1 : decode cX12_next0 1 = .ok (.aload_n 0, 1) := by decide +kernel
theorem dX12_next0_2 : decode cX12_next0 2 = .ok (.getfield 262, 3) := by decide +kernel
theorem dX12_next0_5 : decode cX12_next0 5 = .ok (.invokevirtual 307, 3) := by decide +kernel
theorem dX12_next0_8 : decode cX12_next0 8 = .ok (.bipush 32, 2) := by decide +kernel
theorem dX12_next0_10 : decode cX12_next0 10 = .ok (.if_icmp .eq 16, 3) := by decide +kernel
theorem dX12_next0_13 : decode cX12_next0 13 = .ok (.aload_n 0, 1) := by decide +kernel
theorem dX12_next0_14 : decode cX12_next0 14 = .ok (.aload_n 0, 1) := by decide +kernel
theorem dX12_next0_15 : decode cX12_next0 15 = .ok (.getfield 262, 3) := by decide +kernel
theorem dX12_next0_18 : decode cX12_next0 18 = .ok (.invokevirtual 307, 3) := by decide +kernel
theorem dX12_next0_21 : decode cX12_next0 21 = .ok (.bipush 10, 2) := by decide +kernel
theorem dX12_next0_23 : decode cX12_next0 23 = .ok (.if_icmp .ne 16, 3) := by decide +kernel
theorem dX12_next0_26 : decode cX12_next0 26 = .ok (.aload_n 0, 1) := by decide +kernel
theorem dX12_next0_27 : decode cX12_next0 27 = .ok (.dup, 1) := by decide +kernel
theorem dX12_next0_28 : decode cX12_next0 28 = .ok (.getfield 262, 3) := by decide +kernel
theorem dX12_next0_31 : decode cX12_next0 31 = .ok (.iconst 1, 1) := by decide +kernel
theorem dX12_next0_32 : decode cX12_next0 32 = .ok (.iadd, 1) := by decide +kernel
theorem dX12_next0_33 : decode cX12_next0 33 = .ok (.putfield 262, 3) := by decide +kernel
theorem dX12_next0_36 : decode cX12_next0 36 = .ok (.goto (-36), 3) := by decide +kernel
theorem dX12_next0_39 : decode cX12_next0 39 = .ok (.aload_n 0, 1) := by decide +kernel
theorem dX12_next0_40 : decode cX12_next0 40 = .ok (.aload_n 0, 1) := by decide +kernel
theorem dX12_next0_41 : decode cX12_next0 41 = .ok (.getfield 262, 3) := by decide +kernel
theorem dX12_next0_44 : decode cX12_next0 44 = .ok (.putfield 265, 3) := by decide +kernel
theorem dX12_next0_47 : decode cX12_next0 47 = .ok (.aload_n 0, 1) := by decide +kernel
theorem dX12_next0_48 : decode cX12_next0 48 = .ok (.aload_n 0, 1) := by decide +kernel
theorem dX12_next0_49 : decode cX12_next0 49 = .ok (.getfield 262, 3) := by decide +kernel
theorem dX12_next0_52 : decode cX12_next0 52 = .ok (.invokevirtual 307, 3) := by decide +kernel
theorem dX12_next0_55 : decode cX12_next0 55 = .ok (.istore_n 1, 1) := by decide +kernel
theorem dX12_next0_56 : decode cX12_next0 56 = .ok (.iload_n 1, 1) := by decide +kernel
theorem dX12_next0_57 : decode cX12_next0 57 = .ok (.iconst (-1), 1) := by decide +kernel
theorem dX12_next0_58 : decode cX12_next0 58 = .ok (.if_icmp .ne 11, 3) := by decide +kernel
theorem dX12_next0_61 : decode cX12_next0 61 = .ok (.aload_n 0, 1) := by decide +kernel
theorem dX12_next0_62 : decode cX12_next0 62 = .ok (.iconst 0, 1) := by decide +kernel
theorem dX12_next0_63 : decode cX12_next0 63 = .ok (.putfield 311, 3) := by decide +kernel
theorem dX12_next0_66 : decode cX12_next0 66 = .ok (.goto 238, 3) := by decide +kernel
theorem dX12_next0_69 : decode cX12_next0 69 = .ok (.iload_n 1, 1) := by decide +kernel
theorem dX12_next0_70 : decode cX12_next0 70 = .ok (.invokestatic 314, 3) := by decide +kernel
theorem dX12_next0_73 : decode cX12_next0 73 = .ok (.ifCond .eq 41, 3) := by decide +kernel
theorem dX12_next0_76 : decode cX12_next0 76 = .ok (.aload_n 0, 1) := by decide +kernel
theorem dX12_next0_77 : decode cX12_next0 77 = .ok (.aload_n 0, 1) := by decide +kernel
theorem dX12_next0_78 : decode cX12_next0 78 = .ok (.getfield 262, 3) := by decide +kernel
theorem dX12_next0_81 : decode cX12_next0 81 = .ok (.invokevirtual 307, 3) := by decide +kernel
theorem dX12_next0_84 : decode cX12_next0 84 = .ok (.invokestatic 314, 3) := by decide +kernel
theorem dX12_next0_87 : decode cX12_next0 87 = .ok (.ifCond .eq 16, 3) := by decide +kernel
theorem dX12_next0_90 : decode cX12_next0 90 = .ok (.aload_n 0, 1) := by decide +kernel
theorem dX12_next0_91 : decode cX12_next0 91 = .ok (.dup, 1) := by decide +kernel
theorem dX12_next0_92 : decode cX12_next0 92 = .ok (.getfield 262, 3) := by decide +kernel
theorem dX12_next0_95 : decode cX12_next0 95 = .ok (.iconst 1, 1) := by decide +kernel
theorem dX12_next0_96 : decode cX12_next0 96 = .ok (.iadd, 1) := by decide +kernel
theorem dX12_next0_97 : decode cX12_next0 97 = .ok (.putfield 262, 3) := by decide +kernel
theorem dX12_next0_100 : decode cX12_next0 100 = .ok (.goto (-24), 3) := by decide +kernel
theorem dX12_next0_103 : decode cX12_next0 103 = .ok (.aload_n 0, 1) := by decide +kernel
theorem dX12_next0_104 : decode cX12_next0 104 = .ok (.aload_n 0, 1) := by decide +kernel
theorem dX12_next0_105 : decode cX12_next0 105 = .ok (.invokevirtual 317, 3) := by decide +kernel
theorem dX12_next0_108 : decode cX12_next0 108 = .ok (.putfield 311, 3) := by decide +kernel
theorem dX12_next0_111 : decode cX12_next0 111 = .ok (.goto 193, 3) := by decide +kernel
theorem dX12_next0_114 : decode cX12_next0 114 = .ok (.iload_n 1, 1) := by decide +kernel
theorem dX12_next0_115 : decode cX12_next0 115 = .ok (.invokestatic 320, 3) := by decide +kernel
theorem dX12_next0_118 : decode cX12_next0 118 = .ok (.ifCond .eq 97, 3) := by decide +kernel
theorem dX12_next0_121 : decode cX12_next0 121 = .ok (.aload_n 0, 1) := by decide +kernel
theorem dX12_next0_122 : decode cX12_next0 122 = .ok (.iconst 0, 1) := by decide +kernel
theorem dX12_next0_123 : decode cX12_next0 123 = .ok (.putfield 323, 3) := by decide +kernel
theorem dX12_next0_126 : decode cX12_next0 126 = .ok (.aload_n 0, 1) := by decide +kernel
theorem dX12_next0_127 : decode cX12_next0 127 = .ok (.aload_n 0, 1) := by decide +kernel
theorem dX12_next0_128 : decode cX12_next0 128 = .ok (.getfield 262, 3) := by decide +kernel
theorem dX12_next0_131 : decode cX12_next0 131 = .ok (.invokevirtual 307, 3) := by decide +kernel
theorem dX12_next0_134 : decode cX12_next0 134 = .ok (.invokestatic 320, 3) := by decide +kernel
theorem dX12_next0_137 : decode cX12_next0 137 = .ok (.ifCond .eq 52, 3) := by decide +kernel
theorem dX12_next0_140 : decode cX12_next0 140 = .ok (.aload_n 0, 1) := by decide +kernel
theorem dX12_next0_141 : decode cX12_next0 141 = .ok (.getfield 262, 3) := by decide +kernel
theorem dX12_next0_144 : decode cX12_next0 144 = .ok (.aload_n 0, 1) := by decide +kernel
theorem dX12_next0_145 : decode cX12_next0 145 = .ok (.getfield 265, 3) := by decide +kernel
theorem dX12_next0_148 : decode cX12_next0 148 = .ok (.iconst 5, 1) := by decide +kernel
theorem dX12_next0_149 : decode cX12_next0 149 = .ok (.iadd, 1) := by decide +kernel
theorem dX12_next0_150 : decode cX12_next0 150 = .ok (.if_icmp .ge 26, 3) := by decide +kernel
theorem dX12_next0_153 : decode cX12_next0 153 = .ok (.aload_n 0, 1) := by decide +kernel
theorem dX12_next0_154 : decode cX12_next0 154 = .ok (.bipush 10, 2) := by decide +kernel
theorem dX12_next0_156 : decode cX12_next0 156 = .ok (.aload_n 0, 1) := by decide +kernel
theorem dX12_next0_157 : decode cX12_next0 157 = .ok (.getfield 323, 3) := by decide +kernel
theorem dX12_next0_160 : decode cX12_next0 160 = .ok (.imul, 1) := by decide +kernel
theorem dX12_next0_161 : decode cX12_next0 161 = .ok (.aload_n 0, 1) := by decide +kernel
theorem dX12_next0_162 : decode cX12_next0 162 = .ok (.aload_n 0, 1) := by decide +kernel
theorem dX12_next0_163 : decode cX12_next0 163 = .ok (.getfield 262, 3) := by decide +kernel
theorem dX12_next0_166 : decode cX12_next0 166 = .ok (.invokevirtual 307, 3) := by decide +kernel
theorem dX12_next0_169 : decode cX12_next0 169 = .ok (.iadd, 1) := by decide +kernel
theorem dX12_next0_170 : decode cX12_next0 170 = .ok (.bipush 48, 2) := by decide +kernel
theorem dX12_next0_172 : decode cX12_next0 172 = .ok (.isub, 1) := by decide +kernel
theorem dX12_next0_173 : decode cX12_next0 173 = .ok (.putfield 323, 3) := by decide +kernel
theorem dX12_next0_176 : decode cX12_next0 176 = .ok (.aload_n 0, 1) := by decide +kernel
theorem dX12_next0_177 : decode cX12_next0 177 = .ok (.dup, 1) := by decide +kernel
theorem dX12_next0_178 : decode cX12_next0 178 = .ok (.getfield 262, 3) := by decide +kernel
theorem dX12_next0_181 : decode cX12_next0 181 = .ok (.iconst 1, 1) := by decide +kernel
theorem dX12_next0_182 : decode cX12_next0 182 = .ok (.iadd, 1) := by decide +kernel
theorem dX12_next0_183 : decode cX12_next0 183 = .ok (.putfield 262, 3) := by decide +kernel
theorem dX12_next0_186 : decode cX12_next0 186 = .ok (.goto (-60), 3) := by decide +kernel
theorem dX12_next0_189 : decode cX12_next0 189 = .ok (.aload_n 0, 1) := by decide +kernel
theorem dX12_next0_190 : decode cX12_next0 190 = .ok (.aload_n 0, 1) := by decide +kernel
theorem dX12_next0_191 : decode cX12_next0 191 = .ok (.getfield 262, 3) := by decide +kernel
theorem dX12_next0_194 : decode cX12_next0 194 = .ok (.aload_n 0, 1) := by decide +kernel
theorem dX12_next0_195 : decode cX12_next0 195 = .ok (.getfield 265, 3) := by decide +kernel
theorem dX12_next0_198 : decode cX12_next0 198 = .ok (.isub, 1) := by decide +kernel
theorem dX12_next0_199 : decode cX12_next0 199 = .ok (.bipush 6, 2) := by decide +kernel
theorem dX12_next0_201 : decode cX12_next0 201 = .ok (.if_icmp .ge 7, 3) := by decide +kernel
theorem dX12_next0_204 : decode cX12_next0 204 = .ok (.iconst 2, 1) := by decide +kernel
theorem dX12_next0_205 : decode cX12_next0 205 = .ok (.goto 4, 3) := by decide +kernel
theorem dX12_next0_208 : decode cX12_next0 208 = .ok (.iconst 1, 1) := by decide +kernel
theorem dX12_next0_209 : decode cX12_next0 209 = .ok (.putfield 311, 3) := by decide +kernel
theorem dX12_next0_212 : decode cX12_next0 212 = .ok (.goto 92, 3) := by decide +kernel
theorem dX12_next0_215 : decode cX12_next0 215 = .ok (.aload_n 0, 1) := by decide +kernel
theorem dX12_next0_216 : decode cX12_next0 216 = .ok (.dup, 1) := by decide +kernel
theorem dX12_next0_217 : decode cX12_next0 217 = .ok (.getfield 262, 3) := by decide +kernel
theorem dX12_next0_220 : decode cX12_next0 220 = .ok (.iconst 1, 1) := by decide +kernel
theorem dX12_next0_221 : decode cX12_next0 221 = .ok (.iadd, 1) := by decide +kernel
theorem dX12_next0_222 : decode cX12_next0 222 = .ok (.putfield 262, 3) := by decide +kernel
theorem dX12_next0_225 : decode cX12_next0 225 = .ok (.iload_n 1, 1) := by decide +kernel
theorem dX12_next0_226 : decode cX12_next0 226 = .ok (.bipush 59, 2) := by decide +kernel
theorem dX12_next0_228 : decode cX12_next0 228 = .ok (.if_icmp .eq 57, 3) := by decide +kernel
theorem dX12_next0_231 : decode cX12_next0 231 = .ok (.iload_n 1, 1) := by decide +kernel
theorem dX12_next0_232 : decode cX12_next0 232 = .ok (.bipush 43, 2) := by decide +kernel
theorem dX12_next0_234 : decode cX12_next0 234 = .ok (.if_icmp .eq 51, 3) := by decide +kernel
theorem dX12_next0_237 : decode cX12_next0 237 = .ok (.iload_n 1, 1) := by decide +kernel
theorem dX12_next0_238 : decode cX12_next0 238 = .ok (.bipush 45, 2) := by decide +kernel
theorem dX12_next0_240 : decode cX12_next0 240 = .ok (.if_icmp .eq 45, 3) := by decide +kernel
theorem dX12_next0_243 : decode cX12_next0 243 = .ok (.iload_n 1, 1) := by decide +kernel
theorem dX12_next0_244 : decode cX12_next0 244 = .ok (.bipush 42, 2) := by decide +kernel
theorem dX12_next0_246 : decode cX12_next0 246 = .ok (.if_icmp .eq 39, 3) := by decide +kernel
theorem dX12_next0_249 : decode cX12_next0 249 = .ok (.iload_n 1, 1) := by decide +kernel
theorem dX12_next0_250 : decode cX12_next0 250 = .ok (.bipush 47, 2) := by decide +kernel
theorem dX12_next0_252 : decode cX12_next0 252 = .ok (.if_icmp .eq 33, 3) := by decide +kernel
theorem dX12_next0_255 : decode cX12_next0 255 = .ok (.iload_n 1, 1) := by decide +kernel
theorem dX12_next0_256 : decode cX12_next0 256 = .ok (.bipush 40, 2) := by decide +kernel
theorem dX12_next0_258 : decode cX12_next0 258 = .ok (.if_icmp .eq 27, 3) := by decide +kernel
theorem dX12_next0_261 : decode cX12_next0 261 = .ok (.iload_n 1, 1) := by decide +kernel
theorem dX12_next0_262 : decode cX12_next0 262 = .ok (.bipush 41, 2) := by decide +kernel
theorem dX12_next0_264 : decode cX12_next0 264 = .ok (.if_icmp .eq 21, 3) := by decide +kernel
theorem dX12_next0_267 : decode cX12_next0 267 = .ok (.iload_n 1, 1) := by decide +kernel
theorem dX12_next0_268 : decode cX12_next0 268 = .ok (.bipush 60, 2) := by decide +kernel
theorem dX12_next0_270 : decode cX12_next0 270 = .ok (.if_icmp .eq 15, 3) := by decide +kernel
theorem dX12_next0_273 : decode cX12_next0 273 = .ok (.iload_n 1, 1) := by decide +kernel
theorem dX12_next0_274 : decode cX12_next0 274 = .ok (.bipush 61, 2) := by decide +kernel
theorem dX12_next0_276 : decode cX12_next0 276 = .ok (.if_icmp .eq 9, 3) := by decide +kernel
theorem dX12_next0_279 : decode cX12_next0 279 = .ok (.iload_n 1, 1) := by decide +kernel
theorem dX12_next0_280 : decode cX12_next0 280 = .ok (.bipush 62, 2) := by decide +kernel
theorem dX12_next0_282 : decode cX12_next0 282 = .ok (.if_icmp .ne 7, 3) := by decide +kernel
theorem dX12_next0_285 : decode cX12_next0 285 = .ok (.iconst 1, 1) := by decide +kernel
theorem dX12_next0_286 : decode cX12_next0 286 = .ok (.goto 4, 3) := by decide +kernel
theorem dX12_next0_289 : decode cX12_next0 289 = .ok (.iconst 0, 1) := by decide +kernel
theorem dX12_next0_290 : decode cX12_next0 290 = .ok (.istore_n 2, 1) := by decide +kernel
theorem dX12_next0_291 : decode cX12_next0 291 = .ok (.aload_n 0, 1) := by decide +kernel
theorem dX12_next0_292 : decode cX12_next0 292 = .ok (.iload_n 2, 1) := by decide +kernel
theorem dX12_next0_293 : decode cX12_next0 293 = .ok (.ifCond .eq 7, 3) := by decide +kernel
theorem dX12_next0_296 : decode cX12_next0 296 = .ok (.iload_n 1, 1) := by decide +kernel
theorem dX12_next0_297 : decode cX12_next0 297 = .ok (.goto 4, 3) := by decide +kernel
theorem dX12_next0_300 : decode cX12_next0 300 = .ok (.iconst 1, 1) := by decide +kernel
theorem dX12_next0_301 : decode cX12_next0 301 = .ok (.putfield 311, 3) := by decide +kernel
theorem dX12_next0_304 : decode cX12_next0 304 = .ok (.return_, 1) := by decide +kernel
theorem dX12_bad_0 : decode cX12_bad 0 = .ok (.aload_n 0, 1) := by decide +kernel
theorem dX12_bad_1 : decode cX12_bad 1 = .ok (.iload_n 1, 1) := by decide +kernel
theorem dX12_bad_2 : decode cX12_bad 2 = .ok (.putfield 326, 3) := by decide +kernel
theorem dX12_bad_5 : decode cX12_bad 5 = .ok (.aload_n 0, 1) := by decide +kernel
theorem dX12_bad_6 : decode cX12_bad 6 = .ok (.aload_n 0, 1) := by decide +kernel
theorem dX12_bad_7 : decode cX12_bad 7 = .ok (.getfield 265, 3) := by decide +kernel
theorem dX12_bad_10 : decode cX12_bad 10 = .ok (.putfield 329, 3) := by decide +kernel
theorem dX12_bad_13 : decode cX12_bad 13 = .ok (.iconst 0, 1) := by decide +kernel
theorem dX12_bad_14 : decode cX12_bad 14 = .ok (.ireturn, 1) := by decide +kernel
theorem dX12_need_0 : decode cX12_need 0 = .ok (.aload_n 0, 1) := by decide +kernel
theorem dX12_need_1 : decode cX12_need 1 = .ok (.getfield 311, 3) := by decide +kernel
theorem dX12_need_4 : decode cX12_need 4 = .ok (.iload_n 1, 1) := by decide +kernel
theorem dX12_need_5 : decode cX12_need 5 = .ok (.if_icmp .eq 9, 3) := by decide +kernel
theorem dX12_need_8 : decode cX12_need 8 = .ok (.aload_n 0, 1) := by decide +kernel
theorem dX12_need_9 : decode cX12_need 9 = .ok (.iconst 1, 1) := by decide +kernel
theorem dX12_need_10 : decode cX12_need 10 = .ok (.invokevirtual 332, 3) := by decide +kernel
theorem dX12_need_13 : decode cX12_need 13 = .ok (.ireturn, 1) := by decide +kernel
theorem dX12_need_14 : decode cX12_need 14 = .ok (.aload_n 0, 1) := by decide +kernel
theorem dX12_need_15 : decode cX12_need 15 = .ok (.invokevirtual 335, 3) := by decide +kernel
theorem dX12_need_18 : decode cX12_need 18 = .ok (.iconst 1, 1) := by decide +kernel
theorem dX12_need_19 : decode cX12_need 19 = .ok (.ireturn, 1) := by decide +kernel
theorem dX12_aNumber_0 : decode cX12_aNumber 0 = .ok (.aload_n 0, 1) := by decide +kernel
theorem dX12_aNumber_1 : decode cX12_aNumber 1 = .ok (.getfield 311, 3) := by decide +kernel
theorem dX12_aNumber_4 : decode cX12_aNumber 4 = .ok (.iconst 2, 1) := by decide +kernel
theorem dX12_aNumber_5 : decode cX12_aNumber 5 = .ok (.if_icmp .eq 9, 3) := by decide +kernel
theorem dX12_aNumber_8 : decode cX12_aNumber 8 = .ok (.aload_n 0, 1) := by decide +kernel
theorem dX12_aNumber_9 : decode cX12_aNumber 9 = .ok (.iconst 1, 1) := by decide +kernel
theorem dX12_aNumber_10 : decode cX12_aNumber 10 = .ok (.invokevirtual 332, 3) := by decide +kernel
theorem dX12_aNumber_13 : decode cX12_aNumber 13 = .ok (.ireturn, 1) := by decide +kernel
theorem dX12_aNumber_14 : decode cX12_aNumber 14 = .ok (.aload_n 0, 1) := by decide +kernel
theorem dX12_aNumber_15 : decode cX12_aNumber 15 = .ok (.getfield 323, 3) := by decide +kernel
theorem dX12_aNumber_18 : decode cX12_aNumber 18 = .ok (.iload_n 1, 1) := by decide +kernel
theorem dX12_aNumber_19 : decode cX12_aNumber 19 = .ok (.if_icmp .le 9, 3) := by decide +kernel
theorem dX12_aNumber_22 : decode cX12_aNumber 22 = .ok (.aload_n 0, 1) := by decide +kernel
theorem dX12_aNumber_23 : decode cX12_aNumber 23 = .ok (.iconst 2, 1) := by decide +kernel
theorem dX12_aNumber_24 : decode cX12_aNumber 24 = .ok (.invokevirtual 332, 3) := by decide +kernel
theorem dX12_aNumber_27 : decode cX12_aNumber 27 = .ok (.ireturn, 1) := by decide +kernel
theorem dX12_aNumber_28 : decode cX12_aNumber 28 = .ok (.aload_n 0, 1) := by decide +kernel
theorem dX12_aNumber_29 : decode cX12_aNumber 29 = .ok (.aload_n 0, 1) := by decide +kernel
theorem dX12_aNumber_30 : decode cX12_aNumber 30 = .ok (.getfield 323, 3) := by decide +kernel
theorem dX12_aNumber_33 : decode cX12_aNumber 33 = .ok (.putfield 338, 3) := by decide +kernel
theorem dX12_aNumber_36 : decode cX12_aNumber 36 = .ok (.aload_n 0, 1) := by decide +kernel
theorem dX12_aNumber_37 : decode cX12_aNumber 37 = .ok (.invokevirtual 335, 3) := by decide +kernel
theorem dX12_aNumber_40 : decode cX12_aNumber 40 = .ok (.iconst 1, 1) := by decide +kernel
theorem dX12_aNumber_41 : decode cX12_aNumber 41 = .ok (.ireturn, 1) := by decide +kernel
theorem dX12_lay_0 : decode cX12_lay 0 = .ok (.aload_n 0, 1) := by decide +kernel
theorem dX12_lay_1 : decode cX12_lay 1 = .ok (.getfield 112, 3) := by decide +kernel
theorem dX12_lay_4 : decode cX12_lay 4 = .ok (.iconst 2, 1) := by decide +kernel
theorem dX12_lay_5 : decode cX12_lay 5 = .ok (.aload_n 0, 1) := by decide +kernel
theorem dX12_lay_6 : decode cX12_lay 6 = .ok (.getfield 341, 3) := by decide +kernel
theorem dX12_lay_9 : decode cX12_lay 9 = .ok (.imul, 1) := by decide +kernel
theorem dX12_lay_10 : decode cX12_lay 10 = .ok (.iload_n 1, 1) := by decide +kernel
theorem dX12_lay_11 : decode cX12_lay 11 = .ok (.iastore, 1) := by decide +kernel
theorem dX12_lay_12 : decode cX12_lay 12 = .ok (.aload_n 0, 1) := by decide +kernel
theorem dX12_lay_13 : decode cX12_lay 13 = .ok (.getfield 112, 3) := by decide +kernel
theorem dX12_lay_16 : decode cX12_lay 16 = .ok (.iconst 2, 1) := by decide +kernel
theorem dX12_lay_17 : decode cX12_lay 17 = .ok (.aload_n 0, 1) := by decide +kernel
theorem dX12_lay_18 : decode cX12_lay 18 = .ok (.getfield 341, 3) := by decide +kernel
theorem dX12_lay_21 : decode cX12_lay 21 = .ok (.imul, 1) := by decide +kernel
theorem dX12_lay_22 : decode cX12_lay 22 = .ok (.iconst 1, 1) := by decide +kernel
theorem dX12_lay_23 : decode cX12_lay 23 = .ok (.iadd, 1) := by decide +kernel
theorem dX12_lay_24 : decode cX12_lay 24 = .ok (.iload_n 2, 1) := by decide +kernel
theorem dX12_lay_25 : decode cX12_lay 25 = .ok (.iastore, 1) := by decide +kernel
theorem dX12_lay_26 : decode cX12_lay 26 = .ok (.aload_n 0, 1) := by decide +kernel
theorem dX12_lay_27 : decode cX12_lay 27 = .ok (.dup, 1) := by decide +kernel
theorem dX12_lay_28 : decode cX12_lay 28 = .ok (.getfield 341, 3) := by decide +kernel
theorem dX12_lay_31 : decode cX12_lay 31 = .ok (.iconst 1, 1) := by decide +kernel
theorem dX12_lay_32 : decode cX12_lay 32 = .ok (.iadd, 1) := by decide +kernel
theorem dX12_lay_33 : decode cX12_lay 33 = .ok (.putfield 341, 3) := by decide +kernel
theorem dX12_lay_36 : decode cX12_lay 36 = .ok (.return_, 1) := by decide +kernel
theorem dX12_opens_0 : decode cX12_opens 0 = .ok (.aload_n 0, 1) := by decide +kernel
theorem dX12_opens_1 : decode cX12_opens 1 = .ok (.getfield 344, 3) := by decide +kernel
theorem dX12_opens_4 : decode cX12_opens 4 = .ok (.bipush 8, 2) := by decide +kernel
theorem dX12_opens_6 : decode cX12_opens 6 = .ok (.if_icmp .ne 9, 3) := by decide +kernel
theorem dX12_opens_9 : decode cX12_opens 9 = .ok (.aload_n 0, 1) := by decide +kernel
theorem dX12_opens_10 : decode cX12_opens 10 = .ok (.iconst 3, 1) := by decide +kernel
theorem dX12_opens_11 : decode cX12_opens 11 = .ok (.invokevirtual 332, 3) := by decide +kernel
theorem dX12_opens_14 : decode cX12_opens 14 = .ok (.ireturn, 1) := by decide +kernel
theorem dX12_opens_15 : decode cX12_opens 15 = .ok (.aload_n 0, 1) := by decide +kernel
theorem dX12_opens_16 : decode cX12_opens 16 = .ok (.dup, 1) := by decide +kernel
theorem dX12_opens_17 : decode cX12_opens 17 = .ok (.getfield 344, 3) := by decide +kernel
theorem dX12_opens_20 : decode cX12_opens 20 = .ok (.iconst 1, 1) := by decide +kernel
theorem dX12_opens_21 : decode cX12_opens 21 = .ok (.iadd, 1) := by decide +kernel
theorem dX12_opens_22 : decode cX12_opens 22 = .ok (.putfield 344, 3) := by decide +kernel
theorem dX12_opens_25 : decode cX12_opens 25 = .ok (.aload_n 0, 1) := by decide +kernel
theorem dX12_opens_26 : decode cX12_opens 26 = .ok (.invokevirtual 335, 3) := by decide +kernel
theorem dX12_opens_29 : decode cX12_opens 29 = .ok (.iconst 1, 1) := by decide +kernel
theorem dX12_opens_30 : decode cX12_opens 30 = .ok (.ireturn, 1) := by decide +kernel
theorem dX12_sumUp_0 : decode cX12_sumUp 0 = .ok (.aload_n 0, 1) := by decide +kernel
theorem dX12_sumUp_1 : decode cX12_sumUp 1 = .ok (.invokevirtual 347, 3) := by decide +kernel
theorem dX12_sumUp_4 : decode cX12_sumUp 4 = .ok (.ifCond .ne 5, 3) := by decide +kernel
theorem dX12_sumUp_7 : decode cX12_sumUp 7 = .ok (.iconst 0, 1) := by decide +kernel
theorem dX12_sumUp_8 : decode cX12_sumUp 8 = .ok (.ireturn, 1) := by decide +kernel
theorem dX12_sumUp_9 : decode cX12_sumUp 9 = .ok (.aload_n 0, 1) := by decide +kernel
theorem dX12_sumUp_10 : decode cX12_sumUp 10 = .ok (.getfield 311, 3) := by decide +kernel
theorem dX12_sumUp_13 : decode cX12_sumUp 13 = .ok (.bipush 43, 2) := by decide +kernel
theorem dX12_sumUp_15 : decode cX12_sumUp 15 = .ok (.if_icmp .eq 12, 3) := by decide +kernel
theorem dX12_sumUp_18 : decode cX12_sumUp 18 = .ok (.aload_n 0, 1) := by decide +kernel
theorem dX12_sumUp_19 : decode cX12_sumUp 19 = .ok (.getfield 311, 3) := by decide +kernel
theorem dX12_sumUp_22 : decode cX12_sumUp 22 = .ok (.bipush 45, 2) := by decide +kernel
theorem dX12_sumUp_24 : decode cX12_sumUp 24 = .ok (.if_icmp .ne 41, 3) := by decide +kernel
theorem dX12_sumUp_27 : decode cX12_sumUp 27 = .ok (.aload_n 0, 1) := by decide +kernel
theorem dX12_sumUp_28 : decode cX12_sumUp 28 = .ok (.getfield 311, 3) := by decide +kernel
theorem dX12_sumUp_31 : decode cX12_sumUp 31 = .ok (.bipush 43, 2) := by decide +kernel
theorem dX12_sumUp_33 : decode cX12_sumUp 33 = .ok (.if_icmp .ne 7, 3) := by decide +kernel
theorem dX12_sumUp_36 : decode cX12_sumUp 36 = .ok (.iconst 5, 1) := by decide +kernel
theorem dX12_sumUp_37 : decode cX12_sumUp 37 = .ok (.goto 5, 3) := by decide +kernel
theorem dX12_sumUp_40 : decode cX12_sumUp 40 = .ok (.bipush 6, 2) := by decide +kernel
theorem dX12_sumUp_42 : decode cX12_sumUp 42 = .ok (.istore_n 1, 1) := by decide +kernel
theorem dX12_sumUp_43 : decode cX12_sumUp 43 = .ok (.aload_n 0, 1) := by decide +kernel
theorem dX12_sumUp_44 : decode cX12_sumUp 44 = .ok (.invokevirtual 335, 3) := by decide +kernel
theorem dX12_sumUp_47 : decode cX12_sumUp 47 = .ok (.aload_n 0, 1) := by decide +kernel
theorem dX12_sumUp_48 : decode cX12_sumUp 48 = .ok (.invokevirtual 347, 3) := by decide +kernel
theorem dX12_sumUp_51 : decode cX12_sumUp 51 = .ok (.ifCond .ne 5, 3) := by decide +kernel
theorem dX12_sumUp_54 : decode cX12_sumUp 54 = .ok (.iconst 0, 1) := by decide +kernel
theorem dX12_sumUp_55 : decode cX12_sumUp 55 = .ok (.ireturn, 1) := by decide +kernel
theorem dX12_sumUp_56 : decode cX12_sumUp 56 = .ok (.aload_n 0, 1) := by decide +kernel
theorem dX12_sumUp_57 : decode cX12_sumUp 57 = .ok (.iload_n 1, 1) := by decide +kernel
theorem dX12_sumUp_58 : decode cX12_sumUp 58 = .ok (.iconst 0, 1) := by decide +kernel
theorem dX12_sumUp_59 : decode cX12_sumUp 59 = .ok (.invokevirtual 351, 3) := by decide +kernel
theorem dX12_sumUp_62 : decode cX12_sumUp 62 = .ok (.goto (-53), 3) := by decide +kernel
theorem dX12_sumUp_65 : decode cX12_sumUp 65 = .ok (.iconst 1, 1) := by decide +kernel
theorem dX12_sumUp_66 : decode cX12_sumUp 66 = .ok (.ireturn, 1) := by decide +kernel
theorem dX12_product_0 : decode cX12_product 0 = .ok (.aload_n 0, 1) := by decide +kernel
theorem dX12_product_1 : decode cX12_product 1 = .ok (.invokevirtual 355, 3) := by decide +kernel
theorem dX12_product_4 : decode cX12_product 4 = .ok (.ifCond .ne 5, 3) := by decide +kernel
theorem dX12_product_7 : decode cX12_product 7 = .ok (.iconst 0, 1) := by decide +kernel
theorem dX12_product_8 : decode cX12_product 8 = .ok (.ireturn, 1) := by decide +kernel
theorem dX12_product_9 : decode cX12_product 9 = .ok (.aload_n 0, 1) := by decide +kernel
theorem dX12_product_10 : decode cX12_product 10 = .ok (.getfield 311, 3) := by decide +kernel
theorem dX12_product_13 : decode cX12_product 13 = .ok (.bipush 42, 2) := by decide +kernel
theorem dX12_product_15 : decode cX12_product 15 = .ok (.if_icmp .eq 12, 3) := by decide +kernel
theorem dX12_product_18 : decode cX12_product 18 = .ok (.aload_n 0, 1) := by decide +kernel
theorem dX12_product_19 : decode cX12_product 19 = .ok (.getfield 311, 3) := by decide +kernel
theorem dX12_product_22 : decode cX12_product 22 = .ok (.bipush 47, 2) := by decide +kernel
theorem dX12_product_24 : decode cX12_product 24 = .ok (.if_icmp .ne 89, 3) := by decide +kernel
theorem dX12_product_27 : decode cX12_product 27 = .ok (.aload_n 0, 1) := by decide +kernel
theorem dX12_product_28 : decode cX12_product 28 = .ok (.getfield 311, 3) := by decide +kernel
theorem dX12_product_31 : decode cX12_product 31 = .ok (.bipush 47, 2) := by decide +kernel
theorem dX12_product_33 : decode cX12_product 33 = .ok (.if_icmp .ne 7, 3) := by decide +kernel
theorem dX12_product_36 : decode cX12_product 36 = .ok (.iconst 1, 1) := by decide +kernel
theorem dX12_product_37 : decode cX12_product 37 = .ok (.goto 4, 3) := by decide +kernel
theorem dX12_product_40 : decode cX12_product 40 = .ok (.iconst 0, 1) := by decide +kernel
theorem dX12_product_41 : decode cX12_product 41 = .ok (.istore_n 1, 1) := by decide +kernel
theorem dX12_product_42 : decode cX12_product 42 = .ok (.aload_n 0, 1) := by decide +kernel
theorem dX12_product_43 : decode cX12_product 43 = .ok (.invokevirtual 335, 3) := by decide +kernel
theorem dX12_product_46 : decode cX12_product 46 = .ok (.iload_n 1, 1) := by decide +kernel
theorem dX12_product_47 : decode cX12_product 47 = .ok (.ifCond .eq 47, 3) := by decide +kernel
theorem dX12_product_50 : decode cX12_product 50 = .ok (.aload_n 0, 1) := by decide +kernel
theorem dX12_product_51 : decode cX12_product 51 = .ok (.getfield 311, 3) := by decide +kernel
theorem dX12_product_54 : decode cX12_product 54 = .ok (.iconst 2, 1) := by decide +kernel
theorem dX12_product_55 : decode cX12_product 55 = .ok (.if_icmp .eq 9, 3) := by decide +kernel
theorem dX12_product_58 : decode cX12_product 58 = .ok (.aload_n 0, 1) := by decide +kernel
theorem dX12_product_59 : decode cX12_product 59 = .ok (.iconst 1, 1) := by decide +kernel
theorem dX12_product_60 : decode cX12_product 60 = .ok (.invokevirtual 332, 3) := by decide +kernel
theorem dX12_product_63 : decode cX12_product 63 = .ok (.ireturn, 1) := by decide +kernel
theorem dX12_product_64 : decode cX12_product 64 = .ok (.aload_n 0, 1) := by decide +kernel
theorem dX12_product_65 : decode cX12_product 65 = .ok (.getfield 323, 3) := by decide +kernel
theorem dX12_product_68 : decode cX12_product 68 = .ok (.ifCond .ne 9, 3) := by decide +kernel
theorem dX12_product_71 : decode cX12_product 71 = .ok (.aload_n 0, 1) := by decide +kernel
theorem dX12_product_72 : decode cX12_product 72 = .ok (.iconst 2, 1) := by decide +kernel
theorem dX12_product_73 : decode cX12_product 73 = .ok (.invokevirtual 332, 3) := by decide +kernel
theorem dX12_product_76 : decode cX12_product 76 = .ok (.ireturn, 1) := by decide +kernel
theorem dX12_product_77 : decode cX12_product 77 = .ok (.aload_n 0, 1) := by decide +kernel
theorem dX12_product_78 : decode cX12_product 78 = .ok (.bipush 8, 2) := by decide +kernel
theorem dX12_product_80 : decode cX12_product 80 = .ok (.aload_n 0, 1) := by decide +kernel
theorem dX12_product_81 : decode cX12_product 81 = .ok (.getfield 323, 3) := by decide +kernel
theorem dX12_product_84 : decode cX12_product 84 = .ok (.invokevirtual 351, 3) := by decide +kernel
theorem dX12_product_87 : decode cX12_product 87 = .ok (.aload_n 0, 1) := by decide +kernel
theorem dX12_product_88 : decode cX12_product 88 = .ok (.invokevirtual 335, 3) := by decide +kernel
theorem dX12_product_91 : decode cX12_product 91 = .ok (.goto 19, 3) := by decide +kernel
theorem dX12_product_94 : decode cX12_product 94 = .ok (.aload_n 0, 1) := by decide +kernel
theorem dX12_product_95 : decode cX12_product 95 = .ok (.invokevirtual 355, 3) := by decide +kernel
theorem dX12_product_98 : decode cX12_product 98 = .ok (.ifCond .ne 5, 3) := by decide +kernel
theorem dX12_product_101 : decode cX12_product 101 = .ok (.iconst 0, 1) := by decide +kernel
theorem dX12_product_102 : decode cX12_product 102 = .ok (.ireturn, 1) := by decide +kernel
theorem dX12_product_103 : decode cX12_product 103 = .ok (.aload_n 0, 1) := by decide +kernel
theorem dX12_product_104 : decode cX12_product 104 = .ok (.bipush 7, 2) := by decide +kernel
theorem dX12_product_106 : decode cX12_product 106 = .ok (.iconst 0, 1) := by decide +kernel
theorem dX12_product_107 : decode cX12_product 107 = .ok (.invokevirtual 351, 3) := by decide +kernel
theorem dX12_product_110 : decode cX12_product 110 = .ok (.goto (-101), 3) := by decide +kernel
theorem dX12_product_113 : decode cX12_product 113 = .ok (.iconst 1, 1) := by decide +kernel
theorem dX12_product_114 : decode cX12_product 114 = .ok (.ireturn, 1) := by decide +kernel
theorem dX12_unit_0 : decode cX12_unit 0 = .ok (.aload_n 0, 1) := by decide +kernel
theorem dX12_unit_1 : decode cX12_unit 1 = .ok (.getfield 311, 3) := by decide +kernel
theorem dX12_unit_4 : decode cX12_unit 4 = .ok (.bipush 40, 2) := by decide +kernel
theorem dX12_unit_6 : decode cX12_unit 6 = .ok (.if_icmp .ne 40, 3) := by decide +kernel
theorem dX12_unit_9 : decode cX12_unit 9 = .ok (.aload_n 0, 1) := by decide +kernel
theorem dX12_unit_10 : decode cX12_unit 10 = .ok (.invokevirtual 358, 3) := by decide +kernel
theorem dX12_unit_13 : decode cX12_unit 13 = .ok (.ifCond .eq 19, 3) := by decide +kernel
theorem dX12_unit_16 : decode cX12_unit 16 = .ok (.aload_n 0, 1) := by decide +kernel
theorem dX12_unit_17 : decode cX12_unit 17 = .ok (.invokevirtual 361, 3) := by decide +kernel
theorem dX12_unit_20 : decode cX12_unit 20 = .ok (.ifCond .eq 12, 3) := by decide +kernel
theorem dX12_unit_23 : decode cX12_unit 23 = .ok (.aload_n 0, 1) := by decide +kernel
theorem dX12_unit_24 : decode cX12_unit 24 = .ok (.bipush 41, 2) := by decide +kernel
theorem dX12_unit_26 : decode cX12_unit 26 = .ok (.invokevirtual 364, 3) := by decide +kernel
theorem dX12_unit_29 : decode cX12_unit 29 = .ok (.ifCond .ne 5, 3) := by decide +kernel
theorem dX12_unit_32 : decode cX12_unit 32 = .ok (.iconst 0, 1) := by decide +kernel
theorem dX12_unit_33 : decode cX12_unit 33 = .ok (.ireturn, 1) := by decide +kernel
theorem dX12_unit_34 : decode cX12_unit 34 = .ok (.aload_n 0, 1) := by decide +kernel
theorem dX12_unit_35 : decode cX12_unit 35 = .ok (.dup, 1) := by decide +kernel
theorem dX12_unit_36 : decode cX12_unit 36 = .ok (.getfield 344, 3) := by decide +kernel
theorem dX12_unit_39 : decode cX12_unit 39 = .ok (.iconst 1, 1) := by decide +kernel
theorem dX12_unit_40 : decode cX12_unit 40 = .ok (.isub, 1) := by decide +kernel
theorem dX12_unit_41 : decode cX12_unit 41 = .ok (.putfield 344, 3) := by decide +kernel
theorem dX12_unit_44 : decode cX12_unit 44 = .ok (.iconst 1, 1) := by decide +kernel
theorem dX12_unit_45 : decode cX12_unit 45 = .ok (.ireturn, 1) := by decide +kernel
theorem dX12_unit_46 : decode cX12_unit 46 = .ok (.aload_n 0, 1) := by decide +kernel
theorem dX12_unit_47 : decode cX12_unit 47 = .ok (.getfield 311, 3) := by decide +kernel
theorem dX12_unit_50 : decode cX12_unit 50 = .ok (.iconst 2, 1) := by decide +kernel
theorem dX12_unit_51 : decode cX12_unit 51 = .ok (.if_icmp .eq 19, 3) := by decide +kernel
theorem dX12_unit_54 : decode cX12_unit 54 = .ok (.aload_n 0, 1) := by decide +kernel
theorem dX12_unit_55 : decode cX12_unit 55 = .ok (.getfield 311, 3) := by decide +kernel
theorem dX12_unit_58 : decode cX12_unit 58 = .ok (.sipush 201, 3) := by decide +kernel
theorem dX12_unit_61 : decode cX12_unit 61 = .ok (.if_icmp .ge 9, 3) := by decide +kernel
theorem dX12_unit_64 : decode cX12_unit 64 = .ok (.aload_n 0, 1) := by decide +kernel
theorem dX12_unit_65 : decode cX12_unit 65 = .ok (.iconst 1, 1) := by decide +kernel
theorem dX12_unit_66 : decode cX12_unit 66 = .ok (.invokevirtual 332, 3) := by decide +kernel
theorem dX12_unit_69 : decode cX12_unit 69 = .ok (.ireturn, 1) := by decide +kernel
theorem dX12_unit_70 : decode cX12_unit 70 = .ok (.aload_n 0, 1) := by decide +kernel
theorem dX12_unit_71 : decode cX12_unit 71 = .ok (.aload_n 0, 1) := by decide +kernel
theorem dX12_unit_72 : decode cX12_unit 72 = .ok (.getfield 311, 3) := by decide +kernel
theorem dX12_unit_75 : decode cX12_unit 75 = .ok (.iconst 2, 1) := by decide +kernel
theorem dX12_unit_76 : decode cX12_unit 76 = .ok (.if_icmp .ne 7, 3) := by decide +kernel
theorem dX12_unit_79 : decode cX12_unit 79 = .ok (.iconst 0, 1) := by decide +kernel
theorem dX12_unit_80 : decode cX12_unit 80 = .ok (.goto 13, 3) := by decide +kernel
theorem dX12_unit_83 : decode cX12_unit 83 = .ok (.iconst 1, 1) := by decide +kernel
theorem dX12_unit_84 : decode cX12_unit 84 = .ok (.aload_n 0, 1) := by decide +kernel
theorem dX12_unit_85 : decode cX12_unit 85 = .ok (.getfield 311, 3) := by decide +kernel
theorem dX12_unit_88 : decode cX12_unit 88 = .ok (.iadd, 1) := by decide +kernel
theorem dX12_unit_89 : decode cX12_unit 89 = .ok (.sipush 201, 3) := by decide +kernel
theorem dX12_unit_92 : decode cX12_unit 92 = .ok (.isub, 1) := by decide +kernel
theorem dX12_unit_93 : decode cX12_unit 93 = .ok (.aload_n 0, 1) := by decide +kernel
theorem dX12_unit_94 : decode cX12_unit 94 = .ok (.getfield 323, 3) := by decide +kernel
theorem dX12_unit_97 : decode cX12_unit 97 = .ok (.invokevirtual 351, 3) := by decide +kernel
theorem dX12_unit_100 : decode cX12_unit 100 = .ok (.aload_n 0, 1) := by decide +kernel
theorem dX12_unit_101 : decode cX12_unit 101 = .ok (.invokevirtual 335, 3) := by decide +kernel
theorem dX12_unit_104 : decode cX12_unit 104 = .ok (.iconst 1, 1) := by decide +kernel
theorem dX12_unit_105 : decode cX12_unit 105 = .ok (.ireturn, 1) := by decide +kernel
theorem dX12_any_0 : decode cX12_any 0 = .ok (.aload_n 0, 1) := by decide +kernel
theorem dX12_any_1 : decode cX12_any 1 = .ok (.invokevirtual 367, 3) := by decide +kernel
theorem dX12_any_4 : decode cX12_any 4 = .ok (.ifCond .ne 5, 3) := by decide +kernel
theorem dX12_any_7 : decode cX12_any 7 = .ok (.iconst 0, 1) := by decide +kernel
theorem dX12_any_8 : decode cX12_any 8 = .ok (.ireturn, 1) := by decide +kernel
theorem dX12_any_9 : decode cX12_any 9 = .ok (.aload_n 0, 1) := by decide +kernel
theorem dX12_any_10 : decode cX12_any 10 = .ok (.getfield 311, 3) := by decide +kernel
theorem dX12_any_13 : decode cX12_any 13 = .ok (.bipush 10, 2) := by decide +kernel
theorem dX12_any_15 : decode cX12_any 15 = .ok (.if_icmp .ne 26, 3) := by decide +kernel
theorem dX12_any_18 : decode cX12_any 18 = .ok (.aload_n 0, 1) := by decide +kernel
theorem dX12_any_19 : decode cX12_any 19 = .ok (.invokevirtual 335, 3) := by decide +kernel
theorem dX12_any_22 : decode cX12_any 22 = .ok (.aload_n 0, 1) := by decide +kernel
theorem dX12_any_23 : decode cX12_any 23 = .ok (.invokevirtual 367, 3) := by decide +kernel
theorem dX12_any_26 : decode cX12_any 26 = .ok (.ifCond .ne 5, 3) := by decide +kernel
theorem dX12_any_29 : decode cX12_any 29 = .ok (.iconst 0, 1) := by decide +kernel
theorem dX12_any_30 : decode cX12_any 30 = .ok (.ireturn, 1) := by decide +kernel
theorem dX12_any_31 : decode cX12_any 31 = .ok (.aload_n 0, 1) := by decide +kernel
theorem dX12_any_32 : decode cX12_any 32 = .ok (.bipush 14, 2) := by decide +kernel
theorem dX12_any_34 : decode cX12_any 34 = .ok (.iconst 0, 1) := by decide +kernel
theorem dX12_any_35 : decode cX12_any 35 = .ok (.invokevirtual 351, 3) := by decide +kernel
theorem dX12_any_38 : decode cX12_any 38 = .ok (.goto (-29), 3) := by decide +kernel
theorem dX12_any_41 : decode cX12_any 41 = .ok (.iconst 1, 1) := by decide +kernel
theorem dX12_any_42 : decode cX12_any 42 = .ok (.ireturn, 1) := by decide +kernel
theorem dX12_all_0 : decode cX12_all 0 = .ok (.aload_n 0, 1) := by decide +kernel
theorem dX12_all_1 : decode cX12_all 1 = .ok (.invokevirtual 370, 3) := by decide +kernel
theorem dX12_all_4 : decode cX12_all 4 = .ok (.ifCond .ne 5, 3) := by decide +kernel
theorem dX12_all_7 : decode cX12_all 7 = .ok (.iconst 0, 1) := by decide +kernel
theorem dX12_all_8 : decode cX12_all 8 = .ok (.ireturn, 1) := by decide +kernel
theorem dX12_all_9 : decode cX12_all 9 = .ok (.aload_n 0, 1) := by decide +kernel
theorem dX12_all_10 : decode cX12_all 10 = .ok (.getfield 311, 3) := by decide +kernel
theorem dX12_all_13 : decode cX12_all 13 = .ok (.bipush 11, 2) := by decide +kernel
theorem dX12_all_15 : decode cX12_all 15 = .ok (.if_icmp .ne 26, 3) := by decide +kernel
theorem dX12_all_18 : decode cX12_all 18 = .ok (.aload_n 0, 1) := by decide +kernel
theorem dX12_all_19 : decode cX12_all 19 = .ok (.invokevirtual 335, 3) := by decide +kernel
theorem dX12_all_22 : decode cX12_all 22 = .ok (.aload_n 0, 1) := by decide +kernel
theorem dX12_all_23 : decode cX12_all 23 = .ok (.invokevirtual 370, 3) := by decide +kernel
theorem dX12_all_26 : decode cX12_all 26 = .ok (.ifCond .ne 5, 3) := by decide +kernel
theorem dX12_all_29 : decode cX12_all 29 = .ok (.iconst 0, 1) := by decide +kernel
theorem dX12_all_30 : decode cX12_all 30 = .ok (.ireturn, 1) := by decide +kernel
theorem dX12_all_31 : decode cX12_all 31 = .ok (.aload_n 0, 1) := by decide +kernel
theorem dX12_all_32 : decode cX12_all 32 = .ok (.bipush 13, 2) := by decide +kernel
theorem dX12_all_34 : decode cX12_all 34 = .ok (.iconst 0, 1) := by decide +kernel
theorem dX12_all_35 : decode cX12_all 35 = .ok (.invokevirtual 351, 3) := by decide +kernel
theorem dX12_all_38 : decode cX12_all 38 = .ok (.goto (-29), 3) := by decide +kernel
theorem dX12_all_41 : decode cX12_all 41 = .ok (.iconst 1, 1) := by decide +kernel
theorem dX12_all_42 : decode cX12_all 42 = .ok (.ireturn, 1) := by decide +kernel
theorem dX12_one_0 : decode cX12_one 0 = .ok (.aload_n 0, 1) := by decide +kernel
theorem dX12_one_1 : decode cX12_one 1 = .ok (.getfield 311, 3) := by decide +kernel
theorem dX12_one_4 : decode cX12_one 4 = .ok (.bipush 12, 2) := by decide +kernel
theorem dX12_one_6 : decode cX12_one 6 = .ok (.if_icmp .ne 38, 3) := by decide +kernel
theorem dX12_one_9 : decode cX12_one 9 = .ok (.aload_n 0, 1) := by decide +kernel
theorem dX12_one_10 : decode cX12_one 10 = .ok (.invokevirtual 358, 3) := by decide +kernel
theorem dX12_one_13 : decode cX12_one 13 = .ok (.ifCond .eq 10, 3) := by decide +kernel
theorem dX12_one_16 : decode cX12_one 16 = .ok (.aload_n 0, 1) := by decide +kernel
theorem dX12_one_17 : decode cX12_one 17 = .ok (.invokevirtual 370, 3) := by decide +kernel
theorem dX12_one_20 : decode cX12_one 20 = .ok (.ifCond .ne 5, 3) := by decide +kernel
theorem dX12_one_23 : decode cX12_one 23 = .ok (.iconst 0, 1) := by decide +kernel
theorem dX12_one_24 : decode cX12_one 24 = .ok (.ireturn, 1) := by decide +kernel
theorem dX12_one_25 : decode cX12_one 25 = .ok (.aload_n 0, 1) := by decide +kernel
theorem dX12_one_26 : decode cX12_one 26 = .ok (.dup, 1) := by decide +kernel
theorem dX12_one_27 : decode cX12_one 27 = .ok (.getfield 344, 3) := by decide +kernel
theorem dX12_one_30 : decode cX12_one 30 = .ok (.iconst 1, 1) := by decide +kernel
theorem dX12_one_31 : decode cX12_one 31 = .ok (.isub, 1) := by decide +kernel
theorem dX12_one_32 : decode cX12_one 32 = .ok (.putfield 344, 3) := by decide +kernel
theorem dX12_one_35 : decode cX12_one 35 = .ok (.aload_n 0, 1) := by decide +kernel
theorem dX12_one_36 : decode cX12_one 36 = .ok (.bipush 12, 2) := by decide +kernel
theorem dX12_one_38 : decode cX12_one 38 = .ok (.iconst 0, 1) := by decide +kernel
theorem dX12_one_39 : decode cX12_one 39 = .ok (.invokevirtual 351, 3) := by decide +kernel
theorem dX12_one_42 : decode cX12_one 42 = .ok (.iconst 1, 1) := by decide +kernel
theorem dX12_one_43 : decode cX12_one 43 = .ok (.ireturn, 1) := by decide +kernel
theorem dX12_one_44 : decode cX12_one 44 = .ok (.aload_n 0, 1) := by decide +kernel
theorem dX12_one_45 : decode cX12_one 45 = .ok (.invokevirtual 361, 3) := by decide +kernel
theorem dX12_one_48 : decode cX12_one 48 = .ok (.ifCond .ne 5, 3) := by decide +kernel
theorem dX12_one_51 : decode cX12_one 51 = .ok (.iconst 0, 1) := by decide +kernel
theorem dX12_one_52 : decode cX12_one 52 = .ok (.ireturn, 1) := by decide +kernel
theorem dX12_one_53 : decode cX12_one 53 = .ok (.aload_n 0, 1) := by decide +kernel
theorem dX12_one_54 : decode cX12_one 54 = .ok (.getfield 311, 3) := by decide +kernel
theorem dX12_one_57 : decode cX12_one 57 = .ok (.bipush 60, 2) := by decide +kernel
theorem dX12_one_59 : decode cX12_one 59 = .ok (.if_icmp .ne 8, 3) := by decide +kernel
theorem dX12_one_62 : decode cX12_one 62 = .ok (.bipush 9, 2) := by decide +kernel
theorem dX12_one_64 : decode cX12_one 64 = .ok (.goto 32, 3) := by decide +kernel
theorem dX12_one_67 : decode cX12_one 67 = .ok (.aload_n 0, 1) := by decide +kernel
theorem dX12_one_68 : decode cX12_one 68 = .ok (.getfield 311, 3) := by decide +kernel
theorem dX12_one_71 : decode cX12_one 71 = .ok (.bipush 61, 2) := by decide +kernel
theorem dX12_one_73 : decode cX12_one 73 = .ok (.if_icmp .ne 8, 3) := by decide +kernel
theorem dX12_one_76 : decode cX12_one 76 = .ok (.bipush 10, 2) := by decide +kernel
theorem dX12_one_78 : decode cX12_one 78 = .ok (.goto 18, 3) := by decide +kernel
theorem dX12_one_81 : decode cX12_one 81 = .ok (.aload_n 0, 1) := by decide +kernel
theorem dX12_one_82 : decode cX12_one 82 = .ok (.getfield 311, 3) := by decide +kernel
theorem dX12_one_85 : decode cX12_one 85 = .ok (.bipush 62, 2) := by decide +kernel
theorem dX12_one_87 : decode cX12_one 87 = .ok (.if_icmp .ne 8, 3) := by decide +kernel
theorem dX12_one_90 : decode cX12_one 90 = .ok (.bipush 11, 2) := by decide +kernel
theorem dX12_one_92 : decode cX12_one 92 = .ok (.goto 4, 3) := by decide +kernel
theorem dX12_one_95 : decode cX12_one 95 = .ok (.iconst (-1), 1) := by decide +kernel
theorem dX12_one_96 : decode cX12_one 96 = .ok (.istore_n 1, 1) := by decide +kernel
theorem dX12_one_97 : decode cX12_one 97 = .ok (.iload_n 1, 1) := by decide +kernel
theorem dX12_one_98 : decode cX12_one 98 = .ok (.iconst (-1), 1) := by decide +kernel
theorem dX12_one_99 : decode cX12_one 99 = .ok (.if_icmp .ne 9, 3) := by decide +kernel
theorem dX12_one_102 : decode cX12_one 102 = .ok (.aload_n 0, 1) := by decide +kernel
theorem dX12_one_103 : decode cX12_one 103 = .ok (.iconst 1, 1) := by decide +kernel
theorem dX12_one_104 : decode cX12_one 104 = .ok (.invokevirtual 332, 3) := by decide +kernel
theorem dX12_one_107 : decode cX12_one 107 = .ok (.ireturn, 1) := by decide +kernel
theorem dX12_one_108 : decode cX12_one 108 = .ok (.aload_n 0, 1) := by decide +kernel
theorem dX12_one_109 : decode cX12_one 109 = .ok (.invokevirtual 335, 3) := by decide +kernel
theorem dX12_one_112 : decode cX12_one 112 = .ok (.aload_n 0, 1) := by decide +kernel
theorem dX12_one_113 : decode cX12_one 113 = .ok (.invokevirtual 361, 3) := by decide +kernel
theorem dX12_one_116 : decode cX12_one 116 = .ok (.ifCond .ne 5, 3) := by decide +kernel
theorem dX12_one_119 : decode cX12_one 119 = .ok (.iconst 0, 1) := by decide +kernel
theorem dX12_one_120 : decode cX12_one 120 = .ok (.ireturn, 1) := by decide +kernel
theorem dX12_one_121 : decode cX12_one 121 = .ok (.aload_n 0, 1) := by decide +kernel
theorem dX12_one_122 : decode cX12_one 122 = .ok (.iload_n 1, 1) := by decide +kernel
theorem dX12_one_123 : decode cX12_one 123 = .ok (.iconst 0, 1) := by decide +kernel
theorem dX12_one_124 : decode cX12_one 124 = .ok (.invokevirtual 351, 3) := by decide +kernel
theorem dX12_one_127 : decode cX12_one 127 = .ok (.iconst 1, 1) := by decide +kernel
theorem dX12_one_128 : decode cX12_one 128 = .ok (.ireturn, 1) := by decide +kernel
theorem dX12_two_0 : decode cX12_two 0 = .ok (.aload_n 0, 1) := by decide +kernel
theorem dX12_two_1 : decode cX12_two 1 = .ok (.iload_n 2, 1) := by decide +kernel
theorem dX12_two_2 : decode cX12_two 2 = .ok (.invokevirtual 373, 3) := by decide +kernel
theorem dX12_two_5 : decode cX12_two 5 = .ok (.ifCond .ne 5, 3) := by decide +kernel
theorem dX12_two_8 : decode cX12_two 8 = .ok (.iconst 0, 1) := by decide +kernel
theorem dX12_two_9 : decode cX12_two 9 = .ok (.ireturn, 1) := by decide +kernel
theorem dX12_two_10 : decode cX12_two 10 = .ok (.aload_n 0, 1) := by decide +kernel
theorem dX12_two_11 : decode cX12_two 11 = .ok (.getfield 100, 3) := by decide +kernel
theorem dX12_two_14 : decode cX12_two 14 = .ok (.iload_n 1, 1) := by decide +kernel
theorem dX12_two_15 : decode cX12_two 15 = .ok (.aload_n 0, 1) := by decide +kernel
theorem dX12_two_16 : decode cX12_two 16 = .ok (.getfield 338, 3) := by decide +kernel
theorem dX12_two_19 : decode cX12_two 19 = .ok (.iastore, 1) := by decide +kernel
theorem dX12_two_20 : decode cX12_two 20 = .ok (.iload_n 3, 1) := by decide +kernel
theorem dX12_two_21 : decode cX12_two 21 = .ok (.iconst (-1), 1) := by decide +kernel
theorem dX12_two_22 : decode cX12_two 22 = .ok (.if_icmp .ne 5, 3) := by decide +kernel
theorem dX12_two_25 : decode cX12_two 25 = .ok (.iconst 1, 1) := by decide +kernel
theorem dX12_two_26 : decode cX12_two 26 = .ok (.ireturn, 1) := by decide +kernel
theorem dX12_two_27 : decode cX12_two 27 = .ok (.aload_n 0, 1) := by decide +kernel
theorem dX12_two_28 : decode cX12_two 28 = .ok (.iload_n 3, 1) := by decide +kernel
theorem dX12_two_29 : decode cX12_two 29 = .ok (.invokevirtual 373, 3) := by decide +kernel
theorem dX12_two_32 : decode cX12_two 32 = .ok (.ifCond .ne 5, 3) := by decide +kernel
theorem dX12_two_35 : decode cX12_two 35 = .ok (.iconst 0, 1) := by decide +kernel
theorem dX12_two_36 : decode cX12_two 36 = .ok (.ireturn, 1) := by decide +kernel
theorem dX12_two_37 : decode cX12_two 37 = .ok (.aload_n 0, 1) := by decide +kernel
theorem dX12_two_38 : decode cX12_two 38 = .ok (.getfield 103, 3) := by decide +kernel
theorem dX12_two_41 : decode cX12_two 41 = .ok (.iload_n 1, 1) := by decide +kernel
theorem dX12_two_42 : decode cX12_two 42 = .ok (.aload_n 0, 1) := by decide +kernel
theorem dX12_two_43 : decode cX12_two 43 = .ok (.getfield 338, 3) := by decide +kernel
theorem dX12_two_46 : decode cX12_two 46 = .ok (.iastore, 1) := by decide +kernel
theorem dX12_two_47 : decode cX12_two 47 = .ok (.iconst 1, 1) := by decide +kernel
theorem dX12_two_48 : decode cX12_two 48 = .ok (.ireturn, 1) := by decide +kernel
theorem dX12_inner_0 : decode cX12_inner 0 = .ok (.aload_n 0, 1) := by decide +kernel
theorem dX12_inner_1 : decode cX12_inner 1 = .ok (.getfield 97, 3) := by decide +kernel
theorem dX12_inner_4 : decode cX12_inner 4 = .ok (.iload_n 1, 1) := by decide +kernel
theorem dX12_inner_5 : decode cX12_inner 5 = .ok (.iaload, 1) := by decide +kernel
theorem dX12_inner_6 : decode cX12_inner 6 = .ok (.tableswitch 81 3 7 #[34, 43, 51, 61, 70], 34) := by decide +kernel
theorem dX12_inner_40 : decode cX12_inner 40 = .ok (.aload_n 0, 1) := by decide +kernel
theorem dX12_inner_41 : decode cX12_inner 41 = .ok (.iload_n 1, 1) := by decide +kernel
theorem dX12_inner_42 : decode cX12_inner 42 = .ok (.iconst 3, 1) := by decide +kernel
theorem dX12_inner_43 : decode cX12_inner 43 = .ok (.bipush 40, 2) := by decide +kernel
theorem dX12_inner_45 : decode cX12_inner 45 = .ok (.invokevirtual 376, 3) := by decide +kernel
theorem dX12_inner_48 : decode cX12_inner 48 = .ok (.ireturn, 1) := by decide +kernel
theorem dX12_inner_49 : decode cX12_inner 49 = .ok (.aload_n 0, 1) := by decide +kernel
theorem dX12_inner_50 : decode cX12_inner 50 = .ok (.iload_n 1, 1) := by decide +kernel
theorem dX12_inner_51 : decode cX12_inner 51 = .ok (.iconst 5, 1) := by decide +kernel
theorem dX12_inner_52 : decode cX12_inner 52 = .ok (.iconst (-1), 1) := by decide +kernel
theorem dX12_inner_53 : decode cX12_inner 53 = .ok (.invokevirtual 376, 3) := by decide +kernel
theorem dX12_inner_56 : decode cX12_inner 56 = .ok (.ireturn, 1) := by decide +kernel
theorem dX12_inner_57 : decode cX12_inner 57 = .ok (.aload_n 0, 1) := by decide +kernel
theorem dX12_inner_58 : decode cX12_inner 58 = .ok (.iload_n 1, 1) := by decide +kernel
theorem dX12_inner_59 : decode cX12_inner 59 = .ok (.sipush 999, 3) := by decide +kernel
theorem dX12_inner_62 : decode cX12_inner 62 = .ok (.iconst (-1), 1) := by decide +kernel
theorem dX12_inner_63 : decode cX12_inner 63 = .ok (.invokevirtual 376, 3) := by decide +kernel
theorem dX12_inner_66 : decode cX12_inner 66 = .ok (.ireturn, 1) := by decide +kernel
theorem dX12_inner_67 : decode cX12_inner 67 = .ok (.aload_n 0, 1) := by decide +kernel
theorem dX12_inner_68 : decode cX12_inner 68 = .ok (.iload_n 1, 1) := by decide +kernel
theorem dX12_inner_69 : decode cX12_inner 69 = .ok (.bipush 100, 2) := by decide +kernel
theorem dX12_inner_71 : decode cX12_inner 71 = .ok (.iconst (-1), 1) := by decide +kernel
theorem dX12_inner_72 : decode cX12_inner 72 = .ok (.invokevirtual 376, 3) := by decide +kernel
theorem dX12_inner_75 : decode cX12_inner 75 = .ok (.ireturn, 1) := by decide +kernel
theorem dX12_inner_76 : decode cX12_inner 76 = .ok (.aload_n 0, 1) := by decide +kernel
theorem dX12_inner_77 : decode cX12_inner 77 = .ok (.iload_n 1, 1) := by decide +kernel
theorem dX12_inner_78 : decode cX12_inner 78 = .ok (.sipush 200, 3) := by decide +kernel
theorem dX12_inner_81 : decode cX12_inner 81 = .ok (.bipush 40, 2) := by decide +kernel
theorem dX12_inner_83 : decode cX12_inner 83 = .ok (.invokevirtual 376, 3) := by decide +kernel
theorem dX12_inner_86 : decode cX12_inner 86 = .ok (.ireturn, 1) := by decide +kernel
theorem dX12_inner_87 : decode cX12_inner 87 = .ok (.aload_n 0, 1) := by decide +kernel
theorem dX12_inner_88 : decode cX12_inner 88 = .ok (.invokevirtual 361, 3) := by decide +kernel
theorem dX12_inner_91 : decode cX12_inner 91 = .ok (.ifCond .ne 5, 3) := by decide +kernel
theorem dX12_inner_94 : decode cX12_inner 94 = .ok (.iconst 0, 1) := by decide +kernel
theorem dX12_inner_95 : decode cX12_inner 95 = .ok (.ireturn, 1) := by decide +kernel
theorem dX12_inner_96 : decode cX12_inner 96 = .ok (.aload_n 0, 1) := by decide +kernel
theorem dX12_inner_97 : decode cX12_inner 97 = .ok (.getfield 109, 3) := by decide +kernel
theorem dX12_inner_100 : decode cX12_inner 100 = .ok (.iload_n 1, 1) := by decide +kernel
theorem dX12_inner_101 : decode cX12_inner 101 = .ok (.aload_n 0, 1) := by decide +kernel
theorem dX12_inner_102 : decode cX12_inner 102 = .ok (.getfield 341, 3) := by decide +kernel
theorem dX12_inner_105 : decode cX12_inner 105 = .ok (.iastore, 1) := by decide +kernel
theorem dX12_inner_106 : decode cX12_inner 106 = .ok (.aload_n 0, 1) := by decide +kernel
theorem dX12_inner_107 : decode cX12_inner 107 = .ok (.getfield 311, 3) := by decide +kernel
theorem dX12_inner_110 : decode cX12_inner 110 = .ok (.bipush 9, 2) := by decide +kernel
theorem dX12_inner_112 : decode cX12_inner 112 = .ok (.if_icmp .eq 5, 3) := by decide +kernel
theorem dX12_inner_115 : decode cX12_inner 115 = .ok (.iconst 1, 1) := by decide +kernel
theorem dX12_inner_116 : decode cX12_inner 116 = .ok (.ireturn, 1) := by decide +kernel
theorem dX12_inner_117 : decode cX12_inner 117 = .ok (.aload_n 0, 1) := by decide +kernel
theorem dX12_inner_118 : decode cX12_inner 118 = .ok (.invokevirtual 335, 3) := by decide +kernel
theorem dX12_inner_121 : decode cX12_inner 121 = .ok (.aload_n 0, 1) := by decide +kernel
theorem dX12_inner_122 : decode cX12_inner 122 = .ok (.invokevirtual 379, 3) := by decide +kernel
theorem dX12_inner_125 : decode cX12_inner 125 = .ok (.ireturn, 1) := by decide +kernel
theorem dX12_aLine_0 : decode cX12_aLine 0 = .ok (.aload_n 0, 1) := by decide +kernel
theorem dX12_aLine_1 : decode cX12_aLine 1 = .ok (.getfield 311, 3) := by decide +kernel
theorem dX12_aLine_4 : decode cX12_aLine 4 = .ok (.iconst 3, 1) := by decide +kernel
theorem dX12_aLine_5 : decode cX12_aLine 5 = .ok (.bipush 8, 2) := by decide +kernel
theorem dX12_aLine_7 : decode cX12_aLine 7 = .ok (.invokestatic 200, 3) := by decide +kernel
theorem dX12_aLine_10 : decode cX12_aLine 10 = .ok (.ifCond .ne 9, 3) := by decide +kernel
theorem dX12_aLine_13 : decode cX12_aLine 13 = .ok (.aload_n 0, 1) := by decide +kernel
theorem dX12_aLine_14 : decode cX12_aLine 14 = .ok (.iconst 1, 1) := by decide +kernel
theorem dX12_aLine_15 : decode cX12_aLine 15 = .ok (.invokevirtual 332, 3) := by decide +kernel
theorem dX12_aLine_18 : decode cX12_aLine 18 = .ok (.ireturn, 1) := by decide +kernel
theorem dX12_aLine_19 : decode cX12_aLine 19 = .ok (.aload_n 0, 1) := by decide +kernel
theorem dX12_aLine_20 : decode cX12_aLine 20 = .ok (.getfield 382, 3) := by decide +kernel
theorem dX12_aLine_23 : decode cX12_aLine 23 = .ok (.bipush 24, 2) := by decide +kernel
theorem dX12_aLine_25 : decode cX12_aLine 25 = .ok (.if_icmp .ne 9, 3) := by decide +kernel
theorem dX12_aLine_28 : decode cX12_aLine 28 = .ok (.aload_n 0, 1) := by decide +kernel
theorem dX12_aLine_29 : decode cX12_aLine 29 = .ok (.iconst 3, 1) := by decide +kernel
theorem dX12_aLine_30 : decode cX12_aLine 30 = .ok (.invokevirtual 332, 3) := by decide +kernel
theorem dX12_aLine_33 : decode cX12_aLine 33 = .ok (.ireturn, 1) := by decide +kernel
theorem dX12_aLine_34 : decode cX12_aLine 34 = .ok (.aload_n 0, 1) := by decide +kernel
theorem dX12_aLine_35 : decode cX12_aLine 35 = .ok (.getfield 382, 3) := by decide +kernel
theorem dX12_aLine_38 : decode cX12_aLine 38 = .ok (.istore_n 1, 1) := by decide +kernel
theorem dX12_aLine_39 : decode cX12_aLine 39 = .ok (.aload_n 0, 1) := by decide +kernel
theorem dX12_aLine_40 : decode cX12_aLine 40 = .ok (.getfield 97, 3) := by decide +kernel
theorem dX12_aLine_43 : decode cX12_aLine 43 = .ok (.iload_n 1, 1) := by decide +kernel
theorem dX12_aLine_44 : decode cX12_aLine 44 = .ok (.aload_n 0, 1) := by decide +kernel
theorem dX12_aLine_45 : decode cX12_aLine 45 = .ok (.getfield 311, 3) := by decide +kernel
theorem dX12_aLine_48 : decode cX12_aLine 48 = .ok (.iastore, 1) := by decide +kernel
theorem dX12_aLine_49 : decode cX12_aLine 49 = .ok (.aload_n 0, 1) := by decide +kernel
theorem dX12_aLine_50 : decode cX12_aLine 50 = .ok (.getfield 106, 3) := by decide +kernel
theorem dX12_aLine_53 : decode cX12_aLine 53 = .ok (.iload_n 1, 1) := by decide +kernel
theorem dX12_aLine_54 : decode cX12_aLine 54 = .ok (.aload_n 0, 1) := by decide +kernel
theorem dX12_aLine_55 : decode cX12_aLine 55 = .ok (.getfield 341, 3) := by decide +kernel
theorem dX12_aLine_58 : decode cX12_aLine 58 = .ok (.iastore, 1) := by decide +kernel
theorem dX12_aLine_59 : decode cX12_aLine 59 = .ok (.aload_n 0, 1) := by decide +kernel
theorem dX12_aLine_60 : decode cX12_aLine 60 = .ok (.getfield 109, 3) := by decide +kernel
theorem dX12_aLine_63 : decode cX12_aLine 63 = .ok (.iload_n 1, 1) := by decide +kernel
theorem dX12_aLine_64 : decode cX12_aLine 64 = .ok (.aload_n 0, 1) := by decide +kernel
theorem dX12_aLine_65 : decode cX12_aLine 65 = .ok (.getfield 341, 3) := by decide +kernel
theorem dX12_aLine_68 : decode cX12_aLine 68 = .ok (.iastore, 1) := by decide +kernel
theorem dX12_aLine_69 : decode cX12_aLine 69 = .ok (.aload_n 0, 1) := by decide +kernel
theorem dX12_aLine_70 : decode cX12_aLine 70 = .ok (.iconst 0, 1) := by decide +kernel
theorem dX12_aLine_71 : decode cX12_aLine 71 = .ok (.putfield 344, 3) := by decide +kernel
theorem dX12_aLine_74 : decode cX12_aLine 74 = .ok (.aload_n 0, 1) := by decide +kernel
theorem dX12_aLine_75 : decode cX12_aLine 75 = .ok (.invokevirtual 335, 3) := by decide +kernel
theorem dX12_aLine_78 : decode cX12_aLine 78 = .ok (.aload_n 0, 1) := by decide +kernel
theorem dX12_aLine_79 : decode cX12_aLine 79 = .ok (.iload_n 1, 1) := by decide +kernel
theorem dX12_aLine_80 : decode cX12_aLine 80 = .ok (.invokevirtual 385, 3) := by decide +kernel
theorem dX12_aLine_83 : decode cX12_aLine 83 = .ok (.ifCond .ne 5, 3) := by decide +kernel
theorem dX12_aLine_86 : decode cX12_aLine 86 = .ok (.iconst 0, 1) := by decide +kernel
theorem dX12_aLine_87 : decode cX12_aLine 87 = .ok (.ireturn, 1) := by decide +kernel
theorem dX12_aLine_88 : decode cX12_aLine 88 = .ok (.aload_n 0, 1) := by decide +kernel
theorem dX12_aLine_89 : decode cX12_aLine 89 = .ok (.dup, 1) := by decide +kernel
theorem dX12_aLine_90 : decode cX12_aLine 90 = .ok (.getfield 382, 3) := by decide +kernel
theorem dX12_aLine_93 : decode cX12_aLine 93 = .ok (.iconst 1, 1) := by decide +kernel
theorem dX12_aLine_94 : decode cX12_aLine 94 = .ok (.iadd, 1) := by decide +kernel
theorem dX12_aLine_95 : decode cX12_aLine 95 = .ok (.putfield 382, 3) := by decide +kernel
theorem dX12_aLine_98 : decode cX12_aLine 98 = .ok (.aload_n 0, 1) := by decide +kernel
theorem dX12_aLine_99 : decode cX12_aLine 99 = .ok (.bipush 59, 2) := by decide +kernel
theorem dX12_aLine_101 : decode cX12_aLine 101 = .ok (.invokevirtual 364, 3) := by decide +kernel
theorem dX12_aLine_104 : decode cX12_aLine 104 = .ok (.ireturn, 1) := by decide +kernel
theorem dX12_reads_0 : decode cX12_reads 0 = .ok (.iload_n 1, 1) := by decide +kernel
theorem dX12_reads_1 : decode cX12_reads 1 = .ok (.invokestatic 213, 3) := by decide +kernel
theorem dX12_reads_4 : decode cX12_reads 4 = .ok (.ifCond .ne 10, 3) := by decide +kernel
theorem dX12_reads_7 : decode cX12_reads 7 = .ok (.aload_n 0, 1) := by decide +kernel
theorem dX12_reads_8 : decode cX12_reads 8 = .ok (.iconst 0, 1) := by decide +kernel
theorem dX12_reads_9 : decode cX12_reads 9 = .ok (.putfield 259, 3) := by decide +kernel
theorem dX12_reads_12 : decode cX12_reads 12 = .ok (.iconst (-1), 1) := by decide +kernel
theorem dX12_reads_13 : decode cX12_reads 13 = .ok (.ireturn, 1) := by decide +kernel
theorem dX12_reads_14 : decode cX12_reads 14 = .ok (.aload_n 0, 1) := by decide +kernel
theorem dX12_reads_15 : decode cX12_reads 15 = .ok (.iconst 0, 1) := by decide +kernel
theorem dX12_reads_16 : decode cX12_reads 16 = .ok (.putfield 326, 3) := by decide +kernel
theorem dX12_reads_19 : decode cX12_reads 19 = .ok (.aload_n 0, 1) := by decide +kernel
theorem dX12_reads_20 : decode cX12_reads 20 = .ok (.iconst 0, 1) := by decide +kernel
theorem dX12_reads_21 : decode cX12_reads 21 = .ok (.putfield 262, 3) := by decide +kernel
theorem dX12_reads_24 : decode cX12_reads 24 = .ok (.aload_n 0, 1) := by decide +kernel
theorem dX12_reads_25 : decode cX12_reads 25 = .ok (.iconst 0, 1) := by decide +kernel
theorem dX12_reads_26 : decode cX12_reads 26 = .ok (.putfield 382, 3) := by decide +kernel
theorem dX12_reads_29 : decode cX12_reads 29 = .ok (.aload_n 0, 1) := by decide +kernel
theorem dX12_reads_30 : decode cX12_reads 30 = .ok (.iconst 0, 1) := by decide +kernel
theorem dX12_reads_31 : decode cX12_reads 31 = .ok (.putfield 341, 3) := by decide +kernel
theorem dX12_reads_34 : decode cX12_reads 34 = .ok (.aload_n 0, 1) := by decide +kernel
theorem dX12_reads_35 : decode cX12_reads 35 = .ok (.invokevirtual 335, 3) := by decide +kernel
theorem dX12_reads_38 : decode cX12_reads 38 = .ok (.iconst 1, 1) := by decide +kernel
theorem dX12_reads_39 : decode cX12_reads 39 = .ok (.istore_n 2, 1) := by decide +kernel
theorem dX12_reads_40 : decode cX12_reads 40 = .ok (.iload_n 2, 1) := by decide +kernel
theorem dX12_reads_41 : decode cX12_reads 41 = .ok (.ifCond .eq 18, 3) := by decide +kernel
theorem dX12_reads_44 : decode cX12_reads 44 = .ok (.aload_n 0, 1) := by decide +kernel
theorem dX12_reads_45 : decode cX12_reads 45 = .ok (.getfield 311, 3) := by decide +kernel
theorem dX12_reads_48 : decode cX12_reads 48 = .ok (.ifCond .eq 11, 3) := by decide +kernel
theorem dX12_reads_51 : decode cX12_reads 51 = .ok (.aload_n 0, 1) := by decide +kernel
theorem dX12_reads_52 : decode cX12_reads 52 = .ok (.invokevirtual 388, 3) := by decide +kernel
theorem dX12_reads_55 : decode cX12_reads 55 = .ok (.istore_n 2, 1) := by decide +kernel
theorem dX12_reads_56 : decode cX12_reads 56 = .ok (.goto (-16), 3) := by decide +kernel
theorem dX12_reads_59 : decode cX12_reads 59 = .ok (.aload_n 0, 1) := by decide +kernel
theorem dX12_reads_60 : decode cX12_reads 60 = .ok (.iconst 0, 1) := by decide +kernel
theorem dX12_reads_61 : decode cX12_reads 61 = .ok (.putfield 259, 3) := by decide +kernel
theorem dX12_reads_64 : decode cX12_reads 64 = .ok (.aload_n 0, 1) := by decide +kernel
theorem dX12_reads_65 : decode cX12_reads 65 = .ok (.aload_n 0, 1) := by decide +kernel
theorem dX12_reads_66 : decode cX12_reads 66 = .ok (.getfield 326, 3) := by decide +kernel
theorem dX12_reads_69 : decode cX12_reads 69 = .ok (.putfield 391, 3) := by decide +kernel
theorem dX12_reads_72 : decode cX12_reads 72 = .ok (.aload_n 0, 1) := by decide +kernel
theorem dX12_reads_73 : decode cX12_reads 73 = .ok (.iload_n 2, 1) := by decide +kernel
theorem dX12_reads_74 : decode cX12_reads 74 = .ok (.ifCond .eq 7, 3) := by decide +kernel
theorem dX12_reads_77 : decode cX12_reads 77 = .ok (.iconst (-1), 1) := by decide +kernel
theorem dX12_reads_78 : decode cX12_reads 78 = .ok (.goto 7, 3) := by decide +kernel
theorem dX12_reads_81 : decode cX12_reads 81 = .ok (.aload_n 0, 1) := by decide +kernel
theorem dX12_reads_82 : decode cX12_reads 82 = .ok (.getfield 329, 3) := by decide +kernel
theorem dX12_reads_85 : decode cX12_reads 85 = .ok (.putfield 121, 3) := by decide +kernel
theorem dX12_reads_88 : decode cX12_reads 88 = .ok (.iload_n 2, 1) := by decide +kernel
theorem dX12_reads_89 : decode cX12_reads 89 = .ok (.ifCond .ne 5, 3) := by decide +kernel
theorem dX12_reads_92 : decode cX12_reads 92 = .ok (.iconst (-1), 1) := by decide +kernel
theorem dX12_reads_93 : decode cX12_reads 93 = .ok (.ireturn, 1) := by decide +kernel
theorem dX12_reads_94 : decode cX12_reads 94 = .ok (.aload_n 0, 1) := by decide +kernel
theorem dX12_reads_95 : decode cX12_reads 95 = .ok (.iload_n 1, 1) := by decide +kernel
theorem dX12_reads_96 : decode cX12_reads 96 = .ok (.invokevirtual 193, 3) := by decide +kernel
theorem dX12_reads_99 : decode cX12_reads 99 = .ok (.iconst 1, 1) := by decide +kernel
theorem dX12_reads_100 : decode cX12_reads 100 = .ok (.istore_n 3, 1) := by decide +kernel
theorem dX12_reads_101 : decode cX12_reads 101 = .ok (.iconst 0, 1) := by decide +kernel
theorem dX12_reads_102 : decode cX12_reads 102 = .ok (.istore 4, 2) := by decide +kernel
theorem dX12_reads_104 : decode cX12_reads 104 = .ok (.iload 4, 2) := by decide +kernel
theorem dX12_reads_106 : decode cX12_reads 106 = .ok (.aload_n 0, 1) := by decide +kernel
theorem dX12_reads_107 : decode cX12_reads 107 = .ok (.getfield 382, 3) := by decide +kernel
theorem dX12_reads_110 : decode cX12_reads 110 = .ok (.if_icmp .ge 62, 3) := by decide +kernel
theorem dX12_reads_113 : decode cX12_reads 113 = .ok (.aload_n 0, 1) := by decide +kernel
theorem dX12_reads_114 : decode cX12_reads 114 = .ok (.getfield 97, 3) := by decide +kernel
theorem dX12_reads_117 : decode cX12_reads 117 = .ok (.iload 4, 2) := by decide +kernel
theorem dX12_reads_119 : decode cX12_reads 119 = .ok (.iaload, 1) := by decide +kernel
theorem dX12_reads_120 : decode cX12_reads 120 = .ok (.iconst 4, 1) := by decide +kernel
theorem dX12_reads_121 : decode cX12_reads 121 = .ok (.if_icmp .ne 38, 3) := by decide +kernel
theorem dX12_reads_124 : decode cX12_reads 124 = .ok (.aload_n 0, 1) := by decide +kernel
theorem dX12_reads_125 : decode cX12_reads 125 = .ok (.getfield 70, 3) := by decide +kernel
theorem dX12_reads_128 : decode cX12_reads 128 = .ok (.iload_n 1, 1) := by decide +kernel
theorem dX12_reads_129 : decode cX12_reads 129 = .ok (.iload_n 3, 1) := by decide +kernel
theorem dX12_reads_130 : decode cX12_reads 130 = .ok (.ifCond .eq 7, 3) := by decide +kernel
theorem dX12_reads_133 : decode cX12_reads 133 = .ok (.iconst 0, 1) := by decide +kernel
theorem dX12_reads_134 : decode cX12_reads 134 = .ok (.goto 9, 3) := by decide +kernel
theorem dX12_reads_137 : decode cX12_reads 137 = .ok (.aload_n 0, 1) := by decide +kernel
theorem dX12_reads_138 : decode cX12_reads 138 = .ok (.getfield 70, 3) := by decide +kernel
theorem dX12_reads_141 : decode cX12_reads 141 = .ok (.iload_n 1, 1) := by decide +kernel
theorem dX12_reads_142 : decode cX12_reads 142 = .ok (.iaload, 1) := by decide +kernel
theorem dX12_reads_143 : decode cX12_reads 143 = .ok (.iconst 1, 1) := by decide +kernel
theorem dX12_reads_144 : decode cX12_reads 144 = .ok (.aload_n 0, 1) := by decide +kernel
theorem dX12_reads_145 : decode cX12_reads 145 = .ok (.getfield 100, 3) := by decide +kernel
theorem dX12_reads_148 : decode cX12_reads 148 = .ok (.iload 4, 2) := by decide +kernel
theorem dX12_reads_150 : decode cX12_reads 150 = .ok (.iaload, 1) := by decide +kernel
theorem dX12_reads_151 : decode cX12_reads 151 = .ok (.ishl, 1) := by decide +kernel
theorem dX12_reads_152 : decode cX12_reads 152 = .ok (.ior, 1) := by decide +kernel
theorem dX12_reads_153 : decode cX12_reads 153 = .ok (.iastore, 1) := by decide +kernel
theorem dX12_reads_154 : decode cX12_reads 154 = .ok (.iconst 0, 1) := by decide +kernel
theorem dX12_reads_155 : decode cX12_reads 155 = .ok (.istore_n 3, 1) := by decide +kernel
theorem dX12_reads_156 : decode cX12_reads 156 = .ok (.goto 10, 3) := by decide +kernel
theorem dX12_reads_159 : decode cX12_reads 159 = .ok (.aload_n 0, 1) := by decide +kernel
theorem dX12_reads_160 : decode cX12_reads 160 = .ok (.iload_n 1, 1) := by decide +kernel
theorem dX12_reads_161 : decode cX12_reads 161 = .ok (.iload 4, 2) := by decide +kernel
theorem dX12_reads_163 : decode cX12_reads 163 = .ok (.invokevirtual 394, 3) := by decide +kernel
theorem dX12_reads_166 : decode cX12_reads 166 = .ok (.iinc 4 1, 3) := by decide +kernel
theorem dX12_reads_169 : decode cX12_reads 169 = .ok (.goto (-65), 3) := by decide +kernel
theorem dX12_reads_172 : decode cX12_reads 172 = .ok (.aload_n 0, 1) := by decide +kernel
theorem dX12_reads_173 : decode cX12_reads 173 = .ok (.getfield 88, 3) := by decide +kernel
theorem dX12_reads_176 : decode cX12_reads 176 = .ok (.bipush 25, 2) := by decide +kernel
theorem dX12_reads_178 : decode cX12_reads 178 = .ok (.iload_n 1, 1) := by decide +kernel
theorem dX12_reads_179 : decode cX12_reads 179 = .ok (.imul, 1) := by decide +kernel
theorem dX12_reads_180 : decode cX12_reads 180 = .ok (.aload_n 0, 1) := by decide +kernel
theorem dX12_reads_181 : decode cX12_reads 181 = .ok (.getfield 85, 3) := by decide +kernel
theorem dX12_reads_184 : decode cX12_reads 184 = .ok (.iload_n 1, 1) := by decide +kernel
theorem dX12_reads_185 : decode cX12_reads 185 = .ok (.iaload, 1) := by decide +kernel
theorem dX12_reads_186 : decode cX12_reads 186 = .ok (.iadd, 1) := by decide +kernel
theorem dX12_reads_187 : decode cX12_reads 187 = .ok (.aload_n 0, 1) := by decide +kernel
theorem dX12_reads_188 : decode cX12_reads 188 = .ok (.getfield 341, 3) := by decide +kernel
theorem dX12_reads_191 : decode cX12_reads 191 = .ok (.iastore, 1) := by decide +kernel
theorem dX12_reads_192 : decode cX12_reads 192 = .ok (.iconst 0, 1) := by decide +kernel
theorem dX12_reads_193 : decode cX12_reads 193 = .ok (.istore 4, 2) := by decide +kernel
theorem dX12_reads_195 : decode cX12_reads 195 = .ok (.iload 4, 2) := by decide +kernel
theorem dX12_reads_197 : decode cX12_reads 197 = .ok (.iconst 2, 1) := by decide +kernel
theorem dX12_reads_198 : decode cX12_reads 198 = .ok (.aload_n 0, 1) := by decide +kernel
theorem dX12_reads_199 : decode cX12_reads 199 = .ok (.getfield 341, 3) := by decide +kernel
theorem dX12_reads_202 : decode cX12_reads 202 = .ok (.imul, 1) := by decide +kernel
theorem dX12_reads_203 : decode cX12_reads 203 = .ok (.if_icmp .ge 29, 3) := by decide +kernel
theorem dX12_reads_206 : decode cX12_reads 206 = .ok (.aload_n 0, 1) := by decide +kernel
theorem dX12_reads_207 : decode cX12_reads 207 = .ok (.getfield 94, 3) := by decide +kernel
theorem dX12_reads_210 : decode cX12_reads 210 = .ok (.sipush 1220, 3) := by decide +kernel
theorem dX12_reads_213 : decode cX12_reads 213 = .ok (.iload_n 1, 1) := by decide +kernel
theorem dX12_reads_214 : decode cX12_reads 214 = .ok (.imul, 1) := by decide +kernel
theorem dX12_reads_215 : decode cX12_reads 215 = .ok (.iload 4, 2) := by decide +kernel
theorem dX12_reads_217 : decode cX12_reads 217 = .ok (.iadd, 1) := by decide +kernel
theorem dX12_reads_218 : decode cX12_reads 218 = .ok (.aload_n 0, 1) := by decide +kernel
theorem dX12_reads_219 : decode cX12_reads 219 = .ok (.getfield 112, 3) := by decide +kernel
theorem dX12_reads_222 : decode cX12_reads 222 = .ok (.iload 4, 2) := by decide +kernel
theorem dX12_reads_224 : decode cX12_reads 224 = .ok (.iaload, 1) := by decide +kernel
theorem dX12_reads_225 : decode cX12_reads 225 = .ok (.iastore, 1) := by decide +kernel
theorem dX12_reads_226 : decode cX12_reads 226 = .ok (.iinc 4 1, 3) := by decide +kernel
theorem dX12_reads_229 : decode cX12_reads 229 = .ok (.goto (-34), 3) := by decide +kernel
theorem dX12_reads_232 : decode cX12_reads 232 = .ok (.aload_n 0, 1) := by decide +kernel
theorem dX12_reads_233 : decode cX12_reads 233 = .ok (.getfield 382, 3) := by decide +kernel
theorem dX12_reads_236 : decode cX12_reads 236 = .ok (.ireturn, 1) := by decide +kernel
theorem dX12_takes_0 : decode cX12_takes 0 = .ok (.aload_n 0, 1) := by decide +kernel
theorem dX12_takes_1 : decode cX12_takes 1 = .ok (.getfield 97, 3) := by decide +kernel
theorem dX12_takes_4 : decode cX12_takes 4 = .ok (.iload_n 2, 1) := by decide +kernel
theorem dX12_takes_5 : decode cX12_takes 5 = .ok (.iaload, 1) := by decide +kernel
theorem dX12_takes_6 : decode cX12_takes 6 = .ok (.tableswitch 115 3 7 #[34, 115, 58, 73, 88], 34) := by decide +kernel
theorem dX12_takes_40 : decode cX12_takes 40 = .ok (.aload_n 0, 1) := by decide +kernel
theorem dX12_takes_41 : decode cX12_takes 41 = .ok (.getfield 67, 3) := by decide +kernel
theorem dX12_takes_44 : decode cX12_takes 44 = .ok (.iconst 4, 1) := by decide +kernel
theorem dX12_takes_45 : decode cX12_takes 45 = .ok (.iload_n 1, 1) := by decide +kernel
theorem dX12_takes_46 : decode cX12_takes 46 = .ok (.imul, 1) := by decide +kernel
theorem dX12_takes_47 : decode cX12_takes 47 = .ok (.aload_n 0, 1) := by decide +kernel
theorem dX12_takes_48 : decode cX12_takes 48 = .ok (.getfield 100, 3) := by decide +kernel
theorem dX12_takes_51 : decode cX12_takes 51 = .ok (.iload_n 2, 1) := by decide +kernel
theorem dX12_takes_52 : decode cX12_takes 52 = .ok (.iaload, 1) := by decide +kernel
theorem dX12_takes_53 : decode cX12_takes 53 = .ok (.iadd, 1) := by decide +kernel
theorem dX12_takes_54 : decode cX12_takes 54 = .ok (.aload_n 0, 1) := by decide +kernel
theorem dX12_takes_55 : decode cX12_takes 55 = .ok (.getfield 103, 3) := by decide +kernel
theorem dX12_takes_58 : decode cX12_takes 58 = .ok (.iload_n 2, 1) := by decide +kernel
theorem dX12_takes_59 : decode cX12_takes 59 = .ok (.iaload, 1) := by decide +kernel
theorem dX12_takes_60 : decode cX12_takes 60 = .ok (.iastore, 1) := by decide +kernel
theorem dX12_takes_61 : decode cX12_takes 61 = .ok (.goto 114, 3) := by decide +kernel
theorem dX12_takes_64 : decode cX12_takes 64 = .ok (.aload_n 0, 1) := by decide +kernel
theorem dX12_takes_65 : decode cX12_takes 65 = .ok (.getfield 73, 3) := by decide +kernel
theorem dX12_takes_68 : decode cX12_takes 68 = .ok (.iload_n 1, 1) := by decide +kernel
theorem dX12_takes_69 : decode cX12_takes 69 = .ok (.aload_n 0, 1) := by decide +kernel
theorem dX12_takes_70 : decode cX12_takes 70 = .ok (.getfield 100, 3) := by decide +kernel
theorem dX12_takes_73 : decode cX12_takes 73 = .ok (.iload_n 2, 1) := by decide +kernel
theorem dX12_takes_74 : decode cX12_takes 74 = .ok (.iaload, 1) := by decide +kernel
theorem dX12_takes_75 : decode cX12_takes 75 = .ok (.iastore, 1) := by decide +kernel
theorem dX12_takes_76 : decode cX12_takes 76 = .ok (.goto 99, 3) := by decide +kernel
theorem dX12_takes_79 : decode cX12_takes 79 = .ok (.aload_n 0, 1) := by decide +kernel
theorem dX12_takes_80 : decode cX12_takes 80 = .ok (.getfield 76, 3) := by decide +kernel
theorem dX12_takes_83 : decode cX12_takes 83 = .ok (.iload_n 1, 1) := by decide +kernel
theorem dX12_takes_84 : decode cX12_takes 84 = .ok (.aload_n 0, 1) := by decide +kernel
theorem dX12_takes_85 : decode cX12_takes 85 = .ok (.getfield 100, 3) := by decide +kernel
theorem dX12_takes_88 : decode cX12_takes 88 = .ok (.iload_n 2, 1) := by decide +kernel
theorem dX12_takes_89 : decode cX12_takes 89 = .ok (.iaload, 1) := by decide +kernel
theorem dX12_takes_90 : decode cX12_takes 90 = .ok (.iastore, 1) := by decide +kernel
theorem dX12_takes_91 : decode cX12_takes 91 = .ok (.goto 84, 3) := by decide +kernel
theorem dX12_takes_94 : decode cX12_takes 94 = .ok (.aload_n 0, 1) := by decide +kernel
theorem dX12_takes_95 : decode cX12_takes 95 = .ok (.getfield 79, 3) := by decide +kernel
theorem dX12_takes_98 : decode cX12_takes 98 = .ok (.iload_n 1, 1) := by decide +kernel
theorem dX12_takes_99 : decode cX12_takes 99 = .ok (.aload_n 0, 1) := by decide +kernel
theorem dX12_takes_100 : decode cX12_takes 100 = .ok (.getfield 100, 3) := by decide +kernel
theorem dX12_takes_103 : decode cX12_takes 103 = .ok (.iload_n 2, 1) := by decide +kernel
theorem dX12_takes_104 : decode cX12_takes 104 = .ok (.iaload, 1) := by decide +kernel
theorem dX12_takes_105 : decode cX12_takes 105 = .ok (.iastore, 1) := by decide +kernel
theorem dX12_takes_106 : decode cX12_takes 106 = .ok (.aload_n 0, 1) := by decide +kernel
theorem dX12_takes_107 : decode cX12_takes 107 = .ok (.getfield 82, 3) := by decide +kernel
theorem dX12_takes_110 : decode cX12_takes 110 = .ok (.iload_n 1, 1) := by decide +kernel
theorem dX12_takes_111 : decode cX12_takes 111 = .ok (.aload_n 0, 1) := by decide +kernel
theorem dX12_takes_112 : decode cX12_takes 112 = .ok (.getfield 103, 3) := by decide +kernel
theorem dX12_takes_115 : decode cX12_takes 115 = .ok (.iload_n 2, 1) := by decide +kernel
theorem dX12_takes_116 : decode cX12_takes 116 = .ok (.iaload, 1) := by decide +kernel
theorem dX12_takes_117 : decode cX12_takes 117 = .ok (.iastore, 1) := by decide +kernel
theorem dX12_takes_118 : decode cX12_takes 118 = .ok (.goto 57, 3) := by decide +kernel
theorem dX12_takes_121 : decode cX12_takes 121 = .ok (.aload_n 0, 1) := by decide +kernel
theorem dX12_takes_122 : decode cX12_takes 122 = .ok (.getfield 88, 3) := by decide +kernel
theorem dX12_takes_125 : decode cX12_takes 125 = .ok (.bipush 25, 2) := by decide +kernel
theorem dX12_takes_127 : decode cX12_takes 127 = .ok (.iload_n 1, 1) := by decide +kernel
theorem dX12_takes_128 : decode cX12_takes 128 = .ok (.imul, 1) := by decide +kernel
theorem dX12_takes_129 : decode cX12_takes 129 = .ok (.aload_n 0, 1) := by decide +kernel
theorem dX12_takes_130 : decode cX12_takes 130 = .ok (.getfield 85, 3) := by decide +kernel
theorem dX12_takes_133 : decode cX12_takes 133 = .ok (.iload_n 1, 1) := by decide +kernel
theorem dX12_takes_134 : decode cX12_takes 134 = .ok (.iaload, 1) := by decide +kernel
theorem dX12_takes_135 : decode cX12_takes 135 = .ok (.iadd, 1) := by decide +kernel
theorem dX12_takes_136 : decode cX12_takes 136 = .ok (.aload_n 0, 1) := by decide +kernel
theorem dX12_takes_137 : decode cX12_takes 137 = .ok (.getfield 106, 3) := by decide +kernel
theorem dX12_takes_140 : decode cX12_takes 140 = .ok (.iload_n 2, 1) := by decide +kernel
theorem dX12_takes_141 : decode cX12_takes 141 = .ok (.iaload, 1) := by decide +kernel
theorem dX12_takes_142 : decode cX12_takes 142 = .ok (.iastore, 1) := by decide +kernel
theorem dX12_takes_143 : decode cX12_takes 143 = .ok (.aload_n 0, 1) := by decide +kernel
theorem dX12_takes_144 : decode cX12_takes 144 = .ok (.getfield 91, 3) := by decide +kernel
theorem dX12_takes_147 : decode cX12_takes 147 = .ok (.bipush 24, 2) := by decide +kernel
theorem dX12_takes_149 : decode cX12_takes 149 = .ok (.iload_n 1, 1) := by decide +kernel
theorem dX12_takes_150 : decode cX12_takes 150 = .ok (.imul, 1) := by decide +kernel
theorem dX12_takes_151 : decode cX12_takes 151 = .ok (.aload_n 0, 1) := by decide +kernel
theorem dX12_takes_152 : decode cX12_takes 152 = .ok (.getfield 85, 3) := by decide +kernel
theorem dX12_takes_155 : decode cX12_takes 155 = .ok (.iload_n 1, 1) := by decide +kernel
theorem dX12_takes_156 : decode cX12_takes 156 = .ok (.iaload, 1) := by decide +kernel
theorem dX12_takes_157 : decode cX12_takes 157 = .ok (.iadd, 1) := by decide +kernel
theorem dX12_takes_158 : decode cX12_takes 158 = .ok (.aload_n 0, 1) := by decide +kernel
theorem dX12_takes_159 : decode cX12_takes 159 = .ok (.getfield 109, 3) := by decide +kernel
theorem dX12_takes_162 : decode cX12_takes 162 = .ok (.iload_n 2, 1) := by decide +kernel
theorem dX12_takes_163 : decode cX12_takes 163 = .ok (.iaload, 1) := by decide +kernel
theorem dX12_takes_164 : decode cX12_takes 164 = .ok (.iastore, 1) := by decide +kernel
theorem dX12_takes_165 : decode cX12_takes 165 = .ok (.aload_n 0, 1) := by decide +kernel
theorem dX12_takes_166 : decode cX12_takes 166 = .ok (.getfield 85, 3) := by decide +kernel
theorem dX12_takes_169 : decode cX12_takes 169 = .ok (.iload_n 1, 1) := by decide +kernel
theorem dX12_takes_170 : decode cX12_takes 170 = .ok (.dup2, 1) := by decide +kernel
theorem dX12_takes_171 : decode cX12_takes 171 = .ok (.iaload, 1) := by decide +kernel
theorem dX12_takes_172 : decode cX12_takes 172 = .ok (.iconst 1, 1) := by decide +kernel
theorem dX12_takes_173 : decode cX12_takes 173 = .ok (.iadd, 1) := by decide +kernel
theorem dX12_takes_174 : decode cX12_takes 174 = .ok (.iastore, 1) := by decide +kernel
theorem dX12_takes_175 : decode cX12_takes 175 = .ok (.return_, 1) := by decide +kernel
theorem dX12_fault_0 : decode cX12_fault 0 = .ok (.iload_n 1, 1) := by decide +kernel
theorem dX12_fault_1 : decode cX12_fault 1 = .ok (.ifCond .ne 10, 3) := by decide +kernel
theorem dX12_fault_4 : decode cX12_fault 4 = .ok (.aload_n 0, 1) := by decide +kernel
theorem dX12_fault_5 : decode cX12_fault 5 = .ok (.getfield 391, 3) := by decide +kernel
theorem dX12_fault_8 : decode cX12_fault 8 = .ok (.goto 16, 3) := by decide +kernel
theorem dX12_fault_11 : decode cX12_fault 11 = .ok (.iload_n 1, 1) := by decide +kernel
theorem dX12_fault_12 : decode cX12_fault 12 = .ok (.iconst 1, 1) := by decide +kernel
theorem dX12_fault_13 : decode cX12_fault 13 = .ok (.if_icmp .ne 10, 3) := by decide +kernel
theorem dX12_fault_16 : decode cX12_fault 16 = .ok (.aload_n 0, 1) := by decide +kernel
theorem dX12_fault_17 : decode cX12_fault 17 = .ok (.getfield 121, 3) := by decide +kernel
theorem dX12_fault_20 : decode cX12_fault 20 = .ok (.goto 4, 3) := by decide +kernel
theorem dX12_fault_23 : decode cX12_fault 23 = .ok (.iconst (-1), 1) := by decide +kernel
theorem dX12_fault_24 : decode cX12_fault 24 = .ok (.ireturn, 1) := by decide +kernel
theorem dX12_told_0 : decode cX12_told 0 = .ok (.iload_n 1, 1) := by decide +kernel
theorem dX12_told_1 : decode cX12_told 1 = .ok (.invokestatic 213, 3) := by decide +kernel
theorem dX12_told_4 : decode cX12_told 4 = .ok (.ifCond .ne 5, 3) := by decide +kernel
theorem dX12_told_7 : decode cX12_told 7 = .ok (.iconst (-1), 1) := by decide +kernel
theorem dX12_told_8 : decode cX12_told 8 = .ok (.ireturn, 1) := by decide +kernel
theorem dX12_told_9 : decode cX12_told 9 = .ok (.iload_n 2, 1) := by decide +kernel
theorem dX12_told_10 : decode cX12_told 10 = .ok (.tableswitch 96 0 8 #[50, 50, 50, 50, 61, 68, 75, 82, 89], 50) := by decide +kernel
theorem dX12_told_60 : decode cX12_told 60 = .ok (.aload_n 0, 1) := by decide +kernel
theorem dX12_told_61 : decode cX12_told 61 = .ok (.getfield 67, 3) := by decide +kernel
theorem dX12_told_64 : decode cX12_told 64 = .ok (.iconst 4, 1) := by decide +kernel
theorem dX12_told_65 : decode cX12_told 65 = .ok (.iload_n 1, 1) := by decide +kernel
theorem dX12_told_66 : decode cX12_told 66 = .ok (.imul, 1) := by decide +kernel
theorem dX12_told_67 : decode cX12_told 67 = .ok (.iload_n 2, 1) := by decide +kernel
theorem dX12_told_68 : decode cX12_told 68 = .ok (.iadd, 1) := by decide +kernel
theorem dX12_told_69 : decode cX12_told 69 = .ok (.iaload, 1) := by decide +kernel
theorem dX12_told_70 : decode cX12_told 70 = .ok (.ireturn, 1) := by decide +kernel
theorem dX12_told_71 : decode cX12_told 71 = .ok (.aload_n 0, 1) := by decide +kernel
theorem dX12_told_72 : decode cX12_told 72 = .ok (.getfield 70, 3) := by decide +kernel
theorem dX12_told_75 : decode cX12_told 75 = .ok (.iload_n 1, 1) := by decide +kernel
theorem dX12_told_76 : decode cX12_told 76 = .ok (.iaload, 1) := by decide +kernel
theorem dX12_told_77 : decode cX12_told 77 = .ok (.ireturn, 1) := by decide +kernel
theorem dX12_told_78 : decode cX12_told 78 = .ok (.aload_n 0, 1) := by decide +kernel
theorem dX12_told_79 : decode cX12_told 79 = .ok (.getfield 73, 3) := by decide +kernel
theorem dX12_told_82 : decode cX12_told 82 = .ok (.iload_n 1, 1) := by decide +kernel
theorem dX12_told_83 : decode cX12_told 83 = .ok (.iaload, 1) := by decide +kernel
theorem dX12_told_84 : decode cX12_told 84 = .ok (.ireturn, 1) := by decide +kernel
theorem dX12_told_85 : decode cX12_told 85 = .ok (.aload_n 0, 1) := by decide +kernel
theorem dX12_told_86 : decode cX12_told 86 = .ok (.getfield 76, 3) := by decide +kernel
theorem dX12_told_89 : decode cX12_told 89 = .ok (.iload_n 1, 1) := by decide +kernel
theorem dX12_told_90 : decode cX12_told 90 = .ok (.iaload, 1) := by decide +kernel
theorem dX12_told_91 : decode cX12_told 91 = .ok (.ireturn, 1) := by decide +kernel
theorem dX12_told_92 : decode cX12_told 92 = .ok (.aload_n 0, 1) := by decide +kernel
theorem dX12_told_93 : decode cX12_told 93 = .ok (.getfield 79, 3) := by decide +kernel
theorem dX12_told_96 : decode cX12_told 96 = .ok (.iload_n 1, 1) := by decide +kernel
theorem dX12_told_97 : decode cX12_told 97 = .ok (.iaload, 1) := by decide +kernel
theorem dX12_told_98 : decode cX12_told 98 = .ok (.ireturn, 1) := by decide +kernel
theorem dX12_told_99 : decode cX12_told 99 = .ok (.aload_n 0, 1) := by decide +kernel
theorem dX12_told_100 : decode cX12_told 100 = .ok (.getfield 82, 3) := by decide +kernel
theorem dX12_told_103 : decode cX12_told 103 = .ok (.iload_n 1, 1) := by decide +kernel
theorem dX12_told_104 : decode cX12_told 104 = .ok (.iaload, 1) := by decide +kernel
theorem dX12_told_105 : decode cX12_told 105 = .ok (.ireturn, 1) := by decide +kernel
theorem dX12_told_106 : decode cX12_told 106 = .ok (.iconst (-1), 1) := by decide +kernel
theorem dX12_told_107 : decode cX12_told 107 = .ok (.ireturn, 1) := by decide +kernel
theorem dX12_both_0 : decode cX12_both 0 = .ok (.iload_n 0, 1) := by decide +kernel
theorem dX12_both_1 : decode cX12_both 1 = .ok (.tableswitch 100 5 13 #[51, 55, 59, 100, 63, 74, 85, 100, 96], 51) := by decide +kernel
theorem dX12_both_52 : decode cX12_both 52 = .ok (.iload_n 1, 1) := by decide +kernel
theorem dX12_both_53 : decode cX12_both 53 = .ok (.iload_n 2, 1) := by decide +kernel
theorem dX12_both_54 : decode cX12_both 54 = .ok (.iadd, 1) := by decide +kernel
theorem dX12_both_55 : decode cX12_both 55 = .ok (.ireturn, 1) := by decide +kernel
theorem dX12_both_56 : decode cX12_both 56 = .ok (.iload_n 1, 1) := by decide +kernel
theorem dX12_both_57 : decode cX12_both 57 = .ok (.iload_n 2, 1) := by decide +kernel
theorem dX12_both_58 : decode cX12_both 58 = .ok (.isub, 1) := by decide +kernel
theorem dX12_both_59 : decode cX12_both 59 = .ok (.ireturn, 1) := by decide +kernel
theorem dX12_both_60 : decode cX12_both 60 = .ok (.iload_n 1, 1) := by decide +kernel
theorem dX12_both_61 : decode cX12_both 61 = .ok (.iload_n 2, 1) := by decide +kernel
theorem dX12_both_62 : decode cX12_both 62 = .ok (.imul, 1) := by decide +kernel
theorem dX12_both_63 : decode cX12_both 63 = .ok (.ireturn, 1) := by decide +kernel
theorem dX12_both_64 : decode cX12_both 64 = .ok (.iload_n 1, 1) := by decide +kernel
theorem dX12_both_65 : decode cX12_both 65 = .ok (.iload_n 2, 1) := by decide +kernel
theorem dX12_both_66 : decode cX12_both 66 = .ok (.if_icmp .ge 7, 3) := by decide +kernel
theorem dX12_both_69 : decode cX12_both 69 = .ok (.iconst 1, 1) := by decide +kernel
theorem dX12_both_70 : decode cX12_both 70 = .ok (.goto 4, 3) := by decide +kernel
theorem dX12_both_73 : decode cX12_both 73 = .ok (.iconst 0, 1) := by decide +kernel
theorem dX12_both_74 : decode cX12_both 74 = .ok (.ireturn, 1) := by decide +kernel
theorem dX12_both_75 : decode cX12_both 75 = .ok (.iload_n 1, 1) := by decide +kernel
theorem dX12_both_76 : decode cX12_both 76 = .ok (.iload_n 2, 1) := by decide +kernel
theorem dX12_both_77 : decode cX12_both 77 = .ok (.if_icmp .ne 7, 3) := by decide +kernel
theorem dX12_both_80 : decode cX12_both 80 = .ok (.iconst 1, 1) := by decide +kernel
theorem dX12_both_81 : decode cX12_both 81 = .ok (.goto 4, 3) := by decide +kernel
theorem dX12_both_84 : decode cX12_both 84 = .ok (.iconst 0, 1) := by decide +kernel
theorem dX12_both_85 : decode cX12_both 85 = .ok (.ireturn, 1) := by decide +kernel
theorem dX12_both_86 : decode cX12_both 86 = .ok (.iload_n 1, 1) := by decide +kernel
theorem dX12_both_87 : decode cX12_both 87 = .ok (.iload_n 2, 1) := by decide +kernel
theorem dX12_both_88 : decode cX12_both 88 = .ok (.if_icmp .le 7, 3) := by decide +kernel
theorem dX12_both_91 : decode cX12_both 91 = .ok (.iconst 1, 1) := by decide +kernel
theorem dX12_both_92 : decode cX12_both 92 = .ok (.goto 4, 3) := by decide +kernel
theorem dX12_both_95 : decode cX12_both 95 = .ok (.iconst 0, 1) := by decide +kernel
theorem dX12_both_96 : decode cX12_both 96 = .ok (.ireturn, 1) := by decide +kernel
theorem dX12_both_97 : decode cX12_both 97 = .ok (.iload_n 1, 1) := by decide +kernel
theorem dX12_both_98 : decode cX12_both 98 = .ok (.iload_n 2, 1) := by decide +kernel
theorem dX12_both_99 : decode cX12_both 99 = .ok (.iand, 1) := by decide +kernel
theorem dX12_both_100 : decode cX12_both 100 = .ok (.ireturn, 1) := by decide +kernel
theorem dX12_both_101 : decode cX12_both 101 = .ok (.iload_n 1, 1) := by decide +kernel
theorem dX12_both_102 : decode cX12_both 102 = .ok (.iload_n 2, 1) := by decide +kernel
theorem dX12_both_103 : decode cX12_both 103 = .ok (.ior, 1) := by decide +kernel
theorem dX12_both_104 : decode cX12_both 104 = .ok (.ireturn, 1) := by decide +kernel
theorem dX12_comesTo_0 : decode cX12_comesTo 0 = .ok (.iconst 0, 1) := by decide +kernel
theorem dX12_comesTo_1 : decode cX12_comesTo 1 = .ok (.istore 4, 2) := by decide +kernel
theorem dX12_comesTo_3 : decode cX12_comesTo 3 = .ok (.iload_n 2, 1) := by decide +kernel
theorem dX12_comesTo_4 : decode cX12_comesTo 4 = .ok (.istore 5, 2) := by decide +kernel
theorem dX12_comesTo_6 : decode cX12_comesTo 6 = .ok (.iload 5, 2) := by decide +kernel
theorem dX12_comesTo_8 : decode cX12_comesTo 8 = .ok (.iload_n 3, 1) := by decide +kernel
theorem dX12_comesTo_9 : decode cX12_comesTo 9 = .ok (.if_icmp .ge 168, 3) := by decide +kernel
theorem dX12_comesTo_12 : decode cX12_comesTo 12 = .ok (.aload_n 0, 1) := by decide +kernel
theorem dX12_comesTo_13 : decode cX12_comesTo 13 = .ok (.getfield 94, 3) := by decide +kernel
theorem dX12_comesTo_16 : decode cX12_comesTo 16 = .ok (.sipush 1220, 3) := by decide +kernel
theorem dX12_comesTo_19 : decode cX12_comesTo 19 = .ok (.iload_n 1, 1) := by decide +kernel
theorem dX12_comesTo_20 : decode cX12_comesTo 20 = .ok (.imul, 1) := by decide +kernel
theorem dX12_comesTo_21 : decode cX12_comesTo 21 = .ok (.iconst 2, 1) := by decide +kernel
theorem dX12_comesTo_22 : decode cX12_comesTo 22 = .ok (.iload 5, 2) := by decide +kernel
theorem dX12_comesTo_24 : decode cX12_comesTo 24 = .ok (.imul, 1) := by decide +kernel
theorem dX12_comesTo_25 : decode cX12_comesTo 25 = .ok (.iadd, 1) := by decide +kernel
theorem dX12_comesTo_26 : decode cX12_comesTo 26 = .ok (.iaload, 1) := by decide +kernel
theorem dX12_comesTo_27 : decode cX12_comesTo 27 = .ok (.istore 6, 2) := by decide +kernel
theorem dX12_comesTo_29 : decode cX12_comesTo 29 = .ok (.aload_n 0, 1) := by decide +kernel
theorem dX12_comesTo_30 : decode cX12_comesTo 30 = .ok (.getfield 94, 3) := by decide +kernel
theorem dX12_comesTo_33 : decode cX12_comesTo 33 = .ok (.sipush 1220, 3) := by decide +kernel
theorem dX12_comesTo_36 : decode cX12_comesTo 36 = .ok (.iload_n 1, 1) := by decide +kernel
theorem dX12_comesTo_37 : decode cX12_comesTo 37 = .ok (.imul, 1) := by decide +kernel
theorem dX12_comesTo_38 : decode cX12_comesTo 38 = .ok (.iconst 2, 1) := by decide +kernel
theorem dX12_comesTo_39 : decode cX12_comesTo 39 = .ok (.iload 5, 2) := by decide +kernel
theorem dX12_comesTo_41 : decode cX12_comesTo 41 = .ok (.imul, 1) := by decide +kernel
theorem dX12_comesTo_42 : decode cX12_comesTo 42 = .ok (.iadd, 1) := by decide +kernel
theorem dX12_comesTo_43 : decode cX12_comesTo 43 = .ok (.iconst 1, 1) := by decide +kernel
theorem dX12_comesTo_44 : decode cX12_comesTo 44 = .ok (.iadd, 1) := by decide +kernel
theorem dX12_comesTo_45 : decode cX12_comesTo 45 = .ok (.iaload, 1) := by decide +kernel
theorem dX12_comesTo_46 : decode cX12_comesTo 46 = .ok (.istore 7, 2) := by decide +kernel
theorem dX12_comesTo_48 : decode cX12_comesTo 48 = .ok (.iload 6, 2) := by decide +kernel
theorem dX12_comesTo_50 : decode cX12_comesTo 50 = .ok (.iconst 5, 1) := by decide +kernel
theorem dX12_comesTo_51 : decode cX12_comesTo 51 = .ok (.if_icmp .ge 33, 3) := by decide +kernel
theorem dX12_comesTo_54 : decode cX12_comesTo 54 = .ok (.aload_n 0, 1) := by decide +kernel
theorem dX12_comesTo_55 : decode cX12_comesTo 55 = .ok (.getfield 118, 3) := by decide +kernel
theorem dX12_comesTo_58 : decode cX12_comesTo 58 = .ok (.iload 4, 2) := by decide +kernel
theorem dX12_comesTo_60 : decode cX12_comesTo 60 = .ok (.iload 6, 2) := by decide +kernel
theorem dX12_comesTo_62 : decode cX12_comesTo 62 = .ok (.ifCond .ne 8, 3) := by decide +kernel
theorem dX12_comesTo_65 : decode cX12_comesTo 65 = .ok (.iload 7, 2) := by decide +kernel
theorem dX12_comesTo_67 : decode cX12_comesTo 67 = .ok (.goto 10, 3) := by decide +kernel
theorem dX12_comesTo_70 : decode cX12_comesTo 70 = .ok (.aload_n 0, 1) := by decide +kernel
theorem dX12_comesTo_71 : decode cX12_comesTo 71 = .ok (.getfield 125, 3) := by decide +kernel
theorem dX12_comesTo_74 : decode cX12_comesTo 74 = .ok (.iload 6, 2) := by decide +kernel
theorem dX12_comesTo_76 : decode cX12_comesTo 76 = .ok (.iaload, 1) := by decide +kernel
theorem dX12_comesTo_77 : decode cX12_comesTo 77 = .ok (.iastore, 1) := by decide +kernel
theorem dX12_comesTo_78 : decode cX12_comesTo 78 = .ok (.iinc 4 1, 3) := by decide +kernel
theorem dX12_comesTo_81 : decode cX12_comesTo 81 = .ok (.goto 90, 3) := by decide +kernel
theorem dX12_comesTo_84 : decode cX12_comesTo 84 = .ok (.iload 6, 2) := by decide +kernel
theorem dX12_comesTo_86 : decode cX12_comesTo 86 = .ok (.bipush 8, 2) := by decide +kernel
theorem dX12_comesTo_88 : decode cX12_comesTo 88 = .ok (.if_icmp .ne 20, 3) := by decide +kernel
theorem dX12_comesTo_91 : decode cX12_comesTo 91 = .ok (.aload_n 0, 1) := by decide +kernel
theorem dX12_comesTo_92 : decode cX12_comesTo 92 = .ok (.getfield 118, 3) := by decide +kernel
theorem dX12_comesTo_95 : decode cX12_comesTo 95 = .ok (.iload 4, 2) := by decide +kernel
theorem dX12_comesTo_97 : decode cX12_comesTo 97 = .ok (.iconst 1, 1) := by decide +kernel
theorem dX12_comesTo_98 : decode cX12_comesTo 98 = .ok (.isub, 1) := by decide +kernel
theorem dX12_comesTo_99 : decode cX12_comesTo 99 = .ok (.dup2, 1) := by decide +kernel
theorem dX12_comesTo_100 : decode cX12_comesTo 100 = .ok (.iaload, 1) := by decide +kernel
theorem dX12_comesTo_101 : decode cX12_comesTo 101 = .ok (.iload 7, 2) := by decide +kernel
theorem dX12_comesTo_103 : decode cX12_comesTo 103 = .ok (.idiv, 1) := by decide +kernel
theorem dX12_comesTo_104 : decode cX12_comesTo 104 = .ok (.iastore, 1) := by decide +kernel
theorem dX12_comesTo_105 : decode cX12_comesTo 105 = .ok (.goto 66, 3) := by decide +kernel
theorem dX12_comesTo_108 : decode cX12_comesTo 108 = .ok (.iload 6, 2) := by decide +kernel
theorem dX12_comesTo_110 : decode cX12_comesTo 110 = .ok (.bipush 12, 2) := by decide +kernel
theorem dX12_comesTo_112 : decode cX12_comesTo 112 = .ok (.if_icmp .ne 26, 3) := by decide +kernel
theorem dX12_comesTo_115 : decode cX12_comesTo 115 = .ok (.aload_n 0, 1) := by decide +kernel
theorem dX12_comesTo_116 : decode cX12_comesTo 116 = .ok (.getfield 118, 3) := by decide +kernel
theorem dX12_comesTo_119 : decode cX12_comesTo 119 = .ok (.iload 4, 2) := by decide +kernel
theorem dX12_comesTo_121 : decode cX12_comesTo 121 = .ok (.iconst 1, 1) := by decide +kernel
theorem dX12_comesTo_122 : decode cX12_comesTo 122 = .ok (.isub, 1) := by decide +kernel
theorem dX12_comesTo_123 : decode cX12_comesTo 123 = .ok (.iconst 1, 1) := by decide +kernel
theorem dX12_comesTo_124 : decode cX12_comesTo 124 = .ok (.aload_n 0, 1) := by decide +kernel
theorem dX12_comesTo_125 : decode cX12_comesTo 125 = .ok (.getfield 118, 3) := by decide +kernel
theorem dX12_comesTo_128 : decode cX12_comesTo 128 = .ok (.iload 4, 2) := by decide +kernel
theorem dX12_comesTo_130 : decode cX12_comesTo 130 = .ok (.iconst 1, 1) := by decide +kernel
theorem dX12_comesTo_131 : decode cX12_comesTo 131 = .ok (.isub, 1) := by decide +kernel
theorem dX12_comesTo_132 : decode cX12_comesTo 132 = .ok (.iaload, 1) := by decide +kernel
theorem dX12_comesTo_133 : decode cX12_comesTo 133 = .ok (.isub, 1) := by decide +kernel
theorem dX12_comesTo_134 : decode cX12_comesTo 134 = .ok (.iastore, 1) := by decide +kernel
theorem dX12_comesTo_135 : decode cX12_comesTo 135 = .ok (.goto 36, 3) := by decide +kernel
theorem dX12_comesTo_138 : decode cX12_comesTo 138 = .ok (.iinc 4 (-1), 3) := by decide +kernel
theorem dX12_comesTo_141 : decode cX12_comesTo 141 = .ok (.aload_n 0, 1) := by decide +kernel
theorem dX12_comesTo_142 : decode cX12_comesTo 142 = .ok (.getfield 118, 3) := by decide +kernel
theorem dX12_comesTo_145 : decode cX12_comesTo 145 = .ok (.iload 4, 2) := by decide +kernel
theorem dX12_comesTo_147 : decode cX12_comesTo 147 = .ok (.iconst 1, 1) := by decide +kernel
theorem dX12_comesTo_148 : decode cX12_comesTo 148 = .ok (.isub, 1) := by decide +kernel
theorem dX12_comesTo_149 : decode cX12_comesTo 149 = .ok (.iload 6, 2) := by decide +kernel
theorem dX12_comesTo_151 : decode cX12_comesTo 151 = .ok (.aload_n 0, 1) := by decide +kernel
theorem dX12_comesTo_152 : decode cX12_comesTo 152 = .ok (.getfield 118, 3) := by decide +kernel
theorem dX12_comesTo_155 : decode cX12_comesTo 155 = .ok (.iload 4, 2) := by decide +kernel
theorem dX12_comesTo_157 : decode cX12_comesTo 157 = .ok (.iconst 1, 1) := by decide +kernel
theorem dX12_comesTo_158 : decode cX12_comesTo 158 = .ok (.isub, 1) := by decide +kernel
theorem dX12_comesTo_159 : decode cX12_comesTo 159 = .ok (.iaload, 1) := by decide +kernel
theorem dX12_comesTo_160 : decode cX12_comesTo 160 = .ok (.aload_n 0, 1) := by decide +kernel
theorem dX12_comesTo_161 : decode cX12_comesTo 161 = .ok (.getfield 118, 3) := by decide +kernel
theorem dX12_comesTo_164 : decode cX12_comesTo 164 = .ok (.iload 4, 2) := by decide +kernel
theorem dX12_comesTo_166 : decode cX12_comesTo 166 = .ok (.iaload, 1) := by decide +kernel
theorem dX12_comesTo_167 : decode cX12_comesTo 167 = .ok (.invokestatic 397, 3) := by decide +kernel
theorem dX12_comesTo_170 : decode cX12_comesTo 170 = .ok (.iastore, 1) := by decide +kernel
theorem dX12_comesTo_171 : decode cX12_comesTo 171 = .ok (.iinc 5 1, 3) := by decide +kernel
theorem dX12_comesTo_174 : decode cX12_comesTo 174 = .ok (.goto (-168), 3) := by decide +kernel
theorem dX12_comesTo_177 : decode cX12_comesTo 177 = .ok (.aload_n 0, 1) := by decide +kernel
theorem dX12_comesTo_178 : decode cX12_comesTo 178 = .ok (.getfield 118, 3) := by decide +kernel
theorem dX12_comesTo_181 : decode cX12_comesTo 181 = .ok (.iconst 0, 1) := by decide +kernel
theorem dX12_comesTo_182 : decode cX12_comesTo 182 = .ok (.iaload, 1) := by decide +kernel
theorem dX12_comesTo_183 : decode cX12_comesTo 183 = .ok (.ireturn, 1) := by decide +kernel
theorem dX12_owedTo_0 : decode cX12_owedTo 0 = .ok (.aload_n 0, 1) := by decide +kernel
theorem dX12_owedTo_1 : decode cX12_owedTo 1 = .ok (.getfield 25, 3) := by decide +kernel
theorem dX12_owedTo_4 : decode cX12_owedTo 4 = .ok (.aload_n 0, 1) := by decide +kernel
theorem dX12_owedTo_5 : decode cX12_owedTo 5 = .ok (.getfield 43, 3) := by decide +kernel
theorem dX12_owedTo_8 : decode cX12_owedTo 8 = .ok (.iload_n 1, 1) := by decide +kernel
theorem dX12_owedTo_9 : decode cX12_owedTo 9 = .ok (.iaload, 1) := by decide +kernel
theorem dX12_owedTo_10 : decode cX12_owedTo 10 = .ok (.iaload, 1) := by decide +kernel
theorem dX12_owedTo_11 : decode cX12_owedTo 11 = .ok (.iconst (-1), 1) := by decide +kernel
theorem dX12_owedTo_12 : decode cX12_owedTo 12 = .ok (.if_icmp .eq 17, 3) := by decide +kernel
theorem dX12_owedTo_15 : decode cX12_owedTo 15 = .ok (.aload_n 0, 1) := by decide +kernel
theorem dX12_owedTo_16 : decode cX12_owedTo 16 = .ok (.getfield 25, 3) := by decide +kernel
theorem dX12_owedTo_19 : decode cX12_owedTo 19 = .ok (.aload_n 0, 1) := by decide +kernel
theorem dX12_owedTo_20 : decode cX12_owedTo 20 = .ok (.getfield 43, 3) := by decide +kernel
theorem dX12_owedTo_23 : decode cX12_owedTo 23 = .ok (.iload_n 1, 1) := by decide +kernel
theorem dX12_owedTo_24 : decode cX12_owedTo 24 = .ok (.iaload, 1) := by decide +kernel
theorem dX12_owedTo_25 : decode cX12_owedTo 25 = .ok (.iaload, 1) := by decide +kernel
theorem dX12_owedTo_26 : decode cX12_owedTo 26 = .ok (.goto 19, 3) := by decide +kernel
theorem dX12_owedTo_29 : decode cX12_owedTo 29 = .ok (.aload_n 0, 1) := by decide +kernel
theorem dX12_owedTo_30 : decode cX12_owedTo 30 = .ok (.getfield 7, 3) := by decide +kernel
theorem dX12_owedTo_33 : decode cX12_owedTo 33 = .ok (.aload_n 0, 1) := by decide +kernel
theorem dX12_owedTo_34 : decode cX12_owedTo 34 = .ok (.aload_n 0, 1) := by decide +kernel
theorem dX12_owedTo_35 : decode cX12_owedTo 35 = .ok (.getfield 37, 3) := by decide +kernel
theorem dX12_owedTo_38 : decode cX12_owedTo 38 = .ok (.iload_n 1, 1) := by decide +kernel
theorem dX12_owedTo_39 : decode cX12_owedTo 39 = .ok (.iaload, 1) := by decide +kernel
theorem dX12_owedTo_40 : decode cX12_owedTo 40 = .ok (.iload_n 2, 1) := by decide +kernel
theorem dX12_owedTo_41 : decode cX12_owedTo 41 = .ok (.invokevirtual 227, 3) := by decide +kernel
theorem dX12_owedTo_44 : decode cX12_owedTo 44 = .ok (.iaload, 1) := by decide +kernel
theorem dX12_owedTo_45 : decode cX12_owedTo 45 = .ok (.ireturn, 1) := by decide +kernel
theorem dX12_sleepOf_0 : decode cX12_sleepOf 0 = .ok (.aload_n 0, 1) := by decide +kernel
theorem dX12_sleepOf_1 : decode cX12_sleepOf 1 = .ok (.iload_n 1, 1) := by decide +kernel
theorem dX12_sleepOf_2 : decode cX12_sleepOf 2 = .ok (.iload_n 2, 1) := by decide +kernel
theorem dX12_sleepOf_3 : decode cX12_sleepOf 3 = .ok (.invokevirtual 400, 3) := by decide +kernel
theorem dX12_sleepOf_6 : decode cX12_sleepOf 6 = .ok (.istore_n 3, 1) := by decide +kernel
theorem dX12_sleepOf_7 : decode cX12_sleepOf 7 = .ok (.aload_n 0, 1) := by decide +kernel
theorem dX12_sleepOf_8 : decode cX12_sleepOf 8 = .ok (.getfield 46, 3) := by decide +kernel
theorem dX12_sleepOf_11 : decode cX12_sleepOf 11 = .ok (.iload_n 1, 1) := by decide +kernel
theorem dX12_sleepOf_12 : decode cX12_sleepOf 12 = .ok (.iaload, 1) := by decide +kernel
theorem dX12_sleepOf_13 : decode cX12_sleepOf 13 = .ok (.istore 4, 2) := by decide +kernel
theorem dX12_sleepOf_15 : decode cX12_sleepOf 15 = .ok (.iconst 0, 1) := by decide +kernel
theorem dX12_sleepOf_16 : decode cX12_sleepOf 16 = .ok (.istore 5, 2) := by decide +kernel
theorem dX12_sleepOf_18 : decode cX12_sleepOf 18 = .ok (.iload 5, 2) := by decide +kernel
theorem dX12_sleepOf_20 : decode cX12_sleepOf 20 = .ok (.aload_n 0, 1) := by decide +kernel
theorem dX12_sleepOf_21 : decode cX12_sleepOf 21 = .ok (.getfield 234, 3) := by decide +kernel
theorem dX12_sleepOf_24 : decode cX12_sleepOf 24 = .ok (.if_icmp .ge 84, 3) := by decide +kernel
theorem dX12_sleepOf_27 : decode cX12_sleepOf 27 = .ok (.aload_n 0, 1) := by decide +kernel
theorem dX12_sleepOf_28 : decode cX12_sleepOf 28 = .ok (.getfield 49, 3) := by decide +kernel
theorem dX12_sleepOf_31 : decode cX12_sleepOf 31 = .ok (.iload 5, 2) := by decide +kernel
theorem dX12_sleepOf_33 : decode cX12_sleepOf 33 = .ok (.iaload, 1) := by decide +kernel
theorem dX12_sleepOf_34 : decode cX12_sleepOf 34 = .ok (.iload_n 1, 1) := by decide +kernel
theorem dX12_sleepOf_35 : decode cX12_sleepOf 35 = .ok (.if_icmp .ne 67, 3) := by decide +kernel
theorem dX12_sleepOf_38 : decode cX12_sleepOf 38 = .ok (.aload_n 0, 1) := by decide +kernel
theorem dX12_sleepOf_39 : decode cX12_sleepOf 39 = .ok (.getfield 64, 3) := by decide +kernel
theorem dX12_sleepOf_42 : decode cX12_sleepOf 42 = .ok (.iload 5, 2) := by decide +kernel
theorem dX12_sleepOf_44 : decode cX12_sleepOf 44 = .ok (.iaload, 1) := by decide +kernel
theorem dX12_sleepOf_45 : decode cX12_sleepOf 45 = .ok (.iload_n 2, 1) := by decide +kernel
theorem dX12_sleepOf_46 : decode cX12_sleepOf 46 = .ok (.if_icmp .gt 56, 3) := by decide +kernel
theorem dX12_sleepOf_49 : decode cX12_sleepOf 49 = .ok (.aload_n 0, 1) := by decide +kernel
theorem dX12_sleepOf_50 : decode cX12_sleepOf 50 = .ok (.getfield 52, 3) := by decide +kernel
theorem dX12_sleepOf_53 : decode cX12_sleepOf 53 = .ok (.iload 5, 2) := by decide +kernel
theorem dX12_sleepOf_55 : decode cX12_sleepOf 55 = .ok (.iaload, 1) := by decide +kernel
theorem dX12_sleepOf_56 : decode cX12_sleepOf 56 = .ok (.bipush 6, 2) := by decide +kernel
theorem dX12_sleepOf_58 : decode cX12_sleepOf 58 = .ok (.if_icmp .eq 44, 3) := by decide +kernel
theorem dX12_sleepOf_61 : decode cX12_sleepOf 61 = .ok (.aload_n 0, 1) := by decide +kernel
theorem dX12_sleepOf_62 : decode cX12_sleepOf 62 = .ok (.getfield 70, 3) := by decide +kernel
theorem dX12_sleepOf_65 : decode cX12_sleepOf 65 = .ok (.iload_n 3, 1) := by decide +kernel
theorem dX12_sleepOf_66 : decode cX12_sleepOf 66 = .ok (.iaload, 1) := by decide +kernel
theorem dX12_sleepOf_67 : decode cX12_sleepOf 67 = .ok (.aload_n 0, 1) := by decide +kernel
theorem dX12_sleepOf_68 : decode cX12_sleepOf 68 = .ok (.getfield 52, 3) := by decide +kernel
theorem dX12_sleepOf_71 : decode cX12_sleepOf 71 = .ok (.iload 5, 2) := by decide +kernel
theorem dX12_sleepOf_73 : decode cX12_sleepOf 73 = .ok (.iaload, 1) := by decide +kernel
theorem dX12_sleepOf_74 : decode cX12_sleepOf 74 = .ok (.ishr, 1) := by decide +kernel
theorem dX12_sleepOf_75 : decode cX12_sleepOf 75 = .ok (.iconst 1, 1) := by decide +kernel
theorem dX12_sleepOf_76 : decode cX12_sleepOf 76 = .ok (.iand, 1) := by decide +kernel
theorem dX12_sleepOf_77 : decode cX12_sleepOf 77 = .ok (.iconst 1, 1) := by decide +kernel
theorem dX12_sleepOf_78 : decode cX12_sleepOf 78 = .ok (.if_icmp .ne 24, 3) := by decide +kernel
theorem dX12_sleepOf_81 : decode cX12_sleepOf 81 = .ok (.aload_n 0, 1) := by decide +kernel
theorem dX12_sleepOf_82 : decode cX12_sleepOf 82 = .ok (.getfield 55, 3) := by decide +kernel
theorem dX12_sleepOf_85 : decode cX12_sleepOf 85 = .ok (.iload 5, 2) := by decide +kernel
theorem dX12_sleepOf_87 : decode cX12_sleepOf 87 = .ok (.iaload, 1) := by decide +kernel
theorem dX12_sleepOf_88 : decode cX12_sleepOf 88 = .ok (.iload 4, 2) := by decide +kernel
theorem dX12_sleepOf_90 : decode cX12_sleepOf 90 = .ok (.if_icmp .le 12, 3) := by decide +kernel
theorem dX12_sleepOf_93 : decode cX12_sleepOf 93 = .ok (.aload_n 0, 1) := by decide +kernel
theorem dX12_sleepOf_94 : decode cX12_sleepOf 94 = .ok (.getfield 55, 3) := by decide +kernel
theorem dX12_sleepOf_97 : decode cX12_sleepOf 97 = .ok (.iload 5, 2) := by decide +kernel
theorem dX12_sleepOf_99 : decode cX12_sleepOf 99 = .ok (.iaload, 1) := by decide +kernel
theorem dX12_sleepOf_100 : decode cX12_sleepOf 100 = .ok (.istore 4, 2) := by decide +kernel
theorem dX12_sleepOf_102 : decode cX12_sleepOf 102 = .ok (.iinc 5 1, 3) := by decide +kernel
theorem dX12_sleepOf_105 : decode cX12_sleepOf 105 = .ok (.goto (-87), 3) := by decide +kernel
theorem dX12_sleepOf_108 : decode cX12_sleepOf 108 = .ok (.iload 4, 2) := by decide +kernel
theorem dX12_sleepOf_110 : decode cX12_sleepOf 110 = .ok (.sipush 360, 3) := by decide +kernel
theorem dX12_sleepOf_113 : decode cX12_sleepOf 113 = .ok (.aload_n 0, 1) := by decide +kernel
theorem dX12_sleepOf_114 : decode cX12_sleepOf 114 = .ok (.getfield 67, 3) := by decide +kernel
theorem dX12_sleepOf_117 : decode cX12_sleepOf 117 = .ok (.iconst 4, 1) := by decide +kernel
theorem dX12_sleepOf_118 : decode cX12_sleepOf 118 = .ok (.iload_n 3, 1) := by decide +kernel
theorem dX12_sleepOf_119 : decode cX12_sleepOf 119 = .ok (.imul, 1) := by decide +kernel
theorem dX12_sleepOf_120 : decode cX12_sleepOf 120 = .ok (.aload_n 0, 1) := by decide +kernel
theorem dX12_sleepOf_121 : decode cX12_sleepOf 121 = .ok (.getfield 40, 3) := by decide +kernel
theorem dX12_sleepOf_124 : decode cX12_sleepOf 124 = .ok (.iload_n 1, 1) := by decide +kernel
theorem dX12_sleepOf_125 : decode cX12_sleepOf 125 = .ok (.iaload, 1) := by decide +kernel
theorem dX12_sleepOf_126 : decode cX12_sleepOf 126 = .ok (.iadd, 1) := by decide +kernel
theorem dX12_sleepOf_127 : decode cX12_sleepOf 127 = .ok (.iaload, 1) := by decide +kernel
theorem dX12_sleepOf_128 : decode cX12_sleepOf 128 = .ok (.imul, 1) := by decide +kernel
theorem dX12_sleepOf_129 : decode cX12_sleepOf 129 = .ok (.iadd, 1) := by decide +kernel
theorem dX12_sleepOf_130 : decode cX12_sleepOf 130 = .ok (.ireturn, 1) := by decide +kernel
theorem dX12_sleep_0 : decode cX12_sleep 0 = .ok (.aload_n 0, 1) := by decide +kernel
theorem dX12_sleep_1 : decode cX12_sleep 1 = .ok (.iload_n 1, 1) := by decide +kernel
theorem dX12_sleep_2 : decode cX12_sleep 2 = .ok (.invokevirtual 237, 3) := by decide +kernel
theorem dX12_sleep_5 : decode cX12_sleep 5 = .ok (.ifCond .eq 20, 3) := by decide +kernel
theorem dX12_sleep_8 : decode cX12_sleep 8 = .ok (.aload_n 0, 1) := by decide +kernel
theorem dX12_sleep_9 : decode cX12_sleep 9 = .ok (.iload_n 2, 1) := by decide +kernel
theorem dX12_sleep_10 : decode cX12_sleep 10 = .ok (.invokevirtual 220, 3) := by decide +kernel
theorem dX12_sleep_13 : decode cX12_sleep 13 = .ok (.ifCond .eq 12, 3) := by decide +kernel
theorem dX12_sleep_16 : decode cX12_sleep 16 = .ok (.iload_n 3, 1) := by decide +kernel
theorem dX12_sleep_17 : decode cX12_sleep 17 = .ok (.iconst 0, 1) := by decide +kernel
theorem dX12_sleep_18 : decode cX12_sleep 18 = .ok (.iconst 3, 1) := by decide +kernel
theorem dX12_sleep_19 : decode cX12_sleep 19 = .ok (.invokestatic 200, 3) := by decide +kernel
theorem dX12_sleep_22 : decode cX12_sleep 22 = .ok (.ifCond .ne 7, 3) := by decide +kernel
theorem dX12_sleep_25 : decode cX12_sleep 25 = .ok (.ldc_w 403, 3) := by decide +kernel
theorem dX12_sleep_28 : decode cX12_sleep 28 = .ok (.ireturn, 1) := by decide +kernel
theorem dX12_sleep_29 : decode cX12_sleep 29 = .ok (.aload_n 0, 1) := by decide +kernel
theorem dX12_sleep_30 : decode cX12_sleep 30 = .ok (.iload_n 1, 1) := by decide +kernel
theorem dX12_sleep_31 : decode cX12_sleep 31 = .ok (.iload_n 2, 1) := by decide +kernel
theorem dX12_sleep_32 : decode cX12_sleep 32 = .ok (.invokevirtual 400, 3) := by decide +kernel
theorem dX12_sleep_35 : decode cX12_sleep 35 = .ok (.istore 4, 2) := by decide +kernel
theorem dX12_sleep_37 : decode cX12_sleep 37 = .ok (.aload_n 0, 1) := by decide +kernel
theorem dX12_sleep_38 : decode cX12_sleep 38 = .ok (.iload_n 1, 1) := by decide +kernel
theorem dX12_sleep_39 : decode cX12_sleep 39 = .ok (.iload_n 2, 1) := by decide +kernel
theorem dX12_sleep_40 : decode cX12_sleep 40 = .ok (.invokevirtual 404, 3) := by decide +kernel
theorem dX12_sleep_43 : decode cX12_sleep 43 = .ok (.istore 5, 2) := by decide +kernel
theorem dX12_sleep_45 : decode cX12_sleep 45 = .ok (.iload_n 3, 1) := by decide +kernel
theorem dX12_sleep_46 : decode cX12_sleep 46 = .ok (.ifCond .ne 8, 3) := by decide +kernel
theorem dX12_sleep_49 : decode cX12_sleep 49 = .ok (.iload 5, 2) := by decide +kernel
theorem dX12_sleep_51 : decode cX12_sleep 51 = .ok (.goto 42, 3) := by decide +kernel
theorem dX12_sleep_54 : decode cX12_sleep 54 = .ok (.iload_n 3, 1) := by decide +kernel
theorem dX12_sleep_55 : decode cX12_sleep 55 = .ok (.iconst 1, 1) := by decide +kernel
theorem dX12_sleep_56 : decode cX12_sleep 56 = .ok (.if_icmp .ne 16, 3) := by decide +kernel
theorem dX12_sleep_59 : decode cX12_sleep 59 = .ok (.iload 5, 2) := by decide +kernel
theorem dX12_sleep_61 : decode cX12_sleep 61 = .ok (.aload_n 0, 1) := by decide +kernel
theorem dX12_sleep_62 : decode cX12_sleep 62 = .ok (.getfield 73, 3) := by decide +kernel
theorem dX12_sleep_65 : decode cX12_sleep 65 = .ok (.iload 4, 2) := by decide +kernel
theorem dX12_sleep_67 : decode cX12_sleep 67 = .ok (.iaload, 1) := by decide +kernel
theorem dX12_sleep_68 : decode cX12_sleep 68 = .ok (.isub, 1) := by decide +kernel
theorem dX12_sleep_69 : decode cX12_sleep 69 = .ok (.goto 24, 3) := by decide +kernel
theorem dX12_sleep_72 : decode cX12_sleep 72 = .ok (.iload_n 3, 1) := by decide +kernel
theorem dX12_sleep_73 : decode cX12_sleep 73 = .ok (.iconst 2, 1) := by decide +kernel
theorem dX12_sleep_74 : decode cX12_sleep 74 = .ok (.if_icmp .ne 17, 3) := by decide +kernel
theorem dX12_sleep_77 : decode cX12_sleep 77 = .ok (.iload_n 2, 1) := by decide +kernel
theorem dX12_sleep_78 : decode cX12_sleep 78 = .ok (.iload 5, 2) := by decide +kernel
theorem dX12_sleep_80 : decode cX12_sleep 80 = .ok (.if_icmp .lt 7, 3) := by decide +kernel
theorem dX12_sleep_83 : decode cX12_sleep 83 = .ok (.iconst 1, 1) := by decide +kernel
theorem dX12_sleep_84 : decode cX12_sleep 84 = .ok (.goto 9, 3) := by decide +kernel
theorem dX12_sleep_87 : decode cX12_sleep 87 = .ok (.iconst 0, 1) := by decide +kernel
theorem dX12_sleep_88 : decode cX12_sleep 88 = .ok (.goto 5, 3) := by decide +kernel
theorem dX12_sleep_91 : decode cX12_sleep 91 = .ok (.iload 4, 2) := by decide +kernel
theorem dX12_sleep_93 : decode cX12_sleep 93 = .ok (.ireturn, 1) := by decide +kernel
theorem dX12_report_0 : decode cX12_report 0 = .ok (.aload_n 0, 1) := by decide +kernel
theorem dX12_report_1 : decode cX12_report 1 = .ok (.iload_n 1, 1) := by decide +kernel
theorem dX12_report_2 : decode cX12_report 2 = .ok (.invokevirtual 217, 3) := by decide +kernel
theorem dX12_report_5 : decode cX12_report 5 = .ok (.ifCond .eq 15, 3) := by decide +kernel
theorem dX12_report_8 : decode cX12_report 8 = .ok (.aload_n 0, 1) := by decide +kernel
theorem dX12_report_9 : decode cX12_report 9 = .ok (.iload_n 1, 1) := by decide +kernel
theorem dX12_report_10 : decode cX12_report 10 = .ok (.aload_n 0, 1) := by decide +kernel
theorem dX12_report_11 : decode cX12_report 11 = .ok (.getfield 197, 3) := by decide +kernel
theorem dX12_report_14 : decode cX12_report 14 = .ok (.invokevirtual 223, 3) := by decide +kernel
theorem dX12_report_17 : decode cX12_report 17 = .ok (.ifCond .eq 5, 3) := by decide +kernel
theorem dX12_report_20 : decode cX12_report 20 = .ok (.iconst (-1), 1) := by decide +kernel
theorem dX12_report_21 : decode cX12_report 21 = .ok (.ireturn, 1) := by decide +kernel
theorem dX12_report_22 : decode cX12_report 22 = .ok (.iconst 0, 1) := by decide +kernel
theorem dX12_report_23 : decode cX12_report 23 = .ok (.istore_n 2, 1) := by decide +kernel
theorem dX12_report_24 : decode cX12_report 24 = .ok (.iconst 0, 1) := by decide +kernel
theorem dX12_report_25 : decode cX12_report 25 = .ok (.istore_n 3, 1) := by decide +kernel
theorem dX12_report_26 : decode cX12_report 26 = .ok (.iload_n 3, 1) := by decide +kernel
theorem dX12_report_27 : decode cX12_report 27 = .ok (.aload_n 0, 1) := by decide +kernel
theorem dX12_report_28 : decode cX12_report 28 = .ok (.getfield 210, 3) := by decide +kernel
theorem dX12_report_31 : decode cX12_report 31 = .ok (.if_icmp .ge 123, 3) := by decide +kernel
theorem dX12_report_34 : decode cX12_report 34 = .ok (.aload_n 0, 1) := by decide +kernel
theorem dX12_report_35 : decode cX12_report 35 = .ok (.getfield 128, 3) := by decide +kernel
theorem dX12_report_38 : decode cX12_report 38 = .ok (.iload_n 3, 1) := by decide +kernel
theorem dX12_report_39 : decode cX12_report 39 = .ok (.iaload, 1) := by decide +kernel
theorem dX12_report_40 : decode cX12_report 40 = .ok (.iconst (-1), 1) := by decide +kernel
theorem dX12_report_41 : decode cX12_report 41 = .ok (.if_icmp .ne 107, 3) := by decide +kernel
theorem dX12_report_44 : decode cX12_report 44 = .ok (.aload_n 0, 1) := by decide +kernel
theorem dX12_report_45 : decode cX12_report 45 = .ok (.aload_n 0, 1) := by decide +kernel
theorem dX12_report_46 : decode cX12_report 46 = .ok (.getfield 37, 3) := by decide +kernel
theorem dX12_report_49 : decode cX12_report 49 = .ok (.iload_n 3, 1) := by decide +kernel
theorem dX12_report_50 : decode cX12_report 50 = .ok (.iaload, 1) := by decide +kernel
theorem dX12_report_51 : decode cX12_report 51 = .ok (.aload_n 0, 1) := by decide +kernel
theorem dX12_report_52 : decode cX12_report 52 = .ok (.getfield 197, 3) := by decide +kernel
theorem dX12_report_55 : decode cX12_report 55 = .ok (.invokevirtual 227, 3) := by decide +kernel
theorem dX12_report_58 : decode cX12_report 58 = .ok (.iload_n 1, 1) := by decide +kernel
theorem dX12_report_59 : decode cX12_report 59 = .ok (.if_icmp .ne 89, 3) := by decide +kernel
theorem dX12_report_62 : decode cX12_report 62 = .ok (.aload_n 0, 1) := by decide +kernel
theorem dX12_report_63 : decode cX12_report 63 = .ok (.iload_n 3, 1) := by decide +kernel
theorem dX12_report_64 : decode cX12_report 64 = .ok (.aload_n 0, 1) := by decide +kernel
theorem dX12_report_65 : decode cX12_report 65 = .ok (.getfield 197, 3) := by decide +kernel
theorem dX12_report_68 : decode cX12_report 68 = .ok (.invokevirtual 404, 3) := by decide +kernel
theorem dX12_report_71 : decode cX12_report 71 = .ok (.aload_n 0, 1) := by decide +kernel
theorem dX12_report_72 : decode cX12_report 72 = .ok (.getfield 197, 3) := by decide +kernel
theorem dX12_report_75 : decode cX12_report 75 = .ok (.if_icmp .le 6, 3) := by decide +kernel
theorem dX12_report_78 : decode cX12_report 78 = .ok (.goto 70, 3) := by decide +kernel
theorem dX12_report_81 : decode cX12_report 81 = .ok (.aload_n 0, 1) := by decide +kernel
theorem dX12_report_82 : decode cX12_report 82 = .ok (.getfield 128, 3) := by decide +kernel
theorem dX12_report_85 : decode cX12_report 85 = .ok (.iload_n 3, 1) := by decide +kernel
theorem dX12_report_86 : decode cX12_report 86 = .ok (.aload_n 0, 1) := by decide +kernel
theorem dX12_report_87 : decode cX12_report 87 = .ok (.iload_n 3, 1) := by decide +kernel
theorem dX12_report_88 : decode cX12_report 88 = .ok (.aload_n 0, 1) := by decide +kernel
theorem dX12_report_89 : decode cX12_report 89 = .ok (.getfield 197, 3) := by decide +kernel
theorem dX12_report_92 : decode cX12_report 92 = .ok (.invokevirtual 400, 3) := by decide +kernel
theorem dX12_report_95 : decode cX12_report 95 = .ok (.iastore, 1) := by decide +kernel
theorem dX12_report_96 : decode cX12_report 96 = .ok (.aload_n 0, 1) := by decide +kernel
theorem dX12_report_97 : decode cX12_report 97 = .ok (.getfield 131, 3) := by decide +kernel
theorem dX12_report_100 : decode cX12_report 100 = .ok (.iload_n 3, 1) := by decide +kernel
theorem dX12_report_101 : decode cX12_report 101 = .ok (.aload_n 0, 1) := by decide +kernel
theorem dX12_report_102 : decode cX12_report 102 = .ok (.getfield 197, 3) := by decide +kernel
theorem dX12_report_105 : decode cX12_report 105 = .ok (.iastore, 1) := by decide +kernel
theorem dX12_report_106 : decode cX12_report 106 = .ok (.aload_n 0, 1) := by decide +kernel
theorem dX12_report_107 : decode cX12_report 107 = .ok (.getfield 134, 3) := by decide +kernel
theorem dX12_report_110 : decode cX12_report 110 = .ok (.iload_n 3, 1) := by decide +kernel
theorem dX12_report_111 : decode cX12_report 111 = .ok (.aload_n 0, 1) := by decide +kernel
theorem dX12_report_112 : decode cX12_report 112 = .ok (.getfield 197, 3) := by decide +kernel
theorem dX12_report_115 : decode cX12_report 115 = .ok (.aload_n 0, 1) := by decide +kernel
theorem dX12_report_116 : decode cX12_report 116 = .ok (.iload_n 3, 1) := by decide +kernel
theorem dX12_report_117 : decode cX12_report 117 = .ok (.aload_n 0, 1) := by decide +kernel
theorem dX12_report_118 : decode cX12_report 118 = .ok (.getfield 197, 3) := by decide +kernel
theorem dX12_report_121 : decode cX12_report 121 = .ok (.invokevirtual 404, 3) := by decide +kernel
theorem dX12_report_124 : decode cX12_report 124 = .ok (.isub, 1) := by decide +kernel
theorem dX12_report_125 : decode cX12_report 125 = .ok (.iastore, 1) := by decide +kernel
theorem dX12_report_126 : decode cX12_report 126 = .ok (.aload_n 0, 1) := by decide +kernel
theorem dX12_report_127 : decode cX12_report 127 = .ok (.getfield 137, 3) := by decide +kernel
theorem dX12_report_130 : decode cX12_report 130 = .ok (.iload_n 3, 1) := by decide +kernel
theorem dX12_report_131 : decode cX12_report 131 = .ok (.aload_n 0, 1) := by decide +kernel
theorem dX12_report_132 : decode cX12_report 132 = .ok (.iload_n 3, 1) := by decide +kernel
theorem dX12_report_133 : decode cX12_report 133 = .ok (.aload_n 0, 1) := by decide +kernel
theorem dX12_report_134 : decode cX12_report 134 = .ok (.getfield 197, 3) := by decide +kernel
theorem dX12_report_137 : decode cX12_report 137 = .ok (.aload_n 0, 1) := by decide +kernel
theorem dX12_report_138 : decode cX12_report 138 = .ok (.getfield 197, 3) := by decide +kernel
theorem dX12_report_141 : decode cX12_report 141 = .ok (.invokevirtual 254, 3) := by decide +kernel
theorem dX12_report_144 : decode cX12_report 144 = .ok (.lastore, 1) := by decide +kernel
theorem dX12_report_145 : decode cX12_report 145 = .ok (.iinc 2 1, 3) := by decide +kernel
theorem dX12_report_148 : decode cX12_report 148 = .ok (.iinc 3 1, 3) := by decide +kernel
theorem dX12_report_151 : decode cX12_report 151 = .ok (.goto (-125), 3) := by decide +kernel
theorem dX12_report_154 : decode cX12_report 154 = .ok (.iload_n 2, 1) := by decide +kernel
theorem dX12_report_155 : decode cX12_report 155 = .ok (.ireturn, 1) := by decide +kernel
theorem dX12_isHeld_0 : decode cX12_isHeld 0 = .ok (.aload_n 0, 1) := by decide +kernel
theorem dX12_isHeld_1 : decode cX12_isHeld 1 = .ok (.iload_n 1, 1) := by decide +kernel
theorem dX12_isHeld_2 : decode cX12_isHeld 2 = .ok (.invokevirtual 237, 3) := by decide +kernel
theorem dX12_isHeld_5 : decode cX12_isHeld 5 = .ok (.ifCond .eq 17, 3) := by decide +kernel
theorem dX12_isHeld_8 : decode cX12_isHeld 8 = .ok (.aload_n 0, 1) := by decide +kernel
theorem dX12_isHeld_9 : decode cX12_isHeld 9 = .ok (.getfield 128, 3) := by decide +kernel
theorem dX12_isHeld_12 : decode cX12_isHeld 12 = .ok (.iload_n 1, 1) := by decide +kernel
theorem dX12_isHeld_13 : decode cX12_isHeld 13 = .ok (.iaload, 1) := by decide +kernel
theorem dX12_isHeld_14 : decode cX12_isHeld 14 = .ok (.iconst (-1), 1) := by decide +kernel
theorem dX12_isHeld_15 : decode cX12_isHeld 15 = .ok (.if_icmp .eq 7, 3) := by decide +kernel
theorem dX12_isHeld_18 : decode cX12_isHeld 18 = .ok (.iconst 1, 1) := by decide +kernel
theorem dX12_isHeld_19 : decode cX12_isHeld 19 = .ok (.goto 4, 3) := by decide +kernel
theorem dX12_isHeld_22 : decode cX12_isHeld 22 = .ok (.iconst 0, 1) := by decide +kernel
theorem dX12_isHeld_23 : decode cX12_isHeld 23 = .ok (.ireturn, 1) := by decide +kernel
theorem dX12_interest_0 : decode cX12_interest 0 = .ok (.aload_n 0, 1) := by decide +kernel
theorem dX12_interest_1 : decode cX12_interest 1 = .ok (.getfield 128, 3) := by decide +kernel
theorem dX12_interest_4 : decode cX12_interest 4 = .ok (.iload_n 1, 1) := by decide +kernel
theorem dX12_interest_5 : decode cX12_interest 5 = .ok (.iaload, 1) := by decide +kernel
theorem dX12_interest_6 : decode cX12_interest 6 = .ok (.istore_n 2, 1) := by decide +kernel
theorem dX12_interest_7 : decode cX12_interest 7 = .ok (.aload_n 0, 1) := by decide +kernel
theorem dX12_interest_8 : decode cX12_interest 8 = .ok (.getfield 197, 3) := by decide +kernel
theorem dX12_interest_11 : decode cX12_interest 11 = .ok (.aload_n 0, 1) := by decide +kernel
theorem dX12_interest_12 : decode cX12_interest 12 = .ok (.getfield 131, 3) := by decide +kernel
theorem dX12_interest_15 : decode cX12_interest 15 = .ok (.iload_n 1, 1) := by decide +kernel
theorem dX12_interest_16 : decode cX12_interest 16 = .ok (.iaload, 1) := by decide +kernel
theorem dX12_interest_17 : decode cX12_interest 17 = .ok (.isub, 1) := by decide +kernel
theorem dX12_interest_18 : decode cX12_interest 18 = .ok (.i2l, 1) := by decide +kernel
theorem dX12_interest_19 : decode cX12_interest 19 = .ok (.lstore_n 3, 1) := by decide +kernel
theorem dX12_interest_20 : decode cX12_interest 20 = .ok (.ldc2_w 407, 3) := by decide +kernel
theorem dX12_interest_23 : decode cX12_interest 23 = .ok (.aload_n 0, 1) := by decide +kernel
theorem dX12_interest_24 : decode cX12_interest 24 = .ok (.getfield 82, 3) := by decide +kernel
theorem dX12_interest_27 : decode cX12_interest 27 = .ok (.iload_n 2, 1) := by decide +kernel
theorem dX12_interest_28 : decode cX12_interest 28 = .ok (.iaload, 1) := by decide +kernel
theorem dX12_interest_29 : decode cX12_interest 29 = .ok (.i2l, 1) := by decide +kernel
theorem dX12_interest_30 : decode cX12_interest 30 = .ok (.lmul, 1) := by decide +kernel
theorem dX12_interest_31 : decode cX12_interest 31 = .ok (.lstore 5, 2) := by decide +kernel
theorem dX12_interest_33 : decode cX12_interest 33 = .ok (.aload_n 0, 1) := by decide +kernel
theorem dX12_interest_34 : decode cX12_interest 34 = .ok (.getfield 79, 3) := by decide +kernel
theorem dX12_interest_37 : decode cX12_interest 37 = .ok (.iload_n 2, 1) := by decide +kernel
theorem dX12_interest_38 : decode cX12_interest 38 = .ok (.iaload, 1) := by decide +kernel
theorem dX12_interest_39 : decode cX12_interest 39 = .ok (.i2l, 1) := by decide +kernel
theorem dX12_interest_40 : decode cX12_interest 40 = .ok (.lload_n 3, 1) := by decide +kernel
theorem dX12_interest_41 : decode cX12_interest 41 = .ok (.lload 5, 2) := by decide +kernel
theorem dX12_interest_43 : decode cX12_interest 43 = .ok (.lcmp, 1) := by decide +kernel
theorem dX12_interest_44 : decode cX12_interest 44 = .ok (.ifCond .ge 7, 3) := by decide +kernel
theorem dX12_interest_47 : decode cX12_interest 47 = .ok (.lload_n 3, 1) := by decide +kernel
theorem dX12_interest_48 : decode cX12_interest 48 = .ok (.goto 5, 3) := by decide +kernel
theorem dX12_interest_51 : decode cX12_interest 51 = .ok (.lload 5, 2) := by decide +kernel
theorem dX12_interest_53 : decode cX12_interest 53 = .ok (.lmul, 1) := by decide +kernel
theorem dX12_interest_54 : decode cX12_interest 54 = .ok (.lstore 7, 2) := by decide +kernel
theorem dX12_interest_56 : decode cX12_interest 56 = .ok (.aload_n 0, 1) := by decide +kernel
theorem dX12_interest_57 : decode cX12_interest 57 = .ok (.getfield 137, 3) := by decide +kernel
theorem dX12_interest_60 : decode cX12_interest 60 = .ok (.iload_n 1, 1) := by decide +kernel
theorem dX12_interest_61 : decode cX12_interest 61 = .ok (.laload, 1) := by decide +kernel
theorem dX12_interest_62 : decode cX12_interest 62 = .ok (.ldc2_w 409, 3) := by decide +kernel
theorem dX12_interest_65 : decode cX12_interest 65 = .ok (.ldiv, 1) := by decide +kernel
theorem dX12_interest_66 : decode cX12_interest 66 = .ok (.lload 7, 2) := by decide +kernel
theorem dX12_interest_68 : decode cX12_interest 68 = .ok (.lmul, 1) := by decide +kernel
theorem dX12_interest_69 : decode cX12_interest 69 = .ok (.aload_n 0, 1) := by decide +kernel
theorem dX12_interest_70 : decode cX12_interest 70 = .ok (.getfield 137, 3) := by decide +kernel
theorem dX12_interest_73 : decode cX12_interest 73 = .ok (.iload_n 1, 1) := by decide +kernel
theorem dX12_interest_74 : decode cX12_interest 74 = .ok (.laload, 1) := by decide +kernel
theorem dX12_interest_75 : decode cX12_interest 75 = .ok (.ldc2_w 409, 3) := by decide +kernel
theorem dX12_interest_78 : decode cX12_interest 78 = .ok (.lrem, 1) := by decide +kernel
theorem dX12_interest_79 : decode cX12_interest 79 = .ok (.lload 7, 2) := by decide +kernel
theorem dX12_interest_81 : decode cX12_interest 81 = .ok (.lmul, 1) := by decide +kernel
theorem dX12_interest_82 : decode cX12_interest 82 = .ok (.ldc2_w 409, 3) := by decide +kernel
theorem dX12_interest_85 : decode cX12_interest 85 = .ok (.ldiv, 1) := by decide +kernel
theorem dX12_interest_86 : decode cX12_interest 86 = .ok (.ladd, 1) := by decide +kernel
theorem dX12_interest_87 : decode cX12_interest 87 = .ok (.lreturn, 1) := by decide +kernel
theorem dX12_paidOf_0 : decode cX12_paidOf 0 = .ok (.lconst 0, 1) := by decide +kernel
theorem dX12_paidOf_1 : decode cX12_paidOf 1 = .ok (.lstore_n 2, 1) := by decide +kernel
theorem dX12_paidOf_2 : decode cX12_paidOf 2 = .ok (.iconst 0, 1) := by decide +kernel
theorem dX12_paidOf_3 : decode cX12_paidOf 3 = .ok (.istore 4, 2) := by decide +kernel
theorem dX12_paidOf_5 : decode cX12_paidOf 5 = .ok (.iload 4, 2) := by decide +kernel
theorem dX12_paidOf_7 : decode cX12_paidOf 7 = .ok (.aload_n 0, 1) := by decide +kernel
theorem dX12_paidOf_8 : decode cX12_paidOf 8 = .ok (.getfield 411, 3) := by decide +kernel
theorem dX12_paidOf_11 : decode cX12_paidOf 11 = .ok (.if_icmp .ge 45, 3) := by decide +kernel
theorem dX12_paidOf_14 : decode cX12_paidOf 14 = .ok (.lload_n 2, 1) := by decide +kernel
theorem dX12_paidOf_15 : decode cX12_paidOf 15 = .ok (.aload_n 0, 1) := by decide +kernel
theorem dX12_paidOf_16 : decode cX12_paidOf 16 = .ok (.getfield 163, 3) := by decide +kernel
theorem dX12_paidOf_19 : decode cX12_paidOf 19 = .ok (.iload 4, 2) := by decide +kernel
theorem dX12_paidOf_21 : decode cX12_paidOf 21 = .ok (.iaload, 1) := by decide +kernel
theorem dX12_paidOf_22 : decode cX12_paidOf 22 = .ok (.iload_n 1, 1) := by decide +kernel
theorem dX12_paidOf_23 : decode cX12_paidOf 23 = .ok (.if_icmp .ne 24, 3) := by decide +kernel
theorem dX12_paidOf_26 : decode cX12_paidOf 26 = .ok (.aload_n 0, 1) := by decide +kernel
theorem dX12_paidOf_27 : decode cX12_paidOf 27 = .ok (.getfield 172, 3) := by decide +kernel
theorem dX12_paidOf_30 : decode cX12_paidOf 30 = .ok (.iload 4, 2) := by decide +kernel
theorem dX12_paidOf_32 : decode cX12_paidOf 32 = .ok (.iaload, 1) := by decide +kernel
theorem dX12_paidOf_33 : decode cX12_paidOf 33 = .ok (.iconst 1, 1) := by decide +kernel
theorem dX12_paidOf_34 : decode cX12_paidOf 34 = .ok (.if_icmp .ne 13, 3) := by decide +kernel
theorem dX12_paidOf_37 : decode cX12_paidOf 37 = .ok (.aload_n 0, 1) := by decide +kernel
theorem dX12_paidOf_38 : decode cX12_paidOf 38 = .ok (.getfield 175, 3) := by decide +kernel
theorem dX12_paidOf_41 : decode cX12_paidOf 41 = .ok (.iload 4, 2) := by decide +kernel
theorem dX12_paidOf_43 : decode cX12_paidOf 43 = .ok (.laload, 1) := by decide +kernel
theorem dX12_paidOf_44 : decode cX12_paidOf 44 = .ok (.goto 4, 3) := by decide +kernel
theorem dX12_paidOf_47 : decode cX12_paidOf 47 = .ok (.lconst 0, 1) := by decide +kernel
theorem dX12_paidOf_48 : decode cX12_paidOf 48 = .ok (.ladd, 1) := by decide +kernel
theorem dX12_paidOf_49 : decode cX12_paidOf 49 = .ok (.lstore_n 2, 1) := by decide +kernel
theorem dX12_paidOf_50 : decode cX12_paidOf 50 = .ok (.iinc 4 1, 3) := by decide +kernel
theorem dX12_paidOf_53 : decode cX12_paidOf 53 = .ok (.goto (-48), 3) := by decide +kernel
theorem dX12_paidOf_56 : decode cX12_paidOf 56 = .ok (.lload_n 2, 1) := by decide +kernel
theorem dX12_paidOf_57 : decode cX12_paidOf 57 = .ok (.lreturn, 1) := by decide +kernel
theorem dX12_held_0 : decode cX12_held 0 = .ok (.aload_n 0, 1) := by decide +kernel
theorem dX12_held_1 : decode cX12_held 1 = .ok (.iload_n 1, 1) := by decide +kernel
theorem dX12_held_2 : decode cX12_held 2 = .ok (.invokevirtual 414, 3) := by decide +kernel
theorem dX12_held_5 : decode cX12_held 5 = .ok (.ifCond .ne 7, 3) := by decide +kernel
theorem dX12_held_8 : decode cX12_held 8 = .ok (.ldc2_w 257, 3) := by decide +kernel
theorem dX12_held_11 : decode cX12_held 11 = .ok (.lreturn, 1) := by decide +kernel
theorem dX12_held_12 : decode cX12_held 12 = .ok (.iload_n 2, 1) := by decide +kernel
theorem dX12_held_13 : decode cX12_held 13 = .ok (.tableswitch 82 0 5 #[39, 47, 54, 62, 70, 76], 39) := by decide +kernel
theorem dX12_held_52 : decode cX12_held 52 = .ok (.aload_n 0, 1) := by decide +kernel
theorem dX12_held_53 : decode cX12_held 53 = .ok (.getfield 128, 3) := by decide +kernel
theorem dX12_held_56 : decode cX12_held 56 = .ok (.iload_n 1, 1) := by decide +kernel
theorem dX12_held_57 : decode cX12_held 57 = .ok (.iaload, 1) := by decide +kernel
theorem dX12_held_58 : decode cX12_held 58 = .ok (.i2l, 1) := by decide +kernel
theorem dX12_held_59 : decode cX12_held 59 = .ok (.lreturn, 1) := by decide +kernel
theorem dX12_held_60 : decode cX12_held 60 = .ok (.aload_n 0, 1) := by decide +kernel
theorem dX12_held_61 : decode cX12_held 61 = .ok (.getfield 137, 3) := by decide +kernel
theorem dX12_held_64 : decode cX12_held 64 = .ok (.iload_n 1, 1) := by decide +kernel
