theorem dX0_init_0 : decode cX0_init 0 = .ok (.aload_n 0, 1) := by decide +kernel
theorem dX0_init_1 : decode cX0_init 1 = .ok (.invokespecial 3, 3) := by decide +kernel
theorem dX0_init_4 : decode cX0_init 4 = .ok (.aload_n 0, 1) := by decide +kernel
theorem dX0_init_5 : decode cX0_init 5 = .ok (.new 9, 3) := by decide +kernel
theorem dX0_init_8 : decode cX0_init 8 = .ok (.dup, 1) := by decide +kernel
theorem dX0_init_9 : decode cX0_init 9 = .ok (.invokespecial 11, 3) := by decide +kernel
theorem dX0_init_12 : decode cX0_init 12 = .ok (.putfield 12, 3) := by decide +kernel
theorem dX0_init_15 : decode cX0_init 15 = .ok (.aload_n 0, 1) := by decide +kernel
theorem dX0_init_16 : decode cX0_init 16 = .ok (.iconst 0, 1) := by decide +kernel
theorem dX0_init_17 : decode cX0_init 17 = .ok (.putfield 18, 3) := by decide +kernel
theorem dX0_init_20 : decode cX0_init 20 = .ok (.aload_n 0, 1) := by decide +kernel
theorem dX0_init_21 : decode cX0_init 21 = .ok (.iconst (-1), 1) := by decide +kernel
theorem dX0_init_22 : decode cX0_init 22 = .ok (.putfield 22, 3) := by decide +kernel
theorem dX0_init_25 : decode cX0_init 25 = .ok (.aload_n 0, 1) := by decide +kernel
theorem dX0_init_26 : decode cX0_init 26 = .ok (.lconst 0, 1) := by decide +kernel
theorem dX0_init_27 : decode cX0_init 27 = .ok (.putfield 25, 3) := by decide +kernel
theorem dX0_init_30 : decode cX0_init 30 = .ok (.aload_n 0, 1) := by decide +kernel
theorem dX0_init_31 : decode cX0_init 31 = .ok (.iconst (-1), 1) := by decide +kernel
theorem dX0_init_32 : decode cX0_init 32 = .ok (.putfield 29, 3) := by decide +kernel
theorem dX0_init_35 : decode cX0_init 35 = .ok (.aload_n 0, 1) := by decide +kernel
theorem dX0_init_36 : decode cX0_init 36 = .ok (.iconst 0, 1) := by decide +kernel
theorem dX0_init_37 : decode cX0_init 37 = .ok (.putfield 32, 3) := by decide +kernel
theorem dX0_init_40 : decode cX0_init 40 = .ok (.aload_n 0, 1) := by decide +kernel
theorem dX0_init_41 : decode cX0_init 41 = .ok (.iload_n 1, 1) := by decide +kernel
theorem dX0_init_42 : decode cX0_init 42 = .ok (.putfield 35, 3) := by decide +kernel
theorem dX0_init_45 : decode cX0_init 45 = .ok (.aload_n 0, 1) := by decide +kernel
theorem dX0_init_46 : decode cX0_init 46 = .ok (.aload_n 2, 1) := by decide +kernel
theorem dX0_init_47 : decode cX0_init 47 = .ok (.putfield 38, 3) := by decide +kernel
theorem dX0_init_50 : decode cX0_init 50 = .ok (.aload_n 0, 1) := by decide +kernel
theorem dX0_init_51 : decode cX0_init 51 = .ok (.iload_n 3, 1) := by decide +kernel
theorem dX0_init_52 : decode cX0_init 52 = .ok (.putfield 42, 3) := by decide +kernel
theorem dX0_init_55 : decode cX0_init 55 = .ok (.aload_n 0, 1) := by decide +kernel
theorem dX0_init_56 : decode cX0_init 56 = .ok (.aload 4, 2) := by decide +kernel
theorem dX0_init_58 : decode cX0_init 58 = .ok (.putfield 45, 3) := by decide +kernel
theorem dX0_init_61 : decode cX0_init 61 = .ok (.aload_n 0, 1) := by decide +kernel
theorem dX0_init_62 : decode cX0_init 62 = .ok (.iload 5, 2) := by decide +kernel
theorem dX0_init_64 : decode cX0_init 64 = .ok (.putfield 49, 3) := by decide +kernel
theorem dX0_init_67 : decode cX0_init 67 = .ok (.return_, 1) := by decide +kernel
theorem dX0_isHeld_0 : decode cX0_isHeld 0 = .ok (.aload_n 0, 1) := by decide +kernel
theorem dX0_isHeld_1 : decode cX0_isHeld 1 = .ok (.getfield 22, 3) := by decide +kernel
theorem dX0_isHeld_4 : decode cX0_isHeld 4 = .ok (.iconst (-1), 1) := by decide +kernel
theorem dX0_isHeld_5 : decode cX0_isHeld 5 = .ok (.if_icmp .eq 7, 3) := by decide +kernel
theorem dX0_isHeld_8 : decode cX0_isHeld 8 = .ok (.iconst 1, 1) := by decide +kernel
theorem dX0_isHeld_9 : decode cX0_isHeld 9 = .ok (.goto 4, 3) := by decide +kernel
theorem dX0_isHeld_12 : decode cX0_isHeld 12 = .ok (.iconst 0, 1) := by decide +kernel
theorem dX0_isHeld_13 : decode cX0_isHeld 13 = .ok (.ireturn, 1) := by decide +kernel
theorem dX0_tell_0 : decode cX0_tell 0 = .ok (.aload_n 0, 1) := by decide +kernel
theorem dX0_tell_1 : decode cX0_tell 1 = .ok (.getfield 12, 3) := by decide +kernel
theorem dX0_tell_4 : decode cX0_tell 4 = .ok (.invokevirtual 52, 3) := by decide +kernel
theorem dX0_tell_7 : decode cX0_tell 7 = .ok (.istore_n 2, 1) := by decide +kernel
theorem dX0_tell_8 : decode cX0_tell 8 = .ok (.iload_n 2, 1) := by decide +kernel
theorem dX0_tell_9 : decode cX0_tell 9 = .ok (.ifCond .le 29, 3) := by decide +kernel
theorem dX0_tell_12 : decode cX0_tell 12 = .ok (.aload_n 0, 1) := by decide +kernel
theorem dX0_tell_13 : decode cX0_tell 13 = .ok (.getfield 12, 3) := by decide +kernel
theorem dX0_tell_16 : decode cX0_tell 16 = .ok (.iload_n 2, 1) := by decide +kernel
theorem dX0_tell_17 : decode cX0_tell 17 = .ok (.iconst 1, 1) := by decide +kernel
theorem dX0_tell_18 : decode cX0_tell 18 = .ok (.isub, 1) := by decide +kernel
theorem dX0_tell_19 : decode cX0_tell 19 = .ok (.invokevirtual 56, 3) := by decide +kernel
theorem dX0_tell_22 : decode cX0_tell 22 = .ok (.checkcast 60, 3) := by decide +kernel
theorem dX0_tell_25 : decode cX0_tell 25 = .ok (.aload_n 1, 1) := by decide +kernel
theorem dX0_tell_26 : decode cX0_tell 26 = .ok (.invokevirtual 62, 3) := by decide +kernel
theorem dX0_tell_29 : decode cX0_tell 29 = .ok (.ifCond .ne 9, 3) := by decide +kernel
theorem dX0_tell_32 : decode cX0_tell 32 = .ok (.iinc 2 (-1), 3) := by decide +kernel
theorem dX0_tell_35 : decode cX0_tell 35 = .ok (.goto (-27), 3) := by decide +kernel
theorem dX0_tell_38 : decode cX0_tell 38 = .ok (.aload_n 0, 1) := by decide +kernel
theorem dX0_tell_39 : decode cX0_tell 39 = .ok (.getfield 12, 3) := by decide +kernel
theorem dX0_tell_42 : decode cX0_tell 42 = .ok (.iload_n 2, 1) := by decide +kernel
theorem dX0_tell_43 : decode cX0_tell 43 = .ok (.aload_n 1, 1) := by decide +kernel
theorem dX0_tell_44 : decode cX0_tell 44 = .ok (.invokevirtual 66, 3) := by decide +kernel
theorem dX0_tell_47 : decode cX0_tell 47 = .ok (.return_, 1) := by decide +kernel
theorem dX0_grewOn_0 : decode cX0_grewOn 0 = .ok (.iconst 0, 1) := by decide +kernel
theorem dX0_grewOn_1 : decode cX0_grewOn 1 = .ok (.istore_n 2, 1) := by decide +kernel
theorem dX0_grewOn_2 : decode cX0_grewOn 2 = .ok (.iload_n 2, 1) := by decide +kernel
theorem dX0_grewOn_3 : decode cX0_grewOn 3 = .ok (.aload_n 0, 1) := by decide +kernel
theorem dX0_grewOn_4 : decode cX0_grewOn 4 = .ok (.getfield 12, 3) := by decide +kernel
theorem dX0_grewOn_7 : decode cX0_grewOn 7 = .ok (.invokevirtual 52, 3) := by decide +kernel
theorem dX0_grewOn_10 : decode cX0_grewOn 10 = .ok (.if_icmp .ge 39, 3) := by decide +kernel
theorem dX0_grewOn_13 : decode cX0_grewOn 13 = .ok (.aload_n 0, 1) := by decide +kernel
theorem dX0_grewOn_14 : decode cX0_grewOn 14 = .ok (.getfield 12, 3) := by decide +kernel
theorem dX0_grewOn_17 : decode cX0_grewOn 17 = .ok (.iload_n 2, 1) := by decide +kernel
theorem dX0_grewOn_18 : decode cX0_grewOn 18 = .ok (.invokevirtual 56, 3) := by decide +kernel
theorem dX0_grewOn_21 : decode cX0_grewOn 21 = .ok (.checkcast 60, 3) := by decide +kernel
theorem dX0_grewOn_24 : decode cX0_grewOn 24 = .ok (.astore_n 3, 1) := by decide +kernel
theorem dX0_grewOn_25 : decode cX0_grewOn 25 = .ok (.aload_n 3, 1) := by decide +kernel
theorem dX0_grewOn_26 : decode cX0_grewOn 26 = .ok (.getfield 70, 3) := by decide +kernel
theorem dX0_grewOn_29 : decode cX0_grewOn 29 = .ok (.iload_n 1, 1) := by decide +kernel
theorem dX0_grewOn_30 : decode cX0_grewOn 30 = .ok (.if_icmp .ne 13, 3) := by decide +kernel
theorem dX0_grewOn_33 : decode cX0_grewOn 33 = .ok (.aload_n 3, 1) := by decide +kernel
theorem dX0_grewOn_34 : decode cX0_grewOn 34 = .ok (.getfield 73, 3) := by decide +kernel
theorem dX0_grewOn_37 : decode cX0_grewOn 37 = .ok (.iconst (-1), 1) := by decide +kernel
theorem dX0_grewOn_38 : decode cX0_grewOn 38 = .ok (.if_icmp .ne 5, 3) := by decide +kernel
theorem dX0_grewOn_41 : decode cX0_grewOn 41 = .ok (.iconst 1, 1) := by decide +kernel
theorem dX0_grewOn_42 : decode cX0_grewOn 42 = .ok (.ireturn, 1) := by decide +kernel
theorem dX0_grewOn_43 : decode cX0_grewOn 43 = .ok (.iinc 2 1, 3) := by decide +kernel
theorem dX0_grewOn_46 : decode cX0_grewOn 46 = .ok (.goto (-44), 3) := by decide +kernel
theorem dX0_grewOn_49 : decode cX0_grewOn 49 = .ok (.iconst 0, 1) := by decide +kernel
theorem dX0_grewOn_50 : decode cX0_grewOn 50 = .ok (.ireturn, 1) := by decide +kernel
theorem dX0_askedSum_0 : decode cX0_askedSum 0 = .ok (.lconst 0, 1) := by decide +kernel
theorem dX0_askedSum_1 : decode cX0_askedSum 1 = .ok (.lstore_n 3, 1) := by decide +kernel
theorem dX0_askedSum_2 : decode cX0_askedSum 2 = .ok (.iconst 0, 1) := by decide +kernel
theorem dX0_askedSum_3 : decode cX0_askedSum 3 = .ok (.istore 5, 2) := by decide +kernel
theorem dX0_askedSum_5 : decode cX0_askedSum 5 = .ok (.iload 5, 2) := by decide +kernel
theorem dX0_askedSum_7 : decode cX0_askedSum 7 = .ok (.aload_n 0, 1) := by decide +kernel
theorem dX0_askedSum_8 : decode cX0_askedSum 8 = .ok (.getfield 12, 3) := by decide +kernel
theorem dX0_askedSum_11 : decode cX0_askedSum 11 = .ok (.invokevirtual 52, 3) := by decide +kernel
theorem dX0_askedSum_14 : decode cX0_askedSum 14 = .ok (.if_icmp .ge 48, 3) := by decide +kernel
theorem dX0_askedSum_17 : decode cX0_askedSum 17 = .ok (.aload_n 0, 1) := by decide +kernel
theorem dX0_askedSum_18 : decode cX0_askedSum 18 = .ok (.getfield 12, 3) := by decide +kernel
theorem dX0_askedSum_21 : decode cX0_askedSum 21 = .ok (.iload 5, 2) := by decide +kernel
theorem dX0_askedSum_23 : decode cX0_askedSum 23 = .ok (.invokevirtual 56, 3) := by decide +kernel
theorem dX0_askedSum_26 : decode cX0_askedSum 26 = .ok (.checkcast 60, 3) := by decide +kernel
theorem dX0_askedSum_29 : decode cX0_askedSum 29 = .ok (.astore 6, 2) := by decide +kernel
theorem dX0_askedSum_31 : decode cX0_askedSum 31 = .ok (.aload 6, 2) := by decide +kernel
theorem dX0_askedSum_33 : decode cX0_askedSum 33 = .ok (.getfield 70, 3) := by decide +kernel
theorem dX0_askedSum_36 : decode cX0_askedSum 36 = .ok (.iload_n 1, 1) := by decide +kernel
theorem dX0_askedSum_37 : decode cX0_askedSum 37 = .ok (.if_icmp .gt 19, 3) := by decide +kernel
theorem dX0_askedSum_40 : decode cX0_askedSum 40 = .ok (.aload 6, 2) := by decide +kernel
theorem dX0_askedSum_42 : decode cX0_askedSum 42 = .ok (.getfield 76, 3) := by decide +kernel
theorem dX0_askedSum_45 : decode cX0_askedSum 45 = .ok (.iload_n 2, 1) := by decide +kernel
theorem dX0_askedSum_46 : decode cX0_askedSum 46 = .ok (.if_icmp .gt 10, 3) := by decide +kernel
theorem dX0_askedSum_49 : decode cX0_askedSum 49 = .ok (.aload 6, 2) := by decide +kernel
theorem dX0_askedSum_51 : decode cX0_askedSum 51 = .ok (.lload_n 3, 1) := by decide +kernel
theorem dX0_askedSum_52 : decode cX0_askedSum 52 = .ok (.invokevirtual 79, 3) := by decide +kernel
theorem dX0_askedSum_55 : decode cX0_askedSum 55 = .ok (.lstore_n 3, 1) := by decide +kernel
theorem dX0_askedSum_56 : decode cX0_askedSum 56 = .ok (.iinc 5 1, 3) := by decide +kernel
theorem dX0_askedSum_59 : decode cX0_askedSum 59 = .ok (.goto (-54), 3) := by decide +kernel
theorem dX0_askedSum_62 : decode cX0_askedSum 62 = .ok (.lconst 0, 1) := by decide +kernel
theorem dX0_askedSum_63 : decode cX0_askedSum 63 = .ok (.lload_n 3, 1) := by decide +kernel
theorem dX0_askedSum_64 : decode cX0_askedSum 64 = .ok (.invokestatic 83, 3) := by decide +kernel
theorem dX0_askedSum_67 : decode cX0_askedSum 67 = .ok (.lreturn, 1) := by decide +kernel
theorem dX0_lastStir_0 : decode cX0_lastStir 0 = .ok (.aload_n 0, 1) := by decide +kernel
theorem dX0_lastStir_1 : decode cX0_lastStir 1 = .ok (.getfield 49, 3) := by decide +kernel
theorem dX0_lastStir_4 : decode cX0_lastStir 4 = .ok (.istore_n 3, 1) := by decide +kernel
theorem dX0_lastStir_5 : decode cX0_lastStir 5 = .ok (.iconst 0, 1) := by decide +kernel
theorem dX0_lastStir_6 : decode cX0_lastStir 6 = .ok (.istore 4, 2) := by decide +kernel
theorem dX0_lastStir_8 : decode cX0_lastStir 8 = .ok (.iload 4, 2) := by decide +kernel
theorem dX0_lastStir_10 : decode cX0_lastStir 10 = .ok (.aload_n 0, 1) := by decide +kernel
theorem dX0_lastStir_11 : decode cX0_lastStir 11 = .ok (.getfield 12, 3) := by decide +kernel
theorem dX0_lastStir_14 : decode cX0_lastStir 14 = .ok (.invokevirtual 52, 3) := by decide +kernel
theorem dX0_lastStir_17 : decode cX0_lastStir 17 = .ok (.if_icmp .ge 76, 3) := by decide +kernel
theorem dX0_lastStir_20 : decode cX0_lastStir 20 = .ok (.aload_n 0, 1) := by decide +kernel
theorem dX0_lastStir_21 : decode cX0_lastStir 21 = .ok (.getfield 12, 3) := by decide +kernel
theorem dX0_lastStir_24 : decode cX0_lastStir 24 = .ok (.iload 4, 2) := by decide +kernel
theorem dX0_lastStir_26 : decode cX0_lastStir 26 = .ok (.invokevirtual 56, 3) := by decide +kernel
theorem dX0_lastStir_29 : decode cX0_lastStir 29 = .ok (.checkcast 60, 3) := by decide +kernel
theorem dX0_lastStir_32 : decode cX0_lastStir 32 = .ok (.astore 5, 2) := by decide +kernel
theorem dX0_lastStir_34 : decode cX0_lastStir 34 = .ok (.aload 5, 2) := by decide +kernel
theorem dX0_lastStir_36 : decode cX0_lastStir 36 = .ok (.getfield 73, 3) := by decide +kernel
theorem dX0_lastStir_39 : decode cX0_lastStir 39 = .ok (.iconst (-1), 1) := by decide +kernel
theorem dX0_lastStir_40 : decode cX0_lastStir 40 = .ok (.if_icmp .eq 20, 3) := by decide +kernel
theorem dX0_lastStir_43 : decode cX0_lastStir 43 = .ok (.iload_n 1, 1) := by decide +kernel
theorem dX0_lastStir_44 : decode cX0_lastStir 44 = .ok (.aload 5, 2) := by decide +kernel
theorem dX0_lastStir_46 : decode cX0_lastStir 46 = .ok (.getfield 73, 3) := by decide +kernel
theorem dX0_lastStir_49 : decode cX0_lastStir 49 = .ok (.ishr, 1) := by decide +kernel
theorem dX0_lastStir_50 : decode cX0_lastStir 50 = .ok (.iconst 1, 1) := by decide +kernel
theorem dX0_lastStir_51 : decode cX0_lastStir 51 = .ok (.iand, 1) := by decide +kernel
theorem dX0_lastStir_52 : decode cX0_lastStir 52 = .ok (.iconst 1, 1) := by decide +kernel
theorem dX0_lastStir_53 : decode cX0_lastStir 53 = .ok (.if_icmp .ne 7, 3) := by decide +kernel
theorem dX0_lastStir_56 : decode cX0_lastStir 56 = .ok (.iconst 1, 1) := by decide +kernel
theorem dX0_lastStir_57 : decode cX0_lastStir 57 = .ok (.goto 4, 3) := by decide +kernel
theorem dX0_lastStir_60 : decode cX0_lastStir 60 = .ok (.iconst 0, 1) := by decide +kernel
theorem dX0_lastStir_61 : decode cX0_lastStir 61 = .ok (.istore 6, 2) := by decide +kernel
theorem dX0_lastStir_63 : decode cX0_lastStir 63 = .ok (.iload 6, 2) := by decide +kernel
theorem dX0_lastStir_65 : decode cX0_lastStir 65 = .ok (.ifCond .eq 22, 3) := by decide +kernel
theorem dX0_lastStir_68 : decode cX0_lastStir 68 = .ok (.aload 5, 2) := by decide +kernel
theorem dX0_lastStir_70 : decode cX0_lastStir 70 = .ok (.getfield 76, 3) := by decide +kernel
theorem dX0_lastStir_73 : decode cX0_lastStir 73 = .ok (.iload_n 2, 1) := by decide +kernel
theorem dX0_lastStir_74 : decode cX0_lastStir 74 = .ok (.if_icmp .gt 13, 3) := by decide +kernel
theorem dX0_lastStir_77 : decode cX0_lastStir 77 = .ok (.iload_n 3, 1) := by decide +kernel
theorem dX0_lastStir_78 : decode cX0_lastStir 78 = .ok (.aload 5, 2) := by decide +kernel
theorem dX0_lastStir_80 : decode cX0_lastStir 80 = .ok (.getfield 70, 3) := by decide +kernel
theorem dX0_lastStir_83 : decode cX0_lastStir 83 = .ok (.invokestatic 89, 3) := by decide +kernel
theorem dX0_lastStir_86 : decode cX0_lastStir 86 = .ok (.istore_n 3, 1) := by decide +kernel
theorem dX0_lastStir_87 : decode cX0_lastStir 87 = .ok (.iinc 4 1, 3) := by decide +kernel
theorem dX0_lastStir_90 : decode cX0_lastStir 90 = .ok (.goto (-82), 3) := by decide +kernel
theorem dX0_lastStir_93 : decode cX0_lastStir 93 = .ok (.iload_n 3, 1) := by decide +kernel
theorem dX0_lastStir_94 : decode cX0_lastStir 94 = .ok (.ireturn, 1) := by decide +kernel
theorem dX1_init_0 : decode cX1_init 0 = .ok (.aload_n 0, 1) := by decide +kernel
theorem dX1_init_1 : decode cX1_init 1 = .ok (.invokespecial 3, 3) := by decide +kernel
theorem dX1_init_4 : decode cX1_init 4 = .ok (.aload_n 0, 1) := by decide +kernel
theorem dX1_init_5 : decode cX1_init 5 = .ok (.bipush 20, 2) := by decide +kernel
theorem dX1_init_7 : decode cX1_init 7 = .ok (.newarray .long, 2) := by decide +kernel
theorem dX1_init_9 : decode cX1_init 9 = .ok (.putfield 9, 3) := by decide +kernel
theorem dX1_init_12 : decode cX1_init 12 = .ok (.aload_n 0, 1) := by decide +kernel
theorem dX1_init_13 : decode cX1_init 13 = .ok (.bipush 20, 2) := by decide +kernel
theorem dX1_init_15 : decode cX1_init 15 = .ok (.newarray .int, 2) := by decide +kernel
theorem dX1_init_17 : decode cX1_init 17 = .ok (.putfield 15, 3) := by decide +kernel
theorem dX1_init_20 : decode cX1_init 20 = .ok (.aload_n 0, 1) := by decide +kernel
theorem dX1_init_21 : decode cX1_init 21 = .ok (.bipush 20, 2) := by decide +kernel
theorem dX1_init_23 : decode cX1_init 23 = .ok (.newarray .int, 2) := by decide +kernel
theorem dX1_init_25 : decode cX1_init 25 = .ok (.putfield 19, 3) := by decide +kernel
theorem dX1_init_28 : decode cX1_init 28 = .ok (.aload_n 0, 1) := by decide +kernel
theorem dX1_init_29 : decode cX1_init 29 = .ok (.iconst 0, 1) := by decide +kernel
theorem dX1_init_30 : decode cX1_init 30 = .ok (.putfield 22, 3) := by decide +kernel
theorem dX1_init_33 : decode cX1_init 33 = .ok (.aload_n 0, 1) := by decide +kernel
theorem dX1_init_34 : decode cX1_init 34 = .ok (.lconst 0, 1) := by decide +kernel
theorem dX1_init_35 : decode cX1_init 35 = .ok (.putfield 26, 3) := by decide +kernel
theorem dX1_init_38 : decode cX1_init 38 = .ok (.return_, 1) := by decide +kernel
theorem dX1_choose_0 : decode cX1_choose 0 = .ok (.aload_n 0, 1) := by decide +kernel
theorem dX1_choose_1 : decode cX1_choose 1 = .ok (.iconst 0, 1) := by decide +kernel
theorem dX1_choose_2 : decode cX1_choose 2 = .ok (.putfield 22, 3) := by decide +kernel
theorem dX1_choose_5 : decode cX1_choose 5 = .ok (.iconst 0, 1) := by decide +kernel
theorem dX1_choose_6 : decode cX1_choose 6 = .ok (.istore 5, 2) := by decide +kernel
theorem dX1_choose_8 : decode cX1_choose 8 = .ok (.iconst 0, 1) := by decide +kernel
theorem dX1_choose_9 : decode cX1_choose 9 = .ok (.istore 6, 2) := by decide +kernel
theorem dX1_choose_11 : decode cX1_choose 11 = .ok (.iload 6, 2) := by decide +kernel
theorem dX1_choose_13 : decode cX1_choose 13 = .ok (.bipush 20, 2) := by decide +kernel
theorem dX1_choose_15 : decode cX1_choose 15 = .ok (.if_icmp .ge 65, 3) := by decide +kernel
theorem dX1_choose_18 : decode cX1_choose 18 = .ok (.iload 6, 2) := by decide +kernel
theorem dX1_choose_20 : decode cX1_choose 20 = .ok (.aload_n 2, 1) := by decide +kernel
theorem dX1_choose_21 : decode cX1_choose 21 = .ok (.arraylength, 1) := by decide +kernel
theorem dX1_choose_22 : decode cX1_choose 22 = .ok (.if_icmp .ge 58, 3) := by decide +kernel
theorem dX1_choose_25 : decode cX1_choose 25 = .ok (.aload_n 1, 1) := by decide +kernel
theorem dX1_choose_26 : decode cX1_choose 26 = .ok (.iload 6, 2) := by decide +kernel
theorem dX1_choose_28 : decode cX1_choose 28 = .ok (.invokevirtual 30, 3) := by decide +kernel
theorem dX1_choose_31 : decode cX1_choose 31 = .ok (.ifCond .eq 31, 3) := by decide +kernel
theorem dX1_choose_34 : decode cX1_choose 34 = .ok (.aload_n 0, 1) := by decide +kernel
theorem dX1_choose_35 : decode cX1_choose 35 = .ok (.iload 5, 2) := by decide +kernel
theorem dX1_choose_37 : decode cX1_choose 37 = .ok (.iload 6, 2) := by decide +kernel
theorem dX1_choose_39 : decode cX1_choose 39 = .ok (.aload_n 1, 1) := by decide +kernel
theorem dX1_choose_40 : decode cX1_choose 40 = .ok (.iload 6, 2) := by decide +kernel
theorem dX1_choose_42 : decode cX1_choose 42 = .ok (.invokevirtual 36, 3) := by decide +kernel
theorem dX1_choose_45 : decode cX1_choose 45 = .ok (.aload_n 1, 1) := by decide +kernel
theorem dX1_choose_46 : decode cX1_choose 46 = .ok (.iload 6, 2) := by decide +kernel
theorem dX1_choose_48 : decode cX1_choose 48 = .ok (.invokevirtual 40, 3) := by decide +kernel
theorem dX1_choose_51 : decode cX1_choose 51 = .ok (.isub, 1) := by decide +kernel
theorem dX1_choose_52 : decode cX1_choose 52 = .ok (.aload_n 2, 1) := by decide +kernel
theorem dX1_choose_53 : decode cX1_choose 53 = .ok (.iload 6, 2) := by decide +kernel
theorem dX1_choose_55 : decode cX1_choose 55 = .ok (.iaload, 1) := by decide +kernel
theorem dX1_choose_56 : decode cX1_choose 56 = .ok (.invokevirtual 43, 3) := by decide +kernel
theorem dX1_choose_59 : decode cX1_choose 59 = .ok (.goto 15, 3) := by decide +kernel
theorem dX1_choose_62 : decode cX1_choose 62 = .ok (.aload_n 0, 1) := by decide +kernel
theorem dX1_choose_63 : decode cX1_choose 63 = .ok (.iload 5, 2) := by decide +kernel
theorem dX1_choose_65 : decode cX1_choose 65 = .ok (.invokevirtual 47, 3) := by decide +kernel
theorem dX1_choose_68 : decode cX1_choose 68 = .ok (.aload_n 0, 1) := by decide +kernel
theorem dX1_choose_69 : decode cX1_choose 69 = .ok (.getfield 22, 3) := by decide +kernel
theorem dX1_choose_72 : decode cX1_choose 72 = .ok (.istore 5, 2) := by decide +kernel
theorem dX1_choose_74 : decode cX1_choose 74 = .ok (.iinc 6 1, 3) := by decide +kernel
theorem dX1_choose_77 : decode cX1_choose 77 = .ok (.goto (-66), 3) := by decide +kernel
theorem dX1_choose_80 : decode cX1_choose 80 = .ok (.aload_n 0, 1) := by decide +kernel
theorem dX1_choose_81 : decode cX1_choose 81 = .ok (.iload 5, 2) := by decide +kernel
theorem dX1_choose_83 : decode cX1_choose 83 = .ok (.invokevirtual 47, 3) := by decide +kernel
theorem dX1_choose_86 : decode cX1_choose 86 = .ok (.aload_n 0, 1) := by decide +kernel
theorem dX1_choose_87 : decode cX1_choose 87 = .ok (.lconst 0, 1) := by decide +kernel
theorem dX1_choose_88 : decode cX1_choose 88 = .ok (.putfield 26, 3) := by decide +kernel
theorem dX1_choose_91 : decode cX1_choose 91 = .ok (.aload_n 0, 1) := by decide +kernel
theorem dX1_choose_92 : decode cX1_choose 92 = .ok (.iconst 0, 1) := by decide +kernel
theorem dX1_choose_93 : decode cX1_choose 93 = .ok (.iload_n 3, 1) := by decide +kernel
theorem dX1_choose_94 : decode cX1_choose 94 = .ok (.iload 4, 2) := by decide +kernel
theorem dX1_choose_96 : decode cX1_choose 96 = .ok (.lconst 0, 1) := by decide +kernel
theorem dX1_choose_97 : decode cX1_choose 97 = .ok (.invokevirtual 51, 3) := by decide +kernel
theorem dX1_choose_100 : decode cX1_choose 100 = .ok (.return_, 1) := by decide +kernel
theorem dX1_chosenGain_0 : decode cX1_chosenGain 0 = .ok (.aload_n 0, 1) := by decide +kernel
theorem dX1_chosenGain_1 : decode cX1_chosenGain 1 = .ok (.getfield 26, 3) := by decide +kernel
theorem dX1_chosenGain_4 : decode cX1_chosenGain 4 = .ok (.ldc2_w 55, 3) := by decide +kernel
theorem dX1_chosenGain_7 : decode cX1_chosenGain 7 = .ok (.ladd, 1) := by decide +kernel
theorem dX1_chosenGain_8 : decode cX1_chosenGain 8 = .ok (.lconst 1, 1) := by decide +kernel
theorem dX1_chosenGain_9 : decode cX1_chosenGain 9 = .ok (.lsub, 1) := by decide +kernel
theorem dX1_chosenGain_10 : decode cX1_chosenGain 10 = .ok (.bipush 31, 2) := by decide +kernel
theorem dX1_chosenGain_12 : decode cX1_chosenGain 12 = .ok (.lshr, 1) := by decide +kernel
theorem dX1_chosenGain_13 : decode cX1_chosenGain 13 = .ok (.l2i, 1) := by decide +kernel
theorem dX1_chosenGain_14 : decode cX1_chosenGain 14 = .ok (.ireturn, 1) := by decide +kernel
theorem dX1_chosenCost_0 : decode cX1_chosenCost 0 = .ok (.aload_n 0, 1) := by decide +kernel
theorem dX1_chosenCost_1 : decode cX1_chosenCost 1 = .ok (.invokevirtual 57, 3) := by decide +kernel
theorem dX1_chosenCost_4 : decode cX1_chosenCost 4 = .ok (.bipush 20, 2) := by decide +kernel
theorem dX1_chosenCost_6 : decode cX1_chosenCost 6 = .ok (.lshr, 1) := by decide +kernel
theorem dX1_chosenCost_7 : decode cX1_chosenCost 7 = .ok (.l2i, 1) := by decide +kernel
theorem dX1_chosenCost_8 : decode cX1_chosenCost 8 = .ok (.ireturn, 1) := by decide +kernel
theorem dX1_chosenSet_0 : decode cX1_chosenSet 0 = .ok (.aload_n 0, 1) := by decide +kernel
theorem dX1_chosenSet_1 : decode cX1_chosenSet 1 = .ok (.invokevirtual 57, 3) := by decide +kernel
theorem dX1_chosenSet_4 : decode cX1_chosenSet 4 = .ok (.ldc2_w 61, 3) := by decide +kernel
theorem dX1_chosenSet_7 : decode cX1_chosenSet 7 = .ok (.land, 1) := by decide +kernel
theorem dX1_chosenSet_8 : decode cX1_chosenSet 8 = .ok (.l2i, 1) := by decide +kernel
theorem dX1_chosenSet_9 : decode cX1_chosenSet 9 = .ok (.ireturn, 1) := by decide +kernel
theorem dX1_takenOff_0 : decode cX1_takenOff 0 = .ok (.aload_n 0, 1) := by decide +kernel
theorem dX1_takenOff_1 : decode cX1_takenOff 1 = .ok (.invokevirtual 63, 3) := by decide +kernel
theorem dX1_takenOff_4 : decode cX1_takenOff 4 = .ok (.i2l, 1) := by decide +kernel
theorem dX1_takenOff_5 : decode cX1_takenOff 5 = .ok (.bipush 31, 2) := by decide +kernel
theorem dX1_takenOff_7 : decode cX1_takenOff 7 = .ok (.lshl, 1) := by decide +kernel
theorem dX1_takenOff_8 : decode cX1_takenOff 8 = .ok (.aload_n 0, 1) := by decide +kernel
theorem dX1_takenOff_9 : decode cX1_takenOff 9 = .ok (.getfield 26, 3) := by decide +kernel
theorem dX1_takenOff_12 : decode cX1_takenOff 12 = .ok (.lsub, 1) := by decide +kernel
theorem dX1_takenOff_13 : decode cX1_takenOff 13 = .ok (.lreturn, 1) := by decide +kernel
theorem dX1_addGap_0 : decode cX1_addGap 0 = .ok (.iload_n 3, 1) := by decide +kernel
theorem dX1_addGap_1 : decode cX1_addGap 1 = .ok (.ifCond .le 15, 3) := by decide +kernel
theorem dX1_addGap_4 : decode cX1_addGap 4 = .ok (.aload_n 0, 1) := by decide +kernel
theorem dX1_addGap_5 : decode cX1_addGap 5 = .ok (.getfield 22, 3) := by decide +kernel
theorem dX1_addGap_8 : decode cX1_addGap 8 = .ok (.bipush 20, 2) := by decide +kernel
theorem dX1_addGap_10 : decode cX1_addGap 10 = .ok (.invokestatic 67, 3) := by decide +kernel
theorem dX1_addGap_13 : decode cX1_addGap 13 = .ok (.ifCond .ne 4, 3) := by decide +kernel
theorem dX1_addGap_16 : decode cX1_addGap 16 = .ok (.return_, 1) := by decide +kernel
theorem dX1_addGap_17 : decode cX1_addGap 17 = .ok (.aload_n 0, 1) := by decide +kernel
theorem dX1_addGap_18 : decode cX1_addGap 18 = .ok (.getfield 22, 3) := by decide +kernel
theorem dX1_addGap_21 : decode cX1_addGap 21 = .ok (.istore 5, 2) := by decide +kernel
theorem dX1_addGap_23 : decode cX1_addGap 23 = .ok (.iload 5, 2) := by decide +kernel
theorem dX1_addGap_25 : decode cX1_addGap 25 = .ok (.iload_n 1, 1) := by decide +kernel
theorem dX1_addGap_26 : decode cX1_addGap 26 = .ok (.if_icmp .le 60, 3) := by decide +kernel
theorem dX1_addGap_29 : decode cX1_addGap 29 = .ok (.iload 5, 2) := by decide +kernel
theorem dX1_addGap_31 : decode cX1_addGap 31 = .ok (.ifCond .le 55, 3) := by decide +kernel
theorem dX1_addGap_34 : decode cX1_addGap 34 = .ok (.aload_n 0, 1) := by decide +kernel
theorem dX1_addGap_35 : decode cX1_addGap 35 = .ok (.getfield 15, 3) := by decide +kernel
theorem dX1_addGap_38 : decode cX1_addGap 38 = .ok (.iload 5, 2) := by decide +kernel
theorem dX1_addGap_40 : decode cX1_addGap 40 = .ok (.iconst 1, 1) := by decide +kernel
theorem dX1_addGap_41 : decode cX1_addGap 41 = .ok (.isub, 1) := by decide +kernel
theorem dX1_addGap_42 : decode cX1_addGap 42 = .ok (.iaload, 1) := by decide +kernel
theorem dX1_addGap_43 : decode cX1_addGap 43 = .ok (.iload 4, 2) := by decide +kernel
theorem dX1_addGap_45 : decode cX1_addGap 45 = .ok (.if_icmp .le 41, 3) := by decide +kernel
theorem dX1_addGap_48 : decode cX1_addGap 48 = .ok (.aload_n 0, 1) := by decide +kernel
theorem dX1_addGap_49 : decode cX1_addGap 49 = .ok (.getfield 15, 3) := by decide +kernel
theorem dX1_addGap_52 : decode cX1_addGap 52 = .ok (.iload 5, 2) := by decide +kernel
theorem dX1_addGap_54 : decode cX1_addGap 54 = .ok (.aload_n 0, 1) := by decide +kernel
theorem dX1_addGap_55 : decode cX1_addGap 55 = .ok (.getfield 15, 3) := by decide +kernel
theorem dX1_addGap_58 : decode cX1_addGap 58 = .ok (.iload 5, 2) := by decide +kernel
theorem dX1_addGap_60 : decode cX1_addGap 60 = .ok (.iconst 1, 1) := by decide +kernel
theorem dX1_addGap_61 : decode cX1_addGap 61 = .ok (.isub, 1) := by decide +kernel
theorem dX1_addGap_62 : decode cX1_addGap 62 = .ok (.iaload, 1) := by decide +kernel
theorem dX1_addGap_63 : decode cX1_addGap 63 = .ok (.iastore, 1) := by decide +kernel
theorem dX1_addGap_64 : decode cX1_addGap 64 = .ok (.aload_n 0, 1) := by decide +kernel
theorem dX1_addGap_65 : decode cX1_addGap 65 = .ok (.getfield 9, 3) := by decide +kernel
theorem dX1_addGap_68 : decode cX1_addGap 68 = .ok (.iload 5, 2) := by decide +kernel
theorem dX1_addGap_70 : decode cX1_addGap 70 = .ok (.aload_n 0, 1) := by decide +kernel
theorem dX1_addGap_71 : decode cX1_addGap 71 = .ok (.getfield 9, 3) := by decide +kernel
theorem dX1_addGap_74 : decode cX1_addGap 74 = .ok (.iload 5, 2) := by decide +kernel
theorem dX1_addGap_76 : decode cX1_addGap 76 = .ok (.iconst 1, 1) := by decide +kernel
theorem dX1_addGap_77 : decode cX1_addGap 77 = .ok (.isub, 1) := by decide +kernel
theorem dX1_addGap_78 : decode cX1_addGap 78 = .ok (.laload, 1) := by decide +kernel
theorem dX1_addGap_79 : decode cX1_addGap 79 = .ok (.lastore, 1) := by decide +kernel
theorem dX1_addGap_80 : decode cX1_addGap 80 = .ok (.iinc 5 (-1), 3) := by decide +kernel
theorem dX1_addGap_83 : decode cX1_addGap 83 = .ok (.goto (-60), 3) := by decide +kernel
theorem dX1_addGap_86 : decode cX1_addGap 86 = .ok (.aload_n 0, 1) := by decide +kernel
theorem dX1_addGap_87 : decode cX1_addGap 87 = .ok (.getfield 15, 3) := by decide +kernel
theorem dX1_addGap_90 : decode cX1_addGap 90 = .ok (.iload 5, 2) := by decide +kernel
theorem dX1_addGap_92 : decode cX1_addGap 92 = .ok (.iload 4, 2) := by decide +kernel
theorem dX1_addGap_94 : decode cX1_addGap 94 = .ok (.iastore, 1) := by decide +kernel
theorem dX1_addGap_95 : decode cX1_addGap 95 = .ok (.aload_n 0, 1) := by decide +kernel
theorem dX1_addGap_96 : decode cX1_addGap 96 = .ok (.getfield 9, 3) := by decide +kernel
theorem dX1_addGap_99 : decode cX1_addGap 99 = .ok (.iload 5, 2) := by decide +kernel
theorem dX1_addGap_101 : decode cX1_addGap 101 = .ok (.iload_n 3, 1) := by decide +kernel
theorem dX1_addGap_102 : decode cX1_addGap 102 = .ok (.i2l, 1) := by decide +kernel
theorem dX1_addGap_103 : decode cX1_addGap 103 = .ok (.bipush 31, 2) := by decide +kernel
theorem dX1_addGap_105 : decode cX1_addGap 105 = .ok (.lshl, 1) := by decide +kernel
theorem dX1_addGap_106 : decode cX1_addGap 106 = .ok (.iload 4, 2) := by decide +kernel
theorem dX1_addGap_108 : decode cX1_addGap 108 = .ok (.i2l, 1) := by decide +kernel
theorem dX1_addGap_109 : decode cX1_addGap 109 = .ok (.bipush 20, 2) := by decide +kernel
theorem dX1_addGap_111 : decode cX1_addGap 111 = .ok (.lshl, 1) := by decide +kernel
theorem dX1_addGap_112 : decode cX1_addGap 112 = .ok (.lsub, 1) := by decide +kernel
theorem dX1_addGap_113 : decode cX1_addGap 113 = .ok (.lconst 1, 1) := by decide +kernel
theorem dX1_addGap_114 : decode cX1_addGap 114 = .ok (.iload_n 2, 1) := by decide +kernel
theorem dX1_addGap_115 : decode cX1_addGap 115 = .ok (.lshl, 1) := by decide +kernel
theorem dX1_addGap_116 : decode cX1_addGap 116 = .ok (.lsub, 1) := by decide +kernel
theorem dX1_addGap_117 : decode cX1_addGap 117 = .ok (.lastore, 1) := by decide +kernel
theorem dX1_addGap_118 : decode cX1_addGap 118 = .ok (.aload_n 0, 1) := by decide +kernel
theorem dX1_addGap_119 : decode cX1_addGap 119 = .ok (.dup, 1) := by decide +kernel
theorem dX1_addGap_120 : decode cX1_addGap 120 = .ok (.getfield 22, 3) := by decide +kernel
theorem dX1_addGap_123 : decode cX1_addGap 123 = .ok (.iconst 1, 1) := by decide +kernel
theorem dX1_addGap_124 : decode cX1_addGap 124 = .ok (.iadd, 1) := by decide +kernel
theorem dX1_addGap_125 : decode cX1_addGap 125 = .ok (.putfield 22, 3) := by decide +kernel
theorem dX1_addGap_128 : decode cX1_addGap 128 = .ok (.return_, 1) := by decide +kernel
theorem dX1_closeRun_0 : decode cX1_closeRun 0 = .ok (.iload_n 1, 1) := by decide +kernel
theorem dX1_closeRun_1 : decode cX1_closeRun 1 = .ok (.istore_n 2, 1) := by decide +kernel
theorem dX1_closeRun_2 : decode cX1_closeRun 2 = .ok (.iload_n 2, 1) := by decide +kernel
theorem dX1_closeRun_3 : decode cX1_closeRun 3 = .ok (.ifCond .lt 33, 3) := by decide +kernel
theorem dX1_closeRun_6 : decode cX1_closeRun 6 = .ok (.iload_n 2, 1) := by decide +kernel
theorem dX1_closeRun_7 : decode cX1_closeRun 7 = .ok (.aload_n 0, 1) := by decide +kernel
theorem dX1_closeRun_8 : decode cX1_closeRun 8 = .ok (.getfield 22, 3) := by decide +kernel
theorem dX1_closeRun_11 : decode cX1_closeRun 11 = .ok (.if_icmp .ge 25, 3) := by decide +kernel
theorem dX1_closeRun_14 : decode cX1_closeRun 14 = .ok (.iload_n 2, 1) := by decide +kernel
theorem dX1_closeRun_15 : decode cX1_closeRun 15 = .ok (.bipush 20, 2) := by decide +kernel
theorem dX1_closeRun_17 : decode cX1_closeRun 17 = .ok (.if_icmp .ge 19, 3) := by decide +kernel
theorem dX1_closeRun_20 : decode cX1_closeRun 20 = .ok (.aload_n 0, 1) := by decide +kernel
theorem dX1_closeRun_21 : decode cX1_closeRun 21 = .ok (.getfield 19, 3) := by decide +kernel
theorem dX1_closeRun_24 : decode cX1_closeRun 24 = .ok (.iload_n 2, 1) := by decide +kernel
theorem dX1_closeRun_25 : decode cX1_closeRun 25 = .ok (.aload_n 0, 1) := by decide +kernel
theorem dX1_closeRun_26 : decode cX1_closeRun 26 = .ok (.getfield 22, 3) := by decide +kernel
theorem dX1_closeRun_29 : decode cX1_closeRun 29 = .ok (.iastore, 1) := by decide +kernel
theorem dX1_closeRun_30 : decode cX1_closeRun 30 = .ok (.iinc 2 1, 3) := by decide +kernel
theorem dX1_closeRun_33 : decode cX1_closeRun 33 = .ok (.goto (-31), 3) := by decide +kernel
theorem dX1_closeRun_36 : decode cX1_closeRun 36 = .ok (.return_, 1) := by decide +kernel
theorem dX1_search_0 : decode cX1_search 0 = .ok (.aload_n 0, 1) := by decide +kernel
theorem dX1_search_1 : decode cX1_search 1 = .ok (.aload_n 0, 1) := by decide +kernel
theorem dX1_search_2 : decode cX1_search 2 = .ok (.getfield 26, 3) := by decide +kernel
theorem dX1_search_5 : decode cX1_search 5 = .ok (.lload 4, 2) := by decide +kernel
theorem dX1_search_7 : decode cX1_search 7 = .ok (.invokestatic 71, 3) := by decide +kernel
theorem dX1_search_10 : decode cX1_search 10 = .ok (.putfield 26, 3) := by decide +kernel
theorem dX1_search_13 : decode cX1_search 13 = .ok (.iload_n 2, 1) := by decide +kernel
theorem dX1_search_14 : decode cX1_search 14 = .ok (.ifCond .le 21, 3) := by decide +kernel
theorem dX1_search_17 : decode cX1_search 17 = .ok (.iload_n 1, 1) := by decide +kernel
theorem dX1_search_18 : decode cX1_search 18 = .ok (.ifCond .lt 17, 3) := by decide +kernel
theorem dX1_search_21 : decode cX1_search 21 = .ok (.iload_n 1, 1) := by decide +kernel
theorem dX1_search_22 : decode cX1_search 22 = .ok (.aload_n 0, 1) := by decide +kernel
theorem dX1_search_23 : decode cX1_search 23 = .ok (.getfield 22, 3) := by decide +kernel
theorem dX1_search_26 : decode cX1_search 26 = .ok (.if_icmp .ge 9, 3) := by decide +kernel
theorem dX1_search_29 : decode cX1_search 29 = .ok (.iload_n 1, 1) := by decide +kernel
theorem dX1_search_30 : decode cX1_search 30 = .ok (.bipush 20, 2) := by decide +kernel
theorem dX1_search_32 : decode cX1_search 32 = .ok (.if_icmp .lt 4, 3) := by decide +kernel
theorem dX1_search_35 : decode cX1_search 35 = .ok (.return_, 1) := by decide +kernel
theorem dX1_search_36 : decode cX1_search 36 = .ok (.aload_n 0, 1) := by decide +kernel
theorem dX1_search_37 : decode cX1_search 37 = .ok (.getfield 15, 3) := by decide +kernel
theorem dX1_search_40 : decode cX1_search 40 = .ok (.iload_n 1, 1) := by decide +kernel
theorem dX1_search_41 : decode cX1_search 41 = .ok (.iaload, 1) := by decide +kernel
theorem dX1_search_42 : decode cX1_search 42 = .ok (.iload_n 3, 1) := by decide +kernel
theorem dX1_search_43 : decode cX1_search 43 = .ok (.if_icmp .gt 30, 3) := by decide +kernel
theorem dX1_search_46 : decode cX1_search 46 = .ok (.aload_n 0, 1) := by decide +kernel
theorem dX1_search_47 : decode cX1_search 47 = .ok (.iload_n 1, 1) := by decide +kernel
theorem dX1_search_48 : decode cX1_search 48 = .ok (.iconst 1, 1) := by decide +kernel
theorem dX1_search_49 : decode cX1_search 49 = .ok (.iadd, 1) := by decide +kernel
theorem dX1_search_50 : decode cX1_search 50 = .ok (.iload_n 2, 1) := by decide +kernel
theorem dX1_search_51 : decode cX1_search 51 = .ok (.iconst 1, 1) := by decide +kernel
theorem dX1_search_52 : decode cX1_search 52 = .ok (.isub, 1) := by decide +kernel
theorem dX1_search_53 : decode cX1_search 53 = .ok (.iload_n 3, 1) := by decide +kernel
theorem dX1_search_54 : decode cX1_search 54 = .ok (.aload_n 0, 1) := by decide +kernel
theorem dX1_search_55 : decode cX1_search 55 = .ok (.getfield 15, 3) := by decide +kernel
theorem dX1_search_58 : decode cX1_search 58 = .ok (.iload_n 1, 1) := by decide +kernel
theorem dX1_search_59 : decode cX1_search 59 = .ok (.iaload, 1) := by decide +kernel
theorem dX1_search_60 : decode cX1_search 60 = .ok (.isub, 1) := by decide +kernel
theorem dX1_search_61 : decode cX1_search 61 = .ok (.lload 4, 2) := by decide +kernel
theorem dX1_search_63 : decode cX1_search 63 = .ok (.aload_n 0, 1) := by decide +kernel
theorem dX1_search_64 : decode cX1_search 64 = .ok (.getfield 9, 3) := by decide +kernel
theorem dX1_search_67 : decode cX1_search 67 = .ok (.iload_n 1, 1) := by decide +kernel
theorem dX1_search_68 : decode cX1_search 68 = .ok (.laload, 1) := by decide +kernel
theorem dX1_search_69 : decode cX1_search 69 = .ok (.ladd, 1) := by decide +kernel
theorem dX1_search_70 : decode cX1_search 70 = .ok (.invokevirtual 51, 3) := by decide +kernel
theorem dX1_search_73 : decode cX1_search 73 = .ok (.aload_n 0, 1) := by decide +kernel
theorem dX1_search_74 : decode cX1_search 74 = .ok (.getfield 19, 3) := by decide +kernel
theorem dX1_search_77 : decode cX1_search 77 = .ok (.iload_n 1, 1) := by decide +kernel
theorem dX1_search_78 : decode cX1_search 78 = .ok (.iaload, 1) := by decide +kernel
theorem dX1_search_79 : decode cX1_search 79 = .ok (.iload_n 1, 1) := by decide +kernel
theorem dX1_search_80 : decode cX1_search 80 = .ok (.if_icmp .le 17, 3) := by decide +kernel
theorem dX1_search_83 : decode cX1_search 83 = .ok (.aload_n 0, 1) := by decide +kernel
theorem dX1_search_84 : decode cX1_search 84 = .ok (.aload_n 0, 1) := by decide +kernel
theorem dX1_search_85 : decode cX1_search 85 = .ok (.getfield 19, 3) := by decide +kernel
theorem dX1_search_88 : decode cX1_search 88 = .ok (.iload_n 1, 1) := by decide +kernel
theorem dX1_search_89 : decode cX1_search 89 = .ok (.iaload, 1) := by decide +kernel
theorem dX1_search_90 : decode cX1_search 90 = .ok (.iload_n 2, 1) := by decide +kernel
theorem dX1_search_91 : decode cX1_search 91 = .ok (.iload_n 3, 1) := by decide +kernel
theorem dX1_search_92 : decode cX1_search 92 = .ok (.lload 4, 2) := by decide +kernel
theorem dX1_search_94 : decode cX1_search 94 = .ok (.invokevirtual 51, 3) := by decide +kernel
theorem dX1_search_97 : decode cX1_search 97 = .ok (.return_, 1) := by decide +kernel
theorem dX2_init_0 : decode cX2_init 0 = .ok (.aload_n 0, 1) := by decide +kernel
theorem dX2_init_1 : decode cX2_init 1 = .ok (.invokespecial 1, 3) := by decide +kernel
theorem dX2_init_4 : decode cX2_init 4 = .ok (.aload_n 0, 1) := by decide +kernel
theorem dX2_init_5 : decode cX2_init 5 = .ok (.iconst 0, 1) := by decide +kernel
theorem dX2_init_6 : decode cX2_init 6 = .ok (.putfield 9, 3) := by decide +kernel
theorem dX2_init_9 : decode cX2_init 9 = .ok (.aload_n 0, 1) := by decide +kernel
theorem dX2_init_10 : decode cX2_init 10 = .ok (.lconst 0, 1) := by decide +kernel
theorem dX2_init_11 : decode cX2_init 11 = .ok (.putfield 13, 3) := by decide +kernel
theorem dX2_init_14 : decode cX2_init 14 = .ok (.aload_n 0, 1) := by decide +kernel
theorem dX2_init_15 : decode cX2_init 15 = .ok (.lconst 0, 1) := by decide +kernel
theorem dX2_init_16 : decode cX2_init 16 = .ok (.putfield 17, 3) := by decide +kernel
theorem dX2_init_19 : decode cX2_init 19 = .ok (.aload_n 0, 1) := by decide +kernel
theorem dX2_init_20 : decode cX2_init 20 = .ok (.aload_n 1, 1) := by decide +kernel
theorem dX2_init_21 : decode cX2_init 21 = .ok (.putfield 20, 3) := by decide +kernel
theorem dX2_init_24 : decode cX2_init 24 = .ok (.aload_n 0, 1) := by decide +kernel
theorem dX2_init_25 : decode cX2_init 25 = .ok (.aload_n 2, 1) := by decide +kernel
theorem dX2_init_26 : decode cX2_init 26 = .ok (.putfield 24, 3) := by decide +kernel
theorem dX2_init_29 : decode cX2_init 29 = .ok (.aload_n 0, 1) := by decide +kernel
theorem dX2_init_30 : decode cX2_init 30 = .ok (.iload_n 3, 1) := by decide +kernel
theorem dX2_init_31 : decode cX2_init 31 = .ok (.putfield 28, 3) := by decide +kernel
theorem dX2_init_34 : decode cX2_init 34 = .ok (.aload_n 0, 1) := by decide +kernel
theorem dX2_init_35 : decode cX2_init 35 = .ok (.iload 4, 2) := by decide +kernel
theorem dX2_init_37 : decode cX2_init 37 = .ok (.putfield 31, 3) := by decide +kernel
theorem dX2_init_40 : decode cX2_init 40 = .ok (.return_, 1) := by decide +kernel
theorem dX3_init_0 : decode cX3_init 0 = .ok (.aload_n 0, 1) := by decide +kernel
theorem dX3_init_1 : decode cX3_init 1 = .ok (.invokespecial 1, 3) := by decide +kernel
theorem dX3_init_4 : decode cX3_init 4 = .ok (.aload_n 0, 1) := by decide +kernel
theorem dX3_init_5 : decode cX3_init 5 = .ok (.iload_n 1, 1) := by decide +kernel
theorem dX3_init_6 : decode cX3_init 6 = .ok (.putfield 7, 3) := by decide +kernel
theorem dX3_init_9 : decode cX3_init 9 = .ok (.aload_n 0, 1) := by decide +kernel
theorem dX3_init_10 : decode cX3_init 10 = .ok (.iload_n 2, 1) := by decide +kernel
theorem dX3_init_11 : decode cX3_init 11 = .ok (.putfield 13, 3) := by decide +kernel
theorem dX3_init_14 : decode cX3_init 14 = .ok (.aload_n 0, 1) := by decide +kernel
theorem dX3_init_15 : decode cX3_init 15 = .ok (.iload_n 3, 1) := by decide +kernel
theorem dX3_init_16 : decode cX3_init 16 = .ok (.putfield 16, 3) := by decide +kernel
theorem dX3_init_19 : decode cX3_init 19 = .ok (.aload_n 0, 1) := by decide +kernel
theorem dX3_init_20 : decode cX3_init 20 = .ok (.iload 4, 2) := by decide +kernel
theorem dX3_init_22 : decode cX3_init 22 = .ok (.putfield 19, 3) := by decide +kernel
theorem dX3_init_25 : decode cX3_init 25 = .ok (.aload_n 0, 1) := by decide +kernel
theorem dX3_init_26 : decode cX3_init 26 = .ok (.iload 5, 2) := by decide +kernel
theorem dX3_init_28 : decode cX3_init 28 = .ok (.putfield 22, 3) := by decide +kernel
theorem dX3_init_31 : decode cX3_init 31 = .ok (.aload_n 0, 1) := by decide +kernel
theorem dX3_init_32 : decode cX3_init 32 = .ok (.iload 6, 2) := by decide +kernel
theorem dX3_init_34 : decode cX3_init 34 = .ok (.putfield 25, 3) := by decide +kernel
theorem dX3_init_37 : decode cX3_init 37 = .ok (.return_, 1) := by decide +kernel
theorem dX3_changed_0 : decode cX3_changed 0 = .ok (.aload_n 0, 1) := by decide +kernel
theorem dX3_changed_1 : decode cX3_changed 1 = .ok (.getfield 22, 3) := by decide +kernel
theorem dX3_changed_4 : decode cX3_changed 4 = .ok (.ifCond .le 21, 3) := by decide +kernel
theorem dX3_changed_7 : decode cX3_changed 7 = .ok (.lload_n 1, 1) := by decide +kernel
theorem dX3_changed_8 : decode cX3_changed 8 = .ok (.aload_n 0, 1) := by decide +kernel
theorem dX3_changed_9 : decode cX3_changed 9 = .ok (.getfield 19, 3) := by decide +kernel
theorem dX3_changed_12 : decode cX3_changed 12 = .ok (.i2l, 1) := by decide +kernel
theorem dX3_changed_13 : decode cX3_changed 13 = .ok (.lmul, 1) := by decide +kernel
theorem dX3_changed_14 : decode cX3_changed 14 = .ok (.aload_n 0, 1) := by decide +kernel
theorem dX3_changed_15 : decode cX3_changed 15 = .ok (.getfield 22, 3) := by decide +kernel
theorem dX3_changed_18 : decode cX3_changed 18 = .ok (.i2l, 1) := by decide +kernel
theorem dX3_changed_19 : decode cX3_changed 19 = .ok (.invokestatic 28, 3) := by decide +kernel
theorem dX3_changed_22 : decode cX3_changed 22 = .ok (.goto 4, 3) := by decide +kernel
theorem dX3_changed_25 : decode cX3_changed 25 = .ok (.lload_n 1, 1) := by decide +kernel
theorem dX3_changed_26 : decode cX3_changed 26 = .ok (.aload_n 0, 1) := by decide +kernel
theorem dX3_changed_27 : decode cX3_changed 27 = .ok (.getfield 25, 3) := by decide +kernel
theorem dX3_changed_30 : decode cX3_changed 30 = .ok (.i2l, 1) := by decide +kernel
theorem dX3_changed_31 : decode cX3_changed 31 = .ok (.ladd, 1) := by decide +kernel
theorem dX3_changed_32 : decode cX3_changed 32 = .ok (.lreturn, 1) := by decide +kernel
theorem dX3_comesAhead_0 : decode cX3_comesAhead 0 = .ok (.aload_n 0, 1) := by decide +kernel
theorem dX3_comesAhead_1 : decode cX3_comesAhead 1 = .ok (.getfield 13, 3) := by decide +kernel
theorem dX3_comesAhead_4 : decode cX3_comesAhead 4 = .ok (.aload_n 1, 1) := by decide +kernel
theorem dX3_comesAhead_5 : decode cX3_comesAhead 5 = .ok (.getfield 13, 3) := by decide +kernel
theorem dX3_comesAhead_8 : decode cX3_comesAhead 8 = .ok (.if_icmp .lt 30, 3) := by decide +kernel
theorem dX3_comesAhead_11 : decode cX3_comesAhead 11 = .ok (.aload_n 0, 1) := by decide +kernel
theorem dX3_comesAhead_12 : decode cX3_comesAhead 12 = .ok (.getfield 13, 3) := by decide +kernel
theorem dX3_comesAhead_15 : decode cX3_comesAhead 15 = .ok (.aload_n 1, 1) := by decide +kernel
theorem dX3_comesAhead_16 : decode cX3_comesAhead 16 = .ok (.getfield 13, 3) := by decide +kernel
theorem dX3_comesAhead_19 : decode cX3_comesAhead 19 = .ok (.if_icmp .ne 23, 3) := by decide +kernel
theorem dX3_comesAhead_22 : decode cX3_comesAhead 22 = .ok (.aload_n 0, 1) := by decide +kernel
theorem dX3_comesAhead_23 : decode cX3_comesAhead 23 = .ok (.getfield 7, 3) := by decide +kernel
theorem dX3_comesAhead_26 : decode cX3_comesAhead 26 = .ok (.iconst (-1), 1) := by decide +kernel
theorem dX3_comesAhead_27 : decode cX3_comesAhead 27 = .ok (.if_icmp .eq 11, 3) := by decide +kernel
theorem dX3_comesAhead_30 : decode cX3_comesAhead 30 = .ok (.aload_n 1, 1) := by decide +kernel
theorem dX3_comesAhead_31 : decode cX3_comesAhead 31 = .ok (.getfield 7, 3) := by decide +kernel
theorem dX3_comesAhead_34 : decode cX3_comesAhead 34 = .ok (.iconst (-1), 1) := by decide +kernel
theorem dX3_comesAhead_35 : decode cX3_comesAhead 35 = .ok (.if_icmp .eq 7, 3) := by decide +kernel
theorem dX3_comesAhead_38 : decode cX3_comesAhead 38 = .ok (.iconst 1, 1) := by decide +kernel
theorem dX3_comesAhead_39 : decode cX3_comesAhead 39 = .ok (.goto 4, 3) := by decide +kernel
theorem dX3_comesAhead_42 : decode cX3_comesAhead 42 = .ok (.iconst 0, 1) := by decide +kernel
theorem dX3_comesAhead_43 : decode cX3_comesAhead 43 = .ok (.ireturn, 1) := by decide +kernel
theorem dX4_init_0 : decode cX4_init 0 = .ok (.aload_n 0, 1) := by decide +kernel
theorem dX4_init_1 : decode cX4_init 1 = .ok (.invokespecial 3, 3) := by decide +kernel
theorem dX4_init_4 : decode cX4_init 4 = .ok (.aload_n 0, 1) := by decide +kernel
theorem dX4_init_5 : decode cX4_init 5 = .ok (.aconst_null, 1) := by decide +kernel
theorem dX4_init_6 : decode cX4_init 6 = .ok (.putfield 9, 3) := by decide +kernel
theorem dX4_init_9 : decode cX4_init 9 = .ok (.aload_n 0, 1) := by decide +kernel
theorem dX4_init_10 : decode cX4_init 10 = .ok (.iconst (-1), 1) := by decide +kernel
theorem dX4_init_11 : decode cX4_init 11 = .ok (.putfield 15, 3) := by decide +kernel
theorem dX4_init_14 : decode cX4_init 14 = .ok (.aload_n 0, 1) := by decide +kernel
theorem dX4_init_15 : decode cX4_init 15 = .ok (.bipush 20, 2) := by decide +kernel
theorem dX4_init_17 : decode cX4_init 17 = .ok (.newarray .int, 2) := by decide +kernel
theorem dX4_init_19 : decode cX4_init 19 = .ok (.putfield 19, 3) := by decide +kernel
theorem dX4_init_22 : decode cX4_init 22 = .ok (.aload_n 0, 1) := by decide +kernel
theorem dX4_init_23 : decode cX4_init 23 = .ok (.iload_n 1, 1) := by decide +kernel
theorem dX4_init_24 : decode cX4_init 24 = .ok (.putfield 23, 3) := by decide +kernel
theorem dX4_init_27 : decode cX4_init 27 = .ok (.aload_n 0, 1) := by decide +kernel
theorem dX4_init_28 : decode cX4_init 28 = .ok (.iload_n 2, 1) := by decide +kernel
theorem dX4_init_29 : decode cX4_init 29 = .ok (.putfield 26, 3) := by decide +kernel
theorem dX4_init_32 : decode cX4_init 32 = .ok (.iconst 0, 1) := by decide +kernel
theorem dX4_init_33 : decode cX4_init 33 = .ok (.istore_n 3, 1) := by decide +kernel
theorem dX4_init_34 : decode cX4_init 34 = .ok (.iload_n 3, 1) := by decide +kernel
theorem dX4_init_35 : decode cX4_init 35 = .ok (.aload_n 0, 1) := by decide +kernel
theorem dX4_init_36 : decode cX4_init 36 = .ok (.getfield 19, 3) := by decide +kernel
theorem dX4_init_39 : decode cX4_init 39 = .ok (.arraylength, 1) := by decide +kernel
theorem dX4_init_40 : decode cX4_init 40 = .ok (.if_icmp .ge 16, 3) := by decide +kernel
theorem dX4_init_43 : decode cX4_init 43 = .ok (.aload_n 0, 1) := by decide +kernel
theorem dX4_init_44 : decode cX4_init 44 = .ok (.getfield 19, 3) := by decide +kernel
theorem dX4_init_47 : decode cX4_init 47 = .ok (.iload_n 3, 1) := by decide +kernel
theorem dX4_init_48 : decode cX4_init 48 = .ok (.iconst (-1), 1) := by decide +kernel
theorem dX4_init_49 : decode cX4_init 49 = .ok (.iastore, 1) := by decide +kernel
theorem dX4_init_50 : decode cX4_init 50 = .ok (.iinc 3 1, 3) := by decide +kernel
theorem dX4_init_53 : decode cX4_init 53 = .ok (.goto (-19), 3) := by decide +kernel
theorem dX4_init_56 : decode cX4_init 56 = .ok (.return_, 1) := by decide +kernel
theorem dX4_isMergedBy_0 : decode cX4_isMergedBy 0 = .ok (.aload_n 0, 1) := by decide +kernel
theorem dX4_isMergedBy_1 : decode cX4_isMergedBy 1 = .ok (.getfield 9, 3) := by decide +kernel
theorem dX4_isMergedBy_4 : decode cX4_isMergedBy 4 = .ok (.ifnull 15, 3) := by decide +kernel
theorem dX4_isMergedBy_7 : decode cX4_isMergedBy 7 = .ok (.aload_n 0, 1) := by decide +kernel
theorem dX4_isMergedBy_8 : decode cX4_isMergedBy 8 = .ok (.getfield 15, 3) := by decide +kernel
theorem dX4_isMergedBy_11 : decode cX4_isMergedBy 11 = .ok (.iload_n 1, 1) := by decide +kernel
theorem dX4_isMergedBy_12 : decode cX4_isMergedBy 12 = .ok (.if_icmp .gt 7, 3) := by decide +kernel
theorem dX4_isMergedBy_15 : decode cX4_isMergedBy 15 = .ok (.iconst 1, 1) := by decide +kernel
theorem dX4_isMergedBy_16 : decode cX4_isMergedBy 16 = .ok (.goto 4, 3) := by decide +kernel
theorem dX4_isMergedBy_19 : decode cX4_isMergedBy 19 = .ok (.iconst 0, 1) := by decide +kernel
theorem dX4_isMergedBy_20 : decode cX4_isMergedBy 20 = .ok (.ireturn, 1) := by decide +kernel
theorem dX4_setFigure_0 : decode cX4_setFigure 0 = .ok (.iload_n 1, 1) := by decide +kernel
theorem dX4_setFigure_1 : decode cX4_setFigure 1 = .ok (.aload_n 0, 1) := by decide +kernel
theorem dX4_setFigure_2 : decode cX4_setFigure 2 = .ok (.getfield 19, 3) := by decide +kernel
theorem dX4_setFigure_5 : decode cX4_setFigure 5 = .ok (.arraylength, 1) := by decide +kernel
theorem dX4_setFigure_6 : decode cX4_setFigure 6 = .ok (.invokestatic 29, 3) := by decide +kernel
theorem dX4_setFigure_9 : decode cX4_setFigure 9 = .ok (.ifCond .ne 5, 3) := by decide +kernel
theorem dX4_setFigure_12 : decode cX4_setFigure 12 = .ok (.iconst 0, 1) := by decide +kernel
theorem dX4_setFigure_13 : decode cX4_setFigure 13 = .ok (.ireturn, 1) := by decide +kernel
theorem dX4_setFigure_14 : decode cX4_setFigure 14 = .ok (.aload_n 0, 1) := by decide +kernel
theorem dX4_setFigure_15 : decode cX4_setFigure 15 = .ok (.getfield 19, 3) := by decide +kernel
theorem dX4_setFigure_18 : decode cX4_setFigure 18 = .ok (.iload_n 1, 1) := by decide +kernel
theorem dX4_setFigure_19 : decode cX4_setFigure 19 = .ok (.iload_n 2, 1) := by decide +kernel
theorem dX4_setFigure_20 : decode cX4_setFigure 20 = .ok (.iastore, 1) := by decide +kernel
theorem dX4_setFigure_21 : decode cX4_setFigure 21 = .ok (.iconst 1, 1) := by decide +kernel
theorem dX4_setFigure_22 : decode cX4_setFigure 22 = .ok (.ireturn, 1) := by decide +kernel
theorem dX4_isGap_0 : decode cX4_isGap 0 = .ok (.iload_n 1, 1) := by decide +kernel
theorem dX4_isGap_1 : decode cX4_isGap 1 = .ok (.aload_n 0, 1) := by decide +kernel
theorem dX4_isGap_2 : decode cX4_isGap 2 = .ok (.getfield 19, 3) := by decide +kernel
theorem dX4_isGap_5 : decode cX4_isGap 5 = .ok (.arraylength, 1) := by decide +kernel
theorem dX4_isGap_6 : decode cX4_isGap 6 = .ok (.invokestatic 29, 3) := by decide +kernel
theorem dX4_isGap_9 : decode cX4_isGap 9 = .ok (.ifCond .eq 17, 3) := by decide +kernel
theorem dX4_isGap_12 : decode cX4_isGap 12 = .ok (.aload_n 0, 1) := by decide +kernel
theorem dX4_isGap_13 : decode cX4_isGap 13 = .ok (.getfield 19, 3) := by decide +kernel
theorem dX4_isGap_16 : decode cX4_isGap 16 = .ok (.iload_n 1, 1) := by decide +kernel
theorem dX4_isGap_17 : decode cX4_isGap 17 = .ok (.iaload, 1) := by decide +kernel
theorem dX4_isGap_18 : decode cX4_isGap 18 = .ok (.iconst (-1), 1) := by decide +kernel
theorem dX4_isGap_19 : decode cX4_isGap 19 = .ok (.if_icmp .ne 7, 3) := by decide +kernel
theorem dX4_isGap_22 : decode cX4_isGap 22 = .ok (.iconst 1, 1) := by decide +kernel
theorem dX4_isGap_23 : decode cX4_isGap 23 = .ok (.goto 4, 3) := by decide +kernel
theorem dX4_isGap_26 : decode cX4_isGap 26 = .ok (.iconst 0, 1) := by decide +kernel
theorem dX4_isGap_27 : decode cX4_isGap 27 = .ok (.ireturn, 1) := by decide +kernel
theorem dX4_leastIn_0 : decode cX4_leastIn 0 = .ok (.aload_n 0, 1) := by decide +kernel
theorem dX4_leastIn_1 : decode cX4_leastIn 1 = .ok (.iload_n 1, 1) := by decide +kernel
theorem dX4_leastIn_2 : decode cX4_leastIn 2 = .ok (.invokevirtual 33, 3) := by decide +kernel
theorem dX4_leastIn_5 : decode cX4_leastIn 5 = .ok (.istore_n 2, 1) := by decide +kernel
theorem dX4_leastIn_6 : decode cX4_leastIn 6 = .ok (.aload_n 0, 1) := by decide +kernel
theorem dX4_leastIn_7 : decode cX4_leastIn 7 = .ok (.iload_n 1, 1) := by decide +kernel
theorem dX4_leastIn_8 : decode cX4_leastIn 8 = .ok (.invokevirtual 37, 3) := by decide +kernel
theorem dX4_leastIn_11 : decode cX4_leastIn 11 = .ok (.istore_n 3, 1) := by decide +kernel
theorem dX4_leastIn_12 : decode cX4_leastIn 12 = .ok (.iload_n 2, 1) := by decide +kernel
theorem dX4_leastIn_13 : decode cX4_leastIn 13 = .ok (.iconst (-1), 1) := by decide +kernel
theorem dX4_leastIn_14 : decode cX4_leastIn 14 = .ok (.if_icmp .eq 8, 3) := by decide +kernel
theorem dX4_leastIn_17 : decode cX4_leastIn 17 = .ok (.iload_n 3, 1) := by decide +kernel
theorem dX4_leastIn_18 : decode cX4_leastIn 18 = .ok (.iconst (-1), 1) := by decide +kernel
theorem dX4_leastIn_19 : decode cX4_leastIn 19 = .ok (.if_icmp .ne 7, 3) := by decide +kernel
theorem dX4_leastIn_22 : decode cX4_leastIn 22 = .ok (.iconst 0, 1) := by decide +kernel
theorem dX4_leastIn_23 : decode cX4_leastIn 23 = .ok (.goto 8, 3) := by decide +kernel
theorem dX4_leastIn_26 : decode cX4_leastIn 26 = .ok (.iload_n 2, 1) := by decide +kernel
theorem dX4_leastIn_27 : decode cX4_leastIn 27 = .ok (.iload_n 3, 1) := by decide +kernel
theorem dX4_leastIn_28 : decode cX4_leastIn 28 = .ok (.invokestatic 40, 3) := by decide +kernel
theorem dX4_leastIn_31 : decode cX4_leastIn 31 = .ok (.ireturn, 1) := by decide +kernel
theorem dX4_greatestIn_0 : decode cX4_greatestIn 0 = .ok (.iconst 0, 1) := by decide +kernel
theorem dX4_greatestIn_1 : decode cX4_greatestIn 1 = .ok (.aload_n 0, 1) := by decide +kernel
theorem dX4_greatestIn_2 : decode cX4_greatestIn 2 = .ok (.iload_n 1, 1) := by decide +kernel
theorem dX4_greatestIn_3 : decode cX4_greatestIn 3 = .ok (.invokevirtual 33, 3) := by decide +kernel
theorem dX4_greatestIn_6 : decode cX4_greatestIn 6 = .ok (.aload_n 0, 1) := by decide +kernel
theorem dX4_greatestIn_7 : decode cX4_greatestIn 7 = .ok (.iload_n 1, 1) := by decide +kernel
theorem dX4_greatestIn_8 : decode cX4_greatestIn 8 = .ok (.invokevirtual 37, 3) := by decide +kernel
theorem dX4_greatestIn_11 : decode cX4_greatestIn 11 = .ok (.invokestatic 46, 3) := by decide +kernel
theorem dX4_greatestIn_14 : decode cX4_greatestIn 14 = .ok (.invokestatic 46, 3) := by decide +kernel
theorem dX4_greatestIn_17 : decode cX4_greatestIn 17 = .ok (.ireturn, 1) := by decide +kernel
theorem dX4_figureAhead_0 : decode cX4_figureAhead 0 = .ok (.iload_n 1, 1) := by decide +kernel
theorem dX4_figureAhead_1 : decode cX4_figureAhead 1 = .ok (.istore_n 2, 1) := by decide +kernel
theorem dX4_figureAhead_2 : decode cX4_figureAhead 2 = .ok (.iload_n 2, 1) := by decide +kernel
theorem dX4_figureAhead_3 : decode cX4_figureAhead 3 = .ok (.ifCond .lt 35, 3) := by decide +kernel
theorem dX4_figureAhead_6 : decode cX4_figureAhead 6 = .ok (.iload_n 2, 1) := by decide +kernel
theorem dX4_figureAhead_7 : decode cX4_figureAhead 7 = .ok (.aload_n 0, 1) := by decide +kernel
theorem dX4_figureAhead_8 : decode cX4_figureAhead 8 = .ok (.getfield 19, 3) := by decide +kernel
theorem dX4_figureAhead_11 : decode cX4_figureAhead 11 = .ok (.arraylength, 1) := by decide +kernel
theorem dX4_figureAhead_12 : decode cX4_figureAhead 12 = .ok (.if_icmp .ge 26, 3) := by decide +kernel
theorem dX4_figureAhead_15 : decode cX4_figureAhead 15 = .ok (.aload_n 0, 1) := by decide +kernel
theorem dX4_figureAhead_16 : decode cX4_figureAhead 16 = .ok (.getfield 19, 3) := by decide +kernel
theorem dX4_figureAhead_19 : decode cX4_figureAhead 19 = .ok (.iload_n 2, 1) := by decide +kernel
theorem dX4_figureAhead_20 : decode cX4_figureAhead 20 = .ok (.iaload, 1) := by decide +kernel
theorem dX4_figureAhead_21 : decode cX4_figureAhead 21 = .ok (.iconst (-1), 1) := by decide +kernel
theorem dX4_figureAhead_22 : decode cX4_figureAhead 22 = .ok (.if_icmp .eq 10, 3) := by decide +kernel
theorem dX4_figureAhead_25 : decode cX4_figureAhead 25 = .ok (.aload_n 0, 1) := by decide +kernel
theorem dX4_figureAhead_26 : decode cX4_figureAhead 26 = .ok (.getfield 19, 3) := by decide +kernel
theorem dX4_figureAhead_29 : decode cX4_figureAhead 29 = .ok (.iload_n 2, 1) := by decide +kernel
theorem dX4_figureAhead_30 : decode cX4_figureAhead 30 = .ok (.iaload, 1) := by decide +kernel
theorem dX4_figureAhead_31 : decode cX4_figureAhead 31 = .ok (.ireturn, 1) := by decide +kernel
theorem dX4_figureAhead_32 : decode cX4_figureAhead 32 = .ok (.iinc 2 (-1), 3) := by decide +kernel
theorem dX4_figureAhead_35 : decode cX4_figureAhead 35 = .ok (.goto (-33), 3) := by decide +kernel
theorem dX4_figureAhead_38 : decode cX4_figureAhead 38 = .ok (.iconst (-1), 1) := by decide +kernel
theorem dX4_figureAhead_39 : decode cX4_figureAhead 39 = .ok (.ireturn, 1) := by decide +kernel
theorem dX4_figureBehind_0 : decode cX4_figureBehind 0 = .ok (.iload_n 1, 1) := by decide +kernel
theorem dX4_figureBehind_1 : decode cX4_figureBehind 1 = .ok (.istore_n 2, 1) := by decide +kernel
theorem dX4_figureBehind_2 : decode cX4_figureBehind 2 = .ok (.iload_n 2, 1) := by decide +kernel
theorem dX4_figureBehind_3 : decode cX4_figureBehind 3 = .ok (.ifCond .lt 35, 3) := by decide +kernel
theorem dX4_figureBehind_6 : decode cX4_figureBehind 6 = .ok (.iload_n 2, 1) := by decide +kernel
theorem dX4_figureBehind_7 : decode cX4_figureBehind 7 = .ok (.aload_n 0, 1) := by decide +kernel
theorem dX4_figureBehind_8 : decode cX4_figureBehind 8 = .ok (.getfield 19, 3) := by decide +kernel
theorem dX4_figureBehind_11 : decode cX4_figureBehind 11 = .ok (.arraylength, 1) := by decide +kernel
theorem dX4_figureBehind_12 : decode cX4_figureBehind 12 = .ok (.if_icmp .ge 26, 3) := by decide +kernel
theorem dX4_figureBehind_15 : decode cX4_figureBehind 15 = .ok (.aload_n 0, 1) := by decide +kernel
theorem dX4_figureBehind_16 : decode cX4_figureBehind 16 = .ok (.getfield 19, 3) := by decide +kernel
theorem dX4_figureBehind_19 : decode cX4_figureBehind 19 = .ok (.iload_n 2, 1) := by decide +kernel
theorem dX4_figureBehind_20 : decode cX4_figureBehind 20 = .ok (.iaload, 1) := by decide +kernel
theorem dX4_figureBehind_21 : decode cX4_figureBehind 21 = .ok (.iconst (-1), 1) := by decide +kernel
theorem dX4_figureBehind_22 : decode cX4_figureBehind 22 = .ok (.if_icmp .eq 10, 3) := by decide +kernel
theorem dX4_figureBehind_25 : decode cX4_figureBehind 25 = .ok (.aload_n 0, 1) := by decide +kernel
theorem dX4_figureBehind_26 : decode cX4_figureBehind 26 = .ok (.getfield 19, 3) := by decide +kernel
theorem dX4_figureBehind_29 : decode cX4_figureBehind 29 = .ok (.iload_n 2, 1) := by decide +kernel
theorem dX4_figureBehind_30 : decode cX4_figureBehind 30 = .ok (.iaload, 1) := by decide +kernel
theorem dX4_figureBehind_31 : decode cX4_figureBehind 31 = .ok (.ireturn, 1) := by decide +kernel
theorem dX4_figureBehind_32 : decode cX4_figureBehind 32 = .ok (.iinc 2 1, 3) := by decide +kernel
theorem dX4_figureBehind_35 : decode cX4_figureBehind 35 = .ok (.goto (-33), 3) := by decide +kernel
theorem dX4_figureBehind_38 : decode cX4_figureBehind 38 = .ok (.iconst (-1), 1) := by decide +kernel
theorem dX4_figureBehind_39 : decode cX4_figureBehind 39 = .ok (.ireturn, 1) := by decide +kernel
theorem dX5_init_0 : decode cX5_init 0 = .ok (.aload_n 0, 1) := by decide +kernel
theorem dX5_init_1 : decode cX5_init 1 = .ok (.invokespecial 3, 3) := by decide +kernel
theorem dX5_init_4 : decode cX5_init 4 = .ok (.aload_n 0, 1) := by decide +kernel
theorem dX5_init_5 : decode cX5_init 5 = .ok (.bipush 8, 2) := by decide +kernel
theorem dX5_init_7 : decode cX5_init 7 = .ok (.anewarray 9, 3) := by decide +kernel
theorem dX5_init_10 : decode cX5_init 10 = .ok (.putfield 11, 3) := by decide +kernel
theorem dX5_init_13 : decode cX5_init 13 = .ok (.aload_n 0, 1) := by decide +kernel
theorem dX5_init_14 : decode cX5_init 14 = .ok (.iconst 0, 1) := by decide +kernel
theorem dX5_init_15 : decode cX5_init 15 = .ok (.putfield 17, 3) := by decide +kernel
theorem dX5_init_18 : decode cX5_init 18 = .ok (.aload_n 0, 1) := by decide +kernel
theorem dX5_init_19 : decode cX5_init 19 = .ok (.sipush 256, 3) := by decide +kernel
theorem dX5_init_22 : decode cX5_init 22 = .ok (.newarray .int, 2) := by decide +kernel
theorem dX5_init_24 : decode cX5_init 24 = .ok (.putfield 21, 3) := by decide +kernel
theorem dX5_init_27 : decode cX5_init 27 = .ok (.aload_n 0, 1) := by decide +kernel
theorem dX5_init_28 : decode cX5_init 28 = .ok (.sipush 256, 3) := by decide +kernel
theorem dX5_init_31 : decode cX5_init 31 = .ok (.newarray .int, 2) := by decide +kernel
theorem dX5_init_33 : decode cX5_init 33 = .ok (.putfield 25, 3) := by decide +kernel
theorem dX5_init_36 : decode cX5_init 36 = .ok (.aload_n 0, 1) := by decide +kernel
theorem dX5_init_37 : decode cX5_init 37 = .ok (.sipush 256, 3) := by decide +kernel
theorem dX5_init_40 : decode cX5_init 40 = .ok (.newarray .int, 2) := by decide +kernel
theorem dX5_init_42 : decode cX5_init 42 = .ok (.putfield 28, 3) := by decide +kernel
theorem dX5_init_45 : decode cX5_init 45 = .ok (.return_, 1) := by decide +kernel
theorem dX5_clear_0 : decode cX5_clear 0 = .ok (.aload_n 0, 1) := by decide +kernel
theorem dX5_clear_1 : decode cX5_clear 1 = .ok (.iconst 0, 1) := by decide +kernel
theorem dX5_clear_2 : decode cX5_clear 2 = .ok (.putfield 17, 3) := by decide +kernel
theorem dX5_clear_5 : decode cX5_clear 5 = .ok (.return_, 1) := by decide +kernel
theorem dX5_seat_0 : decode cX5_seat 0 = .ok (.aload_n 0, 1) := by decide +kernel
theorem dX5_seat_1 : decode cX5_seat 1 = .ok (.getfield 17, 3) := by decide +kernel
theorem dX5_seat_4 : decode cX5_seat 4 = .ok (.aload_n 0, 1) := by decide +kernel
theorem dX5_seat_5 : decode cX5_seat 5 = .ok (.getfield 11, 3) := by decide +kernel
theorem dX5_seat_8 : decode cX5_seat 8 = .ok (.arraylength, 1) := by decide +kernel
theorem dX5_seat_9 : decode cX5_seat 9 = .ok (.invokestatic 31, 3) := by decide +kernel
theorem dX5_seat_12 : decode cX5_seat 12 = .ok (.ifCond .ne 5, 3) := by decide +kernel
theorem dX5_seat_15 : decode cX5_seat 15 = .ok (.iconst 0, 1) := by decide +kernel
theorem dX5_seat_16 : decode cX5_seat 16 = .ok (.ireturn, 1) := by decide +kernel
theorem dX5_seat_17 : decode cX5_seat 17 = .ok (.aload_n 0, 1) := by decide +kernel
theorem dX5_seat_18 : decode cX5_seat 18 = .ok (.getfield 11, 3) := by decide +kernel
theorem dX5_seat_21 : decode cX5_seat 21 = .ok (.aload_n 0, 1) := by decide +kernel
theorem dX5_seat_22 : decode cX5_seat 22 = .ok (.getfield 17, 3) := by decide +kernel
theorem dX5_seat_25 : decode cX5_seat 25 = .ok (.aload_n 1, 1) := by decide +kernel
theorem dX5_seat_26 : decode cX5_seat 26 = .ok (.aastore, 1) := by decide +kernel
theorem dX5_seat_27 : decode cX5_seat 27 = .ok (.aload_n 0, 1) := by decide +kernel
theorem dX5_seat_28 : decode cX5_seat 28 = .ok (.dup, 1) := by decide +kernel
theorem dX5_seat_29 : decode cX5_seat 29 = .ok (.getfield 17, 3) := by decide +kernel
theorem dX5_seat_32 : decode cX5_seat 32 = .ok (.iconst 1, 1) := by decide +kernel
theorem dX5_seat_33 : decode cX5_seat 33 = .ok (.iadd, 1) := by decide +kernel
theorem dX5_seat_34 : decode cX5_seat 34 = .ok (.putfield 17, 3) := by decide +kernel
theorem dX5_seat_37 : decode cX5_seat 37 = .ok (.iconst 1, 1) := by decide +kernel
theorem dX5_seat_38 : decode cX5_seat 38 = .ok (.ireturn, 1) := by decide +kernel
theorem dX5_seatBit_0 : decode cX5_seatBit 0 = .ok (.iconst 0, 1) := by decide +kernel
theorem dX5_seatBit_1 : decode cX5_seatBit 1 = .ok (.istore_n 2, 1) := by decide +kernel
theorem dX5_seatBit_2 : decode cX5_seatBit 2 = .ok (.iload_n 2, 1) := by decide +kernel
theorem dX5_seatBit_3 : decode cX5_seatBit 3 = .ok (.aload_n 0, 1) := by decide +kernel
theorem dX5_seatBit_4 : decode cX5_seatBit 4 = .ok (.getfield 17, 3) := by decide +kernel
theorem dX5_seatBit_7 : decode cX5_seatBit 7 = .ok (.if_icmp .ge 32, 3) := by decide +kernel
theorem dX5_seatBit_10 : decode cX5_seatBit 10 = .ok (.iload_n 2, 1) := by decide +kernel
theorem dX5_seatBit_11 : decode cX5_seatBit 11 = .ok (.aload_n 0, 1) := by decide +kernel
theorem dX5_seatBit_12 : decode cX5_seatBit 12 = .ok (.getfield 11, 3) := by decide +kernel
theorem dX5_seatBit_15 : decode cX5_seatBit 15 = .ok (.arraylength, 1) := by decide +kernel
theorem dX5_seatBit_16 : decode cX5_seatBit 16 = .ok (.if_icmp .ge 23, 3) := by decide +kernel
theorem dX5_seatBit_19 : decode cX5_seatBit 19 = .ok (.aload_n 0, 1) := by decide +kernel
theorem dX5_seatBit_20 : decode cX5_seatBit 20 = .ok (.getfield 11, 3) := by decide +kernel
theorem dX5_seatBit_23 : decode cX5_seatBit 23 = .ok (.iload_n 2, 1) := by decide +kernel
theorem dX5_seatBit_24 : decode cX5_seatBit 24 = .ok (.aaload, 1) := by decide +kernel
theorem dX5_seatBit_25 : decode cX5_seatBit 25 = .ok (.aload_n 1, 1) := by decide +kernel
theorem dX5_seatBit_26 : decode cX5_seatBit 26 = .ok (.if_acmp .ne 7, 3) := by decide +kernel
theorem dX5_seatBit_29 : decode cX5_seatBit 29 = .ok (.iconst 1, 1) := by decide +kernel
theorem dX5_seatBit_30 : decode cX5_seatBit 30 = .ok (.iload_n 2, 1) := by decide +kernel
theorem dX5_seatBit_31 : decode cX5_seatBit 31 = .ok (.ishl, 1) := by decide +kernel
theorem dX5_seatBit_32 : decode cX5_seatBit 32 = .ok (.ireturn, 1) := by decide +kernel
theorem dX5_seatBit_33 : decode cX5_seatBit 33 = .ok (.iinc 2 1, 3) := by decide +kernel
theorem dX5_seatBit_36 : decode cX5_seatBit 36 = .ok (.goto (-34), 3) := by decide +kernel
theorem dX5_seatBit_39 : decode cX5_seatBit 39 = .ok (.iconst 0, 1) := by decide +kernel
theorem dX5_seatBit_40 : decode cX5_seatBit 40 = .ok (.ireturn, 1) := by decide +kernel
theorem dX5_reckon_0 : decode cX5_reckon 0 = .ok (.aload_n 0, 1) := by decide +kernel
theorem dX5_reckon_1 : decode cX5_reckon 1 = .ok (.getfield 25, 3) := by decide +kernel
theorem dX5_reckon_4 : decode cX5_reckon 4 = .ok (.iconst 0, 1) := by decide +kernel
theorem dX5_reckon_5 : decode cX5_reckon 5 = .ok (.iconst 0, 1) := by decide +kernel
theorem dX5_reckon_6 : decode cX5_reckon 6 = .ok (.iastore, 1) := by decide +kernel
theorem dX5_reckon_7 : decode cX5_reckon 7 = .ok (.aload_n 0, 1) := by decide +kernel
theorem dX5_reckon_8 : decode cX5_reckon 8 = .ok (.getfield 28, 3) := by decide +kernel
theorem dX5_reckon_11 : decode cX5_reckon 11 = .ok (.iconst 0, 1) := by decide +kernel
theorem dX5_reckon_12 : decode cX5_reckon 12 = .ok (.iconst 1, 1) := by decide +kernel
theorem dX5_reckon_13 : decode cX5_reckon 13 = .ok (.iastore, 1) := by decide +kernel
theorem dX5_reckon_14 : decode cX5_reckon 14 = .ok (.aload_n 0, 1) := by decide +kernel
theorem dX5_reckon_15 : decode cX5_reckon 15 = .ok (.getfield 21, 3) := by decide +kernel
theorem dX5_reckon_18 : decode cX5_reckon 18 = .ok (.iconst 0, 1) := by decide +kernel
theorem dX5_reckon_19 : decode cX5_reckon 19 = .ok (.iconst 0, 1) := by decide +kernel
theorem dX5_reckon_20 : decode cX5_reckon 20 = .ok (.iastore, 1) := by decide +kernel
theorem dX5_reckon_21 : decode cX5_reckon 21 = .ok (.iconst 1, 1) := by decide +kernel
theorem dX5_reckon_22 : decode cX5_reckon 22 = .ok (.istore_n 1, 1) := by decide +kernel
theorem dX5_reckon_23 : decode cX5_reckon 23 = .ok (.iload_n 1, 1) := by decide +kernel
theorem dX5_reckon_24 : decode cX5_reckon 24 = .ok (.aload_n 0, 1) := by decide +kernel
theorem dX5_reckon_25 : decode cX5_reckon 25 = .ok (.invokevirtual 35, 3) := by decide +kernel
theorem dX5_reckon_28 : decode cX5_reckon 28 = .ok (.if_icmp .gt 27, 3) := by decide +kernel
theorem dX5_reckon_31 : decode cX5_reckon 31 = .ok (.iload_n 1, 1) := by decide +kernel
theorem dX5_reckon_32 : decode cX5_reckon 32 = .ok (.sipush 256, 3) := by decide +kernel
theorem dX5_reckon_35 : decode cX5_reckon 35 = .ok (.if_icmp .ge 20, 3) := by decide +kernel
theorem dX5_reckon_38 : decode cX5_reckon 38 = .ok (.aload_n 0, 1) := by decide +kernel
theorem dX5_reckon_39 : decode cX5_reckon 39 = .ok (.getfield 21, 3) := by decide +kernel
theorem dX5_reckon_42 : decode cX5_reckon 42 = .ok (.iload_n 1, 1) := by decide +kernel
theorem dX5_reckon_43 : decode cX5_reckon 43 = .ok (.aload_n 0, 1) := by decide +kernel
theorem dX5_reckon_44 : decode cX5_reckon 44 = .ok (.iload_n 1, 1) := by decide +kernel
theorem dX5_reckon_45 : decode cX5_reckon 45 = .ok (.invokevirtual 39, 3) := by decide +kernel
theorem dX5_reckon_48 : decode cX5_reckon 48 = .ok (.iastore, 1) := by decide +kernel
theorem dX5_reckon_49 : decode cX5_reckon 49 = .ok (.iinc 1 1, 3) := by decide +kernel
theorem dX5_reckon_52 : decode cX5_reckon 52 = .ok (.goto (-29), 3) := by decide +kernel
theorem dX5_reckon_55 : decode cX5_reckon 55 = .ok (.iconst 1, 1) := by decide +kernel
theorem dX5_reckon_56 : decode cX5_reckon 56 = .ok (.istore_n 1, 1) := by decide +kernel
theorem dX5_reckon_57 : decode cX5_reckon 57 = .ok (.iload_n 1, 1) := by decide +kernel
theorem dX5_reckon_58 : decode cX5_reckon 58 = .ok (.aload_n 0, 1) := by decide +kernel
theorem dX5_reckon_59 : decode cX5_reckon 59 = .ok (.invokevirtual 35, 3) := by decide +kernel
theorem dX5_reckon_62 : decode cX5_reckon 62 = .ok (.if_icmp .gt 21, 3) := by decide +kernel
theorem dX5_reckon_65 : decode cX5_reckon 65 = .ok (.iload_n 1, 1) := by decide +kernel
theorem dX5_reckon_66 : decode cX5_reckon 66 = .ok (.sipush 256, 3) := by decide +kernel
theorem dX5_reckon_69 : decode cX5_reckon 69 = .ok (.if_icmp .ge 14, 3) := by decide +kernel
theorem dX5_reckon_72 : decode cX5_reckon 72 = .ok (.aload_n 0, 1) := by decide +kernel
theorem dX5_reckon_73 : decode cX5_reckon 73 = .ok (.iload_n 1, 1) := by decide +kernel
theorem dX5_reckon_74 : decode cX5_reckon 74 = .ok (.invokevirtual 43, 3) := by decide +kernel
theorem dX5_reckon_77 : decode cX5_reckon 77 = .ok (.iinc 1 1, 3) := by decide +kernel
theorem dX5_reckon_80 : decode cX5_reckon 80 = .ok (.goto (-23), 3) := by decide +kernel
theorem dX5_reckon_83 : decode cX5_reckon 83 = .ok (.return_, 1) := by decide +kernel
theorem dX5_greatestWorth_0 : decode cX5_greatestWorth 0 = .ok (.aload_n 0, 1) := by decide +kernel
theorem dX5_greatestWorth_1 : decode cX5_greatestWorth 1 = .ok (.getfield 25, 3) := by decide +kernel
theorem dX5_greatestWorth_4 : decode cX5_greatestWorth 4 = .ok (.aload_n 0, 1) := by decide +kernel
theorem dX5_greatestWorth_5 : decode cX5_greatestWorth 5 = .ok (.invokevirtual 35, 3) := by decide +kernel
theorem dX5_greatestWorth_8 : decode cX5_greatestWorth 8 = .ok (.iaload, 1) := by decide +kernel
theorem dX5_greatestWorth_9 : decode cX5_greatestWorth 9 = .ok (.ireturn, 1) := by decide +kernel
theorem dX5_countBest_0 : decode cX5_countBest 0 = .ok (.aload_n 0, 1) := by decide +kernel
theorem dX5_countBest_1 : decode cX5_countBest 1 = .ok (.getfield 28, 3) := by decide +kernel
theorem dX5_countBest_4 : decode cX5_countBest 4 = .ok (.aload_n 0, 1) := by decide +kernel
theorem dX5_countBest_5 : decode cX5_countBest 5 = .ok (.invokevirtual 35, 3) := by decide +kernel
theorem dX5_countBest_8 : decode cX5_countBest 8 = .ok (.iaload, 1) := by decide +kernel
theorem dX5_countBest_9 : decode cX5_countBest 9 = .ok (.ireturn, 1) := by decide +kernel
theorem dX5_countBestWith_0 : decode cX5_countBestWith 0 = .ok (.aload_n 0, 1) := by decide +kernel
theorem dX5_countBestWith_1 : decode cX5_countBestWith 1 = .ok (.invokevirtual 35, 3) := by decide +kernel
theorem dX5_countBestWith_4 : decode cX5_countBestWith 4 = .ok (.istore_n 2, 1) := by decide +kernel
theorem dX5_countBestWith_5 : decode cX5_countBestWith 5 = .ok (.iconst 0, 1) := by decide +kernel
theorem dX5_countBestWith_6 : decode cX5_countBestWith 6 = .ok (.istore_n 3, 1) := by decide +kernel
theorem dX5_countBestWith_7 : decode cX5_countBestWith 7 = .ok (.iconst 0, 1) := by decide +kernel
theorem dX5_countBestWith_8 : decode cX5_countBestWith 8 = .ok (.istore 4, 2) := by decide +kernel
theorem dX5_countBestWith_10 : decode cX5_countBestWith 10 = .ok (.iload 4, 2) := by decide +kernel
theorem dX5_countBestWith_12 : decode cX5_countBestWith 12 = .ok (.iload_n 2, 1) := by decide +kernel
theorem dX5_countBestWith_13 : decode cX5_countBestWith 13 = .ok (.if_icmp .gt 90, 3) := by decide +kernel
theorem dX5_countBestWith_16 : decode cX5_countBestWith 16 = .ok (.iload 4, 2) := by decide +kernel
theorem dX5_countBestWith_18 : decode cX5_countBestWith 18 = .ok (.sipush 256, 3) := by decide +kernel
theorem dX5_countBestWith_21 : decode cX5_countBestWith 21 = .ok (.if_icmp .ge 82, 3) := by decide +kernel
theorem dX5_countBestWith_24 : decode cX5_countBestWith 24 = .ok (.iload 4, 2) := by decide +kernel
theorem dX5_countBestWith_26 : decode cX5_countBestWith 26 = .ok (.iload_n 1, 1) := by decide +kernel
theorem dX5_countBestWith_27 : decode cX5_countBestWith 27 = .ok (.iand, 1) := by decide +kernel
theorem dX5_countBestWith_28 : decode cX5_countBestWith 28 = .ok (.iload_n 1, 1) := by decide +kernel
theorem dX5_countBestWith_29 : decode cX5_countBestWith 29 = .ok (.if_icmp .ne 20, 3) := by decide +kernel
theorem dX5_countBestWith_32 : decode cX5_countBestWith 32 = .ok (.aload_n 0, 1) := by decide +kernel
theorem dX5_countBestWith_33 : decode cX5_countBestWith 33 = .ok (.getfield 21, 3) := by decide +kernel
theorem dX5_countBestWith_36 : decode cX5_countBestWith 36 = .ok (.iload 4, 2) := by decide +kernel
theorem dX5_countBestWith_38 : decode cX5_countBestWith 38 = .ok (.iaload, 1) := by decide +kernel
theorem dX5_countBestWith_39 : decode cX5_countBestWith 39 = .ok (.sipush (-9999), 3) := by decide +kernel
theorem dX5_countBestWith_42 : decode cX5_countBestWith 42 = .ok (.if_icmp .eq 7, 3) := by decide +kernel
theorem dX5_countBestWith_45 : decode cX5_countBestWith 45 = .ok (.iconst 1, 1) := by decide +kernel
theorem dX5_countBestWith_46 : decode cX5_countBestWith 46 = .ok (.goto 4, 3) := by decide +kernel
theorem dX5_countBestWith_49 : decode cX5_countBestWith 49 = .ok (.iconst 0, 1) := by decide +kernel
theorem dX5_countBestWith_50 : decode cX5_countBestWith 50 = .ok (.istore 5, 2) := by decide +kernel
theorem dX5_countBestWith_52 : decode cX5_countBestWith 52 = .ok (.iload_n 2, 1) := by decide +kernel
theorem dX5_countBestWith_53 : decode cX5_countBestWith 53 = .ok (.iload 4, 2) := by decide +kernel
theorem dX5_countBestWith_55 : decode cX5_countBestWith 55 = .ok (.ixor, 1) := by decide +kernel
theorem dX5_countBestWith_56 : decode cX5_countBestWith 56 = .ok (.istore 6, 2) := by decide +kernel
theorem dX5_countBestWith_58 : decode cX5_countBestWith 58 = .ok (.iload 5, 2) := by decide +kernel
theorem dX5_countBestWith_60 : decode cX5_countBestWith 60 = .ok (.ifCond .eq 37, 3) := by decide +kernel
theorem dX5_countBestWith_63 : decode cX5_countBestWith 63 = .ok (.aload_n 0, 1) := by decide +kernel
theorem dX5_countBestWith_64 : decode cX5_countBestWith 64 = .ok (.getfield 21, 3) := by decide +kernel
theorem dX5_countBestWith_67 : decode cX5_countBestWith 67 = .ok (.iload 4, 2) := by decide +kernel
theorem dX5_countBestWith_69 : decode cX5_countBestWith 69 = .ok (.iaload, 1) := by decide +kernel
theorem dX5_countBestWith_70 : decode cX5_countBestWith 70 = .ok (.aload_n 0, 1) := by decide +kernel
theorem dX5_countBestWith_71 : decode cX5_countBestWith 71 = .ok (.getfield 25, 3) := by decide +kernel
theorem dX5_countBestWith_74 : decode cX5_countBestWith 74 = .ok (.iload 6, 2) := by decide +kernel
theorem dX5_countBestWith_76 : decode cX5_countBestWith 76 = .ok (.iaload, 1) := by decide +kernel
theorem dX5_countBestWith_77 : decode cX5_countBestWith 77 = .ok (.iadd, 1) := by decide +kernel
theorem dX5_countBestWith_78 : decode cX5_countBestWith 78 = .ok (.aload_n 0, 1) := by decide +kernel
theorem dX5_countBestWith_79 : decode cX5_countBestWith 79 = .ok (.getfield 25, 3) := by decide +kernel
theorem dX5_countBestWith_82 : decode cX5_countBestWith 82 = .ok (.iload_n 2, 1) := by decide +kernel
theorem dX5_countBestWith_83 : decode cX5_countBestWith 83 = .ok (.iaload, 1) := by decide +kernel
theorem dX5_countBestWith_84 : decode cX5_countBestWith 84 = .ok (.if_icmp .ne 13, 3) := by decide +kernel
theorem dX5_countBestWith_87 : decode cX5_countBestWith 87 = .ok (.iload_n 3, 1) := by decide +kernel
theorem dX5_countBestWith_88 : decode cX5_countBestWith 88 = .ok (.aload_n 0, 1) := by decide +kernel
theorem dX5_countBestWith_89 : decode cX5_countBestWith 89 = .ok (.getfield 28, 3) := by decide +kernel
theorem dX5_countBestWith_92 : decode cX5_countBestWith 92 = .ok (.iload 6, 2) := by decide +kernel
theorem dX5_countBestWith_94 : decode cX5_countBestWith 94 = .ok (.iaload, 1) := by decide +kernel
theorem dX5_countBestWith_95 : decode cX5_countBestWith 95 = .ok (.iadd, 1) := by decide +kernel
theorem dX5_countBestWith_96 : decode cX5_countBestWith 96 = .ok (.istore_n 3, 1) := by decide +kernel
theorem dX5_countBestWith_97 : decode cX5_countBestWith 97 = .ok (.iinc 4 1, 3) := by decide +kernel
theorem dX5_countBestWith_100 : decode cX5_countBestWith 100 = .ok (.goto (-90), 3) := by decide +kernel
theorem dX5_countBestWith_103 : decode cX5_countBestWith 103 = .ok (.iload_n 3, 1) := by decide +kernel
theorem dX5_countBestWith_104 : decode cX5_countBestWith 104 = .ok (.ireturn, 1) := by decide +kernel
theorem dX5_everybody_0 : decode cX5_everybody 0 = .ok (.iconst 1, 1) := by decide +kernel
theorem dX5_everybody_1 : decode cX5_everybody 1 = .ok (.aload_n 0, 1) := by decide +kernel
theorem dX5_everybody_2 : decode cX5_everybody 2 = .ok (.getfield 17, 3) := by decide +kernel
theorem dX5_everybody_5 : decode cX5_everybody 5 = .ok (.ishl, 1) := by decide +kernel
theorem dX5_everybody_6 : decode cX5_everybody 6 = .ok (.iconst 1, 1) := by decide +kernel
theorem dX5_everybody_7 : decode cX5_everybody 7 = .ok (.isub, 1) := by decide +kernel
theorem dX5_everybody_8 : decode cX5_everybody 8 = .ok (.sipush 255, 3) := by decide +kernel
theorem dX5_everybody_11 : decode cX5_everybody 11 = .ok (.iand, 1) := by decide +kernel
theorem dX5_everybody_12 : decode cX5_everybody 12 = .ok (.ireturn, 1) := by decide +kernel
theorem dX5_worthOf_0 : decode cX5_worthOf 0 = .ok (.iconst 0, 1) := by decide +kernel
theorem dX5_worthOf_1 : decode cX5_worthOf 1 = .ok (.istore_n 2, 1) := by decide +kernel
theorem dX5_worthOf_2 : decode cX5_worthOf 2 = .ok (.iload_n 2, 1) := by decide +kernel
theorem dX5_worthOf_3 : decode cX5_worthOf 3 = .ok (.aload_n 0, 1) := by decide +kernel
theorem dX5_worthOf_4 : decode cX5_worthOf 4 = .ok (.getfield 17, 3) := by decide +kernel
theorem dX5_worthOf_7 : decode cX5_worthOf 7 = .ok (.if_icmp .ge 17, 3) := by decide +kernel
theorem dX5_worthOf_10 : decode cX5_worthOf 10 = .ok (.iload_n 1, 1) := by decide +kernel
theorem dX5_worthOf_11 : decode cX5_worthOf 11 = .ok (.iload_n 2, 1) := by decide +kernel
theorem dX5_worthOf_12 : decode cX5_worthOf 12 = .ok (.ishr, 1) := by decide +kernel
theorem dX5_worthOf_13 : decode cX5_worthOf 13 = .ok (.iconst 1, 1) := by decide +kernel
theorem dX5_worthOf_14 : decode cX5_worthOf 14 = .ok (.iand, 1) := by decide +kernel
theorem dX5_worthOf_15 : decode cX5_worthOf 15 = .ok (.ifCond .ne 9, 3) := by decide +kernel
theorem dX5_worthOf_18 : decode cX5_worthOf 18 = .ok (.iinc 2 1, 3) := by decide +kernel
theorem dX5_worthOf_21 : decode cX5_worthOf 21 = .ok (.goto (-19), 3) := by decide +kernel
theorem dX5_worthOf_24 : decode cX5_worthOf 24 = .ok (.iload_n 1, 1) := by decide +kernel
theorem dX5_worthOf_25 : decode cX5_worthOf 25 = .ok (.iload_n 1, 1) := by decide +kernel
theorem dX5_worthOf_26 : decode cX5_worthOf 26 = .ok (.iconst 1, 1) := by decide +kernel
theorem dX5_worthOf_27 : decode cX5_worthOf 27 = .ok (.isub, 1) := by decide +kernel
theorem dX5_worthOf_28 : decode cX5_worthOf 28 = .ok (.iand, 1) := by decide +kernel
theorem dX5_worthOf_29 : decode cX5_worthOf 29 = .ok (.sipush 255, 3) := by decide +kernel
theorem dX5_worthOf_32 : decode cX5_worthOf 32 = .ok (.iand, 1) := by decide +kernel
theorem dX5_worthOf_33 : decode cX5_worthOf 33 = .ok (.istore_n 3, 1) := by decide +kernel
theorem dX5_worthOf_34 : decode cX5_worthOf 34 = .ok (.aload_n 0, 1) := by decide +kernel
theorem dX5_worthOf_35 : decode cX5_worthOf 35 = .ok (.getfield 21, 3) := by decide +kernel
theorem dX5_worthOf_38 : decode cX5_worthOf 38 = .ok (.iload_n 3, 1) := by decide +kernel
theorem dX5_worthOf_39 : decode cX5_worthOf 39 = .ok (.iaload, 1) := by decide +kernel
theorem dX5_worthOf_40 : decode cX5_worthOf 40 = .ok (.istore 4, 2) := by decide +kernel
theorem dX5_worthOf_42 : decode cX5_worthOf 42 = .ok (.iload_n 2, 1) := by decide +kernel
theorem dX5_worthOf_43 : decode cX5_worthOf 43 = .ok (.iconst 1, 1) := by decide +kernel
theorem dX5_worthOf_44 : decode cX5_worthOf 44 = .ok (.iadd, 1) := by decide +kernel
theorem dX5_worthOf_45 : decode cX5_worthOf 45 = .ok (.istore 5, 2) := by decide +kernel
theorem dX5_worthOf_47 : decode cX5_worthOf 47 = .ok (.iload 5, 2) := by decide +kernel
theorem dX5_worthOf_49 : decode cX5_worthOf 49 = .ok (.aload_n 0, 1) := by decide +kernel
theorem dX5_worthOf_50 : decode cX5_worthOf 50 = .ok (.getfield 17, 3) := by decide +kernel
theorem dX5_worthOf_53 : decode cX5_worthOf 53 = .ok (.if_icmp .ge 57, 3) := by decide +kernel
theorem dX5_worthOf_56 : decode cX5_worthOf 56 = .ok (.iload 4, 2) := by decide +kernel
theorem dX5_worthOf_58 : decode cX5_worthOf 58 = .ok (.sipush (-9999), 3) := by decide +kernel
theorem dX5_worthOf_61 : decode cX5_worthOf 61 = .ok (.if_icmp .eq 49, 3) := by decide +kernel
theorem dX5_worthOf_64 : decode cX5_worthOf 64 = .ok (.iload_n 3, 1) := by decide +kernel
theorem dX5_worthOf_65 : decode cX5_worthOf 65 = .ok (.iload 5, 2) := by decide +kernel
theorem dX5_worthOf_67 : decode cX5_worthOf 67 = .ok (.ishr, 1) := by decide +kernel
theorem dX5_worthOf_68 : decode cX5_worthOf 68 = .ok (.iconst 1, 1) := by decide +kernel
theorem dX5_worthOf_69 : decode cX5_worthOf 69 = .ok (.iand, 1) := by decide +kernel
theorem dX5_worthOf_70 : decode cX5_worthOf 70 = .ok (.iconst 1, 1) := by decide +kernel
theorem dX5_worthOf_71 : decode cX5_worthOf 71 = .ok (.if_icmp .ne 33, 3) := by decide +kernel
theorem dX5_worthOf_74 : decode cX5_worthOf 74 = .ok (.aload_n 0, 1) := by decide +kernel
theorem dX5_worthOf_75 : decode cX5_worthOf 75 = .ok (.iload_n 2, 1) := by decide +kernel
theorem dX5_worthOf_76 : decode cX5_worthOf 76 = .ok (.iload 5, 2) := by decide +kernel
theorem dX5_worthOf_78 : decode cX5_worthOf 78 = .ok (.invokevirtual 47, 3) := by decide +kernel
theorem dX5_worthOf_81 : decode cX5_worthOf 81 = .ok (.istore 6, 2) := by decide +kernel
theorem dX5_worthOf_83 : decode cX5_worthOf 83 = .ok (.iload 6, 2) := by decide +kernel
theorem dX5_worthOf_85 : decode cX5_worthOf 85 = .ok (.sipush (-9999), 3) := by decide +kernel
theorem dX5_worthOf_88 : decode cX5_worthOf 88 = .ok (.if_icmp .ne 9, 3) := by decide +kernel
theorem dX5_worthOf_91 : decode cX5_worthOf 91 = .ok (.sipush (-9999), 3) := by decide +kernel
theorem dX5_worthOf_94 : decode cX5_worthOf 94 = .ok (.goto 8, 3) := by decide +kernel
theorem dX5_worthOf_97 : decode cX5_worthOf 97 = .ok (.iload 4, 2) := by decide +kernel
theorem dX5_worthOf_99 : decode cX5_worthOf 99 = .ok (.iload 6, 2) := by decide +kernel
theorem dX5_worthOf_101 : decode cX5_worthOf 101 = .ok (.iadd, 1) := by decide +kernel
theorem dX5_worthOf_102 : decode cX5_worthOf 102 = .ok (.istore 4, 2) := by decide +kernel
theorem dX5_worthOf_104 : decode cX5_worthOf 104 = .ok (.iinc 5 1, 3) := by decide +kernel
theorem dX5_worthOf_107 : decode cX5_worthOf 107 = .ok (.goto (-60), 3) := by decide +kernel
theorem dX5_worthOf_110 : decode cX5_worthOf 110 = .ok (.iload 4, 2) := by decide +kernel
theorem dX5_worthOf_112 : decode cX5_worthOf 112 = .ok (.ireturn, 1) := by decide +kernel
theorem dX5_pairWorth_0 : decode cX5_pairWorth 0 = .ok (.iload_n 1, 1) := by decide +kernel
theorem dX5_pairWorth_1 : decode cX5_pairWorth 1 = .ok (.aload_n 0, 1) := by decide +kernel
theorem dX5_pairWorth_2 : decode cX5_pairWorth 2 = .ok (.getfield 11, 3) := by decide +kernel
theorem dX5_pairWorth_5 : decode cX5_pairWorth 5 = .ok (.arraylength, 1) := by decide +kernel
theorem dX5_pairWorth_6 : decode cX5_pairWorth 6 = .ok (.invokestatic 31, 3) := by decide +kernel
theorem dX5_pairWorth_9 : decode cX5_pairWorth 9 = .ok (.ifCond .eq 15, 3) := by decide +kernel
theorem dX5_pairWorth_12 : decode cX5_pairWorth 12 = .ok (.iload_n 2, 1) := by decide +kernel
theorem dX5_pairWorth_13 : decode cX5_pairWorth 13 = .ok (.aload_n 0, 1) := by decide +kernel
theorem dX5_pairWorth_14 : decode cX5_pairWorth 14 = .ok (.getfield 11, 3) := by decide +kernel
theorem dX5_pairWorth_17 : decode cX5_pairWorth 17 = .ok (.arraylength, 1) := by decide +kernel
theorem dX5_pairWorth_18 : decode cX5_pairWorth 18 = .ok (.invokestatic 31, 3) := by decide +kernel
theorem dX5_pairWorth_21 : decode cX5_pairWorth 21 = .ok (.ifCond .ne 7, 3) := by decide +kernel
theorem dX5_pairWorth_24 : decode cX5_pairWorth 24 = .ok (.sipush (-9999), 3) := by decide +kernel
theorem dX5_pairWorth_27 : decode cX5_pairWorth 27 = .ok (.ireturn, 1) := by decide +kernel
theorem dX5_pairWorth_28 : decode cX5_pairWorth 28 = .ok (.aload_n 0, 1) := by decide +kernel
theorem dX5_pairWorth_29 : decode cX5_pairWorth 29 = .ok (.getfield 11, 3) := by decide +kernel
theorem dX5_pairWorth_32 : decode cX5_pairWorth 32 = .ok (.iload_n 1, 1) := by decide +kernel
theorem dX5_pairWorth_33 : decode cX5_pairWorth 33 = .ok (.aaload, 1) := by decide +kernel
theorem dX5_pairWorth_34 : decode cX5_pairWorth 34 = .ok (.astore_n 3, 1) := by decide +kernel
theorem dX5_pairWorth_35 : decode cX5_pairWorth 35 = .ok (.aload_n 0, 1) := by decide +kernel
theorem dX5_pairWorth_36 : decode cX5_pairWorth 36 = .ok (.getfield 11, 3) := by decide +kernel
theorem dX5_pairWorth_39 : decode cX5_pairWorth 39 = .ok (.iload_n 2, 1) := by decide +kernel
theorem dX5_pairWorth_40 : decode cX5_pairWorth 40 = .ok (.aaload, 1) := by decide +kernel
theorem dX5_pairWorth_41 : decode cX5_pairWorth 41 = .ok (.astore 4, 2) := by decide +kernel
theorem dX5_pairWorth_43 : decode cX5_pairWorth 43 = .ok (.aload_n 3, 1) := by decide +kernel
theorem dX5_pairWorth_44 : decode cX5_pairWorth 44 = .ok (.ifnull 17, 3) := by decide +kernel
theorem dX5_pairWorth_47 : decode cX5_pairWorth 47 = .ok (.aload 4, 2) := by decide +kernel
theorem dX5_pairWorth_49 : decode cX5_pairWorth 49 = .ok (.ifnull 12, 3) := by decide +kernel
theorem dX5_pairWorth_52 : decode cX5_pairWorth 52 = .ok (.aload_n 3, 1) := by decide +kernel
theorem dX5_pairWorth_53 : decode cX5_pairWorth 53 = .ok (.aload 4, 2) := by decide +kernel
theorem dX5_pairWorth_55 : decode cX5_pairWorth 55 = .ok (.invokevirtual 51, 3) := by decide +kernel
theorem dX5_pairWorth_58 : decode cX5_pairWorth 58 = .ok (.ifCond .eq 7, 3) := by decide +kernel
theorem dX5_pairWorth_61 : decode cX5_pairWorth 61 = .ok (.sipush (-9999), 3) := by decide +kernel
theorem dX5_pairWorth_64 : decode cX5_pairWorth 64 = .ok (.ireturn, 1) := by decide +kernel
theorem dX5_pairWorth_65 : decode cX5_pairWorth 65 = .ok (.aload_n 3, 1) := by decide +kernel
theorem dX5_pairWorth_66 : decode cX5_pairWorth 66 = .ok (.aload 4, 2) := by decide +kernel
theorem dX5_pairWorth_68 : decode cX5_pairWorth 68 = .ok (.invokevirtual 55, 3) := by decide +kernel
theorem dX5_pairWorth_71 : decode cX5_pairWorth 71 = .ok (.iconst 5, 1) := by decide +kernel
theorem dX5_pairWorth_72 : decode cX5_pairWorth 72 = .ok (.isub, 1) := by decide +kernel
theorem dX5_pairWorth_73 : decode cX5_pairWorth 73 = .ok (.ireturn, 1) := by decide +kernel
theorem dX5_part_0 : decode cX5_part 0 = .ok (.iload_n 1, 1) := by decide +kernel
theorem dX5_part_1 : decode cX5_part 1 = .ok (.iload_n 1, 1) := by decide +kernel
theorem dX5_part_2 : decode cX5_part 2 = .ok (.ineg, 1) := by decide +kernel
theorem dX5_part_3 : decode cX5_part 3 = .ok (.iand, 1) := by decide +kernel
theorem dX5_part_4 : decode cX5_part 4 = .ok (.istore_n 2, 1) := by decide +kernel
theorem dX5_part_5 : decode cX5_part 5 = .ok (.iload_n 1, 1) := by decide +kernel
theorem dX5_part_6 : decode cX5_part 6 = .ok (.iload_n 2, 1) := by decide +kernel
theorem dX5_part_7 : decode cX5_part 7 = .ok (.ixor, 1) := by decide +kernel
theorem dX5_part_8 : decode cX5_part 8 = .ok (.istore_n 3, 1) := by decide +kernel
theorem dX5_part_9 : decode cX5_part 9 = .ok (.sipush (-9999), 3) := by decide +kernel
theorem dX5_part_12 : decode cX5_part 12 = .ok (.istore 4, 2) := by decide +kernel
theorem dX5_part_14 : decode cX5_part 14 = .ok (.iconst 0, 1) := by decide +kernel
theorem dX5_part_15 : decode cX5_part 15 = .ok (.istore 5, 2) := by decide +kernel
theorem dX5_part_17 : decode cX5_part 17 = .ok (.iload_n 3, 1) := by decide +kernel
theorem dX5_part_18 : decode cX5_part 18 = .ok (.istore 6, 2) := by decide +kernel
theorem dX5_part_20 : decode cX5_part 20 = .ok (.iconst 0, 1) := by decide +kernel
theorem dX5_part_21 : decode cX5_part 21 = .ok (.istore 7, 2) := by decide +kernel
theorem dX5_part_23 : decode cX5_part 23 = .ok (.iload 7, 2) := by decide +kernel
theorem dX5_part_25 : decode cX5_part 25 = .ok (.sipush 256, 3) := by decide +kernel
theorem dX5_part_28 : decode cX5_part 28 = .ok (.if_icmp .ge 120, 3) := by decide +kernel
theorem dX5_part_31 : decode cX5_part 31 = .ok (.iload 6, 2) := by decide +kernel
theorem dX5_part_33 : decode cX5_part 33 = .ok (.ifCond .lt 115, 3) := by decide +kernel
theorem dX5_part_36 : decode cX5_part 36 = .ok (.iload_n 2, 1) := by decide +kernel
theorem dX5_part_37 : decode cX5_part 37 = .ok (.iload 6, 2) := by decide +kernel
theorem dX5_part_39 : decode cX5_part 39 = .ok (.ior, 1) := by decide +kernel
theorem dX5_part_40 : decode cX5_part 40 = .ok (.sipush 255, 3) := by decide +kernel
theorem dX5_part_43 : decode cX5_part 43 = .ok (.iand, 1) := by decide +kernel
theorem dX5_part_44 : decode cX5_part 44 = .ok (.istore 8, 2) := by decide +kernel
theorem dX5_part_46 : decode cX5_part 46 = .ok (.iload_n 1, 1) := by decide +kernel
theorem dX5_part_47 : decode cX5_part 47 = .ok (.iload 8, 2) := by decide +kernel
theorem dX5_part_49 : decode cX5_part 49 = .ok (.iconst (-1), 1) := by decide +kernel
theorem dX5_part_50 : decode cX5_part 50 = .ok (.ixor, 1) := by decide +kernel
theorem dX5_part_51 : decode cX5_part 51 = .ok (.iand, 1) := by decide +kernel
theorem dX5_part_52 : decode cX5_part 52 = .ok (.sipush 255, 3) := by decide +kernel
theorem dX5_part_55 : decode cX5_part 55 = .ok (.iand, 1) := by decide +kernel
theorem dX5_part_56 : decode cX5_part 56 = .ok (.istore 9, 2) := by decide +kernel
theorem dX5_part_58 : decode cX5_part 58 = .ok (.aload_n 0, 1) := by decide +kernel
theorem dX5_part_59 : decode cX5_part 59 = .ok (.getfield 21, 3) := by decide +kernel
theorem dX5_part_62 : decode cX5_part 62 = .ok (.iload 8, 2) := by decide +kernel
theorem dX5_part_64 : decode cX5_part 64 = .ok (.iaload, 1) := by decide +kernel
theorem dX5_part_65 : decode cX5_part 65 = .ok (.sipush (-9999), 3) := by decide +kernel
theorem dX5_part_68 : decode cX5_part 68 = .ok (.if_icmp .eq 57, 3) := by decide +kernel
theorem dX5_part_71 : decode cX5_part 71 = .ok (.aload_n 0, 1) := by decide +kernel
theorem dX5_part_72 : decode cX5_part 72 = .ok (.getfield 21, 3) := by decide +kernel
theorem dX5_part_75 : decode cX5_part 75 = .ok (.iload 8, 2) := by decide +kernel
theorem dX5_part_77 : decode cX5_part 77 = .ok (.iaload, 1) := by decide +kernel
theorem dX5_part_78 : decode cX5_part 78 = .ok (.aload_n 0, 1) := by decide +kernel
theorem dX5_part_79 : decode cX5_part 79 = .ok (.getfield 25, 3) := by decide +kernel
theorem dX5_part_82 : decode cX5_part 82 = .ok (.iload 9, 2) := by decide +kernel
theorem dX5_part_84 : decode cX5_part 84 = .ok (.iaload, 1) := by decide +kernel
theorem dX5_part_85 : decode cX5_part 85 = .ok (.iadd, 1) := by decide +kernel
theorem dX5_part_86 : decode cX5_part 86 = .ok (.istore 10, 2) := by decide +kernel
theorem dX5_part_88 : decode cX5_part 88 = .ok (.iload 10, 2) := by decide +kernel
theorem dX5_part_90 : decode cX5_part 90 = .ok (.iload 4, 2) := by decide +kernel
theorem dX5_part_92 : decode cX5_part 92 = .ok (.if_icmp .le 10, 3) := by decide +kernel
theorem dX5_part_95 : decode cX5_part 95 = .ok (.iload 10, 2) := by decide +kernel
theorem dX5_part_97 : decode cX5_part 97 = .ok (.istore 4, 2) := by decide +kernel
theorem dX5_part_99 : decode cX5_part 99 = .ok (.iconst 0, 1) := by decide +kernel
theorem dX5_part_100 : decode cX5_part 100 = .ok (.istore 5, 2) := by decide +kernel
theorem dX5_part_102 : decode cX5_part 102 = .ok (.iload 5, 2) := by decide +kernel
theorem dX5_part_104 : decode cX5_part 104 = .ok (.iload 10, 2) := by decide +kernel
theorem dX5_part_106 : decode cX5_part 106 = .ok (.iload 4, 2) := by decide +kernel
theorem dX5_part_108 : decode cX5_part 108 = .ok (.if_icmp .ne 13, 3) := by decide +kernel
theorem dX5_part_111 : decode cX5_part 111 = .ok (.aload_n 0, 1) := by decide +kernel
theorem dX5_part_112 : decode cX5_part 112 = .ok (.getfield 28, 3) := by decide +kernel
theorem dX5_part_115 : decode cX5_part 115 = .ok (.iload 9, 2) := by decide +kernel
theorem dX5_part_117 : decode cX5_part 117 = .ok (.iaload, 1) := by decide +kernel
theorem dX5_part_118 : decode cX5_part 118 = .ok (.goto 4, 3) := by decide +kernel
theorem dX5_part_121 : decode cX5_part 121 = .ok (.iconst 0, 1) := by decide +kernel
theorem dX5_part_122 : decode cX5_part 122 = .ok (.iadd, 1) := by decide +kernel
theorem dX5_part_123 : decode cX5_part 123 = .ok (.istore 5, 2) := by decide +kernel
theorem dX5_part_125 : decode cX5_part 125 = .ok (.iload 6, 2) := by decide +kernel
theorem dX5_part_127 : decode cX5_part 127 = .ok (.ifCond .ne 7, 3) := by decide +kernel
theorem dX5_part_130 : decode cX5_part 130 = .ok (.iconst (-1), 1) := by decide +kernel
theorem dX5_part_131 : decode cX5_part 131 = .ok (.goto 9, 3) := by decide +kernel
theorem dX5_part_134 : decode cX5_part 134 = .ok (.iload 6, 2) := by decide +kernel
theorem dX5_part_136 : decode cX5_part 136 = .ok (.iconst 1, 1) := by decide +kernel
theorem dX5_part_137 : decode cX5_part 137 = .ok (.isub, 1) := by decide +kernel
theorem dX5_part_138 : decode cX5_part 138 = .ok (.iload_n 3, 1) := by decide +kernel
theorem dX5_part_139 : decode cX5_part 139 = .ok (.iand, 1) := by decide +kernel
theorem dX5_part_140 : decode cX5_part 140 = .ok (.istore 6, 2) := by decide +kernel
theorem dX5_part_142 : decode cX5_part 142 = .ok (.iinc 7 1, 3) := by decide +kernel
theorem dX5_part_145 : decode cX5_part 145 = .ok (.goto (-122), 3) := by decide +kernel
theorem dX5_part_148 : decode cX5_part 148 = .ok (.aload_n 0, 1) := by decide +kernel
theorem dX5_part_149 : decode cX5_part 149 = .ok (.getfield 25, 3) := by decide +kernel
theorem dX5_part_152 : decode cX5_part 152 = .ok (.iload_n 1, 1) := by decide +kernel
theorem dX5_part_153 : decode cX5_part 153 = .ok (.iload 4, 2) := by decide +kernel
theorem dX5_part_155 : decode cX5_part 155 = .ok (.iastore, 1) := by decide +kernel
theorem dX5_part_156 : decode cX5_part 156 = .ok (.aload_n 0, 1) := by decide +kernel
theorem dX5_part_157 : decode cX5_part 157 = .ok (.getfield 28, 3) := by decide +kernel
theorem dX5_part_160 : decode cX5_part 160 = .ok (.iload_n 1, 1) := by decide +kernel
theorem dX5_part_161 : decode cX5_part 161 = .ok (.iload 5, 2) := by decide +kernel
theorem dX5_part_163 : decode cX5_part 163 = .ok (.iastore, 1) := by decide +kernel
theorem dX5_part_164 : decode cX5_part 164 = .ok (.return_, 1) := by decide +kernel
theorem dX6_init_0 : decode cX6_init 0 = .ok (.aload_n 0, 1) := by decide +kernel
theorem dX6_init_1 : decode cX6_init 1 = .ok (.invokespecial 3, 3) := by decide +kernel
theorem dX6_init_4 : decode cX6_init 4 = .ok (.aload_n 0, 1) := by decide +kernel
theorem dX6_init_5 : decode cX6_init 5 = .ok (.iconst 0, 1) := by decide +kernel
theorem dX6_init_6 : decode cX6_init 6 = .ok (.putfield 9, 3) := by decide +kernel
theorem dX6_init_9 : decode cX6_init 9 = .ok (.aload_n 0, 1) := by decide +kernel
theorem dX6_init_10 : decode cX6_init 10 = .ok (.iconst 4, 1) := by decide +kernel
theorem dX6_init_11 : decode cX6_init 11 = .ok (.newarray .int, 2) := by decide +kernel
theorem dX6_init_13 : decode cX6_init 13 = .ok (.dup, 1) := by decide +kernel
theorem dX6_init_14 : decode cX6_init 14 = .ok (.iconst 0, 1) := by decide +kernel
theorem dX6_init_15 : decode cX6_init 15 = .ok (.iconst 5, 1) := by decide +kernel
theorem dX6_init_16 : decode cX6_init 16 = .ok (.iastore, 1) := by decide +kernel
theorem dX6_init_17 : decode cX6_init 17 = .ok (.dup, 1) := by decide +kernel
theorem dX6_init_18 : decode cX6_init 18 = .ok (.iconst 1, 1) := by decide +kernel
theorem dX6_init_19 : decode cX6_init 19 = .ok (.iconst 5, 1) := by decide +kernel
theorem dX6_init_20 : decode cX6_init 20 = .ok (.iastore, 1) := by decide +kernel
theorem dX6_init_21 : decode cX6_init 21 = .ok (.dup, 1) := by decide +kernel
theorem dX6_init_22 : decode cX6_init 22 = .ok (.iconst 2, 1) := by decide +kernel
theorem dX6_init_23 : decode cX6_init 23 = .ok (.iconst 5, 1) := by decide +kernel
theorem dX6_init_24 : decode cX6_init 24 = .ok (.iastore, 1) := by decide +kernel
theorem dX6_init_25 : decode cX6_init 25 = .ok (.dup, 1) := by decide +kernel
theorem dX6_init_26 : decode cX6_init 26 = .ok (.iconst 3, 1) := by decide +kernel
theorem dX6_init_27 : decode cX6_init 27 = .ok (.iconst 5, 1) := by decide +kernel
theorem dX6_init_28 : decode cX6_init 28 = .ok (.iastore, 1) := by decide +kernel
theorem dX6_init_29 : decode cX6_init 29 = .ok (.putfield 15, 3) := by decide +kernel
theorem dX6_init_32 : decode cX6_init 32 = .ok (.aload_n 0, 1) := by decide +kernel
theorem dX6_init_33 : decode cX6_init 33 = .ok (.iconst 0, 1) := by decide +kernel
theorem dX6_init_34 : decode cX6_init 34 = .ok (.putfield 19, 3) := by decide +kernel
theorem dX6_init_37 : decode cX6_init 37 = .ok (.aload_n 0, 1) := by decide +kernel
theorem dX6_init_38 : decode cX6_init 38 = .ok (.bipush 30, 2) := by decide +kernel
theorem dX6_init_40 : decode cX6_init 40 = .ok (.putfield 22, 3) := by decide +kernel
theorem dX6_init_43 : decode cX6_init 43 = .ok (.aload_n 0, 1) := by decide +kernel
theorem dX6_init_44 : decode cX6_init 44 = .ok (.bipush 10, 2) := by decide +kernel
theorem dX6_init_46 : decode cX6_init 46 = .ok (.putfield 25, 3) := by decide +kernel
theorem dX6_init_49 : decode cX6_init 49 = .ok (.aload_n 0, 1) := by decide +kernel
theorem dX6_init_50 : decode cX6_init 50 = .ok (.iconst 0, 1) := by decide +kernel
theorem dX6_init_51 : decode cX6_init 51 = .ok (.putfield 28, 3) := by decide +kernel
theorem dX6_init_54 : decode cX6_init 54 = .ok (.aload_n 0, 1) := by decide +kernel
theorem dX6_init_55 : decode cX6_init 55 = .ok (.iconst 0, 1) := by decide +kernel
theorem dX6_init_56 : decode cX6_init 56 = .ok (.putfield 31, 3) := by decide +kernel
theorem dX6_init_59 : decode cX6_init 59 = .ok (.aload_n 0, 1) := by decide +kernel
theorem dX6_init_60 : decode cX6_init 60 = .ok (.iconst 0, 1) := by decide +kernel
theorem dX6_init_61 : decode cX6_init 61 = .ok (.putfield 34, 3) := by decide +kernel
theorem dX6_init_64 : decode cX6_init 64 = .ok (.aload_n 0, 1) := by decide +kernel
theorem dX6_init_65 : decode cX6_init 65 = .ok (.iconst 0, 1) := by decide +kernel
theorem dX6_init_66 : decode cX6_init 66 = .ok (.iload_n 1, 1) := by decide +kernel
theorem dX6_init_67 : decode cX6_init 67 = .ok (.invokestatic 37, 3) := by decide +kernel
theorem dX6_init_70 : decode cX6_init 70 = .ok (.newarray .int, 2) := by decide +kernel
theorem dX6_init_72 : decode cX6_init 72 = .ok (.putfield 43, 3) := by decide +kernel
theorem dX6_init_75 : decode cX6_init 75 = .ok (.return_, 1) := by decide +kernel
theorem dX6_setSleep_0 : decode cX6_setSleep 0 = .ok (.iload_n 1, 1) := by decide +kernel
theorem dX6_setSleep_1 : decode cX6_setSleep 1 = .ok (.aload_n 0, 1) := by decide +kernel
theorem dX6_setSleep_2 : decode cX6_setSleep 2 = .ok (.getfield 15, 3) := by decide +kernel
theorem dX6_setSleep_5 : decode cX6_setSleep 5 = .ok (.arraylength, 1) := by decide +kernel
theorem dX6_setSleep_6 : decode cX6_setSleep 6 = .ok (.invokestatic 46, 3) := by decide +kernel
theorem dX6_setSleep_9 : decode cX6_setSleep 9 = .ok (.ifCond .eq 10, 3) := by decide +kernel
theorem dX6_setSleep_12 : decode cX6_setSleep 12 = .ok (.aload_n 0, 1) := by decide +kernel
theorem dX6_setSleep_13 : decode cX6_setSleep 13 = .ok (.getfield 15, 3) := by decide +kernel
theorem dX6_setSleep_16 : decode cX6_setSleep 16 = .ok (.iload_n 1, 1) := by decide +kernel
theorem dX6_setSleep_17 : decode cX6_setSleep 17 = .ok (.iload_n 2, 1) := by decide +kernel
theorem dX6_setSleep_18 : decode cX6_setSleep 18 = .ok (.iastore, 1) := by decide +kernel
theorem dX6_setSleep_19 : decode cX6_setSleep 19 = .ok (.return_, 1) := by decide +kernel
theorem dX6_yearsOfSleep_0 : decode cX6_yearsOfSleep 0 = .ok (.iload_n 1, 1) := by decide +kernel
theorem dX6_yearsOfSleep_1 : decode cX6_yearsOfSleep 1 = .ok (.aload_n 0, 1) := by decide +kernel
theorem dX6_yearsOfSleep_2 : decode cX6_yearsOfSleep 2 = .ok (.getfield 15, 3) := by decide +kernel
theorem dX6_yearsOfSleep_5 : decode cX6_yearsOfSleep 5 = .ok (.arraylength, 1) := by decide +kernel
theorem dX6_yearsOfSleep_6 : decode cX6_yearsOfSleep 6 = .ok (.invokestatic 46, 3) := by decide +kernel
theorem dX6_yearsOfSleep_9 : decode cX6_yearsOfSleep 9 = .ok (.ifCond .eq 12, 3) := by decide +kernel
theorem dX6_yearsOfSleep_12 : decode cX6_yearsOfSleep 12 = .ok (.aload_n 0, 1) := by decide +kernel
theorem dX6_yearsOfSleep_13 : decode cX6_yearsOfSleep 13 = .ok (.getfield 15, 3) := by decide +kernel
theorem dX6_yearsOfSleep_16 : decode cX6_yearsOfSleep 16 = .ok (.iload_n 1, 1) := by decide +kernel
theorem dX6_yearsOfSleep_17 : decode cX6_yearsOfSleep 17 = .ok (.iaload, 1) := by decide +kernel
theorem dX6_yearsOfSleep_18 : decode cX6_yearsOfSleep 18 = .ok (.goto 4, 3) := by decide +kernel
theorem dX6_yearsOfSleep_21 : decode cX6_yearsOfSleep 21 = .ok (.iconst 0, 1) := by decide +kernel
theorem dX6_yearsOfSleep_22 : decode cX6_yearsOfSleep 22 = .ok (.ireturn, 1) := by decide +kernel
theorem dX6_sortsThatCount_0 : decode cX6_sortsThatCount 0 = .ok (.aload_n 0, 1) := by decide +kernel
theorem dX6_sortsThatCount_1 : decode cX6_sortsThatCount 1 = .ok (.getfield 19, 3) := by decide +kernel
theorem dX6_sortsThatCount_4 : decode cX6_sortsThatCount 4 = .ok (.ifCond .ne 8, 3) := by decide +kernel
theorem dX6_sortsThatCount_7 : decode cX6_sortsThatCount 7 = .ok (.bipush 63, 2) := by decide +kernel
theorem dX6_sortsThatCount_9 : decode cX6_sortsThatCount 9 = .ok (.goto 7, 3) := by decide +kernel
theorem dX6_sortsThatCount_12 : decode cX6_sortsThatCount 12 = .ok (.aload_n 0, 1) := by decide +kernel
theorem dX6_sortsThatCount_13 : decode cX6_sortsThatCount 13 = .ok (.getfield 19, 3) := by decide +kernel
theorem dX6_sortsThatCount_16 : decode cX6_sortsThatCount 16 = .ok (.ireturn, 1) := by decide +kernel
theorem dX6_addCode_0 : decode cX6_addCode 0 = .ok (.aload_n 0, 1) := by decide +kernel
theorem dX6_addCode_1 : decode cX6_addCode 1 = .ok (.getfield 34, 3) := by decide +kernel
theorem dX6_addCode_4 : decode cX6_addCode 4 = .ok (.aload_n 0, 1) := by decide +kernel
theorem dX6_addCode_5 : decode cX6_addCode 5 = .ok (.getfield 43, 3) := by decide +kernel
theorem dX6_addCode_8 : decode cX6_addCode 8 = .ok (.arraylength, 1) := by decide +kernel
theorem dX6_addCode_9 : decode cX6_addCode 9 = .ok (.invokestatic 46, 3) := by decide +kernel
theorem dX6_addCode_12 : decode cX6_addCode 12 = .ok (.ifCond .eq 23, 3) := by decide +kernel
theorem dX6_addCode_15 : decode cX6_addCode 15 = .ok (.aload_n 0, 1) := by decide +kernel
theorem dX6_addCode_16 : decode cX6_addCode 16 = .ok (.getfield 43, 3) := by decide +kernel
theorem dX6_addCode_19 : decode cX6_addCode 19 = .ok (.aload_n 0, 1) := by decide +kernel
theorem dX6_addCode_20 : decode cX6_addCode 20 = .ok (.getfield 34, 3) := by decide +kernel
theorem dX6_addCode_23 : decode cX6_addCode 23 = .ok (.iload_n 1, 1) := by decide +kernel
theorem dX6_addCode_24 : decode cX6_addCode 24 = .ok (.iastore, 1) := by decide +kernel
theorem dX6_addCode_25 : decode cX6_addCode 25 = .ok (.aload_n 0, 1) := by decide +kernel
theorem dX6_addCode_26 : decode cX6_addCode 26 = .ok (.dup, 1) := by decide +kernel
theorem dX6_addCode_27 : decode cX6_addCode 27 = .ok (.getfield 34, 3) := by decide +kernel
theorem dX6_addCode_30 : decode cX6_addCode 30 = .ok (.iconst 1, 1) := by decide +kernel
theorem dX6_addCode_31 : decode cX6_addCode 31 = .ok (.iadd, 1) := by decide +kernel
theorem dX6_addCode_32 : decode cX6_addCode 32 = .ok (.putfield 34, 3) := by decide +kernel
theorem dX6_addCode_35 : decode cX6_addCode 35 = .ok (.return_, 1) := by decide +kernel
theorem dX6_codeLength_0 : decode cX6_codeLength 0 = .ok (.aload_n 0, 1) := by decide +kernel
theorem dX6_codeLength_1 : decode cX6_codeLength 1 = .ok (.getfield 34, 3) := by decide +kernel
theorem dX6_codeLength_4 : decode cX6_codeLength 4 = .ok (.ireturn, 1) := by decide +kernel
theorem dX6_codeAt_0 : decode cX6_codeAt 0 = .ok (.iload_n 1, 1) := by decide +kernel
theorem dX6_codeAt_1 : decode cX6_codeAt 1 = .ok (.aload_n 0, 1) := by decide +kernel
theorem dX6_codeAt_2 : decode cX6_codeAt 2 = .ok (.getfield 43, 3) := by decide +kernel
theorem dX6_codeAt_5 : decode cX6_codeAt 5 = .ok (.arraylength, 1) := by decide +kernel
theorem dX6_codeAt_6 : decode cX6_codeAt 6 = .ok (.invokestatic 46, 3) := by decide +kernel
theorem dX6_codeAt_9 : decode cX6_codeAt 9 = .ok (.ifCond .eq 12, 3) := by decide +kernel
theorem dX6_codeAt_12 : decode cX6_codeAt 12 = .ok (.aload_n 0, 1) := by decide +kernel
theorem dX6_codeAt_13 : decode cX6_codeAt 13 = .ok (.getfield 43, 3) := by decide +kernel
theorem dX6_codeAt_16 : decode cX6_codeAt 16 = .ok (.iload_n 1, 1) := by decide +kernel
theorem dX6_codeAt_17 : decode cX6_codeAt 17 = .ok (.iaload, 1) := by decide +kernel
theorem dX6_codeAt_18 : decode cX6_codeAt 18 = .ok (.goto 4, 3) := by decide +kernel
theorem dX6_codeAt_21 : decode cX6_codeAt 21 = .ok (.iconst 0, 1) := by decide +kernel
theorem dX6_codeAt_22 : decode cX6_codeAt 22 = .ok (.ireturn, 1) := by decide +kernel
theorem dX7_init_0 : decode cX7_init 0 = .ok (.aload_n 0, 1) := by decide +kernel
theorem dX7_init_1 : decode cX7_init 1 = .ok (.invokespecial 3, 3) := by decide +kernel
theorem dX7_init_4 : decode cX7_init 4 = .ok (.aload_n 0, 1) := by decide +kernel
theorem dX7_init_5 : decode cX7_init 5 = .ok (.iconst 0, 1) := by decide +kernel
theorem dX7_init_6 : decode cX7_init 6 = .ok (.putfield 9, 3) := by decide +kernel
theorem dX7_init_9 : decode cX7_init 9 = .ok (.aload_n 0, 1) := by decide +kernel
theorem dX7_init_10 : decode cX7_init 10 = .ok (.iconst (-1), 1) := by decide +kernel
theorem dX7_init_11 : decode cX7_init 11 = .ok (.putfield 15, 3) := by decide +kernel
theorem dX7_init_14 : decode cX7_init 14 = .ok (.aload_n 0, 1) := by decide +kernel
theorem dX7_init_15 : decode cX7_init 15 = .ok (.iconst 0, 1) := by decide +kernel
theorem dX7_init_16 : decode cX7_init 16 = .ok (.putfield 18, 3) := by decide +kernel
theorem dX7_init_19 : decode cX7_init 19 = .ok (.aload_n 0, 1) := by decide +kernel
theorem dX7_init_20 : decode cX7_init 20 = .ok (.iconst 0, 1) := by decide +kernel
theorem dX7_init_21 : decode cX7_init 21 = .ok (.putfield 23, 3) := by decide +kernel
theorem dX7_init_24 : decode cX7_init 24 = .ok (.aload_n 0, 1) := by decide +kernel
theorem dX7_init_25 : decode cX7_init 25 = .ok (.iconst 0, 1) := by decide +kernel
theorem dX7_init_26 : decode cX7_init 26 = .ok (.putfield 26, 3) := by decide +kernel
theorem dX7_init_29 : decode cX7_init 29 = .ok (.aload_n 0, 1) := by decide +kernel
theorem dX7_init_30 : decode cX7_init 30 = .ok (.iconst 0, 1) := by decide +kernel
theorem dX7_init_31 : decode cX7_init 31 = .ok (.putfield 29, 3) := by decide +kernel
theorem dX7_init_34 : decode cX7_init 34 = .ok (.aload_n 0, 1) := by decide +kernel
theorem dX7_init_35 : decode cX7_init 35 = .ok (.iconst 0, 1) := by decide +kernel
theorem dX7_init_36 : decode cX7_init 36 = .ok (.putfield 32, 3) := by decide +kernel
theorem dX7_init_39 : decode cX7_init 39 = .ok (.aload_n 0, 1) := by decide +kernel
theorem dX7_init_40 : decode cX7_init 40 = .ok (.aload_n 1, 1) := by decide +kernel
theorem dX7_init_41 : decode cX7_init 41 = .ok (.putfield 35, 3) := by decide +kernel
theorem dX7_init_44 : decode cX7_init 44 = .ok (.aload_n 0, 1) := by decide +kernel
theorem dX7_init_45 : decode cX7_init 45 = .ok (.new 39, 3) := by decide +kernel
theorem dX7_init_48 : decode cX7_init 48 = .ok (.dup, 1) := by decide +kernel
theorem dX7_init_49 : decode cX7_init 49 = .ok (.aload_n 1, 1) := by decide +kernel
theorem dX7_init_50 : decode cX7_init 50 = .ok (.invokevirtual 41, 3) := by decide +kernel
theorem dX7_init_53 : decode cX7_init 53 = .ok (.invokespecial 47, 3) := by decide +kernel
theorem dX7_init_56 : decode cX7_init 56 = .ok (.putfield 50, 3) := by decide +kernel
theorem dX7_init_59 : decode cX7_init 59 = .ok (.return_, 1) := by decide +kernel
theorem dX7_readLines_0 : decode cX7_readLines 0 = .ok (.aload_n 0, 1) := by decide +kernel
theorem dX7_readLines_1 : decode cX7_readLines 1 = .ok (.invokevirtual 54, 3) := by decide +kernel
theorem dX7_readLines_4 : decode cX7_readLines 4 = .ok (.iconst 0, 1) := by decide +kernel
theorem dX7_readLines_5 : decode cX7_readLines 5 = .ok (.istore_n 1, 1) := by decide +kernel
theorem dX7_readLines_6 : decode cX7_readLines 6 = .ok (.iload_n 1, 1) := by decide +kernel
theorem dX7_readLines_7 : decode cX7_readLines 7 = .ok (.bipush 24, 2) := by decide +kernel
theorem dX7_readLines_9 : decode cX7_readLines 9 = .ok (.if_icmp .gt 97, 3) := by decide +kernel
theorem dX7_readLines_12 : decode cX7_readLines 12 = .ok (.aload_n 0, 1) := by decide +kernel
theorem dX7_readLines_13 : decode cX7_readLines 13 = .ok (.getfield 23, 3) := by decide +kernel
theorem dX7_readLines_16 : decode cX7_readLines 16 = .ok (.ifCond .eq 90, 3) := by decide +kernel
theorem dX7_readLines_19 : decode cX7_readLines 19 = .ok (.aload_n 0, 1) := by decide +kernel
theorem dX7_readLines_20 : decode cX7_readLines 20 = .ok (.getfield 9, 3) := by decide +kernel
theorem dX7_readLines_23 : decode cX7_readLines 23 = .ok (.ifCond .ne 83, 3) := by decide +kernel
theorem dX7_readLines_26 : decode cX7_readLines 26 = .ok (.aload_n 0, 1) := by decide +kernel
theorem dX7_readLines_27 : decode cX7_readLines 27 = .ok (.getfield 23, 3) := by decide +kernel
theorem dX7_readLines_30 : decode cX7_readLines 30 = .ok (.istore_n 2, 1) := by decide +kernel
theorem dX7_readLines_31 : decode cX7_readLines 31 = .ok (.iload_n 2, 1) := by decide +kernel
theorem dX7_readLines_32 : decode cX7_readLines 32 = .ok (.iconst 3, 1) := by decide +kernel
theorem dX7_readLines_33 : decode cX7_readLines 33 = .ok (.if_icmp .lt 9, 3) := by decide +kernel
theorem dX7_readLines_36 : decode cX7_readLines 36 = .ok (.iload_n 2, 1) := by decide +kernel
theorem dX7_readLines_37 : decode cX7_readLines 37 = .ok (.bipush 8, 2) := by decide +kernel
theorem dX7_readLines_39 : decode cX7_readLines 39 = .ok (.if_icmp .le 11, 3) := by decide +kernel
theorem dX7_readLines_42 : decode cX7_readLines 42 = .ok (.aload_n 0, 1) := by decide +kernel
theorem dX7_readLines_43 : decode cX7_readLines 43 = .ok (.iconst 1, 1) := by decide +kernel
theorem dX7_readLines_44 : decode cX7_readLines 44 = .ok (.invokevirtual 57, 3) := by decide +kernel
theorem dX7_readLines_47 : decode cX7_readLines 47 = .ok (.goto 53, 3) := by decide +kernel
theorem dX7_readLines_50 : decode cX7_readLines 50 = .ok (.aload_n 0, 1) := by decide +kernel
theorem dX7_readLines_51 : decode cX7_readLines 51 = .ok (.getfield 50, 3) := by decide +kernel
theorem dX7_readLines_54 : decode cX7_readLines 54 = .ok (.getfield 60, 3) := by decide +kernel
theorem dX7_readLines_57 : decode cX7_readLines 57 = .ok (.bipush 24, 2) := by decide +kernel
theorem dX7_readLines_59 : decode cX7_readLines 59 = .ok (.if_icmp .lt 11, 3) := by decide +kernel
theorem dX7_readLines_62 : decode cX7_readLines 62 = .ok (.aload_n 0, 1) := by decide +kernel
theorem dX7_readLines_63 : decode cX7_readLines 63 = .ok (.iconst 3, 1) := by decide +kernel
theorem dX7_readLines_64 : decode cX7_readLines 64 = .ok (.invokevirtual 57, 3) := by decide +kernel
theorem dX7_readLines_67 : decode cX7_readLines 67 = .ok (.goto 33, 3) := by decide +kernel
theorem dX7_readLines_70 : decode cX7_readLines 70 = .ok (.aload_n 0, 1) := by decide +kernel
theorem dX7_readLines_71 : decode cX7_readLines 71 = .ok (.invokevirtual 54, 3) := by decide +kernel
theorem dX7_readLines_74 : decode cX7_readLines 74 = .ok (.iload_n 2, 1) := by decide +kernel
theorem dX7_readLines_75 : decode cX7_readLines 75 = .ok (.bipush 8, 2) := by decide +kernel
theorem dX7_readLines_77 : decode cX7_readLines 77 = .ok (.if_icmp .ne 14, 3) := by decide +kernel
theorem dX7_readLines_80 : decode cX7_readLines 80 = .ok (.aload_n 0, 1) := by decide +kernel
theorem dX7_readLines_81 : decode cX7_readLines 81 = .ok (.invokevirtual 63, 3) := by decide +kernel
theorem dX7_readLines_84 : decode cX7_readLines 84 = .ok (.aload_n 0, 1) := by decide +kernel
theorem dX7_readLines_85 : decode cX7_readLines 85 = .ok (.invokevirtual 66, 3) := by decide +kernel
theorem dX7_readLines_88 : decode cX7_readLines 88 = .ok (.goto 8, 3) := by decide +kernel
theorem dX7_readLines_91 : decode cX7_readLines 91 = .ok (.aload_n 0, 1) := by decide +kernel
theorem dX7_readLines_92 : decode cX7_readLines 92 = .ok (.iload_n 2, 1) := by decide +kernel
theorem dX7_readLines_93 : decode cX7_readLines 93 = .ok (.invokevirtual 69, 3) := by decide +kernel
theorem dX7_readLines_96 : decode cX7_readLines 96 = .ok (.aload_n 0, 1) := by decide +kernel
theorem dX7_readLines_97 : decode cX7_readLines 97 = .ok (.invokevirtual 72, 3) := by decide +kernel
theorem dX7_readLines_100 : decode cX7_readLines 100 = .ok (.iinc 1 1, 3) := by decide +kernel
theorem dX7_readLines_103 : decode cX7_readLines 103 = .ok (.goto (-97), 3) := by decide +kernel
theorem dX7_readLines_106 : decode cX7_readLines 106 = .ok (.return_, 1) := by decide +kernel
theorem dX7_readNumbers_0 : decode cX7_readNumbers 0 = .ok (.iload_n 1, 1) := by decide +kernel
theorem dX7_readNumbers_1 : decode cX7_readNumbers 1 = .ok (.tableswitch 114 3 6 #[31, 56, 79, 97], 31) := by decide +kernel
theorem dX7_readNumbers_32 : decode cX7_readNumbers 32 = .ok (.aload_n 0, 1) := by decide +kernel
theorem dX7_readNumbers_33 : decode cX7_readNumbers 33 = .ok (.iconst 0, 1) := by decide +kernel
theorem dX7_readNumbers_34 : decode cX7_readNumbers 34 = .ok (.iconst 3, 1) := by decide +kernel
theorem dX7_readNumbers_35 : decode cX7_readNumbers 35 = .ok (.invokevirtual 75, 3) := by decide +kernel
theorem dX7_readNumbers_38 : decode cX7_readNumbers 38 = .ok (.istore_n 2, 1) := by decide +kernel
theorem dX7_readNumbers_39 : decode cX7_readNumbers 39 = .ok (.aload_n 0, 1) := by decide +kernel
theorem dX7_readNumbers_40 : decode cX7_readNumbers 40 = .ok (.getfield 50, 3) := by decide +kernel
theorem dX7_readNumbers_43 : decode cX7_readNumbers 43 = .ok (.iload_n 2, 1) := by decide +kernel
theorem dX7_readNumbers_44 : decode cX7_readNumbers 44 = .ok (.aload_n 0, 1) := by decide +kernel
theorem dX7_readNumbers_45 : decode cX7_readNumbers 45 = .ok (.iconst 0, 1) := by decide +kernel
theorem dX7_readNumbers_46 : decode cX7_readNumbers 46 = .ok (.bipush 40, 2) := by decide +kernel
theorem dX7_readNumbers_48 : decode cX7_readNumbers 48 = .ok (.invokevirtual 75, 3) := by decide +kernel
theorem dX7_readNumbers_51 : decode cX7_readNumbers 51 = .ok (.invokevirtual 79, 3) := by decide +kernel
theorem dX7_readNumbers_54 : decode cX7_readNumbers 54 = .ok (.goto 90, 3) := by decide +kernel
theorem dX7_readNumbers_57 : decode cX7_readNumbers 57 = .ok (.aload_n 0, 1) := by decide +kernel
theorem dX7_readNumbers_58 : decode cX7_readNumbers 58 = .ok (.getfield 50, 3) := by decide +kernel
theorem dX7_readNumbers_61 : decode cX7_readNumbers 61 = .ok (.dup, 1) := by decide +kernel
theorem dX7_readNumbers_62 : decode cX7_readNumbers 62 = .ok (.getfield 83, 3) := by decide +kernel
theorem dX7_readNumbers_65 : decode cX7_readNumbers 65 = .ok (.iconst 1, 1) := by decide +kernel
theorem dX7_readNumbers_66 : decode cX7_readNumbers 66 = .ok (.aload_n 0, 1) := by decide +kernel
theorem dX7_readNumbers_67 : decode cX7_readNumbers 67 = .ok (.iconst 0, 1) := by decide +kernel
theorem dX7_readNumbers_68 : decode cX7_readNumbers 68 = .ok (.iconst 5, 1) := by decide +kernel
theorem dX7_readNumbers_69 : decode cX7_readNumbers 69 = .ok (.invokevirtual 75, 3) := by decide +kernel
theorem dX7_readNumbers_72 : decode cX7_readNumbers 72 = .ok (.ishl, 1) := by decide +kernel
theorem dX7_readNumbers_73 : decode cX7_readNumbers 73 = .ok (.ior, 1) := by decide +kernel
theorem dX7_readNumbers_74 : decode cX7_readNumbers 74 = .ok (.putfield 83, 3) := by decide +kernel
theorem dX7_readNumbers_77 : decode cX7_readNumbers 77 = .ok (.goto 67, 3) := by decide +kernel
theorem dX7_readNumbers_80 : decode cX7_readNumbers 80 = .ok (.aload_n 0, 1) := by decide +kernel
theorem dX7_readNumbers_81 : decode cX7_readNumbers 81 = .ok (.getfield 50, 3) := by decide +kernel
theorem dX7_readNumbers_84 : decode cX7_readNumbers 84 = .ok (.aload_n 0, 1) := by decide +kernel
theorem dX7_readNumbers_85 : decode cX7_readNumbers 85 = .ok (.iconst 0, 1) := by decide +kernel
theorem dX7_readNumbers_86 : decode cX7_readNumbers 86 = .ok (.sipush 999, 3) := by decide +kernel
theorem dX7_readNumbers_89 : decode cX7_readNumbers 89 = .ok (.invokevirtual 75, 3) := by decide +kernel
theorem dX7_readNumbers_92 : decode cX7_readNumbers 92 = .ok (.putfield 86, 3) := by decide +kernel
theorem dX7_readNumbers_95 : decode cX7_readNumbers 95 = .ok (.goto 49, 3) := by decide +kernel
theorem dX7_readNumbers_98 : decode cX7_readNumbers 98 = .ok (.aload_n 0, 1) := by decide +kernel
theorem dX7_readNumbers_99 : decode cX7_readNumbers 99 = .ok (.getfield 50, 3) := by decide +kernel
theorem dX7_readNumbers_102 : decode cX7_readNumbers 102 = .ok (.aload_n 0, 1) := by decide +kernel
theorem dX7_readNumbers_103 : decode cX7_readNumbers 103 = .ok (.iconst 0, 1) := by decide +kernel
theorem dX7_readNumbers_104 : decode cX7_readNumbers 104 = .ok (.bipush 100, 2) := by decide +kernel
theorem dX7_readNumbers_106 : decode cX7_readNumbers 106 = .ok (.invokevirtual 75, 3) := by decide +kernel
theorem dX7_readNumbers_109 : decode cX7_readNumbers 109 = .ok (.putfield 89, 3) := by decide +kernel
theorem dX7_readNumbers_112 : decode cX7_readNumbers 112 = .ok (.goto 32, 3) := by decide +kernel
theorem dX7_readNumbers_115 : decode cX7_readNumbers 115 = .ok (.aload_n 0, 1) := by decide +kernel
theorem dX7_readNumbers_116 : decode cX7_readNumbers 116 = .ok (.getfield 50, 3) := by decide +kernel
theorem dX7_readNumbers_119 : decode cX7_readNumbers 119 = .ok (.aload_n 0, 1) := by decide +kernel
theorem dX7_readNumbers_120 : decode cX7_readNumbers 120 = .ok (.iconst 0, 1) := by decide +kernel
theorem dX7_readNumbers_121 : decode cX7_readNumbers 121 = .ok (.sipush 200, 3) := by decide +kernel
theorem dX7_readNumbers_124 : decode cX7_readNumbers 124 = .ok (.invokevirtual 75, 3) := by decide +kernel
theorem dX7_readNumbers_127 : decode cX7_readNumbers 127 = .ok (.putfield 92, 3) := by decide +kernel
theorem dX7_readNumbers_130 : decode cX7_readNumbers 130 = .ok (.aload_n 0, 1) := by decide +kernel
theorem dX7_readNumbers_131 : decode cX7_readNumbers 131 = .ok (.getfield 50, 3) := by decide +kernel
theorem dX7_readNumbers_134 : decode cX7_readNumbers 134 = .ok (.aload_n 0, 1) := by decide +kernel
theorem dX7_readNumbers_135 : decode cX7_readNumbers 135 = .ok (.iconst 0, 1) := by decide +kernel
theorem dX7_readNumbers_136 : decode cX7_readNumbers 136 = .ok (.bipush 40, 2) := by decide +kernel
theorem dX7_readNumbers_138 : decode cX7_readNumbers 138 = .ok (.invokevirtual 75, 3) := by decide +kernel
theorem dX7_readNumbers_141 : decode cX7_readNumbers 141 = .ok (.putfield 95, 3) := by decide +kernel
theorem dX7_readNumbers_144 : decode cX7_readNumbers 144 = .ok (.return_, 1) := by decide +kernel
theorem dX7_readCondition_0 : decode cX7_readCondition 0 = .ok (.aload_n 0, 1) := by decide +kernel
theorem dX7_readCondition_1 : decode cX7_readCondition 1 = .ok (.getfield 23, 3) := by decide +kernel
theorem dX7_readCondition_4 : decode cX7_readCondition 4 = .ok (.bipush 9, 2) := by decide +kernel
theorem dX7_readCondition_6 : decode cX7_readCondition 6 = .ok (.if_icmp .eq 13, 3) := by decide +kernel
theorem dX7_readCondition_9 : decode cX7_readCondition 9 = .ok (.aload_n 0, 1) := by decide +kernel
theorem dX7_readCondition_10 : decode cX7_readCondition 10 = .ok (.getfield 50, 3) := by decide +kernel
theorem dX7_readCondition_13 : decode cX7_readCondition 13 = .ok (.bipush (-8), 2) := by decide +kernel
theorem dX7_readCondition_15 : decode cX7_readCondition 15 = .ok (.invokevirtual 98, 3) := by decide +kernel
theorem dX7_readCondition_18 : decode cX7_readCondition 18 = .ok (.return_, 1) := by decide +kernel
theorem dX7_readCondition_19 : decode cX7_readCondition 19 = .ok (.aload_n 0, 1) := by decide +kernel
theorem dX7_readCondition_20 : decode cX7_readCondition 20 = .ok (.invokevirtual 54, 3) := by decide +kernel
theorem dX7_readCondition_23 : decode cX7_readCondition 23 = .ok (.iconst 0, 1) := by decide +kernel
theorem dX7_readCondition_24 : decode cX7_readCondition 24 = .ok (.istore_n 1, 1) := by decide +kernel
theorem dX7_readCondition_25 : decode cX7_readCondition 25 = .ok (.aload_n 0, 1) := by decide +kernel
theorem dX7_readCondition_26 : decode cX7_readCondition 26 = .ok (.invokevirtual 101, 3) := by decide +kernel
theorem dX7_readCondition_29 : decode cX7_readCondition 29 = .ok (.iconst 0, 1) := by decide +kernel
theorem dX7_readCondition_30 : decode cX7_readCondition 30 = .ok (.istore_n 2, 1) := by decide +kernel
theorem dX7_readCondition_31 : decode cX7_readCondition 31 = .ok (.iload_n 2, 1) := by decide +kernel
theorem dX7_readCondition_32 : decode cX7_readCondition 32 = .ok (.aload_n 0, 1) := by decide +kernel
theorem dX7_readCondition_33 : decode cX7_readCondition 33 = .ok (.getfield 35, 3) := by decide +kernel
theorem dX7_readCondition_36 : decode cX7_readCondition 36 = .ok (.invokevirtual 41, 3) := by decide +kernel
theorem dX7_readCondition_39 : decode cX7_readCondition 39 = .ok (.if_icmp .ge 94, 3) := by decide +kernel
theorem dX7_readCondition_42 : decode cX7_readCondition 42 = .ok (.aload_n 0, 1) := by decide +kernel
theorem dX7_readCondition_43 : decode cX7_readCondition 43 = .ok (.getfield 23, 3) := by decide +kernel
theorem dX7_readCondition_46 : decode cX7_readCondition 46 = .ok (.bipush 14, 2) := by decide +kernel
theorem dX7_readCondition_48 : decode cX7_readCondition 48 = .ok (.if_icmp .eq 12, 3) := by decide +kernel
theorem dX7_readCondition_51 : decode cX7_readCondition 51 = .ok (.aload_n 0, 1) := by decide +kernel
theorem dX7_readCondition_52 : decode cX7_readCondition 52 = .ok (.getfield 23, 3) := by decide +kernel
theorem dX7_readCondition_55 : decode cX7_readCondition 55 = .ok (.bipush 15, 2) := by decide +kernel
theorem dX7_readCondition_57 : decode cX7_readCondition 57 = .ok (.if_icmp .ne 76, 3) := by decide +kernel
theorem dX7_readCondition_60 : decode cX7_readCondition 60 = .ok (.aload_n 0, 1) := by decide +kernel
theorem dX7_readCondition_61 : decode cX7_readCondition 61 = .ok (.getfield 23, 3) := by decide +kernel
theorem dX7_readCondition_64 : decode cX7_readCondition 64 = .ok (.bipush 14, 2) := by decide +kernel
theorem dX7_readCondition_66 : decode cX7_readCondition 66 = .ok (.if_icmp .ne 7, 3) := by decide +kernel
theorem dX7_readCondition_69 : decode cX7_readCondition 69 = .ok (.iconst 1, 1) := by decide +kernel
theorem dX7_readCondition_70 : decode cX7_readCondition 70 = .ok (.goto 4, 3) := by decide +kernel
theorem dX7_readCondition_73 : decode cX7_readCondition 73 = .ok (.iconst 0, 1) := by decide +kernel
theorem dX7_readCondition_74 : decode cX7_readCondition 74 = .ok (.istore_n 3, 1) := by decide +kernel
theorem dX7_readCondition_75 : decode cX7_readCondition 75 = .ok (.iload_n 3, 1) := by decide +kernel
theorem dX7_readCondition_76 : decode cX7_readCondition 76 = .ok (.ifCond .eq 16, 3) := by decide +kernel
theorem dX7_readCondition_79 : decode cX7_readCondition 79 = .ok (.iload_n 1, 1) := by decide +kernel
theorem dX7_readCondition_80 : decode cX7_readCondition 80 = .ok (.ifCond .eq 12, 3) := by decide +kernel
theorem dX7_readCondition_83 : decode cX7_readCondition 83 = .ok (.aload_n 0, 1) := by decide +kernel
theorem dX7_readCondition_84 : decode cX7_readCondition 84 = .ok (.getfield 50, 3) := by decide +kernel
theorem dX7_readCondition_87 : decode cX7_readCondition 87 = .ok (.bipush (-14), 2) := by decide +kernel
theorem dX7_readCondition_89 : decode cX7_readCondition 89 = .ok (.invokevirtual 98, 3) := by decide +kernel
theorem dX7_readCondition_92 : decode cX7_readCondition 92 = .ok (.iload_n 1, 1) := by decide +kernel
theorem dX7_readCondition_93 : decode cX7_readCondition 93 = .ok (.ifCond .ne 7, 3) := by decide +kernel
theorem dX7_readCondition_96 : decode cX7_readCondition 96 = .ok (.iload_n 3, 1) := by decide +kernel
theorem dX7_readCondition_97 : decode cX7_readCondition 97 = .ok (.ifCond .eq 7, 3) := by decide +kernel
theorem dX7_readCondition_100 : decode cX7_readCondition 100 = .ok (.iconst 1, 1) := by decide +kernel
theorem dX7_readCondition_101 : decode cX7_readCondition 101 = .ok (.goto 4, 3) := by decide +kernel
theorem dX7_readCondition_104 : decode cX7_readCondition 104 = .ok (.iconst 0, 1) := by decide +kernel
theorem dX7_readCondition_105 : decode cX7_readCondition 105 = .ok (.istore_n 1, 1) := by decide +kernel
theorem dX7_readCondition_106 : decode cX7_readCondition 106 = .ok (.aload_n 0, 1) := by decide +kernel
theorem dX7_readCondition_107 : decode cX7_readCondition 107 = .ok (.invokevirtual 54, 3) := by decide +kernel
theorem dX7_readCondition_110 : decode cX7_readCondition 110 = .ok (.aload_n 0, 1) := by decide +kernel
theorem dX7_readCondition_111 : decode cX7_readCondition 111 = .ok (.invokevirtual 101, 3) := by decide +kernel
theorem dX7_readCondition_114 : decode cX7_readCondition 114 = .ok (.iload_n 3, 1) := by decide +kernel
theorem dX7_readCondition_115 : decode cX7_readCondition 115 = .ok (.ifCond .ne 12, 3) := by decide +kernel
theorem dX7_readCondition_118 : decode cX7_readCondition 118 = .ok (.aload_n 0, 1) := by decide +kernel
theorem dX7_readCondition_119 : decode cX7_readCondition 119 = .ok (.getfield 50, 3) := by decide +kernel
theorem dX7_readCondition_122 : decode cX7_readCondition 122 = .ok (.bipush (-15), 2) := by decide +kernel
theorem dX7_readCondition_124 : decode cX7_readCondition 124 = .ok (.invokevirtual 98, 3) := by decide +kernel
theorem dX7_readCondition_127 : decode cX7_readCondition 127 = .ok (.iinc 2 1, 3) := by decide +kernel
theorem dX7_readCondition_130 : decode cX7_readCondition 130 = .ok (.goto (-99), 3) := by decide +kernel
theorem dX7_readCondition_133 : decode cX7_readCondition 133 = .ok (.iload_n 1, 1) := by decide +kernel
theorem dX7_readCondition_134 : decode cX7_readCondition 134 = .ok (.ifCond .eq 12, 3) := by decide +kernel
theorem dX7_readCondition_137 : decode cX7_readCondition 137 = .ok (.aload_n 0, 1) := by decide +kernel
theorem dX7_readCondition_138 : decode cX7_readCondition 138 = .ok (.getfield 50, 3) := by decide +kernel
theorem dX7_readCondition_141 : decode cX7_readCondition 141 = .ok (.bipush (-14), 2) := by decide +kernel
theorem dX7_readCondition_143 : decode cX7_readCondition 143 = .ok (.invokevirtual 98, 3) := by decide +kernel
theorem dX7_readCondition_146 : decode cX7_readCondition 146 = .ok (.aload_n 0, 1) := by decide +kernel
theorem dX7_readCondition_147 : decode cX7_readCondition 147 = .ok (.getfield 50, 3) := by decide +kernel
theorem dX7_readCondition_150 : decode cX7_readCondition 150 = .ok (.bipush (-9), 2) := by decide +kernel
theorem dX7_readCondition_152 : decode cX7_readCondition 152 = .ok (.invokevirtual 98, 3) := by decide +kernel
theorem dX7_readCondition_155 : decode cX7_readCondition 155 = .ok (.return_, 1) := by decide +kernel
theorem dX7_readTest_0 : decode cX7_readTest 0 = .ok (.iconst 0, 1) := by decide +kernel
theorem dX7_readTest_1 : decode cX7_readTest 1 = .ok (.istore_n 1, 1) := by decide +kernel
theorem dX7_readTest_2 : decode cX7_readTest 2 = .ok (.iload_n 1, 1) := by decide +kernel
theorem dX7_readTest_3 : decode cX7_readTest 3 = .ok (.bipush 8, 2) := by decide +kernel
theorem dX7_readTest_5 : decode cX7_readTest 5 = .ok (.if_icmp .gt 29, 3) := by decide +kernel
theorem dX7_readTest_8 : decode cX7_readTest 8 = .ok (.aload_n 0, 1) := by decide +kernel
theorem dX7_readTest_9 : decode cX7_readTest 9 = .ok (.getfield 23, 3) := by decide +kernel
theorem dX7_readTest_12 : decode cX7_readTest 12 = .ok (.bipush 16, 2) := by decide +kernel
theorem dX7_readTest_14 : decode cX7_readTest 14 = .ok (.if_icmp .ne 20, 3) := by decide +kernel
theorem dX7_readTest_17 : decode cX7_readTest 17 = .ok (.aload_n 0, 1) := by decide +kernel
theorem dX7_readTest_18 : decode cX7_readTest 18 = .ok (.invokevirtual 104, 3) := by decide +kernel
theorem dX7_readTest_21 : decode cX7_readTest 21 = .ok (.ifCond .eq 13, 3) := by decide +kernel
theorem dX7_readTest_24 : decode cX7_readTest 24 = .ok (.aload_n 0, 1) := by decide +kernel
theorem dX7_readTest_25 : decode cX7_readTest 25 = .ok (.invokevirtual 54, 3) := by decide +kernel
theorem dX7_readTest_28 : decode cX7_readTest 28 = .ok (.iinc 1 1, 3) := by decide +kernel
theorem dX7_readTest_31 : decode cX7_readTest 31 = .ok (.goto (-29), 3) := by decide +kernel
theorem dX7_readTest_34 : decode cX7_readTest 34 = .ok (.aload_n 0, 1) := by decide +kernel
theorem dX7_readTest_35 : decode cX7_readTest 35 = .ok (.invokevirtual 63, 3) := by decide +kernel
theorem dX7_readTest_38 : decode cX7_readTest 38 = .ok (.aload_n 0, 1) := by decide +kernel
theorem dX7_readTest_39 : decode cX7_readTest 39 = .ok (.getfield 23, 3) := by decide +kernel
theorem dX7_readTest_42 : decode cX7_readTest 42 = .ok (.istore_n 2, 1) := by decide +kernel
theorem dX7_readTest_43 : decode cX7_readTest 43 = .ok (.iload_n 2, 1) := by decide +kernel
theorem dX7_readTest_44 : decode cX7_readTest 44 = .ok (.bipush 24, 2) := by decide +kernel
theorem dX7_readTest_46 : decode cX7_readTest 46 = .ok (.if_icmp .lt 9, 3) := by decide +kernel
theorem dX7_readTest_49 : decode cX7_readTest 49 = .ok (.iload_n 2, 1) := by decide +kernel
theorem dX7_readTest_50 : decode cX7_readTest 50 = .ok (.bipush 26, 2) := by decide +kernel
theorem dX7_readTest_52 : decode cX7_readTest 52 = .ok (.if_icmp .le 9, 3) := by decide +kernel
theorem dX7_readTest_55 : decode cX7_readTest 55 = .ok (.aload_n 0, 1) := by decide +kernel
theorem dX7_readTest_56 : decode cX7_readTest 56 = .ok (.iconst 1, 1) := by decide +kernel
theorem dX7_readTest_57 : decode cX7_readTest 57 = .ok (.invokevirtual 57, 3) := by decide +kernel
theorem dX7_readTest_60 : decode cX7_readTest 60 = .ok (.return_, 1) := by decide +kernel
theorem dX7_readTest_61 : decode cX7_readTest 61 = .ok (.aload_n 0, 1) := by decide +kernel
theorem dX7_readTest_62 : decode cX7_readTest 62 = .ok (.invokevirtual 54, 3) := by decide +kernel
theorem dX7_readTest_65 : decode cX7_readTest 65 = .ok (.aload_n 0, 1) := by decide +kernel
theorem dX7_readTest_66 : decode cX7_readTest 66 = .ok (.invokevirtual 63, 3) := by decide +kernel
theorem dX7_readTest_69 : decode cX7_readTest 69 = .ok (.aload_n 0, 1) := by decide +kernel
theorem dX7_readTest_70 : decode cX7_readTest 70 = .ok (.getfield 50, 3) := by decide +kernel
theorem dX7_readTest_73 : decode cX7_readTest 73 = .ok (.iload_n 2, 1) := by decide +kernel
theorem dX7_readTest_74 : decode cX7_readTest 74 = .ok (.ineg, 1) := by decide +kernel
theorem dX7_readTest_75 : decode cX7_readTest 75 = .ok (.invokevirtual 98, 3) := by decide +kernel
theorem dX7_readTest_78 : decode cX7_readTest 78 = .ok (.iload_n 1, 1) := by decide +kernel
theorem dX7_readTest_79 : decode cX7_readTest 79 = .ok (.iconst 2, 1) := by decide +kernel
theorem dX7_readTest_80 : decode cX7_readTest 80 = .ok (.irem, 1) := by decide +kernel
theorem dX7_readTest_81 : decode cX7_readTest 81 = .ok (.iconst 1, 1) := by decide +kernel
theorem dX7_readTest_82 : decode cX7_readTest 82 = .ok (.if_icmp .ne 12, 3) := by decide +kernel
theorem dX7_readTest_85 : decode cX7_readTest 85 = .ok (.aload_n 0, 1) := by decide +kernel
theorem dX7_readTest_86 : decode cX7_readTest 86 = .ok (.getfield 50, 3) := by decide +kernel
theorem dX7_readTest_89 : decode cX7_readTest 89 = .ok (.bipush (-16), 2) := by decide +kernel
theorem dX7_readTest_91 : decode cX7_readTest 91 = .ok (.invokevirtual 98, 3) := by decide +kernel
theorem dX7_readTest_94 : decode cX7_readTest 94 = .ok (.aload_n 0, 1) := by decide +kernel
theorem dX7_readTest_95 : decode cX7_readTest 95 = .ok (.dup, 1) := by decide +kernel
theorem dX7_readTest_96 : decode cX7_readTest 96 = .ok (.getfield 32, 3) := by decide +kernel
theorem dX7_readTest_99 : decode cX7_readTest 99 = .ok (.iload_n 1, 1) := by decide +kernel
theorem dX7_readTest_100 : decode cX7_readTest 100 = .ok (.isub, 1) := by decide +kernel
theorem dX7_readTest_101 : decode cX7_readTest 101 = .ok (.putfield 32, 3) := by decide +kernel
theorem dX7_readTest_104 : decode cX7_readTest 104 = .ok (.return_, 1) := by decide +kernel
theorem dX7_readTerms_0 : decode cX7_readTerms 0 = .ok (.iconst 0, 1) := by decide +kernel
theorem dX7_readTerms_1 : decode cX7_readTerms 1 = .ok (.istore_n 1, 1) := by decide +kernel
theorem dX7_readTerms_2 : decode cX7_readTerms 2 = .ok (.aload_n 0, 1) := by decide +kernel
theorem dX7_readTerms_3 : decode cX7_readTerms 3 = .ok (.invokevirtual 108, 3) := by decide +kernel
theorem dX7_readTerms_6 : decode cX7_readTerms 6 = .ok (.iconst 0, 1) := by decide +kernel
theorem dX7_readTerms_7 : decode cX7_readTerms 7 = .ok (.istore_n 2, 1) := by decide +kernel
theorem dX7_readTerms_8 : decode cX7_readTerms 8 = .ok (.iload_n 2, 1) := by decide +kernel
theorem dX7_readTerms_9 : decode cX7_readTerms 9 = .ok (.aload_n 0, 1) := by decide +kernel
theorem dX7_readTerms_10 : decode cX7_readTerms 10 = .ok (.getfield 35, 3) := by decide +kernel
theorem dX7_readTerms_13 : decode cX7_readTerms 13 = .ok (.invokevirtual 41, 3) := by decide +kernel
theorem dX7_readTerms_16 : decode cX7_readTerms 16 = .ok (.if_icmp .ge 125, 3) := by decide +kernel
theorem dX7_readTerms_19 : decode cX7_readTerms 19 = .ok (.aload_n 0, 1) := by decide +kernel
theorem dX7_readTerms_20 : decode cX7_readTerms 20 = .ok (.getfield 23, 3) := by decide +kernel
theorem dX7_readTerms_23 : decode cX7_readTerms 23 = .ok (.bipush 18, 2) := by decide +kernel
theorem dX7_readTerms_25 : decode cX7_readTerms 25 = .ok (.if_icmp .lt 116, 3) := by decide +kernel
theorem dX7_readTerms_28 : decode cX7_readTerms 28 = .ok (.aload_n 0, 1) := by decide +kernel
theorem dX7_readTerms_29 : decode cX7_readTerms 29 = .ok (.getfield 23, 3) := by decide +kernel
theorem dX7_readTerms_32 : decode cX7_readTerms 32 = .ok (.bipush 21, 2) := by decide +kernel
theorem dX7_readTerms_34 : decode cX7_readTerms 34 = .ok (.if_icmp .gt 107, 3) := by decide +kernel
theorem dX7_readTerms_37 : decode cX7_readTerms 37 = .ok (.aload_n 0, 1) := by decide +kernel
theorem dX7_readTerms_38 : decode cX7_readTerms 38 = .ok (.getfield 23, 3) := by decide +kernel
theorem dX7_readTerms_41 : decode cX7_readTerms 41 = .ok (.istore_n 3, 1) := by decide +kernel
theorem dX7_readTerms_42 : decode cX7_readTerms 42 = .ok (.iload_n 3, 1) := by decide +kernel
theorem dX7_readTerms_43 : decode cX7_readTerms 43 = .ok (.bipush 18, 2) := by decide +kernel
theorem dX7_readTerms_45 : decode cX7_readTerms 45 = .ok (.if_icmp .eq 9, 3) := by decide +kernel
theorem dX7_readTerms_48 : decode cX7_readTerms 48 = .ok (.iload_n 3, 1) := by decide +kernel
theorem dX7_readTerms_49 : decode cX7_readTerms 49 = .ok (.bipush 19, 2) := by decide +kernel
theorem dX7_readTerms_51 : decode cX7_readTerms 51 = .ok (.if_icmp .ne 7, 3) := by decide +kernel
theorem dX7_readTerms_54 : decode cX7_readTerms 54 = .ok (.iconst 1, 1) := by decide +kernel
theorem dX7_readTerms_55 : decode cX7_readTerms 55 = .ok (.goto 4, 3) := by decide +kernel
theorem dX7_readTerms_58 : decode cX7_readTerms 58 = .ok (.iconst 0, 1) := by decide +kernel
theorem dX7_readTerms_59 : decode cX7_readTerms 59 = .ok (.istore 4, 2) := by decide +kernel
theorem dX7_readTerms_61 : decode cX7_readTerms 61 = .ok (.iload 4, 2) := by decide +kernel
theorem dX7_readTerms_63 : decode cX7_readTerms 63 = .ok (.ifCond .eq 16, 3) := by decide +kernel
theorem dX7_readTerms_66 : decode cX7_readTerms 66 = .ok (.iload_n 1, 1) := by decide +kernel
theorem dX7_readTerms_67 : decode cX7_readTerms 67 = .ok (.ifCond .eq 12, 3) := by decide +kernel
theorem dX7_readTerms_70 : decode cX7_readTerms 70 = .ok (.aload_n 0, 1) := by decide +kernel
theorem dX7_readTerms_71 : decode cX7_readTerms 71 = .ok (.getfield 50, 3) := by decide +kernel
theorem dX7_readTerms_74 : decode cX7_readTerms 74 = .ok (.iload_n 1, 1) := by decide +kernel
theorem dX7_readTerms_75 : decode cX7_readTerms 75 = .ok (.ineg, 1) := by decide +kernel
theorem dX7_readTerms_76 : decode cX7_readTerms 76 = .ok (.invokevirtual 98, 3) := by decide +kernel
theorem dX7_readTerms_79 : decode cX7_readTerms 79 = .ok (.iload 4, 2) := by decide +kernel
theorem dX7_readTerms_81 : decode cX7_readTerms 81 = .ok (.ifCond .eq 7, 3) := by decide +kernel
theorem dX7_readTerms_84 : decode cX7_readTerms 84 = .ok (.iload_n 3, 1) := by decide +kernel
theorem dX7_readTerms_85 : decode cX7_readTerms 85 = .ok (.goto 4, 3) := by decide +kernel
theorem dX7_readTerms_88 : decode cX7_readTerms 88 = .ok (.iload_n 1, 1) := by decide +kernel
theorem dX7_readTerms_89 : decode cX7_readTerms 89 = .ok (.istore_n 1, 1) := by decide +kernel
theorem dX7_readTerms_90 : decode cX7_readTerms 90 = .ok (.aload_n 0, 1) := by decide +kernel
theorem dX7_readTerms_91 : decode cX7_readTerms 91 = .ok (.invokevirtual 54, 3) := by decide +kernel
theorem dX7_readTerms_94 : decode cX7_readTerms 94 = .ok (.iload_n 3, 1) := by decide +kernel
theorem dX7_readTerms_95 : decode cX7_readTerms 95 = .ok (.bipush 21, 2) := by decide +kernel
theorem dX7_readTerms_97 : decode cX7_readTerms 97 = .ok (.if_icmp .ne 20, 3) := by decide +kernel
theorem dX7_readTerms_100 : decode cX7_readTerms 100 = .ok (.aload_n 0, 1) := by decide +kernel
theorem dX7_readTerms_101 : decode cX7_readTerms 101 = .ok (.getfield 50, 3) := by decide +kernel
theorem dX7_readTerms_104 : decode cX7_readTerms 104 = .ok (.aload_n 0, 1) := by decide +kernel
theorem dX7_readTerms_105 : decode cX7_readTerms 105 = .ok (.iconst 1, 1) := by decide +kernel
theorem dX7_readTerms_106 : decode cX7_readTerms 106 = .ok (.ldc 111, 2) := by decide +kernel
theorem dX7_readTerms_108 : decode cX7_readTerms 108 = .ok (.invokevirtual 75, 3) := by decide +kernel
theorem dX7_readTerms_111 : decode cX7_readTerms 111 = .ok (.invokevirtual 98, 3) := by decide +kernel
theorem dX7_readTerms_114 : decode cX7_readTerms 114 = .ok (.goto 7, 3) := by decide +kernel
theorem dX7_readTerms_117 : decode cX7_readTerms 117 = .ok (.aload_n 0, 1) := by decide +kernel
theorem dX7_readTerms_118 : decode cX7_readTerms 118 = .ok (.invokevirtual 108, 3) := by decide +kernel
theorem dX7_readTerms_121 : decode cX7_readTerms 121 = .ok (.iload 4, 2) := by decide +kernel
theorem dX7_readTerms_123 : decode cX7_readTerms 123 = .ok (.ifCond .ne 12, 3) := by decide +kernel
theorem dX7_readTerms_126 : decode cX7_readTerms 126 = .ok (.aload_n 0, 1) := by decide +kernel
theorem dX7_readTerms_127 : decode cX7_readTerms 127 = .ok (.getfield 50, 3) := by decide +kernel
theorem dX7_readTerms_130 : decode cX7_readTerms 130 = .ok (.iload_n 3, 1) := by decide +kernel
theorem dX7_readTerms_131 : decode cX7_readTerms 131 = .ok (.ineg, 1) := by decide +kernel
theorem dX7_readTerms_132 : decode cX7_readTerms 132 = .ok (.invokevirtual 98, 3) := by decide +kernel
theorem dX7_readTerms_135 : decode cX7_readTerms 135 = .ok (.iinc 2 1, 3) := by decide +kernel
theorem dX7_readTerms_138 : decode cX7_readTerms 138 = .ok (.goto (-130), 3) := by decide +kernel
theorem dX7_readTerms_141 : decode cX7_readTerms 141 = .ok (.iload_n 1, 1) := by decide +kernel
theorem dX7_readTerms_142 : decode cX7_readTerms 142 = .ok (.ifCond .eq 12, 3) := by decide +kernel
theorem dX7_readTerms_145 : decode cX7_readTerms 145 = .ok (.aload_n 0, 1) := by decide +kernel
theorem dX7_readTerms_146 : decode cX7_readTerms 146 = .ok (.getfield 50, 3) := by decide +kernel
theorem dX7_readTerms_149 : decode cX7_readTerms 149 = .ok (.iload_n 1, 1) := by decide +kernel
theorem dX7_readTerms_150 : decode cX7_readTerms 150 = .ok (.ineg, 1) := by decide +kernel
theorem dX7_readTerms_151 : decode cX7_readTerms 151 = .ok (.invokevirtual 98, 3) := by decide +kernel
theorem dX7_readTerms_154 : decode cX7_readTerms 154 = .ok (.return_, 1) := by decide +kernel
theorem dX7_readUnit_0 : decode cX7_readUnit 0 = .ok (.aload_n 0, 1) := by decide +kernel
theorem dX7_readUnit_1 : decode cX7_readUnit 1 = .ok (.getfield 23, 3) := by decide +kernel
theorem dX7_readUnit_4 : decode cX7_readUnit 4 = .ok (.iconst 2, 1) := by decide +kernel
theorem dX7_readUnit_5 : decode cX7_readUnit 5 = .ok (.if_icmp .ne 21, 3) := by decide +kernel
theorem dX7_readUnit_8 : decode cX7_readUnit 8 = .ok (.aload_n 0, 1) := by decide +kernel
theorem dX7_readUnit_9 : decode cX7_readUnit 9 = .ok (.getfield 50, 3) := by decide +kernel
theorem dX7_readUnit_12 : decode cX7_readUnit 12 = .ok (.aload_n 0, 1) := by decide +kernel
theorem dX7_readUnit_13 : decode cX7_readUnit 13 = .ok (.getfield 29, 3) := by decide +kernel
theorem dX7_readUnit_16 : decode cX7_readUnit 16 = .ok (.invokevirtual 98, 3) := by decide +kernel
theorem dX7_readUnit_19 : decode cX7_readUnit 19 = .ok (.aload_n 0, 1) := by decide +kernel
theorem dX7_readUnit_20 : decode cX7_readUnit 20 = .ok (.invokevirtual 54, 3) := by decide +kernel
theorem dX7_readUnit_23 : decode cX7_readUnit 23 = .ok (.goto 103, 3) := by decide +kernel
theorem dX7_readUnit_26 : decode cX7_readUnit 26 = .ok (.aload_n 0, 1) := by decide +kernel
theorem dX7_readUnit_27 : decode cX7_readUnit 27 = .ok (.getfield 23, 3) := by decide +kernel
theorem dX7_readUnit_30 : decode cX7_readUnit 30 = .ok (.bipush 10, 2) := by decide +kernel
theorem dX7_readUnit_32 : decode cX7_readUnit 32 = .ok (.if_icmp .lt 31, 3) := by decide +kernel
theorem dX7_readUnit_35 : decode cX7_readUnit 35 = .ok (.aload_n 0, 1) := by decide +kernel
theorem dX7_readUnit_36 : decode cX7_readUnit 36 = .ok (.getfield 23, 3) := by decide +kernel
theorem dX7_readUnit_39 : decode cX7_readUnit 39 = .ok (.bipush 13, 2) := by decide +kernel
theorem dX7_readUnit_41 : decode cX7_readUnit 41 = .ok (.if_icmp .gt 22, 3) := by decide +kernel
theorem dX7_readUnit_44 : decode cX7_readUnit 44 = .ok (.aload_n 0, 1) := by decide +kernel
theorem dX7_readUnit_45 : decode cX7_readUnit 45 = .ok (.getfield 50, 3) := by decide +kernel
theorem dX7_readUnit_48 : decode cX7_readUnit 48 = .ok (.aload_n 0, 1) := by decide +kernel
theorem dX7_readUnit_49 : decode cX7_readUnit 49 = .ok (.getfield 23, 3) := by decide +kernel
theorem dX7_readUnit_52 : decode cX7_readUnit 52 = .ok (.ineg, 1) := by decide +kernel
theorem dX7_readUnit_53 : decode cX7_readUnit 53 = .ok (.invokevirtual 98, 3) := by decide +kernel
theorem dX7_readUnit_56 : decode cX7_readUnit 56 = .ok (.aload_n 0, 1) := by decide +kernel
theorem dX7_readUnit_57 : decode cX7_readUnit 57 = .ok (.invokevirtual 54, 3) := by decide +kernel
theorem dX7_readUnit_60 : decode cX7_readUnit 60 = .ok (.goto 66, 3) := by decide +kernel
theorem dX7_readUnit_63 : decode cX7_readUnit 63 = .ok (.aload_n 0, 1) := by decide +kernel
theorem dX7_readUnit_64 : decode cX7_readUnit 64 = .ok (.getfield 23, 3) := by decide +kernel
theorem dX7_readUnit_67 : decode cX7_readUnit 67 = .ok (.bipush 22, 2) := by decide +kernel
theorem dX7_readUnit_69 : decode cX7_readUnit 69 = .ok (.if_icmp .eq 11, 3) := by decide +kernel
theorem dX7_readUnit_72 : decode cX7_readUnit 72 = .ok (.aload_n 0, 1) := by decide +kernel
theorem dX7_readUnit_73 : decode cX7_readUnit 73 = .ok (.iconst 1, 1) := by decide +kernel
theorem dX7_readUnit_74 : decode cX7_readUnit 74 = .ok (.invokevirtual 57, 3) := by decide +kernel
theorem dX7_readUnit_77 : decode cX7_readUnit 77 = .ok (.goto 49, 3) := by decide +kernel
theorem dX7_readUnit_80 : decode cX7_readUnit 80 = .ok (.aload_n 0, 1) := by decide +kernel
theorem dX7_readUnit_81 : decode cX7_readUnit 81 = .ok (.invokevirtual 104, 3) := by decide +kernel
theorem dX7_readUnit_84 : decode cX7_readUnit 84 = .ok (.ifCond .eq 42, 3) := by decide +kernel
theorem dX7_readUnit_87 : decode cX7_readUnit 87 = .ok (.aload_n 0, 1) := by decide +kernel
theorem dX7_readUnit_88 : decode cX7_readUnit 88 = .ok (.invokevirtual 54, 3) := by decide +kernel
theorem dX7_readUnit_91 : decode cX7_readUnit 91 = .ok (.aload_n 0, 1) := by decide +kernel
theorem dX7_readUnit_92 : decode cX7_readUnit 92 = .ok (.invokevirtual 63, 3) := by decide +kernel
theorem dX7_readUnit_95 : decode cX7_readUnit 95 = .ok (.aload_n 0, 1) := by decide +kernel
theorem dX7_readUnit_96 : decode cX7_readUnit 96 = .ok (.dup, 1) := by decide +kernel
theorem dX7_readUnit_97 : decode cX7_readUnit 97 = .ok (.getfield 32, 3) := by decide +kernel
theorem dX7_readUnit_100 : decode cX7_readUnit 100 = .ok (.iconst 1, 1) := by decide +kernel
theorem dX7_readUnit_101 : decode cX7_readUnit 101 = .ok (.isub, 1) := by decide +kernel
theorem dX7_readUnit_102 : decode cX7_readUnit 102 = .ok (.putfield 32, 3) := by decide +kernel
theorem dX7_readUnit_105 : decode cX7_readUnit 105 = .ok (.aload_n 0, 1) := by decide +kernel
theorem dX7_readUnit_106 : decode cX7_readUnit 106 = .ok (.getfield 23, 3) := by decide +kernel
theorem dX7_readUnit_109 : decode cX7_readUnit 109 = .ok (.bipush 23, 2) := by decide +kernel
theorem dX7_readUnit_111 : decode cX7_readUnit 111 = .ok (.if_icmp .ne 10, 3) := by decide +kernel
theorem dX7_readUnit_114 : decode cX7_readUnit 114 = .ok (.aload_n 0, 1) := by decide +kernel
theorem dX7_readUnit_115 : decode cX7_readUnit 115 = .ok (.invokevirtual 54, 3) := by decide +kernel
theorem dX7_readUnit_118 : decode cX7_readUnit 118 = .ok (.goto 8, 3) := by decide +kernel
theorem dX7_readUnit_121 : decode cX7_readUnit 121 = .ok (.aload_n 0, 1) := by decide +kernel
theorem dX7_readUnit_122 : decode cX7_readUnit 122 = .ok (.iconst 1, 1) := by decide +kernel
theorem dX7_readUnit_123 : decode cX7_readUnit 123 = .ok (.invokevirtual 57, 3) := by decide +kernel
theorem dX7_readUnit_126 : decode cX7_readUnit 126 = .ok (.return_, 1) := by decide +kernel
theorem dX7_opens_0 : decode cX7_opens 0 = .ok (.aload_n 0, 1) := by decide +kernel
theorem dX7_opens_1 : decode cX7_opens 1 = .ok (.getfield 32, 3) := by decide +kernel
theorem dX7_opens_4 : decode cX7_opens 4 = .ok (.bipush 8, 2) := by decide +kernel
theorem dX7_opens_6 : decode cX7_opens 6 = .ok (.if_icmp .lt 10, 3) := by decide +kernel
theorem dX7_opens_9 : decode cX7_opens 9 = .ok (.aload_n 0, 1) := by decide +kernel
theorem dX7_opens_10 : decode cX7_opens 10 = .ok (.iconst 3, 1) := by decide +kernel
theorem dX7_opens_11 : decode cX7_opens 11 = .ok (.invokevirtual 57, 3) := by decide +kernel
theorem dX7_opens_14 : decode cX7_opens 14 = .ok (.iconst 0, 1) := by decide +kernel
theorem dX7_opens_15 : decode cX7_opens 15 = .ok (.ireturn, 1) := by decide +kernel
theorem dX7_opens_16 : decode cX7_opens 16 = .ok (.aload_n 0, 1) := by decide +kernel
theorem dX7_opens_17 : decode cX7_opens 17 = .ok (.dup, 1) := by decide +kernel
theorem dX7_opens_18 : decode cX7_opens 18 = .ok (.getfield 32, 3) := by decide +kernel
theorem dX7_opens_21 : decode cX7_opens 21 = .ok (.iconst 1, 1) := by decide +kernel
theorem dX7_opens_22 : decode cX7_opens 22 = .ok (.iadd, 1) := by decide +kernel
theorem dX7_opens_23 : decode cX7_opens 23 = .ok (.putfield 32, 3) := by decide +kernel
theorem dX7_opens_26 : decode cX7_opens 26 = .ok (.iconst 1, 1) := by decide +kernel
theorem dX7_opens_27 : decode cX7_opens 27 = .ok (.ireturn, 1) := by decide +kernel
theorem dX7_closeLine_0 : decode cX7_closeLine 0 = .ok (.aload_n 0, 1) := by decide +kernel
theorem dX7_closeLine_1 : decode cX7_closeLine 1 = .ok (.getfield 23, 3) := by decide +kernel
theorem dX7_closeLine_4 : decode cX7_closeLine 4 = .ok (.bipush 17, 2) := by decide +kernel
theorem dX7_closeLine_6 : decode cX7_closeLine 6 = .ok (.if_icmp .ne 23, 3) := by decide +kernel
theorem dX7_closeLine_9 : decode cX7_closeLine 9 = .ok (.aload_n 0, 1) := by decide +kernel
theorem dX7_closeLine_10 : decode cX7_closeLine 10 = .ok (.getfield 50, 3) := by decide +kernel
theorem dX7_closeLine_13 : decode cX7_closeLine 13 = .ok (.dup, 1) := by decide +kernel
theorem dX7_closeLine_14 : decode cX7_closeLine 14 = .ok (.getfield 60, 3) := by decide +kernel
theorem dX7_closeLine_17 : decode cX7_closeLine 17 = .ok (.iconst 1, 1) := by decide +kernel
theorem dX7_closeLine_18 : decode cX7_closeLine 18 = .ok (.iadd, 1) := by decide +kernel
theorem dX7_closeLine_19 : decode cX7_closeLine 19 = .ok (.putfield 60, 3) := by decide +kernel
theorem dX7_closeLine_22 : decode cX7_closeLine 22 = .ok (.aload_n 0, 1) := by decide +kernel
theorem dX7_closeLine_23 : decode cX7_closeLine 23 = .ok (.invokevirtual 54, 3) := by decide +kernel
theorem dX7_closeLine_26 : decode cX7_closeLine 26 = .ok (.goto 8, 3) := by decide +kernel
theorem dX7_closeLine_29 : decode cX7_closeLine 29 = .ok (.aload_n 0, 1) := by decide +kernel
theorem dX7_closeLine_30 : decode cX7_closeLine 30 = .ok (.iconst 1, 1) := by decide +kernel
theorem dX7_closeLine_31 : decode cX7_closeLine 31 = .ok (.invokevirtual 57, 3) := by decide +kernel
theorem dX7_closeLine_34 : decode cX7_closeLine 34 = .ok (.return_, 1) := by decide +kernel
theorem dX7_takeNumber_0 : decode cX7_takeNumber 0 = .ok (.aload_n 0, 1) := by decide +kernel
theorem dX7_takeNumber_1 : decode cX7_takeNumber 1 = .ok (.getfield 29, 3) := by decide +kernel
theorem dX7_takeNumber_4 : decode cX7_takeNumber 4 = .ok (.istore_n 3, 1) := by decide +kernel
theorem dX7_takeNumber_5 : decode cX7_takeNumber 5 = .ok (.aload_n 0, 1) := by decide +kernel
theorem dX7_takeNumber_6 : decode cX7_takeNumber 6 = .ok (.getfield 23, 3) := by decide +kernel
theorem dX7_takeNumber_9 : decode cX7_takeNumber 9 = .ok (.iconst 2, 1) := by decide +kernel
theorem dX7_takeNumber_10 : decode cX7_takeNumber 10 = .ok (.if_icmp .eq 10, 3) := by decide +kernel
theorem dX7_takeNumber_13 : decode cX7_takeNumber 13 = .ok (.aload_n 0, 1) := by decide +kernel
theorem dX7_takeNumber_14 : decode cX7_takeNumber 14 = .ok (.iconst 1, 1) := by decide +kernel
theorem dX7_takeNumber_15 : decode cX7_takeNumber 15 = .ok (.invokevirtual 57, 3) := by decide +kernel
theorem dX7_takeNumber_18 : decode cX7_takeNumber 18 = .ok (.iload_n 1, 1) := by decide +kernel
theorem dX7_takeNumber_19 : decode cX7_takeNumber 19 = .ok (.ireturn, 1) := by decide +kernel
theorem dX7_takeNumber_20 : decode cX7_takeNumber 20 = .ok (.iload_n 3, 1) := by decide +kernel
theorem dX7_takeNumber_21 : decode cX7_takeNumber 21 = .ok (.iload_n 1, 1) := by decide +kernel
theorem dX7_takeNumber_22 : decode cX7_takeNumber 22 = .ok (.if_icmp .lt 8, 3) := by decide +kernel
theorem dX7_takeNumber_25 : decode cX7_takeNumber 25 = .ok (.iload_n 3, 1) := by decide +kernel
theorem dX7_takeNumber_26 : decode cX7_takeNumber 26 = .ok (.iload_n 2, 1) := by decide +kernel
theorem dX7_takeNumber_27 : decode cX7_takeNumber 27 = .ok (.if_icmp .le 10, 3) := by decide +kernel
theorem dX7_takeNumber_30 : decode cX7_takeNumber 30 = .ok (.aload_n 0, 1) := by decide +kernel
theorem dX7_takeNumber_31 : decode cX7_takeNumber 31 = .ok (.iconst 2, 1) := by decide +kernel
theorem dX7_takeNumber_32 : decode cX7_takeNumber 32 = .ok (.invokevirtual 57, 3) := by decide +kernel
theorem dX7_takeNumber_35 : decode cX7_takeNumber 35 = .ok (.iload_n 1, 1) := by decide +kernel
theorem dX7_takeNumber_36 : decode cX7_takeNumber 36 = .ok (.ireturn, 1) := by decide +kernel
theorem dX7_takeNumber_37 : decode cX7_takeNumber 37 = .ok (.aload_n 0, 1) := by decide +kernel
theorem dX7_takeNumber_38 : decode cX7_takeNumber 38 = .ok (.invokevirtual 54, 3) := by decide +kernel
theorem dX7_takeNumber_41 : decode cX7_takeNumber 41 = .ok (.iload_n 3, 1) := by decide +kernel
theorem dX7_takeNumber_42 : decode cX7_takeNumber 42 = .ok (.ireturn, 1) := by decide +kernel
theorem dX7_refuse_0 : decode cX7_refuse 0 = .ok (.aload_n 0, 1) := by decide +kernel
theorem dX7_refuse_1 : decode cX7_refuse 1 = .ok (.getfield 9, 3) := by decide +kernel
theorem dX7_refuse_4 : decode cX7_refuse 4 = .ok (.ifCond .ne 16, 3) := by decide +kernel
theorem dX7_refuse_7 : decode cX7_refuse 7 = .ok (.aload_n 0, 1) := by decide +kernel
theorem dX7_refuse_8 : decode cX7_refuse 8 = .ok (.iload_n 1, 1) := by decide +kernel
theorem dX7_refuse_9 : decode cX7_refuse 9 = .ok (.putfield 9, 3) := by decide +kernel
theorem dX7_refuse_12 : decode cX7_refuse 12 = .ok (.aload_n 0, 1) := by decide +kernel
theorem dX7_refuse_13 : decode cX7_refuse 13 = .ok (.aload_n 0, 1) := by decide +kernel
theorem dX7_refuse_14 : decode cX7_refuse 14 = .ok (.getfield 26, 3) := by decide +kernel
theorem dX7_refuse_17 : decode cX7_refuse 17 = .ok (.putfield 15, 3) := by decide +kernel
theorem dX7_refuse_20 : decode cX7_refuse 20 = .ok (.aload_n 0, 1) := by decide +kernel
theorem dX7_refuse_21 : decode cX7_refuse 21 = .ok (.iconst 1, 1) := by decide +kernel
theorem dX7_refuse_22 : decode cX7_refuse 22 = .ok (.putfield 23, 3) := by decide +kernel
theorem dX7_refuse_25 : decode cX7_refuse 25 = .ok (.return_, 1) := by decide +kernel
theorem dX7_advance_0 : decode cX7_advance 0 = .ok (.aload_n 0, 1) := by decide +kernel
theorem dX7_advance_1 : decode cX7_advance 1 = .ok (.getfield 9, 3) := by decide +kernel
theorem dX7_advance_4 : decode cX7_advance 4 = .ok (.ifCond .ne 24, 3) := by decide +kernel
theorem dX7_advance_7 : decode cX7_advance 7 = .ok (.aload_n 0, 1) := by decide +kernel
theorem dX7_advance_8 : decode cX7_advance 8 = .ok (.getfield 18, 3) := by decide +kernel
theorem dX7_advance_11 : decode cX7_advance 11 = .ok (.ifCond .lt 17, 3) := by decide +kernel
theorem dX7_advance_14 : decode cX7_advance 14 = .ok (.aload_n 0, 1) := by decide +kernel
theorem dX7_advance_15 : decode cX7_advance 15 = .ok (.getfield 18, 3) := by decide +kernel
theorem dX7_advance_18 : decode cX7_advance 18 = .ok (.aload_n 0, 1) := by decide +kernel
theorem dX7_advance_19 : decode cX7_advance 19 = .ok (.getfield 35, 3) := by decide +kernel
theorem dX7_advance_22 : decode cX7_advance 22 = .ok (.invokevirtual 41, 3) := by decide +kernel
theorem dX7_advance_25 : decode cX7_advance 25 = .ok (.if_icmp .lt 4, 3) := by decide +kernel
theorem dX7_advance_28 : decode cX7_advance 28 = .ok (.return_, 1) := by decide +kernel
theorem dX7_advance_29 : decode cX7_advance 29 = .ok (.aload_n 0, 1) := by decide +kernel
theorem dX7_advance_30 : decode cX7_advance 30 = .ok (.getfield 35, 3) := by decide +kernel
theorem dX7_advance_33 : decode cX7_advance 33 = .ok (.aload_n 0, 1) := by decide +kernel
theorem dX7_advance_34 : decode cX7_advance 34 = .ok (.getfield 18, 3) := by decide +kernel
theorem dX7_advance_37 : decode cX7_advance 37 = .ok (.invokevirtual 112, 3) := by decide +kernel
theorem dX7_advance_40 : decode cX7_advance 40 = .ok (.checkcast 21, 3) := by decide +kernel
theorem dX7_advance_43 : decode cX7_advance 43 = .ok (.astore_n 1, 1) := by decide +kernel
theorem dX7_advance_44 : decode cX7_advance 44 = .ok (.aload_n 0, 1) := by decide +kernel
theorem dX7_advance_45 : decode cX7_advance 45 = .ok (.dup, 1) := by decide +kernel
theorem dX7_advance_46 : decode cX7_advance 46 = .ok (.getfield 18, 3) := by decide +kernel
theorem dX7_advance_49 : decode cX7_advance 49 = .ok (.iconst 1, 1) := by decide +kernel
theorem dX7_advance_50 : decode cX7_advance 50 = .ok (.iadd, 1) := by decide +kernel
theorem dX7_advance_51 : decode cX7_advance 51 = .ok (.putfield 18, 3) := by decide +kernel
theorem dX7_advance_54 : decode cX7_advance 54 = .ok (.aload_n 0, 1) := by decide +kernel
theorem dX7_advance_55 : decode cX7_advance 55 = .ok (.aload_n 1, 1) := by decide +kernel
theorem dX7_advance_56 : decode cX7_advance 56 = .ok (.getfield 116, 3) := by decide +kernel
theorem dX7_advance_59 : decode cX7_advance 59 = .ok (.putfield 23, 3) := by decide +kernel
theorem dX7_advance_62 : decode cX7_advance 62 = .ok (.aload_n 0, 1) := by decide +kernel
theorem dX7_advance_63 : decode cX7_advance 63 = .ok (.aload_n 1, 1) := by decide +kernel
theorem dX7_advance_64 : decode cX7_advance 64 = .ok (.getfield 117, 3) := by decide +kernel
theorem dX7_advance_67 : decode cX7_advance 67 = .ok (.putfield 26, 3) := by decide +kernel
theorem dX7_advance_70 : decode cX7_advance 70 = .ok (.aload_n 0, 1) := by decide +kernel
theorem dX7_advance_71 : decode cX7_advance 71 = .ok (.aload_n 1, 1) := by decide +kernel
theorem dX7_advance_72 : decode cX7_advance 72 = .ok (.getfield 118, 3) := by decide +kernel
theorem dX7_advance_75 : decode cX7_advance 75 = .ok (.putfield 29, 3) := by decide +kernel
theorem dX7_advance_78 : decode cX7_advance 78 = .ok (.return_, 1) := by decide +kernel
theorem dX8_init_0 : decode cX8_init 0 = .ok (.aload_n 0, 1) := by decide +kernel
theorem dX8_init_1 : decode cX8_init 1 = .ok (.invokespecial 3, 3) := by decide +kernel
theorem dX8_init_4 : decode cX8_init 4 = .ok (.aload_n 0, 1) := by decide +kernel
theorem dX8_init_5 : decode cX8_init 5 = .ok (.iconst (-1), 1) := by decide +kernel
theorem dX8_init_6 : decode cX8_init 6 = .ok (.putfield 9, 3) := by decide +kernel
theorem dX8_init_9 : decode cX8_init 9 = .ok (.aload_n 0, 1) := by decide +kernel
theorem dX8_init_10 : decode cX8_init 10 = .ok (.iconst (-1), 1) := by decide +kernel
theorem dX8_init_11 : decode cX8_init 11 = .ok (.putfield 15, 3) := by decide +kernel
theorem dX8_init_14 : decode cX8_init 14 = .ok (.aload_n 0, 1) := by decide +kernel
theorem dX8_init_15 : decode cX8_init 15 = .ok (.iconst 0, 1) := by decide +kernel
theorem dX8_init_16 : decode cX8_init 16 = .ok (.putfield 18, 3) := by decide +kernel
theorem dX8_init_19 : decode cX8_init 19 = .ok (.aload_n 0, 1) := by decide +kernel
theorem dX8_init_20 : decode cX8_init 20 = .ok (.iload_n 1, 1) := by decide +kernel
theorem dX8_init_21 : decode cX8_init 21 = .ok (.putfield 21, 3) := by decide +kernel
theorem dX8_init_24 : decode cX8_init 24 = .ok (.aload_n 0, 1) := by decide +kernel
theorem dX8_init_25 : decode cX8_init 25 = .ok (.iload_n 2, 1) := by decide +kernel
theorem dX8_init_26 : decode cX8_init 26 = .ok (.putfield 24, 3) := by decide +kernel
theorem dX8_init_29 : decode cX8_init 29 = .ok (.aload_n 0, 1) := by decide +kernel
theorem dX8_init_30 : decode cX8_init 30 = .ok (.iload_n 3, 1) := by decide +kernel
theorem dX8_init_31 : decode cX8_init 31 = .ok (.putfield 27, 3) := by decide +kernel
theorem dX8_init_34 : decode cX8_init 34 = .ok (.aload_n 0, 1) := by decide +kernel
theorem dX8_init_35 : decode cX8_init 35 = .ok (.iload 4, 2) := by decide +kernel
theorem dX8_init_37 : decode cX8_init 37 = .ok (.putfield 30, 3) := by decide +kernel
theorem dX8_init_40 : decode cX8_init 40 = .ok (.aload_n 0, 1) := by decide +kernel
theorem dX8_init_41 : decode cX8_init 41 = .ok (.aload 5, 2) := by decide +kernel
theorem dX8_init_43 : decode cX8_init 43 = .ok (.putfield 33, 3) := by decide +kernel
theorem dX8_init_46 : decode cX8_init 46 = .ok (.return_, 1) := by decide +kernel
theorem dX8_lives_0 : decode cX8_lives 0 = .ok (.aload_n 0, 1) := by decide +kernel
theorem dX8_lives_1 : decode cX8_lives 1 = .ok (.getfield 15, 3) := by decide +kernel
theorem dX8_lives_4 : decode cX8_lives 4 = .ok (.iconst (-1), 1) := by decide +kernel
theorem dX8_lives_5 : decode cX8_lives 5 = .ok (.if_icmp .ne 7, 3) := by decide +kernel
theorem dX8_lives_8 : decode cX8_lives 8 = .ok (.iconst 1, 1) := by decide +kernel
theorem dX8_lives_9 : decode cX8_lives 9 = .ok (.goto 4, 3) := by decide +kernel
theorem dX8_lives_12 : decode cX8_lives 12 = .ok (.iconst 0, 1) := by decide +kernel
theorem dX8_lives_13 : decode cX8_lives 13 = .ok (.ireturn, 1) := by decide +kernel
theorem dX8_pointsWith_0 : decode cX8_pointsWith 0 = .ok (.aload_n 0, 1) := by decide +kernel
theorem dX8_pointsWith_1 : decode cX8_pointsWith 1 = .ok (.getfield 24, 3) := by decide +kernel
theorem dX8_pointsWith_4 : decode cX8_pointsWith 4 = .ok (.aload_n 1, 1) := by decide +kernel
theorem dX8_pointsWith_5 : decode cX8_pointsWith 5 = .ok (.getfield 24, 3) := by decide +kernel
theorem dX8_pointsWith_8 : decode cX8_pointsWith 8 = .ok (.if_icmp .ne 7, 3) := by decide +kernel
theorem dX8_pointsWith_11 : decode cX8_pointsWith 11 = .ok (.iconst 3, 1) := by decide +kernel
theorem dX8_pointsWith_12 : decode cX8_pointsWith 12 = .ok (.goto 4, 3) := by decide +kernel
theorem dX8_pointsWith_15 : decode cX8_pointsWith 15 = .ok (.iconst 0, 1) := by decide +kernel
theorem dX8_pointsWith_16 : decode cX8_pointsWith 16 = .ok (.istore_n 2, 1) := by decide +kernel
theorem dX8_pointsWith_17 : decode cX8_pointsWith 17 = .ok (.iload_n 2, 1) := by decide +kernel
theorem dX8_pointsWith_18 : decode cX8_pointsWith 18 = .ok (.aload_n 0, 1) := by decide +kernel
theorem dX8_pointsWith_19 : decode cX8_pointsWith 19 = .ok (.getfield 30, 3) := by decide +kernel
theorem dX8_pointsWith_22 : decode cX8_pointsWith 22 = .ok (.aload_n 1, 1) := by decide +kernel
theorem dX8_pointsWith_23 : decode cX8_pointsWith 23 = .ok (.getfield 30, 3) := by decide +kernel
theorem dX8_pointsWith_26 : decode cX8_pointsWith 26 = .ok (.invokestatic 37, 3) := by decide +kernel
theorem dX8_pointsWith_29 : decode cX8_pointsWith 29 = .ok (.ifCond .eq 8, 3) := by decide +kernel
theorem dX8_pointsWith_32 : decode cX8_pointsWith 32 = .ok (.bipush 6, 2) := by decide +kernel
theorem dX8_pointsWith_34 : decode cX8_pointsWith 34 = .ok (.goto 4, 3) := by decide +kernel
theorem dX8_pointsWith_37 : decode cX8_pointsWith 37 = .ok (.iconst 0, 1) := by decide +kernel
theorem dX8_pointsWith_38 : decode cX8_pointsWith 38 = .ok (.iadd, 1) := by decide +kernel
theorem dX8_pointsWith_39 : decode cX8_pointsWith 39 = .ok (.istore_n 2, 1) := by decide +kernel
theorem dX8_pointsWith_40 : decode cX8_pointsWith 40 = .ok (.iload_n 2, 1) := by decide +kernel
theorem dX8_pointsWith_41 : decode cX8_pointsWith 41 = .ok (.aload_n 0, 1) := by decide +kernel
theorem dX8_pointsWith_42 : decode cX8_pointsWith 42 = .ok (.getfield 9, 3) := by decide +kernel
theorem dX8_pointsWith_45 : decode cX8_pointsWith 45 = .ok (.aload_n 1, 1) := by decide +kernel
theorem dX8_pointsWith_46 : decode cX8_pointsWith 46 = .ok (.getfield 9, 3) := by decide +kernel
theorem dX8_pointsWith_49 : decode cX8_pointsWith 49 = .ok (.invokestatic 37, 3) := by decide +kernel
theorem dX8_pointsWith_52 : decode cX8_pointsWith 52 = .ok (.ifCond .eq 7, 3) := by decide +kernel
theorem dX8_pointsWith_55 : decode cX8_pointsWith 55 = .ok (.iconst 1, 1) := by decide +kernel
theorem dX8_pointsWith_56 : decode cX8_pointsWith 56 = .ok (.goto 4, 3) := by decide +kernel
theorem dX8_pointsWith_59 : decode cX8_pointsWith 59 = .ok (.iconst 0, 1) := by decide +kernel
theorem dX8_pointsWith_60 : decode cX8_pointsWith 60 = .ok (.iadd, 1) := by decide +kernel
theorem dX8_pointsWith_61 : decode cX8_pointsWith 61 = .ok (.istore_n 2, 1) := by decide +kernel
theorem dX8_pointsWith_62 : decode cX8_pointsWith 62 = .ok (.iload_n 2, 1) := by decide +kernel
theorem dX8_pointsWith_63 : decode cX8_pointsWith 63 = .ok (.aload_n 0, 1) := by decide +kernel
theorem dX8_pointsWith_64 : decode cX8_pointsWith 64 = .ok (.getfield 27, 3) := by decide +kernel
theorem dX8_pointsWith_67 : decode cX8_pointsWith 67 = .ok (.aload_n 1, 1) := by decide +kernel
theorem dX8_pointsWith_68 : decode cX8_pointsWith 68 = .ok (.getfield 27, 3) := by decide +kernel
theorem dX8_pointsWith_71 : decode cX8_pointsWith 71 = .ok (.invokestatic 37, 3) := by decide +kernel
theorem dX8_pointsWith_74 : decode cX8_pointsWith 74 = .ok (.ifCond .eq 7, 3) := by decide +kernel
theorem dX8_pointsWith_77 : decode cX8_pointsWith 77 = .ok (.iconst 4, 1) := by decide +kernel
theorem dX8_pointsWith_78 : decode cX8_pointsWith 78 = .ok (.goto 4, 3) := by decide +kernel
theorem dX8_pointsWith_81 : decode cX8_pointsWith 81 = .ok (.iconst 0, 1) := by decide +kernel
theorem dX8_pointsWith_82 : decode cX8_pointsWith 82 = .ok (.iadd, 1) := by decide +kernel
theorem dX8_pointsWith_83 : decode cX8_pointsWith 83 = .ok (.istore_n 2, 1) := by decide +kernel
theorem dX8_pointsWith_84 : decode cX8_pointsWith 84 = .ok (.iload_n 2, 1) := by decide +kernel
theorem dX8_pointsWith_85 : decode cX8_pointsWith 85 = .ok (.ireturn, 1) := by decide +kernel
theorem dX8_isBarredFrom_0 : decode cX8_isBarredFrom 0 = .ok (.aload_n 0, 1) := by decide +kernel
theorem dX8_isBarredFrom_1 : decode cX8_isBarredFrom 1 = .ok (.getfield 27, 3) := by decide +kernel
theorem dX8_isBarredFrom_4 : decode cX8_isBarredFrom 4 = .ok (.aload_n 1, 1) := by decide +kernel
theorem dX8_isBarredFrom_5 : decode cX8_isBarredFrom 5 = .ok (.getfield 27, 3) := by decide +kernel
theorem dX8_isBarredFrom_8 : decode cX8_isBarredFrom 8 = .ok (.invokestatic 41, 3) := by decide +kernel
theorem dX8_isBarredFrom_11 : decode cX8_isBarredFrom 11 = .ok (.ifCond .ne 33, 3) := by decide +kernel
theorem dX8_isBarredFrom_14 : decode cX8_isBarredFrom 14 = .ok (.aload_n 0, 1) := by decide +kernel
theorem dX8_isBarredFrom_15 : decode cX8_isBarredFrom 15 = .ok (.getfield 30, 3) := by decide +kernel
theorem dX8_isBarredFrom_18 : decode cX8_isBarredFrom 18 = .ok (.aload_n 1, 1) := by decide +kernel
theorem dX8_isBarredFrom_19 : decode cX8_isBarredFrom 19 = .ok (.getfield 30, 3) := by decide +kernel
theorem dX8_isBarredFrom_22 : decode cX8_isBarredFrom 22 = .ok (.invokestatic 41, 3) := by decide +kernel
theorem dX8_isBarredFrom_25 : decode cX8_isBarredFrom 25 = .ok (.ifCond .ne 19, 3) := by decide +kernel
theorem dX8_isBarredFrom_28 : decode cX8_isBarredFrom 28 = .ok (.aload_n 0, 1) := by decide +kernel
theorem dX8_isBarredFrom_29 : decode cX8_isBarredFrom 29 = .ok (.aload_n 1, 1) := by decide +kernel
theorem dX8_isBarredFrom_30 : decode cX8_isBarredFrom 30 = .ok (.invokevirtual 44, 3) := by decide +kernel
theorem dX8_isBarredFrom_33 : decode cX8_isBarredFrom 33 = .ok (.ifCond .ne 11, 3) := by decide +kernel
theorem dX8_isBarredFrom_36 : decode cX8_isBarredFrom 36 = .ok (.aload_n 1, 1) := by decide +kernel
theorem dX8_isBarredFrom_37 : decode cX8_isBarredFrom 37 = .ok (.aload_n 0, 1) := by decide +kernel
theorem dX8_isBarredFrom_38 : decode cX8_isBarredFrom 38 = .ok (.invokevirtual 44, 3) := by decide +kernel
theorem dX8_isBarredFrom_41 : decode cX8_isBarredFrom 41 = .ok (.ifCond .eq 7, 3) := by decide +kernel
theorem dX8_isBarredFrom_44 : decode cX8_isBarredFrom 44 = .ok (.iconst 1, 1) := by decide +kernel
theorem dX8_isBarredFrom_45 : decode cX8_isBarredFrom 45 = .ok (.goto 4, 3) := by decide +kernel
theorem dX8_isBarredFrom_48 : decode cX8_isBarredFrom 48 = .ok (.iconst 0, 1) := by decide +kernel
theorem dX8_isBarredFrom_49 : decode cX8_isBarredFrom 49 = .ok (.ireturn, 1) := by decide +kernel
theorem dX8_diedAheadOf_0 : decode cX8_diedAheadOf 0 = .ok (.aload_n 0, 1) := by decide +kernel
theorem dX8_diedAheadOf_1 : decode cX8_diedAheadOf 1 = .ok (.getfield 15, 3) := by decide +kernel
theorem dX8_diedAheadOf_4 : decode cX8_diedAheadOf 4 = .ok (.iconst (-1), 1) := by decide +kernel
theorem dX8_diedAheadOf_5 : decode cX8_diedAheadOf 5 = .ok (.if_icmp .eq 26, 3) := by decide +kernel
theorem dX8_diedAheadOf_8 : decode cX8_diedAheadOf 8 = .ok (.aload_n 1, 1) := by decide +kernel
theorem dX8_diedAheadOf_9 : decode cX8_diedAheadOf 9 = .ok (.getfield 27, 3) := by decide +kernel
theorem dX8_diedAheadOf_12 : decode cX8_diedAheadOf 12 = .ok (.iconst (-1), 1) := by decide +kernel
theorem dX8_diedAheadOf_13 : decode cX8_diedAheadOf 13 = .ok (.if_icmp .eq 18, 3) := by decide +kernel
theorem dX8_diedAheadOf_16 : decode cX8_diedAheadOf 16 = .ok (.aload_n 0, 1) := by decide +kernel
theorem dX8_diedAheadOf_17 : decode cX8_diedAheadOf 17 = .ok (.getfield 15, 3) := by decide +kernel
theorem dX8_diedAheadOf_20 : decode cX8_diedAheadOf 20 = .ok (.aload_n 1, 1) := by decide +kernel
theorem dX8_diedAheadOf_21 : decode cX8_diedAheadOf 21 = .ok (.getfield 27, 3) := by decide +kernel
theorem dX8_diedAheadOf_24 : decode cX8_diedAheadOf 24 = .ok (.if_icmp .ge 7, 3) := by decide +kernel
theorem dX8_diedAheadOf_27 : decode cX8_diedAheadOf 27 = .ok (.iconst 1, 1) := by decide +kernel
theorem dX8_diedAheadOf_28 : decode cX8_diedAheadOf 28 = .ok (.goto 4, 3) := by decide +kernel
theorem dX8_diedAheadOf_31 : decode cX8_diedAheadOf 31 = .ok (.iconst 0, 1) := by decide +kernel
theorem dX8_diedAheadOf_32 : decode cX8_diedAheadOf 32 = .ok (.ireturn, 1) := by decide +kernel
theorem dX8_isKnownAlike_0 : decode cX8_isKnownAlike 0 = .ok (.iload_n 0, 1) := by decide +kernel
theorem dX8_isKnownAlike_1 : decode cX8_isKnownAlike 1 = .ok (.iconst (-1), 1) := by decide +kernel
theorem dX8_isKnownAlike_2 : decode cX8_isKnownAlike 2 = .ok (.if_icmp .eq 12, 3) := by decide +kernel
theorem dX8_isKnownAlike_5 : decode cX8_isKnownAlike 5 = .ok (.iload_n 0, 1) := by decide +kernel
theorem dX8_isKnownAlike_6 : decode cX8_isKnownAlike 6 = .ok (.iload_n 1, 1) := by decide +kernel
theorem dX8_isKnownAlike_7 : decode cX8_isKnownAlike 7 = .ok (.if_icmp .ne 7, 3) := by decide +kernel
theorem dX8_isKnownAlike_10 : decode cX8_isKnownAlike 10 = .ok (.iconst 1, 1) := by decide +kernel
theorem dX8_isKnownAlike_11 : decode cX8_isKnownAlike 11 = .ok (.goto 4, 3) := by decide +kernel
theorem dX8_isKnownAlike_14 : decode cX8_isKnownAlike 14 = .ok (.iconst 0, 1) := by decide +kernel
theorem dX8_isKnownAlike_15 : decode cX8_isKnownAlike 15 = .ok (.ireturn, 1) := by decide +kernel
theorem dX8_isKnownUnlike_0 : decode cX8_isKnownUnlike 0 = .ok (.iload_n 0, 1) := by decide +kernel
theorem dX8_isKnownUnlike_1 : decode cX8_isKnownUnlike 1 = .ok (.iconst (-1), 1) := by decide +kernel
theorem dX8_isKnownUnlike_2 : decode cX8_isKnownUnlike 2 = .ok (.if_icmp .eq 17, 3) := by decide +kernel
theorem dX8_isKnownUnlike_5 : decode cX8_isKnownUnlike 5 = .ok (.iload_n 1, 1) := by decide +kernel
theorem dX8_isKnownUnlike_6 : decode cX8_isKnownUnlike 6 = .ok (.iconst (-1), 1) := by decide +kernel
theorem dX8_isKnownUnlike_7 : decode cX8_isKnownUnlike 7 = .ok (.if_icmp .eq 12, 3) := by decide +kernel
theorem dX8_isKnownUnlike_10 : decode cX8_isKnownUnlike 10 = .ok (.iload_n 0, 1) := by decide +kernel
theorem dX8_isKnownUnlike_11 : decode cX8_isKnownUnlike 11 = .ok (.iload_n 1, 1) := by decide +kernel
theorem dX8_isKnownUnlike_12 : decode cX8_isKnownUnlike 12 = .ok (.if_icmp .eq 7, 3) := by decide +kernel
theorem dX8_isKnownUnlike_15 : decode cX8_isKnownUnlike 15 = .ok (.iconst 1, 1) := by decide +kernel
theorem dX8_isKnownUnlike_16 : decode cX8_isKnownUnlike 16 = .ok (.goto 4, 3) := by decide +kernel
theorem dX8_isKnownUnlike_19 : decode cX8_isKnownUnlike 19 = .ok (.iconst 0, 1) := by decide +kernel
theorem dX8_isKnownUnlike_20 : decode cX8_isKnownUnlike 20 = .ok (.ireturn, 1) := by decide +kernel
theorem dX9_init_0 : decode cX9_init 0 = .ok (.aload_n 0, 1) := by decide +kernel
theorem dX9_init_1 : decode cX9_init 1 = .ok (.invokespecial 1, 3) := by decide +kernel
theorem dX9_init_4 : decode cX9_init 4 = .ok (.aload_n 0, 1) := by decide +kernel
theorem dX9_init_5 : decode cX9_init 5 = .ok (.iconst 0, 1) := by decide +kernel
theorem dX9_init_6 : decode cX9_init 6 = .ok (.putfield 7, 3) := by decide +kernel
theorem dX9_init_9 : decode cX9_init 9 = .ok (.aload_n 0, 1) := by decide +kernel
theorem dX9_init_10 : decode cX9_init 10 = .ok (.iconst 0, 1) := by decide +kernel
theorem dX9_init_11 : decode cX9_init 11 = .ok (.putfield 13, 3) := by decide +kernel
theorem dX9_init_14 : decode cX9_init 14 = .ok (.aload_n 0, 1) := by decide +kernel
theorem dX9_init_15 : decode cX9_init 15 = .ok (.iconst 0, 1) := by decide +kernel
theorem dX9_init_16 : decode cX9_init 16 = .ok (.putfield 16, 3) := by decide +kernel
theorem dX9_init_19 : decode cX9_init 19 = .ok (.aload_n 0, 1) := by decide +kernel
theorem dX9_init_20 : decode cX9_init 20 = .ok (.iconst 0, 1) := by decide +kernel
theorem dX9_init_21 : decode cX9_init 21 = .ok (.putfield 19, 3) := by decide +kernel
theorem dX9_init_24 : decode cX9_init 24 = .ok (.aload_n 0, 1) := by decide +kernel
theorem dX9_init_25 : decode cX9_init 25 = .ok (.bipush 32, 2) := by decide +kernel
theorem dX9_init_27 : decode cX9_init 27 = .ok (.newarray .int, 2) := by decide +kernel
theorem dX9_init_29 : decode cX9_init 29 = .ok (.putfield 22, 3) := by decide +kernel
theorem dX9_init_32 : decode cX9_init 32 = .ok (.aload_n 0, 1) := by decide +kernel
theorem dX9_init_33 : decode cX9_init 33 = .ok (.iconst 0, 1) := by decide +kernel
theorem dX9_init_34 : decode cX9_init 34 = .ok (.putfield 26, 3) := by decide +kernel
theorem dX9_init_37 : decode cX9_init 37 = .ok (.aload_n 0, 1) := by decide +kernel
theorem dX9_init_38 : decode cX9_init 38 = .ok (.iconst 0, 1) := by decide +kernel
theorem dX9_init_39 : decode cX9_init 39 = .ok (.putfield 29, 3) := by decide +kernel
theorem dX9_init_42 : decode cX9_init 42 = .ok (.return_, 1) := by decide +kernel
theorem dX9_greatest_0 : decode cX9_greatest 0 = .ok (.aload_n 0, 1) := by decide +kernel
theorem dX9_greatest_1 : decode cX9_greatest 1 = .ok (.iconst 0, 1) := by decide +kernel
theorem dX9_greatest_2 : decode cX9_greatest 2 = .ok (.putfield 26, 3) := by decide +kernel
theorem dX9_greatest_5 : decode cX9_greatest 5 = .ok (.aload_n 0, 1) := by decide +kernel
theorem dX9_greatest_6 : decode cX9_greatest 6 = .ok (.iconst 0, 1) := by decide +kernel
theorem dX9_greatest_7 : decode cX9_greatest 7 = .ok (.putfield 29, 3) := by decide +kernel
theorem dX9_greatest_10 : decode cX9_greatest 10 = .ok (.iconst 0, 1) := by decide +kernel
theorem dX9_greatest_11 : decode cX9_greatest 11 = .ok (.istore_n 2, 1) := by decide +kernel
theorem dX9_greatest_12 : decode cX9_greatest 12 = .ok (.iload_n 2, 1) := by decide +kernel
theorem dX9_greatest_13 : decode cX9_greatest 13 = .ok (.aload_n 1, 1) := by decide +kernel
theorem dX9_greatest_14 : decode cX9_greatest 14 = .ok (.invokevirtual 32, 3) := by decide +kernel
theorem dX9_greatest_17 : decode cX9_greatest 17 = .ok (.if_icmp .ge 114, 3) := by decide +kernel
theorem dX9_greatest_20 : decode cX9_greatest 20 = .ok (.aload_n 1, 1) := by decide +kernel
theorem dX9_greatest_21 : decode cX9_greatest 21 = .ok (.iload_n 2, 1) := by decide +kernel
theorem dX9_greatest_22 : decode cX9_greatest 22 = .ok (.invokevirtual 38, 3) := by decide +kernel
theorem dX9_greatest_25 : decode cX9_greatest 25 = .ok (.istore_n 3, 1) := by decide +kernel
theorem dX9_greatest_26 : decode cX9_greatest 26 = .ok (.iload_n 3, 1) := by decide +kernel
theorem dX9_greatest_27 : decode cX9_greatest 27 = .ok (.ifCond .lt 11, 3) := by decide +kernel
theorem dX9_greatest_30 : decode cX9_greatest 30 = .ok (.aload_n 0, 1) := by decide +kernel
theorem dX9_greatest_31 : decode cX9_greatest 31 = .ok (.iload_n 3, 1) := by decide +kernel
theorem dX9_greatest_32 : decode cX9_greatest 32 = .ok (.invokevirtual 42, 3) := by decide +kernel
theorem dX9_greatest_35 : decode cX9_greatest 35 = .ok (.goto 90, 3) := by decide +kernel
theorem dX9_greatest_38 : decode cX9_greatest 38 = .ok (.iload_n 3, 1) := by decide +kernel
theorem dX9_greatest_39 : decode cX9_greatest 39 = .ok (.ineg, 1) := by decide +kernel
theorem dX9_greatest_40 : decode cX9_greatest 40 = .ok (.bipush 9, 2) := by decide +kernel
theorem dX9_greatest_42 : decode cX9_greatest 42 = .ok (.if_icmp .gt 12, 3) := by decide +kernel
theorem dX9_greatest_45 : decode cX9_greatest 45 = .ok (.aload_n 0, 1) := by decide +kernel
theorem dX9_greatest_46 : decode cX9_greatest 46 = .ok (.iload_n 3, 1) := by decide +kernel
theorem dX9_greatest_47 : decode cX9_greatest 47 = .ok (.ineg, 1) := by decide +kernel
theorem dX9_greatest_48 : decode cX9_greatest 48 = .ok (.invokevirtual 48, 3) := by decide +kernel
theorem dX9_greatest_51 : decode cX9_greatest 51 = .ok (.goto 74, 3) := by decide +kernel
theorem dX9_greatest_54 : decode cX9_greatest 54 = .ok (.iload_n 3, 1) := by decide +kernel
theorem dX9_greatest_55 : decode cX9_greatest 55 = .ok (.ineg, 1) := by decide +kernel
theorem dX9_greatest_56 : decode cX9_greatest 56 = .ok (.bipush 13, 2) := by decide +kernel
theorem dX9_greatest_58 : decode cX9_greatest 58 = .ok (.if_icmp .gt 16, 3) := by decide +kernel
theorem dX9_greatest_61 : decode cX9_greatest 61 = .ok (.aload_n 0, 1) := by decide +kernel
theorem dX9_greatest_62 : decode cX9_greatest 62 = .ok (.aload_n 0, 1) := by decide +kernel
theorem dX9_greatest_63 : decode cX9_greatest 63 = .ok (.iload_n 3, 1) := by decide +kernel
theorem dX9_greatest_64 : decode cX9_greatest 64 = .ok (.ineg, 1) := by decide +kernel
theorem dX9_greatest_65 : decode cX9_greatest 65 = .ok (.invokevirtual 51, 3) := by decide +kernel
theorem dX9_greatest_68 : decode cX9_greatest 68 = .ok (.invokevirtual 42, 3) := by decide +kernel
theorem dX9_greatest_71 : decode cX9_greatest 71 = .ok (.goto 54, 3) := by decide +kernel
theorem dX9_greatest_74 : decode cX9_greatest 74 = .ok (.iload_n 3, 1) := by decide +kernel
theorem dX9_greatest_75 : decode cX9_greatest 75 = .ok (.ineg, 1) := by decide +kernel
theorem dX9_greatest_76 : decode cX9_greatest 76 = .ok (.bipush 16, 2) := by decide +kernel
theorem dX9_greatest_78 : decode cX9_greatest 78 = .ok (.if_icmp .ne 22, 3) := by decide +kernel
theorem dX9_greatest_81 : decode cX9_greatest 81 = .ok (.aload_n 0, 1) := by decide +kernel
theorem dX9_greatest_82 : decode cX9_greatest 82 = .ok (.aload_n 0, 1) := by decide +kernel
theorem dX9_greatest_83 : decode cX9_greatest 83 = .ok (.invokevirtual 54, 3) := by decide +kernel
theorem dX9_greatest_86 : decode cX9_greatest 86 = .ok (.ifCond .ne 7, 3) := by decide +kernel
theorem dX9_greatest_89 : decode cX9_greatest 89 = .ok (.iconst 1, 1) := by decide +kernel
theorem dX9_greatest_90 : decode cX9_greatest 90 = .ok (.goto 4, 3) := by decide +kernel
theorem dX9_greatest_93 : decode cX9_greatest 93 = .ok (.iconst 0, 1) := by decide +kernel
theorem dX9_greatest_94 : decode cX9_greatest 94 = .ok (.invokevirtual 42, 3) := by decide +kernel
theorem dX9_greatest_97 : decode cX9_greatest 97 = .ok (.goto 28, 3) := by decide +kernel
theorem dX9_greatest_100 : decode cX9_greatest 100 = .ok (.aload_n 0, 1) := by decide +kernel
theorem dX9_greatest_101 : decode cX9_greatest 101 = .ok (.invokevirtual 54, 3) := by decide +kernel
theorem dX9_greatest_104 : decode cX9_greatest 104 = .ok (.istore 4, 2) := by decide +kernel
theorem dX9_greatest_106 : decode cX9_greatest 106 = .ok (.aload_n 0, 1) := by decide +kernel
theorem dX9_greatest_107 : decode cX9_greatest 107 = .ok (.invokevirtual 54, 3) := by decide +kernel
theorem dX9_greatest_110 : decode cX9_greatest 110 = .ok (.istore 5, 2) := by decide +kernel
theorem dX9_greatest_112 : decode cX9_greatest 112 = .ok (.aload_n 0, 1) := by decide +kernel
theorem dX9_greatest_113 : decode cX9_greatest 113 = .ok (.iload_n 3, 1) := by decide +kernel
theorem dX9_greatest_114 : decode cX9_greatest 114 = .ok (.ineg, 1) := by decide +kernel
theorem dX9_greatest_115 : decode cX9_greatest 115 = .ok (.iload 5, 2) := by decide +kernel
theorem dX9_greatest_117 : decode cX9_greatest 117 = .ok (.iload 4, 2) := by decide +kernel
theorem dX9_greatest_119 : decode cX9_greatest 119 = .ok (.invokestatic 57, 3) := by decide +kernel
theorem dX9_greatest_122 : decode cX9_greatest 122 = .ok (.invokevirtual 42, 3) := by decide +kernel
theorem dX9_greatest_125 : decode cX9_greatest 125 = .ok (.iinc 2 1, 3) := by decide +kernel
theorem dX9_greatest_128 : decode cX9_greatest 128 = .ok (.goto (-116), 3) := by decide +kernel
theorem dX9_greatest_131 : decode cX9_greatest 131 = .ok (.aload_n 0, 1) := by decide +kernel
theorem dX9_greatest_132 : decode cX9_greatest 132 = .ok (.getfield 29, 3) := by decide +kernel
theorem dX9_greatest_135 : decode cX9_greatest 135 = .ok (.ireturn, 1) := by decide +kernel
theorem dX9_endLine_0 : decode cX9_endLine 0 = .ok (.iload_n 1, 1) := by decide +kernel
theorem dX9_endLine_1 : decode cX9_endLine 1 = .ok (.bipush 8, 2) := by decide +kernel
theorem dX9_endLine_3 : decode cX9_endLine 3 = .ok (.if_icmp .eq 10, 3) := by decide +kernel
theorem dX9_endLine_6 : decode cX9_endLine 6 = .ok (.aload_n 0, 1) := by decide +kernel
theorem dX9_endLine_7 : decode cX9_endLine 7 = .ok (.invokevirtual 54, 3) := by decide +kernel
theorem dX9_endLine_10 : decode cX9_endLine 10 = .ok (.ifCond .eq 7, 3) := by decide +kernel
theorem dX9_endLine_13 : decode cX9_endLine 13 = .ok (.iconst 1, 1) := by decide +kernel
theorem dX9_endLine_14 : decode cX9_endLine 14 = .ok (.goto 4, 3) := by decide +kernel
theorem dX9_endLine_17 : decode cX9_endLine 17 = .ok (.iconst 0, 1) := by decide +kernel
theorem dX9_endLine_18 : decode cX9_endLine 18 = .ok (.istore_n 2, 1) := by decide +kernel
theorem dX9_endLine_19 : decode cX9_endLine 19 = .ok (.aload_n 0, 1) := by decide +kernel
theorem dX9_endLine_20 : decode cX9_endLine 20 = .ok (.invokevirtual 54, 3) := by decide +kernel
theorem dX9_endLine_23 : decode cX9_endLine 23 = .ok (.istore_n 3, 1) := by decide +kernel
theorem dX9_endLine_24 : decode cX9_endLine 24 = .ok (.iload_n 2, 1) := by decide +kernel
theorem dX9_endLine_25 : decode cX9_endLine 25 = .ok (.ifCond .eq 15, 3) := by decide +kernel
theorem dX9_endLine_28 : decode cX9_endLine 28 = .ok (.aload_n 0, 1) := by decide +kernel
theorem dX9_endLine_29 : decode cX9_endLine 29 = .ok (.aload_n 0, 1) := by decide +kernel
theorem dX9_endLine_30 : decode cX9_endLine 30 = .ok (.getfield 29, 3) := by decide +kernel
theorem dX9_endLine_33 : decode cX9_endLine 33 = .ok (.iload_n 3, 1) := by decide +kernel
theorem dX9_endLine_34 : decode cX9_endLine 34 = .ok (.invokestatic 61, 3) := by decide +kernel
theorem dX9_endLine_37 : decode cX9_endLine 37 = .ok (.putfield 29, 3) := by decide +kernel
theorem dX9_endLine_40 : decode cX9_endLine 40 = .ok (.return_, 1) := by decide +kernel
theorem dX9_named_0 : decode cX9_named 0 = .ok (.iload_n 1, 1) := by decide +kernel
theorem dX9_named_1 : decode cX9_named 1 = .ok (.tableswitch 42 10 12 #[27, 32, 37], 27) := by decide +kernel
theorem dX9_named_28 : decode cX9_named 28 = .ok (.aload_n 0, 1) := by decide +kernel
theorem dX9_named_29 : decode cX9_named 29 = .ok (.getfield 7, 3) := by decide +kernel
theorem dX9_named_32 : decode cX9_named 32 = .ok (.ireturn, 1) := by decide +kernel
theorem dX9_named_33 : decode cX9_named 33 = .ok (.aload_n 0, 1) := by decide +kernel
theorem dX9_named_34 : decode cX9_named 34 = .ok (.getfield 13, 3) := by decide +kernel
theorem dX9_named_37 : decode cX9_named 37 = .ok (.ireturn, 1) := by decide +kernel
theorem dX9_named_38 : decode cX9_named 38 = .ok (.aload_n 0, 1) := by decide +kernel
theorem dX9_named_39 : decode cX9_named 39 = .ok (.getfield 16, 3) := by decide +kernel
theorem dX9_named_42 : decode cX9_named 42 = .ok (.ireturn, 1) := by decide +kernel
theorem dX9_named_43 : decode cX9_named 43 = .ok (.aload_n 0, 1) := by decide +kernel
theorem dX9_named_44 : decode cX9_named 44 = .ok (.getfield 19, 3) := by decide +kernel
theorem dX9_named_47 : decode cX9_named 47 = .ok (.ireturn, 1) := by decide +kernel
theorem dX9_combined_0 : decode cX9_combined 0 = .ok (.iload_n 0, 1) := by decide +kernel
theorem dX9_combined_1 : decode cX9_combined 1 = .ok (.tableswitch 124 15 26 #[120, 124, 124, 63, 67, 71, 75, 124, 124, 87, 98, 109], 63) := by decide +kernel
theorem dX9_combined_64 : decode cX9_combined 64 = .ok (.iload_n 1, 1) := by decide +kernel
theorem dX9_combined_65 : decode cX9_combined 65 = .ok (.iload_n 2, 1) := by decide +kernel
theorem dX9_combined_66 : decode cX9_combined 66 = .ok (.iadd, 1) := by decide +kernel
theorem dX9_combined_67 : decode cX9_combined 67 = .ok (.ireturn, 1) := by decide +kernel
theorem dX9_combined_68 : decode cX9_combined 68 = .ok (.iload_n 1, 1) := by decide +kernel
theorem dX9_combined_69 : decode cX9_combined 69 = .ok (.iload_n 2, 1) := by decide +kernel
theorem dX9_combined_70 : decode cX9_combined 70 = .ok (.isub, 1) := by decide +kernel
theorem dX9_combined_71 : decode cX9_combined 71 = .ok (.ireturn, 1) := by decide +kernel
theorem dX9_combined_72 : decode cX9_combined 72 = .ok (.iload_n 1, 1) := by decide +kernel
theorem dX9_combined_73 : decode cX9_combined 73 = .ok (.iload_n 2, 1) := by decide +kernel
theorem dX9_combined_74 : decode cX9_combined 74 = .ok (.imul, 1) := by decide +kernel
theorem dX9_combined_75 : decode cX9_combined 75 = .ok (.ireturn, 1) := by decide +kernel
theorem dX9_combined_76 : decode cX9_combined 76 = .ok (.iload_n 2, 1) := by decide +kernel
theorem dX9_combined_77 : decode cX9_combined 77 = .ok (.ifCond .ne 7, 3) := by decide +kernel
theorem dX9_combined_80 : decode cX9_combined 80 = .ok (.iconst 0, 1) := by decide +kernel
theorem dX9_combined_81 : decode cX9_combined 81 = .ok (.goto 6, 3) := by decide +kernel
theorem dX9_combined_84 : decode cX9_combined 84 = .ok (.iload_n 1, 1) := by decide +kernel
theorem dX9_combined_85 : decode cX9_combined 85 = .ok (.iload_n 2, 1) := by decide +kernel
theorem dX9_combined_86 : decode cX9_combined 86 = .ok (.idiv, 1) := by decide +kernel
theorem dX9_combined_87 : decode cX9_combined 87 = .ok (.ireturn, 1) := by decide +kernel
theorem dX9_combined_88 : decode cX9_combined 88 = .ok (.iload_n 1, 1) := by decide +kernel
theorem dX9_combined_89 : decode cX9_combined 89 = .ok (.iload_n 2, 1) := by decide +kernel
theorem dX9_combined_90 : decode cX9_combined 90 = .ok (.if_icmp .ge 7, 3) := by decide +kernel
theorem dX9_combined_93 : decode cX9_combined 93 = .ok (.iconst 1, 1) := by decide +kernel
theorem dX9_combined_94 : decode cX9_combined 94 = .ok (.goto 4, 3) := by decide +kernel
theorem dX9_combined_97 : decode cX9_combined 97 = .ok (.iconst 0, 1) := by decide +kernel
theorem dX9_combined_98 : decode cX9_combined 98 = .ok (.ireturn, 1) := by decide +kernel
theorem dX9_combined_99 : decode cX9_combined 99 = .ok (.iload_n 1, 1) := by decide +kernel
theorem dX9_combined_100 : decode cX9_combined 100 = .ok (.iload_n 2, 1) := by decide +kernel
theorem dX9_combined_101 : decode cX9_combined 101 = .ok (.if_icmp .ne 7, 3) := by decide +kernel
theorem dX9_combined_104 : decode cX9_combined 104 = .ok (.iconst 1, 1) := by decide +kernel
theorem dX9_combined_105 : decode cX9_combined 105 = .ok (.goto 4, 3) := by decide +kernel
theorem dX9_combined_108 : decode cX9_combined 108 = .ok (.iconst 0, 1) := by decide +kernel
theorem dX9_combined_109 : decode cX9_combined 109 = .ok (.ireturn, 1) := by decide +kernel
theorem dX9_combined_110 : decode cX9_combined 110 = .ok (.iload_n 1, 1) := by decide +kernel
theorem dX9_combined_111 : decode cX9_combined 111 = .ok (.iload_n 2, 1) := by decide +kernel
theorem dX9_combined_112 : decode cX9_combined 112 = .ok (.if_icmp .le 7, 3) := by decide +kernel
theorem dX9_combined_115 : decode cX9_combined 115 = .ok (.iconst 1, 1) := by decide +kernel
theorem dX9_combined_116 : decode cX9_combined 116 = .ok (.goto 4, 3) := by decide +kernel
theorem dX9_combined_119 : decode cX9_combined 119 = .ok (.iconst 0, 1) := by decide +kernel
theorem dX9_combined_120 : decode cX9_combined 120 = .ok (.ireturn, 1) := by decide +kernel
theorem dX9_combined_121 : decode cX9_combined 121 = .ok (.iload_n 1, 1) := by decide +kernel
theorem dX9_combined_122 : decode cX9_combined 122 = .ok (.iload_n 2, 1) := by decide +kernel
theorem dX9_combined_123 : decode cX9_combined 123 = .ok (.iand, 1) := by decide +kernel
theorem dX9_combined_124 : decode cX9_combined 124 = .ok (.ireturn, 1) := by decide +kernel
theorem dX9_combined_125 : decode cX9_combined 125 = .ok (.iload_n 1, 1) := by decide +kernel
theorem dX9_combined_126 : decode cX9_combined 126 = .ok (.iload_n 2, 1) := by decide +kernel
theorem dX9_combined_127 : decode cX9_combined 127 = .ok (.ior, 1) := by decide +kernel
theorem dX9_combined_128 : decode cX9_combined 128 = .ok (.ireturn, 1) := by decide +kernel
theorem dX9_push_0 : decode cX9_push 0 = .ok (.aload_n 0, 1) := by decide +kernel
theorem dX9_push_1 : decode cX9_push 1 = .ok (.getfield 26, 3) := by decide +kernel
theorem dX9_push_4 : decode cX9_push 4 = .ok (.aload_n 0, 1) := by decide +kernel
theorem dX9_push_5 : decode cX9_push 5 = .ok (.getfield 22, 3) := by decide +kernel
theorem dX9_push_8 : decode cX9_push 8 = .ok (.arraylength, 1) := by decide +kernel
theorem dX9_push_9 : decode cX9_push 9 = .ok (.invokestatic 67, 3) := by decide +kernel
theorem dX9_push_12 : decode cX9_push 12 = .ok (.ifCond .eq 23, 3) := by decide +kernel
theorem dX9_push_15 : decode cX9_push 15 = .ok (.aload_n 0, 1) := by decide +kernel
theorem dX9_push_16 : decode cX9_push 16 = .ok (.getfield 22, 3) := by decide +kernel
theorem dX9_push_19 : decode cX9_push 19 = .ok (.aload_n 0, 1) := by decide +kernel
theorem dX9_push_20 : decode cX9_push 20 = .ok (.getfield 26, 3) := by decide +kernel
theorem dX9_push_23 : decode cX9_push 23 = .ok (.iload_n 1, 1) := by decide +kernel
theorem dX9_push_24 : decode cX9_push 24 = .ok (.iastore, 1) := by decide +kernel
theorem dX9_push_25 : decode cX9_push 25 = .ok (.aload_n 0, 1) := by decide +kernel
theorem dX9_push_26 : decode cX9_push 26 = .ok (.dup, 1) := by decide +kernel
theorem dX9_push_27 : decode cX9_push 27 = .ok (.getfield 26, 3) := by decide +kernel
theorem dX9_push_30 : decode cX9_push 30 = .ok (.iconst 1, 1) := by decide +kernel
theorem dX9_push_31 : decode cX9_push 31 = .ok (.iadd, 1) := by decide +kernel
theorem dX9_push_32 : decode cX9_push 32 = .ok (.putfield 26, 3) := by decide +kernel
theorem dX9_push_35 : decode cX9_push 35 = .ok (.return_, 1) := by decide +kernel
theorem dX9_pop_0 : decode cX9_pop 0 = .ok (.aload_n 0, 1) := by decide +kernel
theorem dX9_pop_1 : decode cX9_pop 1 = .ok (.getfield 26, 3) := by decide +kernel
theorem dX9_pop_4 : decode cX9_pop 4 = .ok (.iconst 1, 1) := by decide +kernel
theorem dX9_pop_5 : decode cX9_pop 5 = .ok (.isub, 1) := by decide +kernel
theorem dX9_pop_6 : decode cX9_pop 6 = .ok (.aload_n 0, 1) := by decide +kernel
theorem dX9_pop_7 : decode cX9_pop 7 = .ok (.getfield 22, 3) := by decide +kernel
theorem dX9_pop_10 : decode cX9_pop 10 = .ok (.arraylength, 1) := by decide +kernel
theorem dX9_pop_11 : decode cX9_pop 11 = .ok (.invokestatic 67, 3) := by decide +kernel
theorem dX9_pop_14 : decode cX9_pop 14 = .ok (.ifCond .ne 5, 3) := by decide +kernel
theorem dX9_pop_17 : decode cX9_pop 17 = .ok (.iconst 0, 1) := by decide +kernel
theorem dX9_pop_18 : decode cX9_pop 18 = .ok (.ireturn, 1) := by decide +kernel
theorem dX9_pop_19 : decode cX9_pop 19 = .ok (.aload_n 0, 1) := by decide +kernel
theorem dX9_pop_20 : decode cX9_pop 20 = .ok (.dup, 1) := by decide +kernel
theorem dX9_pop_21 : decode cX9_pop 21 = .ok (.getfield 26, 3) := by decide +kernel
theorem dX9_pop_24 : decode cX9_pop 24 = .ok (.iconst 1, 1) := by decide +kernel
theorem dX9_pop_25 : decode cX9_pop 25 = .ok (.isub, 1) := by decide +kernel
theorem dX9_pop_26 : decode cX9_pop 26 = .ok (.putfield 26, 3) := by decide +kernel
theorem dX9_pop_29 : decode cX9_pop 29 = .ok (.aload_n 0, 1) := by decide +kernel
theorem dX9_pop_30 : decode cX9_pop 30 = .ok (.getfield 22, 3) := by decide +kernel
theorem dX9_pop_33 : decode cX9_pop 33 = .ok (.aload_n 0, 1) := by decide +kernel
theorem dX9_pop_34 : decode cX9_pop 34 = .ok (.getfield 26, 3) := by decide +kernel
theorem dX9_pop_37 : decode cX9_pop 37 = .ok (.iaload, 1) := by decide +kernel
theorem dX9_pop_38 : decode cX9_pop 38 = .ok (.ireturn, 1) := by decide +kernel
theorem dX10_init_0 : decode cX10_init 0 = .ok (.aload_n 0, 1) := by decide +kernel
theorem dX10_init_1 : decode cX10_init 1 = .ok (.invokespecial 1, 3) := by decide +kernel
theorem dX10_init_4 : decode cX10_init 4 = .ok (.aload_n 0, 1) := by decide +kernel
theorem dX10_init_5 : decode cX10_init 5 = .ok (.iload_n 1, 1) := by decide +kernel
theorem dX10_init_6 : decode cX10_init 6 = .ok (.putfield 7, 3) := by decide +kernel
theorem dX10_init_9 : decode cX10_init 9 = .ok (.aload_n 0, 1) := by decide +kernel
theorem dX10_init_10 : decode cX10_init 10 = .ok (.iload_n 2, 1) := by decide +kernel
theorem dX10_init_11 : decode cX10_init 11 = .ok (.putfield 13, 3) := by decide +kernel
theorem dX10_init_14 : decode cX10_init 14 = .ok (.aload_n 0, 1) := by decide +kernel
theorem dX10_init_15 : decode cX10_init 15 = .ok (.iload_n 3, 1) := by decide +kernel
theorem dX10_init_16 : decode cX10_init 16 = .ok (.putfield 16, 3) := by decide +kernel
theorem dX10_init_19 : decode cX10_init 19 = .ok (.return_, 1) := by decide +kernel
theorem dX10_split_0 : decode cX10_split 0 = .ok (.new 19, 3) := by decide +kernel
theorem dX10_split_3 : decode cX10_split 3 = .ok (.dup, 1) := by decide +kernel
theorem dX10_split_4 : decode cX10_split 4 = .ok (.invokespecial 21, 3) := by decide +kernel
theorem dX10_split_7 : decode cX10_split 7 = .ok (.astore_n 2, 1) := by decide +kernel
theorem dX10_split_8 : decode cX10_split 8 = .ok (.iconst 0, 1) := by decide +kernel
theorem dX10_split_9 : decode cX10_split 9 = .ok (.istore_n 3, 1) := by decide +kernel
theorem dX10_split_10 : decode cX10_split 10 = .ok (.iload_n 3, 1) := by decide +kernel
theorem dX10_split_11 : decode cX10_split 11 = .ok (.iload_n 1, 1) := by decide +kernel
theorem dX10_split_12 : decode cX10_split 12 = .ok (.if_icmp .ge 112, 3) := by decide +kernel
theorem dX10_split_15 : decode cX10_split 15 = .ok (.aload_n 0, 1) := by decide +kernel
theorem dX10_split_16 : decode cX10_split 16 = .ok (.iload_n 3, 1) := by decide +kernel
theorem dX10_split_17 : decode cX10_split 17 = .ok (.invokestatic 22, 3) := by decide +kernel
theorem dX10_split_20 : decode cX10_split 20 = .ok (.istore 4, 2) := by decide +kernel
theorem dX10_split_22 : decode cX10_split 22 = .ok (.aload_n 0, 1) := by decide +kernel
theorem dX10_split_23 : decode cX10_split 23 = .ok (.iload_n 3, 1) := by decide +kernel
theorem dX10_split_24 : decode cX10_split 24 = .ok (.iload_n 1, 1) := by decide +kernel
theorem dX10_split_25 : decode cX10_split 25 = .ok (.invokestatic 26, 3) := by decide +kernel
theorem dX10_split_28 : decode cX10_split 28 = .ok (.istore 5, 2) := by decide +kernel
theorem dX10_split_30 : decode cX10_split 30 = .ok (.iload 4, 2) := by decide +kernel
theorem dX10_split_32 : decode cX10_split 32 = .ok (.invokestatic 30, 3) := by decide +kernel
theorem dX10_split_35 : decode cX10_split 35 = .ok (.ifCond .eq 27, 3) := by decide +kernel
theorem dX10_split_38 : decode cX10_split 38 = .ok (.aload_n 2, 1) := by decide +kernel
theorem dX10_split_39 : decode cX10_split 39 = .ok (.new 8, 3) := by decide +kernel
theorem dX10_split_42 : decode cX10_split 42 = .ok (.dup, 1) := by decide +kernel
theorem dX10_split_43 : decode cX10_split 43 = .ok (.aload_n 0, 1) := by decide +kernel
theorem dX10_split_44 : decode cX10_split 44 = .ok (.iload_n 3, 1) := by decide +kernel
theorem dX10_split_45 : decode cX10_split 45 = .ok (.iload 5, 2) := by decide +kernel
theorem dX10_split_47 : decode cX10_split 47 = .ok (.invokestatic 34, 3) := by decide +kernel
theorem dX10_split_50 : decode cX10_split 50 = .ok (.iload_n 3, 1) := by decide +kernel
theorem dX10_split_51 : decode cX10_split 51 = .ok (.iconst 0, 1) := by decide +kernel
theorem dX10_split_52 : decode cX10_split 52 = .ok (.invokespecial 37, 3) := by decide +kernel
theorem dX10_split_55 : decode cX10_split 55 = .ok (.invokevirtual 40, 3) := by decide +kernel
theorem dX10_split_58 : decode cX10_split 58 = .ok (.pop, 1) := by decide +kernel
theorem dX10_split_59 : decode cX10_split 59 = .ok (.goto 53, 3) := by decide +kernel
theorem dX10_split_62 : decode cX10_split 62 = .ok (.iload 4, 2) := by decide +kernel
theorem dX10_split_64 : decode cX10_split 64 = .ok (.invokestatic 44, 3) := by decide +kernel
theorem dX10_split_67 : decode cX10_split 67 = .ok (.ifCond .eq 18, 3) := by decide +kernel
theorem dX10_split_70 : decode cX10_split 70 = .ok (.aload_n 2, 1) := by decide +kernel
theorem dX10_split_71 : decode cX10_split 71 = .ok (.aload_n 0, 1) := by decide +kernel
theorem dX10_split_72 : decode cX10_split 72 = .ok (.iload_n 3, 1) := by decide +kernel
theorem dX10_split_73 : decode cX10_split 73 = .ok (.iload 5, 2) := by decide +kernel
theorem dX10_split_75 : decode cX10_split 75 = .ok (.invokestatic 47, 3) := by decide +kernel
theorem dX10_split_78 : decode cX10_split 78 = .ok (.invokevirtual 40, 3) := by decide +kernel
theorem dX10_split_81 : decode cX10_split 81 = .ok (.pop, 1) := by decide +kernel
theorem dX10_split_82 : decode cX10_split 82 = .ok (.goto 30, 3) := by decide +kernel
theorem dX10_split_85 : decode cX10_split 85 = .ok (.iload 4, 2) := by decide +kernel
theorem dX10_split_87 : decode cX10_split 87 = .ok (.invokestatic 51, 3) := by decide +kernel
theorem dX10_split_90 : decode cX10_split 90 = .ok (.ifCond .ne 22, 3) := by decide +kernel
theorem dX10_split_93 : decode cX10_split 93 = .ok (.aload_n 2, 1) := by decide +kernel
theorem dX10_split_94 : decode cX10_split 94 = .ok (.new 8, 3) := by decide +kernel
theorem dX10_split_97 : decode cX10_split 97 = .ok (.dup, 1) := by decide +kernel
theorem dX10_split_98 : decode cX10_split 98 = .ok (.iload 4, 2) := by decide +kernel
theorem dX10_split_100 : decode cX10_split 100 = .ok (.invokestatic 54, 3) := by decide +kernel
theorem dX10_split_103 : decode cX10_split 103 = .ok (.iload_n 3, 1) := by decide +kernel
theorem dX10_split_104 : decode cX10_split 104 = .ok (.iconst 0, 1) := by decide +kernel
theorem dX10_split_105 : decode cX10_split 105 = .ok (.invokespecial 37, 3) := by decide +kernel
theorem dX10_split_108 : decode cX10_split 108 = .ok (.invokevirtual 40, 3) := by decide +kernel
theorem dX10_split_111 : decode cX10_split 111 = .ok (.pop, 1) := by decide +kernel
theorem dX10_split_112 : decode cX10_split 112 = .ok (.iload_n 3, 1) := by decide +kernel
theorem dX10_split_113 : decode cX10_split 113 = .ok (.iconst 1, 1) := by decide +kernel
theorem dX10_split_114 : decode cX10_split 114 = .ok (.iadd, 1) := by decide +kernel
theorem dX10_split_115 : decode cX10_split 115 = .ok (.iload 5, 2) := by decide +kernel
theorem dX10_split_117 : decode cX10_split 117 = .ok (.invokestatic 58, 3) := by decide +kernel
theorem dX10_split_120 : decode cX10_split 120 = .ok (.istore_n 3, 1) := by decide +kernel
theorem dX10_split_121 : decode cX10_split 121 = .ok (.goto (-111), 3) := by decide +kernel
theorem dX10_split_124 : decode cX10_split 124 = .ok (.aload_n 2, 1) := by decide +kernel
theorem dX10_split_125 : decode cX10_split 125 = .ok (.new 8, 3) := by decide +kernel
theorem dX10_split_128 : decode cX10_split 128 = .ok (.dup, 1) := by decide +kernel
theorem dX10_split_129 : decode cX10_split 129 = .ok (.iconst 0, 1) := by decide +kernel
theorem dX10_split_130 : decode cX10_split 130 = .ok (.iload_n 1, 1) := by decide +kernel
theorem dX10_split_131 : decode cX10_split 131 = .ok (.iconst 0, 1) := by decide +kernel
theorem dX10_split_132 : decode cX10_split 132 = .ok (.invokespecial 37, 3) := by decide +kernel
theorem dX10_split_135 : decode cX10_split 135 = .ok (.invokevirtual 40, 3) := by decide +kernel
theorem dX10_split_138 : decode cX10_split 138 = .ok (.pop, 1) := by decide +kernel
theorem dX10_split_139 : decode cX10_split 139 = .ok (.aload_n 2, 1) := by decide +kernel
theorem dX10_split_140 : decode cX10_split 140 = .ok (.areturn, 1) := by decide +kernel
theorem dX10_wordEnd_0 : decode cX10_wordEnd 0 = .ok (.aload_n 0, 1) := by decide +kernel
theorem dX10_wordEnd_1 : decode cX10_wordEnd 1 = .ok (.iload_n 1, 1) := by decide +kernel
theorem dX10_wordEnd_2 : decode cX10_wordEnd 2 = .ok (.invokestatic 22, 3) := by decide +kernel
theorem dX10_wordEnd_5 : decode cX10_wordEnd 5 = .ok (.invokestatic 30, 3) := by decide +kernel
theorem dX10_wordEnd_8 : decode cX10_wordEnd 8 = .ok (.istore_n 3, 1) := by decide +kernel
theorem dX10_wordEnd_9 : decode cX10_wordEnd 9 = .ok (.iload_n 1, 1) := by decide +kernel
theorem dX10_wordEnd_10 : decode cX10_wordEnd 10 = .ok (.istore 4, 2) := by decide +kernel
theorem dX10_wordEnd_12 : decode cX10_wordEnd 12 = .ok (.iload 4, 2) := by decide +kernel
theorem dX10_wordEnd_14 : decode cX10_wordEnd 14 = .ok (.iload_n 2, 1) := by decide +kernel
theorem dX10_wordEnd_15 : decode cX10_wordEnd 15 = .ok (.if_icmp .ge 40, 3) := by decide +kernel
theorem dX10_wordEnd_18 : decode cX10_wordEnd 18 = .ok (.iload_n 3, 1) := by decide +kernel
theorem dX10_wordEnd_19 : decode cX10_wordEnd 19 = .ok (.ifCond .eq 18, 3) := by decide +kernel
theorem dX10_wordEnd_22 : decode cX10_wordEnd 22 = .ok (.aload_n 0, 1) := by decide +kernel
theorem dX10_wordEnd_23 : decode cX10_wordEnd 23 = .ok (.iload 4, 2) := by decide +kernel
theorem dX10_wordEnd_25 : decode cX10_wordEnd 25 = .ok (.invokestatic 22, 3) := by decide +kernel
theorem dX10_wordEnd_28 : decode cX10_wordEnd 28 = .ok (.invokestatic 30, 3) := by decide +kernel
theorem dX10_wordEnd_31 : decode cX10_wordEnd 31 = .ok (.ifCond .eq 24, 3) := by decide +kernel
theorem dX10_wordEnd_34 : decode cX10_wordEnd 34 = .ok (.goto 15, 3) := by decide +kernel
theorem dX10_wordEnd_37 : decode cX10_wordEnd 37 = .ok (.aload_n 0, 1) := by decide +kernel
theorem dX10_wordEnd_38 : decode cX10_wordEnd 38 = .ok (.iload 4, 2) := by decide +kernel
theorem dX10_wordEnd_40 : decode cX10_wordEnd 40 = .ok (.invokestatic 22, 3) := by decide +kernel
theorem dX10_wordEnd_43 : decode cX10_wordEnd 43 = .ok (.invokestatic 44, 3) := by decide +kernel
theorem dX10_wordEnd_46 : decode cX10_wordEnd 46 = .ok (.ifCond .eq 9, 3) := by decide +kernel
theorem dX10_wordEnd_49 : decode cX10_wordEnd 49 = .ok (.iinc 4 1, 3) := by decide +kernel
theorem dX10_wordEnd_52 : decode cX10_wordEnd 52 = .ok (.goto (-40), 3) := by decide +kernel
theorem dX10_wordEnd_55 : decode cX10_wordEnd 55 = .ok (.iload 4, 2) := by decide +kernel
theorem dX10_wordEnd_57 : decode cX10_wordEnd 57 = .ok (.ireturn, 1) := by decide +kernel
theorem dX10_number_0 : decode cX10_number 0 = .ok (.iload_n 2, 1) := by decide +kernel
theorem dX10_number_1 : decode cX10_number 1 = .ok (.iload_n 1, 1) := by decide +kernel
theorem dX10_number_2 : decode cX10_number 2 = .ok (.isub, 1) := by decide +kernel
theorem dX10_number_3 : decode cX10_number 3 = .ok (.iconst 5, 1) := by decide +kernel
theorem dX10_number_4 : decode cX10_number 4 = .ok (.if_icmp .le 14, 3) := by decide +kernel
theorem dX10_number_7 : decode cX10_number 7 = .ok (.new 8, 3) := by decide +kernel
theorem dX10_number_10 : decode cX10_number 10 = .ok (.dup, 1) := by decide +kernel
theorem dX10_number_11 : decode cX10_number 11 = .ok (.iconst 1, 1) := by decide +kernel
theorem dX10_number_12 : decode cX10_number 12 = .ok (.iload_n 1, 1) := by decide +kernel
theorem dX10_number_13 : decode cX10_number 13 = .ok (.iconst 0, 1) := by decide +kernel
theorem dX10_number_14 : decode cX10_number 14 = .ok (.invokespecial 37, 3) := by decide +kernel
theorem dX10_number_17 : decode cX10_number 17 = .ok (.areturn, 1) := by decide +kernel
theorem dX10_number_18 : decode cX10_number 18 = .ok (.iconst 0, 1) := by decide +kernel
theorem dX10_number_19 : decode cX10_number 19 = .ok (.istore_n 3, 1) := by decide +kernel
theorem dX10_number_20 : decode cX10_number 20 = .ok (.iload_n 1, 1) := by decide +kernel
theorem dX10_number_21 : decode cX10_number 21 = .ok (.istore 4, 2) := by decide +kernel
theorem dX10_number_23 : decode cX10_number 23 = .ok (.iload 4, 2) := by decide +kernel
theorem dX10_number_25 : decode cX10_number 25 = .ok (.iload_n 2, 1) := by decide +kernel
theorem dX10_number_26 : decode cX10_number 26 = .ok (.if_icmp .ge 24, 3) := by decide +kernel
theorem dX10_number_29 : decode cX10_number 29 = .ok (.iload_n 3, 1) := by decide +kernel
theorem dX10_number_30 : decode cX10_number 30 = .ok (.bipush 10, 2) := by decide +kernel
theorem dX10_number_32 : decode cX10_number 32 = .ok (.imul, 1) := by decide +kernel
theorem dX10_number_33 : decode cX10_number 33 = .ok (.aload_n 0, 1) := by decide +kernel
theorem dX10_number_34 : decode cX10_number 34 = .ok (.iload 4, 2) := by decide +kernel
theorem dX10_number_36 : decode cX10_number 36 = .ok (.invokestatic 22, 3) := by decide +kernel
theorem dX10_number_39 : decode cX10_number 39 = .ok (.iadd, 1) := by decide +kernel
theorem dX10_number_40 : decode cX10_number 40 = .ok (.bipush 48, 2) := by decide +kernel
theorem dX10_number_42 : decode cX10_number 42 = .ok (.isub, 1) := by decide +kernel
theorem dX10_number_43 : decode cX10_number 43 = .ok (.istore_n 3, 1) := by decide +kernel
theorem dX10_number_44 : decode cX10_number 44 = .ok (.iinc 4 1, 3) := by decide +kernel
theorem dX10_number_47 : decode cX10_number 47 = .ok (.goto (-24), 3) := by decide +kernel
theorem dX10_number_50 : decode cX10_number 50 = .ok (.new 8, 3) := by decide +kernel
theorem dX10_number_53 : decode cX10_number 53 = .ok (.dup, 1) := by decide +kernel
theorem dX10_number_54 : decode cX10_number 54 = .ok (.iconst 2, 1) := by decide +kernel
theorem dX10_number_55 : decode cX10_number 55 = .ok (.iload_n 1, 1) := by decide +kernel
theorem dX10_number_56 : decode cX10_number 56 = .ok (.iload_n 3, 1) := by decide +kernel
theorem dX10_number_57 : decode cX10_number 57 = .ok (.invokespecial 37, 3) := by decide +kernel
theorem dX10_number_60 : decode cX10_number 60 = .ok (.areturn, 1) := by decide +kernel
theorem dX10_keyword_0 : decode cX10_keyword 0 = .ok (.iconst 3, 1) := by decide +kernel
theorem dX10_keyword_1 : decode cX10_keyword 1 = .ok (.istore_n 3, 1) := by decide +kernel
theorem dX10_keyword_2 : decode cX10_keyword 2 = .ok (.iload_n 3, 1) := by decide +kernel
theorem dX10_keyword_3 : decode cX10_keyword 3 = .ok (.bipush 16, 2) := by decide +kernel
theorem dX10_keyword_5 : decode cX10_keyword 5 = .ok (.if_icmp .gt 24, 3) := by decide +kernel
theorem dX10_keyword_8 : decode cX10_keyword 8 = .ok (.iload_n 3, 1) := by decide +kernel
theorem dX10_keyword_9 : decode cX10_keyword 9 = .ok (.invokestatic 64, 3) := by decide +kernel
theorem dX10_keyword_12 : decode cX10_keyword 12 = .ok (.aload_n 0, 1) := by decide +kernel
theorem dX10_keyword_13 : decode cX10_keyword 13 = .ok (.iload_n 1, 1) := by decide +kernel
theorem dX10_keyword_14 : decode cX10_keyword 14 = .ok (.iload_n 2, 1) := by decide +kernel
theorem dX10_keyword_15 : decode cX10_keyword 15 = .ok (.invokestatic 68, 3) := by decide +kernel
theorem dX10_keyword_18 : decode cX10_keyword 18 = .ok (.ifCond .eq 5, 3) := by decide +kernel
theorem dX10_keyword_21 : decode cX10_keyword 21 = .ok (.iload_n 3, 1) := by decide +kernel
theorem dX10_keyword_22 : decode cX10_keyword 22 = .ok (.ireturn, 1) := by decide +kernel
theorem dX10_keyword_23 : decode cX10_keyword 23 = .ok (.iinc 3 1, 3) := by decide +kernel
theorem dX10_keyword_26 : decode cX10_keyword 26 = .ok (.goto (-24), 3) := by decide +kernel
theorem dX10_keyword_29 : decode cX10_keyword 29 = .ok (.iconst 1, 1) := by decide +kernel
theorem dX10_keyword_30 : decode cX10_keyword 30 = .ok (.ireturn, 1) := by decide +kernel
theorem dX10_isSpelled_0 : decode cX10_isSpelled 0 = .ok (.aload_n 0, 1) := by decide +kernel
theorem dX10_isSpelled_1 : decode cX10_isSpelled 1 = .ok (.invokevirtual 72, 3) := by decide +kernel
theorem dX10_isSpelled_4 : decode cX10_isSpelled 4 = .ok (.iload_n 3, 1) := by decide +kernel
theorem dX10_isSpelled_5 : decode cX10_isSpelled 5 = .ok (.iload_n 2, 1) := by decide +kernel
theorem dX10_isSpelled_6 : decode cX10_isSpelled 6 = .ok (.isub, 1) := by decide +kernel
theorem dX10_isSpelled_7 : decode cX10_isSpelled 7 = .ok (.if_icmp .eq 5, 3) := by decide +kernel
theorem dX10_isSpelled_10 : decode cX10_isSpelled 10 = .ok (.iconst 0, 1) := by decide +kernel
theorem dX10_isSpelled_11 : decode cX10_isSpelled 11 = .ok (.ireturn, 1) := by decide +kernel
theorem dX10_isSpelled_12 : decode cX10_isSpelled 12 = .ok (.iconst 0, 1) := by decide +kernel
theorem dX10_isSpelled_13 : decode cX10_isSpelled 13 = .ok (.istore 4, 2) := by decide +kernel
theorem dX10_isSpelled_15 : decode cX10_isSpelled 15 = .ok (.iload 4, 2) := by decide +kernel
theorem dX10_isSpelled_17 : decode cX10_isSpelled 17 = .ok (.aload_n 0, 1) := by decide +kernel
theorem dX10_isSpelled_18 : decode cX10_isSpelled 18 = .ok (.invokevirtual 72, 3) := by decide +kernel
theorem dX10_isSpelled_21 : decode cX10_isSpelled 21 = .ok (.if_icmp .ge 28, 3) := by decide +kernel
theorem dX10_isSpelled_24 : decode cX10_isSpelled 24 = .ok (.aload_n 0, 1) := by decide +kernel
theorem dX10_isSpelled_25 : decode cX10_isSpelled 25 = .ok (.iload 4, 2) := by decide +kernel
theorem dX10_isSpelled_27 : decode cX10_isSpelled 27 = .ok (.invokevirtual 78, 3) := by decide +kernel
theorem dX10_isSpelled_30 : decode cX10_isSpelled 30 = .ok (.aload_n 1, 1) := by decide +kernel
theorem dX10_isSpelled_31 : decode cX10_isSpelled 31 = .ok (.iload_n 2, 1) := by decide +kernel
theorem dX10_isSpelled_32 : decode cX10_isSpelled 32 = .ok (.iload 4, 2) := by decide +kernel
theorem dX10_isSpelled_34 : decode cX10_isSpelled 34 = .ok (.iadd, 1) := by decide +kernel
theorem dX10_isSpelled_35 : decode cX10_isSpelled 35 = .ok (.invokestatic 22, 3) := by decide +kernel
theorem dX10_isSpelled_38 : decode cX10_isSpelled 38 = .ok (.if_icmp .eq 5, 3) := by decide +kernel
theorem dX10_isSpelled_41 : decode cX10_isSpelled 41 = .ok (.iconst 0, 1) := by decide +kernel
theorem dX10_isSpelled_42 : decode cX10_isSpelled 42 = .ok (.ireturn, 1) := by decide +kernel
theorem dX10_isSpelled_43 : decode cX10_isSpelled 43 = .ok (.iinc 4 1, 3) := by decide +kernel
theorem dX10_isSpelled_46 : decode cX10_isSpelled 46 = .ok (.goto (-31), 3) := by decide +kernel
theorem dX10_isSpelled_49 : decode cX10_isSpelled 49 = .ok (.iconst 1, 1) := by decide +kernel
theorem dX10_isSpelled_50 : decode cX10_isSpelled 50 = .ok (.ireturn, 1) := by decide +kernel
theorem dX10_byteAt_0 : decode cX10_byteAt 0 = .ok (.iload_n 1, 1) := by decide +kernel
theorem dX10_byteAt_1 : decode cX10_byteAt 1 = .ok (.aload_n 0, 1) := by decide +kernel
theorem dX10_byteAt_2 : decode cX10_byteAt 2 = .ok (.arraylength, 1) := by decide +kernel
theorem dX10_byteAt_3 : decode cX10_byteAt 3 = .ok (.invokestatic 82, 3) := by decide +kernel
theorem dX10_byteAt_6 : decode cX10_byteAt 6 = .ok (.ifCond .eq 9, 3) := by decide +kernel
theorem dX10_byteAt_9 : decode cX10_byteAt 9 = .ok (.aload_n 0, 1) := by decide +kernel
theorem dX10_byteAt_10 : decode cX10_byteAt 10 = .ok (.iload_n 1, 1) := by decide +kernel
theorem dX10_byteAt_11 : decode cX10_byteAt 11 = .ok (.baload, 1) := by decide +kernel
theorem dX10_byteAt_12 : decode cX10_byteAt 12 = .ok (.goto 4, 3) := by decide +kernel
theorem dX10_byteAt_15 : decode cX10_byteAt 15 = .ok (.iconst 0, 1) := by decide +kernel
theorem dX10_byteAt_16 : decode cX10_byteAt 16 = .ok (.ireturn, 1) := by decide +kernel
theorem dX10_isBlank_0 : decode cX10_isBlank 0 = .ok (.iload_n 0, 1) := by decide +kernel
theorem dX10_isBlank_1 : decode cX10_isBlank 1 = .ok (.bipush 32, 2) := by decide +kernel
theorem dX10_isBlank_3 : decode cX10_isBlank 3 = .ok (.if_icmp .eq 9, 3) := by decide +kernel
theorem dX10_isBlank_6 : decode cX10_isBlank 6 = .ok (.iload_n 0, 1) := by decide +kernel
theorem dX10_isBlank_7 : decode cX10_isBlank 7 = .ok (.bipush 10, 2) := by decide +kernel
theorem dX10_isBlank_9 : decode cX10_isBlank 9 = .ok (.if_icmp .ne 7, 3) := by decide +kernel
theorem dX10_isBlank_12 : decode cX10_isBlank 12 = .ok (.iconst 1, 1) := by decide +kernel
theorem dX10_isBlank_13 : decode cX10_isBlank 13 = .ok (.goto 4, 3) := by decide +kernel
theorem dX10_isBlank_16 : decode cX10_isBlank 16 = .ok (.iconst 0, 1) := by decide +kernel
theorem dX10_isBlank_17 : decode cX10_isBlank 17 = .ok (.ireturn, 1) := by decide +kernel
theorem dX10_isLetter_0 : decode cX10_isLetter 0 = .ok (.iload_n 0, 1) := by decide +kernel
theorem dX10_isLetter_1 : decode cX10_isLetter 1 = .ok (.bipush 97, 2) := by decide +kernel
theorem dX10_isLetter_3 : decode cX10_isLetter 3 = .ok (.if_icmp .lt 9, 3) := by decide +kernel
theorem dX10_isLetter_6 : decode cX10_isLetter 6 = .ok (.iload_n 0, 1) := by decide +kernel
theorem dX10_isLetter_7 : decode cX10_isLetter 7 = .ok (.bipush 122, 2) := by decide +kernel
theorem dX10_isLetter_9 : decode cX10_isLetter 9 = .ok (.if_icmp .le 15, 3) := by decide +kernel
theorem dX10_isLetter_12 : decode cX10_isLetter 12 = .ok (.iload_n 0, 1) := by decide +kernel
theorem dX10_isLetter_13 : decode cX10_isLetter 13 = .ok (.bipush 65, 2) := by decide +kernel
theorem dX10_isLetter_15 : decode cX10_isLetter 15 = .ok (.if_icmp .lt 13, 3) := by decide +kernel
theorem dX10_isLetter_18 : decode cX10_isLetter 18 = .ok (.iload_n 0, 1) := by decide +kernel
theorem dX10_isLetter_19 : decode cX10_isLetter 19 = .ok (.bipush 90, 2) := by decide +kernel
theorem dX10_isLetter_21 : decode cX10_isLetter 21 = .ok (.if_icmp .gt 7, 3) := by decide +kernel
theorem dX10_isLetter_24 : decode cX10_isLetter 24 = .ok (.iconst 1, 1) := by decide +kernel
theorem dX10_isLetter_25 : decode cX10_isLetter 25 = .ok (.goto 4, 3) := by decide +kernel
theorem dX10_isLetter_28 : decode cX10_isLetter 28 = .ok (.iconst 0, 1) := by decide +kernel
theorem dX10_isLetter_29 : decode cX10_isLetter 29 = .ok (.ireturn, 1) := by decide +kernel
theorem dX10_isDigit_0 : decode cX10_isDigit 0 = .ok (.iload_n 0, 1) := by decide +kernel
theorem dX10_isDigit_1 : decode cX10_isDigit 1 = .ok (.bipush 48, 2) := by decide +kernel
theorem dX10_isDigit_3 : decode cX10_isDigit 3 = .ok (.if_icmp .lt 13, 3) := by decide +kernel
theorem dX10_isDigit_6 : decode cX10_isDigit 6 = .ok (.iload_n 0, 1) := by decide +kernel
theorem dX10_isDigit_7 : decode cX10_isDigit 7 = .ok (.bipush 57, 2) := by decide +kernel
theorem dX10_isDigit_9 : decode cX10_isDigit 9 = .ok (.if_icmp .gt 7, 3) := by decide +kernel
theorem dX10_isDigit_12 : decode cX10_isDigit 12 = .ok (.iconst 1, 1) := by decide +kernel
theorem dX10_isDigit_13 : decode cX10_isDigit 13 = .ok (.goto 4, 3) := by decide +kernel
theorem dX10_isDigit_16 : decode cX10_isDigit 16 = .ok (.iconst 0, 1) := by decide +kernel
theorem dX10_isDigit_17 : decode cX10_isDigit 17 = .ok (.ireturn, 1) := by decide +kernel
theorem dX10_spelling_0 : decode cX10_spelling 0 = .ok (.iload_n 0, 1) := by decide +kernel
theorem dX10_spelling_1 : decode cX10_spelling 1 = .ok (.tableswitch 113 3 16 #[71, 74, 77, 80, 83, 86, 89, 92, 95, 98, 101, 104, 107, 110], 71) := by decide +kernel
theorem dX10_spelling_72 : decode cX10_spelling 72 = .ok (.ldc 88, 2) := by decide +kernel
theorem dX10_spelling_74 : decode cX10_spelling 74 = .ok (.areturn, 1) := by decide +kernel
theorem dX10_spelling_75 : decode cX10_spelling 75 = .ok (.ldc 90, 2) := by decide +kernel
theorem dX10_spelling_77 : decode cX10_spelling 77 = .ok (.areturn, 1) := by decide +kernel
theorem dX10_spelling_78 : decode cX10_spelling 78 = .ok (.ldc 92, 2) := by decide +kernel
theorem dX10_spelling_80 : decode cX10_spelling 80 = .ok (.areturn, 1) := by decide +kernel
theorem dX10_spelling_81 : decode cX10_spelling 81 = .ok (.ldc 94, 2) := by decide +kernel
theorem dX10_spelling_83 : decode cX10_spelling 83 = .ok (.areturn, 1) := by decide +kernel
theorem dX10_spelling_84 : decode cX10_spelling 84 = .ok (.ldc 96, 2) := by decide +kernel
theorem dX10_spelling_86 : decode cX10_spelling 86 = .ok (.areturn, 1) := by decide +kernel
theorem dX10_spelling_87 : decode cX10_spelling 87 = .ok (.ldc 98, 2) := by decide +kernel
theorem dX10_spelling_89 : decode cX10_spelling 89 = .ok (.areturn, 1) := by decide +kernel
theorem dX10_spelling_90 : decode cX10_spelling 90 = .ok (.ldc 100, 2) := by decide +kernel
theorem dX10_spelling_92 : decode cX10_spelling 92 = .ok (.areturn, 1) := by decide +kernel
theorem dX10_spelling_93 : decode cX10_spelling 93 = .ok (.ldc 102, 2) := by decide +kernel
theorem dX10_spelling_95 : decode cX10_spelling 95 = .ok (.areturn, 1) := by decide +kernel
theorem dX10_spelling_96 : decode cX10_spelling 96 = .ok (.ldc 104, 2) := by decide +kernel
theorem dX10_spelling_98 : decode cX10_spelling 98 = .ok (.areturn, 1) := by decide +kernel
theorem dX10_spelling_99 : decode cX10_spelling 99 = .ok (.ldc 106, 2) := by decide +kernel
theorem dX10_spelling_101 : decode cX10_spelling 101 = .ok (.areturn, 1) := by decide +kernel
theorem dX10_spelling_102 : decode cX10_spelling 102 = .ok (.ldc 108, 2) := by decide +kernel
theorem dX10_spelling_104 : decode cX10_spelling 104 = .ok (.areturn, 1) := by decide +kernel
theorem dX10_spelling_105 : decode cX10_spelling 105 = .ok (.ldc 110, 2) := by decide +kernel
theorem dX10_spelling_107 : decode cX10_spelling 107 = .ok (.areturn, 1) := by decide +kernel
theorem dX10_spelling_108 : decode cX10_spelling 108 = .ok (.ldc 112, 2) := by decide +kernel
theorem dX10_spelling_110 : decode cX10_spelling 110 = .ok (.areturn, 1) := by decide +kernel
theorem dX10_spelling_111 : decode cX10_spelling 111 = .ok (.ldc 114, 2) := by decide +kernel
theorem dX10_spelling_113 : decode cX10_spelling 113 = .ok (.areturn, 1) := by decide +kernel
theorem dX10_spelling_114 : decode cX10_spelling 114 = .ok (.ldc 116, 2) := by decide +kernel
theorem dX10_spelling_116 : decode cX10_spelling 116 = .ok (.areturn, 1) := by decide +kernel
theorem dX10_signOf_0 : decode cX10_signOf 0 = .ok (.iload_n 0, 1) := by decide +kernel
theorem dX10_signOf_1 : decode cX10_signOf 1 = .ok (.tableswitch 137 40 62 #[122, 125, 116, 110, 137, 113, 137, 119, 137, 137, 137, 137, 137, 137, 137, 137, 137, 137, 137, 107, 128, 131, 134], 107) := by decide +kernel
theorem dX10_signOf_108 : decode cX10_signOf 108 = .ok (.bipush 17, 2) := by decide +kernel
theorem dX10_signOf_110 : decode cX10_signOf 110 = .ok (.ireturn, 1) := by decide +kernel
theorem dX10_signOf_111 : decode cX10_signOf 111 = .ok (.bipush 18, 2) := by decide +kernel
theorem dX10_signOf_113 : decode cX10_signOf 113 = .ok (.ireturn, 1) := by decide +kernel
theorem dX10_signOf_114 : decode cX10_signOf 114 = .ok (.bipush 19, 2) := by decide +kernel
theorem dX10_signOf_116 : decode cX10_signOf 116 = .ok (.ireturn, 1) := by decide +kernel
theorem dX10_signOf_117 : decode cX10_signOf 117 = .ok (.bipush 20, 2) := by decide +kernel
theorem dX10_signOf_119 : decode cX10_signOf 119 = .ok (.ireturn, 1) := by decide +kernel
theorem dX10_signOf_120 : decode cX10_signOf 120 = .ok (.bipush 21, 2) := by decide +kernel
theorem dX10_signOf_122 : decode cX10_signOf 122 = .ok (.ireturn, 1) := by decide +kernel
theorem dX10_signOf_123 : decode cX10_signOf 123 = .ok (.bipush 22, 2) := by decide +kernel
theorem dX10_signOf_125 : decode cX10_signOf 125 = .ok (.ireturn, 1) := by decide +kernel
theorem dX10_signOf_126 : decode cX10_signOf 126 = .ok (.bipush 23, 2) := by decide +kernel
theorem dX10_signOf_128 : decode cX10_signOf 128 = .ok (.ireturn, 1) := by decide +kernel
theorem dX10_signOf_129 : decode cX10_signOf 129 = .ok (.bipush 24, 2) := by decide +kernel
theorem dX10_signOf_131 : decode cX10_signOf 131 = .ok (.ireturn, 1) := by decide +kernel
theorem dX10_signOf_132 : decode cX10_signOf 132 = .ok (.bipush 25, 2) := by decide +kernel
theorem dX10_signOf_134 : decode cX10_signOf 134 = .ok (.ireturn, 1) := by decide +kernel
theorem dX10_signOf_135 : decode cX10_signOf 135 = .ok (.bipush 26, 2) := by decide +kernel
theorem dX10_signOf_137 : decode cX10_signOf 137 = .ok (.ireturn, 1) := by decide +kernel
theorem dX10_signOf_138 : decode cX10_signOf 138 = .ok (.iconst 1, 1) := by decide +kernel
theorem dX10_signOf_139 : decode cX10_signOf 139 = .ok (.ireturn, 1) := by decide +kernel
theorem dX11_init_0 : decode cX11_init 0 = .ok (.aload_n 0, 1) := by decide +kernel
theorem dX11_init_1 : decode cX11_init 1 = .ok (.invokespecial 1, 3) := by decide +kernel
theorem dX11_init_4 : decode cX11_init 4 = .ok (.aload_n 0, 1) := by decide +kernel
theorem dX11_init_5 : decode cX11_init 5 = .ok (.iconst 0, 1) := by decide +kernel
theorem dX11_init_6 : decode cX11_init 6 = .ok (.putfield 7, 3) := by decide +kernel
theorem dX11_init_9 : decode cX11_init 9 = .ok (.aload_n 0, 1) := by decide +kernel
theorem dX11_init_10 : decode cX11_init 10 = .ok (.new 13, 3) := by decide +kernel
theorem dX11_init_13 : decode cX11_init 13 = .ok (.dup, 1) := by decide +kernel
theorem dX11_init_14 : decode cX11_init 14 = .ok (.invokespecial 15, 3) := by decide +kernel
theorem dX11_init_17 : decode cX11_init 17 = .ok (.putfield 16, 3) := by decide +kernel
theorem dX11_init_20 : decode cX11_init 20 = .ok (.aload_n 0, 1) := by decide +kernel
theorem dX11_init_21 : decode cX11_init 21 = .ok (.new 13, 3) := by decide +kernel
theorem dX11_init_24 : decode cX11_init 24 = .ok (.dup, 1) := by decide +kernel
theorem dX11_init_25 : decode cX11_init 25 = .ok (.invokespecial 15, 3) := by decide +kernel
theorem dX11_init_28 : decode cX11_init 28 = .ok (.putfield 20, 3) := by decide +kernel
theorem dX11_init_31 : decode cX11_init 31 = .ok (.aload_n 0, 1) := by decide +kernel
theorem dX11_init_32 : decode cX11_init 32 = .ok (.new 13, 3) := by decide +kernel
theorem dX11_init_35 : decode cX11_init 35 = .ok (.dup, 1) := by decide +kernel
theorem dX11_init_36 : decode cX11_init 36 = .ok (.invokespecial 15, 3) := by decide +kernel
theorem dX11_init_39 : decode cX11_init 39 = .ok (.putfield 23, 3) := by decide +kernel
theorem dX11_init_42 : decode cX11_init 42 = .ok (.aload_n 0, 1) := by decide +kernel
theorem dX11_init_43 : decode cX11_init 43 = .ok (.new 13, 3) := by decide +kernel
theorem dX11_init_46 : decode cX11_init 46 = .ok (.dup, 1) := by decide +kernel
theorem dX11_init_47 : decode cX11_init 47 = .ok (.invokespecial 15, 3) := by decide +kernel
theorem dX11_init_50 : decode cX11_init 50 = .ok (.putfield 26, 3) := by decide +kernel
theorem dX11_init_53 : decode cX11_init 53 = .ok (.aload_n 0, 1) := by decide +kernel
theorem dX11_init_54 : decode cX11_init 54 = .ok (.iconst 0, 1) := by decide +kernel
theorem dX11_init_55 : decode cX11_init 55 = .ok (.putfield 29, 3) := by decide +kernel
theorem dX11_init_58 : decode cX11_init 58 = .ok (.aload_n 0, 1) := by decide +kernel
theorem dX11_init_59 : decode cX11_init 59 = .ok (.sipush 600, 3) := by decide +kernel
theorem dX11_init_62 : decode cX11_init 62 = .ok (.newarray .byte, 2) := by decide +kernel
theorem dX11_init_64 : decode cX11_init 64 = .ok (.putfield 32, 3) := by decide +kernel
theorem dX11_init_67 : decode cX11_init 67 = .ok (.aload_n 0, 1) := by decide +kernel
theorem dX11_init_68 : decode cX11_init 68 = .ok (.iconst 0, 1) := by decide +kernel
theorem dX11_init_69 : decode cX11_init 69 = .ok (.putfield 36, 3) := by decide +kernel
theorem dX11_init_72 : decode cX11_init 72 = .ok (.aload_n 0, 1) := by decide +kernel
theorem dX11_init_73 : decode cX11_init 73 = .ok (.new 39, 3) := by decide +kernel
theorem dX11_init_76 : decode cX11_init 76 = .ok (.dup, 1) := by decide +kernel
theorem dX11_init_77 : decode cX11_init 77 = .ok (.iconst 0, 1) := by decide +kernel
theorem dX11_init_78 : decode cX11_init 78 = .ok (.invokespecial 41, 3) := by decide +kernel
theorem dX11_init_81 : decode cX11_init 81 = .ok (.putfield 44, 3) := by decide +kernel
theorem dX11_init_84 : decode cX11_init 84 = .ok (.aload_n 0, 1) := by decide +kernel
theorem dX11_init_85 : decode cX11_init 85 = .ok (.iconst 4, 1) := by decide +kernel
theorem dX11_init_86 : decode cX11_init 86 = .ok (.anewarray 39, 3) := by decide +kernel
theorem dX11_init_89 : decode cX11_init 89 = .ok (.dup, 1) := by decide +kernel
theorem dX11_init_90 : decode cX11_init 90 = .ok (.iconst 0, 1) := by decide +kernel
theorem dX11_init_91 : decode cX11_init 91 = .ok (.aload_n 0, 1) := by decide +kernel
theorem dX11_init_92 : decode cX11_init 92 = .ok (.getfield 44, 3) := by decide +kernel
theorem dX11_init_95 : decode cX11_init 95 = .ok (.aastore, 1) := by decide +kernel
theorem dX11_init_96 : decode cX11_init 96 = .ok (.dup, 1) := by decide +kernel
theorem dX11_init_97 : decode cX11_init 97 = .ok (.iconst 1, 1) := by decide +kernel
theorem dX11_init_98 : decode cX11_init 98 = .ok (.aload_n 0, 1) := by decide +kernel
theorem dX11_init_99 : decode cX11_init 99 = .ok (.getfield 44, 3) := by decide +kernel
theorem dX11_init_102 : decode cX11_init 102 = .ok (.aastore, 1) := by decide +kernel
theorem dX11_init_103 : decode cX11_init 103 = .ok (.dup, 1) := by decide +kernel
theorem dX11_init_104 : decode cX11_init 104 = .ok (.iconst 2, 1) := by decide +kernel
theorem dX11_init_105 : decode cX11_init 105 = .ok (.aload_n 0, 1) := by decide +kernel
theorem dX11_init_106 : decode cX11_init 106 = .ok (.getfield 44, 3) := by decide +kernel
theorem dX11_init_109 : decode cX11_init 109 = .ok (.aastore, 1) := by decide +kernel
theorem dX11_init_110 : decode cX11_init 110 = .ok (.dup, 1) := by decide +kernel
theorem dX11_init_111 : decode cX11_init 111 = .ok (.iconst 3, 1) := by decide +kernel
theorem dX11_init_112 : decode cX11_init 112 = .ok (.aload_n 0, 1) := by decide +kernel
theorem dX11_init_113 : decode cX11_init 113 = .ok (.getfield 44, 3) := by decide +kernel
theorem dX11_init_116 : decode cX11_init 116 = .ok (.aastore, 1) := by decide +kernel
theorem dX11_init_117 : decode cX11_init 117 = .ok (.putfield 48, 3) := by decide +kernel
theorem dX11_init_120 : decode cX11_init 120 = .ok (.aload_n 0, 1) := by decide +kernel
theorem dX11_init_121 : decode cX11_init 121 = .ok (.iconst 0, 1) := by decide +kernel
theorem dX11_init_122 : decode cX11_init 122 = .ok (.putfield 52, 3) := by decide +kernel
theorem dX11_init_125 : decode cX11_init 125 = .ok (.aload_n 0, 1) := by decide +kernel
theorem dX11_init_126 : decode cX11_init 126 = .ok (.iconst (-1), 1) := by decide +kernel
theorem dX11_init_127 : decode cX11_init 127 = .ok (.putfield 55, 3) := by decide +kernel
theorem dX11_init_130 : decode cX11_init 130 = .ok (.aload_n 0, 1) := by decide +kernel
theorem dX11_init_131 : decode cX11_init 131 = .ok (.new 58, 3) := by decide +kernel
theorem dX11_init_134 : decode cX11_init 134 = .ok (.dup, 1) := by decide +kernel
theorem dX11_init_135 : decode cX11_init 135 = .ok (.invokespecial 60, 3) := by decide +kernel
theorem dX11_init_138 : decode cX11_init 138 = .ok (.putfield 61, 3) := by decide +kernel
theorem dX11_init_141 : decode cX11_init 141 = .ok (.aload_n 0, 1) := by decide +kernel
theorem dX11_init_142 : decode cX11_init 142 = .ok (.new 65, 3) := by decide +kernel
theorem dX11_init_145 : decode cX11_init 145 = .ok (.dup, 1) := by decide +kernel
theorem dX11_init_146 : decode cX11_init 146 = .ok (.invokespecial 67, 3) := by decide +kernel
theorem dX11_init_149 : decode cX11_init 149 = .ok (.putfield 68, 3) := by decide +kernel
theorem dX11_init_152 : decode cX11_init 152 = .ok (.aload_n 0, 1) := by decide +kernel
theorem dX11_init_153 : decode cX11_init 153 = .ok (.bipush 20, 2) := by decide +kernel
theorem dX11_init_155 : decode cX11_init 155 = .ok (.newarray .int, 2) := by decide +kernel
theorem dX11_init_157 : decode cX11_init 157 = .ok (.putfield 72, 3) := by decide +kernel
theorem dX11_init_160 : decode cX11_init 160 = .ok (.aload_n 0, 1) := by decide +kernel
theorem dX11_init_161 : decode cX11_init 161 = .ok (.new 76, 3) := by decide +kernel
theorem dX11_init_164 : decode cX11_init 164 = .ok (.dup, 1) := by decide +kernel
theorem dX11_init_165 : decode cX11_init 165 = .ok (.invokespecial 78, 3) := by decide +kernel
theorem dX11_init_168 : decode cX11_init 168 = .ok (.putfield 79, 3) := by decide +kernel
theorem dX11_init_171 : decode cX11_init 171 = .ok (.iconst 0, 1) := by decide +kernel
theorem dX11_init_172 : decode cX11_init 172 = .ok (.istore_n 1, 1) := by decide +kernel
theorem dX11_init_173 : decode cX11_init 173 = .ok (.iload_n 1, 1) := by decide +kernel
theorem dX11_init_174 : decode cX11_init 174 = .ok (.aload_n 0, 1) := by decide +kernel
theorem dX11_init_175 : decode cX11_init 175 = .ok (.getfield 72, 3) := by decide +kernel
theorem dX11_init_178 : decode cX11_init 178 = .ok (.arraylength, 1) := by decide +kernel
theorem dX11_init_179 : decode cX11_init 179 = .ok (.if_icmp .ge 16, 3) := by decide +kernel
theorem dX11_init_182 : decode cX11_init 182 = .ok (.aload_n 0, 1) := by decide +kernel
theorem dX11_init_183 : decode cX11_init 183 = .ok (.getfield 72, 3) := by decide +kernel
theorem dX11_init_186 : decode cX11_init 186 = .ok (.iload_n 1, 1) := by decide +kernel
theorem dX11_init_187 : decode cX11_init 187 = .ok (.iconst 1, 1) := by decide +kernel
theorem dX11_init_188 : decode cX11_init 188 = .ok (.iastore, 1) := by decide +kernel
theorem dX11_init_189 : decode cX11_init 189 = .ok (.iinc 1 1, 3) := by decide +kernel
theorem dX11_init_192 : decode cX11_init 192 = .ok (.goto (-19), 3) := by decide +kernel
theorem dX11_init_195 : decode cX11_init 195 = .ok (.return_, 1) := by decide +kernel
theorem dX11_days_0 : decode cX11_days 0 = .ok (.iload_n 1, 1) := by decide +kernel
theorem dX11_days_1 : decode cX11_days 1 = .ok (.iconst 1, 1) := by decide +kernel
theorem dX11_days_2 : decode cX11_days 2 = .ok (.if_icmp .lt 22, 3) := by decide +kernel
theorem dX11_days_5 : decode cX11_days 5 = .ok (.iload_n 1, 1) := by decide +kernel
theorem dX11_days_6 : decode cX11_days 6 = .ok (.sipush 9999, 3) := by decide +kernel
theorem dX11_days_9 : decode cX11_days 9 = .ok (.if_icmp .gt 15, 3) := by decide +kernel
theorem dX11_days_12 : decode cX11_days 12 = .ok (.aload_n 0, 1) := by decide +kernel
theorem dX11_days_13 : decode cX11_days 13 = .ok (.getfield 7, 3) := by decide +kernel
theorem dX11_days_16 : decode cX11_days 16 = .ok (.iload_n 1, 1) := by decide +kernel
theorem dX11_days_17 : decode cX11_days 17 = .ok (.iadd, 1) := by decide +kernel
theorem dX11_days_18 : decode cX11_days 18 = .ok (.sipush 19999, 3) := by decide +kernel
theorem dX11_days_21 : decode cX11_days 21 = .ok (.if_icmp .le 5, 3) := by decide +kernel
theorem dX11_days_24 : decode cX11_days 24 = .ok (.iconst (-1), 1) := by decide +kernel
theorem dX11_days_25 : decode cX11_days 25 = .ok (.ireturn, 1) := by decide +kernel
theorem dX11_days_26 : decode cX11_days 26 = .ok (.aload_n 0, 1) := by decide +kernel
theorem dX11_days_27 : decode cX11_days 27 = .ok (.dup, 1) := by decide +kernel
theorem dX11_days_28 : decode cX11_days 28 = .ok (.getfield 7, 3) := by decide +kernel
theorem dX11_days_31 : decode cX11_days 31 = .ok (.iload_n 1, 1) := by decide +kernel
theorem dX11_days_32 : decode cX11_days 32 = .ok (.iadd, 1) := by decide +kernel
theorem dX11_days_33 : decode cX11_days 33 = .ok (.putfield 7, 3) := by decide +kernel
theorem dX11_days_36 : decode cX11_days 36 = .ok (.aload_n 0, 1) := by decide +kernel
theorem dX11_days_37 : decode cX11_days 37 = .ok (.getfield 7, 3) := by decide +kernel
theorem dX11_days_40 : decode cX11_days 40 = .ok (.ireturn, 1) := by decide +kernel
theorem dX11_firm_0 : decode cX11_firm 0 = .ok (.iload_n 1, 1) := by decide +kernel
theorem dX11_firm_1 : decode cX11_firm 1 = .ok (.iconst 4, 1) := by decide +kernel
theorem dX11_firm_2 : decode cX11_firm 2 = .ok (.invokestatic 83, 3) := by decide +kernel
theorem dX11_firm_5 : decode cX11_firm 5 = .ok (.ifCond .eq 15, 3) := by decide +kernel
theorem dX11_firm_8 : decode cX11_firm 8 = .ok (.aload_n 0, 1) := by decide +kernel
theorem dX11_firm_9 : decode cX11_firm 9 = .ok (.getfield 16, 3) := by decide +kernel
theorem dX11_firm_12 : decode cX11_firm 12 = .ok (.invokevirtual 87, 3) := by decide +kernel
theorem dX11_firm_15 : decode cX11_firm 15 = .ok (.bipush 8, 2) := by decide +kernel
theorem dX11_firm_17 : decode cX11_firm 17 = .ok (.if_icmp .lt 5, 3) := by decide +kernel
theorem dX11_firm_20 : decode cX11_firm 20 = .ok (.iconst (-1), 1) := by decide +kernel
theorem dX11_firm_21 : decode cX11_firm 21 = .ok (.ireturn, 1) := by decide +kernel
theorem dX11_firm_22 : decode cX11_firm 22 = .ok (.new 91, 3) := by decide +kernel
theorem dX11_firm_25 : decode cX11_firm 25 = .ok (.dup, 1) := by decide +kernel
theorem dX11_firm_26 : decode cX11_firm 26 = .ok (.aload_n 0, 1) := by decide +kernel
theorem dX11_firm_27 : decode cX11_firm 27 = .ok (.getfield 16, 3) := by decide +kernel
theorem dX11_firm_30 : decode cX11_firm 30 = .ok (.invokevirtual 87, 3) := by decide +kernel
theorem dX11_firm_33 : decode cX11_firm 33 = .ok (.iload_n 1, 1) := by decide +kernel
theorem dX11_firm_34 : decode cX11_firm 34 = .ok (.invokespecial 93, 3) := by decide +kernel
theorem dX11_firm_37 : decode cX11_firm 37 = .ok (.astore_n 2, 1) := by decide +kernel
theorem dX11_firm_38 : decode cX11_firm 38 = .ok (.aload_n 0, 1) := by decide +kernel
theorem dX11_firm_39 : decode cX11_firm 39 = .ok (.getfield 16, 3) := by decide +kernel
theorem dX11_firm_42 : decode cX11_firm 42 = .ok (.aload_n 2, 1) := by decide +kernel
theorem dX11_firm_43 : decode cX11_firm 43 = .ok (.invokevirtual 96, 3) := by decide +kernel
theorem dX11_firm_46 : decode cX11_firm 46 = .ok (.pop, 1) := by decide +kernel
theorem dX11_firm_47 : decode cX11_firm 47 = .ok (.aload_n 2, 1) := by decide +kernel
theorem dX11_firm_48 : decode cX11_firm 48 = .ok (.getfield 100, 3) := by decide +kernel
theorem dX11_firm_51 : decode cX11_firm 51 = .ok (.ireturn, 1) := by decide +kernel
theorem dX11_merge_0 : decode cX11_merge 0 = .ok (.aload_n 0, 1) := by decide +kernel
theorem dX11_merge_1 : decode cX11_merge 1 = .ok (.iload_n 1, 1) := by decide +kernel
theorem dX11_merge_2 : decode cX11_merge 2 = .ok (.invokevirtual 103, 3) := by decide +kernel
theorem dX11_merge_5 : decode cX11_merge 5 = .ok (.astore 4, 2) := by decide +kernel
theorem dX11_merge_7 : decode cX11_merge 7 = .ok (.aload_n 0, 1) := by decide +kernel
theorem dX11_merge_8 : decode cX11_merge 8 = .ok (.iload_n 2, 1) := by decide +kernel
theorem dX11_merge_9 : decode cX11_merge 9 = .ok (.invokevirtual 103, 3) := by decide +kernel
theorem dX11_merge_12 : decode cX11_merge 12 = .ok (.astore 5, 2) := by decide +kernel
theorem dX11_merge_14 : decode cX11_merge 14 = .ok (.aload 4, 2) := by decide +kernel
theorem dX11_merge_16 : decode cX11_merge 16 = .ok (.ifnull 23, 3) := by decide +kernel
theorem dX11_merge_19 : decode cX11_merge 19 = .ok (.aload 5, 2) := by decide +kernel
theorem dX11_merge_21 : decode cX11_merge 21 = .ok (.ifnull 18, 3) := by decide +kernel
theorem dX11_merge_24 : decode cX11_merge 24 = .ok (.aload 4, 2) := by decide +kernel
theorem dX11_merge_26 : decode cX11_merge 26 = .ok (.aload 5, 2) := by decide +kernel
theorem dX11_merge_28 : decode cX11_merge 28 = .ok (.if_acmp .eq 11, 3) := by decide +kernel
theorem dX11_merge_31 : decode cX11_merge 31 = .ok (.aload_n 0, 1) := by decide +kernel
theorem dX11_merge_32 : decode cX11_merge 32 = .ok (.iload_n 3, 1) := by decide +kernel
theorem dX11_merge_33 : decode cX11_merge 33 = .ok (.invokevirtual 107, 3) := by decide +kernel
theorem dX11_merge_36 : decode cX11_merge 36 = .ok (.ifCond .ne 5, 3) := by decide +kernel
theorem dX11_merge_39 : decode cX11_merge 39 = .ok (.iconst 0, 1) := by decide +kernel
theorem dX11_merge_40 : decode cX11_merge 40 = .ok (.ireturn, 1) := by decide +kernel
theorem dX11_merge_41 : decode cX11_merge 41 = .ok (.aload 4, 2) := by decide +kernel
theorem dX11_merge_43 : decode cX11_merge 43 = .ok (.getfield 111, 3) := by decide +kernel
theorem dX11_merge_46 : decode cX11_merge 46 = .ok (.ifnonnull 22, 3) := by decide +kernel
theorem dX11_merge_49 : decode cX11_merge 49 = .ok (.aload 5, 2) := by decide +kernel
theorem dX11_merge_51 : decode cX11_merge 51 = .ok (.iload_n 3, 1) := by decide +kernel
theorem dX11_merge_52 : decode cX11_merge 52 = .ok (.invokevirtual 115, 3) := by decide +kernel
theorem dX11_merge_55 : decode cX11_merge 55 = .ok (.ifCond .ne 13, 3) := by decide +kernel
theorem dX11_merge_58 : decode cX11_merge 58 = .ok (.aload_n 0, 1) := by decide +kernel
theorem dX11_merge_59 : decode cX11_merge 59 = .ok (.aload 4, 2) := by decide +kernel
theorem dX11_merge_61 : decode cX11_merge 61 = .ok (.iload_n 3, 1) := by decide +kernel
theorem dX11_merge_62 : decode cX11_merge 62 = .ok (.invokevirtual 118, 3) := by decide +kernel
theorem dX11_merge_65 : decode cX11_merge 65 = .ok (.ifCond .eq 5, 3) := by decide +kernel
theorem dX11_merge_68 : decode cX11_merge 68 = .ok (.iconst 0, 1) := by decide +kernel
theorem dX11_merge_69 : decode cX11_merge 69 = .ok (.ireturn, 1) := by decide +kernel
theorem dX11_merge_70 : decode cX11_merge 70 = .ok (.aload 4, 2) := by decide +kernel
theorem dX11_merge_72 : decode cX11_merge 72 = .ok (.aload 5, 2) := by decide +kernel
theorem dX11_merge_74 : decode cX11_merge 74 = .ok (.putfield 111, 3) := by decide +kernel
theorem dX11_merge_77 : decode cX11_merge 77 = .ok (.aload 4, 2) := by decide +kernel
theorem dX11_merge_79 : decode cX11_merge 79 = .ok (.iload_n 3, 1) := by decide +kernel
theorem dX11_merge_80 : decode cX11_merge 80 = .ok (.putfield 122, 3) := by decide +kernel
theorem dX11_merge_83 : decode cX11_merge 83 = .ok (.iconst 1, 1) := by decide +kernel
theorem dX11_merge_84 : decode cX11_merge 84 = .ok (.ireturn, 1) := by decide +kernel
theorem dX11_firmOn_0 : decode cX11_firmOn 0 = .ok (.aload_n 0, 1) := by decide +kernel
theorem dX11_firmOn_1 : decode cX11_firmOn 1 = .ok (.iload_n 1, 1) := by decide +kernel
theorem dX11_firmOn_2 : decode cX11_firmOn 2 = .ok (.invokevirtual 103, 3) := by decide +kernel
theorem dX11_firmOn_5 : decode cX11_firmOn 5 = .ok (.astore_n 3, 1) := by decide +kernel
theorem dX11_firmOn_6 : decode cX11_firmOn 6 = .ok (.aload_n 3, 1) := by decide +kernel
theorem dX11_firmOn_7 : decode cX11_firmOn 7 = .ok (.ifnull 14, 3) := by decide +kernel
theorem dX11_firmOn_10 : decode cX11_firmOn 10 = .ok (.iload_n 2, 1) := by decide +kernel
theorem dX11_firmOn_11 : decode cX11_firmOn 11 = .ok (.ifCond .lt 10, 3) := by decide +kernel
theorem dX11_firmOn_14 : decode cX11_firmOn 14 = .ok (.iload_n 2, 1) := by decide +kernel
theorem dX11_firmOn_15 : decode cX11_firmOn 15 = .ok (.sipush 19999, 3) := by decide +kernel
theorem dX11_firmOn_18 : decode cX11_firmOn 18 = .ok (.if_icmp .le 5, 3) := by decide +kernel
theorem dX11_firmOn_21 : decode cX11_firmOn 21 = .ok (.iconst (-1), 1) := by decide +kernel
theorem dX11_firmOn_22 : decode cX11_firmOn 22 = .ok (.ireturn, 1) := by decide +kernel
theorem dX11_firmOn_23 : decode cX11_firmOn 23 = .ok (.aload_n 3, 1) := by decide +kernel
theorem dX11_firmOn_24 : decode cX11_firmOn 24 = .ok (.iload_n 2, 1) := by decide +kernel
theorem dX11_firmOn_25 : decode cX11_firmOn 25 = .ok (.invokestatic 125, 3) := by decide +kernel
theorem dX11_firmOn_28 : decode cX11_firmOn 28 = .ok (.getfield 100, 3) := by decide +kernel
theorem dX11_firmOn_31 : decode cX11_firmOn 31 = .ok (.ireturn, 1) := by decide +kernel
theorem dX11_firmAt_0 : decode cX11_firmAt 0 = .ok (.iload_n 1, 1) := by decide +kernel
theorem dX11_firmAt_1 : decode cX11_firmAt 1 = .ok (.ifCond .lt 14, 3) := by decide +kernel
theorem dX11_firmAt_4 : decode cX11_firmAt 4 = .ok (.iload_n 1, 1) := by decide +kernel
theorem dX11_firmAt_5 : decode cX11_firmAt 5 = .ok (.aload_n 0, 1) := by decide +kernel
theorem dX11_firmAt_6 : decode cX11_firmAt 6 = .ok (.getfield 16, 3) := by decide +kernel
theorem dX11_firmAt_9 : decode cX11_firmAt 9 = .ok (.invokevirtual 87, 3) := by decide +kernel
theorem dX11_firmAt_12 : decode cX11_firmAt 12 = .ok (.if_icmp .lt 7, 3) := by decide +kernel
theorem dX11_firmAt_15 : decode cX11_firmAt 15 = .ok (.aconst_null, 1) := by decide +kernel
theorem dX11_firmAt_16 : decode cX11_firmAt 16 = .ok (.goto 14, 3) := by decide +kernel
theorem dX11_firmAt_19 : decode cX11_firmAt 19 = .ok (.aload_n 0, 1) := by decide +kernel
theorem dX11_firmAt_20 : decode cX11_firmAt 20 = .ok (.getfield 16, 3) := by decide +kernel
theorem dX11_firmAt_23 : decode cX11_firmAt 23 = .ok (.iload_n 1, 1) := by decide +kernel
theorem dX11_firmAt_24 : decode cX11_firmAt 24 = .ok (.invokevirtual 129, 3) := by decide +kernel
theorem dX11_firmAt_27 : decode cX11_firmAt 27 = .ok (.checkcast 91, 3) := by decide +kernel
theorem dX11_firmAt_30 : decode cX11_firmAt 30 = .ok (.areturn, 1) := by decide +kernel
theorem dX11_tookOneSince_0 : decode cX11_tookOneSince 0 = .ok (.iconst 0, 1) := by decide +kernel
theorem dX11_tookOneSince_1 : decode cX11_tookOneSince 1 = .ok (.istore_n 3, 1) := by decide +kernel
theorem dX11_tookOneSince_2 : decode cX11_tookOneSince 2 = .ok (.iload_n 3, 1) := by decide +kernel
theorem dX11_tookOneSince_3 : decode cX11_tookOneSince 3 = .ok (.aload_n 0, 1) := by decide +kernel
theorem dX11_tookOneSince_4 : decode cX11_tookOneSince 4 = .ok (.getfield 16, 3) := by decide +kernel
theorem dX11_tookOneSince_7 : decode cX11_tookOneSince 7 = .ok (.invokevirtual 87, 3) := by decide +kernel
theorem dX11_tookOneSince_10 : decode cX11_tookOneSince 10 = .ok (.if_icmp .ge 42, 3) := by decide +kernel
theorem dX11_tookOneSince_13 : decode cX11_tookOneSince 13 = .ok (.aload_n 0, 1) := by decide +kernel
theorem dX11_tookOneSince_14 : decode cX11_tookOneSince 14 = .ok (.getfield 16, 3) := by decide +kernel
theorem dX11_tookOneSince_17 : decode cX11_tookOneSince 17 = .ok (.iload_n 3, 1) := by decide +kernel
theorem dX11_tookOneSince_18 : decode cX11_tookOneSince 18 = .ok (.invokevirtual 129, 3) := by decide +kernel
theorem dX11_tookOneSince_21 : decode cX11_tookOneSince 21 = .ok (.checkcast 91, 3) := by decide +kernel
theorem dX11_tookOneSince_24 : decode cX11_tookOneSince 24 = .ok (.astore 4, 2) := by decide +kernel
theorem dX11_tookOneSince_26 : decode cX11_tookOneSince 26 = .ok (.aload 4, 2) := by decide +kernel
theorem dX11_tookOneSince_28 : decode cX11_tookOneSince 28 = .ok (.getfield 111, 3) := by decide +kernel
theorem dX11_tookOneSince_31 : decode cX11_tookOneSince 31 = .ok (.aload_n 1, 1) := by decide +kernel
theorem dX11_tookOneSince_32 : decode cX11_tookOneSince 32 = .ok (.if_acmp .ne 14, 3) := by decide +kernel
theorem dX11_tookOneSince_35 : decode cX11_tookOneSince 35 = .ok (.aload 4, 2) := by decide +kernel
theorem dX11_tookOneSince_37 : decode cX11_tookOneSince 37 = .ok (.getfield 122, 3) := by decide +kernel
theorem dX11_tookOneSince_40 : decode cX11_tookOneSince 40 = .ok (.iload_n 2, 1) := by decide +kernel
theorem dX11_tookOneSince_41 : decode cX11_tookOneSince 41 = .ok (.if_icmp .lt 5, 3) := by decide +kernel
theorem dX11_tookOneSince_44 : decode cX11_tookOneSince 44 = .ok (.iconst 1, 1) := by decide +kernel
theorem dX11_tookOneSince_45 : decode cX11_tookOneSince 45 = .ok (.ireturn, 1) := by decide +kernel
theorem dX11_tookOneSince_46 : decode cX11_tookOneSince 46 = .ok (.iinc 3 1, 3) := by decide +kernel
theorem dX11_tookOneSince_49 : decode cX11_tookOneSince 49 = .ok (.goto (-47), 3) := by decide +kernel
theorem dX11_tookOneSince_52 : decode cX11_tookOneSince 52 = .ok (.iconst 0, 1) := by decide +kernel
theorem dX11_tookOneSince_53 : decode cX11_tookOneSince 53 = .ok (.ireturn, 1) := by decide +kernel
theorem dX11_holderOn_0 : decode cX11_holderOn 0 = .ok (.aload_n 0, 1) := by decide +kernel
theorem dX11_holderOn_1 : decode cX11_holderOn 1 = .ok (.astore_n 2, 1) := by decide +kernel
theorem dX11_holderOn_2 : decode cX11_holderOn 2 = .ok (.iconst 0, 1) := by decide +kernel
theorem dX11_holderOn_3 : decode cX11_holderOn 3 = .ok (.istore_n 3, 1) := by decide +kernel
theorem dX11_holderOn_4 : decode cX11_holderOn 4 = .ok (.iload_n 3, 1) := by decide +kernel
theorem dX11_holderOn_5 : decode cX11_holderOn 5 = .ok (.bipush 8, 2) := by decide +kernel
theorem dX11_holderOn_7 : decode cX11_holderOn 7 = .ok (.if_icmp .ge 29, 3) := by decide +kernel
theorem dX11_holderOn_10 : decode cX11_holderOn 10 = .ok (.aload_n 2, 1) := by decide +kernel
theorem dX11_holderOn_11 : decode cX11_holderOn 11 = .ok (.getfield 111, 3) := by decide +kernel
theorem dX11_holderOn_14 : decode cX11_holderOn 14 = .ok (.ifnull 22, 3) := by decide +kernel
theorem dX11_holderOn_17 : decode cX11_holderOn 17 = .ok (.aload_n 2, 1) := by decide +kernel
theorem dX11_holderOn_18 : decode cX11_holderOn 18 = .ok (.getfield 122, 3) := by decide +kernel
theorem dX11_holderOn_21 : decode cX11_holderOn 21 = .ok (.iload_n 1, 1) := by decide +kernel
theorem dX11_holderOn_22 : decode cX11_holderOn 22 = .ok (.if_icmp .gt 14, 3) := by decide +kernel
theorem dX11_holderOn_25 : decode cX11_holderOn 25 = .ok (.aload_n 2, 1) := by decide +kernel
theorem dX11_holderOn_26 : decode cX11_holderOn 26 = .ok (.getfield 111, 3) := by decide +kernel
theorem dX11_holderOn_29 : decode cX11_holderOn 29 = .ok (.astore_n 2, 1) := by decide +kernel
theorem dX11_holderOn_30 : decode cX11_holderOn 30 = .ok (.iinc 3 1, 3) := by decide +kernel
theorem dX11_holderOn_33 : decode cX11_holderOn 33 = .ok (.goto (-29), 3) := by decide +kernel
theorem dX11_holderOn_36 : decode cX11_holderOn 36 = .ok (.aload_n 2, 1) := by decide +kernel
theorem dX11_holderOn_37 : decode cX11_holderOn 37 = .ok (.areturn, 1) := by decide +kernel
theorem dX11_person_0 : decode cX11_person 0 = .ok (.aload_n 0, 1) := by decide +kernel
theorem dX11_person_1 : decode cX11_person 1 = .ok (.getfield 20, 3) := by decide +kernel
theorem dX11_person_4 : decode cX11_person 4 = .ok (.invokevirtual 87, 3) := by decide +kernel
theorem dX11_person_7 : decode cX11_person 7 = .ok (.bipush 24, 2) := by decide +kernel
theorem dX11_person_9 : decode cX11_person 9 = .ok (.if_icmp .ge 12, 3) := by decide +kernel
theorem dX11_person_12 : decode cX11_person 12 = .ok (.iload_n 1, 1) := by decide +kernel
theorem dX11_person_13 : decode cX11_person 13 = .ok (.bipush 100, 2) := by decide +kernel
theorem dX11_person_15 : decode cX11_person 15 = .ok (.invokestatic 83, 3) := by decide +kernel
theorem dX11_person_18 : decode cX11_person 18 = .ok (.ifCond .ne 5, 3) := by decide +kernel
theorem dX11_person_21 : decode cX11_person 21 = .ok (.iconst (-1), 1) := by decide +kernel
theorem dX11_person_22 : decode cX11_person 22 = .ok (.ireturn, 1) := by decide +kernel
theorem dX11_person_23 : decode cX11_person 23 = .ok (.iload_n 2, 1) := by decide +kernel
theorem dX11_person_24 : decode cX11_person 24 = .ok (.iconst (-1), 1) := by decide +kernel
theorem dX11_person_25 : decode cX11_person 25 = .ok (.if_icmp .eq 11, 3) := by decide +kernel
theorem dX11_person_28 : decode cX11_person 28 = .ok (.aload_n 0, 1) := by decide +kernel
theorem dX11_person_29 : decode cX11_person 29 = .ok (.iload_n 2, 1) := by decide +kernel
theorem dX11_person_30 : decode cX11_person 30 = .ok (.invokevirtual 107, 3) := by decide +kernel
theorem dX11_person_33 : decode cX11_person 33 = .ok (.ifCond .eq 7, 3) := by decide +kernel
theorem dX11_person_36 : decode cX11_person 36 = .ok (.iconst 1, 1) := by decide +kernel
theorem dX11_person_37 : decode cX11_person 37 = .ok (.goto 4, 3) := by decide +kernel
theorem dX11_person_40 : decode cX11_person 40 = .ok (.iconst 0, 1) := by decide +kernel
theorem dX11_person_41 : decode cX11_person 41 = .ok (.istore 6, 2) := by decide +kernel
theorem dX11_person_43 : decode cX11_person 43 = .ok (.iload 4, 2) := by decide +kernel
theorem dX11_person_45 : decode cX11_person 45 = .ok (.iconst (-1), 1) := by decide +kernel
theorem dX11_person_46 : decode cX11_person 46 = .ok (.if_icmp .eq 14, 3) := by decide +kernel
theorem dX11_person_49 : decode cX11_person 49 = .ok (.iload 4, 2) := by decide +kernel
theorem dX11_person_51 : decode cX11_person 51 = .ok (.sipush 10000, 3) := by decide +kernel
theorem dX11_person_54 : decode cX11_person 54 = .ok (.invokestatic 83, 3) := by decide +kernel
theorem dX11_person_57 : decode cX11_person 57 = .ok (.ifCond .eq 7, 3) := by decide +kernel
theorem dX11_person_60 : decode cX11_person 60 = .ok (.iconst 1, 1) := by decide +kernel
theorem dX11_person_61 : decode cX11_person 61 = .ok (.goto 4, 3) := by decide +kernel
theorem dX11_person_64 : decode cX11_person 64 = .ok (.iconst 0, 1) := by decide +kernel
theorem dX11_person_65 : decode cX11_person 65 = .ok (.istore 7, 2) := by decide +kernel
theorem dX11_person_67 : decode cX11_person 67 = .ok (.aload_n 0, 1) := by decide +kernel
theorem dX11_person_68 : decode cX11_person 68 = .ok (.iload 5, 2) := by decide +kernel
theorem dX11_person_70 : decode cX11_person 70 = .ok (.invokevirtual 133, 3) := by decide +kernel
theorem dX11_person_73 : decode cX11_person 73 = .ok (.astore 8, 2) := by decide +kernel
theorem dX11_person_75 : decode cX11_person 75 = .ok (.iload 5, 2) := by decide +kernel
theorem dX11_person_77 : decode cX11_person 77 = .ok (.iconst (-1), 1) := by decide +kernel
theorem dX11_person_78 : decode cX11_person 78 = .ok (.if_icmp .eq 8, 3) := by decide +kernel
theorem dX11_person_81 : decode cX11_person 81 = .ok (.aload 8, 2) := by decide +kernel
theorem dX11_person_83 : decode cX11_person 83 = .ok (.ifnull 7, 3) := by decide +kernel
theorem dX11_person_86 : decode cX11_person 86 = .ok (.iconst 1, 1) := by decide +kernel
theorem dX11_person_87 : decode cX11_person 87 = .ok (.goto 4, 3) := by decide +kernel
theorem dX11_person_90 : decode cX11_person 90 = .ok (.iconst 0, 1) := by decide +kernel
theorem dX11_person_91 : decode cX11_person 91 = .ok (.istore 9, 2) := by decide +kernel
theorem dX11_person_93 : decode cX11_person 93 = .ok (.iload 6, 2) := by decide +kernel
theorem dX11_person_95 : decode cX11_person 95 = .ok (.ifCond .eq 20, 3) := by decide +kernel
theorem dX11_person_98 : decode cX11_person 98 = .ok (.iload_n 3, 1) := by decide +kernel
theorem dX11_person_99 : decode cX11_person 99 = .ok (.invokestatic 137, 3) := by decide +kernel
theorem dX11_person_102 : decode cX11_person 102 = .ok (.ifCond .eq 13, 3) := by decide +kernel
theorem dX11_person_105 : decode cX11_person 105 = .ok (.iload 7, 2) := by decide +kernel
theorem dX11_person_107 : decode cX11_person 107 = .ok (.ifCond .eq 8, 3) := by decide +kernel
theorem dX11_person_110 : decode cX11_person 110 = .ok (.iload 9, 2) := by decide +kernel
theorem dX11_person_112 : decode cX11_person 112 = .ok (.ifCond .ne 5, 3) := by decide +kernel
theorem dX11_person_115 : decode cX11_person 115 = .ok (.iconst (-1), 1) := by decide +kernel
theorem dX11_person_116 : decode cX11_person 116 = .ok (.ireturn, 1) := by decide +kernel
theorem dX11_person_117 : decode cX11_person 117 = .ok (.new 140, 3) := by decide +kernel
theorem dX11_person_120 : decode cX11_person 120 = .ok (.dup, 1) := by decide +kernel
theorem dX11_person_121 : decode cX11_person 121 = .ok (.aload_n 0, 1) := by decide +kernel
theorem dX11_person_122 : decode cX11_person 122 = .ok (.getfield 20, 3) := by decide +kernel
theorem dX11_person_125 : decode cX11_person 125 = .ok (.invokevirtual 87, 3) := by decide +kernel
theorem dX11_person_128 : decode cX11_person 128 = .ok (.iload_n 1, 1) := by decide +kernel
theorem dX11_person_129 : decode cX11_person 129 = .ok (.iload_n 2, 1) := by decide +kernel
theorem dX11_person_130 : decode cX11_person 130 = .ok (.iload 4, 2) := by decide +kernel
theorem dX11_person_132 : decode cX11_person 132 = .ok (.aload 8, 2) := by decide +kernel
theorem dX11_person_134 : decode cX11_person 134 = .ok (.invokespecial 142, 3) := by decide +kernel
theorem dX11_person_137 : decode cX11_person 137 = .ok (.astore 10, 2) := by decide +kernel
theorem dX11_person_139 : decode cX11_person 139 = .ok (.aload 10, 2) := by decide +kernel
theorem dX11_person_141 : decode cX11_person 141 = .ok (.iload_n 3, 1) := by decide +kernel
theorem dX11_person_142 : decode cX11_person 142 = .ok (.putfield 145, 3) := by decide +kernel
theorem dX11_person_145 : decode cX11_person 145 = .ok (.aload_n 0, 1) := by decide +kernel
theorem dX11_person_146 : decode cX11_person 146 = .ok (.getfield 20, 3) := by decide +kernel
theorem dX11_person_149 : decode cX11_person 149 = .ok (.aload 10, 2) := by decide +kernel
theorem dX11_person_151 : decode cX11_person 151 = .ok (.invokevirtual 96, 3) := by decide +kernel
theorem dX11_person_154 : decode cX11_person 154 = .ok (.pop, 1) := by decide +kernel
theorem dX11_person_155 : decode cX11_person 155 = .ok (.aload_n 0, 1) := by decide +kernel
theorem dX11_person_156 : decode cX11_person 156 = .ok (.invokevirtual 148, 3) := by decide +kernel
theorem dX11_person_159 : decode cX11_person 159 = .ok (.aload 10, 2) := by decide +kernel
theorem dX11_person_161 : decode cX11_person 161 = .ok (.getfield 151, 3) := by decide +kernel
theorem dX11_person_164 : decode cX11_person 164 = .ok (.ireturn, 1) := by decide +kernel
theorem dX11_dies_0 : decode cX11_dies 0 = .ok (.aload_n 0, 1) := by decide +kernel
theorem dX11_dies_1 : decode cX11_dies 1 = .ok (.iload_n 1, 1) := by decide +kernel
theorem dX11_dies_2 : decode cX11_dies 2 = .ok (.invokevirtual 133, 3) := by decide +kernel
theorem dX11_dies_5 : decode cX11_dies 5 = .ok (.astore_n 3, 1) := by decide +kernel
theorem dX11_dies_6 : decode cX11_dies 6 = .ok (.aload_n 3, 1) := by decide +kernel
theorem dX11_dies_7 : decode cX11_dies 7 = .ok (.ifnull 26, 3) := by decide +kernel
theorem dX11_dies_10 : decode cX11_dies 10 = .ok (.aload_n 3, 1) := by decide +kernel
theorem dX11_dies_11 : decode cX11_dies 11 = .ok (.invokevirtual 152, 3) := by decide +kernel
theorem dX11_dies_14 : decode cX11_dies 14 = .ok (.ifCond .eq 19, 3) := by decide +kernel
theorem dX11_dies_17 : decode cX11_dies 17 = .ok (.aload_n 0, 1) := by decide +kernel
theorem dX11_dies_18 : decode cX11_dies 18 = .ok (.iload_n 2, 1) := by decide +kernel
theorem dX11_dies_19 : decode cX11_dies 19 = .ok (.invokevirtual 107, 3) := by decide +kernel
theorem dX11_dies_22 : decode cX11_dies 22 = .ok (.ifCond .eq 11, 3) := by decide +kernel
theorem dX11_dies_25 : decode cX11_dies 25 = .ok (.iload_n 2, 1) := by decide +kernel
theorem dX11_dies_26 : decode cX11_dies 26 = .ok (.aload_n 3, 1) := by decide +kernel
theorem dX11_dies_27 : decode cX11_dies 27 = .ok (.getfield 156, 3) := by decide +kernel
theorem dX11_dies_30 : decode cX11_dies 30 = .ok (.if_icmp .ge 5, 3) := by decide +kernel
theorem dX11_dies_33 : decode cX11_dies 33 = .ok (.iconst 0, 1) := by decide +kernel
theorem dX11_dies_34 : decode cX11_dies 34 = .ok (.ireturn, 1) := by decide +kernel
theorem dX11_dies_35 : decode cX11_dies 35 = .ok (.aload_n 3, 1) := by decide +kernel
theorem dX11_dies_36 : decode cX11_dies 36 = .ok (.iload_n 2, 1) := by decide +kernel
theorem dX11_dies_37 : decode cX11_dies 37 = .ok (.putfield 159, 3) := by decide +kernel
theorem dX11_dies_40 : decode cX11_dies 40 = .ok (.aload_n 0, 1) := by decide +kernel
theorem dX11_dies_41 : decode cX11_dies 41 = .ok (.invokevirtual 148, 3) := by decide +kernel
theorem dX11_dies_44 : decode cX11_dies 44 = .ok (.iconst 1, 1) := by decide +kernel
theorem dX11_dies_45 : decode cX11_dies 45 = .ok (.ireturn, 1) := by decide +kernel
theorem dX11_moves_0 : decode cX11_moves 0 = .ok (.aload_n 0, 1) := by decide +kernel
theorem dX11_moves_1 : decode cX11_moves 1 = .ok (.iload_n 1, 1) := by decide +kernel
theorem dX11_moves_2 : decode cX11_moves 2 = .ok (.invokevirtual 133, 3) := by decide +kernel
theorem dX11_moves_5 : decode cX11_moves 5 = .ok (.astore_n 3, 1) := by decide +kernel
theorem dX11_moves_6 : decode cX11_moves 6 = .ok (.aload_n 3, 1) := by decide +kernel
theorem dX11_moves_7 : decode cX11_moves 7 = .ok (.ifnull 10, 3) := by decide +kernel
theorem dX11_moves_10 : decode cX11_moves 10 = .ok (.iload_n 2, 1) := by decide +kernel
theorem dX11_moves_11 : decode cX11_moves 11 = .ok (.invokestatic 137, 3) := by decide +kernel
theorem dX11_moves_14 : decode cX11_moves 14 = .ok (.ifCond .ne 5, 3) := by decide +kernel
theorem dX11_moves_17 : decode cX11_moves 17 = .ok (.iconst 0, 1) := by decide +kernel
theorem dX11_moves_18 : decode cX11_moves 18 = .ok (.ireturn, 1) := by decide +kernel
theorem dX11_moves_19 : decode cX11_moves 19 = .ok (.aload_n 3, 1) := by decide +kernel
theorem dX11_moves_20 : decode cX11_moves 20 = .ok (.iload_n 2, 1) := by decide +kernel
theorem dX11_moves_21 : decode cX11_moves 21 = .ok (.putfield 145, 3) := by decide +kernel
theorem dX11_moves_24 : decode cX11_moves 24 = .ok (.iconst 1, 1) := by decide +kernel
theorem dX11_moves_25 : decode cX11_moves 25 = .ok (.ireturn, 1) := by decide +kernel
theorem dX11_personAt_0 : decode cX11_personAt 0 = .ok (.iload_n 1, 1) := by decide +kernel
theorem dX11_personAt_1 : decode cX11_personAt 1 = .ok (.ifCond .lt 14, 3) := by decide +kernel
theorem dX11_personAt_4 : decode cX11_personAt 4 = .ok (.iload_n 1, 1) := by decide +kernel
theorem dX11_personAt_5 : decode cX11_personAt 5 = .ok (.aload_n 0, 1) := by decide +kernel
theorem dX11_personAt_6 : decode cX11_personAt 6 = .ok (.getfield 20, 3) := by decide +kernel
theorem dX11_personAt_9 : decode cX11_personAt 9 = .ok (.invokevirtual 87, 3) := by decide +kernel
theorem dX11_personAt_12 : decode cX11_personAt 12 = .ok (.if_icmp .lt 7, 3) := by decide +kernel
theorem dX11_personAt_15 : decode cX11_personAt 15 = .ok (.aconst_null, 1) := by decide +kernel
theorem dX11_personAt_16 : decode cX11_personAt 16 = .ok (.goto 14, 3) := by decide +kernel
theorem dX11_personAt_19 : decode cX11_personAt 19 = .ok (.aload_n 0, 1) := by decide +kernel
theorem dX11_personAt_20 : decode cX11_personAt 20 = .ok (.getfield 20, 3) := by decide +kernel
theorem dX11_personAt_23 : decode cX11_personAt 23 = .ok (.iload_n 1, 1) := by decide +kernel
theorem dX11_personAt_24 : decode cX11_personAt 24 = .ok (.invokevirtual 129, 3) := by decide +kernel
theorem dX11_personAt_27 : decode cX11_personAt 27 = .ok (.checkcast 140, 3) := by decide +kernel
theorem dX11_personAt_30 : decode cX11_personAt 30 = .ok (.areturn, 1) := by decide +kernel
theorem dX11_account_0 : decode cX11_account 0 = .ok (.aload_n 0, 1) := by decide +kernel
theorem dX11_account_1 : decode cX11_account 1 = .ok (.iload_n 1, 1) := by decide +kernel
theorem dX11_account_2 : decode cX11_account 2 = .ok (.invokevirtual 103, 3) := by decide +kernel
theorem dX11_account_5 : decode cX11_account 5 = .ok (.astore 5, 2) := by decide +kernel
theorem dX11_account_7 : decode cX11_account 7 = .ok (.aload_n 0, 1) := by decide +kernel
theorem dX11_account_8 : decode cX11_account 8 = .ok (.iload_n 3, 1) := by decide +kernel
theorem dX11_account_9 : decode cX11_account 9 = .ok (.invokevirtual 133, 3) := by decide +kernel
theorem dX11_account_12 : decode cX11_account 12 = .ok (.astore 6, 2) := by decide +kernel
theorem dX11_account_14 : decode cX11_account 14 = .ok (.aload 5, 2) := by decide +kernel
theorem dX11_account_16 : decode cX11_account 16 = .ok (.ifnull 25, 3) := by decide +kernel
theorem dX11_account_19 : decode cX11_account 19 = .ok (.aload 6, 2) := by decide +kernel
theorem dX11_account_21 : decode cX11_account 21 = .ok (.ifnull 20, 3) := by decide +kernel
theorem dX11_account_24 : decode cX11_account 24 = .ok (.iload_n 2, 1) := by decide +kernel
theorem dX11_account_25 : decode cX11_account 25 = .ok (.iconst 4, 1) := by decide +kernel
theorem dX11_account_26 : decode cX11_account 26 = .ok (.invokestatic 83, 3) := by decide +kernel
theorem dX11_account_29 : decode cX11_account 29 = .ok (.ifCond .eq 12, 3) := by decide +kernel
theorem dX11_account_32 : decode cX11_account 32 = .ok (.aload_n 0, 1) := by decide +kernel
theorem dX11_account_33 : decode cX11_account 33 = .ok (.iload 4, 2) := by decide +kernel
theorem dX11_account_35 : decode cX11_account 35 = .ok (.invokevirtual 107, 3) := by decide +kernel
theorem dX11_account_38 : decode cX11_account 38 = .ok (.ifCond .ne 5, 3) := by decide +kernel
theorem dX11_account_41 : decode cX11_account 41 = .ok (.iconst (-1), 1) := by decide +kernel
theorem dX11_account_42 : decode cX11_account 42 = .ok (.ireturn, 1) := by decide +kernel
theorem dX11_account_43 : decode cX11_account 43 = .ok (.aload 5, 2) := by decide +kernel
theorem dX11_account_45 : decode cX11_account 45 = .ok (.iload 4, 2) := by decide +kernel
theorem dX11_account_47 : decode cX11_account 47 = .ok (.invokevirtual 115, 3) := by decide +kernel
theorem dX11_account_50 : decode cX11_account 50 = .ok (.ifCond .ne 15, 3) := by decide +kernel
theorem dX11_account_53 : decode cX11_account 53 = .ok (.aload_n 0, 1) := by decide +kernel
theorem dX11_account_54 : decode cX11_account 54 = .ok (.getfield 23, 3) := by decide +kernel
theorem dX11_account_57 : decode cX11_account 57 = .ok (.invokevirtual 87, 3) := by decide +kernel
theorem dX11_account_60 : decode cX11_account 60 = .ok (.bipush 40, 2) := by decide +kernel
theorem dX11_account_62 : decode cX11_account 62 = .ok (.if_icmp .lt 5, 3) := by decide +kernel
theorem dX11_account_65 : decode cX11_account 65 = .ok (.iconst (-1), 1) := by decide +kernel
theorem dX11_account_66 : decode cX11_account 66 = .ok (.ireturn, 1) := by decide +kernel
theorem dX11_account_67 : decode cX11_account 67 = .ok (.new 162, 3) := by decide +kernel
theorem dX11_account_70 : decode cX11_account 70 = .ok (.dup, 1) := by decide +kernel
theorem dX11_account_71 : decode cX11_account 71 = .ok (.aload_n 0, 1) := by decide +kernel
theorem dX11_account_72 : decode cX11_account 72 = .ok (.getfield 23, 3) := by decide +kernel
theorem dX11_account_75 : decode cX11_account 75 = .ok (.invokevirtual 87, 3) := by decide +kernel
theorem dX11_account_78 : decode cX11_account 78 = .ok (.aload 5, 2) := by decide +kernel
theorem dX11_account_80 : decode cX11_account 80 = .ok (.iload_n 2, 1) := by decide +kernel
theorem dX11_account_81 : decode cX11_account 81 = .ok (.aload 6, 2) := by decide +kernel
theorem dX11_account_83 : decode cX11_account 83 = .ok (.iload 4, 2) := by decide +kernel
theorem dX11_account_85 : decode cX11_account 85 = .ok (.invokespecial 164, 3) := by decide +kernel
theorem dX11_account_88 : decode cX11_account 88 = .ok (.astore 7, 2) := by decide +kernel
theorem dX11_account_90 : decode cX11_account 90 = .ok (.aload_n 0, 1) := by decide +kernel
theorem dX11_account_91 : decode cX11_account 91 = .ok (.getfield 23, 3) := by decide +kernel
theorem dX11_account_94 : decode cX11_account 94 = .ok (.aload 7, 2) := by decide +kernel
theorem dX11_account_96 : decode cX11_account 96 = .ok (.invokevirtual 96, 3) := by decide +kernel
theorem dX11_account_99 : decode cX11_account 99 = .ok (.pop, 1) := by decide +kernel
theorem dX11_account_100 : decode cX11_account 100 = .ok (.aload 7, 2) := by decide +kernel
theorem dX11_account_102 : decode cX11_account 102 = .ok (.getfield 167, 3) := by decide +kernel
theorem dX11_account_105 : decode cX11_account 105 = .ok (.ireturn, 1) := by decide +kernel
theorem dX11_act_0 : decode cX11_act 0 = .ok (.aload_n 0, 1) := by decide +kernel
theorem dX11_act_1 : decode cX11_act 1 = .ok (.iload_n 1, 1) := by decide +kernel
theorem dX11_act_2 : decode cX11_act 2 = .ok (.invokevirtual 168, 3) := by decide +kernel
theorem dX11_act_5 : decode cX11_act 5 = .ok (.astore 5, 2) := by decide +kernel
theorem dX11_act_7 : decode cX11_act 7 = .ok (.aload 5, 2) := by decide +kernel
theorem dX11_act_9 : decode cX11_act 9 = .ok (.ifnull 22, 3) := by decide +kernel
theorem dX11_act_12 : decode cX11_act 12 = .ok (.aload_n 0, 1) := by decide +kernel
theorem dX11_act_13 : decode cX11_act 13 = .ok (.aload 5, 2) := by decide +kernel
theorem dX11_act_15 : decode cX11_act 15 = .ok (.iload_n 3, 1) := by decide +kernel
theorem dX11_act_16 : decode cX11_act 16 = .ok (.invokevirtual 172, 3) := by decide +kernel
theorem dX11_act_19 : decode cX11_act 19 = .ok (.ifCond .eq 12, 3) := by decide +kernel
theorem dX11_act_22 : decode cX11_act 22 = .ok (.iload_n 2, 1) := by decide +kernel
theorem dX11_act_23 : decode cX11_act 23 = .ok (.bipush 6, 2) := by decide +kernel
theorem dX11_act_25 : decode cX11_act 25 = .ok (.invokestatic 83, 3) := by decide +kernel
theorem dX11_act_28 : decode cX11_act 28 = .ok (.ifCond .ne 5, 3) := by decide +kernel
theorem dX11_act_31 : decode cX11_act 31 = .ok (.iconst 0, 1) := by decide +kernel
theorem dX11_act_32 : decode cX11_act 32 = .ok (.ireturn, 1) := by decide +kernel
theorem dX11_act_33 : decode cX11_act 33 = .ok (.iload 4, 2) := by decide +kernel
theorem dX11_act_35 : decode cX11_act 35 = .ok (.ldc 176, 2) := by decide +kernel
theorem dX11_act_37 : decode cX11_act 37 = .ok (.if_icmp .lt 10, 3) := by decide +kernel
theorem dX11_act_40 : decode cX11_act 40 = .ok (.iload 4, 2) := by decide +kernel
theorem dX11_act_42 : decode cX11_act 42 = .ok (.ldc 177, 2) := by decide +kernel
theorem dX11_act_44 : decode cX11_act 44 = .ok (.if_icmp .le 5, 3) := by decide +kernel
theorem dX11_act_47 : decode cX11_act 47 = .ok (.iconst 0, 1) := by decide +kernel
theorem dX11_act_48 : decode cX11_act 48 = .ok (.ireturn, 1) := by decide +kernel
theorem dX11_act_49 : decode cX11_act 49 = .ok (.aload 5, 2) := by decide +kernel
theorem dX11_act_51 : decode cX11_act 51 = .ok (.new 178, 3) := by decide +kernel
theorem dX11_act_54 : decode cX11_act 54 = .ok (.dup, 1) := by decide +kernel
theorem dX11_act_55 : decode cX11_act 55 = .ok (.iload_n 2, 1) := by decide +kernel
theorem dX11_act_56 : decode cX11_act 56 = .ok (.iload_n 3, 1) := by decide +kernel
theorem dX11_act_57 : decode cX11_act 57 = .ok (.aload_n 0, 1) := by decide +kernel
theorem dX11_act_58 : decode cX11_act 58 = .ok (.getfield 7, 3) := by decide +kernel
theorem dX11_act_61 : decode cX11_act 61 = .ok (.iconst 1, 1) := by decide +kernel
theorem dX11_act_62 : decode cX11_act 62 = .ok (.iconst 1, 1) := by decide +kernel
theorem dX11_act_63 : decode cX11_act 63 = .ok (.iload 4, 2) := by decide +kernel
theorem dX11_act_65 : decode cX11_act 65 = .ok (.invokespecial 180, 3) := by decide +kernel
theorem dX11_act_68 : decode cX11_act 68 = .ok (.invokevirtual 183, 3) := by decide +kernel
theorem dX11_act_71 : decode cX11_act 71 = .ok (.aload_n 0, 1) := by decide +kernel
theorem dX11_act_72 : decode cX11_act 72 = .ok (.dup, 1) := by decide +kernel
theorem dX11_act_73 : decode cX11_act 73 = .ok (.getfield 29, 3) := by decide +kernel
theorem dX11_act_76 : decode cX11_act 76 = .ok (.iconst 1, 1) := by decide +kernel
theorem dX11_act_77 : decode cX11_act 77 = .ok (.iadd, 1) := by decide +kernel
theorem dX11_act_78 : decode cX11_act 78 = .ok (.putfield 29, 3) := by decide +kernel
theorem dX11_act_81 : decode cX11_act 81 = .ok (.iconst 1, 1) := by decide +kernel
theorem dX11_act_82 : decode cX11_act 82 = .ok (.ireturn, 1) := by decide +kernel
theorem dX11_grow_0 : decode cX11_grow 0 = .ok (.aload_n 0, 1) := by decide +kernel
theorem dX11_grow_1 : decode cX11_grow 1 = .ok (.iload_n 1, 1) := by decide +kernel
theorem dX11_grow_2 : decode cX11_grow 2 = .ok (.invokevirtual 168, 3) := by decide +kernel
theorem dX11_grow_5 : decode cX11_grow 5 = .ok (.astore 5, 2) := by decide +kernel
theorem dX11_grow_7 : decode cX11_grow 7 = .ok (.aload 5, 2) := by decide +kernel
theorem dX11_grow_9 : decode cX11_grow 9 = .ok (.ifnull 37, 3) := by decide +kernel
theorem dX11_grow_12 : decode cX11_grow 12 = .ok (.aload_n 0, 1) := by decide +kernel
theorem dX11_grow_13 : decode cX11_grow 13 = .ok (.aload 5, 2) := by decide +kernel
theorem dX11_grow_15 : decode cX11_grow 15 = .ok (.iload_n 2, 1) := by decide +kernel
theorem dX11_grow_16 : decode cX11_grow 16 = .ok (.invokevirtual 172, 3) := by decide +kernel
theorem dX11_grow_19 : decode cX11_grow 19 = .ok (.ifCond .eq 27, 3) := by decide +kernel
theorem dX11_grow_22 : decode cX11_grow 22 = .ok (.iload_n 3, 1) := by decide +kernel
theorem dX11_grow_23 : decode cX11_grow 23 = .ok (.iconst 1, 1) := by decide +kernel
theorem dX11_grow_24 : decode cX11_grow 24 = .ok (.if_icmp .lt 22, 3) := by decide +kernel
theorem dX11_grow_27 : decode cX11_grow 27 = .ok (.iload_n 3, 1) := by decide +kernel
theorem dX11_grow_28 : decode cX11_grow 28 = .ok (.bipush 9, 2) := by decide +kernel
theorem dX11_grow_30 : decode cX11_grow 30 = .ok (.if_icmp .gt 16, 3) := by decide +kernel
theorem dX11_grow_33 : decode cX11_grow 33 = .ok (.iload 4, 2) := by decide +kernel
theorem dX11_grow_35 : decode cX11_grow 35 = .ok (.iconst 1, 1) := by decide +kernel
theorem dX11_grow_36 : decode cX11_grow 36 = .ok (.if_icmp .lt 10, 3) := by decide +kernel
theorem dX11_grow_39 : decode cX11_grow 39 = .ok (.iload 4, 2) := by decide +kernel
theorem dX11_grow_41 : decode cX11_grow 41 = .ok (.bipush 9, 2) := by decide +kernel
theorem dX11_grow_43 : decode cX11_grow 43 = .ok (.if_icmp .le 5, 3) := by decide +kernel
theorem dX11_grow_46 : decode cX11_grow 46 = .ok (.iconst 0, 1) := by decide +kernel
theorem dX11_grow_47 : decode cX11_grow 47 = .ok (.ireturn, 1) := by decide +kernel
theorem dX11_grow_48 : decode cX11_grow 48 = .ok (.aload 5, 2) := by decide +kernel
theorem dX11_grow_50 : decode cX11_grow 50 = .ok (.getfield 187, 3) := by decide +kernel
theorem dX11_grow_53 : decode cX11_grow 53 = .ok (.iconst 4, 1) := by decide +kernel
theorem dX11_grow_54 : decode cX11_grow 54 = .ok (.if_icmp .ge 12, 3) := by decide +kernel
theorem dX11_grow_57 : decode cX11_grow 57 = .ok (.aload 5, 2) := by decide +kernel
theorem dX11_grow_59 : decode cX11_grow 59 = .ok (.iload_n 2, 1) := by decide +kernel
theorem dX11_grow_60 : decode cX11_grow 60 = .ok (.invokevirtual 190, 3) := by decide +kernel
theorem dX11_grow_63 : decode cX11_grow 63 = .ok (.ifCond .eq 5, 3) := by decide +kernel
theorem dX11_grow_66 : decode cX11_grow 66 = .ok (.iconst 0, 1) := by decide +kernel
theorem dX11_grow_67 : decode cX11_grow 67 = .ok (.ireturn, 1) := by decide +kernel
theorem dX11_grow_68 : decode cX11_grow 68 = .ok (.aload 5, 2) := by decide +kernel
theorem dX11_grow_70 : decode cX11_grow 70 = .ok (.new 178, 3) := by decide +kernel
theorem dX11_grow_73 : decode cX11_grow 73 = .ok (.dup, 1) := by decide +kernel
theorem dX11_grow_74 : decode cX11_grow 74 = .ok (.iconst (-1), 1) := by decide +kernel
theorem dX11_grow_75 : decode cX11_grow 75 = .ok (.iload_n 2, 1) := by decide +kernel
theorem dX11_grow_76 : decode cX11_grow 76 = .ok (.aload_n 0, 1) := by decide +kernel
theorem dX11_grow_77 : decode cX11_grow 77 = .ok (.getfield 7, 3) := by decide +kernel
theorem dX11_grow_80 : decode cX11_grow 80 = .ok (.iload_n 3, 1) := by decide +kernel
theorem dX11_grow_81 : decode cX11_grow 81 = .ok (.iload 4, 2) := by decide +kernel
theorem dX11_grow_83 : decode cX11_grow 83 = .ok (.iconst 0, 1) := by decide +kernel
theorem dX11_grow_84 : decode cX11_grow 84 = .ok (.invokespecial 180, 3) := by decide +kernel
theorem dX11_grow_87 : decode cX11_grow 87 = .ok (.invokevirtual 183, 3) := by decide +kernel
theorem dX11_grow_90 : decode cX11_grow 90 = .ok (.aload 5, 2) := by decide +kernel
theorem dX11_grow_92 : decode cX11_grow 92 = .ok (.dup, 1) := by decide +kernel
theorem dX11_grow_93 : decode cX11_grow 93 = .ok (.getfield 187, 3) := by decide +kernel
theorem dX11_grow_96 : decode cX11_grow 96 = .ok (.iconst 1, 1) := by decide +kernel
theorem dX11_grow_97 : decode cX11_grow 97 = .ok (.iadd, 1) := by decide +kernel
theorem dX11_grow_98 : decode cX11_grow 98 = .ok (.putfield 187, 3) := by decide +kernel
theorem dX11_grow_101 : decode cX11_grow 101 = .ok (.aload_n 0, 1) := by decide +kernel
theorem dX11_grow_102 : decode cX11_grow 102 = .ok (.dup, 1) := by decide +kernel
theorem dX11_grow_103 : decode cX11_grow 103 = .ok (.getfield 29, 3) := by decide +kernel
theorem dX11_grow_106 : decode cX11_grow 106 = .ok (.iconst 1, 1) := by decide +kernel
theorem dX11_grow_107 : decode cX11_grow 107 = .ok (.iadd, 1) := by decide +kernel
theorem dX11_grow_108 : decode cX11_grow 108 = .ok (.putfield 29, 3) := by decide +kernel
theorem dX11_grow_111 : decode cX11_grow 111 = .ok (.iconst 1, 1) := by decide +kernel
theorem dX11_grow_112 : decode cX11_grow 112 = .ok (.ireturn, 1) := by decide +kernel
theorem dX11_sum_0 : decode cX11_sum 0 = .ok (.aload_n 0, 1) := by decide +kernel
theorem dX11_sum_1 : decode cX11_sum 1 = .ok (.iload_n 1, 1) := by decide +kernel
theorem dX11_sum_2 : decode cX11_sum 2 = .ok (.invokevirtual 168, 3) := by decide +kernel
theorem dX11_sum_5 : decode cX11_sum 5 = .ok (.astore 4, 2) := by decide +kernel
theorem dX11_sum_7 : decode cX11_sum 7 = .ok (.aload 4, 2) := by decide +kernel
theorem dX11_sum_9 : decode cX11_sum 9 = .ok (.ifnull 19, 3) := by decide +kernel
theorem dX11_sum_12 : decode cX11_sum 12 = .ok (.aload_n 0, 1) := by decide +kernel
theorem dX11_sum_13 : decode cX11_sum 13 = .ok (.iload_n 2, 1) := by decide +kernel
theorem dX11_sum_14 : decode cX11_sum 14 = .ok (.invokevirtual 107, 3) := by decide +kernel
theorem dX11_sum_17 : decode cX11_sum 17 = .ok (.ifCond .eq 11, 3) := by decide +kernel
theorem dX11_sum_20 : decode cX11_sum 20 = .ok (.aload_n 0, 1) := by decide +kernel
theorem dX11_sum_21 : decode cX11_sum 21 = .ok (.iload_n 3, 1) := by decide +kernel
theorem dX11_sum_22 : decode cX11_sum 22 = .ok (.invokevirtual 107, 3) := by decide +kernel
theorem dX11_sum_25 : decode cX11_sum 25 = .ok (.ifCond .ne 7, 3) := by decide +kernel
theorem dX11_sum_28 : decode cX11_sum 28 = .ok (.ldc2_w 193, 3) := by decide +kernel
theorem dX11_sum_31 : decode cX11_sum 31 = .ok (.lreturn, 1) := by decide +kernel
theorem dX11_sum_32 : decode cX11_sum 32 = .ok (.aload 4, 2) := by decide +kernel
theorem dX11_sum_34 : decode cX11_sum 34 = .ok (.iload_n 2, 1) := by decide +kernel
theorem dX11_sum_35 : decode cX11_sum 35 = .ok (.iload_n 3, 1) := by decide +kernel
theorem dX11_sum_36 : decode cX11_sum 36 = .ok (.invokevirtual 195, 3) := by decide +kernel
theorem dX11_sum_39 : decode cX11_sum 39 = .ok (.lreturn, 1) := by decide +kernel
theorem dX11_accountAt_0 : decode cX11_accountAt 0 = .ok (.iload_n 1, 1) := by decide +kernel
theorem dX11_accountAt_1 : decode cX11_accountAt 1 = .ok (.ifCond .lt 14, 3) := by decide +kernel
theorem dX11_accountAt_4 : decode cX11_accountAt 4 = .ok (.iload_n 1, 1) := by decide +kernel
theorem dX11_accountAt_5 : decode cX11_accountAt 5 = .ok (.aload_n 0, 1) := by decide +kernel
theorem dX11_accountAt_6 : decode cX11_accountAt 6 = .ok (.getfield 23, 3) := by decide +kernel
theorem dX11_accountAt_9 : decode cX11_accountAt 9 = .ok (.invokevirtual 87, 3) := by decide +kernel
theorem dX11_accountAt_12 : decode cX11_accountAt 12 = .ok (.if_icmp .lt 7, 3) := by decide +kernel
theorem dX11_accountAt_15 : decode cX11_accountAt 15 = .ok (.aconst_null, 1) := by decide +kernel
theorem dX11_accountAt_16 : decode cX11_accountAt 16 = .ok (.goto 14, 3) := by decide +kernel
theorem dX11_accountAt_19 : decode cX11_accountAt 19 = .ok (.aload_n 0, 1) := by decide +kernel
theorem dX11_accountAt_20 : decode cX11_accountAt 20 = .ok (.getfield 23, 3) := by decide +kernel
theorem dX11_accountAt_23 : decode cX11_accountAt 23 = .ok (.iload_n 1, 1) := by decide +kernel
theorem dX11_accountAt_24 : decode cX11_accountAt 24 = .ok (.invokevirtual 129, 3) := by decide +kernel
theorem dX11_accountAt_27 : decode cX11_accountAt 27 = .ok (.checkcast 162, 3) := by decide +kernel
theorem dX11_accountAt_30 : decode cX11_accountAt 30 = .ok (.areturn, 1) := by decide +kernel
theorem dX11_takesEntry_0 : decode cX11_takesEntry 0 = .ok (.iload_n 2, 1) := by decide +kernel
theorem dX11_takesEntry_1 : decode cX11_takesEntry 1 = .ok (.aload_n 1, 1) := by decide +kernel
theorem dX11_takesEntry_2 : decode cX11_takesEntry 2 = .ok (.getfield 199, 3) := by decide +kernel
theorem dX11_takesEntry_5 : decode cX11_takesEntry 5 = .ok (.if_icmp .lt 25, 3) := by decide +kernel
theorem dX11_takesEntry_8 : decode cX11_takesEntry 8 = .ok (.iload_n 2, 1) := by decide +kernel
theorem dX11_takesEntry_9 : decode cX11_takesEntry 9 = .ok (.aload_n 0, 1) := by decide +kernel
theorem dX11_takesEntry_10 : decode cX11_takesEntry 10 = .ok (.getfield 7, 3) := by decide +kernel
theorem dX11_takesEntry_13 : decode cX11_takesEntry 13 = .ok (.if_icmp .gt 17, 3) := by decide +kernel
theorem dX11_takesEntry_16 : decode cX11_takesEntry 16 = .ok (.aload_n 0, 1) := by decide +kernel
theorem dX11_takesEntry_17 : decode cX11_takesEntry 17 = .ok (.getfield 29, 3) := by decide +kernel
theorem dX11_takesEntry_20 : decode cX11_takesEntry 20 = .ok (.sipush 600, 3) := by decide +kernel
theorem dX11_takesEntry_23 : decode cX11_takesEntry 23 = .ok (.if_icmp .ge 7, 3) := by decide +kernel
theorem dX11_takesEntry_26 : decode cX11_takesEntry 26 = .ok (.iconst 1, 1) := by decide +kernel
theorem dX11_takesEntry_27 : decode cX11_takesEntry 27 = .ok (.goto 4, 3) := by decide +kernel
theorem dX11_takesEntry_30 : decode cX11_takesEntry 30 = .ok (.iconst 0, 1) := by decide +kernel
theorem dX11_takesEntry_31 : decode cX11_takesEntry 31 = .ok (.ireturn, 1) := by decide +kernel
theorem dX11_feed_0 : decode cX11_feed 0 = .ok (.aload_n 0, 1) := by decide +kernel
theorem dX11_feed_1 : decode cX11_feed 1 = .ok (.getfield 36, 3) := by decide +kernel
theorem dX11_feed_4 : decode cX11_feed 4 = .ok (.bipush 20, 2) := by decide +kernel
theorem dX11_feed_6 : decode cX11_feed 6 = .ok (.iadd, 1) := by decide +kernel
theorem dX11_feed_7 : decode cX11_feed 7 = .ok (.aload_n 0, 1) := by decide +kernel
theorem dX11_feed_8 : decode cX11_feed 8 = .ok (.getfield 32, 3) := by decide +kernel
theorem dX11_feed_11 : decode cX11_feed 11 = .ok (.arraylength, 1) := by decide +kernel
theorem dX11_feed_12 : decode cX11_feed 12 = .ok (.if_icmp .le 5, 3) := by decide +kernel
theorem dX11_feed_15 : decode cX11_feed 15 = .ok (.iconst (-1), 1) := by decide +kernel
theorem dX11_feed_16 : decode cX11_feed 16 = .ok (.ireturn, 1) := by decide +kernel
theorem dX11_feed_17 : decode cX11_feed 17 = .ok (.aload_n 0, 1) := by decide +kernel
theorem dX11_feed_18 : decode cX11_feed 18 = .ok (.iload_n 1, 1) := by decide +kernel
theorem dX11_feed_19 : decode cX11_feed 19 = .ok (.invokevirtual 202, 3) := by decide +kernel
theorem dX11_feed_22 : decode cX11_feed 22 = .ok (.aload_n 0, 1) := by decide +kernel
theorem dX11_feed_23 : decode cX11_feed 23 = .ok (.iload_n 2, 1) := by decide +kernel
theorem dX11_feed_24 : decode cX11_feed 24 = .ok (.invokevirtual 202, 3) := by decide +kernel
theorem dX11_feed_27 : decode cX11_feed 27 = .ok (.aload_n 0, 1) := by decide +kernel
theorem dX11_feed_28 : decode cX11_feed 28 = .ok (.iload_n 3, 1) := by decide +kernel
theorem dX11_feed_29 : decode cX11_feed 29 = .ok (.invokevirtual 202, 3) := by decide +kernel
theorem dX11_feed_32 : decode cX11_feed 32 = .ok (.aload_n 0, 1) := by decide +kernel
theorem dX11_feed_33 : decode cX11_feed 33 = .ok (.iload 4, 2) := by decide +kernel
theorem dX11_feed_35 : decode cX11_feed 35 = .ok (.invokevirtual 202, 3) := by decide +kernel
theorem dX11_feed_38 : decode cX11_feed 38 = .ok (.aload_n 0, 1) := by decide +kernel
theorem dX11_feed_39 : decode cX11_feed 39 = .ok (.iload 5, 2) := by decide +kernel
theorem dX11_feed_41 : decode cX11_feed 41 = .ok (.invokevirtual 202, 3) := by decide +kernel
theorem dX11_feed_44 : decode cX11_feed 44 = .ok (.aload_n 0, 1) := by decide +kernel
theorem dX11_feed_45 : decode cX11_feed 45 = .ok (.getfield 36, 3) := by decide +kernel
theorem dX11_feed_48 : decode cX11_feed 48 = .ok (.ireturn, 1) := by decide +kernel
theorem dX11_end_0 : decode cX11_end 0 = .ok (.iload_n 1, 1) := by decide +kernel
theorem dX11_end_1 : decode cX11_end 1 = .ok (.ifCond .lt 11, 3) := by decide +kernel
theorem dX11_end_4 : decode cX11_end 4 = .ok (.iload_n 1, 1) := by decide +kernel
theorem dX11_end_5 : decode cX11_end 5 = .ok (.aload_n 0, 1) := by decide +kernel
theorem dX11_end_6 : decode cX11_end 6 = .ok (.getfield 36, 3) := by decide +kernel
theorem dX11_end_9 : decode cX11_end 9 = .ok (.if_icmp .le 5, 3) := by decide +kernel
theorem dX11_end_12 : decode cX11_end 12 = .ok (.iconst 0, 1) := by decide +kernel
theorem dX11_end_13 : decode cX11_end 13 = .ok (.ireturn, 1) := by decide +kernel
theorem dX11_end_14 : decode cX11_end 14 = .ok (.aload_n 0, 1) := by decide +kernel
theorem dX11_end_15 : decode cX11_end 15 = .ok (.iload_n 1, 1) := by decide +kernel
theorem dX11_end_16 : decode cX11_end 16 = .ok (.putfield 36, 3) := by decide +kernel
theorem dX11_end_19 : decode cX11_end 19 = .ok (.iconst 1, 1) := by decide +kernel
theorem dX11_end_20 : decode cX11_end 20 = .ok (.ireturn, 1) := by decide +kernel
theorem dX11_reads_0 : decode cX11_reads 0 = .ok (.aload_n 0, 1) := by decide +kernel
theorem dX11_reads_1 : decode cX11_reads 1 = .ok (.getfield 36, 3) := by decide +kernel
theorem dX11_reads_4 : decode cX11_reads 4 = .ok (.istore_n 2, 1) := by decide +kernel
theorem dX11_reads_5 : decode cX11_reads 5 = .ok (.aload_n 0, 1) := by decide +kernel
theorem dX11_reads_6 : decode cX11_reads 6 = .ok (.iconst 0, 1) := by decide +kernel
theorem dX11_reads_7 : decode cX11_reads 7 = .ok (.putfield 36, 3) := by decide +kernel
theorem dX11_reads_10 : decode cX11_reads 10 = .ok (.iload_n 1, 1) := by decide +kernel
theorem dX11_reads_11 : decode cX11_reads 11 = .ok (.aload_n 0, 1) := by decide +kernel
theorem dX11_reads_12 : decode cX11_reads 12 = .ok (.getfield 48, 3) := by decide +kernel
theorem dX11_reads_15 : decode cX11_reads 15 = .ok (.arraylength, 1) := by decide +kernel
theorem dX11_reads_16 : decode cX11_reads 16 = .ok (.invokestatic 83, 3) := by decide +kernel
theorem dX11_reads_19 : decode cX11_reads 19 = .ok (.ifCond .ne 5, 3) := by decide +kernel
theorem dX11_reads_22 : decode cX11_reads 22 = .ok (.iconst (-1), 1) := by decide +kernel
theorem dX11_reads_23 : decode cX11_reads 23 = .ok (.ireturn, 1) := by decide +kernel
theorem dX11_reads_24 : decode cX11_reads 24 = .ok (.new 205, 3) := by decide +kernel
theorem dX11_reads_27 : decode cX11_reads 27 = .ok (.dup, 1) := by decide +kernel
theorem dX11_reads_28 : decode cX11_reads 28 = .ok (.aload_n 0, 1) := by decide +kernel
theorem dX11_reads_29 : decode cX11_reads 29 = .ok (.getfield 32, 3) := by decide +kernel
theorem dX11_reads_32 : decode cX11_reads 32 = .ok (.iload_n 2, 1) := by decide +kernel
theorem dX11_reads_33 : decode cX11_reads 33 = .ok (.invokestatic 207, 3) := by decide +kernel
theorem dX11_reads_36 : decode cX11_reads 36 = .ok (.invokespecial 213, 3) := by decide +kernel
theorem dX11_reads_39 : decode cX11_reads 39 = .ok (.astore_n 3, 1) := by decide +kernel
theorem dX11_reads_40 : decode cX11_reads 40 = .ok (.aload_n 3, 1) := by decide +kernel
theorem dX11_reads_41 : decode cX11_reads 41 = .ok (.invokevirtual 216, 3) := by decide +kernel
theorem dX11_reads_44 : decode cX11_reads 44 = .ok (.aload_n 0, 1) := by decide +kernel
theorem dX11_reads_45 : decode cX11_reads 45 = .ok (.aload_n 3, 1) := by decide +kernel
theorem dX11_reads_46 : decode cX11_reads 46 = .ok (.getfield 219, 3) := by decide +kernel
theorem dX11_reads_49 : decode cX11_reads 49 = .ok (.putfield 52, 3) := by decide +kernel
theorem dX11_reads_52 : decode cX11_reads 52 = .ok (.aload_n 0, 1) := by decide +kernel
theorem dX11_reads_53 : decode cX11_reads 53 = .ok (.aload_n 3, 1) := by decide +kernel
theorem dX11_reads_54 : decode cX11_reads 54 = .ok (.getfield 222, 3) := by decide +kernel
theorem dX11_reads_57 : decode cX11_reads 57 = .ok (.putfield 55, 3) := by decide +kernel
theorem dX11_reads_60 : decode cX11_reads 60 = .ok (.aload_n 0, 1) := by decide +kernel
theorem dX11_reads_61 : decode cX11_reads 61 = .ok (.getfield 52, 3) := by decide +kernel
theorem dX11_reads_64 : decode cX11_reads 64 = .ok (.ifCond .eq 5, 3) := by decide +kernel
theorem dX11_reads_67 : decode cX11_reads 67 = .ok (.iconst (-1), 1) := by decide +kernel
theorem dX11_reads_68 : decode cX11_reads 68 = .ok (.ireturn, 1) := by decide +kernel
theorem dX11_reads_69 : decode cX11_reads 69 = .ok (.aload_n 0, 1) := by decide +kernel
theorem dX11_reads_70 : decode cX11_reads 70 = .ok (.getfield 48, 3) := by decide +kernel
theorem dX11_reads_73 : decode cX11_reads 73 = .ok (.iload_n 1, 1) := by decide +kernel
theorem dX11_reads_74 : decode cX11_reads 74 = .ok (.aload_n 3, 1) := by decide +kernel
theorem dX11_reads_75 : decode cX11_reads 75 = .ok (.getfield 225, 3) := by decide +kernel
theorem dX11_reads_78 : decode cX11_reads 78 = .ok (.aastore, 1) := by decide +kernel
theorem dX11_reads_79 : decode cX11_reads 79 = .ok (.aload_n 3, 1) := by decide +kernel
theorem dX11_reads_80 : decode cX11_reads 80 = .ok (.getfield 225, 3) := by decide +kernel
theorem dX11_reads_83 : decode cX11_reads 83 = .ok (.getfield 228, 3) := by decide +kernel
theorem dX11_reads_86 : decode cX11_reads 86 = .ok (.ireturn, 1) := by decide +kernel
theorem dX11_fault_0 : decode cX11_fault 0 = .ok (.iload_n 1, 1) := by decide +kernel
theorem dX11_fault_1 : decode cX11_fault 1 = .ok (.lookupswitch 37 #[(0, 27), (1, 32)], 27) := by decide +kernel
theorem dX11_fault_28 : decode cX11_fault 28 = .ok (.aload_n 0, 1) := by decide +kernel
theorem dX11_fault_29 : decode cX11_fault 29 = .ok (.getfield 52, 3) := by decide +kernel
theorem dX11_fault_32 : decode cX11_fault 32 = .ok (.ireturn, 1) := by decide +kernel
theorem dX11_fault_33 : decode cX11_fault 33 = .ok (.aload_n 0, 1) := by decide +kernel
theorem dX11_fault_34 : decode cX11_fault 34 = .ok (.getfield 55, 3) := by decide +kernel
theorem dX11_fault_37 : decode cX11_fault 37 = .ok (.ireturn, 1) := by decide +kernel
theorem dX11_fault_38 : decode cX11_fault 38 = .ok (.iconst (-1), 1) := by decide +kernel
theorem dX11_fault_39 : decode cX11_fault 39 = .ok (.ireturn, 1) := by decide +kernel
theorem dX11_told_0 : decode cX11_told 0 = .ok (.iload_n 1, 1) := by decide +kernel
theorem dX11_told_1 : decode cX11_told 1 = .ok (.iconst 4, 1) := by decide +kernel
theorem dX11_told_2 : decode cX11_told 2 = .ok (.invokestatic 83, 3) := by decide +kernel
theorem dX11_told_5 : decode cX11_told 5 = .ok (.ifCond .ne 5, 3) := by decide +kernel
theorem dX11_told_8 : decode cX11_told 8 = .ok (.iconst (-1), 1) := by decide +kernel
theorem dX11_told_9 : decode cX11_told 9 = .ok (.ireturn, 1) := by decide +kernel
theorem dX11_told_10 : decode cX11_told 10 = .ok (.aload_n 0, 1) := by decide +kernel
theorem dX11_told_11 : decode cX11_told 11 = .ok (.iload_n 1, 1) := by decide +kernel
theorem dX11_told_12 : decode cX11_told 12 = .ok (.invokevirtual 231, 3) := by decide +kernel
theorem dX11_told_15 : decode cX11_told 15 = .ok (.astore_n 3, 1) := by decide +kernel
theorem dX11_told_16 : decode cX11_told 16 = .ok (.iload_n 2, 1) := by decide +kernel
theorem dX11_told_17 : decode cX11_told 17 = .ok (.iconst 4, 1) := by decide +kernel
theorem dX11_told_18 : decode cX11_told 18 = .ok (.invokestatic 83, 3) := by decide +kernel
theorem dX11_told_21 : decode cX11_told 21 = .ok (.ifCond .eq 9, 3) := by decide +kernel
theorem dX11_told_24 : decode cX11_told 24 = .ok (.aload_n 3, 1) := by decide +kernel
theorem dX11_told_25 : decode cX11_told 25 = .ok (.iload_n 2, 1) := by decide +kernel
theorem dX11_told_26 : decode cX11_told 26 = .ok (.invokevirtual 235, 3) := by decide +kernel
theorem dX11_told_29 : decode cX11_told 29 = .ok (.ireturn, 1) := by decide +kernel
theorem dX11_told_30 : decode cX11_told 30 = .ok (.iload_n 2, 1) := by decide +kernel
theorem dX11_told_31 : decode cX11_told 31 = .ok (.tableswitch 58 4 8 #[33, 38, 43, 48, 53], 33) := by decide +kernel
theorem dX11_told_64 : decode cX11_told 64 = .ok (.aload_n 3, 1) := by decide +kernel
theorem dX11_told_65 : decode cX11_told 65 = .ok (.invokevirtual 239, 3) := by decide +kernel
theorem dX11_told_68 : decode cX11_told 68 = .ok (.ireturn, 1) := by decide +kernel
theorem dX11_told_69 : decode cX11_told 69 = .ok (.aload_n 3, 1) := by decide +kernel
theorem dX11_told_70 : decode cX11_told 70 = .ok (.getfield 242, 3) := by decide +kernel
theorem dX11_told_73 : decode cX11_told 73 = .ok (.ireturn, 1) := by decide +kernel
theorem dX11_told_74 : decode cX11_told 74 = .ok (.aload_n 3, 1) := by decide +kernel
theorem dX11_told_75 : decode cX11_told 75 = .ok (.getfield 245, 3) := by decide +kernel
theorem dX11_told_78 : decode cX11_told 78 = .ok (.ireturn, 1) := by decide +kernel
theorem dX11_told_79 : decode cX11_told 79 = .ok (.aload_n 3, 1) := by decide +kernel
theorem dX11_told_80 : decode cX11_told 80 = .ok (.getfield 248, 3) := by decide +kernel
theorem dX11_told_83 : decode cX11_told 83 = .ok (.ireturn, 1) := by decide +kernel
theorem dX11_told_84 : decode cX11_told 84 = .ok (.aload_n 3, 1) := by decide +kernel
theorem dX11_told_85 : decode cX11_told 85 = .ok (.getfield 251, 3) := by decide +kernel
theorem dX11_told_88 : decode cX11_told 88 = .ok (.ireturn, 1) := by decide +kernel
theorem dX11_told_89 : decode cX11_told 89 = .ok (.iconst (-1), 1) := by decide +kernel
theorem dX11_told_90 : decode cX11_told 90 = .ok (.ireturn, 1) := by decide +kernel
theorem dX11_putBytes_0 : decode cX11_putBytes 0 = .ok (.bipush 24, 2) := by decide +kernel
theorem dX11_putBytes_2 : decode cX11_putBytes 2 = .ok (.istore_n 2, 1) := by decide +kernel
theorem dX11_putBytes_3 : decode cX11_putBytes 3 = .ok (.iload_n 2, 1) := by decide +kernel
theorem dX11_putBytes_4 : decode cX11_putBytes 4 = .ok (.ifCond .lt 44, 3) := by decide +kernel
theorem dX11_putBytes_7 : decode cX11_putBytes 7 = .ok (.aload_n 0, 1) := by decide +kernel
theorem dX11_putBytes_8 : decode cX11_putBytes 8 = .ok (.getfield 36, 3) := by decide +kernel
theorem dX11_putBytes_11 : decode cX11_putBytes 11 = .ok (.aload_n 0, 1) := by decide +kernel
theorem dX11_putBytes_12 : decode cX11_putBytes 12 = .ok (.getfield 32, 3) := by decide +kernel
theorem dX11_putBytes_15 : decode cX11_putBytes 15 = .ok (.arraylength, 1) := by decide +kernel
theorem dX11_putBytes_16 : decode cX11_putBytes 16 = .ok (.if_icmp .ge 26, 3) := by decide +kernel
theorem dX11_putBytes_19 : decode cX11_putBytes 19 = .ok (.aload_n 0, 1) := by decide +kernel
theorem dX11_putBytes_20 : decode cX11_putBytes 20 = .ok (.getfield 32, 3) := by decide +kernel
theorem dX11_putBytes_23 : decode cX11_putBytes 23 = .ok (.aload_n 0, 1) := by decide +kernel
theorem dX11_putBytes_24 : decode cX11_putBytes 24 = .ok (.getfield 36, 3) := by decide +kernel
theorem dX11_putBytes_27 : decode cX11_putBytes 27 = .ok (.iload_n 1, 1) := by decide +kernel
theorem dX11_putBytes_28 : decode cX11_putBytes 28 = .ok (.iload_n 2, 1) := by decide +kernel
theorem dX11_putBytes_29 : decode cX11_putBytes 29 = .ok (.ishr, 1) := by decide +kernel
theorem dX11_putBytes_30 : decode cX11_putBytes 30 = .ok (.i2b, 1) := by decide +kernel
theorem dX11_putBytes_31 : decode cX11_putBytes 31 = .ok (.bastore, 1) := by decide +kernel
theorem dX11_putBytes_32 : decode cX11_putBytes 32 = .ok (.aload_n 0, 1) := by decide +kernel
theorem dX11_putBytes_33 : decode cX11_putBytes 33 = .ok (.dup, 1) := by decide +kernel
theorem dX11_putBytes_34 : decode cX11_putBytes 34 = .ok (.getfield 36, 3) := by decide +kernel
theorem dX11_putBytes_37 : decode cX11_putBytes 37 = .ok (.iconst 1, 1) := by decide +kernel
theorem dX11_putBytes_38 : decode cX11_putBytes 38 = .ok (.iadd, 1) := by decide +kernel
theorem dX11_putBytes_39 : decode cX11_putBytes 39 = .ok (.putfield 36, 3) := by decide +kernel
theorem dX11_putBytes_42 : decode cX11_putBytes 42 = .ok (.iinc 2 (-8), 3) := by decide +kernel
theorem dX11_putBytes_45 : decode cX11_putBytes 45 = .ok (.goto (-42), 3) := by decide +kernel
theorem dX11_putBytes_48 : decode cX11_putBytes 48 = .ok (.return_, 1) := by decide +kernel
theorem dX11_lawOf_0 : decode cX11_lawOf 0 = .ok (.iload_n 1, 1) := by decide +kernel
theorem dX11_lawOf_1 : decode cX11_lawOf 1 = .ok (.aload_n 0, 1) := by decide +kernel
theorem dX11_lawOf_2 : decode cX11_lawOf 2 = .ok (.getfield 48, 3) := by decide +kernel
theorem dX11_lawOf_5 : decode cX11_lawOf 5 = .ok (.arraylength, 1) := by decide +kernel
theorem dX11_lawOf_6 : decode cX11_lawOf 6 = .ok (.invokestatic 83, 3) := by decide +kernel
theorem dX11_lawOf_9 : decode cX11_lawOf 9 = .ok (.ifCond .eq 12, 3) := by decide +kernel
theorem dX11_lawOf_12 : decode cX11_lawOf 12 = .ok (.aload_n 0, 1) := by decide +kernel
theorem dX11_lawOf_13 : decode cX11_lawOf 13 = .ok (.getfield 48, 3) := by decide +kernel
theorem dX11_lawOf_16 : decode cX11_lawOf 16 = .ok (.iload_n 1, 1) := by decide +kernel
theorem dX11_lawOf_17 : decode cX11_lawOf 17 = .ok (.aaload, 1) := by decide +kernel
theorem dX11_lawOf_18 : decode cX11_lawOf 18 = .ok (.goto 7, 3) := by decide +kernel
theorem dX11_lawOf_21 : decode cX11_lawOf 21 = .ok (.aload_n 0, 1) := by decide +kernel
theorem dX11_lawOf_22 : decode cX11_lawOf 22 = .ok (.getfield 44, 3) := by decide +kernel
theorem dX11_lawOf_25 : decode cX11_lawOf 25 = .ok (.areturn, 1) := by decide +kernel
theorem dX11_sleep_0 : decode cX11_sleep 0 = .ok (.aload_n 0, 1) := by decide +kernel
theorem dX11_sleep_1 : decode cX11_sleep 1 = .ok (.iload_n 1, 1) := by decide +kernel
theorem dX11_sleep_2 : decode cX11_sleep 2 = .ok (.invokevirtual 168, 3) := by decide +kernel
theorem dX11_sleep_5 : decode cX11_sleep 5 = .ok (.astore 4, 2) := by decide +kernel
theorem dX11_sleep_7 : decode cX11_sleep 7 = .ok (.aload 4, 2) := by decide +kernel
theorem dX11_sleep_9 : decode cX11_sleep 9 = .ok (.ifnull 11, 3) := by decide +kernel
theorem dX11_sleep_12 : decode cX11_sleep 12 = .ok (.aload_n 0, 1) := by decide +kernel
theorem dX11_sleep_13 : decode cX11_sleep 13 = .ok (.iload_n 2, 1) := by decide +kernel
theorem dX11_sleep_14 : decode cX11_sleep 14 = .ok (.invokevirtual 107, 3) := by decide +kernel
theorem dX11_sleep_17 : decode cX11_sleep 17 = .ok (.ifCond .ne 6, 3) := by decide +kernel
theorem dX11_sleep_20 : decode cX11_sleep 20 = .ok (.ldc 254, 2) := by decide +kernel
theorem dX11_sleep_22 : decode cX11_sleep 22 = .ok (.ireturn, 1) := by decide +kernel
theorem dX11_sleep_23 : decode cX11_sleep 23 = .ok (.aload 4, 2) := by decide +kernel
theorem dX11_sleep_25 : decode cX11_sleep 25 = .ok (.iload_n 2, 1) := by decide +kernel
theorem dX11_sleep_26 : decode cX11_sleep 26 = .ok (.invokestatic 255, 3) := by decide +kernel
theorem dX11_sleep_29 : decode cX11_sleep 29 = .ok (.istore 5, 2) := by decide +kernel
theorem dX11_sleep_31 : decode cX11_sleep 31 = .ok (.aload_n 0, 1) := by decide +kernel
theorem dX11_sleep_32 : decode cX11_sleep 32 = .ok (.aload 4, 2) := by decide +kernel
theorem dX11_sleep_34 : decode cX11_sleep 34 = .ok (.iload_n 2, 1) := by decide +kernel
theorem dX11_sleep_35 : decode cX11_sleep 35 = .ok (.invokevirtual 259, 3) := by decide +kernel
theorem dX11_sleep_38 : decode cX11_sleep 38 = .ok (.istore 6, 2) := by decide +kernel
theorem dX11_sleep_40 : decode cX11_sleep 40 = .ok (.iload_n 3, 1) := by decide +kernel
theorem dX11_sleep_41 : decode cX11_sleep 41 = .ok (.tableswitch 62 0 3 #[31, 34, 47, 59], 31) := by decide +kernel
theorem dX11_sleep_72 : decode cX11_sleep 72 = .ok (.iload 6, 2) := by decide +kernel
theorem dX11_sleep_74 : decode cX11_sleep 74 = .ok (.ireturn, 1) := by decide +kernel
theorem dX11_sleep_75 : decode cX11_sleep 75 = .ok (.iload 6, 2) := by decide +kernel
theorem dX11_sleep_77 : decode cX11_sleep 77 = .ok (.aload_n 0, 1) := by decide +kernel
theorem dX11_sleep_78 : decode cX11_sleep 78 = .ok (.iload 5, 2) := by decide +kernel
theorem dX11_sleep_80 : decode cX11_sleep 80 = .ok (.invokevirtual 231, 3) := by decide +kernel
theorem dX11_sleep_83 : decode cX11_sleep 83 = .ok (.getfield 242, 3) := by decide +kernel
theorem dX11_sleep_86 : decode cX11_sleep 86 = .ok (.isub, 1) := by decide +kernel
theorem dX11_sleep_87 : decode cX11_sleep 87 = .ok (.ireturn, 1) := by decide +kernel
theorem dX11_sleep_88 : decode cX11_sleep 88 = .ok (.iload_n 2, 1) := by decide +kernel
theorem dX11_sleep_89 : decode cX11_sleep 89 = .ok (.iload 6, 2) := by decide +kernel
theorem dX11_sleep_91 : decode cX11_sleep 91 = .ok (.if_icmp .lt 7, 3) := by decide +kernel
theorem dX11_sleep_94 : decode cX11_sleep 94 = .ok (.iconst 1, 1) := by decide +kernel
theorem dX11_sleep_95 : decode cX11_sleep 95 = .ok (.goto 4, 3) := by decide +kernel
theorem dX11_sleep_98 : decode cX11_sleep 98 = .ok (.iconst 0, 1) := by decide +kernel
theorem dX11_sleep_99 : decode cX11_sleep 99 = .ok (.ireturn, 1) := by decide +kernel
theorem dX11_sleep_100 : decode cX11_sleep 100 = .ok (.iload 5, 2) := by decide +kernel
theorem dX11_sleep_102 : decode cX11_sleep 102 = .ok (.ireturn, 1) := by decide +kernel
theorem dX11_sleep_103 : decode cX11_sleep 103 = .ok (.ldc 254, 2) := by decide +kernel
theorem dX11_sleep_105 : decode cX11_sleep 105 = .ok (.ireturn, 1) := by decide +kernel
theorem dX11_report_0 : decode cX11_report 0 = .ok (.aload_n 0, 1) := by decide +kernel
theorem dX11_report_1 : decode cX11_report 1 = .ok (.iload_n 1, 1) := by decide +kernel
theorem dX11_report_2 : decode cX11_report 2 = .ok (.invokevirtual 103, 3) := by decide +kernel
theorem dX11_report_5 : decode cX11_report 5 = .ok (.astore_n 2, 1) := by decide +kernel
theorem dX11_report_6 : decode cX11_report 6 = .ok (.aload_n 2, 1) := by decide +kernel
theorem dX11_report_7 : decode cX11_report 7 = .ok (.ifnull 14, 3) := by decide +kernel
theorem dX11_report_10 : decode cX11_report 10 = .ok (.aload_n 2, 1) := by decide +kernel
theorem dX11_report_11 : decode cX11_report 11 = .ok (.aload_n 0, 1) := by decide +kernel
theorem dX11_report_12 : decode cX11_report 12 = .ok (.getfield 7, 3) := by decide +kernel
theorem dX11_report_15 : decode cX11_report 15 = .ok (.invokevirtual 115, 3) := by decide +kernel
theorem dX11_report_18 : decode cX11_report 18 = .ok (.ifCond .eq 5, 3) := by decide +kernel
theorem dX11_report_21 : decode cX11_report 21 = .ok (.iconst (-1), 1) := by decide +kernel
theorem dX11_report_22 : decode cX11_report 22 = .ok (.ireturn, 1) := by decide +kernel
theorem dX11_report_23 : decode cX11_report 23 = .ok (.iconst 0, 1) := by decide +kernel
theorem dX11_report_24 : decode cX11_report 24 = .ok (.istore_n 3, 1) := by decide +kernel
theorem dX11_report_25 : decode cX11_report 25 = .ok (.iconst 0, 1) := by decide +kernel
theorem dX11_report_26 : decode cX11_report 26 = .ok (.istore 4, 2) := by decide +kernel
theorem dX11_report_28 : decode cX11_report 28 = .ok (.iload 4, 2) := by decide +kernel
theorem dX11_report_30 : decode cX11_report 30 = .ok (.aload_n 0, 1) := by decide +kernel
theorem dX11_report_31 : decode cX11_report 31 = .ok (.getfield 23, 3) := by decide +kernel
theorem dX11_report_34 : decode cX11_report 34 = .ok (.invokevirtual 87, 3) := by decide +kernel
theorem dX11_report_37 : decode cX11_report 37 = .ok (.if_icmp .ge 73, 3) := by decide +kernel
theorem dX11_report_40 : decode cX11_report 40 = .ok (.aload_n 0, 1) := by decide +kernel
theorem dX11_report_41 : decode cX11_report 41 = .ok (.getfield 23, 3) := by decide +kernel
theorem dX11_report_44 : decode cX11_report 44 = .ok (.iload 4, 2) := by decide +kernel
theorem dX11_report_46 : decode cX11_report 46 = .ok (.invokevirtual 129, 3) := by decide +kernel
theorem dX11_report_49 : decode cX11_report 49 = .ok (.checkcast 162, 3) := by decide +kernel
theorem dX11_report_52 : decode cX11_report 52 = .ok (.astore 5, 2) := by decide +kernel
theorem dX11_report_54 : decode cX11_report 54 = .ok (.aload 5, 2) := by decide +kernel
theorem dX11_report_56 : decode cX11_report 56 = .ok (.invokevirtual 262, 3) := by decide +kernel
theorem dX11_report_59 : decode cX11_report 59 = .ok (.ifCond .ne 45, 3) := by decide +kernel
theorem dX11_report_62 : decode cX11_report 62 = .ok (.aload 5, 2) := by decide +kernel
theorem dX11_report_64 : decode cX11_report 64 = .ok (.getfield 265, 3) := by decide +kernel
theorem dX11_report_67 : decode cX11_report 67 = .ok (.aload_n 0, 1) := by decide +kernel
theorem dX11_report_68 : decode cX11_report 68 = .ok (.getfield 7, 3) := by decide +kernel
theorem dX11_report_71 : decode cX11_report 71 = .ok (.invokestatic 125, 3) := by decide +kernel
theorem dX11_report_74 : decode cX11_report 74 = .ok (.aload_n 2, 1) := by decide +kernel
theorem dX11_report_75 : decode cX11_report 75 = .ok (.if_acmp .ne 29, 3) := by decide +kernel
theorem dX11_report_78 : decode cX11_report 78 = .ok (.aload_n 0, 1) := by decide +kernel
theorem dX11_report_79 : decode cX11_report 79 = .ok (.aload 5, 2) := by decide +kernel
theorem dX11_report_81 : decode cX11_report 81 = .ok (.aload_n 0, 1) := by decide +kernel
theorem dX11_report_82 : decode cX11_report 82 = .ok (.getfield 7, 3) := by decide +kernel
theorem dX11_report_85 : decode cX11_report 85 = .ok (.invokevirtual 259, 3) := by decide +kernel
theorem dX11_report_88 : decode cX11_report 88 = .ok (.aload_n 0, 1) := by decide +kernel
theorem dX11_report_89 : decode cX11_report 89 = .ok (.getfield 7, 3) := by decide +kernel
theorem dX11_report_92 : decode cX11_report 92 = .ok (.if_icmp .gt 12, 3) := by decide +kernel
theorem dX11_report_95 : decode cX11_report 95 = .ok (.aload_n 0, 1) := by decide +kernel
theorem dX11_report_96 : decode cX11_report 96 = .ok (.aload 5, 2) := by decide +kernel
theorem dX11_report_98 : decode cX11_report 98 = .ok (.invokevirtual 268, 3) := by decide +kernel
theorem dX11_report_101 : decode cX11_report 101 = .ok (.iinc 3 1, 3) := by decide +kernel
theorem dX11_report_104 : decode cX11_report 104 = .ok (.iinc 4 1, 3) := by decide +kernel
theorem dX11_report_107 : decode cX11_report 107 = .ok (.goto (-79), 3) := by decide +kernel
theorem dX11_report_110 : decode cX11_report 110 = .ok (.iload_n 3, 1) := by decide +kernel
theorem dX11_report_111 : decode cX11_report 111 = .ok (.ireturn, 1) := by decide +kernel
theorem dX11_held_0 : decode cX11_held 0 = .ok (.aload_n 0, 1) := by decide +kernel
theorem dX11_held_1 : decode cX11_held 1 = .ok (.iload_n 1, 1) := by decide +kernel
theorem dX11_held_2 : decode cX11_held 2 = .ok (.invokevirtual 168, 3) := by decide +kernel
theorem dX11_held_5 : decode cX11_held 5 = .ok (.astore_n 3, 1) := by decide +kernel
theorem dX11_held_6 : decode cX11_held 6 = .ok (.aload_n 3, 1) := by decide +kernel
theorem dX11_held_7 : decode cX11_held 7 = .ok (.ifnull 10, 3) := by decide +kernel
theorem dX11_held_10 : decode cX11_held 10 = .ok (.aload_n 3, 1) := by decide +kernel
theorem dX11_held_11 : decode cX11_held 11 = .ok (.invokevirtual 262, 3) := by decide +kernel
theorem dX11_held_14 : decode cX11_held 14 = .ok (.ifCond .ne 7, 3) := by decide +kernel
theorem dX11_held_17 : decode cX11_held 17 = .ok (.ldc2_w 193, 3) := by decide +kernel
theorem dX11_held_20 : decode cX11_held 20 = .ok (.lreturn, 1) := by decide +kernel
theorem dX11_held_21 : decode cX11_held 21 = .ok (.iload_n 2, 1) := by decide +kernel
theorem dX11_held_22 : decode cX11_held 22 = .ok (.tableswitch 73 0 5 #[38, 44, 49, 55, 61, 67], 38) := by decide +kernel
theorem dX11_held_60 : decode cX11_held 60 = .ok (.aload_n 3, 1) := by decide +kernel
theorem dX11_held_61 : decode cX11_held 61 = .ok (.getfield 272, 3) := by decide +kernel
theorem dX11_held_64 : decode cX11_held 64 = .ok (.i2l, 1) := by decide +kernel
theorem dX11_held_65 : decode cX11_held 65 = .ok (.lreturn, 1) := by decide +kernel
theorem dX11_held_66 : decode cX11_held 66 = .ok (.aload_n 3, 1) := by decide +kernel
theorem dX11_held_67 : decode cX11_held 67 = .ok (.getfield 275, 3) := by decide +kernel
theorem dX11_held_70 : decode cX11_held 70 = .ok (.lreturn, 1) := by decide +kernel
theorem dX11_held_71 : decode cX11_held 71 = .ok (.aload_n 3, 1) := by decide +kernel
theorem dX11_held_72 : decode cX11_held 72 = .ok (.getfield 279, 3) := by decide +kernel
theorem dX11_held_75 : decode cX11_held 75 = .ok (.i2l, 1) := by decide +kernel
theorem dX11_held_76 : decode cX11_held 76 = .ok (.lreturn, 1) := by decide +kernel
theorem dX11_held_77 : decode cX11_held 77 = .ok (.aload_n 3, 1) := by decide +kernel
theorem dX11_held_78 : decode cX11_held 78 = .ok (.getfield 282, 3) := by decide +kernel
theorem dX11_held_81 : decode cX11_held 81 = .ok (.i2l, 1) := by decide +kernel
theorem dX11_held_82 : decode cX11_held 82 = .ok (.lreturn, 1) := by decide +kernel
theorem dX11_held_83 : decode cX11_held 83 = .ok (.aload_n 0, 1) := by decide +kernel
theorem dX11_held_84 : decode cX11_held 84 = .ok (.aload_n 3, 1) := by decide +kernel
theorem dX11_held_85 : decode cX11_held 85 = .ok (.invokevirtual 285, 3) := by decide +kernel
theorem dX11_held_88 : decode cX11_held 88 = .ok (.lreturn, 1) := by decide +kernel
theorem dX11_held_89 : decode cX11_held 89 = .ok (.aload_n 0, 1) := by decide +kernel
theorem dX11_held_90 : decode cX11_held 90 = .ok (.aload_n 3, 1) := by decide +kernel
theorem dX11_held_91 : decode cX11_held 91 = .ok (.invokevirtual 289, 3) := by decide +kernel
theorem dX11_held_94 : decode cX11_held 94 = .ok (.lreturn, 1) := by decide +kernel
theorem dX11_held_95 : decode cX11_held 95 = .ok (.ldc2_w 193, 3) := by decide +kernel
theorem dX11_held_98 : decode cX11_held 98 = .ok (.lreturn, 1) := by decide +kernel
theorem dX11_owedOn_0 : decode cX11_owedOn 0 = .ok (.aload_n 0, 1) := by decide +kernel
theorem dX11_owedOn_1 : decode cX11_owedOn 1 = .ok (.getfield 292, 3) := by decide +kernel
theorem dX11_owedOn_4 : decode cX11_owedOn 4 = .ok (.getfield 145, 3) := by decide +kernel
theorem dX11_owedOn_7 : decode cX11_owedOn 7 = .ok (.istore_n 2, 1) := by decide +kernel
theorem dX11_owedOn_8 : decode cX11_owedOn 8 = .ok (.iload_n 2, 1) := by decide +kernel
theorem dX11_owedOn_9 : decode cX11_owedOn 9 = .ok (.iconst (-1), 1) := by decide +kernel
theorem dX11_owedOn_10 : decode cX11_owedOn 10 = .ok (.if_icmp .ne 17, 3) := by decide +kernel
theorem dX11_owedOn_13 : decode cX11_owedOn 13 = .ok (.aload_n 0, 1) := by decide +kernel
theorem dX11_owedOn_14 : decode cX11_owedOn 14 = .ok (.getfield 265, 3) := by decide +kernel
theorem dX11_owedOn_17 : decode cX11_owedOn 17 = .ok (.iload_n 1, 1) := by decide +kernel
theorem dX11_owedOn_18 : decode cX11_owedOn 18 = .ok (.invokestatic 125, 3) := by decide +kernel
theorem dX11_owedOn_21 : decode cX11_owedOn 21 = .ok (.getfield 296, 3) := by decide +kernel
theorem dX11_owedOn_24 : decode cX11_owedOn 24 = .ok (.goto 4, 3) := by decide +kernel
theorem dX11_owedOn_27 : decode cX11_owedOn 27 = .ok (.iload_n 2, 1) := by decide +kernel
theorem dX11_owedOn_28 : decode cX11_owedOn 28 = .ok (.ireturn, 1) := by decide +kernel
theorem dX11_sleepDay_0 : decode cX11_sleepDay 0 = .ok (.aload_n 0, 1) := by decide +kernel
theorem dX11_sleepDay_1 : decode cX11_sleepDay 1 = .ok (.aload_n 1, 1) := by decide +kernel
theorem dX11_sleepDay_2 : decode cX11_sleepDay 2 = .ok (.iload_n 2, 1) := by decide +kernel
theorem dX11_sleepDay_3 : decode cX11_sleepDay 3 = .ok (.invokestatic 255, 3) := by decide +kernel
theorem dX11_sleepDay_6 : decode cX11_sleepDay 6 = .ok (.invokevirtual 231, 3) := by decide +kernel
theorem dX11_sleepDay_9 : decode cX11_sleepDay 9 = .ok (.astore_n 3, 1) := by decide +kernel
theorem dX11_sleepDay_10 : decode cX11_sleepDay 10 = .ok (.aload_n 1, 1) := by decide +kernel
theorem dX11_sleepDay_11 : decode cX11_sleepDay 11 = .ok (.aload_n 3, 1) := by decide +kernel
theorem dX11_sleepDay_12 : decode cX11_sleepDay 12 = .ok (.invokevirtual 239, 3) := by decide +kernel
theorem dX11_sleepDay_15 : decode cX11_sleepDay 15 = .ok (.iload_n 2, 1) := by decide +kernel
theorem dX11_sleepDay_16 : decode cX11_sleepDay 16 = .ok (.invokevirtual 299, 3) := by decide +kernel
theorem dX11_sleepDay_19 : decode cX11_sleepDay 19 = .ok (.aload_n 3, 1) := by decide +kernel
theorem dX11_sleepDay_20 : decode cX11_sleepDay 20 = .ok (.aload_n 1, 1) := by decide +kernel
theorem dX11_sleepDay_21 : decode cX11_sleepDay 21 = .ok (.getfield 303, 3) := by decide +kernel
theorem dX11_sleepDay_24 : decode cX11_sleepDay 24 = .ok (.invokevirtual 235, 3) := by decide +kernel
theorem dX11_sleepDay_27 : decode cX11_sleepDay 27 = .ok (.sipush 360, 3) := by decide +kernel
theorem dX11_sleepDay_30 : decode cX11_sleepDay 30 = .ok (.imul, 1) := by decide +kernel
theorem dX11_sleepDay_31 : decode cX11_sleepDay 31 = .ok (.iadd, 1) := by decide +kernel
theorem dX11_sleepDay_32 : decode cX11_sleepDay 32 = .ok (.ireturn, 1) := by decide +kernel
theorem dX11_hold_0 : decode cX11_hold 0 = .ok (.aload_n 1, 1) := by decide +kernel
theorem dX11_hold_1 : decode cX11_hold 1 = .ok (.aload_n 0, 1) := by decide +kernel
theorem dX11_hold_2 : decode cX11_hold 2 = .ok (.getfield 7, 3) := by decide +kernel
theorem dX11_hold_5 : decode cX11_hold 5 = .ok (.aload_n 0, 1) := by decide +kernel
theorem dX11_hold_6 : decode cX11_hold 6 = .ok (.aload_n 1, 1) := by decide +kernel
theorem dX11_hold_7 : decode cX11_hold 7 = .ok (.aload_n 0, 1) := by decide +kernel
theorem dX11_hold_8 : decode cX11_hold 8 = .ok (.getfield 7, 3) := by decide +kernel
theorem dX11_hold_11 : decode cX11_hold 11 = .ok (.invokevirtual 259, 3) := by decide +kernel
theorem dX11_hold_14 : decode cX11_hold 14 = .ok (.isub, 1) := by decide +kernel
theorem dX11_hold_15 : decode cX11_hold 15 = .ok (.putfield 282, 3) := by decide +kernel
theorem dX11_hold_18 : decode cX11_hold 18 = .ok (.aload_n 1, 1) := by decide +kernel
theorem dX11_hold_19 : decode cX11_hold 19 = .ok (.aload_n 1, 1) := by decide +kernel
theorem dX11_hold_20 : decode cX11_hold 20 = .ok (.aload_n 0, 1) := by decide +kernel
theorem dX11_hold_21 : decode cX11_hold 21 = .ok (.getfield 7, 3) := by decide +kernel
theorem dX11_hold_24 : decode cX11_hold 24 = .ok (.invokestatic 255, 3) := by decide +kernel
theorem dX11_hold_27 : decode cX11_hold 27 = .ok (.putfield 272, 3) := by decide +kernel
theorem dX11_hold_30 : decode cX11_hold 30 = .ok (.aload_n 1, 1) := by decide +kernel
theorem dX11_hold_31 : decode cX11_hold 31 = .ok (.aload_n 1, 1) := by decide +kernel
theorem dX11_hold_32 : decode cX11_hold 32 = .ok (.aload_n 0, 1) := by decide +kernel
theorem dX11_hold_33 : decode cX11_hold 33 = .ok (.getfield 7, 3) := by decide +kernel
theorem dX11_hold_36 : decode cX11_hold 36 = .ok (.aload_n 0, 1) := by decide +kernel
theorem dX11_hold_37 : decode cX11_hold 37 = .ok (.getfield 7, 3) := by decide +kernel
theorem dX11_hold_40 : decode cX11_hold 40 = .ok (.invokevirtual 195, 3) := by decide +kernel
theorem dX11_hold_43 : decode cX11_hold 43 = .ok (.putfield 275, 3) := by decide +kernel
theorem dX11_hold_46 : decode cX11_hold 46 = .ok (.aload_n 1, 1) := by decide +kernel
theorem dX11_hold_47 : decode cX11_hold 47 = .ok (.aload_n 0, 1) := by decide +kernel
theorem dX11_hold_48 : decode cX11_hold 48 = .ok (.getfield 7, 3) := by decide +kernel
theorem dX11_hold_51 : decode cX11_hold 51 = .ok (.putfield 279, 3) := by decide +kernel
theorem dX11_hold_54 : decode cX11_hold 54 = .ok (.return_, 1) := by decide +kernel
theorem dX11_interestOf_0 : decode cX11_interestOf 0 = .ok (.aload_n 0, 1) := by decide +kernel
theorem dX11_interestOf_1 : decode cX11_interestOf 1 = .ok (.aload_n 1, 1) := by decide +kernel
theorem dX11_interestOf_2 : decode cX11_interestOf 2 = .ok (.getfield 272, 3) := by decide +kernel
theorem dX11_interestOf_5 : decode cX11_interestOf 5 = .ok (.invokevirtual 231, 3) := by decide +kernel
theorem dX11_interestOf_8 : decode cX11_interestOf 8 = .ok (.astore_n 2, 1) := by decide +kernel
theorem dX11_interestOf_9 : decode cX11_interestOf 9 = .ok (.aload_n 2, 1) := by decide +kernel
theorem dX11_interestOf_10 : decode cX11_interestOf 10 = .ok (.getfield 248, 3) := by decide +kernel
theorem dX11_interestOf_13 : decode cX11_interestOf 13 = .ok (.i2l, 1) := by decide +kernel
theorem dX11_interestOf_14 : decode cX11_interestOf 14 = .ok (.aload_n 0, 1) := by decide +kernel
theorem dX11_interestOf_15 : decode cX11_interestOf 15 = .ok (.getfield 7, 3) := by decide +kernel
theorem dX11_interestOf_18 : decode cX11_interestOf 18 = .ok (.aload_n 1, 1) := by decide +kernel
theorem dX11_interestOf_19 : decode cX11_interestOf 19 = .ok (.getfield 279, 3) := by decide +kernel
theorem dX11_interestOf_22 : decode cX11_interestOf 22 = .ok (.isub, 1) := by decide +kernel
theorem dX11_interestOf_23 : decode cX11_interestOf 23 = .ok (.aload_n 2, 1) := by decide +kernel
theorem dX11_interestOf_24 : decode cX11_interestOf 24 = .ok (.getfield 251, 3) := by decide +kernel
theorem dX11_interestOf_27 : decode cX11_interestOf 27 = .ok (.sipush 360, 3) := by decide +kernel
theorem dX11_interestOf_30 : decode cX11_interestOf 30 = .ok (.imul, 1) := by decide +kernel
theorem dX11_interestOf_31 : decode cX11_interestOf 31 = .ok (.invokestatic 306, 3) := by decide +kernel
theorem dX11_interestOf_34 : decode cX11_interestOf 34 = .ok (.i2l, 1) := by decide +kernel
theorem dX11_interestOf_35 : decode cX11_interestOf 35 = .ok (.lmul, 1) := by decide +kernel
theorem dX11_interestOf_36 : decode cX11_interestOf 36 = .ok (.lstore_n 3, 1) := by decide +kernel
theorem dX11_interestOf_37 : decode cX11_interestOf 37 = .ok (.aload_n 1, 1) := by decide +kernel
theorem dX11_interestOf_38 : decode cX11_interestOf 38 = .ok (.getfield 275, 3) := by decide +kernel
theorem dX11_interestOf_41 : decode cX11_interestOf 41 = .ok (.ldc2_w 311, 3) := by decide +kernel
theorem dX11_interestOf_44 : decode cX11_interestOf 44 = .ok (.ldiv, 1) := by decide +kernel
theorem dX11_interestOf_45 : decode cX11_interestOf 45 = .ok (.lload_n 3, 1) := by decide +kernel
theorem dX11_interestOf_46 : decode cX11_interestOf 46 = .ok (.lmul, 1) := by decide +kernel
theorem dX11_interestOf_47 : decode cX11_interestOf 47 = .ok (.aload_n 1, 1) := by decide +kernel
theorem dX11_interestOf_48 : decode cX11_interestOf 48 = .ok (.getfield 275, 3) := by decide +kernel
theorem dX11_interestOf_51 : decode cX11_interestOf 51 = .ok (.ldc2_w 311, 3) := by decide +kernel
theorem dX11_interestOf_54 : decode cX11_interestOf 54 = .ok (.lrem, 1) := by decide +kernel
theorem dX11_interestOf_55 : decode cX11_interestOf 55 = .ok (.lload_n 3, 1) := by decide +kernel
theorem dX11_interestOf_56 : decode cX11_interestOf 56 = .ok (.lmul, 1) := by decide +kernel
theorem dX11_interestOf_57 : decode cX11_interestOf 57 = .ok (.ldc2_w 311, 3) := by decide +kernel
theorem dX11_interestOf_60 : decode cX11_interestOf 60 = .ok (.ldiv, 1) := by decide +kernel
theorem dX11_interestOf_61 : decode cX11_interestOf 61 = .ok (.ladd, 1) := by decide +kernel
theorem dX11_interestOf_62 : decode cX11_interestOf 62 = .ok (.lreturn, 1) := by decide +kernel
theorem dX11_paidOf_0 : decode cX11_paidOf 0 = .ok (.lconst 0, 1) := by decide +kernel
theorem dX11_paidOf_1 : decode cX11_paidOf 1 = .ok (.lstore_n 2, 1) := by decide +kernel
theorem dX11_paidOf_2 : decode cX11_paidOf 2 = .ok (.iconst 0, 1) := by decide +kernel
theorem dX11_paidOf_3 : decode cX11_paidOf 3 = .ok (.istore 4, 2) := by decide +kernel
theorem dX11_paidOf_5 : decode cX11_paidOf 5 = .ok (.iload 4, 2) := by decide +kernel
theorem dX11_paidOf_7 : decode cX11_paidOf 7 = .ok (.aload_n 0, 1) := by decide +kernel
theorem dX11_paidOf_8 : decode cX11_paidOf 8 = .ok (.getfield 26, 3) := by decide +kernel
theorem dX11_paidOf_11 : decode cX11_paidOf 11 = .ok (.invokevirtual 87, 3) := by decide +kernel
theorem dX11_paidOf_14 : decode cX11_paidOf 14 = .ok (.if_icmp .ge 49, 3) := by decide +kernel
theorem dX11_paidOf_17 : decode cX11_paidOf 17 = .ok (.aload_n 0, 1) := by decide +kernel
theorem dX11_paidOf_18 : decode cX11_paidOf 18 = .ok (.getfield 26, 3) := by decide +kernel
theorem dX11_paidOf_21 : decode cX11_paidOf 21 = .ok (.iload 4, 2) := by decide +kernel
theorem dX11_paidOf_23 : decode cX11_paidOf 23 = .ok (.invokevirtual 129, 3) := by decide +kernel
theorem dX11_paidOf_26 : decode cX11_paidOf 26 = .ok (.checkcast 313, 3) := by decide +kernel
theorem dX11_paidOf_29 : decode cX11_paidOf 29 = .ok (.astore 5, 2) := by decide +kernel
theorem dX11_paidOf_31 : decode cX11_paidOf 31 = .ok (.aload 5, 2) := by decide +kernel
theorem dX11_paidOf_33 : decode cX11_paidOf 33 = .ok (.getfield 315, 3) := by decide +kernel
theorem dX11_paidOf_36 : decode cX11_paidOf 36 = .ok (.aload_n 1, 1) := by decide +kernel
theorem dX11_paidOf_37 : decode cX11_paidOf 37 = .ok (.if_acmp .ne 20, 3) := by decide +kernel
theorem dX11_paidOf_40 : decode cX11_paidOf 40 = .ok (.aload 5, 2) := by decide +kernel
theorem dX11_paidOf_42 : decode cX11_paidOf 42 = .ok (.getfield 319, 3) := by decide +kernel
theorem dX11_paidOf_45 : decode cX11_paidOf 45 = .ok (.iconst 1, 1) := by decide +kernel
theorem dX11_paidOf_46 : decode cX11_paidOf 46 = .ok (.if_icmp .ne 11, 3) := by decide +kernel
theorem dX11_paidOf_49 : decode cX11_paidOf 49 = .ok (.lload_n 2, 1) := by decide +kernel
theorem dX11_paidOf_50 : decode cX11_paidOf 50 = .ok (.aload 5, 2) := by decide +kernel
theorem dX11_paidOf_52 : decode cX11_paidOf 52 = .ok (.getfield 322, 3) := by decide +kernel
theorem dX11_paidOf_55 : decode cX11_paidOf 55 = .ok (.ladd, 1) := by decide +kernel
theorem dX11_paidOf_56 : decode cX11_paidOf 56 = .ok (.lstore_n 2, 1) := by decide +kernel
theorem dX11_paidOf_57 : decode cX11_paidOf 57 = .ok (.iinc 4 1, 3) := by decide +kernel
theorem dX11_paidOf_60 : decode cX11_paidOf 60 = .ok (.goto (-55), 3) := by decide +kernel
theorem dX11_paidOf_63 : decode cX11_paidOf 63 = .ok (.lload_n 2, 1) := by decide +kernel
theorem dX11_paidOf_64 : decode cX11_paidOf 64 = .ok (.lreturn, 1) := by decide +kernel
theorem dX11_points_0 : decode cX11_points 0 = .ok (.aload_n 0, 1) := by decide +kernel
theorem dX11_points_1 : decode cX11_points 1 = .ok (.iload_n 1, 1) := by decide +kernel
theorem dX11_points_2 : decode cX11_points 2 = .ok (.invokevirtual 133, 3) := by decide +kernel
theorem dX11_points_5 : decode cX11_points 5 = .ok (.astore_n 3, 1) := by decide +kernel
theorem dX11_points_6 : decode cX11_points 6 = .ok (.aload_n 0, 1) := by decide +kernel
theorem dX11_points_7 : decode cX11_points 7 = .ok (.iload_n 2, 1) := by decide +kernel
theorem dX11_points_8 : decode cX11_points 8 = .ok (.invokevirtual 133, 3) := by decide +kernel
theorem dX11_points_11 : decode cX11_points 11 = .ok (.astore 4, 2) := by decide +kernel
theorem dX11_points_13 : decode cX11_points 13 = .ok (.aload_n 3, 1) := by decide +kernel
theorem dX11_points_14 : decode cX11_points 14 = .ok (.ifnull 14, 3) := by decide +kernel
theorem dX11_points_17 : decode cX11_points 17 = .ok (.aload 4, 2) := by decide +kernel
theorem dX11_points_19 : decode cX11_points 19 = .ok (.ifnull 9, 3) := by decide +kernel
theorem dX11_points_22 : decode cX11_points 22 = .ok (.aload_n 3, 1) := by decide +kernel
theorem dX11_points_23 : decode cX11_points 23 = .ok (.aload 4, 2) := by decide +kernel
theorem dX11_points_25 : decode cX11_points 25 = .ok (.if_acmp .ne 6, 3) := by decide +kernel
theorem dX11_points_28 : decode cX11_points 28 = .ok (.bipush (-2), 2) := by decide +kernel
theorem dX11_points_30 : decode cX11_points 30 = .ok (.ireturn, 1) := by decide +kernel
theorem dX11_points_31 : decode cX11_points 31 = .ok (.aload_n 3, 1) := by decide +kernel
theorem dX11_points_32 : decode cX11_points 32 = .ok (.aload 4, 2) := by decide +kernel
theorem dX11_points_34 : decode cX11_points 34 = .ok (.invokevirtual 325, 3) := by decide +kernel
theorem dX11_points_37 : decode cX11_points 37 = .ok (.ifCond .eq 7, 3) := by decide +kernel
theorem dX11_points_40 : decode cX11_points 40 = .ok (.iconst (-1), 1) := by decide +kernel
theorem dX11_points_41 : decode cX11_points 41 = .ok (.goto 9, 3) := by decide +kernel
theorem dX11_points_44 : decode cX11_points 44 = .ok (.aload_n 3, 1) := by decide +kernel
theorem dX11_points_45 : decode cX11_points 45 = .ok (.aload 4, 2) := by decide +kernel
theorem dX11_points_47 : decode cX11_points 47 = .ok (.invokevirtual 329, 3) := by decide +kernel
theorem dX11_points_50 : decode cX11_points 50 = .ok (.ireturn, 1) := by decide +kernel
theorem dX11_join_0 : decode cX11_join 0 = .ok (.iload_n 2, 1) := by decide +kernel
theorem dX11_join_1 : decode cX11_join 1 = .ok (.ifCond .lt 16, 3) := by decide +kernel
theorem dX11_join_4 : decode cX11_join 4 = .ok (.iload_n 2, 1) := by decide +kernel
theorem dX11_join_5 : decode cX11_join 5 = .ok (.iconst 1, 1) := by decide +kernel
theorem dX11_join_6 : decode cX11_join 6 = .ok (.if_icmp .gt 11, 3) := by decide +kernel
theorem dX11_join_9 : decode cX11_join 9 = .ok (.aload_n 0, 1) := by decide +kernel
theorem dX11_join_10 : decode cX11_join 10 = .ok (.iload_n 1, 1) := by decide +kernel
theorem dX11_join_11 : decode cX11_join 11 = .ok (.invokevirtual 333, 3) := by decide +kernel
theorem dX11_join_14 : decode cX11_join 14 = .ok (.ifCond .ne 7, 3) := by decide +kernel
theorem dX11_join_17 : decode cX11_join 17 = .ok (.sipush (-10000), 3) := by decide +kernel
theorem dX11_join_20 : decode cX11_join 20 = .ok (.ireturn, 1) := by decide +kernel
theorem dX11_join_21 : decode cX11_join 21 = .ok (.iload_n 2, 1) := by decide +kernel
theorem dX11_join_22 : decode cX11_join 22 = .ok (.ifCond .ne 13, 3) := by decide +kernel
theorem dX11_join_25 : decode cX11_join 25 = .ok (.aload_n 0, 1) := by decide +kernel
theorem dX11_join_26 : decode cX11_join 26 = .ok (.getfield 68, 3) := by decide +kernel
theorem dX11_join_29 : decode cX11_join 29 = .ok (.invokevirtual 336, 3) := by decide +kernel
theorem dX11_join_32 : decode cX11_join 32 = .ok (.goto 10, 3) := by decide +kernel
theorem dX11_join_35 : decode cX11_join 35 = .ok (.aload_n 0, 1) := by decide +kernel
theorem dX11_join_36 : decode cX11_join 36 = .ok (.getfield 68, 3) := by decide +kernel
theorem dX11_join_39 : decode cX11_join 39 = .ok (.invokevirtual 339, 3) := by decide +kernel
theorem dX11_join_42 : decode cX11_join 42 = .ok (.ireturn, 1) := by decide +kernel
theorem dX11_joined_0 : decode cX11_joined 0 = .ok (.aload_n 0, 1) := by decide +kernel
theorem dX11_joined_1 : decode cX11_joined 1 = .ok (.iload_n 2, 1) := by decide +kernel
theorem dX11_joined_2 : decode cX11_joined 2 = .ok (.invokevirtual 133, 3) := by decide +kernel
theorem dX11_joined_5 : decode cX11_joined 5 = .ok (.astore 4, 2) := by decide +kernel
theorem dX11_joined_7 : decode cX11_joined 7 = .ok (.aload_n 0, 1) := by decide +kernel
theorem dX11_joined_8 : decode cX11_joined 8 = .ok (.iload_n 3, 1) := by decide +kernel
theorem dX11_joined_9 : decode cX11_joined 9 = .ok (.invokevirtual 133, 3) := by decide +kernel
theorem dX11_joined_12 : decode cX11_joined 12 = .ok (.astore 5, 2) := by decide +kernel
theorem dX11_joined_14 : decode cX11_joined 14 = .ok (.aload 4, 2) := by decide +kernel
theorem dX11_joined_16 : decode cX11_joined 16 = .ok (.ifnull 23, 3) := by decide +kernel
theorem dX11_joined_19 : decode cX11_joined 19 = .ok (.aload 5, 2) := by decide +kernel
theorem dX11_joined_21 : decode cX11_joined 21 = .ok (.ifnull 18, 3) := by decide +kernel
theorem dX11_joined_24 : decode cX11_joined 24 = .ok (.aload 4, 2) := by decide +kernel
theorem dX11_joined_26 : decode cX11_joined 26 = .ok (.aload 5, 2) := by decide +kernel
theorem dX11_joined_28 : decode cX11_joined 28 = .ok (.if_acmp .eq 11, 3) := by decide +kernel
theorem dX11_joined_31 : decode cX11_joined 31 = .ok (.aload_n 0, 1) := by decide +kernel
theorem dX11_joined_32 : decode cX11_joined 32 = .ok (.iload_n 1, 1) := by decide +kernel
theorem dX11_joined_33 : decode cX11_joined 33 = .ok (.invokevirtual 333, 3) := by decide +kernel
theorem dX11_joined_36 : decode cX11_joined 36 = .ok (.ifCond .ne 5, 3) := by decide +kernel
theorem dX11_joined_39 : decode cX11_joined 39 = .ok (.iconst (-1), 1) := by decide +kernel
theorem dX11_joined_40 : decode cX11_joined 40 = .ok (.ireturn, 1) := by decide +kernel
theorem dX11_joined_41 : decode cX11_joined 41 = .ok (.aload_n 0, 1) := by decide +kernel
theorem dX11_joined_42 : decode cX11_joined 42 = .ok (.getfield 68, 3) := by decide +kernel
theorem dX11_joined_45 : decode cX11_joined 45 = .ok (.aload 4, 2) := by decide +kernel
theorem dX11_joined_47 : decode cX11_joined 47 = .ok (.invokevirtual 342, 3) := by decide +kernel
theorem dX11_joined_50 : decode cX11_joined 50 = .ok (.aload_n 0, 1) := by decide +kernel
theorem dX11_joined_51 : decode cX11_joined 51 = .ok (.getfield 68, 3) := by decide +kernel
theorem dX11_joined_54 : decode cX11_joined 54 = .ok (.aload 5, 2) := by decide +kernel
theorem dX11_joined_56 : decode cX11_joined 56 = .ok (.invokevirtual 342, 3) := by decide +kernel
theorem dX11_joined_59 : decode cX11_joined 59 = .ok (.ior, 1) := by decide +kernel
theorem dX11_joined_60 : decode cX11_joined 60 = .ok (.istore 6, 2) := by decide +kernel
theorem dX11_joined_62 : decode cX11_joined 62 = .ok (.iload 6, 2) := by decide +kernel
theorem dX11_joined_64 : decode cX11_joined 64 = .ok (.invokestatic 345, 3) := by decide +kernel
theorem dX11_joined_67 : decode cX11_joined 67 = .ok (.iconst 2, 1) := by decide +kernel
theorem dX11_joined_68 : decode cX11_joined 68 = .ok (.if_icmp .eq 5, 3) := by decide +kernel
theorem dX11_joined_71 : decode cX11_joined 71 = .ok (.iconst (-1), 1) := by decide +kernel
theorem dX11_joined_72 : decode cX11_joined 72 = .ok (.ireturn, 1) := by decide +kernel
theorem dX11_joined_73 : decode cX11_joined 73 = .ok (.aload_n 0, 1) := by decide +kernel
theorem dX11_joined_74 : decode cX11_joined 74 = .ok (.getfield 68, 3) := by decide +kernel
theorem dX11_joined_77 : decode cX11_joined 77 = .ok (.iload 6, 2) := by decide +kernel
theorem dX11_joined_79 : decode cX11_joined 79 = .ok (.invokevirtual 350, 3) := by decide +kernel
theorem dX11_joined_82 : decode cX11_joined 82 = .ok (.istore 7, 2) := by decide +kernel
theorem dX11_joined_84 : decode cX11_joined 84 = .ok (.iload 7, 2) := by decide +kernel
theorem dX11_joined_86 : decode cX11_joined 86 = .ok (.ifCond .ne 5, 3) := by decide +kernel
theorem dX11_joined_89 : decode cX11_joined 89 = .ok (.iconst 0, 1) := by decide +kernel
theorem dX11_joined_90 : decode cX11_joined 90 = .ok (.ireturn, 1) := by decide +kernel
theorem dX11_joined_91 : decode cX11_joined 91 = .ok (.iload 7, 2) := by decide +kernel
theorem dX11_joined_93 : decode cX11_joined 93 = .ok (.aload_n 0, 1) := by decide +kernel
theorem dX11_joined_94 : decode cX11_joined 94 = .ok (.getfield 68, 3) := by decide +kernel
theorem dX11_joined_97 : decode cX11_joined 97 = .ok (.invokevirtual 339, 3) := by decide +kernel
theorem dX11_joined_100 : decode cX11_joined 100 = .ok (.if_icmp .ne 7, 3) := by decide +kernel
theorem dX11_joined_103 : decode cX11_joined 103 = .ok (.iconst 2, 1) := by decide +kernel
theorem dX11_joined_104 : decode cX11_joined 104 = .ok (.goto 4, 3) := by decide +kernel
theorem dX11_joined_107 : decode cX11_joined 107 = .ok (.iconst 1, 1) := by decide +kernel
theorem dX11_joined_108 : decode cX11_joined 108 = .ok (.ireturn, 1) := by decide +kernel
theorem dX11_gather_0 : decode cX11_gather 0 = .ok (.aload_n 0, 1) := by decide +kernel
theorem dX11_gather_1 : decode cX11_gather 1 = .ok (.getfield 68, 3) := by decide +kernel
theorem dX11_gather_4 : decode cX11_gather 4 = .ok (.invokevirtual 353, 3) := by decide +kernel
theorem dX11_gather_7 : decode cX11_gather 7 = .ok (.iload_n 1, 1) := by decide +kernel
theorem dX11_gather_8 : decode cX11_gather 8 = .ok (.ifCond .le 10, 3) := by decide +kernel
theorem dX11_gather_11 : decode cX11_gather 11 = .ok (.iload_n 1, 1) := by decide +kernel
theorem dX11_gather_12 : decode cX11_gather 12 = .ok (.bipush 24, 2) := by decide +kernel
theorem dX11_gather_14 : decode cX11_gather 14 = .ok (.ishr, 1) := by decide +kernel
theorem dX11_gather_15 : decode cX11_gather 15 = .ok (.ifCond .eq 5, 3) := by decide +kernel
theorem dX11_gather_18 : decode cX11_gather 18 = .ok (.iconst 0, 1) := by decide +kernel
theorem dX11_gather_19 : decode cX11_gather 19 = .ok (.ireturn, 1) := by decide +kernel
theorem dX11_gather_20 : decode cX11_gather 20 = .ok (.iconst 0, 1) := by decide +kernel
theorem dX11_gather_21 : decode cX11_gather 21 = .ok (.istore_n 2, 1) := by decide +kernel
theorem dX11_gather_22 : decode cX11_gather 22 = .ok (.iload_n 2, 1) := by decide +kernel
theorem dX11_gather_23 : decode cX11_gather 23 = .ok (.bipush 24, 2) := by decide +kernel
theorem dX11_gather_25 : decode cX11_gather 25 = .ok (.if_icmp .ge 41, 3) := by decide +kernel
theorem dX11_gather_28 : decode cX11_gather 28 = .ok (.iload_n 1, 1) := by decide +kernel
theorem dX11_gather_29 : decode cX11_gather 29 = .ok (.iload_n 2, 1) := by decide +kernel
theorem dX11_gather_30 : decode cX11_gather 30 = .ok (.ishr, 1) := by decide +kernel
