theorem dX7_apart_5 : decode cX7_apart 5 = .ok (.istore_n 2, 1) := by decide +kernel
theorem dX7_apart_6 : decode cX7_apart 6 = .ok (.iload_n 2, 1) := by decide +kernel
theorem dX7_apart_7 : decode cX7_apart 7 = .ok (.ifCond .ge 5, 3) := by decide +kernel
theorem dX7_apart_10 : decode cX7_apart 10 = .ok (.iload_n 2, 1) := by decide +kernel
theorem dX7_apart_11 : decode cX7_apart 11 = .ok (.ireturn, 1) := by decide +kernel
theorem dX7_apart_12 : decode cX7_apart 12 = .ok (.bipush (-9), 2) := by decide +kernel
theorem dX7_apart_14 : decode cX7_apart 14 = .ok (.istore_n 3, 1) := by decide +kernel
theorem dX7_apart_15 : decode cX7_apart 15 = .ok (.iconst 0, 1) := by decide +kernel
theorem dX7_apart_16 : decode cX7_apart 16 = .ok (.istore 4, 2) := by decide +kernel
theorem dX7_apart_18 : decode cX7_apart 18 = .ok (.iload 4, 2) := by decide +kernel
theorem dX7_apart_20 : decode cX7_apart 20 = .ok (.aload_n 0, 1) := by decide +kernel
theorem dX7_apart_21 : decode cX7_apart 21 = .ok (.getfield 17, 3) := by decide +kernel
theorem dX7_apart_24 : decode cX7_apart 24 = .ok (.iload_n 1, 1) := by decide +kernel
theorem dX7_apart_25 : decode cX7_apart 25 = .ok (.iaload, 1) := by decide +kernel
theorem dX7_apart_26 : decode cX7_apart 26 = .ok (.if_icmp .ge 62, 3) := by decide +kernel
theorem dX7_apart_29 : decode cX7_apart 29 = .ok (.iconst 0, 1) := by decide +kernel
theorem dX7_apart_30 : decode cX7_apart 30 = .ok (.istore 5, 2) := by decide +kernel
theorem dX7_apart_32 : decode cX7_apart 32 = .ok (.iload 5, 2) := by decide +kernel
theorem dX7_apart_34 : decode cX7_apart 34 = .ok (.iload 4, 2) := by decide +kernel
theorem dX7_apart_36 : decode cX7_apart 36 = .ok (.if_icmp .ge 46, 3) := by decide +kernel
theorem dX7_apart_39 : decode cX7_apart 39 = .ok (.aload_n 0, 1) := by decide +kernel
theorem dX7_apart_40 : decode cX7_apart 40 = .ok (.iload_n 1, 1) := by decide +kernel
theorem dX7_apart_41 : decode cX7_apart 41 = .ok (.iload 4, 2) := by decide +kernel
theorem dX7_apart_43 : decode cX7_apart 43 = .ok (.invokevirtual 110, 3) := by decide +kernel
theorem dX7_apart_46 : decode cX7_apart 46 = .ok (.aload_n 0, 1) := by decide +kernel
theorem dX7_apart_47 : decode cX7_apart 47 = .ok (.iload_n 1, 1) := by decide +kernel
theorem dX7_apart_48 : decode cX7_apart 48 = .ok (.iload 5, 2) := by decide +kernel
theorem dX7_apart_50 : decode cX7_apart 50 = .ok (.invokevirtual 110, 3) := by decide +kernel
theorem dX7_apart_53 : decode cX7_apart 53 = .ok (.ixor, 1) := by decide +kernel
theorem dX7_apart_54 : decode cX7_apart 54 = .ok (.invokestatic 203, 3) := by decide +kernel
theorem dX7_apart_57 : decode cX7_apart 57 = .ok (.istore 6, 2) := by decide +kernel
theorem dX7_apart_59 : decode cX7_apart 59 = .ok (.iload_n 3, 1) := by decide +kernel
theorem dX7_apart_60 : decode cX7_apart 60 = .ok (.ifCond .lt 9, 3) := by decide +kernel
theorem dX7_apart_63 : decode cX7_apart 63 = .ok (.iload 6, 2) := by decide +kernel
theorem dX7_apart_65 : decode cX7_apart 65 = .ok (.iload_n 3, 1) := by decide +kernel
theorem dX7_apart_66 : decode cX7_apart 66 = .ok (.if_icmp .ge 8, 3) := by decide +kernel
theorem dX7_apart_69 : decode cX7_apart 69 = .ok (.iload 6, 2) := by decide +kernel
theorem dX7_apart_71 : decode cX7_apart 71 = .ok (.goto 4, 3) := by decide +kernel
theorem dX7_apart_74 : decode cX7_apart 74 = .ok (.iload_n 3, 1) := by decide +kernel
theorem dX7_apart_75 : decode cX7_apart 75 = .ok (.istore_n 3, 1) := by decide +kernel
theorem dX7_apart_76 : decode cX7_apart 76 = .ok (.iinc 5 1, 3) := by decide +kernel
theorem dX7_apart_79 : decode cX7_apart 79 = .ok (.goto (-47), 3) := by decide +kernel
theorem dX7_apart_82 : decode cX7_apart 82 = .ok (.iinc 4 1, 3) := by decide +kernel
theorem dX7_apart_85 : decode cX7_apart 85 = .ok (.goto (-67), 3) := by decide +kernel
theorem dX7_apart_88 : decode cX7_apart 88 = .ok (.iload_n 3, 1) := by decide +kernel
theorem dX7_apart_89 : decode cX7_apart 89 = .ok (.ireturn, 1) := by decide +kernel
theorem dX7_askedCounts_0 : decode cX7_askedCounts 0 = .ok (.iconst 0, 1) := by decide +kernel
theorem dX7_askedCounts_1 : decode cX7_askedCounts 1 = .ok (.istore_n 2, 1) := by decide +kernel
theorem dX7_askedCounts_2 : decode cX7_askedCounts 2 = .ok (.iconst 1, 1) := by decide +kernel
theorem dX7_askedCounts_3 : decode cX7_askedCounts 3 = .ok (.istore_n 3, 1) := by decide +kernel
theorem dX7_askedCounts_4 : decode cX7_askedCounts 4 = .ok (.iconst 0, 1) := by decide +kernel
theorem dX7_askedCounts_5 : decode cX7_askedCounts 5 = .ok (.istore 4, 2) := by decide +kernel
theorem dX7_askedCounts_7 : decode cX7_askedCounts 7 = .ok (.iload 4, 2) := by decide +kernel
theorem dX7_askedCounts_9 : decode cX7_askedCounts 9 = .ok (.bipush 8, 2) := by decide +kernel
theorem dX7_askedCounts_11 : decode cX7_askedCounts 11 = .ok (.if_icmp .ge 54, 3) := by decide +kernel
theorem dX7_askedCounts_14 : decode cX7_askedCounts 14 = .ok (.iload_n 3, 1) := by decide +kernel
theorem dX7_askedCounts_15 : decode cX7_askedCounts 15 = .ok (.ifCond .eq 24, 3) := by decide +kernel
theorem dX7_askedCounts_18 : decode cX7_askedCounts 18 = .ok (.aload_n 0, 1) := by decide +kernel
theorem dX7_askedCounts_19 : decode cX7_askedCounts 19 = .ok (.iload_n 1, 1) := by decide +kernel
theorem dX7_askedCounts_20 : decode cX7_askedCounts 20 = .ok (.iload 4, 2) := by decide +kernel
theorem dX7_askedCounts_22 : decode cX7_askedCounts 22 = .ok (.invokevirtual 110, 3) := by decide +kernel
theorem dX7_askedCounts_25 : decode cX7_askedCounts 25 = .ok (.iconst 0, 1) := by decide +kernel
theorem dX7_askedCounts_26 : decode cX7_askedCounts 26 = .ok (.sipush 999, 3) := by decide +kernel
theorem dX7_askedCounts_29 : decode cX7_askedCounts 29 = .ok (.invokestatic 92, 3) := by decide +kernel
theorem dX7_askedCounts_32 : decode cX7_askedCounts 32 = .ok (.ifCond .eq 7, 3) := by decide +kernel
theorem dX7_askedCounts_35 : decode cX7_askedCounts 35 = .ok (.iconst 1, 1) := by decide +kernel
theorem dX7_askedCounts_36 : decode cX7_askedCounts 36 = .ok (.goto 4, 3) := by decide +kernel
theorem dX7_askedCounts_39 : decode cX7_askedCounts 39 = .ok (.iconst 0, 1) := by decide +kernel
theorem dX7_askedCounts_40 : decode cX7_askedCounts 40 = .ok (.istore_n 3, 1) := by decide +kernel
theorem dX7_askedCounts_41 : decode cX7_askedCounts 41 = .ok (.iload_n 2, 1) := by decide +kernel
theorem dX7_askedCounts_42 : decode cX7_askedCounts 42 = .ok (.iload_n 3, 1) := by decide +kernel
theorem dX7_askedCounts_43 : decode cX7_askedCounts 43 = .ok (.ifCond .eq 13, 3) := by decide +kernel
theorem dX7_askedCounts_46 : decode cX7_askedCounts 46 = .ok (.aload_n 0, 1) := by decide +kernel
theorem dX7_askedCounts_47 : decode cX7_askedCounts 47 = .ok (.iload_n 1, 1) := by decide +kernel
theorem dX7_askedCounts_48 : decode cX7_askedCounts 48 = .ok (.iload 4, 2) := by decide +kernel
theorem dX7_askedCounts_50 : decode cX7_askedCounts 50 = .ok (.invokevirtual 110, 3) := by decide +kernel
theorem dX7_askedCounts_53 : decode cX7_askedCounts 53 = .ok (.goto 4, 3) := by decide +kernel
theorem dX7_askedCounts_56 : decode cX7_askedCounts 56 = .ok (.iconst 0, 1) := by decide +kernel
theorem dX7_askedCounts_57 : decode cX7_askedCounts 57 = .ok (.iadd, 1) := by decide +kernel
theorem dX7_askedCounts_58 : decode cX7_askedCounts 58 = .ok (.istore_n 2, 1) := by decide +kernel
theorem dX7_askedCounts_59 : decode cX7_askedCounts 59 = .ok (.iinc 4 1, 3) := by decide +kernel
theorem dX7_askedCounts_62 : decode cX7_askedCounts 62 = .ok (.goto (-55), 3) := by decide +kernel
theorem dX7_askedCounts_65 : decode cX7_askedCounts 65 = .ok (.iload_n 3, 1) := by decide +kernel
theorem dX7_askedCounts_66 : decode cX7_askedCounts 66 = .ok (.ifCond .ne 11, 3) := by decide +kernel
theorem dX7_askedCounts_69 : decode cX7_askedCounts 69 = .ok (.aload_n 0, 1) := by decide +kernel
theorem dX7_askedCounts_70 : decode cX7_askedCounts 70 = .ok (.iconst 3, 1) := by decide +kernel
theorem dX7_askedCounts_71 : decode cX7_askedCounts 71 = .ok (.invokevirtual 100, 3) := by decide +kernel
theorem dX7_askedCounts_74 : decode cX7_askedCounts 74 = .ok (.goto 4, 3) := by decide +kernel
theorem dX7_askedCounts_77 : decode cX7_askedCounts 77 = .ok (.iload_n 2, 1) := by decide +kernel
theorem dX7_askedCounts_78 : decode cX7_askedCounts 78 = .ok (.ireturn, 1) := by decide +kernel
theorem dX7_setCounted_0 : decode cX7_setCounted 0 = .ok (.iconst 0, 1) := by decide +kernel
theorem dX7_setCounted_1 : decode cX7_setCounted 1 = .ok (.istore_n 2, 1) := by decide +kernel
theorem dX7_setCounted_2 : decode cX7_setCounted 2 = .ok (.iload_n 2, 1) := by decide +kernel
theorem dX7_setCounted_3 : decode cX7_setCounted 3 = .ok (.bipush 8, 2) := by decide +kernel
theorem dX7_setCounted_5 : decode cX7_setCounted 5 = .ok (.if_icmp .ge 16, 3) := by decide +kernel
theorem dX7_setCounted_8 : decode cX7_setCounted 8 = .ok (.aload_n 0, 1) := by decide +kernel
theorem dX7_setCounted_9 : decode cX7_setCounted 9 = .ok (.getfield 79, 3) := by decide +kernel
theorem dX7_setCounted_12 : decode cX7_setCounted 12 = .ok (.iload_n 2, 1) := by decide +kernel
theorem dX7_setCounted_13 : decode cX7_setCounted 13 = .ok (.iconst 0, 1) := by decide +kernel
theorem dX7_setCounted_14 : decode cX7_setCounted 14 = .ok (.iastore, 1) := by decide +kernel
theorem dX7_setCounted_15 : decode cX7_setCounted 15 = .ok (.iinc 2 1, 3) := by decide +kernel
theorem dX7_setCounted_18 : decode cX7_setCounted 18 = .ok (.goto (-16), 3) := by decide +kernel
theorem dX7_setCounted_21 : decode cX7_setCounted 21 = .ok (.iconst 0, 1) := by decide +kernel
theorem dX7_setCounted_22 : decode cX7_setCounted 22 = .ok (.istore_n 2, 1) := by decide +kernel
theorem dX7_setCounted_23 : decode cX7_setCounted 23 = .ok (.iload_n 2, 1) := by decide +kernel
theorem dX7_setCounted_24 : decode cX7_setCounted 24 = .ok (.aload_n 0, 1) := by decide +kernel
theorem dX7_setCounted_25 : decode cX7_setCounted 25 = .ok (.getfield 32, 3) := by decide +kernel
theorem dX7_setCounted_28 : decode cX7_setCounted 28 = .ok (.iload_n 1, 1) := by decide +kernel
theorem dX7_setCounted_29 : decode cX7_setCounted 29 = .ok (.iaload, 1) := by decide +kernel
theorem dX7_setCounted_30 : decode cX7_setCounted 30 = .ok (.if_icmp .ge 27, 3) := by decide +kernel
theorem dX7_setCounted_33 : decode cX7_setCounted 33 = .ok (.aload_n 0, 1) := by decide +kernel
theorem dX7_setCounted_34 : decode cX7_setCounted 34 = .ok (.getfield 79, 3) := by decide +kernel
theorem dX7_setCounted_37 : decode cX7_setCounted 37 = .ok (.aload_n 0, 1) := by decide +kernel
theorem dX7_setCounted_38 : decode cX7_setCounted 38 = .ok (.iload_n 1, 1) := by decide +kernel
theorem dX7_setCounted_39 : decode cX7_setCounted 39 = .ok (.iload_n 2, 1) := by decide +kernel
theorem dX7_setCounted_40 : decode cX7_setCounted 40 = .ok (.invokevirtual 147, 3) := by decide +kernel
theorem dX7_setCounted_43 : decode cX7_setCounted 43 = .ok (.bipush 8, 2) := by decide +kernel
theorem dX7_setCounted_45 : decode cX7_setCounted 45 = .ok (.irem, 1) := by decide +kernel
theorem dX7_setCounted_46 : decode cX7_setCounted 46 = .ok (.dup2, 1) := by decide +kernel
theorem dX7_setCounted_47 : decode cX7_setCounted 47 = .ok (.iaload, 1) := by decide +kernel
theorem dX7_setCounted_48 : decode cX7_setCounted 48 = .ok (.iconst 1, 1) := by decide +kernel
theorem dX7_setCounted_49 : decode cX7_setCounted 49 = .ok (.iadd, 1) := by decide +kernel
theorem dX7_setCounted_50 : decode cX7_setCounted 50 = .ok (.iastore, 1) := by decide +kernel
theorem dX7_setCounted_51 : decode cX7_setCounted 51 = .ok (.iinc 2 1, 3) := by decide +kernel
theorem dX7_setCounted_54 : decode cX7_setCounted 54 = .ok (.goto (-31), 3) := by decide +kernel
theorem dX7_setCounted_57 : decode cX7_setCounted 57 = .ok (.return_, 1) := by decide +kernel
theorem dX7_howFar_0 : decode cX7_howFar 0 = .ok (.iload_n 1, 1) := by decide +kernel
theorem dX7_howFar_1 : decode cX7_howFar 1 = .ok (.invokestatic 123, 3) := by decide +kernel
theorem dX7_howFar_4 : decode cX7_howFar 4 = .ok (.ifCond .eq 10, 3) := by decide +kernel
theorem dX7_howFar_7 : decode cX7_howFar 7 = .ok (.iload_n 2, 1) := by decide +kernel
theorem dX7_howFar_8 : decode cX7_howFar 8 = .ok (.invokestatic 96, 3) := by decide +kernel
theorem dX7_howFar_11 : decode cX7_howFar 11 = .ok (.ifCond .ne 5, 3) := by decide +kernel
theorem dX7_howFar_14 : decode cX7_howFar 14 = .ok (.iconst (-1), 1) := by decide +kernel
theorem dX7_howFar_15 : decode cX7_howFar 15 = .ok (.ireturn, 1) := by decide +kernel
theorem dX7_howFar_16 : decode cX7_howFar 16 = .ok (.aload_n 0, 1) := by decide +kernel
theorem dX7_howFar_17 : decode cX7_howFar 17 = .ok (.getfield 32, 3) := by decide +kernel
theorem dX7_howFar_20 : decode cX7_howFar 20 = .ok (.iload_n 1, 1) := by decide +kernel
theorem dX7_howFar_21 : decode cX7_howFar 21 = .ok (.iaload, 1) := by decide +kernel
theorem dX7_howFar_22 : decode cX7_howFar 22 = .ok (.ifCond .eq 12, 3) := by decide +kernel
theorem dX7_howFar_25 : decode cX7_howFar 25 = .ok (.aload_n 0, 1) := by decide +kernel
theorem dX7_howFar_26 : decode cX7_howFar 26 = .ok (.getfield 17, 3) := by decide +kernel
theorem dX7_howFar_29 : decode cX7_howFar 29 = .ok (.iload_n 2, 1) := by decide +kernel
theorem dX7_howFar_30 : decode cX7_howFar 30 = .ok (.iaload, 1) := by decide +kernel
theorem dX7_howFar_31 : decode cX7_howFar 31 = .ok (.ifCond .ge 9, 3) := by decide +kernel
theorem dX7_howFar_34 : decode cX7_howFar 34 = .ok (.aload_n 0, 1) := by decide +kernel
theorem dX7_howFar_35 : decode cX7_howFar 35 = .ok (.iconst 1, 1) := by decide +kernel
theorem dX7_howFar_36 : decode cX7_howFar 36 = .ok (.invokevirtual 100, 3) := by decide +kernel
theorem dX7_howFar_39 : decode cX7_howFar 39 = .ok (.ireturn, 1) := by decide +kernel
theorem dX7_howFar_40 : decode cX7_howFar 40 = .ok (.aload_n 0, 1) := by decide +kernel
theorem dX7_howFar_41 : decode cX7_howFar 41 = .ok (.getfield 17, 3) := by decide +kernel
theorem dX7_howFar_44 : decode cX7_howFar 44 = .ok (.iload_n 2, 1) := by decide +kernel
theorem dX7_howFar_45 : decode cX7_howFar 45 = .ok (.iaload, 1) := by decide +kernel
theorem dX7_howFar_46 : decode cX7_howFar 46 = .ok (.bipush 8, 2) := by decide +kernel
theorem dX7_howFar_48 : decode cX7_howFar 48 = .ok (.if_icmp .eq 9, 3) := by decide +kernel
theorem dX7_howFar_51 : decode cX7_howFar 51 = .ok (.aload_n 0, 1) := by decide +kernel
theorem dX7_howFar_52 : decode cX7_howFar 52 = .ok (.iconst 5, 1) := by decide +kernel
theorem dX7_howFar_53 : decode cX7_howFar 53 = .ok (.invokevirtual 100, 3) := by decide +kernel
theorem dX7_howFar_56 : decode cX7_howFar 56 = .ok (.ireturn, 1) := by decide +kernel
theorem dX7_howFar_57 : decode cX7_howFar 57 = .ok (.aload_n 0, 1) := by decide +kernel
theorem dX7_howFar_58 : decode cX7_howFar 58 = .ok (.iload_n 2, 1) := by decide +kernel
theorem dX7_howFar_59 : decode cX7_howFar 59 = .ok (.invokevirtual 253, 3) := by decide +kernel
theorem dX7_howFar_62 : decode cX7_howFar 62 = .ok (.istore_n 3, 1) := by decide +kernel
theorem dX7_howFar_63 : decode cX7_howFar 63 = .ok (.iload_n 3, 1) := by decide +kernel
theorem dX7_howFar_64 : decode cX7_howFar 64 = .ok (.ifCond .ge 5, 3) := by decide +kernel
theorem dX7_howFar_67 : decode cX7_howFar 67 = .ok (.iload_n 3, 1) := by decide +kernel
theorem dX7_howFar_68 : decode cX7_howFar 68 = .ok (.ireturn, 1) := by decide +kernel
theorem dX7_howFar_69 : decode cX7_howFar 69 = .ok (.iload_n 3, 1) := by decide +kernel
theorem dX7_howFar_70 : decode cX7_howFar 70 = .ok (.ifCond .ne 9, 3) := by decide +kernel
theorem dX7_howFar_73 : decode cX7_howFar 73 = .ok (.aload_n 0, 1) := by decide +kernel
theorem dX7_howFar_74 : decode cX7_howFar 74 = .ok (.iconst 4, 1) := by decide +kernel
theorem dX7_howFar_75 : decode cX7_howFar 75 = .ok (.invokevirtual 100, 3) := by decide +kernel
theorem dX7_howFar_78 : decode cX7_howFar 78 = .ok (.ireturn, 1) := by decide +kernel
theorem dX7_howFar_79 : decode cX7_howFar 79 = .ok (.aload_n 0, 1) := by decide +kernel
theorem dX7_howFar_80 : decode cX7_howFar 80 = .ok (.iload_n 1, 1) := by decide +kernel
theorem dX7_howFar_81 : decode cX7_howFar 81 = .ok (.invokevirtual 256, 3) := by decide +kernel
theorem dX7_howFar_84 : decode cX7_howFar 84 = .ok (.iconst 0, 1) := by decide +kernel
theorem dX7_howFar_85 : decode cX7_howFar 85 = .ok (.istore 4, 2) := by decide +kernel
theorem dX7_howFar_87 : decode cX7_howFar 87 = .ok (.iconst 0, 1) := by decide +kernel
theorem dX7_howFar_88 : decode cX7_howFar 88 = .ok (.istore 5, 2) := by decide +kernel
theorem dX7_howFar_90 : decode cX7_howFar 90 = .ok (.iload 5, 2) := by decide +kernel
theorem dX7_howFar_92 : decode cX7_howFar 92 = .ok (.bipush 8, 2) := by decide +kernel
theorem dX7_howFar_94 : decode cX7_howFar 94 = .ok (.if_icmp .ge 41, 3) := by decide +kernel
theorem dX7_howFar_97 : decode cX7_howFar 97 = .ok (.iload 4, 2) := by decide +kernel
theorem dX7_howFar_99 : decode cX7_howFar 99 = .ok (.aload_n 0, 1) := by decide +kernel
theorem dX7_howFar_100 : decode cX7_howFar 100 = .ok (.getfield 79, 3) := by decide +kernel
theorem dX7_howFar_103 : decode cX7_howFar 103 = .ok (.iload 5, 2) := by decide +kernel
theorem dX7_howFar_105 : decode cX7_howFar 105 = .ok (.iaload, 1) := by decide +kernel
theorem dX7_howFar_106 : decode cX7_howFar 106 = .ok (.iload_n 3, 1) := by decide +kernel
theorem dX7_howFar_107 : decode cX7_howFar 107 = .ok (.imul, 1) := by decide +kernel
theorem dX7_howFar_108 : decode cX7_howFar 108 = .ok (.aload_n 0, 1) := by decide +kernel
theorem dX7_howFar_109 : decode cX7_howFar 109 = .ok (.iload_n 2, 1) := by decide +kernel
theorem dX7_howFar_110 : decode cX7_howFar 110 = .ok (.iload 5, 2) := by decide +kernel
theorem dX7_howFar_112 : decode cX7_howFar 112 = .ok (.invokevirtual 110, 3) := by decide +kernel
theorem dX7_howFar_115 : decode cX7_howFar 115 = .ok (.aload_n 0, 1) := by decide +kernel
theorem dX7_howFar_116 : decode cX7_howFar 116 = .ok (.getfield 32, 3) := by decide +kernel
theorem dX7_howFar_119 : decode cX7_howFar 119 = .ok (.iload_n 1, 1) := by decide +kernel
theorem dX7_howFar_120 : decode cX7_howFar 120 = .ok (.iaload, 1) := by decide +kernel
theorem dX7_howFar_121 : decode cX7_howFar 121 = .ok (.imul, 1) := by decide +kernel
theorem dX7_howFar_122 : decode cX7_howFar 122 = .ok (.isub, 1) := by decide +kernel
theorem dX7_howFar_123 : decode cX7_howFar 123 = .ok (.invokestatic 150, 3) := by decide +kernel
theorem dX7_howFar_126 : decode cX7_howFar 126 = .ok (.iadd, 1) := by decide +kernel
theorem dX7_howFar_127 : decode cX7_howFar 127 = .ok (.istore 4, 2) := by decide +kernel
theorem dX7_howFar_129 : decode cX7_howFar 129 = .ok (.iinc 5 1, 3) := by decide +kernel
theorem dX7_howFar_132 : decode cX7_howFar 132 = .ok (.goto (-42), 3) := by decide +kernel
theorem dX7_howFar_135 : decode cX7_howFar 135 = .ok (.aload_n 0, 1) := by decide +kernel
theorem dX7_howFar_136 : decode cX7_howFar 136 = .ok (.iload 4, 2) := by decide +kernel
theorem dX7_howFar_138 : decode cX7_howFar 138 = .ok (.i2l, 1) := by decide +kernel
theorem dX7_howFar_139 : decode cX7_howFar 139 = .ok (.ldc2_w 242, 3) := by decide +kernel
theorem dX7_howFar_142 : decode cX7_howFar 142 = .ok (.iload_n 3, 1) := by decide +kernel
theorem dX7_howFar_143 : decode cX7_howFar 143 = .ok (.i2l, 1) := by decide +kernel
theorem dX7_howFar_144 : decode cX7_howFar 144 = .ok (.lmul, 1) := by decide +kernel
theorem dX7_howFar_145 : decode cX7_howFar 145 = .ok (.aload_n 0, 1) := by decide +kernel
theorem dX7_howFar_146 : decode cX7_howFar 146 = .ok (.getfield 32, 3) := by decide +kernel
theorem dX7_howFar_149 : decode cX7_howFar 149 = .ok (.iload_n 1, 1) := by decide +kernel
theorem dX7_howFar_150 : decode cX7_howFar 150 = .ok (.iaload, 1) := by decide +kernel
theorem dX7_howFar_151 : decode cX7_howFar 151 = .ok (.i2l, 1) := by decide +kernel
theorem dX7_howFar_152 : decode cX7_howFar 152 = .ok (.lmul, 1) := by decide +kernel
theorem dX7_howFar_153 : decode cX7_howFar 153 = .ok (.iconst 1, 1) := by decide +kernel
theorem dX7_howFar_154 : decode cX7_howFar 154 = .ok (.invokevirtual 229, 3) := by decide +kernel
theorem dX7_howFar_157 : decode cX7_howFar 157 = .ok (.ireturn, 1) := by decide +kernel
theorem dX7_bestTest_0 : decode cX7_bestTest 0 = .ok (.iload_n 1, 1) := by decide +kernel
theorem dX7_bestTest_1 : decode cX7_bestTest 1 = .ok (.invokestatic 96, 3) := by decide +kernel
theorem dX7_bestTest_4 : decode cX7_bestTest 4 = .ok (.ifCond .eq 10, 3) := by decide +kernel
theorem dX7_bestTest_7 : decode cX7_bestTest 7 = .ok (.iload_n 2, 1) := by decide +kernel
theorem dX7_bestTest_8 : decode cX7_bestTest 8 = .ok (.invokestatic 96, 3) := by decide +kernel
theorem dX7_bestTest_11 : decode cX7_bestTest 11 = .ok (.ifCond .ne 5, 3) := by decide +kernel
theorem dX7_bestTest_14 : decode cX7_bestTest 14 = .ok (.iconst (-1), 1) := by decide +kernel
theorem dX7_bestTest_15 : decode cX7_bestTest 15 = .ok (.ireturn, 1) := by decide +kernel
theorem dX7_bestTest_16 : decode cX7_bestTest 16 = .ok (.aload_n 0, 1) := by decide +kernel
theorem dX7_bestTest_17 : decode cX7_bestTest 17 = .ok (.getfield 17, 3) := by decide +kernel
theorem dX7_bestTest_20 : decode cX7_bestTest 20 = .ok (.iload_n 1, 1) := by decide +kernel
theorem dX7_bestTest_21 : decode cX7_bestTest 21 = .ok (.iaload, 1) := by decide +kernel
theorem dX7_bestTest_22 : decode cX7_bestTest 22 = .ok (.ifCond .lt 12, 3) := by decide +kernel
theorem dX7_bestTest_25 : decode cX7_bestTest 25 = .ok (.aload_n 0, 1) := by decide +kernel
theorem dX7_bestTest_26 : decode cX7_bestTest 26 = .ok (.getfield 17, 3) := by decide +kernel
theorem dX7_bestTest_29 : decode cX7_bestTest 29 = .ok (.iload_n 2, 1) := by decide +kernel
theorem dX7_bestTest_30 : decode cX7_bestTest 30 = .ok (.iaload, 1) := by decide +kernel
theorem dX7_bestTest_31 : decode cX7_bestTest 31 = .ok (.ifCond .ge 9, 3) := by decide +kernel
theorem dX7_bestTest_34 : decode cX7_bestTest 34 = .ok (.aload_n 0, 1) := by decide +kernel
theorem dX7_bestTest_35 : decode cX7_bestTest 35 = .ok (.iconst 1, 1) := by decide +kernel
theorem dX7_bestTest_36 : decode cX7_bestTest 36 = .ok (.invokevirtual 100, 3) := by decide +kernel
theorem dX7_bestTest_39 : decode cX7_bestTest 39 = .ok (.ireturn, 1) := by decide +kernel
theorem dX7_bestTest_40 : decode cX7_bestTest 40 = .ok (.aload_n 0, 1) := by decide +kernel
theorem dX7_bestTest_41 : decode cX7_bestTest 41 = .ok (.getfield 17, 3) := by decide +kernel
theorem dX7_bestTest_44 : decode cX7_bestTest 44 = .ok (.iload_n 1, 1) := by decide +kernel
theorem dX7_bestTest_45 : decode cX7_bestTest 45 = .ok (.iaload, 1) := by decide +kernel
theorem dX7_bestTest_46 : decode cX7_bestTest 46 = .ok (.bipush 8, 2) := by decide +kernel
theorem dX7_bestTest_48 : decode cX7_bestTest 48 = .ok (.if_icmp .ne 14, 3) := by decide +kernel
theorem dX7_bestTest_51 : decode cX7_bestTest 51 = .ok (.aload_n 0, 1) := by decide +kernel
theorem dX7_bestTest_52 : decode cX7_bestTest 52 = .ok (.getfield 17, 3) := by decide +kernel
theorem dX7_bestTest_55 : decode cX7_bestTest 55 = .ok (.iload_n 2, 1) := by decide +kernel
theorem dX7_bestTest_56 : decode cX7_bestTest 56 = .ok (.iaload, 1) := by decide +kernel
theorem dX7_bestTest_57 : decode cX7_bestTest 57 = .ok (.bipush 8, 2) := by decide +kernel
theorem dX7_bestTest_59 : decode cX7_bestTest 59 = .ok (.if_icmp .eq 9, 3) := by decide +kernel
theorem dX7_bestTest_62 : decode cX7_bestTest 62 = .ok (.aload_n 0, 1) := by decide +kernel
theorem dX7_bestTest_63 : decode cX7_bestTest 63 = .ok (.iconst 5, 1) := by decide +kernel
theorem dX7_bestTest_64 : decode cX7_bestTest 64 = .ok (.invokevirtual 100, 3) := by decide +kernel
theorem dX7_bestTest_67 : decode cX7_bestTest 67 = .ok (.ireturn, 1) := by decide +kernel
theorem dX7_bestTest_68 : decode cX7_bestTest 68 = .ok (.aload_n 0, 1) := by decide +kernel
theorem dX7_bestTest_69 : decode cX7_bestTest 69 = .ok (.iload_n 1, 1) := by decide +kernel
theorem dX7_bestTest_70 : decode cX7_bestTest 70 = .ok (.invokevirtual 253, 3) := by decide +kernel
theorem dX7_bestTest_73 : decode cX7_bestTest 73 = .ok (.istore_n 3, 1) := by decide +kernel
theorem dX7_bestTest_74 : decode cX7_bestTest 74 = .ok (.iload_n 3, 1) := by decide +kernel
theorem dX7_bestTest_75 : decode cX7_bestTest 75 = .ok (.ifCond .ge 5, 3) := by decide +kernel
theorem dX7_bestTest_78 : decode cX7_bestTest 78 = .ok (.iload_n 3, 1) := by decide +kernel
theorem dX7_bestTest_79 : decode cX7_bestTest 79 = .ok (.ireturn, 1) := by decide +kernel
theorem dX7_bestTest_80 : decode cX7_bestTest 80 = .ok (.aload_n 0, 1) := by decide +kernel
theorem dX7_bestTest_81 : decode cX7_bestTest 81 = .ok (.iload_n 2, 1) := by decide +kernel
theorem dX7_bestTest_82 : decode cX7_bestTest 82 = .ok (.invokevirtual 253, 3) := by decide +kernel
theorem dX7_bestTest_85 : decode cX7_bestTest 85 = .ok (.istore 4, 2) := by decide +kernel
theorem dX7_bestTest_87 : decode cX7_bestTest 87 = .ok (.iload 4, 2) := by decide +kernel
theorem dX7_bestTest_89 : decode cX7_bestTest 89 = .ok (.ifCond .ge 6, 3) := by decide +kernel
theorem dX7_bestTest_92 : decode cX7_bestTest 92 = .ok (.iload 4, 2) := by decide +kernel
theorem dX7_bestTest_94 : decode cX7_bestTest 94 = .ok (.ireturn, 1) := by decide +kernel
theorem dX7_bestTest_95 : decode cX7_bestTest 95 = .ok (.iload_n 3, 1) := by decide +kernel
theorem dX7_bestTest_96 : decode cX7_bestTest 96 = .ok (.ifCond .eq 8, 3) := by decide +kernel
theorem dX7_bestTest_99 : decode cX7_bestTest 99 = .ok (.iload 4, 2) := by decide +kernel
theorem dX7_bestTest_101 : decode cX7_bestTest 101 = .ok (.ifCond .ne 9, 3) := by decide +kernel
theorem dX7_bestTest_104 : decode cX7_bestTest 104 = .ok (.aload_n 0, 1) := by decide +kernel
theorem dX7_bestTest_105 : decode cX7_bestTest 105 = .ok (.iconst 4, 1) := by decide +kernel
theorem dX7_bestTest_106 : decode cX7_bestTest 106 = .ok (.invokevirtual 100, 3) := by decide +kernel
theorem dX7_bestTest_109 : decode cX7_bestTest 109 = .ok (.ireturn, 1) := by decide +kernel
theorem dX7_bestTest_110 : decode cX7_bestTest 110 = .ok (.lconst 0, 1) := by decide +kernel
theorem dX7_bestTest_111 : decode cX7_bestTest 111 = .ok (.lstore 5, 2) := by decide +kernel
theorem dX7_bestTest_113 : decode cX7_bestTest 113 = .ok (.iconst 0, 1) := by decide +kernel
theorem dX7_bestTest_114 : decode cX7_bestTest 114 = .ok (.istore 7, 2) := by decide +kernel
theorem dX7_bestTest_116 : decode cX7_bestTest 116 = .ok (.iconst 0, 1) := by decide +kernel
theorem dX7_bestTest_117 : decode cX7_bestTest 117 = .ok (.istore 8, 2) := by decide +kernel
theorem dX7_bestTest_119 : decode cX7_bestTest 119 = .ok (.iload 8, 2) := by decide +kernel
theorem dX7_bestTest_121 : decode cX7_bestTest 121 = .ok (.bipush 8, 2) := by decide +kernel
theorem dX7_bestTest_123 : decode cX7_bestTest 123 = .ok (.if_icmp .ge 75, 3) := by decide +kernel
theorem dX7_bestTest_126 : decode cX7_bestTest 126 = .ok (.aload_n 0, 1) := by decide +kernel
theorem dX7_bestTest_127 : decode cX7_bestTest 127 = .ok (.iload_n 1, 1) := by decide +kernel
theorem dX7_bestTest_128 : decode cX7_bestTest 128 = .ok (.iload 8, 2) := by decide +kernel
theorem dX7_bestTest_130 : decode cX7_bestTest 130 = .ok (.invokevirtual 110, 3) := by decide +kernel
theorem dX7_bestTest_133 : decode cX7_bestTest 133 = .ok (.i2l, 1) := by decide +kernel
theorem dX7_bestTest_134 : decode cX7_bestTest 134 = .ok (.iload 4, 2) := by decide +kernel
theorem dX7_bestTest_136 : decode cX7_bestTest 136 = .ok (.i2l, 1) := by decide +kernel
theorem dX7_bestTest_137 : decode cX7_bestTest 137 = .ok (.lmul, 1) := by decide +kernel
theorem dX7_bestTest_138 : decode cX7_bestTest 138 = .ok (.aload_n 0, 1) := by decide +kernel
theorem dX7_bestTest_139 : decode cX7_bestTest 139 = .ok (.iload_n 2, 1) := by decide +kernel
theorem dX7_bestTest_140 : decode cX7_bestTest 140 = .ok (.iload 8, 2) := by decide +kernel
theorem dX7_bestTest_142 : decode cX7_bestTest 142 = .ok (.invokevirtual 110, 3) := by decide +kernel
theorem dX7_bestTest_145 : decode cX7_bestTest 145 = .ok (.i2l, 1) := by decide +kernel
theorem dX7_bestTest_146 : decode cX7_bestTest 146 = .ok (.iload_n 3, 1) := by decide +kernel
theorem dX7_bestTest_147 : decode cX7_bestTest 147 = .ok (.i2l, 1) := by decide +kernel
theorem dX7_bestTest_148 : decode cX7_bestTest 148 = .ok (.lmul, 1) := by decide +kernel
theorem dX7_bestTest_149 : decode cX7_bestTest 149 = .ok (.lsub, 1) := by decide +kernel
theorem dX7_bestTest_150 : decode cX7_bestTest 150 = .ok (.lstore 9, 2) := by decide +kernel
theorem dX7_bestTest_152 : decode cX7_bestTest 152 = .ok (.lload 5, 2) := by decide +kernel
theorem dX7_bestTest_154 : decode cX7_bestTest 154 = .ok (.lload 9, 2) := by decide +kernel
theorem dX7_bestTest_156 : decode cX7_bestTest 156 = .ok (.lconst 0, 1) := by decide +kernel
theorem dX7_bestTest_157 : decode cX7_bestTest 157 = .ok (.lcmp, 1) := by decide +kernel
theorem dX7_bestTest_158 : decode cX7_bestTest 158 = .ok (.ifCond .ge 9, 3) := by decide +kernel
theorem dX7_bestTest_161 : decode cX7_bestTest 161 = .ok (.lload 9, 2) := by decide +kernel
theorem dX7_bestTest_163 : decode cX7_bestTest 163 = .ok (.lneg, 1) := by decide +kernel
theorem dX7_bestTest_164 : decode cX7_bestTest 164 = .ok (.goto 5, 3) := by decide +kernel
theorem dX7_bestTest_167 : decode cX7_bestTest 167 = .ok (.lload 9, 2) := by decide +kernel
theorem dX7_bestTest_169 : decode cX7_bestTest 169 = .ok (.ladd, 1) := by decide +kernel
theorem dX7_bestTest_170 : decode cX7_bestTest 170 = .ok (.lstore 5, 2) := by decide +kernel
theorem dX7_bestTest_172 : decode cX7_bestTest 172 = .ok (.iload 7, 2) := by decide +kernel
theorem dX7_bestTest_174 : decode cX7_bestTest 174 = .ok (.lload 9, 2) := by decide +kernel
theorem dX7_bestTest_176 : decode cX7_bestTest 176 = .ok (.lconst 0, 1) := by decide +kernel
theorem dX7_bestTest_177 : decode cX7_bestTest 177 = .ok (.lcmp, 1) := by decide +kernel
theorem dX7_bestTest_178 : decode cX7_bestTest 178 = .ok (.ifCond .le 10, 3) := by decide +kernel
theorem dX7_bestTest_181 : decode cX7_bestTest 181 = .ok (.iconst 1, 1) := by decide +kernel
theorem dX7_bestTest_182 : decode cX7_bestTest 182 = .ok (.iload 8, 2) := by decide +kernel
theorem dX7_bestTest_184 : decode cX7_bestTest 184 = .ok (.ishl, 1) := by decide +kernel
theorem dX7_bestTest_185 : decode cX7_bestTest 185 = .ok (.goto 4, 3) := by decide +kernel
theorem dX7_bestTest_188 : decode cX7_bestTest 188 = .ok (.iconst 0, 1) := by decide +kernel
theorem dX7_bestTest_189 : decode cX7_bestTest 189 = .ok (.ior, 1) := by decide +kernel
theorem dX7_bestTest_190 : decode cX7_bestTest 190 = .ok (.istore 7, 2) := by decide +kernel
theorem dX7_bestTest_192 : decode cX7_bestTest 192 = .ok (.iinc 8 1, 3) := by decide +kernel
theorem dX7_bestTest_195 : decode cX7_bestTest 195 = .ok (.goto (-76), 3) := by decide +kernel
theorem dX7_bestTest_198 : decode cX7_bestTest 198 = .ok (.aload_n 0, 1) := by decide +kernel
theorem dX7_bestTest_199 : decode cX7_bestTest 199 = .ok (.ldc2_w 242, 3) := by decide +kernel
theorem dX7_bestTest_202 : decode cX7_bestTest 202 = .ok (.iload_n 3, 1) := by decide +kernel
theorem dX7_bestTest_203 : decode cX7_bestTest 203 = .ok (.i2l, 1) := by decide +kernel
theorem dX7_bestTest_204 : decode cX7_bestTest 204 = .ok (.lmul, 1) := by decide +kernel
theorem dX7_bestTest_205 : decode cX7_bestTest 205 = .ok (.iload 4, 2) := by decide +kernel
theorem dX7_bestTest_207 : decode cX7_bestTest 207 = .ok (.i2l, 1) := by decide +kernel
theorem dX7_bestTest_208 : decode cX7_bestTest 208 = .ok (.lmul, 1) := by decide +kernel
theorem dX7_bestTest_209 : decode cX7_bestTest 209 = .ok (.lload 5, 2) := by decide +kernel
theorem dX7_bestTest_211 : decode cX7_bestTest 211 = .ok (.lsub, 1) := by decide +kernel
theorem dX7_bestTest_212 : decode cX7_bestTest 212 = .ok (.ldc2_w 242, 3) := by decide +kernel
theorem dX7_bestTest_215 : decode cX7_bestTest 215 = .ok (.iload_n 3, 1) := by decide +kernel
theorem dX7_bestTest_216 : decode cX7_bestTest 216 = .ok (.i2l, 1) := by decide +kernel
theorem dX7_bestTest_217 : decode cX7_bestTest 217 = .ok (.lmul, 1) := by decide +kernel
theorem dX7_bestTest_218 : decode cX7_bestTest 218 = .ok (.iload 4, 2) := by decide +kernel
theorem dX7_bestTest_220 : decode cX7_bestTest 220 = .ok (.i2l, 1) := by decide +kernel
theorem dX7_bestTest_221 : decode cX7_bestTest 221 = .ok (.lmul, 1) := by decide +kernel
theorem dX7_bestTest_222 : decode cX7_bestTest 222 = .ok (.aload_n 0, 1) := by decide +kernel
theorem dX7_bestTest_223 : decode cX7_bestTest 223 = .ok (.iload 7, 2) := by decide +kernel
theorem dX7_bestTest_225 : decode cX7_bestTest 225 = .ok (.iconst 1, 1) := by decide +kernel
theorem dX7_bestTest_226 : decode cX7_bestTest 226 = .ok (.invokevirtual 114, 3) := by decide +kernel
theorem dX7_bestTest_229 : decode cX7_bestTest 229 = .ok (.invokevirtual 229, 3) := by decide +kernel
theorem dX7_bestTest_232 : decode cX7_bestTest 232 = .ok (.ireturn, 1) := by decide +kernel
theorem dX7_learn_0 : decode cX7_learn 0 = .ok (.iload_n 2, 1) := by decide +kernel
theorem dX7_learn_1 : decode cX7_learn 1 = .ok (.invokestatic 96, 3) := by decide +kernel
theorem dX7_learn_4 : decode cX7_learn 4 = .ok (.ifCond .ne 5, 3) := by decide +kernel
theorem dX7_learn_7 : decode cX7_learn 7 = .ok (.iconst (-1), 1) := by decide +kernel
theorem dX7_learn_8 : decode cX7_learn 8 = .ok (.ireturn, 1) := by decide +kernel
theorem dX7_learn_9 : decode cX7_learn 9 = .ok (.aload_n 0, 1) := by decide +kernel
theorem dX7_learn_10 : decode cX7_learn 10 = .ok (.iload_n 1, 1) := by decide +kernel
theorem dX7_learn_11 : decode cX7_learn 11 = .ok (.invokevirtual 138, 3) := by decide +kernel
theorem dX7_learn_14 : decode cX7_learn 14 = .ok (.istore_n 3, 1) := by decide +kernel
theorem dX7_learn_15 : decode cX7_learn 15 = .ok (.iload_n 3, 1) := by decide +kernel
theorem dX7_learn_16 : decode cX7_learn 16 = .ok (.ifCond .ge 5, 3) := by decide +kernel
theorem dX7_learn_19 : decode cX7_learn 19 = .ok (.iload_n 3, 1) := by decide +kernel
theorem dX7_learn_20 : decode cX7_learn 20 = .ok (.ireturn, 1) := by decide +kernel
theorem dX7_learn_21 : decode cX7_learn 21 = .ok (.aload_n 0, 1) := by decide +kernel
theorem dX7_learn_22 : decode cX7_learn 22 = .ok (.iload_n 1, 1) := by decide +kernel
theorem dX7_learn_23 : decode cX7_learn 23 = .ok (.invokevirtual 256, 3) := by decide +kernel
theorem dX7_learn_26 : decode cX7_learn 26 = .ok (.aload_n 0, 1) := by decide +kernel
theorem dX7_learn_27 : decode cX7_learn 27 = .ok (.iload_n 2, 1) := by decide +kernel
theorem dX7_learn_28 : decode cX7_learn 28 = .ok (.bipush 8, 2) := by decide +kernel
theorem dX7_learn_30 : decode cX7_learn 30 = .ok (.invokevirtual 144, 3) := by decide +kernel
theorem dX7_learn_33 : decode cX7_learn 33 = .ok (.pop, 1) := by decide +kernel
theorem dX7_learn_34 : decode cX7_learn 34 = .ok (.iconst 0, 1) := by decide +kernel
theorem dX7_learn_35 : decode cX7_learn 35 = .ok (.istore 4, 2) := by decide +kernel
theorem dX7_learn_37 : decode cX7_learn 37 = .ok (.iconst 0, 1) := by decide +kernel
theorem dX7_learn_38 : decode cX7_learn 38 = .ok (.istore 5, 2) := by decide +kernel
theorem dX7_learn_40 : decode cX7_learn 40 = .ok (.iload 5, 2) := by decide +kernel
theorem dX7_learn_42 : decode cX7_learn 42 = .ok (.bipush 8, 2) := by decide +kernel
theorem dX7_learn_44 : decode cX7_learn 44 = .ok (.if_icmp .ge 48, 3) := by decide +kernel
theorem dX7_learn_47 : decode cX7_learn 47 = .ok (.aload_n 0, 1) := by decide +kernel
theorem dX7_learn_48 : decode cX7_learn 48 = .ok (.getfield 20, 3) := by decide +kernel
theorem dX7_learn_51 : decode cX7_learn 51 = .ok (.bipush 40, 2) := by decide +kernel
theorem dX7_learn_53 : decode cX7_learn 53 = .ok (.iload_n 2, 1) := by decide +kernel
theorem dX7_learn_54 : decode cX7_learn 54 = .ok (.imul, 1) := by decide +kernel
theorem dX7_learn_55 : decode cX7_learn 55 = .ok (.iload 5, 2) := by decide +kernel
theorem dX7_learn_57 : decode cX7_learn 57 = .ok (.iadd, 1) := by decide +kernel
theorem dX7_learn_58 : decode cX7_learn 58 = .ok (.aload_n 0, 1) := by decide +kernel
theorem dX7_learn_59 : decode cX7_learn 59 = .ok (.getfield 79, 3) := by decide +kernel
theorem dX7_learn_62 : decode cX7_learn 62 = .ok (.iload 5, 2) := by decide +kernel
theorem dX7_learn_64 : decode cX7_learn 64 = .ok (.iaload, 1) := by decide +kernel
theorem dX7_learn_65 : decode cX7_learn 65 = .ok (.iastore, 1) := by decide +kernel
theorem dX7_learn_66 : decode cX7_learn 66 = .ok (.iload 4, 2) := by decide +kernel
theorem dX7_learn_68 : decode cX7_learn 68 = .ok (.aload_n 0, 1) := by decide +kernel
theorem dX7_learn_69 : decode cX7_learn 69 = .ok (.getfield 79, 3) := by decide +kernel
theorem dX7_learn_72 : decode cX7_learn 72 = .ok (.iload 5, 2) := by decide +kernel
theorem dX7_learn_74 : decode cX7_learn 74 = .ok (.iaload, 1) := by decide +kernel
theorem dX7_learn_75 : decode cX7_learn 75 = .ok (.ifCond .le 7, 3) := by decide +kernel
theorem dX7_learn_78 : decode cX7_learn 78 = .ok (.iconst 1, 1) := by decide +kernel
theorem dX7_learn_79 : decode cX7_learn 79 = .ok (.goto 4, 3) := by decide +kernel
theorem dX7_learn_82 : decode cX7_learn 82 = .ok (.iconst 0, 1) := by decide +kernel
theorem dX7_learn_83 : decode cX7_learn 83 = .ok (.iadd, 1) := by decide +kernel
theorem dX7_learn_84 : decode cX7_learn 84 = .ok (.istore 4, 2) := by decide +kernel
theorem dX7_learn_86 : decode cX7_learn 86 = .ok (.iinc 5 1, 3) := by decide +kernel
theorem dX7_learn_89 : decode cX7_learn 89 = .ok (.goto (-49), 3) := by decide +kernel
theorem dX7_learn_92 : decode cX7_learn 92 = .ok (.iload 4, 2) := by decide +kernel
theorem dX7_learn_94 : decode cX7_learn 94 = .ok (.ireturn, 1) := by decide +kernel
theorem dX7_pairs_0 : decode cX7_pairs 0 = .ok (.aload_n 0, 1) := by decide +kernel
theorem dX7_pairs_1 : decode cX7_pairs 1 = .ok (.iload_n 1, 1) := by decide +kernel
theorem dX7_pairs_2 : decode cX7_pairs 2 = .ok (.invokevirtual 138, 3) := by decide +kernel
theorem dX7_pairs_5 : decode cX7_pairs 5 = .ok (.istore_n 2, 1) := by decide +kernel
theorem dX7_pairs_6 : decode cX7_pairs 6 = .ok (.iload_n 2, 1) := by decide +kernel
theorem dX7_pairs_7 : decode cX7_pairs 7 = .ok (.ifCond .ge 5, 3) := by decide +kernel
theorem dX7_pairs_10 : decode cX7_pairs 10 = .ok (.iload_n 2, 1) := by decide +kernel
theorem dX7_pairs_11 : decode cX7_pairs 11 = .ok (.ireturn, 1) := by decide +kernel
theorem dX7_pairs_12 : decode cX7_pairs 12 = .ok (.lconst 0, 1) := by decide +kernel
theorem dX7_pairs_13 : decode cX7_pairs 13 = .ok (.lstore_n 3, 1) := by decide +kernel
theorem dX7_pairs_14 : decode cX7_pairs 14 = .ok (.lconst 1, 1) := by decide +kernel
theorem dX7_pairs_15 : decode cX7_pairs 15 = .ok (.lstore 5, 2) := by decide +kernel
theorem dX7_pairs_17 : decode cX7_pairs 17 = .ok (.iconst 0, 1) := by decide +kernel
theorem dX7_pairs_18 : decode cX7_pairs 18 = .ok (.istore 7, 2) := by decide +kernel
theorem dX7_pairs_20 : decode cX7_pairs 20 = .ok (.iconst 0, 1) := by decide +kernel
theorem dX7_pairs_21 : decode cX7_pairs 21 = .ok (.istore 8, 2) := by decide +kernel
theorem dX7_pairs_23 : decode cX7_pairs 23 = .ok (.iload 8, 2) := by decide +kernel
theorem dX7_pairs_25 : decode cX7_pairs 25 = .ok (.sipush 128, 3) := by decide +kernel
theorem dX7_pairs_28 : decode cX7_pairs 28 = .ok (.if_icmp .ge 154, 3) := by decide +kernel
theorem dX7_pairs_31 : decode cX7_pairs 31 = .ok (.iconst 0, 1) := by decide +kernel
theorem dX7_pairs_32 : decode cX7_pairs 32 = .ok (.istore 9, 2) := by decide +kernel
theorem dX7_pairs_34 : decode cX7_pairs 34 = .ok (.iconst 0, 1) := by decide +kernel
theorem dX7_pairs_35 : decode cX7_pairs 35 = .ok (.istore 10, 2) := by decide +kernel
theorem dX7_pairs_37 : decode cX7_pairs 37 = .ok (.iconst 0, 1) := by decide +kernel
theorem dX7_pairs_38 : decode cX7_pairs 38 = .ok (.istore 11, 2) := by decide +kernel
theorem dX7_pairs_40 : decode cX7_pairs 40 = .ok (.iload 11, 2) := by decide +kernel
theorem dX7_pairs_42 : decode cX7_pairs 42 = .ok (.aload_n 0, 1) := by decide +kernel
theorem dX7_pairs_43 : decode cX7_pairs 43 = .ok (.getfield 32, 3) := by decide +kernel
theorem dX7_pairs_46 : decode cX7_pairs 46 = .ok (.iload_n 1, 1) := by decide +kernel
theorem dX7_pairs_47 : decode cX7_pairs 47 = .ok (.iaload, 1) := by decide +kernel
theorem dX7_pairs_48 : decode cX7_pairs 48 = .ok (.if_icmp .ge 59, 3) := by decide +kernel
theorem dX7_pairs_51 : decode cX7_pairs 51 = .ok (.iload 9, 2) := by decide +kernel
theorem dX7_pairs_53 : decode cX7_pairs 53 = .ok (.aload_n 0, 1) := by decide +kernel
theorem dX7_pairs_54 : decode cX7_pairs 54 = .ok (.iload_n 1, 1) := by decide +kernel
theorem dX7_pairs_55 : decode cX7_pairs 55 = .ok (.iload 11, 2) := by decide +kernel
theorem dX7_pairs_57 : decode cX7_pairs 57 = .ok (.invokevirtual 147, 3) := by decide +kernel
theorem dX7_pairs_60 : decode cX7_pairs 60 = .ok (.iconst 2, 1) := by decide +kernel
theorem dX7_pairs_61 : decode cX7_pairs 61 = .ok (.iload 8, 2) := by decide +kernel
theorem dX7_pairs_63 : decode cX7_pairs 63 = .ok (.imul, 1) := by decide +kernel
theorem dX7_pairs_64 : decode cX7_pairs 64 = .ok (.if_icmp .ne 7, 3) := by decide +kernel
theorem dX7_pairs_67 : decode cX7_pairs 67 = .ok (.iconst 1, 1) := by decide +kernel
theorem dX7_pairs_68 : decode cX7_pairs 68 = .ok (.goto 4, 3) := by decide +kernel
theorem dX7_pairs_71 : decode cX7_pairs 71 = .ok (.iconst 0, 1) := by decide +kernel
theorem dX7_pairs_72 : decode cX7_pairs 72 = .ok (.iadd, 1) := by decide +kernel
theorem dX7_pairs_73 : decode cX7_pairs 73 = .ok (.istore 9, 2) := by decide +kernel
theorem dX7_pairs_75 : decode cX7_pairs 75 = .ok (.iload 10, 2) := by decide +kernel
theorem dX7_pairs_77 : decode cX7_pairs 77 = .ok (.aload_n 0, 1) := by decide +kernel
theorem dX7_pairs_78 : decode cX7_pairs 78 = .ok (.iload_n 1, 1) := by decide +kernel
theorem dX7_pairs_79 : decode cX7_pairs 79 = .ok (.iload 11, 2) := by decide +kernel
theorem dX7_pairs_81 : decode cX7_pairs 81 = .ok (.invokevirtual 147, 3) := by decide +kernel
theorem dX7_pairs_84 : decode cX7_pairs 84 = .ok (.iconst 2, 1) := by decide +kernel
theorem dX7_pairs_85 : decode cX7_pairs 85 = .ok (.iload 8, 2) := by decide +kernel
theorem dX7_pairs_87 : decode cX7_pairs 87 = .ok (.imul, 1) := by decide +kernel
theorem dX7_pairs_88 : decode cX7_pairs 88 = .ok (.iconst 1, 1) := by decide +kernel
theorem dX7_pairs_89 : decode cX7_pairs 89 = .ok (.iadd, 1) := by decide +kernel
theorem dX7_pairs_90 : decode cX7_pairs 90 = .ok (.if_icmp .ne 7, 3) := by decide +kernel
theorem dX7_pairs_93 : decode cX7_pairs 93 = .ok (.iconst 1, 1) := by decide +kernel
theorem dX7_pairs_94 : decode cX7_pairs 94 = .ok (.goto 4, 3) := by decide +kernel
theorem dX7_pairs_97 : decode cX7_pairs 97 = .ok (.iconst 0, 1) := by decide +kernel
theorem dX7_pairs_98 : decode cX7_pairs 98 = .ok (.iadd, 1) := by decide +kernel
theorem dX7_pairs_99 : decode cX7_pairs 99 = .ok (.istore 10, 2) := by decide +kernel
theorem dX7_pairs_101 : decode cX7_pairs 101 = .ok (.iinc 11 1, 3) := by decide +kernel
theorem dX7_pairs_104 : decode cX7_pairs 104 = .ok (.goto (-64), 3) := by decide +kernel
theorem dX7_pairs_107 : decode cX7_pairs 107 = .ok (.iload 9, 2) := by decide +kernel
theorem dX7_pairs_109 : decode cX7_pairs 109 = .ok (.iload 10, 2) := by decide +kernel
theorem dX7_pairs_111 : decode cX7_pairs 111 = .ok (.iadd, 1) := by decide +kernel
theorem dX7_pairs_112 : decode cX7_pairs 112 = .ok (.ifCond .le 64, 3) := by decide +kernel
theorem dX7_pairs_115 : decode cX7_pairs 115 = .ok (.iinc 7 1, 3) := by decide +kernel
theorem dX7_pairs_118 : decode cX7_pairs 118 = .ok (.lload_n 3, 1) := by decide +kernel
theorem dX7_pairs_119 : decode cX7_pairs 119 = .ok (.iload 9, 2) := by decide +kernel
theorem dX7_pairs_121 : decode cX7_pairs 121 = .ok (.iload 10, 2) := by decide +kernel
theorem dX7_pairs_123 : decode cX7_pairs 123 = .ok (.iadd, 1) := by decide +kernel
theorem dX7_pairs_124 : decode cX7_pairs 124 = .ok (.i2l, 1) := by decide +kernel
theorem dX7_pairs_125 : decode cX7_pairs 125 = .ok (.lmul, 1) := by decide +kernel
theorem dX7_pairs_126 : decode cX7_pairs 126 = .ok (.iload 9, 2) := by decide +kernel
theorem dX7_pairs_128 : decode cX7_pairs 128 = .ok (.iload 10, 2) := by decide +kernel
theorem dX7_pairs_130 : decode cX7_pairs 130 = .ok (.isub, 1) := by decide +kernel
theorem dX7_pairs_131 : decode cX7_pairs 131 = .ok (.i2l, 1) := by decide +kernel
theorem dX7_pairs_132 : decode cX7_pairs 132 = .ok (.iload 9, 2) := by decide +kernel
theorem dX7_pairs_134 : decode cX7_pairs 134 = .ok (.iload 10, 2) := by decide +kernel
theorem dX7_pairs_136 : decode cX7_pairs 136 = .ok (.isub, 1) := by decide +kernel
theorem dX7_pairs_137 : decode cX7_pairs 137 = .ok (.i2l, 1) := by decide +kernel
theorem dX7_pairs_138 : decode cX7_pairs 138 = .ok (.lmul, 1) := by decide +kernel
theorem dX7_pairs_139 : decode cX7_pairs 139 = .ok (.lload 5, 2) := by decide +kernel
theorem dX7_pairs_141 : decode cX7_pairs 141 = .ok (.lmul, 1) := by decide +kernel
theorem dX7_pairs_142 : decode cX7_pairs 142 = .ok (.ladd, 1) := by decide +kernel
theorem dX7_pairs_143 : decode cX7_pairs 143 = .ok (.lstore_n 3, 1) := by decide +kernel
theorem dX7_pairs_144 : decode cX7_pairs 144 = .ok (.lload 5, 2) := by decide +kernel
theorem dX7_pairs_146 : decode cX7_pairs 146 = .ok (.iload 9, 2) := by decide +kernel
theorem dX7_pairs_148 : decode cX7_pairs 148 = .ok (.iload 10, 2) := by decide +kernel
theorem dX7_pairs_150 : decode cX7_pairs 150 = .ok (.iadd, 1) := by decide +kernel
theorem dX7_pairs_151 : decode cX7_pairs 151 = .ok (.i2l, 1) := by decide +kernel
theorem dX7_pairs_152 : decode cX7_pairs 152 = .ok (.lmul, 1) := by decide +kernel
theorem dX7_pairs_153 : decode cX7_pairs 153 = .ok (.lstore 5, 2) := by decide +kernel
theorem dX7_pairs_155 : decode cX7_pairs 155 = .ok (.aload_n 0, 1) := by decide +kernel
theorem dX7_pairs_156 : decode cX7_pairs 156 = .ok (.lload_n 3, 1) := by decide +kernel
theorem dX7_pairs_157 : decode cX7_pairs 157 = .ok (.lload 5, 2) := by decide +kernel
theorem dX7_pairs_159 : decode cX7_pairs 159 = .ok (.iconst 1, 1) := by decide +kernel
theorem dX7_pairs_160 : decode cX7_pairs 160 = .ok (.invokevirtual 229, 3) := by decide +kernel
theorem dX7_pairs_163 : decode cX7_pairs 163 = .ok (.istore 11, 2) := by decide +kernel
theorem dX7_pairs_165 : decode cX7_pairs 165 = .ok (.aload_n 0, 1) := by decide +kernel
theorem dX7_pairs_166 : decode cX7_pairs 166 = .ok (.getfield 89, 3) := by decide +kernel
theorem dX7_pairs_169 : decode cX7_pairs 169 = .ok (.lstore_n 3, 1) := by decide +kernel
theorem dX7_pairs_170 : decode cX7_pairs 170 = .ok (.aload_n 0, 1) := by decide +kernel
theorem dX7_pairs_171 : decode cX7_pairs 171 = .ok (.getfield 13, 3) := by decide +kernel
theorem dX7_pairs_174 : decode cX7_pairs 174 = .ok (.lstore 5, 2) := by decide +kernel
theorem dX7_pairs_176 : decode cX7_pairs 176 = .ok (.iinc 8 1, 3) := by decide +kernel
theorem dX7_pairs_179 : decode cX7_pairs 179 = .ok (.goto (-156), 3) := by decide +kernel
theorem dX7_pairs_182 : decode cX7_pairs 182 = .ok (.aload_n 0, 1) := by decide +kernel
theorem dX7_pairs_183 : decode cX7_pairs 183 = .ok (.lload_n 3, 1) := by decide +kernel
theorem dX7_pairs_184 : decode cX7_pairs 184 = .ok (.lload 5, 2) := by decide +kernel
theorem dX7_pairs_186 : decode cX7_pairs 186 = .ok (.iload 7, 2) := by decide +kernel
theorem dX7_pairs_188 : decode cX7_pairs 188 = .ok (.invokevirtual 229, 3) := by decide +kernel
theorem dX7_pairs_191 : decode cX7_pairs 191 = .ok (.ireturn, 1) := by decide +kernel
theorem dX7_rank_0 : decode cX7_rank 0 = .ok (.aload_n 0, 1) := by decide +kernel
theorem dX7_rank_1 : decode cX7_rank 1 = .ok (.iload_n 1, 1) := by decide +kernel
theorem dX7_rank_2 : decode cX7_rank 2 = .ok (.invokevirtual 138, 3) := by decide +kernel
theorem dX7_rank_5 : decode cX7_rank 5 = .ok (.istore_n 2, 1) := by decide +kernel
theorem dX7_rank_6 : decode cX7_rank 6 = .ok (.iload_n 2, 1) := by decide +kernel
theorem dX7_rank_7 : decode cX7_rank 7 = .ok (.ifCond .ge 5, 3) := by decide +kernel
theorem dX7_rank_10 : decode cX7_rank 10 = .ok (.iload_n 2, 1) := by decide +kernel
theorem dX7_rank_11 : decode cX7_rank 11 = .ok (.ireturn, 1) := by decide +kernel
theorem dX7_rank_12 : decode cX7_rank 12 = .ok (.aload_n 0, 1) := by decide +kernel
theorem dX7_rank_13 : decode cX7_rank 13 = .ok (.getfield 35, 3) := by decide +kernel
theorem dX7_rank_16 : decode cX7_rank 16 = .ok (.iload_n 1, 1) := by decide +kernel
theorem dX7_rank_17 : decode cX7_rank 17 = .ok (.iaload, 1) := by decide +kernel
theorem dX7_rank_18 : decode cX7_rank 18 = .ok (.iconst 4, 1) := by decide +kernel
theorem dX7_rank_19 : decode cX7_rank 19 = .ok (.if_icmp .eq 9, 3) := by decide +kernel
theorem dX7_rank_22 : decode cX7_rank 22 = .ok (.aload_n 0, 1) := by decide +kernel
theorem dX7_rank_23 : decode cX7_rank 23 = .ok (.iconst 3, 1) := by decide +kernel
theorem dX7_rank_24 : decode cX7_rank 24 = .ok (.invokevirtual 100, 3) := by decide +kernel
theorem dX7_rank_27 : decode cX7_rank 27 = .ok (.ireturn, 1) := by decide +kernel
theorem dX7_rank_28 : decode cX7_rank 28 = .ok (.lconst 0, 1) := by decide +kernel
theorem dX7_rank_29 : decode cX7_rank 29 = .ok (.lstore_n 3, 1) := by decide +kernel
theorem dX7_rank_30 : decode cX7_rank 30 = .ok (.iconst 0, 1) := by decide +kernel
theorem dX7_rank_31 : decode cX7_rank 31 = .ok (.istore 5, 2) := by decide +kernel
theorem dX7_rank_33 : decode cX7_rank 33 = .ok (.iload 5, 2) := by decide +kernel
theorem dX7_rank_35 : decode cX7_rank 35 = .ok (.aload_n 0, 1) := by decide +kernel
theorem dX7_rank_36 : decode cX7_rank 36 = .ok (.getfield 32, 3) := by decide +kernel
theorem dX7_rank_39 : decode cX7_rank 39 = .ok (.iload_n 1, 1) := by decide +kernel
theorem dX7_rank_40 : decode cX7_rank 40 = .ok (.iaload, 1) := by decide +kernel
theorem dX7_rank_41 : decode cX7_rank 41 = .ok (.if_icmp .ge 83, 3) := by decide +kernel
theorem dX7_rank_44 : decode cX7_rank 44 = .ok (.iconst 0, 1) := by decide +kernel
theorem dX7_rank_45 : decode cX7_rank 45 = .ok (.istore 6, 2) := by decide +kernel
theorem dX7_rank_47 : decode cX7_rank 47 = .ok (.iload 5, 2) := by decide +kernel
theorem dX7_rank_49 : decode cX7_rank 49 = .ok (.iconst 1, 1) := by decide +kernel
theorem dX7_rank_50 : decode cX7_rank 50 = .ok (.iadd, 1) := by decide +kernel
theorem dX7_rank_51 : decode cX7_rank 51 = .ok (.istore 7, 2) := by decide +kernel
theorem dX7_rank_53 : decode cX7_rank 53 = .ok (.iload 7, 2) := by decide +kernel
theorem dX7_rank_55 : decode cX7_rank 55 = .ok (.aload_n 0, 1) := by decide +kernel
theorem dX7_rank_56 : decode cX7_rank 56 = .ok (.getfield 32, 3) := by decide +kernel
theorem dX7_rank_59 : decode cX7_rank 59 = .ok (.iload_n 1, 1) := by decide +kernel
theorem dX7_rank_60 : decode cX7_rank 60 = .ok (.iaload, 1) := by decide +kernel
theorem dX7_rank_61 : decode cX7_rank 61 = .ok (.if_icmp .ge 36, 3) := by decide +kernel
theorem dX7_rank_64 : decode cX7_rank 64 = .ok (.iload 6, 2) := by decide +kernel
theorem dX7_rank_66 : decode cX7_rank 66 = .ok (.aload_n 0, 1) := by decide +kernel
theorem dX7_rank_67 : decode cX7_rank 67 = .ok (.iload_n 1, 1) := by decide +kernel
theorem dX7_rank_68 : decode cX7_rank 68 = .ok (.iload 7, 2) := by decide +kernel
theorem dX7_rank_70 : decode cX7_rank 70 = .ok (.invokevirtual 147, 3) := by decide +kernel
theorem dX7_rank_73 : decode cX7_rank 73 = .ok (.aload_n 0, 1) := by decide +kernel
theorem dX7_rank_74 : decode cX7_rank 74 = .ok (.iload_n 1, 1) := by decide +kernel
theorem dX7_rank_75 : decode cX7_rank 75 = .ok (.iload 5, 2) := by decide +kernel
theorem dX7_rank_77 : decode cX7_rank 77 = .ok (.invokevirtual 147, 3) := by decide +kernel
theorem dX7_rank_80 : decode cX7_rank 80 = .ok (.if_icmp .ge 7, 3) := by decide +kernel
theorem dX7_rank_83 : decode cX7_rank 83 = .ok (.iconst 1, 1) := by decide +kernel
theorem dX7_rank_84 : decode cX7_rank 84 = .ok (.goto 4, 3) := by decide +kernel
theorem dX7_rank_87 : decode cX7_rank 87 = .ok (.iconst 0, 1) := by decide +kernel
theorem dX7_rank_88 : decode cX7_rank 88 = .ok (.iadd, 1) := by decide +kernel
theorem dX7_rank_89 : decode cX7_rank 89 = .ok (.istore 6, 2) := by decide +kernel
theorem dX7_rank_91 : decode cX7_rank 91 = .ok (.iinc 7 1, 3) := by decide +kernel
theorem dX7_rank_94 : decode cX7_rank 94 = .ok (.goto (-41), 3) := by decide +kernel
theorem dX7_rank_97 : decode cX7_rank 97 = .ok (.lload_n 3, 1) := by decide +kernel
theorem dX7_rank_98 : decode cX7_rank 98 = .ok (.aload_n 0, 1) := by decide +kernel
theorem dX7_rank_99 : decode cX7_rank 99 = .ok (.getfield 32, 3) := by decide +kernel
theorem dX7_rank_102 : decode cX7_rank 102 = .ok (.iload_n 1, 1) := by decide +kernel
theorem dX7_rank_103 : decode cX7_rank 103 = .ok (.iaload, 1) := by decide +kernel
theorem dX7_rank_104 : decode cX7_rank 104 = .ok (.iload 5, 2) := by decide +kernel
theorem dX7_rank_106 : decode cX7_rank 106 = .ok (.isub, 1) := by decide +kernel
theorem dX7_rank_107 : decode cX7_rank 107 = .ok (.i2l, 1) := by decide +kernel
theorem dX7_rank_108 : decode cX7_rank 108 = .ok (.lmul, 1) := by decide +kernel
theorem dX7_rank_109 : decode cX7_rank 109 = .ok (.iload 6, 2) := by decide +kernel
theorem dX7_rank_111 : decode cX7_rank 111 = .ok (.i2l, 1) := by decide +kernel
theorem dX7_rank_112 : decode cX7_rank 112 = .ok (.ladd, 1) := by decide +kernel
theorem dX7_rank_113 : decode cX7_rank 113 = .ok (.ldc2_w 260, 3) := by decide +kernel
theorem dX7_rank_116 : decode cX7_rank 116 = .ok (.lrem, 1) := by decide +kernel
theorem dX7_rank_117 : decode cX7_rank 117 = .ok (.lstore_n 3, 1) := by decide +kernel
theorem dX7_rank_118 : decode cX7_rank 118 = .ok (.iinc 5 1, 3) := by decide +kernel
theorem dX7_rank_121 : decode cX7_rank 121 = .ok (.goto (-88), 3) := by decide +kernel
theorem dX7_rank_124 : decode cX7_rank 124 = .ok (.lload_n 3, 1) := by decide +kernel
theorem dX7_rank_125 : decode cX7_rank 125 = .ok (.l2i, 1) := by decide +kernel
theorem dX7_rank_126 : decode cX7_rank 126 = .ok (.ireturn, 1) := by decide +kernel
theorem dX7_arrange_0 : decode cX7_arrange 0 = .ok (.iload_n 2, 1) := by decide +kernel
theorem dX7_arrange_1 : decode cX7_arrange 1 = .ok (.ifCond .ge 5, 3) := by decide +kernel
theorem dX7_arrange_4 : decode cX7_arrange 4 = .ok (.iconst (-1), 1) := by decide +kernel
theorem dX7_arrange_5 : decode cX7_arrange 5 = .ok (.ireturn, 1) := by decide +kernel
theorem dX7_arrange_6 : decode cX7_arrange 6 = .ok (.aload_n 0, 1) := by decide +kernel
theorem dX7_arrange_7 : decode cX7_arrange 7 = .ok (.iload_n 1, 1) := by decide +kernel
theorem dX7_arrange_8 : decode cX7_arrange 8 = .ok (.invokevirtual 138, 3) := by decide +kernel
theorem dX7_arrange_11 : decode cX7_arrange 11 = .ok (.istore_n 3, 1) := by decide +kernel
theorem dX7_arrange_12 : decode cX7_arrange 12 = .ok (.iload_n 3, 1) := by decide +kernel
theorem dX7_arrange_13 : decode cX7_arrange 13 = .ok (.ifCond .ge 5, 3) := by decide +kernel
theorem dX7_arrange_16 : decode cX7_arrange 16 = .ok (.iload_n 3, 1) := by decide +kernel
theorem dX7_arrange_17 : decode cX7_arrange 17 = .ok (.ireturn, 1) := by decide +kernel
theorem dX7_arrange_18 : decode cX7_arrange 18 = .ok (.aload_n 0, 1) := by decide +kernel
theorem dX7_arrange_19 : decode cX7_arrange 19 = .ok (.getfield 35, 3) := by decide +kernel
theorem dX7_arrange_22 : decode cX7_arrange 22 = .ok (.iload_n 1, 1) := by decide +kernel
theorem dX7_arrange_23 : decode cX7_arrange 23 = .ok (.iaload, 1) := by decide +kernel
theorem dX7_arrange_24 : decode cX7_arrange 24 = .ok (.iconst 4, 1) := by decide +kernel
theorem dX7_arrange_25 : decode cX7_arrange 25 = .ok (.if_icmp .eq 9, 3) := by decide +kernel
theorem dX7_arrange_28 : decode cX7_arrange 28 = .ok (.aload_n 0, 1) := by decide +kernel
theorem dX7_arrange_29 : decode cX7_arrange 29 = .ok (.iconst 3, 1) := by decide +kernel
theorem dX7_arrange_30 : decode cX7_arrange 30 = .ok (.invokevirtual 100, 3) := by decide +kernel
theorem dX7_arrange_33 : decode cX7_arrange 33 = .ok (.ireturn, 1) := by decide +kernel
theorem dX7_arrange_34 : decode cX7_arrange 34 = .ok (.aload_n 0, 1) := by decide +kernel
theorem dX7_arrange_35 : decode cX7_arrange 35 = .ok (.getfield 32, 3) := by decide +kernel
theorem dX7_arrange_38 : decode cX7_arrange 38 = .ok (.iload_n 1, 1) := by decide +kernel
theorem dX7_arrange_39 : decode cX7_arrange 39 = .ok (.iaload, 1) := by decide +kernel
theorem dX7_arrange_40 : decode cX7_arrange 40 = .ok (.istore 4, 2) := by decide +kernel
theorem dX7_arrange_42 : decode cX7_arrange 42 = .ok (.iload 4, 2) := by decide +kernel
theorem dX7_arrange_44 : decode cX7_arrange 44 = .ok (.bipush 10, 2) := by decide +kernel
theorem dX7_arrange_46 : decode cX7_arrange 46 = .ok (.if_icmp .le 6, 3) := by decide +kernel
theorem dX7_arrange_49 : decode cX7_arrange 49 = .ok (.bipush (-6), 2) := by decide +kernel
theorem dX7_arrange_51 : decode cX7_arrange 51 = .ok (.ireturn, 1) := by decide +kernel
theorem dX7_arrange_52 : decode cX7_arrange 52 = .ok (.iconst 1, 1) := by decide +kernel
theorem dX7_arrange_53 : decode cX7_arrange 53 = .ok (.istore 5, 2) := by decide +kernel
theorem dX7_arrange_55 : decode cX7_arrange 55 = .ok (.iconst 2, 1) := by decide +kernel
theorem dX7_arrange_56 : decode cX7_arrange 56 = .ok (.istore 6, 2) := by decide +kernel
theorem dX7_arrange_58 : decode cX7_arrange 58 = .ok (.iload 6, 2) := by decide +kernel
theorem dX7_arrange_60 : decode cX7_arrange 60 = .ok (.iload 4, 2) := by decide +kernel
theorem dX7_arrange_62 : decode cX7_arrange 62 = .ok (.if_icmp .gt 16, 3) := by decide +kernel
theorem dX7_arrange_65 : decode cX7_arrange 65 = .ok (.iload 5, 2) := by decide +kernel
theorem dX7_arrange_67 : decode cX7_arrange 67 = .ok (.iload 6, 2) := by decide +kernel
theorem dX7_arrange_69 : decode cX7_arrange 69 = .ok (.imul, 1) := by decide +kernel
theorem dX7_arrange_70 : decode cX7_arrange 70 = .ok (.istore 5, 2) := by decide +kernel
theorem dX7_arrange_72 : decode cX7_arrange 72 = .ok (.iinc 6 1, 3) := by decide +kernel
theorem dX7_arrange_75 : decode cX7_arrange 75 = .ok (.goto (-17), 3) := by decide +kernel
theorem dX7_arrange_78 : decode cX7_arrange 78 = .ok (.iload_n 2, 1) := by decide +kernel
theorem dX7_arrange_79 : decode cX7_arrange 79 = .ok (.iload 5, 2) := by decide +kernel
theorem dX7_arrange_81 : decode cX7_arrange 81 = .ok (.if_icmp .lt 9, 3) := by decide +kernel
theorem dX7_arrange_84 : decode cX7_arrange 84 = .ok (.aload_n 0, 1) := by decide +kernel
theorem dX7_arrange_85 : decode cX7_arrange 85 = .ok (.iconst 2, 1) := by decide +kernel
theorem dX7_arrange_86 : decode cX7_arrange 86 = .ok (.invokevirtual 100, 3) := by decide +kernel
theorem dX7_arrange_89 : decode cX7_arrange 89 = .ok (.ireturn, 1) := by decide +kernel
theorem dX7_arrange_90 : decode cX7_arrange 90 = .ok (.aload_n 0, 1) := by decide +kernel
theorem dX7_arrange_91 : decode cX7_arrange 91 = .ok (.iload_n 1, 1) := by decide +kernel
theorem dX7_arrange_92 : decode cX7_arrange 92 = .ok (.invokevirtual 262, 3) := by decide +kernel
theorem dX7_arrange_95 : decode cX7_arrange 95 = .ok (.istore 6, 2) := by decide +kernel
theorem dX7_arrange_97 : decode cX7_arrange 97 = .ok (.iload_n 2, 1) := by decide +kernel
theorem dX7_arrange_98 : decode cX7_arrange 98 = .ok (.istore 7, 2) := by decide +kernel
theorem dX7_arrange_100 : decode cX7_arrange 100 = .ok (.iconst 0, 1) := by decide +kernel
theorem dX7_arrange_101 : decode cX7_arrange 101 = .ok (.istore 8, 2) := by decide +kernel
theorem dX7_arrange_103 : decode cX7_arrange 103 = .ok (.iload 8, 2) := by decide +kernel
theorem dX7_arrange_105 : decode cX7_arrange 105 = .ok (.iload 4, 2) := by decide +kernel
theorem dX7_arrange_107 : decode cX7_arrange 107 = .ok (.if_icmp .ge 90, 3) := by decide +kernel
theorem dX7_arrange_110 : decode cX7_arrange 110 = .ok (.iload 5, 2) := by decide +kernel
theorem dX7_arrange_112 : decode cX7_arrange 112 = .ok (.iload 4, 2) := by decide +kernel
theorem dX7_arrange_114 : decode cX7_arrange 114 = .ok (.iload 8, 2) := by decide +kernel
theorem dX7_arrange_116 : decode cX7_arrange 116 = .ok (.isub, 1) := by decide +kernel
theorem dX7_arrange_117 : decode cX7_arrange 117 = .ok (.idiv, 1) := by decide +kernel
theorem dX7_arrange_118 : decode cX7_arrange 118 = .ok (.istore 5, 2) := by decide +kernel
theorem dX7_arrange_120 : decode cX7_arrange 120 = .ok (.iload 7, 2) := by decide +kernel
theorem dX7_arrange_122 : decode cX7_arrange 122 = .ok (.iload 5, 2) := by decide +kernel
theorem dX7_arrange_124 : decode cX7_arrange 124 = .ok (.idiv, 1) := by decide +kernel
theorem dX7_arrange_125 : decode cX7_arrange 125 = .ok (.istore 9, 2) := by decide +kernel
theorem dX7_arrange_127 : decode cX7_arrange 127 = .ok (.iload 7, 2) := by decide +kernel
theorem dX7_arrange_129 : decode cX7_arrange 129 = .ok (.iload 5, 2) := by decide +kernel
theorem dX7_arrange_131 : decode cX7_arrange 131 = .ok (.irem, 1) := by decide +kernel
theorem dX7_arrange_132 : decode cX7_arrange 132 = .ok (.istore 7, 2) := by decide +kernel
theorem dX7_arrange_134 : decode cX7_arrange 134 = .ok (.aload_n 0, 1) := by decide +kernel
theorem dX7_arrange_135 : decode cX7_arrange 135 = .ok (.getfield 38, 3) := by decide +kernel
theorem dX7_arrange_138 : decode cX7_arrange 138 = .ok (.bipush 40, 2) := by decide +kernel
theorem dX7_arrange_140 : decode cX7_arrange 140 = .ok (.iload_n 1, 1) := by decide +kernel
theorem dX7_arrange_141 : decode cX7_arrange 141 = .ok (.imul, 1) := by decide +kernel
theorem dX7_arrange_142 : decode cX7_arrange 142 = .ok (.iload 8, 2) := by decide +kernel
theorem dX7_arrange_144 : decode cX7_arrange 144 = .ok (.iadd, 1) := by decide +kernel
theorem dX7_arrange_145 : decode cX7_arrange 145 = .ok (.aload_n 0, 1) := by decide +kernel
theorem dX7_arrange_146 : decode cX7_arrange 146 = .ok (.getfield 23, 3) := by decide +kernel
theorem dX7_arrange_149 : decode cX7_arrange 149 = .ok (.iload 9, 2) := by decide +kernel
theorem dX7_arrange_151 : decode cX7_arrange 151 = .ok (.iaload, 1) := by decide +kernel
theorem dX7_arrange_152 : decode cX7_arrange 152 = .ok (.iastore, 1) := by decide +kernel
theorem dX7_arrange_153 : decode cX7_arrange 153 = .ok (.iload 9, 2) := by decide +kernel
theorem dX7_arrange_155 : decode cX7_arrange 155 = .ok (.istore 10, 2) := by decide +kernel
theorem dX7_arrange_157 : decode cX7_arrange 157 = .ok (.iload 10, 2) := by decide +kernel
theorem dX7_arrange_159 : decode cX7_arrange 159 = .ok (.iload 4, 2) := by decide +kernel
theorem dX7_arrange_161 : decode cX7_arrange 161 = .ok (.iconst 1, 1) := by decide +kernel
theorem dX7_arrange_162 : decode cX7_arrange 162 = .ok (.isub, 1) := by decide +kernel
theorem dX7_arrange_163 : decode cX7_arrange 163 = .ok (.iload 8, 2) := by decide +kernel
theorem dX7_arrange_165 : decode cX7_arrange 165 = .ok (.isub, 1) := by decide +kernel
theorem dX7_arrange_166 : decode cX7_arrange 166 = .ok (.if_icmp .ge 25, 3) := by decide +kernel
theorem dX7_arrange_169 : decode cX7_arrange 169 = .ok (.aload_n 0, 1) := by decide +kernel
theorem dX7_arrange_170 : decode cX7_arrange 170 = .ok (.getfield 23, 3) := by decide +kernel
theorem dX7_arrange_173 : decode cX7_arrange 173 = .ok (.iload 10, 2) := by decide +kernel
theorem dX7_arrange_175 : decode cX7_arrange 175 = .ok (.aload_n 0, 1) := by decide +kernel
theorem dX7_arrange_176 : decode cX7_arrange 176 = .ok (.getfield 23, 3) := by decide +kernel
theorem dX7_arrange_179 : decode cX7_arrange 179 = .ok (.iload 10, 2) := by decide +kernel
theorem dX7_arrange_181 : decode cX7_arrange 181 = .ok (.iconst 1, 1) := by decide +kernel
theorem dX7_arrange_182 : decode cX7_arrange 182 = .ok (.iadd, 1) := by decide +kernel
theorem dX7_arrange_183 : decode cX7_arrange 183 = .ok (.iaload, 1) := by decide +kernel
theorem dX7_arrange_184 : decode cX7_arrange 184 = .ok (.iastore, 1) := by decide +kernel
theorem dX7_arrange_185 : decode cX7_arrange 185 = .ok (.iinc 10 1, 3) := by decide +kernel
theorem dX7_arrange_188 : decode cX7_arrange 188 = .ok (.goto (-31), 3) := by decide +kernel
theorem dX7_arrange_191 : decode cX7_arrange 191 = .ok (.iinc 8 1, 3) := by decide +kernel
theorem dX7_arrange_194 : decode cX7_arrange 194 = .ok (.goto (-91), 3) := by decide +kernel
theorem dX7_arrange_197 : decode cX7_arrange 197 = .ok (.iload 6, 2) := by decide +kernel
theorem dX7_arrange_199 : decode cX7_arrange 199 = .ok (.ireturn, 1) := by decide +kernel
theorem dX7_dotsInto_0 : decode cX7_dotsInto 0 = .ok (.iconst 0, 1) := by decide +kernel
theorem dX7_dotsInto_1 : decode cX7_dotsInto 1 = .ok (.istore_n 2, 1) := by decide +kernel
theorem dX7_dotsInto_2 : decode cX7_dotsInto 2 = .ok (.iconst 0, 1) := by decide +kernel
theorem dX7_dotsInto_3 : decode cX7_dotsInto 3 = .ok (.istore_n 3, 1) := by decide +kernel
theorem dX7_dotsInto_4 : decode cX7_dotsInto 4 = .ok (.iload_n 3, 1) := by decide +kernel
theorem dX7_dotsInto_5 : decode cX7_dotsInto 5 = .ok (.sipush 256, 3) := by decide +kernel
theorem dX7_dotsInto_8 : decode cX7_dotsInto 8 = .ok (.if_icmp .ge 50, 3) := by decide +kernel
theorem dX7_dotsInto_11 : decode cX7_dotsInto 11 = .ok (.iconst 0, 1) := by decide +kernel
theorem dX7_dotsInto_12 : decode cX7_dotsInto 12 = .ok (.istore 4, 2) := by decide +kernel
theorem dX7_dotsInto_14 : decode cX7_dotsInto 14 = .ok (.iload 4, 2) := by decide +kernel
theorem dX7_dotsInto_16 : decode cX7_dotsInto 16 = .ok (.aload_n 0, 1) := by decide +kernel
theorem dX7_dotsInto_17 : decode cX7_dotsInto 17 = .ok (.getfield 32, 3) := by decide +kernel
theorem dX7_dotsInto_20 : decode cX7_dotsInto 20 = .ok (.iload_n 1, 1) := by decide +kernel
theorem dX7_dotsInto_21 : decode cX7_dotsInto 21 = .ok (.iaload, 1) := by decide +kernel
theorem dX7_dotsInto_22 : decode cX7_dotsInto 22 = .ok (.if_icmp .ge 30, 3) := by decide +kernel
theorem dX7_dotsInto_25 : decode cX7_dotsInto 25 = .ok (.aload_n 0, 1) := by decide +kernel
theorem dX7_dotsInto_26 : decode cX7_dotsInto 26 = .ok (.iload_n 1, 1) := by decide +kernel
theorem dX7_dotsInto_27 : decode cX7_dotsInto 27 = .ok (.iload 4, 2) := by decide +kernel
theorem dX7_dotsInto_29 : decode cX7_dotsInto 29 = .ok (.invokevirtual 147, 3) := by decide +kernel
theorem dX7_dotsInto_32 : decode cX7_dotsInto 32 = .ok (.iload_n 3, 1) := by decide +kernel
theorem dX7_dotsInto_33 : decode cX7_dotsInto 33 = .ok (.if_icmp .ne 13, 3) := by decide +kernel
theorem dX7_dotsInto_36 : decode cX7_dotsInto 36 = .ok (.aload_n 0, 1) := by decide +kernel
theorem dX7_dotsInto_37 : decode cX7_dotsInto 37 = .ok (.getfield 23, 3) := by decide +kernel
theorem dX7_dotsInto_40 : decode cX7_dotsInto 40 = .ok (.iload_n 2, 1) := by decide +kernel
theorem dX7_dotsInto_41 : decode cX7_dotsInto 41 = .ok (.iload_n 3, 1) := by decide +kernel
theorem dX7_dotsInto_42 : decode cX7_dotsInto 42 = .ok (.iastore, 1) := by decide +kernel
theorem dX7_dotsInto_43 : decode cX7_dotsInto 43 = .ok (.iinc 2 1, 3) := by decide +kernel
theorem dX7_dotsInto_46 : decode cX7_dotsInto 46 = .ok (.iinc 4 1, 3) := by decide +kernel
theorem dX7_dotsInto_49 : decode cX7_dotsInto 49 = .ok (.goto (-35), 3) := by decide +kernel
theorem dX7_dotsInto_52 : decode cX7_dotsInto 52 = .ok (.iinc 3 1, 3) := by decide +kernel
theorem dX7_dotsInto_55 : decode cX7_dotsInto 55 = .ok (.goto (-51), 3) := by decide +kernel
theorem dX7_dotsInto_58 : decode cX7_dotsInto 58 = .ok (.iconst 1, 1) := by decide +kernel
theorem dX7_dotsInto_59 : decode cX7_dotsInto 59 = .ok (.ireturn, 1) := by decide +kernel
theorem dX7_asked_0 : decode cX7_asked 0 = .ok (.aload_n 0, 1) := by decide +kernel
theorem dX7_asked_1 : decode cX7_asked 1 = .ok (.getfield 86, 3) := by decide +kernel
theorem dX7_asked_4 : decode cX7_asked 4 = .ok (.ireturn, 1) := by decide +kernel
theorem dX7_upper_0 : decode cX7_upper 0 = .ok (.aload_n 0, 1) := by decide +kernel
theorem dX7_upper_1 : decode cX7_upper 1 = .ok (.getfield 89, 3) := by decide +kernel
theorem dX7_upper_4 : decode cX7_upper 4 = .ok (.lreturn, 1) := by decide +kernel
theorem dX7_lower_0 : decode cX7_lower 0 = .ok (.aload_n 0, 1) := by decide +kernel
theorem dX7_lower_1 : decode cX7_lower 1 = .ok (.getfield 13, 3) := by decide +kernel
theorem dX7_lower_4 : decode cX7_lower 4 = .ok (.lreturn, 1) := by decide +kernel
theorem dX7_counts_0 : decode cX7_counts 0 = .ok (.iconst 0, 1) := by decide +kernel
theorem dX7_counts_1 : decode cX7_counts 1 = .ok (.istore_n 2, 1) := by decide +kernel
theorem dX7_counts_2 : decode cX7_counts 2 = .ok (.iconst 0, 1) := by decide +kernel
theorem dX7_counts_3 : decode cX7_counts 3 = .ok (.istore_n 3, 1) := by decide +kernel
theorem dX7_counts_4 : decode cX7_counts 4 = .ok (.iload_n 3, 1) := by decide +kernel
theorem dX7_counts_5 : decode cX7_counts 5 = .ok (.bipush 6, 2) := by decide +kernel
theorem dX7_counts_7 : decode cX7_counts 7 = .ok (.if_icmp .ge 98, 3) := by decide +kernel
theorem dX7_counts_10 : decode cX7_counts 10 = .ok (.iload_n 2, 1) := by decide +kernel
theorem dX7_counts_11 : decode cX7_counts 11 = .ok (.iload_n 1, 1) := by decide +kernel
theorem dX7_counts_12 : decode cX7_counts 12 = .ok (.ifCond .ne 16, 3) := by decide +kernel
theorem dX7_counts_15 : decode cX7_counts 15 = .ok (.aload_n 0, 1) := by decide +kernel
theorem dX7_counts_16 : decode cX7_counts 16 = .ok (.getfield 17, 3) := by decide +kernel
theorem dX7_counts_19 : decode cX7_counts 19 = .ok (.iload_n 3, 1) := by decide +kernel
theorem dX7_counts_20 : decode cX7_counts 20 = .ok (.iaload, 1) := by decide +kernel
theorem dX7_counts_21 : decode cX7_counts 21 = .ok (.ifCond .lt 7, 3) := by decide +kernel
theorem dX7_counts_24 : decode cX7_counts 24 = .ok (.iconst 1, 1) := by decide +kernel
theorem dX7_counts_25 : decode cX7_counts 25 = .ok (.goto 4, 3) := by decide +kernel
theorem dX7_counts_28 : decode cX7_counts 28 = .ok (.iconst 0, 1) := by decide +kernel
theorem dX7_counts_29 : decode cX7_counts 29 = .ok (.iadd, 1) := by decide +kernel
theorem dX7_counts_30 : decode cX7_counts 30 = .ok (.istore_n 2, 1) := by decide +kernel
theorem dX7_counts_31 : decode cX7_counts 31 = .ok (.iload_n 2, 1) := by decide +kernel
theorem dX7_counts_32 : decode cX7_counts 32 = .ok (.iload_n 1, 1) := by decide +kernel
theorem dX7_counts_33 : decode cX7_counts 33 = .ok (.iconst 2, 1) := by decide +kernel
theorem dX7_counts_34 : decode cX7_counts 34 = .ok (.if_icmp .ne 12, 3) := by decide +kernel
theorem dX7_counts_37 : decode cX7_counts 37 = .ok (.aload_n 0, 1) := by decide +kernel
theorem dX7_counts_38 : decode cX7_counts 38 = .ok (.getfield 32, 3) := by decide +kernel
theorem dX7_counts_41 : decode cX7_counts 41 = .ok (.iload_n 3, 1) := by decide +kernel
theorem dX7_counts_42 : decode cX7_counts 42 = .ok (.iaload, 1) := by decide +kernel
theorem dX7_counts_43 : decode cX7_counts 43 = .ok (.ifCond .gt 31, 3) := by decide +kernel
theorem dX7_counts_46 : decode cX7_counts 46 = .ok (.iload_n 1, 1) := by decide +kernel
theorem dX7_counts_47 : decode cX7_counts 47 = .ok (.iconst 3, 1) := by decide +kernel
theorem dX7_counts_48 : decode cX7_counts 48 = .ok (.if_icmp .ne 30, 3) := by decide +kernel
theorem dX7_counts_51 : decode cX7_counts 51 = .ok (.aload_n 0, 1) := by decide +kernel
theorem dX7_counts_52 : decode cX7_counts 52 = .ok (.getfield 32, 3) := by decide +kernel
theorem dX7_counts_55 : decode cX7_counts 55 = .ok (.iload_n 3, 1) := by decide +kernel
theorem dX7_counts_56 : decode cX7_counts 56 = .ok (.iaload, 1) := by decide +kernel
theorem dX7_counts_57 : decode cX7_counts 57 = .ok (.ifCond .le 21, 3) := by decide +kernel
theorem dX7_counts_60 : decode cX7_counts 60 = .ok (.aload_n 0, 1) := by decide +kernel
theorem dX7_counts_61 : decode cX7_counts 61 = .ok (.getfield 35, 3) := by decide +kernel
theorem dX7_counts_64 : decode cX7_counts 64 = .ok (.iload_n 3, 1) := by decide +kernel
theorem dX7_counts_65 : decode cX7_counts 65 = .ok (.iaload, 1) := by decide +kernel
theorem dX7_counts_66 : decode cX7_counts 66 = .ok (.iconst 1, 1) := by decide +kernel
theorem dX7_counts_67 : decode cX7_counts 67 = .ok (.iconst 2, 1) := by decide +kernel
theorem dX7_counts_68 : decode cX7_counts 68 = .ok (.invokestatic 92, 3) := by decide +kernel
theorem dX7_counts_71 : decode cX7_counts 71 = .ok (.ifCond .eq 7, 3) := by decide +kernel
theorem dX7_counts_74 : decode cX7_counts 74 = .ok (.iconst 1, 1) := by decide +kernel
theorem dX7_counts_75 : decode cX7_counts 75 = .ok (.goto 4, 3) := by decide +kernel
theorem dX7_counts_78 : decode cX7_counts 78 = .ok (.iconst 0, 1) := by decide +kernel
theorem dX7_counts_79 : decode cX7_counts 79 = .ok (.iadd, 1) := by decide +kernel
theorem dX7_counts_80 : decode cX7_counts 80 = .ok (.istore_n 2, 1) := by decide +kernel
theorem dX7_counts_81 : decode cX7_counts 81 = .ok (.iload_n 2, 1) := by decide +kernel
theorem dX7_counts_82 : decode cX7_counts 82 = .ok (.iload_n 1, 1) := by decide +kernel
theorem dX7_counts_83 : decode cX7_counts 83 = .ok (.iconst 5, 1) := by decide +kernel
theorem dX7_counts_84 : decode cX7_counts 84 = .ok (.if_icmp .ne 12, 3) := by decide +kernel
theorem dX7_counts_87 : decode cX7_counts 87 = .ok (.aload_n 0, 1) := by decide +kernel
theorem dX7_counts_88 : decode cX7_counts 88 = .ok (.getfield 32, 3) := by decide +kernel
theorem dX7_counts_91 : decode cX7_counts 91 = .ok (.iload_n 3, 1) := by decide +kernel
theorem dX7_counts_92 : decode cX7_counts 92 = .ok (.iaload, 1) := by decide +kernel
theorem dX7_counts_93 : decode cX7_counts 93 = .ok (.goto 4, 3) := by decide +kernel
theorem dX7_counts_96 : decode cX7_counts 96 = .ok (.iconst 0, 1) := by decide +kernel
theorem dX7_counts_97 : decode cX7_counts 97 = .ok (.iadd, 1) := by decide +kernel
theorem dX7_counts_98 : decode cX7_counts 98 = .ok (.istore_n 2, 1) := by decide +kernel
theorem dX7_counts_99 : decode cX7_counts 99 = .ok (.iinc 3 1, 3) := by decide +kernel
theorem dX7_counts_102 : decode cX7_counts 102 = .ok (.goto (-98), 3) := by decide +kernel
theorem dX7_counts_105 : decode cX7_counts 105 = .ok (.iconst 0, 1) := by decide +kernel
theorem dX7_counts_106 : decode cX7_counts 106 = .ok (.istore_n 3, 1) := by decide +kernel
theorem dX7_counts_107 : decode cX7_counts 107 = .ok (.iload_n 3, 1) := by decide +kernel
theorem dX7_counts_108 : decode cX7_counts 108 = .ok (.iconst 4, 1) := by decide +kernel
theorem dX7_counts_109 : decode cX7_counts 109 = .ok (.if_icmp .ge 45, 3) := by decide +kernel
theorem dX7_counts_112 : decode cX7_counts 112 = .ok (.iload_n 2, 1) := by decide +kernel
theorem dX7_counts_113 : decode cX7_counts 113 = .ok (.iload_n 1, 1) := by decide +kernel
theorem dX7_counts_114 : decode cX7_counts 114 = .ok (.iconst 1, 1) := by decide +kernel
theorem dX7_counts_115 : decode cX7_counts 115 = .ok (.if_icmp .ne 12, 3) := by decide +kernel
theorem dX7_counts_118 : decode cX7_counts 118 = .ok (.aload_n 0, 1) := by decide +kernel
theorem dX7_counts_119 : decode cX7_counts 119 = .ok (.getfield 26, 3) := by decide +kernel
theorem dX7_counts_122 : decode cX7_counts 122 = .ok (.iload_n 3, 1) := by decide +kernel
theorem dX7_counts_123 : decode cX7_counts 123 = .ok (.iaload, 1) := by decide +kernel
theorem dX7_counts_124 : decode cX7_counts 124 = .ok (.ifCond .ge 17, 3) := by decide +kernel
theorem dX7_counts_127 : decode cX7_counts 127 = .ok (.iload_n 1, 1) := by decide +kernel
theorem dX7_counts_128 : decode cX7_counts 128 = .ok (.iconst 4, 1) := by decide +kernel
theorem dX7_counts_129 : decode cX7_counts 129 = .ok (.if_icmp .ne 16, 3) := by decide +kernel
theorem dX7_counts_132 : decode cX7_counts 132 = .ok (.aload_n 0, 1) := by decide +kernel
theorem dX7_counts_133 : decode cX7_counts 133 = .ok (.getfield 53, 3) := by decide +kernel
theorem dX7_counts_136 : decode cX7_counts 136 = .ok (.iload_n 3, 1) := by decide +kernel
theorem dX7_counts_137 : decode cX7_counts 137 = .ok (.iaload, 1) := by decide +kernel
theorem dX7_counts_138 : decode cX7_counts 138 = .ok (.ifCond .le 7, 3) := by decide +kernel
theorem dX7_counts_141 : decode cX7_counts 141 = .ok (.iconst 1, 1) := by decide +kernel
theorem dX7_counts_142 : decode cX7_counts 142 = .ok (.goto 4, 3) := by decide +kernel
theorem dX7_counts_145 : decode cX7_counts 145 = .ok (.iconst 0, 1) := by decide +kernel
theorem dX7_counts_146 : decode cX7_counts 146 = .ok (.iadd, 1) := by decide +kernel
theorem dX7_counts_147 : decode cX7_counts 147 = .ok (.istore_n 2, 1) := by decide +kernel
theorem dX7_counts_148 : decode cX7_counts 148 = .ok (.iinc 3 1, 3) := by decide +kernel
theorem dX7_counts_151 : decode cX7_counts 151 = .ok (.goto (-44), 3) := by decide +kernel
theorem dX7_counts_154 : decode cX7_counts 154 = .ok (.iload_n 2, 1) := by decide +kernel
theorem dX7_counts_155 : decode cX7_counts 155 = .ok (.ireturn, 1) := by decide +kernel
theorem dX7_count_0 : decode cX7_count 0 = .ok (.iload_n 1, 1) := by decide +kernel
theorem dX7_count_1 : decode cX7_count 1 = .ok (.iconst 0, 1) := by decide +kernel
theorem dX7_count_2 : decode cX7_count 2 = .ok (.iconst 5, 1) := by decide +kernel
theorem dX7_count_3 : decode cX7_count 3 = .ok (.invokestatic 92, 3) := by decide +kernel
theorem dX7_count_6 : decode cX7_count 6 = .ok (.ifCond .eq 11, 3) := by decide +kernel
theorem dX7_count_9 : decode cX7_count 9 = .ok (.aload_n 0, 1) := by decide +kernel
theorem dX7_count_10 : decode cX7_count 10 = .ok (.iload_n 1, 1) := by decide +kernel
theorem dX7_count_11 : decode cX7_count 11 = .ok (.invokevirtual 265, 3) := by decide +kernel
theorem dX7_count_14 : decode cX7_count 14 = .ok (.goto 4, 3) := by decide +kernel
theorem dX7_count_17 : decode cX7_count 17 = .ok (.iconst (-1), 1) := by decide +kernel
theorem dX7_count_18 : decode cX7_count 18 = .ok (.ireturn, 1) := by decide +kernel
theorem dX7_finding_0 : decode cX7_finding 0 = .ok (.aload_n 0, 1) := by decide +kernel
theorem dX7_finding_1 : decode cX7_finding 1 = .ok (.getfield 82, 3) := by decide +kernel
theorem dX7_finding_4 : decode cX7_finding 4 = .ok (.ireturn, 1) := by decide +kernel
theorem dX7_findings_0 : decode cX7_findings 0 = .ok (.iload_n 1, 1) := by decide +kernel
theorem dX7_findings_1 : decode cX7_findings 1 = .ok (.iconst 1, 1) := by decide +kernel
theorem dX7_findings_2 : decode cX7_findings 2 = .ok (.iconst 5, 1) := by decide +kernel
theorem dX7_findings_3 : decode cX7_findings 3 = .ok (.invokestatic 92, 3) := by decide +kernel
theorem dX7_findings_6 : decode cX7_findings 6 = .ok (.ifCond .eq 12, 3) := by decide +kernel
theorem dX7_findings_9 : decode cX7_findings 9 = .ok (.aload_n 0, 1) := by decide +kernel
theorem dX7_findings_10 : decode cX7_findings 10 = .ok (.getfield 7, 3) := by decide +kernel
theorem dX7_findings_13 : decode cX7_findings 13 = .ok (.iload_n 1, 1) := by decide +kernel
theorem dX7_findings_14 : decode cX7_findings 14 = .ok (.iaload, 1) := by decide +kernel
theorem dX7_findings_15 : decode cX7_findings 15 = .ok (.goto 4, 3) := by decide +kernel
theorem dX7_findings_18 : decode cX7_findings 18 = .ok (.iconst (-1), 1) := by decide +kernel
theorem dX7_findings_19 : decode cX7_findings 19 = .ok (.ireturn, 1) := by decide +kernel
theorem dX7_mix_0 : decode cX7_mix 0 = .ok (.aload_n 0, 1) := by decide +kernel
theorem dX7_mix_1 : decode cX7_mix 1 = .ok (.ldc2_w 268, 3) := by decide +kernel
theorem dX7_mix_4 : decode cX7_mix 4 = .ok (.aload_n 0, 1) := by decide +kernel
theorem dX7_mix_5 : decode cX7_mix 5 = .ok (.getfield 270, 3) := by decide +kernel
theorem dX7_mix_8 : decode cX7_mix 8 = .ok (.lmul, 1) := by decide +kernel
theorem dX7_mix_9 : decode cX7_mix 9 = .ok (.iload_n 1, 1) := by decide +kernel
theorem dX7_mix_10 : decode cX7_mix 10 = .ok (.i2l, 1) := by decide +kernel
theorem dX7_mix_11 : decode cX7_mix 11 = .ok (.ladd, 1) := by decide +kernel
theorem dX7_mix_12 : decode cX7_mix 12 = .ok (.putfield 270, 3) := by decide +kernel
theorem dX7_mix_15 : decode cX7_mix 15 = .ok (.return_, 1) := by decide +kernel
theorem dX7_mixCover_0 : decode cX7_mixCover 0 = .ok (.aload_n 0, 1) := by decide +kernel
theorem dX7_mixCover_1 : decode cX7_mixCover 1 = .ok (.getfield 32, 3) := by decide +kernel
theorem dX7_mixCover_4 : decode cX7_mixCover 4 = .ok (.iload_n 1, 1) := by decide +kernel
theorem dX7_mixCover_5 : decode cX7_mixCover 5 = .ok (.iaload, 1) := by decide +kernel
theorem dX7_mixCover_6 : decode cX7_mixCover 6 = .ok (.ifCond .ne 9, 3) := by decide +kernel
theorem dX7_mixCover_9 : decode cX7_mixCover 9 = .ok (.aload_n 0, 1) := by decide +kernel
theorem dX7_mixCover_10 : decode cX7_mixCover 10 = .ok (.iconst (-1), 1) := by decide +kernel
theorem dX7_mixCover_11 : decode cX7_mixCover 11 = .ok (.invokevirtual 273, 3) := by decide +kernel
theorem dX7_mixCover_14 : decode cX7_mixCover 14 = .ok (.return_, 1) := by decide +kernel
theorem dX7_mixCover_15 : decode cX7_mixCover 15 = .ok (.aload_n 0, 1) := by decide +kernel
theorem dX7_mixCover_16 : decode cX7_mixCover 16 = .ok (.aload_n 0, 1) := by decide +kernel
theorem dX7_mixCover_17 : decode cX7_mixCover 17 = .ok (.getfield 35, 3) := by decide +kernel
theorem dX7_mixCover_20 : decode cX7_mixCover 20 = .ok (.iload_n 1, 1) := by decide +kernel
theorem dX7_mixCover_21 : decode cX7_mixCover 21 = .ok (.iaload, 1) := by decide +kernel
theorem dX7_mixCover_22 : decode cX7_mixCover 22 = .ok (.invokevirtual 273, 3) := by decide +kernel
theorem dX7_mixCover_25 : decode cX7_mixCover 25 = .ok (.aload_n 0, 1) := by decide +kernel
theorem dX7_mixCover_26 : decode cX7_mixCover 26 = .ok (.aload_n 0, 1) := by decide +kernel
theorem dX7_mixCover_27 : decode cX7_mixCover 27 = .ok (.getfield 32, 3) := by decide +kernel
theorem dX7_mixCover_30 : decode cX7_mixCover 30 = .ok (.iload_n 1, 1) := by decide +kernel
theorem dX7_mixCover_31 : decode cX7_mixCover 31 = .ok (.iaload, 1) := by decide +kernel
theorem dX7_mixCover_32 : decode cX7_mixCover 32 = .ok (.invokevirtual 273, 3) := by decide +kernel
theorem dX7_mixCover_35 : decode cX7_mixCover 35 = .ok (.iconst 0, 1) := by decide +kernel
theorem dX7_mixCover_36 : decode cX7_mixCover 36 = .ok (.istore_n 2, 1) := by decide +kernel
theorem dX7_mixCover_37 : decode cX7_mixCover 37 = .ok (.iload_n 2, 1) := by decide +kernel
theorem dX7_mixCover_38 : decode cX7_mixCover 38 = .ok (.aload_n 0, 1) := by decide +kernel
theorem dX7_mixCover_39 : decode cX7_mixCover 39 = .ok (.getfield 32, 3) := by decide +kernel
theorem dX7_mixCover_42 : decode cX7_mixCover 42 = .ok (.iload_n 1, 1) := by decide +kernel
theorem dX7_mixCover_43 : decode cX7_mixCover 43 = .ok (.iaload, 1) := by decide +kernel
theorem dX7_mixCover_44 : decode cX7_mixCover 44 = .ok (.if_icmp .ge 33, 3) := by decide +kernel
theorem dX7_mixCover_47 : decode cX7_mixCover 47 = .ok (.iconst 0, 1) := by decide +kernel
theorem dX7_mixCover_48 : decode cX7_mixCover 48 = .ok (.istore_n 3, 1) := by decide +kernel
theorem dX7_mixCover_49 : decode cX7_mixCover 49 = .ok (.iload_n 3, 1) := by decide +kernel
theorem dX7_mixCover_50 : decode cX7_mixCover 50 = .ok (.iconst 4, 1) := by decide +kernel
theorem dX7_mixCover_51 : decode cX7_mixCover 51 = .ok (.if_icmp .gt 20, 3) := by decide +kernel
theorem dX7_mixCover_54 : decode cX7_mixCover 54 = .ok (.aload_n 0, 1) := by decide +kernel
theorem dX7_mixCover_55 : decode cX7_mixCover 55 = .ok (.aload_n 0, 1) := by decide +kernel
theorem dX7_mixCover_56 : decode cX7_mixCover 56 = .ok (.iload_n 1, 1) := by decide +kernel
theorem dX7_mixCover_57 : decode cX7_mixCover 57 = .ok (.iload_n 2, 1) := by decide +kernel
theorem dX7_mixCover_58 : decode cX7_mixCover 58 = .ok (.iload_n 3, 1) := by decide +kernel
theorem dX7_mixCover_59 : decode cX7_mixCover 59 = .ok (.invokevirtual 162, 3) := by decide +kernel
theorem dX7_mixCover_62 : decode cX7_mixCover 62 = .ok (.invokevirtual 273, 3) := by decide +kernel
theorem dX7_mixCover_65 : decode cX7_mixCover 65 = .ok (.iinc 3 1, 3) := by decide +kernel
theorem dX7_mixCover_68 : decode cX7_mixCover 68 = .ok (.goto (-19), 3) := by decide +kernel
theorem dX7_mixCover_71 : decode cX7_mixCover 71 = .ok (.iinc 2 1, 3) := by decide +kernel
theorem dX7_mixCover_74 : decode cX7_mixCover 74 = .ok (.goto (-37), 3) := by decide +kernel
theorem dX7_mixCover_77 : decode cX7_mixCover 77 = .ok (.return_, 1) := by decide +kernel
theorem dX7_mixCode_0 : decode cX7_mixCode 0 = .ok (.aload_n 0, 1) := by decide +kernel
theorem dX7_mixCode_1 : decode cX7_mixCode 1 = .ok (.getfield 53, 3) := by decide +kernel
theorem dX7_mixCode_4 : decode cX7_mixCode 4 = .ok (.iload_n 1, 1) := by decide +kernel
theorem dX7_mixCode_5 : decode cX7_mixCode 5 = .ok (.iaload, 1) := by decide +kernel
theorem dX7_mixCode_6 : decode cX7_mixCode 6 = .ok (.ifCond .ne 9, 3) := by decide +kernel
theorem dX7_mixCode_9 : decode cX7_mixCode 9 = .ok (.aload_n 0, 1) := by decide +kernel
theorem dX7_mixCode_10 : decode cX7_mixCode 10 = .ok (.iconst (-1), 1) := by decide +kernel
theorem dX7_mixCode_11 : decode cX7_mixCode 11 = .ok (.invokevirtual 273, 3) := by decide +kernel
theorem dX7_mixCode_14 : decode cX7_mixCode 14 = .ok (.return_, 1) := by decide +kernel
theorem dX7_mixCode_15 : decode cX7_mixCode 15 = .ok (.aload_n 0, 1) := by decide +kernel
theorem dX7_mixCode_16 : decode cX7_mixCode 16 = .ok (.aload_n 0, 1) := by decide +kernel
theorem dX7_mixCode_17 : decode cX7_mixCode 17 = .ok (.getfield 53, 3) := by decide +kernel
theorem dX7_mixCode_20 : decode cX7_mixCode 20 = .ok (.iload_n 1, 1) := by decide +kernel
theorem dX7_mixCode_21 : decode cX7_mixCode 21 = .ok (.iaload, 1) := by decide +kernel
theorem dX7_mixCode_22 : decode cX7_mixCode 22 = .ok (.invokevirtual 273, 3) := by decide +kernel
theorem dX7_mixCode_25 : decode cX7_mixCode 25 = .ok (.aload_n 0, 1) := by decide +kernel
theorem dX7_mixCode_26 : decode cX7_mixCode 26 = .ok (.aload_n 0, 1) := by decide +kernel
theorem dX7_mixCode_27 : decode cX7_mixCode 27 = .ok (.getfield 56, 3) := by decide +kernel
theorem dX7_mixCode_30 : decode cX7_mixCode 30 = .ok (.iload_n 1, 1) := by decide +kernel
theorem dX7_mixCode_31 : decode cX7_mixCode 31 = .ok (.iaload, 1) := by decide +kernel
theorem dX7_mixCode_32 : decode cX7_mixCode 32 = .ok (.invokevirtual 273, 3) := by decide +kernel
theorem dX7_mixCode_35 : decode cX7_mixCode 35 = .ok (.iconst 0, 1) := by decide +kernel
theorem dX7_mixCode_36 : decode cX7_mixCode 36 = .ok (.istore_n 2, 1) := by decide +kernel
theorem dX7_mixCode_37 : decode cX7_mixCode 37 = .ok (.iload_n 2, 1) := by decide +kernel
theorem dX7_mixCode_38 : decode cX7_mixCode 38 = .ok (.aload_n 0, 1) := by decide +kernel
theorem dX7_mixCode_39 : decode cX7_mixCode 39 = .ok (.getfield 53, 3) := by decide +kernel
theorem dX7_mixCode_42 : decode cX7_mixCode 42 = .ok (.iload_n 1, 1) := by decide +kernel
theorem dX7_mixCode_43 : decode cX7_mixCode 43 = .ok (.iaload, 1) := by decide +kernel
theorem dX7_mixCode_44 : decode cX7_mixCode 44 = .ok (.if_icmp .ge 24, 3) := by decide +kernel
theorem dX7_mixCode_47 : decode cX7_mixCode 47 = .ok (.aload_n 0, 1) := by decide +kernel
theorem dX7_mixCode_48 : decode cX7_mixCode 48 = .ok (.aload_n 0, 1) := by decide +kernel
theorem dX7_mixCode_49 : decode cX7_mixCode 49 = .ok (.getfield 59, 3) := by decide +kernel
theorem dX7_mixCode_52 : decode cX7_mixCode 52 = .ok (.bipush 6, 2) := by decide +kernel
theorem dX7_mixCode_54 : decode cX7_mixCode 54 = .ok (.iload_n 1, 1) := by decide +kernel
theorem dX7_mixCode_55 : decode cX7_mixCode 55 = .ok (.imul, 1) := by decide +kernel
theorem dX7_mixCode_56 : decode cX7_mixCode 56 = .ok (.iload_n 2, 1) := by decide +kernel
theorem dX7_mixCode_57 : decode cX7_mixCode 57 = .ok (.iadd, 1) := by decide +kernel
theorem dX7_mixCode_58 : decode cX7_mixCode 58 = .ok (.iaload, 1) := by decide +kernel
theorem dX7_mixCode_59 : decode cX7_mixCode 59 = .ok (.invokevirtual 273, 3) := by decide +kernel
theorem dX7_mixCode_62 : decode cX7_mixCode 62 = .ok (.iinc 2 1, 3) := by decide +kernel
theorem dX7_mixCode_65 : decode cX7_mixCode 65 = .ok (.goto (-28), 3) := by decide +kernel
theorem dX7_mixCode_68 : decode cX7_mixCode 68 = .ok (.return_, 1) := by decide +kernel
theorem dX7_digest_0 : decode cX7_digest 0 = .ok (.aload_n 0, 1) := by decide +kernel
theorem dX7_digest_1 : decode cX7_digest 1 = .ok (.ldc2_w 276, 3) := by decide +kernel
theorem dX7_digest_4 : decode cX7_digest 4 = .ok (.putfield 270, 3) := by decide +kernel
theorem dX7_digest_7 : decode cX7_digest 7 = .ok (.iconst 0, 1) := by decide +kernel
theorem dX7_digest_8 : decode cX7_digest 8 = .ok (.istore_n 1, 1) := by decide +kernel
theorem dX7_digest_9 : decode cX7_digest 9 = .ok (.iload_n 1, 1) := by decide +kernel
theorem dX7_digest_10 : decode cX7_digest 10 = .ok (.iconst 5, 1) := by decide +kernel
theorem dX7_digest_11 : decode cX7_digest 11 = .ok (.if_icmp .gt 18, 3) := by decide +kernel
theorem dX7_digest_14 : decode cX7_digest 14 = .ok (.aload_n 0, 1) := by decide +kernel
theorem dX7_digest_15 : decode cX7_digest 15 = .ok (.aload_n 0, 1) := by decide +kernel
theorem dX7_digest_16 : decode cX7_digest 16 = .ok (.iload_n 1, 1) := by decide +kernel
theorem dX7_digest_17 : decode cX7_digest 17 = .ok (.invokevirtual 265, 3) := by decide +kernel
theorem dX7_digest_20 : decode cX7_digest 20 = .ok (.invokevirtual 273, 3) := by decide +kernel
theorem dX7_digest_23 : decode cX7_digest 23 = .ok (.iinc 1 1, 3) := by decide +kernel
theorem dX7_digest_26 : decode cX7_digest 26 = .ok (.goto (-17), 3) := by decide +kernel
theorem dX7_digest_29 : decode cX7_digest 29 = .ok (.iconst 0, 1) := by decide +kernel
theorem dX7_digest_30 : decode cX7_digest 30 = .ok (.istore_n 1, 1) := by decide +kernel
theorem dX7_digest_31 : decode cX7_digest 31 = .ok (.iload_n 1, 1) := by decide +kernel
theorem dX7_digest_32 : decode cX7_digest 32 = .ok (.bipush 6, 2) := by decide +kernel
theorem dX7_digest_34 : decode cX7_digest 34 = .ok (.if_icmp .ge 14, 3) := by decide +kernel
theorem dX7_digest_37 : decode cX7_digest 37 = .ok (.aload_n 0, 1) := by decide +kernel
theorem dX7_digest_38 : decode cX7_digest 38 = .ok (.iload_n 1, 1) := by decide +kernel
theorem dX7_digest_39 : decode cX7_digest 39 = .ok (.invokevirtual 278, 3) := by decide +kernel
theorem dX7_digest_42 : decode cX7_digest 42 = .ok (.iinc 1 1, 3) := by decide +kernel
theorem dX7_digest_45 : decode cX7_digest 45 = .ok (.goto (-14), 3) := by decide +kernel
theorem dX7_digest_48 : decode cX7_digest 48 = .ok (.iconst 0, 1) := by decide +kernel
theorem dX7_digest_49 : decode cX7_digest 49 = .ok (.istore_n 1, 1) := by decide +kernel
theorem dX7_digest_50 : decode cX7_digest 50 = .ok (.iload_n 1, 1) := by decide +kernel
theorem dX7_digest_51 : decode cX7_digest 51 = .ok (.iconst 4, 1) := by decide +kernel
theorem dX7_digest_52 : decode cX7_digest 52 = .ok (.if_icmp .ge 14, 3) := by decide +kernel
theorem dX7_digest_55 : decode cX7_digest 55 = .ok (.aload_n 0, 1) := by decide +kernel
theorem dX7_digest_56 : decode cX7_digest 56 = .ok (.iload_n 1, 1) := by decide +kernel
theorem dX7_digest_57 : decode cX7_digest 57 = .ok (.invokevirtual 281, 3) := by decide +kernel
theorem dX7_digest_60 : decode cX7_digest 60 = .ok (.iinc 1 1, 3) := by decide +kernel
theorem dX7_digest_63 : decode cX7_digest 63 = .ok (.goto (-13), 3) := by decide +kernel
theorem dX7_digest_66 : decode cX7_digest 66 = .ok (.iconst 0, 1) := by decide +kernel
theorem dX7_digest_67 : decode cX7_digest 67 = .ok (.istore_n 1, 1) := by decide +kernel
theorem dX7_digest_68 : decode cX7_digest 68 = .ok (.iload_n 1, 1) := by decide +kernel
theorem dX7_digest_69 : decode cX7_digest 69 = .ok (.bipush 6, 2) := by decide +kernel
theorem dX7_digest_71 : decode cX7_digest 71 = .ok (.if_icmp .ge 60, 3) := by decide +kernel
theorem dX7_digest_74 : decode cX7_digest 74 = .ok (.aload_n 0, 1) := by decide +kernel
theorem dX7_digest_75 : decode cX7_digest 75 = .ok (.aload_n 0, 1) := by decide +kernel
theorem dX7_digest_76 : decode cX7_digest 76 = .ok (.getfield 17, 3) := by decide +kernel
theorem dX7_digest_79 : decode cX7_digest 79 = .ok (.iload_n 1, 1) := by decide +kernel
theorem dX7_digest_80 : decode cX7_digest 80 = .ok (.iaload, 1) := by decide +kernel
theorem dX7_digest_81 : decode cX7_digest 81 = .ok (.ifCond .ge 7, 3) := by decide +kernel
theorem dX7_digest_84 : decode cX7_digest 84 = .ok (.iconst (-1), 1) := by decide +kernel
theorem dX7_digest_85 : decode cX7_digest 85 = .ok (.goto 9, 3) := by decide +kernel
theorem dX7_digest_88 : decode cX7_digest 88 = .ok (.aload_n 0, 1) := by decide +kernel
theorem dX7_digest_89 : decode cX7_digest 89 = .ok (.getfield 17, 3) := by decide +kernel
theorem dX7_digest_92 : decode cX7_digest 92 = .ok (.iload_n 1, 1) := by decide +kernel
theorem dX7_digest_93 : decode cX7_digest 93 = .ok (.iaload, 1) := by decide +kernel
theorem dX7_digest_94 : decode cX7_digest 94 = .ok (.invokevirtual 273, 3) := by decide +kernel
theorem dX7_digest_97 : decode cX7_digest 97 = .ok (.iconst 0, 1) := by decide +kernel
theorem dX7_digest_98 : decode cX7_digest 98 = .ok (.istore_n 2, 1) := by decide +kernel
theorem dX7_digest_99 : decode cX7_digest 99 = .ok (.iload_n 2, 1) := by decide +kernel
theorem dX7_digest_100 : decode cX7_digest 100 = .ok (.aload_n 0, 1) := by decide +kernel
theorem dX7_digest_101 : decode cX7_digest 101 = .ok (.getfield 17, 3) := by decide +kernel
theorem dX7_digest_104 : decode cX7_digest 104 = .ok (.iload_n 1, 1) := by decide +kernel
theorem dX7_digest_105 : decode cX7_digest 105 = .ok (.iaload, 1) := by decide +kernel
theorem dX7_digest_106 : decode cX7_digest 106 = .ok (.if_icmp .ge 19, 3) := by decide +kernel
theorem dX7_digest_109 : decode cX7_digest 109 = .ok (.aload_n 0, 1) := by decide +kernel
theorem dX7_digest_110 : decode cX7_digest 110 = .ok (.aload_n 0, 1) := by decide +kernel
theorem dX7_digest_111 : decode cX7_digest 111 = .ok (.iload_n 1, 1) := by decide +kernel
theorem dX7_digest_112 : decode cX7_digest 112 = .ok (.iload_n 2, 1) := by decide +kernel
theorem dX7_digest_113 : decode cX7_digest 113 = .ok (.invokevirtual 110, 3) := by decide +kernel
theorem dX7_digest_116 : decode cX7_digest 116 = .ok (.invokevirtual 273, 3) := by decide +kernel
theorem dX7_digest_119 : decode cX7_digest 119 = .ok (.iinc 2 1, 3) := by decide +kernel
theorem dX7_digest_122 : decode cX7_digest 122 = .ok (.goto (-23), 3) := by decide +kernel
theorem dX7_digest_125 : decode cX7_digest 125 = .ok (.iinc 1 1, 3) := by decide +kernel
theorem dX7_digest_128 : decode cX7_digest 128 = .ok (.goto (-60), 3) := by decide +kernel
theorem dX7_digest_131 : decode cX7_digest 131 = .ok (.iconst 0, 1) := by decide +kernel
theorem dX7_digest_132 : decode cX7_digest 132 = .ok (.istore_n 1, 1) := by decide +kernel
theorem dX7_digest_133 : decode cX7_digest 133 = .ok (.iload_n 1, 1) := by decide +kernel
theorem dX7_digest_134 : decode cX7_digest 134 = .ok (.iconst 4, 1) := by decide +kernel
theorem dX7_digest_135 : decode cX7_digest 135 = .ok (.if_icmp .ge 65, 3) := by decide +kernel
theorem dX7_digest_138 : decode cX7_digest 138 = .ok (.aload_n 0, 1) := by decide +kernel
theorem dX7_digest_139 : decode cX7_digest 139 = .ok (.aload_n 0, 1) := by decide +kernel
theorem dX7_digest_140 : decode cX7_digest 140 = .ok (.getfield 26, 3) := by decide +kernel
theorem dX7_digest_143 : decode cX7_digest 143 = .ok (.iload_n 1, 1) := by decide +kernel
theorem dX7_digest_144 : decode cX7_digest 144 = .ok (.iaload, 1) := by decide +kernel
theorem dX7_digest_145 : decode cX7_digest 145 = .ok (.ifCond .ge 7, 3) := by decide +kernel
theorem dX7_digest_148 : decode cX7_digest 148 = .ok (.iconst (-1), 1) := by decide +kernel
theorem dX7_digest_149 : decode cX7_digest 149 = .ok (.goto 9, 3) := by decide +kernel
theorem dX7_digest_152 : decode cX7_digest 152 = .ok (.aload_n 0, 1) := by decide +kernel
theorem dX7_digest_153 : decode cX7_digest 153 = .ok (.getfield 26, 3) := by decide +kernel
theorem dX7_digest_156 : decode cX7_digest 156 = .ok (.iload_n 1, 1) := by decide +kernel
theorem dX7_digest_157 : decode cX7_digest 157 = .ok (.iaload, 1) := by decide +kernel
theorem dX7_digest_158 : decode cX7_digest 158 = .ok (.invokevirtual 273, 3) := by decide +kernel
theorem dX7_digest_161 : decode cX7_digest 161 = .ok (.iconst 0, 1) := by decide +kernel
theorem dX7_digest_162 : decode cX7_digest 162 = .ok (.istore_n 2, 1) := by decide +kernel
theorem dX7_digest_163 : decode cX7_digest 163 = .ok (.iload_n 2, 1) := by decide +kernel
theorem dX7_digest_164 : decode cX7_digest 164 = .ok (.aload_n 0, 1) := by decide +kernel
theorem dX7_digest_165 : decode cX7_digest 165 = .ok (.getfield 26, 3) := by decide +kernel
theorem dX7_digest_168 : decode cX7_digest 168 = .ok (.iload_n 1, 1) := by decide +kernel
theorem dX7_digest_169 : decode cX7_digest 169 = .ok (.iaload, 1) := by decide +kernel
theorem dX7_digest_170 : decode cX7_digest 170 = .ok (.if_icmp .ge 24, 3) := by decide +kernel
theorem dX7_digest_173 : decode cX7_digest 173 = .ok (.aload_n 0, 1) := by decide +kernel
theorem dX7_digest_174 : decode cX7_digest 174 = .ok (.aload_n 0, 1) := by decide +kernel
theorem dX7_digest_175 : decode cX7_digest 175 = .ok (.getfield 29, 3) := by decide +kernel
theorem dX7_digest_178 : decode cX7_digest 178 = .ok (.bipush 60, 2) := by decide +kernel
theorem dX7_digest_180 : decode cX7_digest 180 = .ok (.iload_n 1, 1) := by decide +kernel
theorem dX7_digest_181 : decode cX7_digest 181 = .ok (.imul, 1) := by decide +kernel
theorem dX7_digest_182 : decode cX7_digest 182 = .ok (.iload_n 2, 1) := by decide +kernel
theorem dX7_digest_183 : decode cX7_digest 183 = .ok (.iadd, 1) := by decide +kernel
theorem dX7_digest_184 : decode cX7_digest 184 = .ok (.iaload, 1) := by decide +kernel
theorem dX7_digest_185 : decode cX7_digest 185 = .ok (.invokevirtual 273, 3) := by decide +kernel
theorem dX7_digest_188 : decode cX7_digest 188 = .ok (.iinc 2 1, 3) := by decide +kernel
theorem dX7_digest_191 : decode cX7_digest 191 = .ok (.goto (-28), 3) := by decide +kernel
theorem dX7_digest_194 : decode cX7_digest 194 = .ok (.iinc 1 1, 3) := by decide +kernel
theorem dX7_digest_197 : decode cX7_digest 197 = .ok (.goto (-64), 3) := by decide +kernel
theorem dX7_digest_200 : decode cX7_digest 200 = .ok (.aload_n 0, 1) := by decide +kernel
theorem dX7_digest_201 : decode cX7_digest 201 = .ok (.getfield 270, 3) := by decide +kernel
theorem dX7_digest_204 : decode cX7_digest 204 = .ok (.lreturn, 1) := by decide +kernel
theorem dJ6_bitCount_0f7a4_0 : decode cJ6_bitCount_0f7a4 0 = .ok (.iload_n 0, 1) := by decide +kernel
theorem dJ6_bitCount_0f7a4_1 : decode cJ6_bitCount_0f7a4 1 = .ok (.iload_n 0, 1) := by decide +kernel
theorem dJ6_bitCount_0f7a4_2 : decode cJ6_bitCount_0f7a4 2 = .ok (.iconst 1, 1) := by decide +kernel
theorem dJ6_bitCount_0f7a4_3 : decode cJ6_bitCount_0f7a4 3 = .ok (.iushr, 1) := by decide +kernel
theorem dJ6_bitCount_0f7a4_4 : decode cJ6_bitCount_0f7a4 4 = .ok (.ldc_w 265, 3) := by decide +kernel
theorem dJ6_bitCount_0f7a4_7 : decode cJ6_bitCount_0f7a4 7 = .ok (.iand, 1) := by decide +kernel
theorem dJ6_bitCount_0f7a4_8 : decode cJ6_bitCount_0f7a4 8 = .ok (.isub, 1) := by decide +kernel
theorem dJ6_bitCount_0f7a4_9 : decode cJ6_bitCount_0f7a4 9 = .ok (.istore_n 0, 1) := by decide +kernel
theorem dJ6_bitCount_0f7a4_10 : decode cJ6_bitCount_0f7a4 10 = .ok (.iload_n 0, 1) := by decide +kernel
theorem dJ6_bitCount_0f7a4_11 : decode cJ6_bitCount_0f7a4 11 = .ok (.ldc_w 266, 3) := by decide +kernel
theorem dJ6_bitCount_0f7a4_14 : decode cJ6_bitCount_0f7a4 14 = .ok (.iand, 1) := by decide +kernel
theorem dJ6_bitCount_0f7a4_15 : decode cJ6_bitCount_0f7a4 15 = .ok (.iload_n 0, 1) := by decide +kernel
theorem dJ6_bitCount_0f7a4_16 : decode cJ6_bitCount_0f7a4 16 = .ok (.iconst 2, 1) := by decide +kernel
theorem dJ6_bitCount_0f7a4_17 : decode cJ6_bitCount_0f7a4 17 = .ok (.iushr, 1) := by decide +kernel
theorem dJ6_bitCount_0f7a4_18 : decode cJ6_bitCount_0f7a4 18 = .ok (.ldc_w 266, 3) := by decide +kernel
theorem dJ6_bitCount_0f7a4_21 : decode cJ6_bitCount_0f7a4 21 = .ok (.iand, 1) := by decide +kernel
theorem dJ6_bitCount_0f7a4_22 : decode cJ6_bitCount_0f7a4 22 = .ok (.iadd, 1) := by decide +kernel
theorem dJ6_bitCount_0f7a4_23 : decode cJ6_bitCount_0f7a4 23 = .ok (.istore_n 0, 1) := by decide +kernel
theorem dJ6_bitCount_0f7a4_24 : decode cJ6_bitCount_0f7a4 24 = .ok (.iload_n 0, 1) := by decide +kernel
theorem dJ6_bitCount_0f7a4_25 : decode cJ6_bitCount_0f7a4 25 = .ok (.iload_n 0, 1) := by decide +kernel
theorem dJ6_bitCount_0f7a4_26 : decode cJ6_bitCount_0f7a4 26 = .ok (.iconst 4, 1) := by decide +kernel
theorem dJ6_bitCount_0f7a4_27 : decode cJ6_bitCount_0f7a4 27 = .ok (.iushr, 1) := by decide +kernel
theorem dJ6_bitCount_0f7a4_28 : decode cJ6_bitCount_0f7a4 28 = .ok (.iadd, 1) := by decide +kernel
theorem dJ6_bitCount_0f7a4_29 : decode cJ6_bitCount_0f7a4 29 = .ok (.ldc_w 267, 3) := by decide +kernel
theorem dJ6_bitCount_0f7a4_32 : decode cJ6_bitCount_0f7a4 32 = .ok (.iand, 1) := by decide +kernel
theorem dJ6_bitCount_0f7a4_33 : decode cJ6_bitCount_0f7a4 33 = .ok (.istore_n 0, 1) := by decide +kernel
theorem dJ6_bitCount_0f7a4_34 : decode cJ6_bitCount_0f7a4 34 = .ok (.iload_n 0, 1) := by decide +kernel
theorem dJ6_bitCount_0f7a4_35 : decode cJ6_bitCount_0f7a4 35 = .ok (.iload_n 0, 1) := by decide +kernel
theorem dJ6_bitCount_0f7a4_36 : decode cJ6_bitCount_0f7a4 36 = .ok (.bipush 8, 2) := by decide +kernel
theorem dJ6_bitCount_0f7a4_38 : decode cJ6_bitCount_0f7a4 38 = .ok (.iushr, 1) := by decide +kernel
theorem dJ6_bitCount_0f7a4_39 : decode cJ6_bitCount_0f7a4 39 = .ok (.iadd, 1) := by decide +kernel
theorem dJ6_bitCount_0f7a4_40 : decode cJ6_bitCount_0f7a4 40 = .ok (.istore_n 0, 1) := by decide +kernel
theorem dJ6_bitCount_0f7a4_41 : decode cJ6_bitCount_0f7a4 41 = .ok (.iload_n 0, 1) := by decide +kernel
theorem dJ6_bitCount_0f7a4_42 : decode cJ6_bitCount_0f7a4 42 = .ok (.iload_n 0, 1) := by decide +kernel
theorem dJ6_bitCount_0f7a4_43 : decode cJ6_bitCount_0f7a4 43 = .ok (.bipush 16, 2) := by decide +kernel
theorem dJ6_bitCount_0f7a4_45 : decode cJ6_bitCount_0f7a4 45 = .ok (.iushr, 1) := by decide +kernel
theorem dJ6_bitCount_0f7a4_46 : decode cJ6_bitCount_0f7a4 46 = .ok (.iadd, 1) := by decide +kernel
theorem dJ6_bitCount_0f7a4_47 : decode cJ6_bitCount_0f7a4 47 = .ok (.istore_n 0, 1) := by decide +kernel
theorem dJ6_bitCount_0f7a4_48 : decode cJ6_bitCount_0f7a4 48 = .ok (.iload_n 0, 1) := by decide +kernel
theorem dJ6_bitCount_0f7a4_49 : decode cJ6_bitCount_0f7a4 49 = .ok (.bipush 63, 2) := by decide +kernel
theorem dJ6_bitCount_0f7a4_51 : decode cJ6_bitCount_0f7a4 51 = .ok (.iand, 1) := by decide +kernel
theorem dJ6_bitCount_0f7a4_52 : decode cJ6_bitCount_0f7a4 52 = .ok (.ireturn, 1) := by decide +kernel
theorem dJ9_floorDiv_7cf53_0 : decode cJ9_floorDiv_7cf53 0 = .ok (.iload_n 0, 1) := by decide +kernel
theorem dJ9_floorDiv_7cf53_1 : decode cJ9_floorDiv_7cf53 1 = .ok (.iload_n 1, 1) := by decide +kernel
theorem dJ9_floorDiv_7cf53_2 : decode cJ9_floorDiv_7cf53 2 = .ok (.idiv, 1) := by decide +kernel
theorem dJ9_floorDiv_7cf53_3 : decode cJ9_floorDiv_7cf53 3 = .ok (.istore_n 2, 1) := by decide +kernel
theorem dJ9_floorDiv_7cf53_4 : decode cJ9_floorDiv_7cf53 4 = .ok (.iload_n 0, 1) := by decide +kernel
theorem dJ9_floorDiv_7cf53_5 : decode cJ9_floorDiv_7cf53 5 = .ok (.iload_n 1, 1) := by decide +kernel
theorem dJ9_floorDiv_7cf53_6 : decode cJ9_floorDiv_7cf53 6 = .ok (.ixor, 1) := by decide +kernel
theorem dJ9_floorDiv_7cf53_7 : decode cJ9_floorDiv_7cf53 7 = .ok (.ifCond .ge 14, 3) := by decide +kernel
theorem dJ9_floorDiv_7cf53_10 : decode cJ9_floorDiv_7cf53 10 = .ok (.iload_n 2, 1) := by decide +kernel
theorem dJ9_floorDiv_7cf53_11 : decode cJ9_floorDiv_7cf53 11 = .ok (.iload_n 1, 1) := by decide +kernel
theorem dJ9_floorDiv_7cf53_12 : decode cJ9_floorDiv_7cf53 12 = .ok (.imul, 1) := by decide +kernel
theorem dJ9_floorDiv_7cf53_13 : decode cJ9_floorDiv_7cf53 13 = .ok (.iload_n 0, 1) := by decide +kernel
theorem dJ9_floorDiv_7cf53_14 : decode cJ9_floorDiv_7cf53 14 = .ok (.if_icmp .eq 7, 3) := by decide +kernel
theorem dJ9_floorDiv_7cf53_17 : decode cJ9_floorDiv_7cf53 17 = .ok (.iload_n 2, 1) := by decide +kernel
theorem dJ9_floorDiv_7cf53_18 : decode cJ9_floorDiv_7cf53 18 = .ok (.iconst 1, 1) := by decide +kernel
theorem dJ9_floorDiv_7cf53_19 : decode cJ9_floorDiv_7cf53 19 = .ok (.isub, 1) := by decide +kernel
theorem dJ9_floorDiv_7cf53_20 : decode cJ9_floorDiv_7cf53 20 = .ok (.ireturn, 1) := by decide +kernel
theorem dJ9_floorDiv_7cf53_21 : decode cJ9_floorDiv_7cf53 21 = .ok (.iload_n 2, 1) := by decide +kernel
theorem dJ9_floorDiv_7cf53_22 : decode cJ9_floorDiv_7cf53 22 = .ok (.ireturn, 1) := by decide +kernel
theorem dJ9_abs_0f7a4_0 : decode cJ9_abs_0f7a4 0 = .ok (.iload_n 0, 1) := by decide +kernel
theorem dJ9_abs_0f7a4_1 : decode cJ9_abs_0f7a4 1 = .ok (.ifCond .ge 8, 3) := by decide +kernel
theorem dJ9_abs_0f7a4_4 : decode cJ9_abs_0f7a4 4 = .ok (.iload_n 0, 1) := by decide +kernel
theorem dJ9_abs_0f7a4_5 : decode cJ9_abs_0f7a4 5 = .ok (.ineg, 1) := by decide +kernel
theorem dJ9_abs_0f7a4_6 : decode cJ9_abs_0f7a4 6 = .ok (.goto 4, 3) := by decide +kernel
theorem dJ9_abs_0f7a4_9 : decode cJ9_abs_0f7a4 9 = .ok (.iload_n 0, 1) := by decide +kernel
theorem dJ9_abs_0f7a4_10 : decode cJ9_abs_0f7a4 10 = .ok (.ireturn, 1) := by decide +kernel
theorem dJ9_abs_067f4_0 : decode cJ9_abs_067f4 0 = .ok (.lload_n 0, 1) := by decide +kernel
theorem dJ9_abs_067f4_1 : decode cJ9_abs_067f4 1 = .ok (.lconst 0, 1) := by decide +kernel
theorem dJ9_abs_067f4_2 : decode cJ9_abs_067f4 2 = .ok (.lcmp, 1) := by decide +kernel
theorem dJ9_abs_067f4_3 : decode cJ9_abs_067f4 3 = .ok (.ifCond .ge 8, 3) := by decide +kernel
theorem dJ9_abs_067f4_6 : decode cJ9_abs_067f4 6 = .ok (.lload_n 0, 1) := by decide +kernel
theorem dJ9_abs_067f4_7 : decode cJ9_abs_067f4 7 = .ok (.lneg, 1) := by decide +kernel
theorem dJ9_abs_067f4_8 : decode cJ9_abs_067f4 8 = .ok (.goto 4, 3) := by decide +kernel
theorem dJ9_abs_067f4_11 : decode cJ9_abs_067f4 11 = .ok (.lload_n 0, 1) := by decide +kernel
theorem dJ9_abs_067f4_12 : decode cJ9_abs_067f4 12 = .ok (.lreturn, 1) := by decide +kernel
theorem dJ9_max_7cf53_0 : decode cJ9_max_7cf53 0 = .ok (.iload_n 0, 1) := by decide +kernel
theorem dJ9_max_7cf53_1 : decode cJ9_max_7cf53 1 = .ok (.iload_n 1, 1) := by decide +kernel
theorem dJ9_max_7cf53_2 : decode cJ9_max_7cf53 2 = .ok (.if_icmp .lt 7, 3) := by decide +kernel
theorem dJ9_max_7cf53_5 : decode cJ9_max_7cf53 5 = .ok (.iload_n 0, 1) := by decide +kernel
theorem dJ9_max_7cf53_6 : decode cJ9_max_7cf53 6 = .ok (.goto 4, 3) := by decide +kernel
theorem dJ9_max_7cf53_9 : decode cJ9_max_7cf53 9 = .ok (.iload_n 1, 1) := by decide +kernel
theorem dJ9_max_7cf53_10 : decode cJ9_max_7cf53 10 = .ok (.ireturn, 1) := by decide +kernel
theorem dJ9_min_7cf53_0 : decode cJ9_min_7cf53 0 = .ok (.iload_n 0, 1) := by decide +kernel
theorem dJ9_min_7cf53_1 : decode cJ9_min_7cf53 1 = .ok (.iload_n 1, 1) := by decide +kernel
theorem dJ9_min_7cf53_2 : decode cJ9_min_7cf53 2 = .ok (.if_icmp .gt 7, 3) := by decide +kernel
theorem dJ9_min_7cf53_5 : decode cJ9_min_7cf53 5 = .ok (.iload_n 0, 1) := by decide +kernel
theorem dJ9_min_7cf53_6 : decode cJ9_min_7cf53 6 = .ok (.goto 4, 3) := by decide +kernel
theorem dJ9_min_7cf53_9 : decode cJ9_min_7cf53 9 = .ok (.iload_n 1, 1) := by decide +kernel
theorem dJ9_min_7cf53_10 : decode cJ9_min_7cf53 10 = .ok (.ireturn, 1) := by decide +kernel
theorem dJ7_rangeCheck_23922_0 : decode cJ7_rangeCheck_23922 0 = .ok (.iload_n 1, 1) := by decide +kernel
theorem dJ7_rangeCheck_23922_1 : decode cJ7_rangeCheck_23922 1 = .ok (.iload_n 2, 1) := by decide +kernel
theorem dJ7_rangeCheck_23922_2 : decode cJ7_rangeCheck_23922 2 = .ok (.if_icmp .le 44, 3) := by decide +kernel
theorem dJ7_rangeCheck_23922_5 : decode cJ7_rangeCheck_23922 5 = .ok (.new 43, 3) := by decide +kernel
theorem dJ7_rangeCheck_23922_8 : decode cJ7_rangeCheck_23922 8 = .ok (.dup, 1) := by decide +kernel
theorem dJ7_rangeCheck_23922_9 : decode cJ7_rangeCheck_23922 9 = .ok (.new 45, 3) := by decide +kernel
theorem dJ7_rangeCheck_23922_12 : decode cJ7_rangeCheck_23922 12 = .ok (.dup, 1) := by decide +kernel
theorem dJ7_rangeCheck_23922_13 : decode cJ7_rangeCheck_23922 13 = .ok (.invokespecial 47, 3) := by decide +kernel
theorem dJ7_rangeCheck_23922_16 : decode cJ7_rangeCheck_23922 16 = .ok (.ldc 48, 2) := by decide +kernel
theorem dJ7_rangeCheck_23922_18 : decode cJ7_rangeCheck_23922 18 = .ok (.invokevirtual 50, 3) := by decide +kernel
theorem dJ7_rangeCheck_23922_21 : decode cJ7_rangeCheck_23922 21 = .ok (.iload_n 1, 1) := by decide +kernel
theorem dJ7_rangeCheck_23922_22 : decode cJ7_rangeCheck_23922 22 = .ok (.invokevirtual 54, 3) := by decide +kernel
theorem dJ7_rangeCheck_23922_25 : decode cJ7_rangeCheck_23922 25 = .ok (.ldc 57, 2) := by decide +kernel
theorem dJ7_rangeCheck_23922_27 : decode cJ7_rangeCheck_23922 27 = .ok (.invokevirtual 50, 3) := by decide +kernel
theorem dJ7_rangeCheck_23922_30 : decode cJ7_rangeCheck_23922 30 = .ok (.iload_n 2, 1) := by decide +kernel
theorem dJ7_rangeCheck_23922_31 : decode cJ7_rangeCheck_23922 31 = .ok (.invokevirtual 54, 3) := by decide +kernel
theorem dJ7_rangeCheck_23922_34 : decode cJ7_rangeCheck_23922 34 = .ok (.ldc 59, 2) := by decide +kernel
theorem dJ7_rangeCheck_23922_36 : decode cJ7_rangeCheck_23922 36 = .ok (.invokevirtual 50, 3) := by decide +kernel
theorem dJ7_rangeCheck_23922_39 : decode cJ7_rangeCheck_23922 39 = .ok (.invokevirtual 61, 3) := by decide +kernel
theorem dJ7_rangeCheck_23922_42 : decode cJ7_rangeCheck_23922 42 = .ok (.invokespecial 65, 3) := by decide +kernel
theorem dJ7_rangeCheck_23922_45 : decode cJ7_rangeCheck_23922 45 = .ok (.athrow, 1) := by decide +kernel
theorem dJ7_rangeCheck_23922_46 : decode cJ7_rangeCheck_23922 46 = .ok (.iload_n 1, 1) := by decide +kernel
theorem dJ7_rangeCheck_23922_47 : decode cJ7_rangeCheck_23922 47 = .ok (.ifCond .ge 12, 3) := by decide +kernel
theorem dJ7_rangeCheck_23922_50 : decode cJ7_rangeCheck_23922 50 = .ok (.new 68, 3) := by decide +kernel
theorem dJ7_rangeCheck_23922_53 : decode cJ7_rangeCheck_23922 53 = .ok (.dup, 1) := by decide +kernel
theorem dJ7_rangeCheck_23922_54 : decode cJ7_rangeCheck_23922 54 = .ok (.iload_n 1, 1) := by decide +kernel
theorem dJ7_rangeCheck_23922_55 : decode cJ7_rangeCheck_23922 55 = .ok (.invokespecial 70, 3) := by decide +kernel
theorem dJ7_rangeCheck_23922_58 : decode cJ7_rangeCheck_23922 58 = .ok (.athrow, 1) := by decide +kernel
theorem dJ7_rangeCheck_23922_59 : decode cJ7_rangeCheck_23922 59 = .ok (.iload_n 2, 1) := by decide +kernel
theorem dJ7_rangeCheck_23922_60 : decode cJ7_rangeCheck_23922 60 = .ok (.iload_n 0, 1) := by decide +kernel
theorem dJ7_rangeCheck_23922_61 : decode cJ7_rangeCheck_23922 61 = .ok (.if_icmp .le 12, 3) := by decide +kernel
theorem dJ7_rangeCheck_23922_64 : decode cJ7_rangeCheck_23922 64 = .ok (.new 68, 3) := by decide +kernel
theorem dJ7_rangeCheck_23922_67 : decode cJ7_rangeCheck_23922 67 = .ok (.dup, 1) := by decide +kernel
theorem dJ7_rangeCheck_23922_68 : decode cJ7_rangeCheck_23922 68 = .ok (.iload_n 2, 1) := by decide +kernel
theorem dJ7_rangeCheck_23922_69 : decode cJ7_rangeCheck_23922 69 = .ok (.invokespecial 70, 3) := by decide +kernel
theorem dJ7_rangeCheck_23922_72 : decode cJ7_rangeCheck_23922 72 = .ok (.athrow, 1) := by decide +kernel
theorem dJ7_rangeCheck_23922_73 : decode cJ7_rangeCheck_23922 73 = .ok (.return_, 1) := by decide +kernel
theorem dJ7_fill_bad5a_0 : decode cJ7_fill_bad5a 0 = .ok (.aload_n 0, 1) := by decide +kernel
theorem dJ7_fill_bad5a_1 : decode cJ7_fill_bad5a 1 = .ok (.arraylength, 1) := by decide +kernel
theorem dJ7_fill_bad5a_2 : decode cJ7_fill_bad5a 2 = .ok (.iload_n 1, 1) := by decide +kernel
theorem dJ7_fill_bad5a_3 : decode cJ7_fill_bad5a 3 = .ok (.iload_n 2, 1) := by decide +kernel
theorem dJ7_fill_bad5a_4 : decode cJ7_fill_bad5a 4 = .ok (.invokestatic 13, 3) := by decide +kernel
theorem dJ7_fill_bad5a_7 : decode cJ7_fill_bad5a 7 = .ok (.iload_n 1, 1) := by decide +kernel
theorem dJ7_fill_bad5a_8 : decode cJ7_fill_bad5a 8 = .ok (.istore 5, 2) := by decide +kernel
theorem dJ7_fill_bad5a_10 : decode cJ7_fill_bad5a 10 = .ok (.iload 5, 2) := by decide +kernel
theorem dJ7_fill_bad5a_12 : decode cJ7_fill_bad5a 12 = .ok (.iload_n 2, 1) := by decide +kernel
theorem dJ7_fill_bad5a_13 : decode cJ7_fill_bad5a 13 = .ok (.if_icmp .ge 14, 3) := by decide +kernel
theorem dJ7_fill_bad5a_16 : decode cJ7_fill_bad5a 16 = .ok (.aload_n 0, 1) := by decide +kernel
theorem dJ7_fill_bad5a_17 : decode cJ7_fill_bad5a 17 = .ok (.iload 5, 2) := by decide +kernel
theorem dJ7_fill_bad5a_19 : decode cJ7_fill_bad5a 19 = .ok (.lload_n 3, 1) := by decide +kernel
theorem dJ7_fill_bad5a_20 : decode cJ7_fill_bad5a 20 = .ok (.lastore, 1) := by decide +kernel
theorem dJ7_fill_bad5a_21 : decode cJ7_fill_bad5a 21 = .ok (.iinc 5 1, 3) := by decide +kernel
theorem dJ7_fill_bad5a_24 : decode cJ7_fill_bad5a 24 = .ok (.goto (-14), 3) := by decide +kernel
theorem dJ7_fill_bad5a_27 : decode cJ7_fill_bad5a 27 = .ok (.return_, 1) := by decide +kernel
theorem dJ7_fill_53178_0 : decode cJ7_fill_53178 0 = .ok (.iconst 0, 1) := by decide +kernel
theorem dJ7_fill_53178_1 : decode cJ7_fill_53178 1 = .ok (.istore_n 2, 1) := by decide +kernel
theorem dJ7_fill_53178_2 : decode cJ7_fill_53178 2 = .ok (.aload_n 0, 1) := by decide +kernel
theorem dJ7_fill_53178_3 : decode cJ7_fill_53178 3 = .ok (.arraylength, 1) := by decide +kernel
theorem dJ7_fill_53178_4 : decode cJ7_fill_53178 4 = .ok (.istore_n 3, 1) := by decide +kernel
theorem dJ7_fill_53178_5 : decode cJ7_fill_53178 5 = .ok (.iload_n 2, 1) := by decide +kernel
theorem dJ7_fill_53178_6 : decode cJ7_fill_53178 6 = .ok (.iload_n 3, 1) := by decide +kernel
theorem dJ7_fill_53178_7 : decode cJ7_fill_53178 7 = .ok (.if_icmp .ge 13, 3) := by decide +kernel
theorem dJ7_fill_53178_10 : decode cJ7_fill_53178 10 = .ok (.aload_n 0, 1) := by decide +kernel
theorem dJ7_fill_53178_11 : decode cJ7_fill_53178 11 = .ok (.iload_n 2, 1) := by decide +kernel
theorem dJ7_fill_53178_12 : decode cJ7_fill_53178 12 = .ok (.iload_n 1, 1) := by decide +kernel
theorem dJ7_fill_53178_13 : decode cJ7_fill_53178 13 = .ok (.iastore, 1) := by decide +kernel
theorem dJ7_fill_53178_14 : decode cJ7_fill_53178 14 = .ok (.iinc 2 1, 3) := by decide +kernel
theorem dJ7_fill_53178_17 : decode cJ7_fill_53178 17 = .ok (.goto (-12), 3) := by decide +kernel
theorem dJ7_fill_53178_20 : decode cJ7_fill_53178 20 = .ok (.return_, 1) := by decide +kernel
theorem dJ7_fill_fda19_0 : decode cJ7_fill_fda19 0 = .ok (.aload_n 0, 1) := by decide +kernel
theorem dJ7_fill_fda19_1 : decode cJ7_fill_fda19 1 = .ok (.arraylength, 1) := by decide +kernel
theorem dJ7_fill_fda19_2 : decode cJ7_fill_fda19 2 = .ok (.iload_n 1, 1) := by decide +kernel
theorem dJ7_fill_fda19_3 : decode cJ7_fill_fda19 3 = .ok (.iload_n 2, 1) := by decide +kernel
theorem dJ7_fill_fda19_4 : decode cJ7_fill_fda19 4 = .ok (.invokestatic 13, 3) := by decide +kernel
theorem dJ7_fill_fda19_7 : decode cJ7_fill_fda19 7 = .ok (.iload_n 1, 1) := by decide +kernel
theorem dJ7_fill_fda19_8 : decode cJ7_fill_fda19 8 = .ok (.istore 4, 2) := by decide +kernel
theorem dJ7_fill_fda19_10 : decode cJ7_fill_fda19 10 = .ok (.iload 4, 2) := by decide +kernel
theorem dJ7_fill_fda19_12 : decode cJ7_fill_fda19 12 = .ok (.iload_n 2, 1) := by decide +kernel
theorem dJ7_fill_fda19_13 : decode cJ7_fill_fda19 13 = .ok (.if_icmp .ge 14, 3) := by decide +kernel
theorem dJ7_fill_fda19_16 : decode cJ7_fill_fda19 16 = .ok (.aload_n 0, 1) := by decide +kernel
theorem dJ7_fill_fda19_17 : decode cJ7_fill_fda19 17 = .ok (.iload 4, 2) := by decide +kernel
theorem dJ7_fill_fda19_19 : decode cJ7_fill_fda19 19 = .ok (.iload_n 3, 1) := by decide +kernel
theorem dJ7_fill_fda19_20 : decode cJ7_fill_fda19 20 = .ok (.iastore, 1) := by decide +kernel
theorem dJ7_fill_fda19_21 : decode cJ7_fill_fda19 21 = .ok (.iinc 4 1, 3) := by decide +kernel
theorem dJ7_fill_fda19_24 : decode cJ7_fill_fda19 24 = .ok (.goto (-14), 3) := by decide +kernel
theorem dJ7_fill_fda19_27 : decode cJ7_fill_fda19 27 = .ok (.return_, 1) := by decide +kernel
theorem dL_law_0 : decode cL_law 0 = .ok (.new 7, 3) := by decide +kernel
theorem dL_law_3 : decode cL_law 3 = .ok (.dup, 1) := by decide +kernel
theorem dL_law_4 : decode cL_law 4 = .ok (.invokespecial 9, 3) := by decide +kernel
theorem dL_law_7 : decode cL_law 7 = .ok (.astore_n 1, 1) := by decide +kernel
theorem dL_law_8 : decode cL_law 8 = .ok (.new 10, 3) := by decide +kernel
theorem dL_law_11 : decode cL_law 11 = .ok (.dup, 1) := by decide +kernel
theorem dL_law_12 : decode cL_law 12 = .ok (.invokespecial 12, 3) := by decide +kernel
theorem dL_law_15 : decode cL_law 15 = .ok (.astore_n 2, 1) := by decide +kernel
theorem dL_law_16 : decode cL_law 16 = .ok (.iconst 0, 1) := by decide +kernel
theorem dL_law_17 : decode cL_law 17 = .ok (.istore_n 3, 1) := by decide +kernel
theorem dL_law_18 : decode cL_law 18 = .ok (.iload_n 3, 1) := by decide +kernel
theorem dL_law_19 : decode cL_law 19 = .ok (.aload_n 0, 1) := by decide +kernel
theorem dL_law_20 : decode cL_law 20 = .ok (.arraylength, 1) := by decide +kernel
theorem dL_law_21 : decode cL_law 21 = .ok (.bipush 6, 2) := by decide +kernel
theorem dL_law_23 : decode cL_law 23 = .ok (.isub, 1) := by decide +kernel
theorem dL_law_24 : decode cL_law 24 = .ok (.if_icmp .gt 1939, 3) := by decide +kernel
theorem dL_law_27 : decode cL_law 27 = .ok (.aload_n 0, 1) := by decide +kernel
theorem dL_law_28 : decode cL_law 28 = .ok (.iload_n 3, 1) := by decide +kernel
theorem dL_law_29 : decode cL_law 29 = .ok (.iaload, 1) := by decide +kernel
theorem dL_law_30 : decode cL_law 30 = .ok (.bipush 63, 2) := by decide +kernel
theorem dL_law_32 : decode cL_law 32 = .ok (.iand, 1) := by decide +kernel
theorem dL_law_33 : decode cL_law 33 = .ok (.tableswitch 1924 0 49 #[215, 248, 291, 324, 347, 410, 433, 466, 509, 552, 621, 664, 697, 720, 753, 796, 819, 852, 895, 918, 951, 984, 1017, 1070, 1123, 1186, 1209, 1232, 1295, 1318, 1361, 1404, 1437, 1470, 1523, 1566, 1609, 1632, 1665, 1698, 1731, 1754, 1777, 1810, 1823, 1837, 1851, 1874, 1887, 1910], 215) := by decide +kernel
theorem dL_law_248 : decode cL_law 248 = .ok (.aload_n 1, 1) := by decide +kernel
theorem dL_law_249 : decode cL_law 249 = .ok (.aload_n 0, 1) := by decide +kernel
theorem dL_law_250 : decode cL_law 250 = .ok (.iload_n 3, 1) := by decide +kernel
theorem dL_law_251 : decode cL_law 251 = .ok (.iconst 1, 1) := by decide +kernel
theorem dL_law_252 : decode cL_law 252 = .ok (.iadd, 1) := by decide +kernel
theorem dL_law_253 : decode cL_law 253 = .ok (.iaload, 1) := by decide +kernel
theorem dL_law_254 : decode cL_law 254 = .ok (.aload_n 0, 1) := by decide +kernel
theorem dL_law_255 : decode cL_law 255 = .ok (.iload_n 3, 1) := by decide +kernel
theorem dL_law_256 : decode cL_law 256 = .ok (.iconst 2, 1) := by decide +kernel
theorem dL_law_257 : decode cL_law 257 = .ok (.iadd, 1) := by decide +kernel
theorem dL_law_258 : decode cL_law 258 = .ok (.iaload, 1) := by decide +kernel
theorem dL_law_259 : decode cL_law 259 = .ok (.invokevirtual 13, 3) := by decide +kernel
theorem dL_law_262 : decode cL_law 262 = .ok (.aload_n 2, 1) := by decide +kernel
theorem dL_law_263 : decode cL_law 263 = .ok (.aload_n 0, 1) := by decide +kernel
theorem dL_law_264 : decode cL_law 264 = .ok (.iload_n 3, 1) := by decide +kernel
theorem dL_law_265 : decode cL_law 265 = .ok (.iconst 1, 1) := by decide +kernel
theorem dL_law_266 : decode cL_law 266 = .ok (.iadd, 1) := by decide +kernel
theorem dL_law_267 : decode cL_law 267 = .ok (.iaload, 1) := by decide +kernel
theorem dL_law_268 : decode cL_law 268 = .ok (.aload_n 0, 1) := by decide +kernel
theorem dL_law_269 : decode cL_law 269 = .ok (.iload_n 3, 1) := by decide +kernel
theorem dL_law_270 : decode cL_law 270 = .ok (.iconst 2, 1) := by decide +kernel
theorem dL_law_271 : decode cL_law 271 = .ok (.iadd, 1) := by decide +kernel
theorem dL_law_272 : decode cL_law 272 = .ok (.iaload, 1) := by decide +kernel
theorem dL_law_273 : decode cL_law 273 = .ok (.invokevirtual 17, 3) := by decide +kernel
theorem dL_law_276 : decode cL_law 276 = .ok (.if_icmp .eq 1681, 3) := by decide +kernel
theorem dL_law_279 : decode cL_law 279 = .ok (.iconst 0, 1) := by decide +kernel
theorem dL_law_280 : decode cL_law 280 = .ok (.ireturn, 1) := by decide +kernel
theorem dL_law_281 : decode cL_law 281 = .ok (.aload_n 1, 1) := by decide +kernel
theorem dL_law_282 : decode cL_law 282 = .ok (.aload_n 0, 1) := by decide +kernel
theorem dL_law_283 : decode cL_law 283 = .ok (.iload_n 3, 1) := by decide +kernel
theorem dL_law_284 : decode cL_law 284 = .ok (.iconst 1, 1) := by decide +kernel
theorem dL_law_285 : decode cL_law 285 = .ok (.iadd, 1) := by decide +kernel
theorem dL_law_286 : decode cL_law 286 = .ok (.iaload, 1) := by decide +kernel
theorem dL_law_287 : decode cL_law 287 = .ok (.aload_n 0, 1) := by decide +kernel
theorem dL_law_288 : decode cL_law 288 = .ok (.iload_n 3, 1) := by decide +kernel
theorem dL_law_289 : decode cL_law 289 = .ok (.iconst 2, 1) := by decide +kernel
theorem dL_law_290 : decode cL_law 290 = .ok (.iadd, 1) := by decide +kernel
theorem dL_law_291 : decode cL_law 291 = .ok (.iaload, 1) := by decide +kernel
theorem dL_law_292 : decode cL_law 292 = .ok (.aload_n 0, 1) := by decide +kernel
theorem dL_law_293 : decode cL_law 293 = .ok (.iload_n 3, 1) := by decide +kernel
theorem dL_law_294 : decode cL_law 294 = .ok (.iconst 3, 1) := by decide +kernel
theorem dL_law_295 : decode cL_law 295 = .ok (.iadd, 1) := by decide +kernel
theorem dL_law_296 : decode cL_law 296 = .ok (.iaload, 1) := by decide +kernel
theorem dL_law_297 : decode cL_law 297 = .ok (.invokevirtual 18, 3) := by decide +kernel
theorem dL_law_300 : decode cL_law 300 = .ok (.aload_n 2, 1) := by decide +kernel
theorem dL_law_301 : decode cL_law 301 = .ok (.aload_n 0, 1) := by decide +kernel
theorem dL_law_302 : decode cL_law 302 = .ok (.iload_n 3, 1) := by decide +kernel
theorem dL_law_303 : decode cL_law 303 = .ok (.iconst 1, 1) := by decide +kernel
theorem dL_law_304 : decode cL_law 304 = .ok (.iadd, 1) := by decide +kernel
theorem dL_law_305 : decode cL_law 305 = .ok (.iaload, 1) := by decide +kernel
theorem dL_law_306 : decode cL_law 306 = .ok (.aload_n 0, 1) := by decide +kernel
theorem dL_law_307 : decode cL_law 307 = .ok (.iload_n 3, 1) := by decide +kernel
theorem dL_law_308 : decode cL_law 308 = .ok (.iconst 2, 1) := by decide +kernel
theorem dL_law_309 : decode cL_law 309 = .ok (.iadd, 1) := by decide +kernel
theorem dL_law_310 : decode cL_law 310 = .ok (.iaload, 1) := by decide +kernel
theorem dL_law_311 : decode cL_law 311 = .ok (.aload_n 0, 1) := by decide +kernel
theorem dL_law_312 : decode cL_law 312 = .ok (.iload_n 3, 1) := by decide +kernel
theorem dL_law_313 : decode cL_law 313 = .ok (.iconst 3, 1) := by decide +kernel
theorem dL_law_314 : decode cL_law 314 = .ok (.iadd, 1) := by decide +kernel
theorem dL_law_315 : decode cL_law 315 = .ok (.iaload, 1) := by decide +kernel
theorem dL_law_316 : decode cL_law 316 = .ok (.invokevirtual 22, 3) := by decide +kernel
theorem dL_law_319 : decode cL_law 319 = .ok (.if_icmp .eq 1638, 3) := by decide +kernel
theorem dL_law_322 : decode cL_law 322 = .ok (.iconst 0, 1) := by decide +kernel
theorem dL_law_323 : decode cL_law 323 = .ok (.ireturn, 1) := by decide +kernel
theorem dL_law_324 : decode cL_law 324 = .ok (.aload_n 1, 1) := by decide +kernel
theorem dL_law_325 : decode cL_law 325 = .ok (.aload_n 0, 1) := by decide +kernel
theorem dL_law_326 : decode cL_law 326 = .ok (.iload_n 3, 1) := by decide +kernel
theorem dL_law_327 : decode cL_law 327 = .ok (.iconst 1, 1) := by decide +kernel
theorem dL_law_328 : decode cL_law 328 = .ok (.iadd, 1) := by decide +kernel
theorem dL_law_329 : decode cL_law 329 = .ok (.iaload, 1) := by decide +kernel
theorem dL_law_330 : decode cL_law 330 = .ok (.aload_n 0, 1) := by decide +kernel
theorem dL_law_331 : decode cL_law 331 = .ok (.iload_n 3, 1) := by decide +kernel
theorem dL_law_332 : decode cL_law 332 = .ok (.iconst 2, 1) := by decide +kernel
theorem dL_law_333 : decode cL_law 333 = .ok (.iadd, 1) := by decide +kernel
theorem dL_law_334 : decode cL_law 334 = .ok (.iaload, 1) := by decide +kernel
theorem dL_law_335 : decode cL_law 335 = .ok (.invokevirtual 23, 3) := by decide +kernel
theorem dL_law_338 : decode cL_law 338 = .ok (.aload_n 2, 1) := by decide +kernel
theorem dL_law_339 : decode cL_law 339 = .ok (.aload_n 0, 1) := by decide +kernel
theorem dL_law_340 : decode cL_law 340 = .ok (.iload_n 3, 1) := by decide +kernel
theorem dL_law_341 : decode cL_law 341 = .ok (.iconst 1, 1) := by decide +kernel
theorem dL_law_342 : decode cL_law 342 = .ok (.iadd, 1) := by decide +kernel
theorem dL_law_343 : decode cL_law 343 = .ok (.iaload, 1) := by decide +kernel
theorem dL_law_344 : decode cL_law 344 = .ok (.aload_n 0, 1) := by decide +kernel
theorem dL_law_345 : decode cL_law 345 = .ok (.iload_n 3, 1) := by decide +kernel
theorem dL_law_346 : decode cL_law 346 = .ok (.iconst 2, 1) := by decide +kernel
theorem dL_law_347 : decode cL_law 347 = .ok (.iadd, 1) := by decide +kernel
theorem dL_law_348 : decode cL_law 348 = .ok (.iaload, 1) := by decide +kernel
theorem dL_law_349 : decode cL_law 349 = .ok (.invokevirtual 26, 3) := by decide +kernel
theorem dL_law_352 : decode cL_law 352 = .ok (.if_icmp .eq 1605, 3) := by decide +kernel
theorem dL_law_355 : decode cL_law 355 = .ok (.iconst 0, 1) := by decide +kernel
theorem dL_law_356 : decode cL_law 356 = .ok (.ireturn, 1) := by decide +kernel
theorem dL_law_357 : decode cL_law 357 = .ok (.aload_n 1, 1) := by decide +kernel
theorem dL_law_358 : decode cL_law 358 = .ok (.aload_n 0, 1) := by decide +kernel
theorem dL_law_359 : decode cL_law 359 = .ok (.iload_n 3, 1) := by decide +kernel
theorem dL_law_360 : decode cL_law 360 = .ok (.iconst 1, 1) := by decide +kernel
theorem dL_law_361 : decode cL_law 361 = .ok (.iadd, 1) := by decide +kernel
theorem dL_law_362 : decode cL_law 362 = .ok (.iaload, 1) := by decide +kernel
theorem dL_law_363 : decode cL_law 363 = .ok (.invokevirtual 27, 3) := by decide +kernel
theorem dL_law_366 : decode cL_law 366 = .ok (.aload_n 2, 1) := by decide +kernel
theorem dL_law_367 : decode cL_law 367 = .ok (.aload_n 0, 1) := by decide +kernel
theorem dL_law_368 : decode cL_law 368 = .ok (.iload_n 3, 1) := by decide +kernel
theorem dL_law_369 : decode cL_law 369 = .ok (.iconst 1, 1) := by decide +kernel
theorem dL_law_370 : decode cL_law 370 = .ok (.iadd, 1) := by decide +kernel
theorem dL_law_371 : decode cL_law 371 = .ok (.iaload, 1) := by decide +kernel
theorem dL_law_372 : decode cL_law 372 = .ok (.invokevirtual 31, 3) := by decide +kernel
theorem dL_law_375 : decode cL_law 375 = .ok (.if_icmp .eq 1582, 3) := by decide +kernel
theorem dL_law_378 : decode cL_law 378 = .ok (.iconst 0, 1) := by decide +kernel
theorem dL_law_379 : decode cL_law 379 = .ok (.ireturn, 1) := by decide +kernel
theorem dL_law_380 : decode cL_law 380 = .ok (.aload_n 1, 1) := by decide +kernel
theorem dL_law_381 : decode cL_law 381 = .ok (.aload_n 0, 1) := by decide +kernel
theorem dL_law_382 : decode cL_law 382 = .ok (.iload_n 3, 1) := by decide +kernel
theorem dL_law_383 : decode cL_law 383 = .ok (.iconst 1, 1) := by decide +kernel
theorem dL_law_384 : decode cL_law 384 = .ok (.iadd, 1) := by decide +kernel
theorem dL_law_385 : decode cL_law 385 = .ok (.iaload, 1) := by decide +kernel
theorem dL_law_386 : decode cL_law 386 = .ok (.aload_n 0, 1) := by decide +kernel
theorem dL_law_387 : decode cL_law 387 = .ok (.iload_n 3, 1) := by decide +kernel
theorem dL_law_388 : decode cL_law 388 = .ok (.iconst 2, 1) := by decide +kernel
theorem dL_law_389 : decode cL_law 389 = .ok (.iadd, 1) := by decide +kernel
theorem dL_law_390 : decode cL_law 390 = .ok (.iaload, 1) := by decide +kernel
theorem dL_law_391 : decode cL_law 391 = .ok (.aload_n 0, 1) := by decide +kernel
theorem dL_law_392 : decode cL_law 392 = .ok (.iload_n 3, 1) := by decide +kernel
theorem dL_law_393 : decode cL_law 393 = .ok (.iconst 3, 1) := by decide +kernel
theorem dL_law_394 : decode cL_law 394 = .ok (.iadd, 1) := by decide +kernel
theorem dL_law_395 : decode cL_law 395 = .ok (.iaload, 1) := by decide +kernel
theorem dL_law_396 : decode cL_law 396 = .ok (.aload_n 0, 1) := by decide +kernel
theorem dL_law_397 : decode cL_law 397 = .ok (.iload_n 3, 1) := by decide +kernel
theorem dL_law_398 : decode cL_law 398 = .ok (.iconst 4, 1) := by decide +kernel
theorem dL_law_399 : decode cL_law 399 = .ok (.iadd, 1) := by decide +kernel
theorem dL_law_400 : decode cL_law 400 = .ok (.iaload, 1) := by decide +kernel
theorem dL_law_401 : decode cL_law 401 = .ok (.aload_n 0, 1) := by decide +kernel
theorem dL_law_402 : decode cL_law 402 = .ok (.iload_n 3, 1) := by decide +kernel
theorem dL_law_403 : decode cL_law 403 = .ok (.iconst 5, 1) := by decide +kernel
theorem dL_law_404 : decode cL_law 404 = .ok (.iadd, 1) := by decide +kernel
theorem dL_law_405 : decode cL_law 405 = .ok (.iaload, 1) := by decide +kernel
theorem dL_law_406 : decode cL_law 406 = .ok (.invokevirtual 32, 3) := by decide +kernel
theorem dL_law_409 : decode cL_law 409 = .ok (.aload_n 2, 1) := by decide +kernel
theorem dL_law_410 : decode cL_law 410 = .ok (.aload_n 0, 1) := by decide +kernel
theorem dL_law_411 : decode cL_law 411 = .ok (.iload_n 3, 1) := by decide +kernel
theorem dL_law_412 : decode cL_law 412 = .ok (.iconst 1, 1) := by decide +kernel
theorem dL_law_413 : decode cL_law 413 = .ok (.iadd, 1) := by decide +kernel
theorem dL_law_414 : decode cL_law 414 = .ok (.iaload, 1) := by decide +kernel
theorem dL_law_415 : decode cL_law 415 = .ok (.aload_n 0, 1) := by decide +kernel
theorem dL_law_416 : decode cL_law 416 = .ok (.iload_n 3, 1) := by decide +kernel
theorem dL_law_417 : decode cL_law 417 = .ok (.iconst 2, 1) := by decide +kernel
theorem dL_law_418 : decode cL_law 418 = .ok (.iadd, 1) := by decide +kernel
theorem dL_law_419 : decode cL_law 419 = .ok (.iaload, 1) := by decide +kernel
theorem dL_law_420 : decode cL_law 420 = .ok (.aload_n 0, 1) := by decide +kernel
theorem dL_law_421 : decode cL_law 421 = .ok (.iload_n 3, 1) := by decide +kernel
theorem dL_law_422 : decode cL_law 422 = .ok (.iconst 3, 1) := by decide +kernel
theorem dL_law_423 : decode cL_law 423 = .ok (.iadd, 1) := by decide +kernel
theorem dL_law_424 : decode cL_law 424 = .ok (.iaload, 1) := by decide +kernel
theorem dL_law_425 : decode cL_law 425 = .ok (.aload_n 0, 1) := by decide +kernel
theorem dL_law_426 : decode cL_law 426 = .ok (.iload_n 3, 1) := by decide +kernel
theorem dL_law_427 : decode cL_law 427 = .ok (.iconst 4, 1) := by decide +kernel
theorem dL_law_428 : decode cL_law 428 = .ok (.iadd, 1) := by decide +kernel
theorem dL_law_429 : decode cL_law 429 = .ok (.iaload, 1) := by decide +kernel
theorem dL_law_430 : decode cL_law 430 = .ok (.aload_n 0, 1) := by decide +kernel
theorem dL_law_431 : decode cL_law 431 = .ok (.iload_n 3, 1) := by decide +kernel
theorem dL_law_432 : decode cL_law 432 = .ok (.iconst 5, 1) := by decide +kernel
theorem dL_law_433 : decode cL_law 433 = .ok (.iadd, 1) := by decide +kernel
theorem dL_law_434 : decode cL_law 434 = .ok (.iaload, 1) := by decide +kernel
theorem dL_law_435 : decode cL_law 435 = .ok (.invokevirtual 36, 3) := by decide +kernel
theorem dL_law_438 : decode cL_law 438 = .ok (.if_icmp .eq 1519, 3) := by decide +kernel
theorem dL_law_441 : decode cL_law 441 = .ok (.iconst 0, 1) := by decide +kernel
theorem dL_law_442 : decode cL_law 442 = .ok (.ireturn, 1) := by decide +kernel
theorem dL_law_443 : decode cL_law 443 = .ok (.aload_n 1, 1) := by decide +kernel
theorem dL_law_444 : decode cL_law 444 = .ok (.aload_n 0, 1) := by decide +kernel
theorem dL_law_445 : decode cL_law 445 = .ok (.iload_n 3, 1) := by decide +kernel
theorem dL_law_446 : decode cL_law 446 = .ok (.iconst 1, 1) := by decide +kernel
theorem dL_law_447 : decode cL_law 447 = .ok (.iadd, 1) := by decide +kernel
theorem dL_law_448 : decode cL_law 448 = .ok (.iaload, 1) := by decide +kernel
theorem dL_law_449 : decode cL_law 449 = .ok (.invokevirtual 37, 3) := by decide +kernel
theorem dL_law_452 : decode cL_law 452 = .ok (.aload_n 2, 1) := by decide +kernel
theorem dL_law_453 : decode cL_law 453 = .ok (.aload_n 0, 1) := by decide +kernel
theorem dL_law_454 : decode cL_law 454 = .ok (.iload_n 3, 1) := by decide +kernel
theorem dL_law_455 : decode cL_law 455 = .ok (.iconst 1, 1) := by decide +kernel
theorem dL_law_456 : decode cL_law 456 = .ok (.iadd, 1) := by decide +kernel
theorem dL_law_457 : decode cL_law 457 = .ok (.iaload, 1) := by decide +kernel
theorem dL_law_458 : decode cL_law 458 = .ok (.invokevirtual 40, 3) := by decide +kernel
theorem dL_law_461 : decode cL_law 461 = .ok (.if_icmp .eq 1496, 3) := by decide +kernel
theorem dL_law_464 : decode cL_law 464 = .ok (.iconst 0, 1) := by decide +kernel
theorem dL_law_465 : decode cL_law 465 = .ok (.ireturn, 1) := by decide +kernel
theorem dL_law_466 : decode cL_law 466 = .ok (.aload_n 1, 1) := by decide +kernel
theorem dL_law_467 : decode cL_law 467 = .ok (.aload_n 0, 1) := by decide +kernel
theorem dL_law_468 : decode cL_law 468 = .ok (.iload_n 3, 1) := by decide +kernel
theorem dL_law_469 : decode cL_law 469 = .ok (.iconst 1, 1) := by decide +kernel
theorem dL_law_470 : decode cL_law 470 = .ok (.iadd, 1) := by decide +kernel
theorem dL_law_471 : decode cL_law 471 = .ok (.iaload, 1) := by decide +kernel
theorem dL_law_472 : decode cL_law 472 = .ok (.aload_n 0, 1) := by decide +kernel
theorem dL_law_473 : decode cL_law 473 = .ok (.iload_n 3, 1) := by decide +kernel
theorem dL_law_474 : decode cL_law 474 = .ok (.iconst 2, 1) := by decide +kernel
theorem dL_law_475 : decode cL_law 475 = .ok (.iadd, 1) := by decide +kernel
theorem dL_law_476 : decode cL_law 476 = .ok (.iaload, 1) := by decide +kernel
theorem dL_law_477 : decode cL_law 477 = .ok (.invokevirtual 41, 3) := by decide +kernel
theorem dL_law_480 : decode cL_law 480 = .ok (.aload_n 2, 1) := by decide +kernel
theorem dL_law_481 : decode cL_law 481 = .ok (.aload_n 0, 1) := by decide +kernel
theorem dL_law_482 : decode cL_law 482 = .ok (.iload_n 3, 1) := by decide +kernel
theorem dL_law_483 : decode cL_law 483 = .ok (.iconst 1, 1) := by decide +kernel
theorem dL_law_484 : decode cL_law 484 = .ok (.iadd, 1) := by decide +kernel
theorem dL_law_485 : decode cL_law 485 = .ok (.iaload, 1) := by decide +kernel
theorem dL_law_486 : decode cL_law 486 = .ok (.aload_n 0, 1) := by decide +kernel
theorem dL_law_487 : decode cL_law 487 = .ok (.iload_n 3, 1) := by decide +kernel
theorem dL_law_488 : decode cL_law 488 = .ok (.iconst 2, 1) := by decide +kernel
theorem dL_law_489 : decode cL_law 489 = .ok (.iadd, 1) := by decide +kernel
theorem dL_law_490 : decode cL_law 490 = .ok (.iaload, 1) := by decide +kernel
theorem dL_law_491 : decode cL_law 491 = .ok (.invokevirtual 44, 3) := by decide +kernel
theorem dL_law_494 : decode cL_law 494 = .ok (.if_icmp .eq 1463, 3) := by decide +kernel
theorem dL_law_497 : decode cL_law 497 = .ok (.iconst 0, 1) := by decide +kernel
theorem dL_law_498 : decode cL_law 498 = .ok (.ireturn, 1) := by decide +kernel
theorem dL_law_499 : decode cL_law 499 = .ok (.aload_n 1, 1) := by decide +kernel
theorem dL_law_500 : decode cL_law 500 = .ok (.aload_n 0, 1) := by decide +kernel
theorem dL_law_501 : decode cL_law 501 = .ok (.iload_n 3, 1) := by decide +kernel
theorem dL_law_502 : decode cL_law 502 = .ok (.iconst 1, 1) := by decide +kernel
theorem dL_law_503 : decode cL_law 503 = .ok (.iadd, 1) := by decide +kernel
theorem dL_law_504 : decode cL_law 504 = .ok (.iaload, 1) := by decide +kernel
theorem dL_law_505 : decode cL_law 505 = .ok (.aload_n 0, 1) := by decide +kernel
theorem dL_law_506 : decode cL_law 506 = .ok (.iload_n 3, 1) := by decide +kernel
theorem dL_law_507 : decode cL_law 507 = .ok (.iconst 2, 1) := by decide +kernel
theorem dL_law_508 : decode cL_law 508 = .ok (.iadd, 1) := by decide +kernel
theorem dL_law_509 : decode cL_law 509 = .ok (.iaload, 1) := by decide +kernel
theorem dL_law_510 : decode cL_law 510 = .ok (.aload_n 0, 1) := by decide +kernel
theorem dL_law_511 : decode cL_law 511 = .ok (.iload_n 3, 1) := by decide +kernel
theorem dL_law_512 : decode cL_law 512 = .ok (.iconst 3, 1) := by decide +kernel
theorem dL_law_513 : decode cL_law 513 = .ok (.iadd, 1) := by decide +kernel
theorem dL_law_514 : decode cL_law 514 = .ok (.iaload, 1) := by decide +kernel
theorem dL_law_515 : decode cL_law 515 = .ok (.invokevirtual 45, 3) := by decide +kernel
theorem dL_law_518 : decode cL_law 518 = .ok (.aload_n 2, 1) := by decide +kernel
theorem dL_law_519 : decode cL_law 519 = .ok (.aload_n 0, 1) := by decide +kernel
theorem dL_law_520 : decode cL_law 520 = .ok (.iload_n 3, 1) := by decide +kernel
theorem dL_law_521 : decode cL_law 521 = .ok (.iconst 1, 1) := by decide +kernel
theorem dL_law_522 : decode cL_law 522 = .ok (.iadd, 1) := by decide +kernel
theorem dL_law_523 : decode cL_law 523 = .ok (.iaload, 1) := by decide +kernel
theorem dL_law_524 : decode cL_law 524 = .ok (.aload_n 0, 1) := by decide +kernel
theorem dL_law_525 : decode cL_law 525 = .ok (.iload_n 3, 1) := by decide +kernel
theorem dL_law_526 : decode cL_law 526 = .ok (.iconst 2, 1) := by decide +kernel
theorem dL_law_527 : decode cL_law 527 = .ok (.iadd, 1) := by decide +kernel
theorem dL_law_528 : decode cL_law 528 = .ok (.iaload, 1) := by decide +kernel
theorem dL_law_529 : decode cL_law 529 = .ok (.aload_n 0, 1) := by decide +kernel
theorem dL_law_530 : decode cL_law 530 = .ok (.iload_n 3, 1) := by decide +kernel
theorem dL_law_531 : decode cL_law 531 = .ok (.iconst 3, 1) := by decide +kernel
theorem dL_law_532 : decode cL_law 532 = .ok (.iadd, 1) := by decide +kernel
theorem dL_law_533 : decode cL_law 533 = .ok (.iaload, 1) := by decide +kernel
theorem dL_law_534 : decode cL_law 534 = .ok (.invokevirtual 48, 3) := by decide +kernel
theorem dL_law_537 : decode cL_law 537 = .ok (.if_icmp .eq 1420, 3) := by decide +kernel
theorem dL_law_540 : decode cL_law 540 = .ok (.iconst 0, 1) := by decide +kernel
theorem dL_law_541 : decode cL_law 541 = .ok (.ireturn, 1) := by decide +kernel
theorem dL_law_542 : decode cL_law 542 = .ok (.aload_n 1, 1) := by decide +kernel
theorem dL_law_543 : decode cL_law 543 = .ok (.aload_n 0, 1) := by decide +kernel
theorem dL_law_544 : decode cL_law 544 = .ok (.iload_n 3, 1) := by decide +kernel
theorem dL_law_545 : decode cL_law 545 = .ok (.iconst 1, 1) := by decide +kernel
theorem dL_law_546 : decode cL_law 546 = .ok (.iadd, 1) := by decide +kernel
theorem dL_law_547 : decode cL_law 547 = .ok (.iaload, 1) := by decide +kernel
theorem dL_law_548 : decode cL_law 548 = .ok (.aload_n 0, 1) := by decide +kernel
theorem dL_law_549 : decode cL_law 549 = .ok (.iload_n 3, 1) := by decide +kernel
theorem dL_law_550 : decode cL_law 550 = .ok (.iconst 2, 1) := by decide +kernel
theorem dL_law_551 : decode cL_law 551 = .ok (.iadd, 1) := by decide +kernel
theorem dL_law_552 : decode cL_law 552 = .ok (.iaload, 1) := by decide +kernel
theorem dL_law_553 : decode cL_law 553 = .ok (.aload_n 0, 1) := by decide +kernel
theorem dL_law_554 : decode cL_law 554 = .ok (.iload_n 3, 1) := by decide +kernel
theorem dL_law_555 : decode cL_law 555 = .ok (.iconst 3, 1) := by decide +kernel
theorem dL_law_556 : decode cL_law 556 = .ok (.iadd, 1) := by decide +kernel
theorem dL_law_557 : decode cL_law 557 = .ok (.iaload, 1) := by decide +kernel
theorem dL_law_558 : decode cL_law 558 = .ok (.invokevirtual 49, 3) := by decide +kernel
theorem dL_law_561 : decode cL_law 561 = .ok (.aload_n 2, 1) := by decide +kernel
theorem dL_law_562 : decode cL_law 562 = .ok (.aload_n 0, 1) := by decide +kernel
theorem dL_law_563 : decode cL_law 563 = .ok (.iload_n 3, 1) := by decide +kernel
theorem dL_law_564 : decode cL_law 564 = .ok (.iconst 1, 1) := by decide +kernel
theorem dL_law_565 : decode cL_law 565 = .ok (.iadd, 1) := by decide +kernel
theorem dL_law_566 : decode cL_law 566 = .ok (.iaload, 1) := by decide +kernel
theorem dL_law_567 : decode cL_law 567 = .ok (.aload_n 0, 1) := by decide +kernel
theorem dL_law_568 : decode cL_law 568 = .ok (.iload_n 3, 1) := by decide +kernel
theorem dL_law_569 : decode cL_law 569 = .ok (.iconst 2, 1) := by decide +kernel
theorem dL_law_570 : decode cL_law 570 = .ok (.iadd, 1) := by decide +kernel
theorem dL_law_571 : decode cL_law 571 = .ok (.iaload, 1) := by decide +kernel
theorem dL_law_572 : decode cL_law 572 = .ok (.aload_n 0, 1) := by decide +kernel
theorem dL_law_573 : decode cL_law 573 = .ok (.iload_n 3, 1) := by decide +kernel
theorem dL_law_574 : decode cL_law 574 = .ok (.iconst 3, 1) := by decide +kernel
theorem dL_law_575 : decode cL_law 575 = .ok (.iadd, 1) := by decide +kernel
theorem dL_law_576 : decode cL_law 576 = .ok (.iaload, 1) := by decide +kernel
theorem dL_law_577 : decode cL_law 577 = .ok (.invokevirtual 52, 3) := by decide +kernel
theorem dL_law_580 : decode cL_law 580 = .ok (.if_icmp .eq 1377, 3) := by decide +kernel
theorem dL_law_583 : decode cL_law 583 = .ok (.iconst 0, 1) := by decide +kernel
theorem dL_law_584 : decode cL_law 584 = .ok (.ireturn, 1) := by decide +kernel
theorem dL_law_585 : decode cL_law 585 = .ok (.aload_n 1, 1) := by decide +kernel
theorem dL_law_586 : decode cL_law 586 = .ok (.aload_n 0, 1) := by decide +kernel
theorem dL_law_587 : decode cL_law 587 = .ok (.iload_n 3, 1) := by decide +kernel
theorem dL_law_588 : decode cL_law 588 = .ok (.iconst 1, 1) := by decide +kernel
theorem dL_law_589 : decode cL_law 589 = .ok (.iadd, 1) := by decide +kernel
theorem dL_law_590 : decode cL_law 590 = .ok (.iaload, 1) := by decide +kernel
theorem dL_law_591 : decode cL_law 591 = .ok (.aload_n 0, 1) := by decide +kernel
theorem dL_law_592 : decode cL_law 592 = .ok (.iload_n 3, 1) := by decide +kernel
theorem dL_law_593 : decode cL_law 593 = .ok (.iconst 2, 1) := by decide +kernel
theorem dL_law_594 : decode cL_law 594 = .ok (.iadd, 1) := by decide +kernel
theorem dL_law_595 : decode cL_law 595 = .ok (.iaload, 1) := by decide +kernel
theorem dL_law_596 : decode cL_law 596 = .ok (.aload_n 0, 1) := by decide +kernel
theorem dL_law_597 : decode cL_law 597 = .ok (.iload_n 3, 1) := by decide +kernel
theorem dL_law_598 : decode cL_law 598 = .ok (.iconst 3, 1) := by decide +kernel
theorem dL_law_599 : decode cL_law 599 = .ok (.iadd, 1) := by decide +kernel
theorem dL_law_600 : decode cL_law 600 = .ok (.iaload, 1) := by decide +kernel
theorem dL_law_601 : decode cL_law 601 = .ok (.aload_n 0, 1) := by decide +kernel
theorem dL_law_602 : decode cL_law 602 = .ok (.iload_n 3, 1) := by decide +kernel
theorem dL_law_603 : decode cL_law 603 = .ok (.iconst 4, 1) := by decide +kernel
theorem dL_law_604 : decode cL_law 604 = .ok (.iadd, 1) := by decide +kernel
theorem dL_law_605 : decode cL_law 605 = .ok (.iaload, 1) := by decide +kernel
theorem dL_law_606 : decode cL_law 606 = .ok (.ifCond .eq 7, 3) := by decide +kernel
theorem dL_law_609 : decode cL_law 609 = .ok (.iconst 1, 1) := by decide +kernel
theorem dL_law_610 : decode cL_law 610 = .ok (.goto 4, 3) := by decide +kernel
theorem dL_law_613 : decode cL_law 613 = .ok (.iconst 0, 1) := by decide +kernel
theorem dL_law_614 : decode cL_law 614 = .ok (.invokevirtual 53, 3) := by decide +kernel
theorem dL_law_617 : decode cL_law 617 = .ok (.aload_n 2, 1) := by decide +kernel
theorem dL_law_618 : decode cL_law 618 = .ok (.aload_n 0, 1) := by decide +kernel
theorem dL_law_619 : decode cL_law 619 = .ok (.iload_n 3, 1) := by decide +kernel
theorem dL_law_620 : decode cL_law 620 = .ok (.iconst 1, 1) := by decide +kernel
theorem dL_law_621 : decode cL_law 621 = .ok (.iadd, 1) := by decide +kernel
theorem dL_law_622 : decode cL_law 622 = .ok (.iaload, 1) := by decide +kernel
theorem dL_law_623 : decode cL_law 623 = .ok (.aload_n 0, 1) := by decide +kernel
theorem dL_law_624 : decode cL_law 624 = .ok (.iload_n 3, 1) := by decide +kernel
theorem dL_law_625 : decode cL_law 625 = .ok (.iconst 2, 1) := by decide +kernel
theorem dL_law_626 : decode cL_law 626 = .ok (.iadd, 1) := by decide +kernel
theorem dL_law_627 : decode cL_law 627 = .ok (.iaload, 1) := by decide +kernel
theorem dL_law_628 : decode cL_law 628 = .ok (.aload_n 0, 1) := by decide +kernel
theorem dL_law_629 : decode cL_law 629 = .ok (.iload_n 3, 1) := by decide +kernel
theorem dL_law_630 : decode cL_law 630 = .ok (.iconst 3, 1) := by decide +kernel
theorem dL_law_631 : decode cL_law 631 = .ok (.iadd, 1) := by decide +kernel
theorem dL_law_632 : decode cL_law 632 = .ok (.iaload, 1) := by decide +kernel
theorem dL_law_633 : decode cL_law 633 = .ok (.aload_n 0, 1) := by decide +kernel
theorem dL_law_634 : decode cL_law 634 = .ok (.iload_n 3, 1) := by decide +kernel
theorem dL_law_635 : decode cL_law 635 = .ok (.iconst 4, 1) := by decide +kernel
theorem dL_law_636 : decode cL_law 636 = .ok (.iadd, 1) := by decide +kernel
theorem dL_law_637 : decode cL_law 637 = .ok (.iaload, 1) := by decide +kernel
theorem dL_law_638 : decode cL_law 638 = .ok (.ifCond .eq 7, 3) := by decide +kernel
theorem dL_law_641 : decode cL_law 641 = .ok (.iconst 1, 1) := by decide +kernel
theorem dL_law_642 : decode cL_law 642 = .ok (.goto 4, 3) := by decide +kernel
theorem dL_law_645 : decode cL_law 645 = .ok (.iconst 0, 1) := by decide +kernel
theorem dL_law_646 : decode cL_law 646 = .ok (.invokevirtual 57, 3) := by decide +kernel
theorem dL_law_649 : decode cL_law 649 = .ok (.if_icmp .eq 1308, 3) := by decide +kernel
theorem dL_law_652 : decode cL_law 652 = .ok (.iconst 0, 1) := by decide +kernel
theorem dL_law_653 : decode cL_law 653 = .ok (.ireturn, 1) := by decide +kernel
theorem dL_law_654 : decode cL_law 654 = .ok (.aload_n 1, 1) := by decide +kernel
theorem dL_law_655 : decode cL_law 655 = .ok (.aload_n 0, 1) := by decide +kernel
theorem dL_law_656 : decode cL_law 656 = .ok (.iload_n 3, 1) := by decide +kernel
theorem dL_law_657 : decode cL_law 657 = .ok (.iconst 1, 1) := by decide +kernel
theorem dL_law_658 : decode cL_law 658 = .ok (.iadd, 1) := by decide +kernel
theorem dL_law_659 : decode cL_law 659 = .ok (.iaload, 1) := by decide +kernel
theorem dL_law_660 : decode cL_law 660 = .ok (.aload_n 0, 1) := by decide +kernel
theorem dL_law_661 : decode cL_law 661 = .ok (.iload_n 3, 1) := by decide +kernel
theorem dL_law_662 : decode cL_law 662 = .ok (.iconst 2, 1) := by decide +kernel
theorem dL_law_663 : decode cL_law 663 = .ok (.iadd, 1) := by decide +kernel
theorem dL_law_664 : decode cL_law 664 = .ok (.iaload, 1) := by decide +kernel
theorem dL_law_665 : decode cL_law 665 = .ok (.aload_n 0, 1) := by decide +kernel
theorem dL_law_666 : decode cL_law 666 = .ok (.iload_n 3, 1) := by decide +kernel
theorem dL_law_667 : decode cL_law 667 = .ok (.iconst 3, 1) := by decide +kernel
theorem dL_law_668 : decode cL_law 668 = .ok (.iadd, 1) := by decide +kernel
theorem dL_law_669 : decode cL_law 669 = .ok (.iaload, 1) := by decide +kernel
theorem dL_law_670 : decode cL_law 670 = .ok (.invokevirtual 58, 3) := by decide +kernel
theorem dL_law_673 : decode cL_law 673 = .ok (.aload_n 2, 1) := by decide +kernel
theorem dL_law_674 : decode cL_law 674 = .ok (.aload_n 0, 1) := by decide +kernel
theorem dL_law_675 : decode cL_law 675 = .ok (.iload_n 3, 1) := by decide +kernel
theorem dL_law_676 : decode cL_law 676 = .ok (.iconst 1, 1) := by decide +kernel
theorem dL_law_677 : decode cL_law 677 = .ok (.iadd, 1) := by decide +kernel
theorem dL_law_678 : decode cL_law 678 = .ok (.iaload, 1) := by decide +kernel
theorem dL_law_679 : decode cL_law 679 = .ok (.aload_n 0, 1) := by decide +kernel
theorem dL_law_680 : decode cL_law 680 = .ok (.iload_n 3, 1) := by decide +kernel
theorem dL_law_681 : decode cL_law 681 = .ok (.iconst 2, 1) := by decide +kernel
theorem dL_law_682 : decode cL_law 682 = .ok (.iadd, 1) := by decide +kernel
theorem dL_law_683 : decode cL_law 683 = .ok (.iaload, 1) := by decide +kernel
theorem dL_law_684 : decode cL_law 684 = .ok (.aload_n 0, 1) := by decide +kernel
theorem dL_law_685 : decode cL_law 685 = .ok (.iload_n 3, 1) := by decide +kernel
theorem dL_law_686 : decode cL_law 686 = .ok (.iconst 3, 1) := by decide +kernel
theorem dL_law_687 : decode cL_law 687 = .ok (.iadd, 1) := by decide +kernel
theorem dL_law_688 : decode cL_law 688 = .ok (.iaload, 1) := by decide +kernel
theorem dL_law_689 : decode cL_law 689 = .ok (.invokevirtual 61, 3) := by decide +kernel
theorem dL_law_692 : decode cL_law 692 = .ok (.if_icmp .eq 1265, 3) := by decide +kernel
theorem dL_law_695 : decode cL_law 695 = .ok (.iconst 0, 1) := by decide +kernel
theorem dL_law_696 : decode cL_law 696 = .ok (.ireturn, 1) := by decide +kernel
theorem dL_law_697 : decode cL_law 697 = .ok (.aload_n 1, 1) := by decide +kernel
theorem dL_law_698 : decode cL_law 698 = .ok (.aload_n 0, 1) := by decide +kernel
theorem dL_law_699 : decode cL_law 699 = .ok (.iload_n 3, 1) := by decide +kernel
theorem dL_law_700 : decode cL_law 700 = .ok (.iconst 1, 1) := by decide +kernel
theorem dL_law_701 : decode cL_law 701 = .ok (.iadd, 1) := by decide +kernel
theorem dL_law_702 : decode cL_law 702 = .ok (.iaload, 1) := by decide +kernel
theorem dL_law_703 : decode cL_law 703 = .ok (.aload_n 0, 1) := by decide +kernel
theorem dL_law_704 : decode cL_law 704 = .ok (.iload_n 3, 1) := by decide +kernel
theorem dL_law_705 : decode cL_law 705 = .ok (.iconst 2, 1) := by decide +kernel
theorem dL_law_706 : decode cL_law 706 = .ok (.iadd, 1) := by decide +kernel
theorem dL_law_707 : decode cL_law 707 = .ok (.iaload, 1) := by decide +kernel
theorem dL_law_708 : decode cL_law 708 = .ok (.invokevirtual 62, 3) := by decide +kernel
theorem dL_law_711 : decode cL_law 711 = .ok (.aload_n 2, 1) := by decide +kernel
theorem dL_law_712 : decode cL_law 712 = .ok (.aload_n 0, 1) := by decide +kernel
theorem dL_law_713 : decode cL_law 713 = .ok (.iload_n 3, 1) := by decide +kernel
theorem dL_law_714 : decode cL_law 714 = .ok (.iconst 1, 1) := by decide +kernel
theorem dL_law_715 : decode cL_law 715 = .ok (.iadd, 1) := by decide +kernel
theorem dL_law_716 : decode cL_law 716 = .ok (.iaload, 1) := by decide +kernel
theorem dL_law_717 : decode cL_law 717 = .ok (.aload_n 0, 1) := by decide +kernel
theorem dL_law_718 : decode cL_law 718 = .ok (.iload_n 3, 1) := by decide +kernel
theorem dL_law_719 : decode cL_law 719 = .ok (.iconst 2, 1) := by decide +kernel
theorem dL_law_720 : decode cL_law 720 = .ok (.iadd, 1) := by decide +kernel
theorem dL_law_721 : decode cL_law 721 = .ok (.iaload, 1) := by decide +kernel
theorem dL_law_722 : decode cL_law 722 = .ok (.invokevirtual 65, 3) := by decide +kernel
theorem dL_law_725 : decode cL_law 725 = .ok (.if_icmp .eq 1232, 3) := by decide +kernel
theorem dL_law_728 : decode cL_law 728 = .ok (.iconst 0, 1) := by decide +kernel
theorem dL_law_729 : decode cL_law 729 = .ok (.ireturn, 1) := by decide +kernel
theorem dL_law_730 : decode cL_law 730 = .ok (.aload_n 1, 1) := by decide +kernel
theorem dL_law_731 : decode cL_law 731 = .ok (.aload_n 0, 1) := by decide +kernel
theorem dL_law_732 : decode cL_law 732 = .ok (.iload_n 3, 1) := by decide +kernel
theorem dL_law_733 : decode cL_law 733 = .ok (.iconst 1, 1) := by decide +kernel
theorem dL_law_734 : decode cL_law 734 = .ok (.iadd, 1) := by decide +kernel
theorem dL_law_735 : decode cL_law 735 = .ok (.iaload, 1) := by decide +kernel
theorem dL_law_736 : decode cL_law 736 = .ok (.invokevirtual 66, 3) := by decide +kernel
theorem dL_law_739 : decode cL_law 739 = .ok (.aload_n 2, 1) := by decide +kernel
theorem dL_law_740 : decode cL_law 740 = .ok (.aload_n 0, 1) := by decide +kernel
theorem dL_law_741 : decode cL_law 741 = .ok (.iload_n 3, 1) := by decide +kernel
theorem dL_law_742 : decode cL_law 742 = .ok (.iconst 1, 1) := by decide +kernel
theorem dL_law_743 : decode cL_law 743 = .ok (.iadd, 1) := by decide +kernel
theorem dL_law_744 : decode cL_law 744 = .ok (.iaload, 1) := by decide +kernel
theorem dL_law_745 : decode cL_law 745 = .ok (.invokevirtual 69, 3) := by decide +kernel
theorem dL_law_748 : decode cL_law 748 = .ok (.if_icmp .eq 1209, 3) := by decide +kernel
theorem dL_law_751 : decode cL_law 751 = .ok (.iconst 0, 1) := by decide +kernel
theorem dL_law_752 : decode cL_law 752 = .ok (.ireturn, 1) := by decide +kernel
theorem dL_law_753 : decode cL_law 753 = .ok (.aload_n 1, 1) := by decide +kernel
theorem dL_law_754 : decode cL_law 754 = .ok (.aload_n 0, 1) := by decide +kernel
theorem dL_law_755 : decode cL_law 755 = .ok (.iload_n 3, 1) := by decide +kernel
theorem dL_law_756 : decode cL_law 756 = .ok (.iconst 1, 1) := by decide +kernel
theorem dL_law_757 : decode cL_law 757 = .ok (.iadd, 1) := by decide +kernel
theorem dL_law_758 : decode cL_law 758 = .ok (.iaload, 1) := by decide +kernel
theorem dL_law_759 : decode cL_law 759 = .ok (.aload_n 0, 1) := by decide +kernel
theorem dL_law_760 : decode cL_law 760 = .ok (.iload_n 3, 1) := by decide +kernel
theorem dL_law_761 : decode cL_law 761 = .ok (.iconst 2, 1) := by decide +kernel
theorem dL_law_762 : decode cL_law 762 = .ok (.iadd, 1) := by decide +kernel
theorem dL_law_763 : decode cL_law 763 = .ok (.iaload, 1) := by decide +kernel
theorem dL_law_764 : decode cL_law 764 = .ok (.invokevirtual 70, 3) := by decide +kernel
theorem dL_law_767 : decode cL_law 767 = .ok (.aload_n 2, 1) := by decide +kernel
theorem dL_law_768 : decode cL_law 768 = .ok (.aload_n 0, 1) := by decide +kernel
theorem dL_law_769 : decode cL_law 769 = .ok (.iload_n 3, 1) := by decide +kernel
theorem dL_law_770 : decode cL_law 770 = .ok (.iconst 1, 1) := by decide +kernel
theorem dL_law_771 : decode cL_law 771 = .ok (.iadd, 1) := by decide +kernel
theorem dL_law_772 : decode cL_law 772 = .ok (.iaload, 1) := by decide +kernel
theorem dL_law_773 : decode cL_law 773 = .ok (.aload_n 0, 1) := by decide +kernel
theorem dL_law_774 : decode cL_law 774 = .ok (.iload_n 3, 1) := by decide +kernel
theorem dL_law_775 : decode cL_law 775 = .ok (.iconst 2, 1) := by decide +kernel
theorem dL_law_776 : decode cL_law 776 = .ok (.iadd, 1) := by decide +kernel
theorem dL_law_777 : decode cL_law 777 = .ok (.iaload, 1) := by decide +kernel
theorem dL_law_778 : decode cL_law 778 = .ok (.invokevirtual 73, 3) := by decide +kernel
theorem dL_law_781 : decode cL_law 781 = .ok (.if_icmp .eq 1176, 3) := by decide +kernel
theorem dL_law_784 : decode cL_law 784 = .ok (.iconst 0, 1) := by decide +kernel
theorem dL_law_785 : decode cL_law 785 = .ok (.ireturn, 1) := by decide +kernel
theorem dL_law_786 : decode cL_law 786 = .ok (.aload_n 1, 1) := by decide +kernel
theorem dL_law_787 : decode cL_law 787 = .ok (.aload_n 0, 1) := by decide +kernel
theorem dL_law_788 : decode cL_law 788 = .ok (.iload_n 3, 1) := by decide +kernel
theorem dL_law_789 : decode cL_law 789 = .ok (.iconst 1, 1) := by decide +kernel
theorem dL_law_790 : decode cL_law 790 = .ok (.iadd, 1) := by decide +kernel
theorem dL_law_791 : decode cL_law 791 = .ok (.iaload, 1) := by decide +kernel
theorem dL_law_792 : decode cL_law 792 = .ok (.aload_n 0, 1) := by decide +kernel
theorem dL_law_793 : decode cL_law 793 = .ok (.iload_n 3, 1) := by decide +kernel
theorem dL_law_794 : decode cL_law 794 = .ok (.iconst 2, 1) := by decide +kernel
theorem dL_law_795 : decode cL_law 795 = .ok (.iadd, 1) := by decide +kernel
theorem dL_law_796 : decode cL_law 796 = .ok (.iaload, 1) := by decide +kernel
theorem dL_law_797 : decode cL_law 797 = .ok (.aload_n 0, 1) := by decide +kernel
theorem dL_law_798 : decode cL_law 798 = .ok (.iload_n 3, 1) := by decide +kernel
theorem dL_law_799 : decode cL_law 799 = .ok (.iconst 3, 1) := by decide +kernel
theorem dL_law_800 : decode cL_law 800 = .ok (.iadd, 1) := by decide +kernel
theorem dL_law_801 : decode cL_law 801 = .ok (.iaload, 1) := by decide +kernel
theorem dL_law_802 : decode cL_law 802 = .ok (.invokevirtual 74, 3) := by decide +kernel
theorem dL_law_805 : decode cL_law 805 = .ok (.aload_n 2, 1) := by decide +kernel
theorem dL_law_806 : decode cL_law 806 = .ok (.aload_n 0, 1) := by decide +kernel
theorem dL_law_807 : decode cL_law 807 = .ok (.iload_n 3, 1) := by decide +kernel
theorem dL_law_808 : decode cL_law 808 = .ok (.iconst 1, 1) := by decide +kernel
theorem dL_law_809 : decode cL_law 809 = .ok (.iadd, 1) := by decide +kernel
theorem dL_law_810 : decode cL_law 810 = .ok (.iaload, 1) := by decide +kernel
theorem dL_law_811 : decode cL_law 811 = .ok (.aload_n 0, 1) := by decide +kernel
theorem dL_law_812 : decode cL_law 812 = .ok (.iload_n 3, 1) := by decide +kernel
theorem dL_law_813 : decode cL_law 813 = .ok (.iconst 2, 1) := by decide +kernel
theorem dL_law_814 : decode cL_law 814 = .ok (.iadd, 1) := by decide +kernel
theorem dL_law_815 : decode cL_law 815 = .ok (.iaload, 1) := by decide +kernel
theorem dL_law_816 : decode cL_law 816 = .ok (.aload_n 0, 1) := by decide +kernel
theorem dL_law_817 : decode cL_law 817 = .ok (.iload_n 3, 1) := by decide +kernel
theorem dL_law_818 : decode cL_law 818 = .ok (.iconst 3, 1) := by decide +kernel
theorem dL_law_819 : decode cL_law 819 = .ok (.iadd, 1) := by decide +kernel
theorem dL_law_820 : decode cL_law 820 = .ok (.iaload, 1) := by decide +kernel
theorem dL_law_821 : decode cL_law 821 = .ok (.invokevirtual 77, 3) := by decide +kernel
theorem dL_law_824 : decode cL_law 824 = .ok (.if_icmp .eq 1133, 3) := by decide +kernel
theorem dL_law_827 : decode cL_law 827 = .ok (.iconst 0, 1) := by decide +kernel
theorem dL_law_828 : decode cL_law 828 = .ok (.ireturn, 1) := by decide +kernel
theorem dL_law_829 : decode cL_law 829 = .ok (.aload_n 1, 1) := by decide +kernel
theorem dL_law_830 : decode cL_law 830 = .ok (.aload_n 0, 1) := by decide +kernel
theorem dL_law_831 : decode cL_law 831 = .ok (.iload_n 3, 1) := by decide +kernel
theorem dL_law_832 : decode cL_law 832 = .ok (.iconst 1, 1) := by decide +kernel
theorem dL_law_833 : decode cL_law 833 = .ok (.iadd, 1) := by decide +kernel
theorem dL_law_834 : decode cL_law 834 = .ok (.iaload, 1) := by decide +kernel
theorem dL_law_835 : decode cL_law 835 = .ok (.invokevirtual 78, 3) := by decide +kernel
theorem dL_law_838 : decode cL_law 838 = .ok (.aload_n 2, 1) := by decide +kernel
theorem dL_law_839 : decode cL_law 839 = .ok (.aload_n 0, 1) := by decide +kernel
theorem dL_law_840 : decode cL_law 840 = .ok (.iload_n 3, 1) := by decide +kernel
theorem dL_law_841 : decode cL_law 841 = .ok (.iconst 1, 1) := by decide +kernel
theorem dL_law_842 : decode cL_law 842 = .ok (.iadd, 1) := by decide +kernel
theorem dL_law_843 : decode cL_law 843 = .ok (.iaload, 1) := by decide +kernel
theorem dL_law_844 : decode cL_law 844 = .ok (.invokevirtual 81, 3) := by decide +kernel
theorem dL_law_847 : decode cL_law 847 = .ok (.if_icmp .eq 1110, 3) := by decide +kernel
theorem dL_law_850 : decode cL_law 850 = .ok (.iconst 0, 1) := by decide +kernel
theorem dL_law_851 : decode cL_law 851 = .ok (.ireturn, 1) := by decide +kernel
theorem dL_law_852 : decode cL_law 852 = .ok (.aload_n 1, 1) := by decide +kernel
theorem dL_law_853 : decode cL_law 853 = .ok (.aload_n 0, 1) := by decide +kernel
theorem dL_law_854 : decode cL_law 854 = .ok (.iload_n 3, 1) := by decide +kernel
theorem dL_law_855 : decode cL_law 855 = .ok (.iconst 1, 1) := by decide +kernel
theorem dL_law_856 : decode cL_law 856 = .ok (.iadd, 1) := by decide +kernel
theorem dL_law_857 : decode cL_law 857 = .ok (.iaload, 1) := by decide +kernel
theorem dL_law_858 : decode cL_law 858 = .ok (.aload_n 0, 1) := by decide +kernel
theorem dL_law_859 : decode cL_law 859 = .ok (.iload_n 3, 1) := by decide +kernel
theorem dL_law_860 : decode cL_law 860 = .ok (.iconst 2, 1) := by decide +kernel
theorem dL_law_861 : decode cL_law 861 = .ok (.iadd, 1) := by decide +kernel
theorem dL_law_862 : decode cL_law 862 = .ok (.iaload, 1) := by decide +kernel
theorem dL_law_863 : decode cL_law 863 = .ok (.invokevirtual 82, 3) := by decide +kernel
theorem dL_law_866 : decode cL_law 866 = .ok (.aload_n 2, 1) := by decide +kernel
theorem dL_law_867 : decode cL_law 867 = .ok (.aload_n 0, 1) := by decide +kernel
theorem dL_law_868 : decode cL_law 868 = .ok (.iload_n 3, 1) := by decide +kernel
theorem dL_law_869 : decode cL_law 869 = .ok (.iconst 1, 1) := by decide +kernel
theorem dL_law_870 : decode cL_law 870 = .ok (.iadd, 1) := by decide +kernel
theorem dL_law_871 : decode cL_law 871 = .ok (.iaload, 1) := by decide +kernel
theorem dL_law_872 : decode cL_law 872 = .ok (.aload_n 0, 1) := by decide +kernel
theorem dL_law_873 : decode cL_law 873 = .ok (.iload_n 3, 1) := by decide +kernel
theorem dL_law_874 : decode cL_law 874 = .ok (.iconst 2, 1) := by decide +kernel
theorem dL_law_875 : decode cL_law 875 = .ok (.iadd, 1) := by decide +kernel
theorem dL_law_876 : decode cL_law 876 = .ok (.iaload, 1) := by decide +kernel
theorem dL_law_877 : decode cL_law 877 = .ok (.invokevirtual 85, 3) := by decide +kernel
theorem dL_law_880 : decode cL_law 880 = .ok (.if_icmp .eq 1077, 3) := by decide +kernel
theorem dL_law_883 : decode cL_law 883 = .ok (.iconst 0, 1) := by decide +kernel
theorem dL_law_884 : decode cL_law 884 = .ok (.ireturn, 1) := by decide +kernel
theorem dL_law_885 : decode cL_law 885 = .ok (.aload_n 1, 1) := by decide +kernel
theorem dL_law_886 : decode cL_law 886 = .ok (.aload_n 0, 1) := by decide +kernel
theorem dL_law_887 : decode cL_law 887 = .ok (.iload_n 3, 1) := by decide +kernel
theorem dL_law_888 : decode cL_law 888 = .ok (.iconst 1, 1) := by decide +kernel
theorem dL_law_889 : decode cL_law 889 = .ok (.iadd, 1) := by decide +kernel
theorem dL_law_890 : decode cL_law 890 = .ok (.iaload, 1) := by decide +kernel
theorem dL_law_891 : decode cL_law 891 = .ok (.aload_n 0, 1) := by decide +kernel
theorem dL_law_892 : decode cL_law 892 = .ok (.iload_n 3, 1) := by decide +kernel
theorem dL_law_893 : decode cL_law 893 = .ok (.iconst 2, 1) := by decide +kernel
theorem dL_law_894 : decode cL_law 894 = .ok (.iadd, 1) := by decide +kernel
theorem dL_law_895 : decode cL_law 895 = .ok (.iaload, 1) := by decide +kernel
theorem dL_law_896 : decode cL_law 896 = .ok (.aload_n 0, 1) := by decide +kernel
theorem dL_law_897 : decode cL_law 897 = .ok (.iload_n 3, 1) := by decide +kernel
theorem dL_law_898 : decode cL_law 898 = .ok (.iconst 3, 1) := by decide +kernel
theorem dL_law_899 : decode cL_law 899 = .ok (.iadd, 1) := by decide +kernel
theorem dL_law_900 : decode cL_law 900 = .ok (.iaload, 1) := by decide +kernel
theorem dL_law_901 : decode cL_law 901 = .ok (.invokevirtual 86, 3) := by decide +kernel
theorem dL_law_904 : decode cL_law 904 = .ok (.aload_n 2, 1) := by decide +kernel
theorem dL_law_905 : decode cL_law 905 = .ok (.aload_n 0, 1) := by decide +kernel
theorem dL_law_906 : decode cL_law 906 = .ok (.iload_n 3, 1) := by decide +kernel
theorem dL_law_907 : decode cL_law 907 = .ok (.iconst 1, 1) := by decide +kernel
theorem dL_law_908 : decode cL_law 908 = .ok (.iadd, 1) := by decide +kernel
theorem dL_law_909 : decode cL_law 909 = .ok (.iaload, 1) := by decide +kernel
theorem dL_law_910 : decode cL_law 910 = .ok (.aload_n 0, 1) := by decide +kernel
theorem dL_law_911 : decode cL_law 911 = .ok (.iload_n 3, 1) := by decide +kernel
theorem dL_law_912 : decode cL_law 912 = .ok (.iconst 2, 1) := by decide +kernel
theorem dL_law_913 : decode cL_law 913 = .ok (.iadd, 1) := by decide +kernel
theorem dL_law_914 : decode cL_law 914 = .ok (.iaload, 1) := by decide +kernel
theorem dL_law_915 : decode cL_law 915 = .ok (.aload_n 0, 1) := by decide +kernel
theorem dL_law_916 : decode cL_law 916 = .ok (.iload_n 3, 1) := by decide +kernel
theorem dL_law_917 : decode cL_law 917 = .ok (.iconst 3, 1) := by decide +kernel
theorem dL_law_918 : decode cL_law 918 = .ok (.iadd, 1) := by decide +kernel
theorem dL_law_919 : decode cL_law 919 = .ok (.iaload, 1) := by decide +kernel
theorem dL_law_920 : decode cL_law 920 = .ok (.invokevirtual 89, 3) := by decide +kernel
theorem dL_law_923 : decode cL_law 923 = .ok (.if_icmp .eq 1034, 3) := by decide +kernel
theorem dL_law_926 : decode cL_law 926 = .ok (.iconst 0, 1) := by decide +kernel
theorem dL_law_927 : decode cL_law 927 = .ok (.ireturn, 1) := by decide +kernel
theorem dL_law_928 : decode cL_law 928 = .ok (.aload_n 1, 1) := by decide +kernel
theorem dL_law_929 : decode cL_law 929 = .ok (.aload_n 0, 1) := by decide +kernel
theorem dL_law_930 : decode cL_law 930 = .ok (.iload_n 3, 1) := by decide +kernel
theorem dL_law_931 : decode cL_law 931 = .ok (.iconst 1, 1) := by decide +kernel
theorem dL_law_932 : decode cL_law 932 = .ok (.iadd, 1) := by decide +kernel
theorem dL_law_933 : decode cL_law 933 = .ok (.iaload, 1) := by decide +kernel
theorem dL_law_934 : decode cL_law 934 = .ok (.invokevirtual 90, 3) := by decide +kernel
theorem dL_law_937 : decode cL_law 937 = .ok (.aload_n 2, 1) := by decide +kernel
theorem dL_law_938 : decode cL_law 938 = .ok (.aload_n 0, 1) := by decide +kernel
theorem dL_law_939 : decode cL_law 939 = .ok (.iload_n 3, 1) := by decide +kernel
theorem dL_law_940 : decode cL_law 940 = .ok (.iconst 1, 1) := by decide +kernel
theorem dL_law_941 : decode cL_law 941 = .ok (.iadd, 1) := by decide +kernel
theorem dL_law_942 : decode cL_law 942 = .ok (.iaload, 1) := by decide +kernel
theorem dL_law_943 : decode cL_law 943 = .ok (.invokevirtual 93, 3) := by decide +kernel
theorem dL_law_946 : decode cL_law 946 = .ok (.if_icmp .eq 1011, 3) := by decide +kernel
theorem dL_law_949 : decode cL_law 949 = .ok (.iconst 0, 1) := by decide +kernel
theorem dL_law_950 : decode cL_law 950 = .ok (.ireturn, 1) := by decide +kernel
theorem dL_law_951 : decode cL_law 951 = .ok (.aload_n 1, 1) := by decide +kernel
theorem dL_law_952 : decode cL_law 952 = .ok (.aload_n 0, 1) := by decide +kernel
theorem dL_law_953 : decode cL_law 953 = .ok (.iload_n 3, 1) := by decide +kernel
theorem dL_law_954 : decode cL_law 954 = .ok (.iconst 1, 1) := by decide +kernel
theorem dL_law_955 : decode cL_law 955 = .ok (.iadd, 1) := by decide +kernel
theorem dL_law_956 : decode cL_law 956 = .ok (.iaload, 1) := by decide +kernel
theorem dL_law_957 : decode cL_law 957 = .ok (.aload_n 0, 1) := by decide +kernel
theorem dL_law_958 : decode cL_law 958 = .ok (.iload_n 3, 1) := by decide +kernel
theorem dL_law_959 : decode cL_law 959 = .ok (.iconst 2, 1) := by decide +kernel
theorem dL_law_960 : decode cL_law 960 = .ok (.iadd, 1) := by decide +kernel
theorem dL_law_961 : decode cL_law 961 = .ok (.iaload, 1) := by decide +kernel
theorem dL_law_962 : decode cL_law 962 = .ok (.invokevirtual 94, 3) := by decide +kernel
theorem dL_law_965 : decode cL_law 965 = .ok (.aload_n 2, 1) := by decide +kernel
theorem dL_law_966 : decode cL_law 966 = .ok (.aload_n 0, 1) := by decide +kernel
theorem dL_law_967 : decode cL_law 967 = .ok (.iload_n 3, 1) := by decide +kernel
theorem dL_law_968 : decode cL_law 968 = .ok (.iconst 1, 1) := by decide +kernel
theorem dL_law_969 : decode cL_law 969 = .ok (.iadd, 1) := by decide +kernel
theorem dL_law_970 : decode cL_law 970 = .ok (.iaload, 1) := by decide +kernel
theorem dL_law_971 : decode cL_law 971 = .ok (.aload_n 0, 1) := by decide +kernel
theorem dL_law_972 : decode cL_law 972 = .ok (.iload_n 3, 1) := by decide +kernel
theorem dL_law_973 : decode cL_law 973 = .ok (.iconst 2, 1) := by decide +kernel
theorem dL_law_974 : decode cL_law 974 = .ok (.iadd, 1) := by decide +kernel
theorem dL_law_975 : decode cL_law 975 = .ok (.iaload, 1) := by decide +kernel
theorem dL_law_976 : decode cL_law 976 = .ok (.invokevirtual 97, 3) := by decide +kernel
theorem dL_law_979 : decode cL_law 979 = .ok (.if_icmp .eq 978, 3) := by decide +kernel
theorem dL_law_982 : decode cL_law 982 = .ok (.iconst 0, 1) := by decide +kernel
theorem dL_law_983 : decode cL_law 983 = .ok (.ireturn, 1) := by decide +kernel
theorem dL_law_984 : decode cL_law 984 = .ok (.aload_n 1, 1) := by decide +kernel
theorem dL_law_985 : decode cL_law 985 = .ok (.aload_n 0, 1) := by decide +kernel
theorem dL_law_986 : decode cL_law 986 = .ok (.iload_n 3, 1) := by decide +kernel
theorem dL_law_987 : decode cL_law 987 = .ok (.iconst 1, 1) := by decide +kernel
theorem dL_law_988 : decode cL_law 988 = .ok (.iadd, 1) := by decide +kernel
theorem dL_law_989 : decode cL_law 989 = .ok (.iaload, 1) := by decide +kernel
theorem dL_law_990 : decode cL_law 990 = .ok (.aload_n 0, 1) := by decide +kernel
theorem dL_law_991 : decode cL_law 991 = .ok (.iload_n 3, 1) := by decide +kernel
theorem dL_law_992 : decode cL_law 992 = .ok (.iconst 2, 1) := by decide +kernel
theorem dL_law_993 : decode cL_law 993 = .ok (.iadd, 1) := by decide +kernel
theorem dL_law_994 : decode cL_law 994 = .ok (.iaload, 1) := by decide +kernel
theorem dL_law_995 : decode cL_law 995 = .ok (.invokevirtual 98, 3) := by decide +kernel
theorem dL_law_998 : decode cL_law 998 = .ok (.aload_n 2, 1) := by decide +kernel
theorem dL_law_999 : decode cL_law 999 = .ok (.aload_n 0, 1) := by decide +kernel
theorem dL_law_1000 : decode cL_law 1000 = .ok (.iload_n 3, 1) := by decide +kernel
theorem dL_law_1001 : decode cL_law 1001 = .ok (.iconst 1, 1) := by decide +kernel
theorem dL_law_1002 : decode cL_law 1002 = .ok (.iadd, 1) := by decide +kernel
theorem dL_law_1003 : decode cL_law 1003 = .ok (.iaload, 1) := by decide +kernel
theorem dL_law_1004 : decode cL_law 1004 = .ok (.aload_n 0, 1) := by decide +kernel
theorem dL_law_1005 : decode cL_law 1005 = .ok (.iload_n 3, 1) := by decide +kernel
theorem dL_law_1006 : decode cL_law 1006 = .ok (.iconst 2, 1) := by decide +kernel
theorem dL_law_1007 : decode cL_law 1007 = .ok (.iadd, 1) := by decide +kernel
theorem dL_law_1008 : decode cL_law 1008 = .ok (.iaload, 1) := by decide +kernel
theorem dL_law_1009 : decode cL_law 1009 = .ok (.invokevirtual 101, 3) := by decide +kernel
theorem dL_law_1012 : decode cL_law 1012 = .ok (.if_icmp .eq 945, 3) := by decide +kernel
theorem dL_law_1015 : decode cL_law 1015 = .ok (.iconst 0, 1) := by decide +kernel
theorem dL_law_1016 : decode cL_law 1016 = .ok (.ireturn, 1) := by decide +kernel
theorem dL_law_1017 : decode cL_law 1017 = .ok (.aload_n 1, 1) := by decide +kernel
theorem dL_law_1018 : decode cL_law 1018 = .ok (.aload_n 0, 1) := by decide +kernel
theorem dL_law_1019 : decode cL_law 1019 = .ok (.iload_n 3, 1) := by decide +kernel
theorem dL_law_1020 : decode cL_law 1020 = .ok (.iconst 1, 1) := by decide +kernel
theorem dL_law_1021 : decode cL_law 1021 = .ok (.iadd, 1) := by decide +kernel
theorem dL_law_1022 : decode cL_law 1022 = .ok (.iaload, 1) := by decide +kernel
theorem dL_law_1023 : decode cL_law 1023 = .ok (.aload_n 0, 1) := by decide +kernel
theorem dL_law_1024 : decode cL_law 1024 = .ok (.iload_n 3, 1) := by decide +kernel
theorem dL_law_1025 : decode cL_law 1025 = .ok (.iconst 2, 1) := by decide +kernel
theorem dL_law_1026 : decode cL_law 1026 = .ok (.iadd, 1) := by decide +kernel
theorem dL_law_1027 : decode cL_law 1027 = .ok (.iaload, 1) := by decide +kernel
theorem dL_law_1028 : decode cL_law 1028 = .ok (.invokevirtual 102, 3) := by decide +kernel
theorem dL_law_1031 : decode cL_law 1031 = .ok (.aload_n 2, 1) := by decide +kernel
theorem dL_law_1032 : decode cL_law 1032 = .ok (.aload_n 0, 1) := by decide +kernel
theorem dL_law_1033 : decode cL_law 1033 = .ok (.iload_n 3, 1) := by decide +kernel
theorem dL_law_1034 : decode cL_law 1034 = .ok (.iconst 1, 1) := by decide +kernel
theorem dL_law_1035 : decode cL_law 1035 = .ok (.iadd, 1) := by decide +kernel
theorem dL_law_1036 : decode cL_law 1036 = .ok (.iaload, 1) := by decide +kernel
theorem dL_law_1037 : decode cL_law 1037 = .ok (.aload_n 0, 1) := by decide +kernel
theorem dL_law_1038 : decode cL_law 1038 = .ok (.iload_n 3, 1) := by decide +kernel
theorem dL_law_1039 : decode cL_law 1039 = .ok (.iconst 2, 1) := by decide +kernel
theorem dL_law_1040 : decode cL_law 1040 = .ok (.iadd, 1) := by decide +kernel
theorem dL_law_1041 : decode cL_law 1041 = .ok (.iaload, 1) := by decide +kernel
theorem dL_law_1042 : decode cL_law 1042 = .ok (.invokevirtual 105, 3) := by decide +kernel
theorem dL_law_1045 : decode cL_law 1045 = .ok (.if_icmp .eq 912, 3) := by decide +kernel
theorem dL_law_1048 : decode cL_law 1048 = .ok (.iconst 0, 1) := by decide +kernel
theorem dL_law_1049 : decode cL_law 1049 = .ok (.ireturn, 1) := by decide +kernel
theorem dL_law_1050 : decode cL_law 1050 = .ok (.aload_n 1, 1) := by decide +kernel
theorem dL_law_1051 : decode cL_law 1051 = .ok (.aload_n 0, 1) := by decide +kernel
theorem dL_law_1052 : decode cL_law 1052 = .ok (.iload_n 3, 1) := by decide +kernel
theorem dL_law_1053 : decode cL_law 1053 = .ok (.iconst 1, 1) := by decide +kernel
theorem dL_law_1054 : decode cL_law 1054 = .ok (.iadd, 1) := by decide +kernel
theorem dL_law_1055 : decode cL_law 1055 = .ok (.iaload, 1) := by decide +kernel
theorem dL_law_1056 : decode cL_law 1056 = .ok (.aload_n 0, 1) := by decide +kernel
theorem dL_law_1057 : decode cL_law 1057 = .ok (.iload_n 3, 1) := by decide +kernel
theorem dL_law_1058 : decode cL_law 1058 = .ok (.iconst 2, 1) := by decide +kernel
theorem dL_law_1059 : decode cL_law 1059 = .ok (.iadd, 1) := by decide +kernel
theorem dL_law_1060 : decode cL_law 1060 = .ok (.iaload, 1) := by decide +kernel
theorem dL_law_1061 : decode cL_law 1061 = .ok (.aload_n 0, 1) := by decide +kernel
theorem dL_law_1062 : decode cL_law 1062 = .ok (.iload_n 3, 1) := by decide +kernel
theorem dL_law_1063 : decode cL_law 1063 = .ok (.iconst 3, 1) := by decide +kernel
theorem dL_law_1064 : decode cL_law 1064 = .ok (.iadd, 1) := by decide +kernel
theorem dL_law_1065 : decode cL_law 1065 = .ok (.iaload, 1) := by decide +kernel
theorem dL_law_1066 : decode cL_law 1066 = .ok (.aload_n 0, 1) := by decide +kernel
theorem dL_law_1067 : decode cL_law 1067 = .ok (.iload_n 3, 1) := by decide +kernel
theorem dL_law_1068 : decode cL_law 1068 = .ok (.iconst 4, 1) := by decide +kernel
theorem dL_law_1069 : decode cL_law 1069 = .ok (.iadd, 1) := by decide +kernel
theorem dL_law_1070 : decode cL_law 1070 = .ok (.iaload, 1) := by decide +kernel
theorem dL_law_1071 : decode cL_law 1071 = .ok (.invokevirtual 106, 3) := by decide +kernel
theorem dL_law_1074 : decode cL_law 1074 = .ok (.aload_n 2, 1) := by decide +kernel
theorem dL_law_1075 : decode cL_law 1075 = .ok (.aload_n 0, 1) := by decide +kernel
theorem dL_law_1076 : decode cL_law 1076 = .ok (.iload_n 3, 1) := by decide +kernel
theorem dL_law_1077 : decode cL_law 1077 = .ok (.iconst 1, 1) := by decide +kernel
theorem dL_law_1078 : decode cL_law 1078 = .ok (.iadd, 1) := by decide +kernel
theorem dL_law_1079 : decode cL_law 1079 = .ok (.iaload, 1) := by decide +kernel
theorem dL_law_1080 : decode cL_law 1080 = .ok (.aload_n 0, 1) := by decide +kernel
theorem dL_law_1081 : decode cL_law 1081 = .ok (.iload_n 3, 1) := by decide +kernel
theorem dL_law_1082 : decode cL_law 1082 = .ok (.iconst 2, 1) := by decide +kernel
theorem dL_law_1083 : decode cL_law 1083 = .ok (.iadd, 1) := by decide +kernel
theorem dL_law_1084 : decode cL_law 1084 = .ok (.iaload, 1) := by decide +kernel
theorem dL_law_1085 : decode cL_law 1085 = .ok (.aload_n 0, 1) := by decide +kernel
theorem dL_law_1086 : decode cL_law 1086 = .ok (.iload_n 3, 1) := by decide +kernel
theorem dL_law_1087 : decode cL_law 1087 = .ok (.iconst 3, 1) := by decide +kernel
theorem dL_law_1088 : decode cL_law 1088 = .ok (.iadd, 1) := by decide +kernel
theorem dL_law_1089 : decode cL_law 1089 = .ok (.iaload, 1) := by decide +kernel
theorem dL_law_1090 : decode cL_law 1090 = .ok (.aload_n 0, 1) := by decide +kernel
theorem dL_law_1091 : decode cL_law 1091 = .ok (.iload_n 3, 1) := by decide +kernel
theorem dL_law_1092 : decode cL_law 1092 = .ok (.iconst 4, 1) := by decide +kernel
theorem dL_law_1093 : decode cL_law 1093 = .ok (.iadd, 1) := by decide +kernel
theorem dL_law_1094 : decode cL_law 1094 = .ok (.iaload, 1) := by decide +kernel
theorem dL_law_1095 : decode cL_law 1095 = .ok (.invokevirtual 110, 3) := by decide +kernel
theorem dL_law_1098 : decode cL_law 1098 = .ok (.if_icmp .eq 859, 3) := by decide +kernel
theorem dL_law_1101 : decode cL_law 1101 = .ok (.iconst 0, 1) := by decide +kernel
theorem dL_law_1102 : decode cL_law 1102 = .ok (.ireturn, 1) := by decide +kernel
theorem dL_law_1103 : decode cL_law 1103 = .ok (.aload_n 1, 1) := by decide +kernel
theorem dL_law_1104 : decode cL_law 1104 = .ok (.aload_n 0, 1) := by decide +kernel
theorem dL_law_1105 : decode cL_law 1105 = .ok (.iload_n 3, 1) := by decide +kernel
theorem dL_law_1106 : decode cL_law 1106 = .ok (.iconst 1, 1) := by decide +kernel
theorem dL_law_1107 : decode cL_law 1107 = .ok (.iadd, 1) := by decide +kernel
theorem dL_law_1108 : decode cL_law 1108 = .ok (.iaload, 1) := by decide +kernel
theorem dL_law_1109 : decode cL_law 1109 = .ok (.aload_n 0, 1) := by decide +kernel
theorem dL_law_1110 : decode cL_law 1110 = .ok (.iload_n 3, 1) := by decide +kernel
theorem dL_law_1111 : decode cL_law 1111 = .ok (.iconst 2, 1) := by decide +kernel
theorem dL_law_1112 : decode cL_law 1112 = .ok (.iadd, 1) := by decide +kernel
theorem dL_law_1113 : decode cL_law 1113 = .ok (.iaload, 1) := by decide +kernel
theorem dL_law_1114 : decode cL_law 1114 = .ok (.aload_n 0, 1) := by decide +kernel
theorem dL_law_1115 : decode cL_law 1115 = .ok (.iload_n 3, 1) := by decide +kernel
theorem dL_law_1116 : decode cL_law 1116 = .ok (.iconst 3, 1) := by decide +kernel
theorem dL_law_1117 : decode cL_law 1117 = .ok (.iadd, 1) := by decide +kernel
theorem dL_law_1118 : decode cL_law 1118 = .ok (.iaload, 1) := by decide +kernel
theorem dL_law_1119 : decode cL_law 1119 = .ok (.aload_n 0, 1) := by decide +kernel
theorem dL_law_1120 : decode cL_law 1120 = .ok (.iload_n 3, 1) := by decide +kernel
theorem dL_law_1121 : decode cL_law 1121 = .ok (.iconst 4, 1) := by decide +kernel
theorem dL_law_1122 : decode cL_law 1122 = .ok (.iadd, 1) := by decide +kernel
theorem dL_law_1123 : decode cL_law 1123 = .ok (.iaload, 1) := by decide +kernel
theorem dL_law_1124 : decode cL_law 1124 = .ok (.invokevirtual 111, 3) := by decide +kernel
theorem dL_law_1127 : decode cL_law 1127 = .ok (.aload_n 2, 1) := by decide +kernel
theorem dL_law_1128 : decode cL_law 1128 = .ok (.aload_n 0, 1) := by decide +kernel
theorem dL_law_1129 : decode cL_law 1129 = .ok (.iload_n 3, 1) := by decide +kernel
theorem dL_law_1130 : decode cL_law 1130 = .ok (.iconst 1, 1) := by decide +kernel
theorem dL_law_1131 : decode cL_law 1131 = .ok (.iadd, 1) := by decide +kernel
theorem dL_law_1132 : decode cL_law 1132 = .ok (.iaload, 1) := by decide +kernel
theorem dL_law_1133 : decode cL_law 1133 = .ok (.aload_n 0, 1) := by decide +kernel
theorem dL_law_1134 : decode cL_law 1134 = .ok (.iload_n 3, 1) := by decide +kernel
theorem dL_law_1135 : decode cL_law 1135 = .ok (.iconst 2, 1) := by decide +kernel
theorem dL_law_1136 : decode cL_law 1136 = .ok (.iadd, 1) := by decide +kernel
theorem dL_law_1137 : decode cL_law 1137 = .ok (.iaload, 1) := by decide +kernel
theorem dL_law_1138 : decode cL_law 1138 = .ok (.aload_n 0, 1) := by decide +kernel
theorem dL_law_1139 : decode cL_law 1139 = .ok (.iload_n 3, 1) := by decide +kernel
theorem dL_law_1140 : decode cL_law 1140 = .ok (.iconst 3, 1) := by decide +kernel
theorem dL_law_1141 : decode cL_law 1141 = .ok (.iadd, 1) := by decide +kernel
theorem dL_law_1142 : decode cL_law 1142 = .ok (.iaload, 1) := by decide +kernel
theorem dL_law_1143 : decode cL_law 1143 = .ok (.aload_n 0, 1) := by decide +kernel
theorem dL_law_1144 : decode cL_law 1144 = .ok (.iload_n 3, 1) := by decide +kernel
theorem dL_law_1145 : decode cL_law 1145 = .ok (.iconst 4, 1) := by decide +kernel
theorem dL_law_1146 : decode cL_law 1146 = .ok (.iadd, 1) := by decide +kernel
theorem dL_law_1147 : decode cL_law 1147 = .ok (.iaload, 1) := by decide +kernel
theorem dL_law_1148 : decode cL_law 1148 = .ok (.invokevirtual 114, 3) := by decide +kernel
theorem dL_law_1151 : decode cL_law 1151 = .ok (.if_icmp .eq 806, 3) := by decide +kernel
theorem dL_law_1154 : decode cL_law 1154 = .ok (.iconst 0, 1) := by decide +kernel
theorem dL_law_1155 : decode cL_law 1155 = .ok (.ireturn, 1) := by decide +kernel
theorem dL_law_1156 : decode cL_law 1156 = .ok (.aload_n 1, 1) := by decide +kernel
theorem dL_law_1157 : decode cL_law 1157 = .ok (.aload_n 0, 1) := by decide +kernel
theorem dL_law_1158 : decode cL_law 1158 = .ok (.iload_n 3, 1) := by decide +kernel
theorem dL_law_1159 : decode cL_law 1159 = .ok (.iconst 1, 1) := by decide +kernel
theorem dL_law_1160 : decode cL_law 1160 = .ok (.iadd, 1) := by decide +kernel
theorem dL_law_1161 : decode cL_law 1161 = .ok (.iaload, 1) := by decide +kernel
theorem dL_law_1162 : decode cL_law 1162 = .ok (.aload_n 0, 1) := by decide +kernel
theorem dL_law_1163 : decode cL_law 1163 = .ok (.iload_n 3, 1) := by decide +kernel
theorem dL_law_1164 : decode cL_law 1164 = .ok (.iconst 2, 1) := by decide +kernel
theorem dL_law_1165 : decode cL_law 1165 = .ok (.iadd, 1) := by decide +kernel
theorem dL_law_1166 : decode cL_law 1166 = .ok (.iaload, 1) := by decide +kernel
theorem dL_law_1167 : decode cL_law 1167 = .ok (.aload_n 0, 1) := by decide +kernel
theorem dL_law_1168 : decode cL_law 1168 = .ok (.iload_n 3, 1) := by decide +kernel
theorem dL_law_1169 : decode cL_law 1169 = .ok (.iconst 3, 1) := by decide +kernel
theorem dL_law_1170 : decode cL_law 1170 = .ok (.iadd, 1) := by decide +kernel
theorem dL_law_1171 : decode cL_law 1171 = .ok (.iaload, 1) := by decide +kernel
theorem dL_law_1172 : decode cL_law 1172 = .ok (.aload_n 0, 1) := by decide +kernel
theorem dL_law_1173 : decode cL_law 1173 = .ok (.iload_n 3, 1) := by decide +kernel
theorem dL_law_1174 : decode cL_law 1174 = .ok (.iconst 4, 1) := by decide +kernel
theorem dL_law_1175 : decode cL_law 1175 = .ok (.iadd, 1) := by decide +kernel
theorem dL_law_1176 : decode cL_law 1176 = .ok (.iaload, 1) := by decide +kernel
theorem dL_law_1177 : decode cL_law 1177 = .ok (.aload_n 0, 1) := by decide +kernel
theorem dL_law_1178 : decode cL_law 1178 = .ok (.iload_n 3, 1) := by decide +kernel
theorem dL_law_1179 : decode cL_law 1179 = .ok (.iconst 5, 1) := by decide +kernel
theorem dL_law_1180 : decode cL_law 1180 = .ok (.iadd, 1) := by decide +kernel
theorem dL_law_1181 : decode cL_law 1181 = .ok (.iaload, 1) := by decide +kernel
theorem dL_law_1182 : decode cL_law 1182 = .ok (.invokevirtual 115, 3) := by decide +kernel
theorem dL_law_1185 : decode cL_law 1185 = .ok (.aload_n 2, 1) := by decide +kernel
theorem dL_law_1186 : decode cL_law 1186 = .ok (.aload_n 0, 1) := by decide +kernel
theorem dL_law_1187 : decode cL_law 1187 = .ok (.iload_n 3, 1) := by decide +kernel
theorem dL_law_1188 : decode cL_law 1188 = .ok (.iconst 1, 1) := by decide +kernel
theorem dL_law_1189 : decode cL_law 1189 = .ok (.iadd, 1) := by decide +kernel
theorem dL_law_1190 : decode cL_law 1190 = .ok (.iaload, 1) := by decide +kernel
theorem dL_law_1191 : decode cL_law 1191 = .ok (.aload_n 0, 1) := by decide +kernel
theorem dL_law_1192 : decode cL_law 1192 = .ok (.iload_n 3, 1) := by decide +kernel
theorem dL_law_1193 : decode cL_law 1193 = .ok (.iconst 2, 1) := by decide +kernel
theorem dL_law_1194 : decode cL_law 1194 = .ok (.iadd, 1) := by decide +kernel
theorem dL_law_1195 : decode cL_law 1195 = .ok (.iaload, 1) := by decide +kernel
theorem dL_law_1196 : decode cL_law 1196 = .ok (.aload_n 0, 1) := by decide +kernel
theorem dL_law_1197 : decode cL_law 1197 = .ok (.iload_n 3, 1) := by decide +kernel
theorem dL_law_1198 : decode cL_law 1198 = .ok (.iconst 3, 1) := by decide +kernel
theorem dL_law_1199 : decode cL_law 1199 = .ok (.iadd, 1) := by decide +kernel
theorem dL_law_1200 : decode cL_law 1200 = .ok (.iaload, 1) := by decide +kernel
theorem dL_law_1201 : decode cL_law 1201 = .ok (.aload_n 0, 1) := by decide +kernel
theorem dL_law_1202 : decode cL_law 1202 = .ok (.iload_n 3, 1) := by decide +kernel
theorem dL_law_1203 : decode cL_law 1203 = .ok (.iconst 4, 1) := by decide +kernel
theorem dL_law_1204 : decode cL_law 1204 = .ok (.iadd, 1) := by decide +kernel
theorem dL_law_1205 : decode cL_law 1205 = .ok (.iaload, 1) := by decide +kernel
theorem dL_law_1206 : decode cL_law 1206 = .ok (.aload_n 0, 1) := by decide +kernel
theorem dL_law_1207 : decode cL_law 1207 = .ok (.iload_n 3, 1) := by decide +kernel
theorem dL_law_1208 : decode cL_law 1208 = .ok (.iconst 5, 1) := by decide +kernel
theorem dL_law_1209 : decode cL_law 1209 = .ok (.iadd, 1) := by decide +kernel
theorem dL_law_1210 : decode cL_law 1210 = .ok (.iaload, 1) := by decide +kernel
theorem dL_law_1211 : decode cL_law 1211 = .ok (.invokevirtual 118, 3) := by decide +kernel
theorem dL_law_1214 : decode cL_law 1214 = .ok (.if_icmp .eq 743, 3) := by decide +kernel
theorem dL_law_1217 : decode cL_law 1217 = .ok (.iconst 0, 1) := by decide +kernel
theorem dL_law_1218 : decode cL_law 1218 = .ok (.ireturn, 1) := by decide +kernel
theorem dL_law_1219 : decode cL_law 1219 = .ok (.aload_n 1, 1) := by decide +kernel
theorem dL_law_1220 : decode cL_law 1220 = .ok (.aload_n 0, 1) := by decide +kernel
theorem dL_law_1221 : decode cL_law 1221 = .ok (.iload_n 3, 1) := by decide +kernel
theorem dL_law_1222 : decode cL_law 1222 = .ok (.iconst 1, 1) := by decide +kernel
theorem dL_law_1223 : decode cL_law 1223 = .ok (.iadd, 1) := by decide +kernel
theorem dL_law_1224 : decode cL_law 1224 = .ok (.iaload, 1) := by decide +kernel
theorem dL_law_1225 : decode cL_law 1225 = .ok (.invokevirtual 119, 3) := by decide +kernel
theorem dL_law_1228 : decode cL_law 1228 = .ok (.aload_n 2, 1) := by decide +kernel
theorem dL_law_1229 : decode cL_law 1229 = .ok (.aload_n 0, 1) := by decide +kernel
theorem dL_law_1230 : decode cL_law 1230 = .ok (.iload_n 3, 1) := by decide +kernel
theorem dL_law_1231 : decode cL_law 1231 = .ok (.iconst 1, 1) := by decide +kernel
theorem dL_law_1232 : decode cL_law 1232 = .ok (.iadd, 1) := by decide +kernel
theorem dL_law_1233 : decode cL_law 1233 = .ok (.iaload, 1) := by decide +kernel
theorem dL_law_1234 : decode cL_law 1234 = .ok (.invokevirtual 122, 3) := by decide +kernel
theorem dL_law_1237 : decode cL_law 1237 = .ok (.if_icmp .eq 720, 3) := by decide +kernel
theorem dL_law_1240 : decode cL_law 1240 = .ok (.iconst 0, 1) := by decide +kernel
theorem dL_law_1241 : decode cL_law 1241 = .ok (.ireturn, 1) := by decide +kernel
theorem dL_law_1242 : decode cL_law 1242 = .ok (.aload_n 1, 1) := by decide +kernel
theorem dL_law_1243 : decode cL_law 1243 = .ok (.aload_n 0, 1) := by decide +kernel
theorem dL_law_1244 : decode cL_law 1244 = .ok (.iload_n 3, 1) := by decide +kernel
theorem dL_law_1245 : decode cL_law 1245 = .ok (.iconst 1, 1) := by decide +kernel
theorem dL_law_1246 : decode cL_law 1246 = .ok (.iadd, 1) := by decide +kernel
theorem dL_law_1247 : decode cL_law 1247 = .ok (.iaload, 1) := by decide +kernel
theorem dL_law_1248 : decode cL_law 1248 = .ok (.invokevirtual 123, 3) := by decide +kernel
theorem dL_law_1251 : decode cL_law 1251 = .ok (.aload_n 2, 1) := by decide +kernel
theorem dL_law_1252 : decode cL_law 1252 = .ok (.aload_n 0, 1) := by decide +kernel
theorem dL_law_1253 : decode cL_law 1253 = .ok (.iload_n 3, 1) := by decide +kernel
theorem dL_law_1254 : decode cL_law 1254 = .ok (.iconst 1, 1) := by decide +kernel
theorem dL_law_1255 : decode cL_law 1255 = .ok (.iadd, 1) := by decide +kernel
theorem dL_law_1256 : decode cL_law 1256 = .ok (.iaload, 1) := by decide +kernel
theorem dL_law_1257 : decode cL_law 1257 = .ok (.invokevirtual 126, 3) := by decide +kernel
theorem dL_law_1260 : decode cL_law 1260 = .ok (.if_icmp .eq 697, 3) := by decide +kernel
theorem dL_law_1263 : decode cL_law 1263 = .ok (.iconst 0, 1) := by decide +kernel
theorem dL_law_1264 : decode cL_law 1264 = .ok (.ireturn, 1) := by decide +kernel
theorem dL_law_1265 : decode cL_law 1265 = .ok (.aload_n 1, 1) := by decide +kernel
theorem dL_law_1266 : decode cL_law 1266 = .ok (.aload_n 0, 1) := by decide +kernel
theorem dL_law_1267 : decode cL_law 1267 = .ok (.iload_n 3, 1) := by decide +kernel
theorem dL_law_1268 : decode cL_law 1268 = .ok (.iconst 1, 1) := by decide +kernel
theorem dL_law_1269 : decode cL_law 1269 = .ok (.iadd, 1) := by decide +kernel
theorem dL_law_1270 : decode cL_law 1270 = .ok (.iaload, 1) := by decide +kernel
theorem dL_law_1271 : decode cL_law 1271 = .ok (.aload_n 0, 1) := by decide +kernel
theorem dL_law_1272 : decode cL_law 1272 = .ok (.iload_n 3, 1) := by decide +kernel
theorem dL_law_1273 : decode cL_law 1273 = .ok (.iconst 2, 1) := by decide +kernel
theorem dL_law_1274 : decode cL_law 1274 = .ok (.iadd, 1) := by decide +kernel
theorem dL_law_1275 : decode cL_law 1275 = .ok (.iaload, 1) := by decide +kernel
theorem dL_law_1276 : decode cL_law 1276 = .ok (.aload_n 0, 1) := by decide +kernel
theorem dL_law_1277 : decode cL_law 1277 = .ok (.iload_n 3, 1) := by decide +kernel
theorem dL_law_1278 : decode cL_law 1278 = .ok (.iconst 3, 1) := by decide +kernel
theorem dL_law_1279 : decode cL_law 1279 = .ok (.iadd, 1) := by decide +kernel
theorem dL_law_1280 : decode cL_law 1280 = .ok (.iaload, 1) := by decide +kernel
theorem dL_law_1281 : decode cL_law 1281 = .ok (.aload_n 0, 1) := by decide +kernel
theorem dL_law_1282 : decode cL_law 1282 = .ok (.iload_n 3, 1) := by decide +kernel
theorem dL_law_1283 : decode cL_law 1283 = .ok (.iconst 4, 1) := by decide +kernel
theorem dL_law_1284 : decode cL_law 1284 = .ok (.iadd, 1) := by decide +kernel
theorem dL_law_1285 : decode cL_law 1285 = .ok (.iaload, 1) := by decide +kernel
theorem dL_law_1286 : decode cL_law 1286 = .ok (.aload_n 0, 1) := by decide +kernel
theorem dL_law_1287 : decode cL_law 1287 = .ok (.iload_n 3, 1) := by decide +kernel
theorem dL_law_1288 : decode cL_law 1288 = .ok (.iconst 5, 1) := by decide +kernel
theorem dL_law_1289 : decode cL_law 1289 = .ok (.iadd, 1) := by decide +kernel
theorem dL_law_1290 : decode cL_law 1290 = .ok (.iaload, 1) := by decide +kernel
theorem dL_law_1291 : decode cL_law 1291 = .ok (.invokevirtual 127, 3) := by decide +kernel
theorem dL_law_1294 : decode cL_law 1294 = .ok (.aload_n 2, 1) := by decide +kernel
theorem dL_law_1295 : decode cL_law 1295 = .ok (.aload_n 0, 1) := by decide +kernel
theorem dL_law_1296 : decode cL_law 1296 = .ok (.iload_n 3, 1) := by decide +kernel
theorem dL_law_1297 : decode cL_law 1297 = .ok (.iconst 1, 1) := by decide +kernel
theorem dL_law_1298 : decode cL_law 1298 = .ok (.iadd, 1) := by decide +kernel
theorem dL_law_1299 : decode cL_law 1299 = .ok (.iaload, 1) := by decide +kernel
theorem dL_law_1300 : decode cL_law 1300 = .ok (.aload_n 0, 1) := by decide +kernel
theorem dL_law_1301 : decode cL_law 1301 = .ok (.iload_n 3, 1) := by decide +kernel
theorem dL_law_1302 : decode cL_law 1302 = .ok (.iconst 2, 1) := by decide +kernel
theorem dL_law_1303 : decode cL_law 1303 = .ok (.iadd, 1) := by decide +kernel
theorem dL_law_1304 : decode cL_law 1304 = .ok (.iaload, 1) := by decide +kernel
theorem dL_law_1305 : decode cL_law 1305 = .ok (.aload_n 0, 1) := by decide +kernel
theorem dL_law_1306 : decode cL_law 1306 = .ok (.iload_n 3, 1) := by decide +kernel
theorem dL_law_1307 : decode cL_law 1307 = .ok (.iconst 3, 1) := by decide +kernel
theorem dL_law_1308 : decode cL_law 1308 = .ok (.iadd, 1) := by decide +kernel
theorem dL_law_1309 : decode cL_law 1309 = .ok (.iaload, 1) := by decide +kernel
theorem dL_law_1310 : decode cL_law 1310 = .ok (.aload_n 0, 1) := by decide +kernel
theorem dL_law_1311 : decode cL_law 1311 = .ok (.iload_n 3, 1) := by decide +kernel
theorem dL_law_1312 : decode cL_law 1312 = .ok (.iconst 4, 1) := by decide +kernel
theorem dL_law_1313 : decode cL_law 1313 = .ok (.iadd, 1) := by decide +kernel
theorem dL_law_1314 : decode cL_law 1314 = .ok (.iaload, 1) := by decide +kernel
theorem dL_law_1315 : decode cL_law 1315 = .ok (.aload_n 0, 1) := by decide +kernel
theorem dL_law_1316 : decode cL_law 1316 = .ok (.iload_n 3, 1) := by decide +kernel
theorem dL_law_1317 : decode cL_law 1317 = .ok (.iconst 5, 1) := by decide +kernel
theorem dL_law_1318 : decode cL_law 1318 = .ok (.iadd, 1) := by decide +kernel
theorem dL_law_1319 : decode cL_law 1319 = .ok (.iaload, 1) := by decide +kernel
theorem dL_law_1320 : decode cL_law 1320 = .ok (.invokevirtual 130, 3) := by decide +kernel
theorem dL_law_1323 : decode cL_law 1323 = .ok (.if_icmp .eq 634, 3) := by decide +kernel
theorem dL_law_1326 : decode cL_law 1326 = .ok (.iconst 0, 1) := by decide +kernel
theorem dL_law_1327 : decode cL_law 1327 = .ok (.ireturn, 1) := by decide +kernel
theorem dL_law_1328 : decode cL_law 1328 = .ok (.aload_n 1, 1) := by decide +kernel
theorem dL_law_1329 : decode cL_law 1329 = .ok (.aload_n 0, 1) := by decide +kernel
theorem dL_law_1330 : decode cL_law 1330 = .ok (.iload_n 3, 1) := by decide +kernel
theorem dL_law_1331 : decode cL_law 1331 = .ok (.iconst 1, 1) := by decide +kernel
theorem dL_law_1332 : decode cL_law 1332 = .ok (.iadd, 1) := by decide +kernel
theorem dL_law_1333 : decode cL_law 1333 = .ok (.iaload, 1) := by decide +kernel
theorem dL_law_1334 : decode cL_law 1334 = .ok (.invokevirtual 131, 3) := by decide +kernel
theorem dL_law_1337 : decode cL_law 1337 = .ok (.aload_n 2, 1) := by decide +kernel
theorem dL_law_1338 : decode cL_law 1338 = .ok (.aload_n 0, 1) := by decide +kernel
theorem dL_law_1339 : decode cL_law 1339 = .ok (.iload_n 3, 1) := by decide +kernel
theorem dL_law_1340 : decode cL_law 1340 = .ok (.iconst 1, 1) := by decide +kernel
theorem dL_law_1341 : decode cL_law 1341 = .ok (.iadd, 1) := by decide +kernel
theorem dL_law_1342 : decode cL_law 1342 = .ok (.iaload, 1) := by decide +kernel
theorem dL_law_1343 : decode cL_law 1343 = .ok (.invokevirtual 134, 3) := by decide +kernel
theorem dL_law_1346 : decode cL_law 1346 = .ok (.if_icmp .eq 611, 3) := by decide +kernel
theorem dL_law_1349 : decode cL_law 1349 = .ok (.iconst 0, 1) := by decide +kernel
theorem dL_law_1350 : decode cL_law 1350 = .ok (.ireturn, 1) := by decide +kernel
theorem dL_law_1351 : decode cL_law 1351 = .ok (.aload_n 1, 1) := by decide +kernel
theorem dL_law_1352 : decode cL_law 1352 = .ok (.aload_n 0, 1) := by decide +kernel
theorem dL_law_1353 : decode cL_law 1353 = .ok (.iload_n 3, 1) := by decide +kernel
theorem dL_law_1354 : decode cL_law 1354 = .ok (.iconst 1, 1) := by decide +kernel
theorem dL_law_1355 : decode cL_law 1355 = .ok (.iadd, 1) := by decide +kernel
theorem dL_law_1356 : decode cL_law 1356 = .ok (.iaload, 1) := by decide +kernel
theorem dL_law_1357 : decode cL_law 1357 = .ok (.aload_n 0, 1) := by decide +kernel
theorem dL_law_1358 : decode cL_law 1358 = .ok (.iload_n 3, 1) := by decide +kernel
theorem dL_law_1359 : decode cL_law 1359 = .ok (.iconst 2, 1) := by decide +kernel
theorem dL_law_1360 : decode cL_law 1360 = .ok (.iadd, 1) := by decide +kernel
theorem dL_law_1361 : decode cL_law 1361 = .ok (.iaload, 1) := by decide +kernel
theorem dL_law_1362 : decode cL_law 1362 = .ok (.aload_n 0, 1) := by decide +kernel
theorem dL_law_1363 : decode cL_law 1363 = .ok (.iload_n 3, 1) := by decide +kernel
theorem dL_law_1364 : decode cL_law 1364 = .ok (.iconst 3, 1) := by decide +kernel
theorem dL_law_1365 : decode cL_law 1365 = .ok (.iadd, 1) := by decide +kernel
theorem dL_law_1366 : decode cL_law 1366 = .ok (.iaload, 1) := by decide +kernel
theorem dL_law_1367 : decode cL_law 1367 = .ok (.invokevirtual 135, 3) := by decide +kernel
theorem dL_law_1370 : decode cL_law 1370 = .ok (.aload_n 2, 1) := by decide +kernel
theorem dL_law_1371 : decode cL_law 1371 = .ok (.aload_n 0, 1) := by decide +kernel
theorem dL_law_1372 : decode cL_law 1372 = .ok (.iload_n 3, 1) := by decide +kernel
theorem dL_law_1373 : decode cL_law 1373 = .ok (.iconst 1, 1) := by decide +kernel
theorem dL_law_1374 : decode cL_law 1374 = .ok (.iadd, 1) := by decide +kernel
theorem dL_law_1375 : decode cL_law 1375 = .ok (.iaload, 1) := by decide +kernel
theorem dL_law_1376 : decode cL_law 1376 = .ok (.aload_n 0, 1) := by decide +kernel
theorem dL_law_1377 : decode cL_law 1377 = .ok (.iload_n 3, 1) := by decide +kernel
theorem dL_law_1378 : decode cL_law 1378 = .ok (.iconst 2, 1) := by decide +kernel
theorem dL_law_1379 : decode cL_law 1379 = .ok (.iadd, 1) := by decide +kernel
theorem dL_law_1380 : decode cL_law 1380 = .ok (.iaload, 1) := by decide +kernel
theorem dL_law_1381 : decode cL_law 1381 = .ok (.aload_n 0, 1) := by decide +kernel
theorem dL_law_1382 : decode cL_law 1382 = .ok (.iload_n 3, 1) := by decide +kernel
theorem dL_law_1383 : decode cL_law 1383 = .ok (.iconst 3, 1) := by decide +kernel
theorem dL_law_1384 : decode cL_law 1384 = .ok (.iadd, 1) := by decide +kernel
theorem dL_law_1385 : decode cL_law 1385 = .ok (.iaload, 1) := by decide +kernel
theorem dL_law_1386 : decode cL_law 1386 = .ok (.invokevirtual 138, 3) := by decide +kernel
theorem dL_law_1389 : decode cL_law 1389 = .ok (.if_icmp .eq 568, 3) := by decide +kernel
theorem dL_law_1392 : decode cL_law 1392 = .ok (.iconst 0, 1) := by decide +kernel
theorem dL_law_1393 : decode cL_law 1393 = .ok (.ireturn, 1) := by decide +kernel
theorem dL_law_1394 : decode cL_law 1394 = .ok (.aload_n 1, 1) := by decide +kernel
theorem dL_law_1395 : decode cL_law 1395 = .ok (.aload_n 0, 1) := by decide +kernel
theorem dL_law_1396 : decode cL_law 1396 = .ok (.iload_n 3, 1) := by decide +kernel
theorem dL_law_1397 : decode cL_law 1397 = .ok (.iconst 1, 1) := by decide +kernel
theorem dL_law_1398 : decode cL_law 1398 = .ok (.iadd, 1) := by decide +kernel
theorem dL_law_1399 : decode cL_law 1399 = .ok (.iaload, 1) := by decide +kernel
theorem dL_law_1400 : decode cL_law 1400 = .ok (.aload_n 0, 1) := by decide +kernel
theorem dL_law_1401 : decode cL_law 1401 = .ok (.iload_n 3, 1) := by decide +kernel
theorem dL_law_1402 : decode cL_law 1402 = .ok (.iconst 2, 1) := by decide +kernel
theorem dL_law_1403 : decode cL_law 1403 = .ok (.iadd, 1) := by decide +kernel
theorem dL_law_1404 : decode cL_law 1404 = .ok (.iaload, 1) := by decide +kernel
theorem dL_law_1405 : decode cL_law 1405 = .ok (.aload_n 0, 1) := by decide +kernel
theorem dL_law_1406 : decode cL_law 1406 = .ok (.iload_n 3, 1) := by decide +kernel
theorem dL_law_1407 : decode cL_law 1407 = .ok (.iconst 3, 1) := by decide +kernel
theorem dL_law_1408 : decode cL_law 1408 = .ok (.iadd, 1) := by decide +kernel
theorem dL_law_1409 : decode cL_law 1409 = .ok (.iaload, 1) := by decide +kernel
theorem dL_law_1410 : decode cL_law 1410 = .ok (.invokevirtual 139, 3) := by decide +kernel
theorem dL_law_1413 : decode cL_law 1413 = .ok (.aload_n 2, 1) := by decide +kernel
theorem dL_law_1414 : decode cL_law 1414 = .ok (.aload_n 0, 1) := by decide +kernel
theorem dL_law_1415 : decode cL_law 1415 = .ok (.iload_n 3, 1) := by decide +kernel
theorem dL_law_1416 : decode cL_law 1416 = .ok (.iconst 1, 1) := by decide +kernel
theorem dL_law_1417 : decode cL_law 1417 = .ok (.iadd, 1) := by decide +kernel
theorem dL_law_1418 : decode cL_law 1418 = .ok (.iaload, 1) := by decide +kernel
theorem dL_law_1419 : decode cL_law 1419 = .ok (.aload_n 0, 1) := by decide +kernel
theorem dL_law_1420 : decode cL_law 1420 = .ok (.iload_n 3, 1) := by decide +kernel
theorem dL_law_1421 : decode cL_law 1421 = .ok (.iconst 2, 1) := by decide +kernel
theorem dL_law_1422 : decode cL_law 1422 = .ok (.iadd, 1) := by decide +kernel
theorem dL_law_1423 : decode cL_law 1423 = .ok (.iaload, 1) := by decide +kernel
theorem dL_law_1424 : decode cL_law 1424 = .ok (.aload_n 0, 1) := by decide +kernel
theorem dL_law_1425 : decode cL_law 1425 = .ok (.iload_n 3, 1) := by decide +kernel
theorem dL_law_1426 : decode cL_law 1426 = .ok (.iconst 3, 1) := by decide +kernel
theorem dL_law_1427 : decode cL_law 1427 = .ok (.iadd, 1) := by decide +kernel
theorem dL_law_1428 : decode cL_law 1428 = .ok (.iaload, 1) := by decide +kernel
theorem dL_law_1429 : decode cL_law 1429 = .ok (.invokevirtual 142, 3) := by decide +kernel
theorem dL_law_1432 : decode cL_law 1432 = .ok (.if_icmp .eq 525, 3) := by decide +kernel
theorem dL_law_1435 : decode cL_law 1435 = .ok (.iconst 0, 1) := by decide +kernel
theorem dL_law_1436 : decode cL_law 1436 = .ok (.ireturn, 1) := by decide +kernel
theorem dL_law_1437 : decode cL_law 1437 = .ok (.aload_n 1, 1) := by decide +kernel
theorem dL_law_1438 : decode cL_law 1438 = .ok (.aload_n 0, 1) := by decide +kernel
theorem dL_law_1439 : decode cL_law 1439 = .ok (.iload_n 3, 1) := by decide +kernel
theorem dL_law_1440 : decode cL_law 1440 = .ok (.iconst 1, 1) := by decide +kernel
theorem dL_law_1441 : decode cL_law 1441 = .ok (.iadd, 1) := by decide +kernel
theorem dL_law_1442 : decode cL_law 1442 = .ok (.iaload, 1) := by decide +kernel
theorem dL_law_1443 : decode cL_law 1443 = .ok (.aload_n 0, 1) := by decide +kernel
theorem dL_law_1444 : decode cL_law 1444 = .ok (.iload_n 3, 1) := by decide +kernel
theorem dL_law_1445 : decode cL_law 1445 = .ok (.iconst 2, 1) := by decide +kernel
theorem dL_law_1446 : decode cL_law 1446 = .ok (.iadd, 1) := by decide +kernel
theorem dL_law_1447 : decode cL_law 1447 = .ok (.iaload, 1) := by decide +kernel
theorem dL_law_1448 : decode cL_law 1448 = .ok (.invokevirtual 143, 3) := by decide +kernel
theorem dL_law_1451 : decode cL_law 1451 = .ok (.aload_n 2, 1) := by decide +kernel
theorem dL_law_1452 : decode cL_law 1452 = .ok (.aload_n 0, 1) := by decide +kernel
theorem dL_law_1453 : decode cL_law 1453 = .ok (.iload_n 3, 1) := by decide +kernel
theorem dL_law_1454 : decode cL_law 1454 = .ok (.iconst 1, 1) := by decide +kernel
theorem dL_law_1455 : decode cL_law 1455 = .ok (.iadd, 1) := by decide +kernel
theorem dL_law_1456 : decode cL_law 1456 = .ok (.iaload, 1) := by decide +kernel
theorem dL_law_1457 : decode cL_law 1457 = .ok (.aload_n 0, 1) := by decide +kernel
theorem dL_law_1458 : decode cL_law 1458 = .ok (.iload_n 3, 1) := by decide +kernel
theorem dL_law_1459 : decode cL_law 1459 = .ok (.iconst 2, 1) := by decide +kernel
theorem dL_law_1460 : decode cL_law 1460 = .ok (.iadd, 1) := by decide +kernel
theorem dL_law_1461 : decode cL_law 1461 = .ok (.iaload, 1) := by decide +kernel
theorem dL_law_1462 : decode cL_law 1462 = .ok (.invokevirtual 146, 3) := by decide +kernel
theorem dL_law_1465 : decode cL_law 1465 = .ok (.if_icmp .eq 492, 3) := by decide +kernel
theorem dL_law_1468 : decode cL_law 1468 = .ok (.iconst 0, 1) := by decide +kernel
theorem dL_law_1469 : decode cL_law 1469 = .ok (.ireturn, 1) := by decide +kernel
theorem dL_law_1470 : decode cL_law 1470 = .ok (.aload_n 1, 1) := by decide +kernel
theorem dL_law_1471 : decode cL_law 1471 = .ok (.aload_n 0, 1) := by decide +kernel
theorem dL_law_1472 : decode cL_law 1472 = .ok (.iload_n 3, 1) := by decide +kernel
theorem dL_law_1473 : decode cL_law 1473 = .ok (.iconst 1, 1) := by decide +kernel
theorem dL_law_1474 : decode cL_law 1474 = .ok (.iadd, 1) := by decide +kernel
theorem dL_law_1475 : decode cL_law 1475 = .ok (.iaload, 1) := by decide +kernel
theorem dL_law_1476 : decode cL_law 1476 = .ok (.aload_n 0, 1) := by decide +kernel
theorem dL_law_1477 : decode cL_law 1477 = .ok (.iload_n 3, 1) := by decide +kernel
theorem dL_law_1478 : decode cL_law 1478 = .ok (.iconst 2, 1) := by decide +kernel
theorem dL_law_1479 : decode cL_law 1479 = .ok (.iadd, 1) := by decide +kernel
theorem dL_law_1480 : decode cL_law 1480 = .ok (.iaload, 1) := by decide +kernel
theorem dL_law_1481 : decode cL_law 1481 = .ok (.invokevirtual 147, 3) := by decide +kernel
theorem dL_law_1484 : decode cL_law 1484 = .ok (.aload_n 2, 1) := by decide +kernel
theorem dL_law_1485 : decode cL_law 1485 = .ok (.aload_n 0, 1) := by decide +kernel
theorem dL_law_1486 : decode cL_law 1486 = .ok (.iload_n 3, 1) := by decide +kernel
theorem dL_law_1487 : decode cL_law 1487 = .ok (.iconst 1, 1) := by decide +kernel
theorem dL_law_1488 : decode cL_law 1488 = .ok (.iadd, 1) := by decide +kernel
theorem dL_law_1489 : decode cL_law 1489 = .ok (.iaload, 1) := by decide +kernel
theorem dL_law_1490 : decode cL_law 1490 = .ok (.aload_n 0, 1) := by decide +kernel
theorem dL_law_1491 : decode cL_law 1491 = .ok (.iload_n 3, 1) := by decide +kernel
theorem dL_law_1492 : decode cL_law 1492 = .ok (.iconst 2, 1) := by decide +kernel
theorem dL_law_1493 : decode cL_law 1493 = .ok (.iadd, 1) := by decide +kernel
theorem dL_law_1494 : decode cL_law 1494 = .ok (.iaload, 1) := by decide +kernel
theorem dL_law_1495 : decode cL_law 1495 = .ok (.invokevirtual 150, 3) := by decide +kernel
theorem dL_law_1498 : decode cL_law 1498 = .ok (.if_icmp .eq 459, 3) := by decide +kernel
theorem dL_law_1501 : decode cL_law 1501 = .ok (.iconst 0, 1) := by decide +kernel
theorem dL_law_1502 : decode cL_law 1502 = .ok (.ireturn, 1) := by decide +kernel
theorem dL_law_1503 : decode cL_law 1503 = .ok (.aload_n 1, 1) := by decide +kernel
theorem dL_law_1504 : decode cL_law 1504 = .ok (.aload_n 0, 1) := by decide +kernel
theorem dL_law_1505 : decode cL_law 1505 = .ok (.iload_n 3, 1) := by decide +kernel
theorem dL_law_1506 : decode cL_law 1506 = .ok (.iconst 1, 1) := by decide +kernel
theorem dL_law_1507 : decode cL_law 1507 = .ok (.iadd, 1) := by decide +kernel
theorem dL_law_1508 : decode cL_law 1508 = .ok (.iaload, 1) := by decide +kernel
theorem dL_law_1509 : decode cL_law 1509 = .ok (.aload_n 0, 1) := by decide +kernel
theorem dL_law_1510 : decode cL_law 1510 = .ok (.iload_n 3, 1) := by decide +kernel
theorem dL_law_1511 : decode cL_law 1511 = .ok (.iconst 2, 1) := by decide +kernel
theorem dL_law_1512 : decode cL_law 1512 = .ok (.iadd, 1) := by decide +kernel
theorem dL_law_1513 : decode cL_law 1513 = .ok (.iaload, 1) := by decide +kernel
theorem dL_law_1514 : decode cL_law 1514 = .ok (.aload_n 0, 1) := by decide +kernel
theorem dL_law_1515 : decode cL_law 1515 = .ok (.iload_n 3, 1) := by decide +kernel
theorem dL_law_1516 : decode cL_law 1516 = .ok (.iconst 3, 1) := by decide +kernel
theorem dL_law_1517 : decode cL_law 1517 = .ok (.iadd, 1) := by decide +kernel
theorem dL_law_1518 : decode cL_law 1518 = .ok (.iaload, 1) := by decide +kernel
theorem dL_law_1519 : decode cL_law 1519 = .ok (.aload_n 0, 1) := by decide +kernel
theorem dL_law_1520 : decode cL_law 1520 = .ok (.iload_n 3, 1) := by decide +kernel
theorem dL_law_1521 : decode cL_law 1521 = .ok (.iconst 4, 1) := by decide +kernel
theorem dL_law_1522 : decode cL_law 1522 = .ok (.iadd, 1) := by decide +kernel
theorem dL_law_1523 : decode cL_law 1523 = .ok (.iaload, 1) := by decide +kernel
theorem dL_law_1524 : decode cL_law 1524 = .ok (.invokevirtual 151, 3) := by decide +kernel
theorem dL_law_1527 : decode cL_law 1527 = .ok (.aload_n 2, 1) := by decide +kernel
theorem dL_law_1528 : decode cL_law 1528 = .ok (.aload_n 0, 1) := by decide +kernel
theorem dL_law_1529 : decode cL_law 1529 = .ok (.iload_n 3, 1) := by decide +kernel
theorem dL_law_1530 : decode cL_law 1530 = .ok (.iconst 1, 1) := by decide +kernel
theorem dL_law_1531 : decode cL_law 1531 = .ok (.iadd, 1) := by decide +kernel
theorem dL_law_1532 : decode cL_law 1532 = .ok (.iaload, 1) := by decide +kernel
theorem dL_law_1533 : decode cL_law 1533 = .ok (.aload_n 0, 1) := by decide +kernel
theorem dL_law_1534 : decode cL_law 1534 = .ok (.iload_n 3, 1) := by decide +kernel
theorem dL_law_1535 : decode cL_law 1535 = .ok (.iconst 2, 1) := by decide +kernel
theorem dL_law_1536 : decode cL_law 1536 = .ok (.iadd, 1) := by decide +kernel
theorem dL_law_1537 : decode cL_law 1537 = .ok (.iaload, 1) := by decide +kernel
theorem dL_law_1538 : decode cL_law 1538 = .ok (.aload_n 0, 1) := by decide +kernel
theorem dL_law_1539 : decode cL_law 1539 = .ok (.iload_n 3, 1) := by decide +kernel
theorem dL_law_1540 : decode cL_law 1540 = .ok (.iconst 3, 1) := by decide +kernel
theorem dL_law_1541 : decode cL_law 1541 = .ok (.iadd, 1) := by decide +kernel
theorem dL_law_1542 : decode cL_law 1542 = .ok (.iaload, 1) := by decide +kernel
theorem dL_law_1543 : decode cL_law 1543 = .ok (.aload_n 0, 1) := by decide +kernel
theorem dL_law_1544 : decode cL_law 1544 = .ok (.iload_n 3, 1) := by decide +kernel
theorem dL_law_1545 : decode cL_law 1545 = .ok (.iconst 4, 1) := by decide +kernel
theorem dL_law_1546 : decode cL_law 1546 = .ok (.iadd, 1) := by decide +kernel
theorem dL_law_1547 : decode cL_law 1547 = .ok (.iaload, 1) := by decide +kernel
theorem dL_law_1548 : decode cL_law 1548 = .ok (.invokevirtual 154, 3) := by decide +kernel
theorem dL_law_1551 : decode cL_law 1551 = .ok (.if_icmp .eq 406, 3) := by decide +kernel
theorem dL_law_1554 : decode cL_law 1554 = .ok (.iconst 0, 1) := by decide +kernel
theorem dL_law_1555 : decode cL_law 1555 = .ok (.ireturn, 1) := by decide +kernel
theorem dL_law_1556 : decode cL_law 1556 = .ok (.aload_n 1, 1) := by decide +kernel
theorem dL_law_1557 : decode cL_law 1557 = .ok (.aload_n 0, 1) := by decide +kernel
theorem dL_law_1558 : decode cL_law 1558 = .ok (.iload_n 3, 1) := by decide +kernel
theorem dL_law_1559 : decode cL_law 1559 = .ok (.iconst 1, 1) := by decide +kernel
theorem dL_law_1560 : decode cL_law 1560 = .ok (.iadd, 1) := by decide +kernel
theorem dL_law_1561 : decode cL_law 1561 = .ok (.iaload, 1) := by decide +kernel
theorem dL_law_1562 : decode cL_law 1562 = .ok (.aload_n 0, 1) := by decide +kernel
theorem dL_law_1563 : decode cL_law 1563 = .ok (.iload_n 3, 1) := by decide +kernel
theorem dL_law_1564 : decode cL_law 1564 = .ok (.iconst 2, 1) := by decide +kernel
theorem dL_law_1565 : decode cL_law 1565 = .ok (.iadd, 1) := by decide +kernel
theorem dL_law_1566 : decode cL_law 1566 = .ok (.iaload, 1) := by decide +kernel
theorem dL_law_1567 : decode cL_law 1567 = .ok (.aload_n 0, 1) := by decide +kernel
theorem dL_law_1568 : decode cL_law 1568 = .ok (.iload_n 3, 1) := by decide +kernel
theorem dL_law_1569 : decode cL_law 1569 = .ok (.iconst 3, 1) := by decide +kernel
theorem dL_law_1570 : decode cL_law 1570 = .ok (.iadd, 1) := by decide +kernel
theorem dL_law_1571 : decode cL_law 1571 = .ok (.iaload, 1) := by decide +kernel
theorem dL_law_1572 : decode cL_law 1572 = .ok (.invokevirtual 155, 3) := by decide +kernel
theorem dL_law_1575 : decode cL_law 1575 = .ok (.aload_n 2, 1) := by decide +kernel
theorem dL_law_1576 : decode cL_law 1576 = .ok (.aload_n 0, 1) := by decide +kernel
theorem dL_law_1577 : decode cL_law 1577 = .ok (.iload_n 3, 1) := by decide +kernel
theorem dL_law_1578 : decode cL_law 1578 = .ok (.iconst 1, 1) := by decide +kernel
theorem dL_law_1579 : decode cL_law 1579 = .ok (.iadd, 1) := by decide +kernel
theorem dL_law_1580 : decode cL_law 1580 = .ok (.iaload, 1) := by decide +kernel
theorem dL_law_1581 : decode cL_law 1581 = .ok (.aload_n 0, 1) := by decide +kernel
theorem dL_law_1582 : decode cL_law 1582 = .ok (.iload_n 3, 1) := by decide +kernel
theorem dL_law_1583 : decode cL_law 1583 = .ok (.iconst 2, 1) := by decide +kernel
theorem dL_law_1584 : decode cL_law 1584 = .ok (.iadd, 1) := by decide +kernel
theorem dL_law_1585 : decode cL_law 1585 = .ok (.iaload, 1) := by decide +kernel
theorem dL_law_1586 : decode cL_law 1586 = .ok (.aload_n 0, 1) := by decide +kernel
theorem dL_law_1587 : decode cL_law 1587 = .ok (.iload_n 3, 1) := by decide +kernel
theorem dL_law_1588 : decode cL_law 1588 = .ok (.iconst 3, 1) := by decide +kernel
theorem dL_law_1589 : decode cL_law 1589 = .ok (.iadd, 1) := by decide +kernel
theorem dL_law_1590 : decode cL_law 1590 = .ok (.iaload, 1) := by decide +kernel
theorem dL_law_1591 : decode cL_law 1591 = .ok (.invokevirtual 158, 3) := by decide +kernel
theorem dL_law_1594 : decode cL_law 1594 = .ok (.if_icmp .eq 363, 3) := by decide +kernel
theorem dL_law_1597 : decode cL_law 1597 = .ok (.iconst 0, 1) := by decide +kernel
theorem dL_law_1598 : decode cL_law 1598 = .ok (.ireturn, 1) := by decide +kernel
theorem dL_law_1599 : decode cL_law 1599 = .ok (.aload_n 1, 1) := by decide +kernel
theorem dL_law_1600 : decode cL_law 1600 = .ok (.aload_n 0, 1) := by decide +kernel
theorem dL_law_1601 : decode cL_law 1601 = .ok (.iload_n 3, 1) := by decide +kernel
theorem dL_law_1602 : decode cL_law 1602 = .ok (.iconst 1, 1) := by decide +kernel
theorem dL_law_1603 : decode cL_law 1603 = .ok (.iadd, 1) := by decide +kernel
theorem dL_law_1604 : decode cL_law 1604 = .ok (.iaload, 1) := by decide +kernel
theorem dL_law_1605 : decode cL_law 1605 = .ok (.aload_n 0, 1) := by decide +kernel
theorem dL_law_1606 : decode cL_law 1606 = .ok (.iload_n 3, 1) := by decide +kernel
theorem dL_law_1607 : decode cL_law 1607 = .ok (.iconst 2, 1) := by decide +kernel
theorem dL_law_1608 : decode cL_law 1608 = .ok (.iadd, 1) := by decide +kernel
theorem dL_law_1609 : decode cL_law 1609 = .ok (.iaload, 1) := by decide +kernel
theorem dL_law_1610 : decode cL_law 1610 = .ok (.aload_n 0, 1) := by decide +kernel
theorem dL_law_1611 : decode cL_law 1611 = .ok (.iload_n 3, 1) := by decide +kernel
theorem dL_law_1612 : decode cL_law 1612 = .ok (.iconst 3, 1) := by decide +kernel
theorem dL_law_1613 : decode cL_law 1613 = .ok (.iadd, 1) := by decide +kernel
theorem dL_law_1614 : decode cL_law 1614 = .ok (.iaload, 1) := by decide +kernel
theorem dL_law_1615 : decode cL_law 1615 = .ok (.invokevirtual 159, 3) := by decide +kernel
theorem dL_law_1618 : decode cL_law 1618 = .ok (.aload_n 2, 1) := by decide +kernel
theorem dL_law_1619 : decode cL_law 1619 = .ok (.aload_n 0, 1) := by decide +kernel
theorem dL_law_1620 : decode cL_law 1620 = .ok (.iload_n 3, 1) := by decide +kernel
theorem dL_law_1621 : decode cL_law 1621 = .ok (.iconst 1, 1) := by decide +kernel
theorem dL_law_1622 : decode cL_law 1622 = .ok (.iadd, 1) := by decide +kernel
theorem dL_law_1623 : decode cL_law 1623 = .ok (.iaload, 1) := by decide +kernel
theorem dL_law_1624 : decode cL_law 1624 = .ok (.aload_n 0, 1) := by decide +kernel
theorem dL_law_1625 : decode cL_law 1625 = .ok (.iload_n 3, 1) := by decide +kernel
theorem dL_law_1626 : decode cL_law 1626 = .ok (.iconst 2, 1) := by decide +kernel
theorem dL_law_1627 : decode cL_law 1627 = .ok (.iadd, 1) := by decide +kernel
theorem dL_law_1628 : decode cL_law 1628 = .ok (.iaload, 1) := by decide +kernel
theorem dL_law_1629 : decode cL_law 1629 = .ok (.aload_n 0, 1) := by decide +kernel
theorem dL_law_1630 : decode cL_law 1630 = .ok (.iload_n 3, 1) := by decide +kernel
theorem dL_law_1631 : decode cL_law 1631 = .ok (.iconst 3, 1) := by decide +kernel
theorem dL_law_1632 : decode cL_law 1632 = .ok (.iadd, 1) := by decide +kernel
theorem dL_law_1633 : decode cL_law 1633 = .ok (.iaload, 1) := by decide +kernel
theorem dL_law_1634 : decode cL_law 1634 = .ok (.invokevirtual 162, 3) := by decide +kernel
theorem dL_law_1637 : decode cL_law 1637 = .ok (.if_icmp .eq 320, 3) := by decide +kernel
theorem dL_law_1640 : decode cL_law 1640 = .ok (.iconst 0, 1) := by decide +kernel
theorem dL_law_1641 : decode cL_law 1641 = .ok (.ireturn, 1) := by decide +kernel
theorem dL_law_1642 : decode cL_law 1642 = .ok (.aload_n 1, 1) := by decide +kernel
theorem dL_law_1643 : decode cL_law 1643 = .ok (.aload_n 0, 1) := by decide +kernel
theorem dL_law_1644 : decode cL_law 1644 = .ok (.iload_n 3, 1) := by decide +kernel
theorem dL_law_1645 : decode cL_law 1645 = .ok (.iconst 1, 1) := by decide +kernel
theorem dL_law_1646 : decode cL_law 1646 = .ok (.iadd, 1) := by decide +kernel
theorem dL_law_1647 : decode cL_law 1647 = .ok (.iaload, 1) := by decide +kernel
theorem dL_law_1648 : decode cL_law 1648 = .ok (.invokevirtual 163, 3) := by decide +kernel
theorem dL_law_1651 : decode cL_law 1651 = .ok (.aload_n 2, 1) := by decide +kernel
theorem dL_law_1652 : decode cL_law 1652 = .ok (.aload_n 0, 1) := by decide +kernel
theorem dL_law_1653 : decode cL_law 1653 = .ok (.iload_n 3, 1) := by decide +kernel
theorem dL_law_1654 : decode cL_law 1654 = .ok (.iconst 1, 1) := by decide +kernel
theorem dL_law_1655 : decode cL_law 1655 = .ok (.iadd, 1) := by decide +kernel
theorem dL_law_1656 : decode cL_law 1656 = .ok (.iaload, 1) := by decide +kernel
theorem dL_law_1657 : decode cL_law 1657 = .ok (.invokevirtual 166, 3) := by decide +kernel
theorem dL_law_1660 : decode cL_law 1660 = .ok (.if_icmp .eq 297, 3) := by decide +kernel
theorem dL_law_1663 : decode cL_law 1663 = .ok (.iconst 0, 1) := by decide +kernel
theorem dL_law_1664 : decode cL_law 1664 = .ok (.ireturn, 1) := by decide +kernel
theorem dL_law_1665 : decode cL_law 1665 = .ok (.aload_n 1, 1) := by decide +kernel
theorem dL_law_1666 : decode cL_law 1666 = .ok (.aload_n 0, 1) := by decide +kernel
theorem dL_law_1667 : decode cL_law 1667 = .ok (.iload_n 3, 1) := by decide +kernel
theorem dL_law_1668 : decode cL_law 1668 = .ok (.iconst 1, 1) := by decide +kernel
theorem dL_law_1669 : decode cL_law 1669 = .ok (.iadd, 1) := by decide +kernel
theorem dL_law_1670 : decode cL_law 1670 = .ok (.iaload, 1) := by decide +kernel
theorem dL_law_1671 : decode cL_law 1671 = .ok (.aload_n 0, 1) := by decide +kernel
theorem dL_law_1672 : decode cL_law 1672 = .ok (.iload_n 3, 1) := by decide +kernel
theorem dL_law_1673 : decode cL_law 1673 = .ok (.iconst 2, 1) := by decide +kernel
theorem dL_law_1674 : decode cL_law 1674 = .ok (.iadd, 1) := by decide +kernel
theorem dL_law_1675 : decode cL_law 1675 = .ok (.iaload, 1) := by decide +kernel
theorem dL_law_1676 : decode cL_law 1676 = .ok (.invokevirtual 167, 3) := by decide +kernel
theorem dL_law_1679 : decode cL_law 1679 = .ok (.aload_n 2, 1) := by decide +kernel
theorem dL_law_1680 : decode cL_law 1680 = .ok (.aload_n 0, 1) := by decide +kernel
theorem dL_law_1681 : decode cL_law 1681 = .ok (.iload_n 3, 1) := by decide +kernel
theorem dL_law_1682 : decode cL_law 1682 = .ok (.iconst 1, 1) := by decide +kernel
theorem dL_law_1683 : decode cL_law 1683 = .ok (.iadd, 1) := by decide +kernel
theorem dL_law_1684 : decode cL_law 1684 = .ok (.iaload, 1) := by decide +kernel
theorem dL_law_1685 : decode cL_law 1685 = .ok (.aload_n 0, 1) := by decide +kernel
theorem dL_law_1686 : decode cL_law 1686 = .ok (.iload_n 3, 1) := by decide +kernel
theorem dL_law_1687 : decode cL_law 1687 = .ok (.iconst 2, 1) := by decide +kernel
theorem dL_law_1688 : decode cL_law 1688 = .ok (.iadd, 1) := by decide +kernel
theorem dL_law_1689 : decode cL_law 1689 = .ok (.iaload, 1) := by decide +kernel
theorem dL_law_1690 : decode cL_law 1690 = .ok (.invokevirtual 170, 3) := by decide +kernel
theorem dL_law_1693 : decode cL_law 1693 = .ok (.if_icmp .eq 264, 3) := by decide +kernel
theorem dL_law_1696 : decode cL_law 1696 = .ok (.iconst 0, 1) := by decide +kernel
theorem dL_law_1697 : decode cL_law 1697 = .ok (.ireturn, 1) := by decide +kernel
theorem dL_law_1698 : decode cL_law 1698 = .ok (.aload_n 1, 1) := by decide +kernel
theorem dL_law_1699 : decode cL_law 1699 = .ok (.aload_n 0, 1) := by decide +kernel
theorem dL_law_1700 : decode cL_law 1700 = .ok (.iload_n 3, 1) := by decide +kernel
theorem dL_law_1701 : decode cL_law 1701 = .ok (.iconst 1, 1) := by decide +kernel
theorem dL_law_1702 : decode cL_law 1702 = .ok (.iadd, 1) := by decide +kernel
theorem dL_law_1703 : decode cL_law 1703 = .ok (.iaload, 1) := by decide +kernel
theorem dL_law_1704 : decode cL_law 1704 = .ok (.aload_n 0, 1) := by decide +kernel
theorem dL_law_1705 : decode cL_law 1705 = .ok (.iload_n 3, 1) := by decide +kernel
theorem dL_law_1706 : decode cL_law 1706 = .ok (.iconst 2, 1) := by decide +kernel
theorem dL_law_1707 : decode cL_law 1707 = .ok (.iadd, 1) := by decide +kernel
theorem dL_law_1708 : decode cL_law 1708 = .ok (.iaload, 1) := by decide +kernel
theorem dL_law_1709 : decode cL_law 1709 = .ok (.invokevirtual 171, 3) := by decide +kernel
theorem dL_law_1712 : decode cL_law 1712 = .ok (.aload_n 2, 1) := by decide +kernel
theorem dL_law_1713 : decode cL_law 1713 = .ok (.aload_n 0, 1) := by decide +kernel
theorem dL_law_1714 : decode cL_law 1714 = .ok (.iload_n 3, 1) := by decide +kernel
theorem dL_law_1715 : decode cL_law 1715 = .ok (.iconst 1, 1) := by decide +kernel
theorem dL_law_1716 : decode cL_law 1716 = .ok (.iadd, 1) := by decide +kernel
theorem dL_law_1717 : decode cL_law 1717 = .ok (.iaload, 1) := by decide +kernel
theorem dL_law_1718 : decode cL_law 1718 = .ok (.aload_n 0, 1) := by decide +kernel
theorem dL_law_1719 : decode cL_law 1719 = .ok (.iload_n 3, 1) := by decide +kernel
theorem dL_law_1720 : decode cL_law 1720 = .ok (.iconst 2, 1) := by decide +kernel
theorem dL_law_1721 : decode cL_law 1721 = .ok (.iadd, 1) := by decide +kernel
theorem dL_law_1722 : decode cL_law 1722 = .ok (.iaload, 1) := by decide +kernel
theorem dL_law_1723 : decode cL_law 1723 = .ok (.invokevirtual 174, 3) := by decide +kernel
theorem dL_law_1726 : decode cL_law 1726 = .ok (.if_icmp .eq 231, 3) := by decide +kernel
theorem dL_law_1729 : decode cL_law 1729 = .ok (.iconst 0, 1) := by decide +kernel
theorem dL_law_1730 : decode cL_law 1730 = .ok (.ireturn, 1) := by decide +kernel
theorem dL_law_1731 : decode cL_law 1731 = .ok (.aload_n 1, 1) := by decide +kernel
theorem dL_law_1732 : decode cL_law 1732 = .ok (.aload_n 0, 1) := by decide +kernel
theorem dL_law_1733 : decode cL_law 1733 = .ok (.iload_n 3, 1) := by decide +kernel
theorem dL_law_1734 : decode cL_law 1734 = .ok (.iconst 1, 1) := by decide +kernel
theorem dL_law_1735 : decode cL_law 1735 = .ok (.iadd, 1) := by decide +kernel
theorem dL_law_1736 : decode cL_law 1736 = .ok (.iaload, 1) := by decide +kernel
theorem dL_law_1737 : decode cL_law 1737 = .ok (.aload_n 0, 1) := by decide +kernel
theorem dL_law_1738 : decode cL_law 1738 = .ok (.iload_n 3, 1) := by decide +kernel
theorem dL_law_1739 : decode cL_law 1739 = .ok (.iconst 2, 1) := by decide +kernel
theorem dL_law_1740 : decode cL_law 1740 = .ok (.iadd, 1) := by decide +kernel
theorem dL_law_1741 : decode cL_law 1741 = .ok (.iaload, 1) := by decide +kernel
theorem dL_law_1742 : decode cL_law 1742 = .ok (.invokevirtual 175, 3) := by decide +kernel
theorem dL_law_1745 : decode cL_law 1745 = .ok (.aload_n 2, 1) := by decide +kernel
theorem dL_law_1746 : decode cL_law 1746 = .ok (.aload_n 0, 1) := by decide +kernel
theorem dL_law_1747 : decode cL_law 1747 = .ok (.iload_n 3, 1) := by decide +kernel
theorem dL_law_1748 : decode cL_law 1748 = .ok (.iconst 1, 1) := by decide +kernel
theorem dL_law_1749 : decode cL_law 1749 = .ok (.iadd, 1) := by decide +kernel
theorem dL_law_1750 : decode cL_law 1750 = .ok (.iaload, 1) := by decide +kernel
theorem dL_law_1751 : decode cL_law 1751 = .ok (.aload_n 0, 1) := by decide +kernel
theorem dL_law_1752 : decode cL_law 1752 = .ok (.iload_n 3, 1) := by decide +kernel
theorem dL_law_1753 : decode cL_law 1753 = .ok (.iconst 2, 1) := by decide +kernel
theorem dL_law_1754 : decode cL_law 1754 = .ok (.iadd, 1) := by decide +kernel
theorem dL_law_1755 : decode cL_law 1755 = .ok (.iaload, 1) := by decide +kernel
theorem dL_law_1756 : decode cL_law 1756 = .ok (.invokevirtual 178, 3) := by decide +kernel
theorem dL_law_1759 : decode cL_law 1759 = .ok (.if_icmp .eq 198, 3) := by decide +kernel
theorem dL_law_1762 : decode cL_law 1762 = .ok (.iconst 0, 1) := by decide +kernel
theorem dL_law_1763 : decode cL_law 1763 = .ok (.ireturn, 1) := by decide +kernel
theorem dL_law_1764 : decode cL_law 1764 = .ok (.aload_n 1, 1) := by decide +kernel
theorem dL_law_1765 : decode cL_law 1765 = .ok (.aload_n 0, 1) := by decide +kernel
theorem dL_law_1766 : decode cL_law 1766 = .ok (.iload_n 3, 1) := by decide +kernel
theorem dL_law_1767 : decode cL_law 1767 = .ok (.iconst 1, 1) := by decide +kernel
theorem dL_law_1768 : decode cL_law 1768 = .ok (.iadd, 1) := by decide +kernel
theorem dL_law_1769 : decode cL_law 1769 = .ok (.iaload, 1) := by decide +kernel
theorem dL_law_1770 : decode cL_law 1770 = .ok (.invokevirtual 179, 3) := by decide +kernel
theorem dL_law_1773 : decode cL_law 1773 = .ok (.aload_n 2, 1) := by decide +kernel
theorem dL_law_1774 : decode cL_law 1774 = .ok (.aload_n 0, 1) := by decide +kernel
theorem dL_law_1775 : decode cL_law 1775 = .ok (.iload_n 3, 1) := by decide +kernel
theorem dL_law_1776 : decode cL_law 1776 = .ok (.iconst 1, 1) := by decide +kernel
theorem dL_law_1777 : decode cL_law 1777 = .ok (.iadd, 1) := by decide +kernel
theorem dL_law_1778 : decode cL_law 1778 = .ok (.iaload, 1) := by decide +kernel
theorem dL_law_1779 : decode cL_law 1779 = .ok (.invokevirtual 182, 3) := by decide +kernel
theorem dL_law_1782 : decode cL_law 1782 = .ok (.if_icmp .eq 175, 3) := by decide +kernel
theorem dL_law_1785 : decode cL_law 1785 = .ok (.iconst 0, 1) := by decide +kernel
theorem dL_law_1786 : decode cL_law 1786 = .ok (.ireturn, 1) := by decide +kernel
theorem dL_law_1787 : decode cL_law 1787 = .ok (.aload_n 1, 1) := by decide +kernel
theorem dL_law_1788 : decode cL_law 1788 = .ok (.aload_n 0, 1) := by decide +kernel
theorem dL_law_1789 : decode cL_law 1789 = .ok (.iload_n 3, 1) := by decide +kernel
theorem dL_law_1790 : decode cL_law 1790 = .ok (.iconst 1, 1) := by decide +kernel
theorem dL_law_1791 : decode cL_law 1791 = .ok (.iadd, 1) := by decide +kernel
theorem dL_law_1792 : decode cL_law 1792 = .ok (.iaload, 1) := by decide +kernel
theorem dL_law_1793 : decode cL_law 1793 = .ok (.invokevirtual 183, 3) := by decide +kernel
theorem dL_law_1796 : decode cL_law 1796 = .ok (.aload_n 2, 1) := by decide +kernel
theorem dL_law_1797 : decode cL_law 1797 = .ok (.aload_n 0, 1) := by decide +kernel
theorem dL_law_1798 : decode cL_law 1798 = .ok (.iload_n 3, 1) := by decide +kernel
theorem dL_law_1799 : decode cL_law 1799 = .ok (.iconst 1, 1) := by decide +kernel
theorem dL_law_1800 : decode cL_law 1800 = .ok (.iadd, 1) := by decide +kernel
theorem dL_law_1801 : decode cL_law 1801 = .ok (.iaload, 1) := by decide +kernel
theorem dL_law_1802 : decode cL_law 1802 = .ok (.invokevirtual 186, 3) := by decide +kernel
theorem dL_law_1805 : decode cL_law 1805 = .ok (.if_icmp .eq 152, 3) := by decide +kernel
theorem dL_law_1808 : decode cL_law 1808 = .ok (.iconst 0, 1) := by decide +kernel
theorem dL_law_1809 : decode cL_law 1809 = .ok (.ireturn, 1) := by decide +kernel
theorem dL_law_1810 : decode cL_law 1810 = .ok (.aload_n 1, 1) := by decide +kernel
theorem dL_law_1811 : decode cL_law 1811 = .ok (.aload_n 0, 1) := by decide +kernel
theorem dL_law_1812 : decode cL_law 1812 = .ok (.iload_n 3, 1) := by decide +kernel
theorem dL_law_1813 : decode cL_law 1813 = .ok (.iconst 1, 1) := by decide +kernel
theorem dL_law_1814 : decode cL_law 1814 = .ok (.iadd, 1) := by decide +kernel
theorem dL_law_1815 : decode cL_law 1815 = .ok (.iaload, 1) := by decide +kernel
theorem dL_law_1816 : decode cL_law 1816 = .ok (.aload_n 0, 1) := by decide +kernel
theorem dL_law_1817 : decode cL_law 1817 = .ok (.iload_n 3, 1) := by decide +kernel
theorem dL_law_1818 : decode cL_law 1818 = .ok (.iconst 2, 1) := by decide +kernel
theorem dL_law_1819 : decode cL_law 1819 = .ok (.iadd, 1) := by decide +kernel
theorem dL_law_1820 : decode cL_law 1820 = .ok (.iaload, 1) := by decide +kernel
theorem dL_law_1821 : decode cL_law 1821 = .ok (.invokevirtual 187, 3) := by decide +kernel
theorem dL_law_1824 : decode cL_law 1824 = .ok (.aload_n 2, 1) := by decide +kernel
theorem dL_law_1825 : decode cL_law 1825 = .ok (.aload_n 0, 1) := by decide +kernel
theorem dL_law_1826 : decode cL_law 1826 = .ok (.iload_n 3, 1) := by decide +kernel
theorem dL_law_1827 : decode cL_law 1827 = .ok (.iconst 1, 1) := by decide +kernel
theorem dL_law_1828 : decode cL_law 1828 = .ok (.iadd, 1) := by decide +kernel
theorem dL_law_1829 : decode cL_law 1829 = .ok (.iaload, 1) := by decide +kernel
theorem dL_law_1830 : decode cL_law 1830 = .ok (.aload_n 0, 1) := by decide +kernel
theorem dL_law_1831 : decode cL_law 1831 = .ok (.iload_n 3, 1) := by decide +kernel
theorem dL_law_1832 : decode cL_law 1832 = .ok (.iconst 2, 1) := by decide +kernel
theorem dL_law_1833 : decode cL_law 1833 = .ok (.iadd, 1) := by decide +kernel
theorem dL_law_1834 : decode cL_law 1834 = .ok (.iaload, 1) := by decide +kernel
theorem dL_law_1835 : decode cL_law 1835 = .ok (.invokevirtual 190, 3) := by decide +kernel
theorem dL_law_1838 : decode cL_law 1838 = .ok (.if_icmp .eq 119, 3) := by decide +kernel
theorem dL_law_1841 : decode cL_law 1841 = .ok (.iconst 0, 1) := by decide +kernel
theorem dL_law_1842 : decode cL_law 1842 = .ok (.ireturn, 1) := by decide +kernel
theorem dL_law_1843 : decode cL_law 1843 = .ok (.aload_n 1, 1) := by decide +kernel
theorem dL_law_1844 : decode cL_law 1844 = .ok (.invokevirtual 191, 3) := by decide +kernel
theorem dL_law_1847 : decode cL_law 1847 = .ok (.aload_n 2, 1) := by decide +kernel
theorem dL_law_1848 : decode cL_law 1848 = .ok (.invokevirtual 195, 3) := by decide +kernel
theorem dL_law_1851 : decode cL_law 1851 = .ok (.if_icmp .eq 106, 3) := by decide +kernel
theorem dL_law_1854 : decode cL_law 1854 = .ok (.iconst 0, 1) := by decide +kernel
theorem dL_law_1855 : decode cL_law 1855 = .ok (.ireturn, 1) := by decide +kernel
theorem dL_law_1856 : decode cL_law 1856 = .ok (.aload_n 1, 1) := by decide +kernel
theorem dL_law_1857 : decode cL_law 1857 = .ok (.invokevirtual 196, 3) := by decide +kernel
theorem dL_law_1860 : decode cL_law 1860 = .ok (.aload_n 2, 1) := by decide +kernel
theorem dL_law_1861 : decode cL_law 1861 = .ok (.invokevirtual 200, 3) := by decide +kernel
theorem dL_law_1864 : decode cL_law 1864 = .ok (.lcmp, 1) := by decide +kernel
theorem dL_law_1865 : decode cL_law 1865 = .ok (.ifCond .eq 92, 3) := by decide +kernel
theorem dL_law_1868 : decode cL_law 1868 = .ok (.iconst 0, 1) := by decide +kernel
theorem dL_law_1869 : decode cL_law 1869 = .ok (.ireturn, 1) := by decide +kernel
theorem dL_law_1870 : decode cL_law 1870 = .ok (.aload_n 1, 1) := by decide +kernel
theorem dL_law_1871 : decode cL_law 1871 = .ok (.invokevirtual 201, 3) := by decide +kernel
theorem dL_law_1874 : decode cL_law 1874 = .ok (.aload_n 2, 1) := by decide +kernel
theorem dL_law_1875 : decode cL_law 1875 = .ok (.invokevirtual 204, 3) := by decide +kernel
theorem dL_law_1878 : decode cL_law 1878 = .ok (.lcmp, 1) := by decide +kernel
theorem dL_law_1879 : decode cL_law 1879 = .ok (.ifCond .eq 78, 3) := by decide +kernel
theorem dL_law_1882 : decode cL_law 1882 = .ok (.iconst 0, 1) := by decide +kernel
theorem dL_law_1883 : decode cL_law 1883 = .ok (.ireturn, 1) := by decide +kernel
theorem dL_law_1884 : decode cL_law 1884 = .ok (.aload_n 1, 1) := by decide +kernel
theorem dL_law_1885 : decode cL_law 1885 = .ok (.aload_n 0, 1) := by decide +kernel
theorem dL_law_1886 : decode cL_law 1886 = .ok (.iload_n 3, 1) := by decide +kernel
theorem dL_law_1887 : decode cL_law 1887 = .ok (.iconst 1, 1) := by decide +kernel
theorem dL_law_1888 : decode cL_law 1888 = .ok (.iadd, 1) := by decide +kernel
theorem dL_law_1889 : decode cL_law 1889 = .ok (.iaload, 1) := by decide +kernel
theorem dL_law_1890 : decode cL_law 1890 = .ok (.invokevirtual 205, 3) := by decide +kernel
theorem dL_law_1893 : decode cL_law 1893 = .ok (.aload_n 2, 1) := by decide +kernel
theorem dL_law_1894 : decode cL_law 1894 = .ok (.aload_n 0, 1) := by decide +kernel
theorem dL_law_1895 : decode cL_law 1895 = .ok (.iload_n 3, 1) := by decide +kernel
theorem dL_law_1896 : decode cL_law 1896 = .ok (.iconst 1, 1) := by decide +kernel
theorem dL_law_1897 : decode cL_law 1897 = .ok (.iadd, 1) := by decide +kernel
theorem dL_law_1898 : decode cL_law 1898 = .ok (.iaload, 1) := by decide +kernel
theorem dL_law_1899 : decode cL_law 1899 = .ok (.invokevirtual 208, 3) := by decide +kernel
theorem dL_law_1902 : decode cL_law 1902 = .ok (.if_icmp .eq 55, 3) := by decide +kernel
theorem dL_law_1905 : decode cL_law 1905 = .ok (.iconst 0, 1) := by decide +kernel
theorem dL_law_1906 : decode cL_law 1906 = .ok (.ireturn, 1) := by decide +kernel
theorem dL_law_1907 : decode cL_law 1907 = .ok (.aload_n 1, 1) := by decide +kernel
theorem dL_law_1908 : decode cL_law 1908 = .ok (.invokevirtual 209, 3) := by decide +kernel
theorem dL_law_1911 : decode cL_law 1911 = .ok (.aload_n 2, 1) := by decide +kernel
theorem dL_law_1912 : decode cL_law 1912 = .ok (.invokevirtual 212, 3) := by decide +kernel
theorem dL_law_1915 : decode cL_law 1915 = .ok (.if_icmp .eq 42, 3) := by decide +kernel
theorem dL_law_1918 : decode cL_law 1918 = .ok (.iconst 0, 1) := by decide +kernel
theorem dL_law_1919 : decode cL_law 1919 = .ok (.ireturn, 1) := by decide +kernel
theorem dL_law_1920 : decode cL_law 1920 = .ok (.aload_n 1, 1) := by decide +kernel
theorem dL_law_1921 : decode cL_law 1921 = .ok (.aload_n 0, 1) := by decide +kernel
theorem dL_law_1922 : decode cL_law 1922 = .ok (.iload_n 3, 1) := by decide +kernel
theorem dL_law_1923 : decode cL_law 1923 = .ok (.iconst 1, 1) := by decide +kernel
theorem dL_law_1924 : decode cL_law 1924 = .ok (.iadd, 1) := by decide +kernel
theorem dL_law_1925 : decode cL_law 1925 = .ok (.iaload, 1) := by decide +kernel
theorem dL_law_1926 : decode cL_law 1926 = .ok (.invokevirtual 213, 3) := by decide +kernel
theorem dL_law_1929 : decode cL_law 1929 = .ok (.aload_n 2, 1) := by decide +kernel
theorem dL_law_1930 : decode cL_law 1930 = .ok (.aload_n 0, 1) := by decide +kernel
theorem dL_law_1931 : decode cL_law 1931 = .ok (.iload_n 3, 1) := by decide +kernel
theorem dL_law_1932 : decode cL_law 1932 = .ok (.iconst 1, 1) := by decide +kernel
theorem dL_law_1933 : decode cL_law 1933 = .ok (.iadd, 1) := by decide +kernel
theorem dL_law_1934 : decode cL_law 1934 = .ok (.iaload, 1) := by decide +kernel
theorem dL_law_1935 : decode cL_law 1935 = .ok (.invokevirtual 216, 3) := by decide +kernel
theorem dL_law_1938 : decode cL_law 1938 = .ok (.if_icmp .eq 19, 3) := by decide +kernel
theorem dL_law_1941 : decode cL_law 1941 = .ok (.iconst 0, 1) := by decide +kernel
theorem dL_law_1942 : decode cL_law 1942 = .ok (.ireturn, 1) := by decide +kernel
theorem dL_law_1943 : decode cL_law 1943 = .ok (.aload_n 1, 1) := by decide +kernel
theorem dL_law_1944 : decode cL_law 1944 = .ok (.invokevirtual 217, 3) := by decide +kernel
theorem dL_law_1947 : decode cL_law 1947 = .ok (.aload_n 2, 1) := by decide +kernel
theorem dL_law_1948 : decode cL_law 1948 = .ok (.invokevirtual 220, 3) := by decide +kernel
theorem dL_law_1951 : decode cL_law 1951 = .ok (.lcmp, 1) := by decide +kernel
theorem dL_law_1952 : decode cL_law 1952 = .ok (.ifCond .eq 5, 3) := by decide +kernel
theorem dL_law_1955 : decode cL_law 1955 = .ok (.iconst 0, 1) := by decide +kernel
theorem dL_law_1956 : decode cL_law 1956 = .ok (.ireturn, 1) := by decide +kernel
theorem dL_law_1957 : decode cL_law 1957 = .ok (.iinc 3 6, 3) := by decide +kernel
theorem dL_law_1960 : decode cL_law 1960 = .ok (.goto (-1942), 3) := by decide +kernel
theorem dL_law_1963 : decode cL_law 1963 = .ok (.iconst 1, 1) := by decide +kernel
theorem dL_law_1964 : decode cL_law 1964 = .ok (.ireturn, 1) := by decide +kernel
