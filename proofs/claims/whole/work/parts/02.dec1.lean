theorem dX0_init_0 : decode cX0_init 0 = .ok (.aload_n 0, 1) := by decide +kernel
theorem dX0_init_1 : decode cX0_init 1 = .ok (.invokespecial 3, 3) := by decide +kernel
theorem dX0_init_4 : decode cX0_init 4 = .ok (.aload_n 0, 1) := by decide +kernel
theorem dX0_init_5 : decode cX0_init 5 = .ok (.bipush 6, 2) := by decide +kernel
theorem dX0_init_7 : decode cX0_init 7 = .ok (.newarray .int, 2) := by decide +kernel
theorem dX0_init_9 : decode cX0_init 9 = .ok (.putfield 9, 3) := by decide +kernel
theorem dX0_init_12 : decode cX0_init 12 = .ok (.aload_n 0, 1) := by decide +kernel
theorem dX0_init_13 : decode cX0_init 13 = .ok (.iconst 0, 1) := by decide +kernel
theorem dX0_init_14 : decode cX0_init 14 = .ok (.putfield 15, 3) := by decide +kernel
theorem dX0_init_17 : decode cX0_init 17 = .ok (.aload_n 0, 1) := by decide +kernel
theorem dX0_init_18 : decode cX0_init 18 = .ok (.iconst 0, 1) := by decide +kernel
theorem dX0_init_19 : decode cX0_init 19 = .ok (.putfield 19, 3) := by decide +kernel
theorem dX0_init_22 : decode cX0_init 22 = .ok (.return_, 1) := by decide +kernel
theorem dX0_isMissing_0 : decode cX0_isMissing 0 = .ok (.aload_n 0, 1) := by decide +kernel
theorem dX0_isMissing_1 : decode cX0_isMissing 1 = .ok (.getfield 15, 3) := by decide +kernel
theorem dX0_isMissing_4 : decode cX0_isMissing 4 = .ok (.iconst 1, 1) := by decide +kernel
theorem dX0_isMissing_5 : decode cX0_isMissing 5 = .ok (.if_icmp .lt 11, 3) := by decide +kernel
theorem dX0_isMissing_8 : decode cX0_isMissing 8 = .ok (.aload_n 0, 1) := by decide +kernel
theorem dX0_isMissing_9 : decode cX0_isMissing 9 = .ok (.getfield 19, 3) := by decide +kernel
theorem dX0_isMissing_12 : decode cX0_isMissing 12 = .ok (.iconst 1, 1) := by decide +kernel
theorem dX0_isMissing_13 : decode cX0_isMissing 13 = .ok (.if_icmp .ge 7, 3) := by decide +kernel
theorem dX0_isMissing_16 : decode cX0_isMissing 16 = .ok (.iconst 1, 1) := by decide +kernel
theorem dX0_isMissing_17 : decode cX0_isMissing 17 = .ok (.goto 4, 3) := by decide +kernel
theorem dX0_isMissing_20 : decode cX0_isMissing 20 = .ok (.iconst 0, 1) := by decide +kernel
theorem dX0_isMissing_21 : decode cX0_isMissing 21 = .ok (.ireturn, 1) := by decide +kernel
theorem dX0_has_0 : decode cX0_has 0 = .ok (.iload_n 1, 1) := by decide +kernel
theorem dX0_has_1 : decode cX0_has 1 = .ok (.ifCond .lt 24, 3) := by decide +kernel
theorem dX0_has_4 : decode cX0_has 4 = .ok (.iload_n 1, 1) := by decide +kernel
theorem dX0_has_5 : decode cX0_has 5 = .ok (.aload_n 0, 1) := by decide +kernel
theorem dX0_has_6 : decode cX0_has 6 = .ok (.getfield 15, 3) := by decide +kernel
theorem dX0_has_9 : decode cX0_has 9 = .ok (.if_icmp .ge 16, 3) := by decide +kernel
theorem dX0_has_12 : decode cX0_has 12 = .ok (.iload_n 1, 1) := by decide +kernel
theorem dX0_has_13 : decode cX0_has 13 = .ok (.aload_n 0, 1) := by decide +kernel
theorem dX0_has_14 : decode cX0_has 14 = .ok (.getfield 9, 3) := by decide +kernel
theorem dX0_has_17 : decode cX0_has 17 = .ok (.arraylength, 1) := by decide +kernel
theorem dX0_has_18 : decode cX0_has 18 = .ok (.if_icmp .ge 7, 3) := by decide +kernel
theorem dX0_has_21 : decode cX0_has 21 = .ok (.iconst 1, 1) := by decide +kernel
theorem dX0_has_22 : decode cX0_has 22 = .ok (.goto 4, 3) := by decide +kernel
theorem dX0_has_25 : decode cX0_has 25 = .ok (.iconst 0, 1) := by decide +kernel
theorem dX0_has_26 : decode cX0_has 26 = .ok (.ireturn, 1) := by decide +kernel
theorem dX0_lineAt_0 : decode cX0_lineAt 0 = .ok (.aload_n 0, 1) := by decide +kernel
theorem dX0_lineAt_1 : decode cX0_lineAt 1 = .ok (.iload_n 1, 1) := by decide +kernel
theorem dX0_lineAt_2 : decode cX0_lineAt 2 = .ok (.invokevirtual 22, 3) := by decide +kernel
theorem dX0_lineAt_5 : decode cX0_lineAt 5 = .ok (.ifCond .eq 12, 3) := by decide +kernel
theorem dX0_lineAt_8 : decode cX0_lineAt 8 = .ok (.aload_n 0, 1) := by decide +kernel
theorem dX0_lineAt_9 : decode cX0_lineAt 9 = .ok (.getfield 9, 3) := by decide +kernel
theorem dX0_lineAt_12 : decode cX0_lineAt 12 = .ok (.iload_n 1, 1) := by decide +kernel
theorem dX0_lineAt_13 : decode cX0_lineAt 13 = .ok (.iaload, 1) := by decide +kernel
theorem dX0_lineAt_14 : decode cX0_lineAt 14 = .ok (.goto 4, 3) := by decide +kernel
theorem dX0_lineAt_17 : decode cX0_lineAt 17 = .ok (.iconst 0, 1) := by decide +kernel
theorem dX0_lineAt_18 : decode cX0_lineAt 18 = .ok (.ireturn, 1) := by decide +kernel
theorem dX0_countBlocks_0 : decode cX0_countBlocks 0 = .ok (.aload_n 0, 1) := by decide +kernel
theorem dX0_countBlocks_1 : decode cX0_countBlocks 1 = .ok (.getfield 19, 3) := by decide +kernel
theorem dX0_countBlocks_4 : decode cX0_countBlocks 4 = .ok (.iconst 1, 1) := by decide +kernel
theorem dX0_countBlocks_5 : decode cX0_countBlocks 5 = .ok (.if_icmp .ge 7, 3) := by decide +kernel
theorem dX0_countBlocks_8 : decode cX0_countBlocks 8 = .ok (.iconst 0, 1) := by decide +kernel
theorem dX0_countBlocks_9 : decode cX0_countBlocks 9 = .ok (.goto 12, 3) := by decide +kernel
theorem dX0_countBlocks_12 : decode cX0_countBlocks 12 = .ok (.aload_n 1, 1) := by decide +kernel
theorem dX0_countBlocks_13 : decode cX0_countBlocks 13 = .ok (.getfield 26, 3) := by decide +kernel
theorem dX0_countBlocks_16 : decode cX0_countBlocks 16 = .ok (.aload_n 0, 1) := by decide +kernel
theorem dX0_countBlocks_17 : decode cX0_countBlocks 17 = .ok (.getfield 19, 3) := by decide +kernel
theorem dX0_countBlocks_20 : decode cX0_countBlocks 20 = .ok (.idiv, 1) := by decide +kernel
theorem dX0_countBlocks_21 : decode cX0_countBlocks 21 = .ok (.ireturn, 1) := by decide +kernel
theorem dX0_columnAt_0 : decode cX0_columnAt 0 = .ok (.iconst 0, 1) := by decide +kernel
theorem dX0_columnAt_1 : decode cX0_columnAt 1 = .ok (.istore_n 2, 1) := by decide +kernel
theorem dX0_columnAt_2 : decode cX0_columnAt 2 = .ok (.iconst 0, 1) := by decide +kernel
theorem dX0_columnAt_3 : decode cX0_columnAt 3 = .ok (.istore_n 3, 1) := by decide +kernel
theorem dX0_columnAt_4 : decode cX0_columnAt 4 = .ok (.iload_n 3, 1) := by decide +kernel
theorem dX0_columnAt_5 : decode cX0_columnAt 5 = .ok (.aload_n 0, 1) := by decide +kernel
theorem dX0_columnAt_6 : decode cX0_columnAt 6 = .ok (.getfield 15, 3) := by decide +kernel
theorem dX0_columnAt_9 : decode cX0_columnAt 9 = .ok (.if_icmp .ge 23, 3) := by decide +kernel
theorem dX0_columnAt_12 : decode cX0_columnAt 12 = .ok (.iload_n 2, 1) := by decide +kernel
theorem dX0_columnAt_13 : decode cX0_columnAt 13 = .ok (.aload_n 0, 1) := by decide +kernel
theorem dX0_columnAt_14 : decode cX0_columnAt 14 = .ok (.iload_n 3, 1) := by decide +kernel
theorem dX0_columnAt_15 : decode cX0_columnAt 15 = .ok (.invokevirtual 31, 3) := by decide +kernel
theorem dX0_columnAt_18 : decode cX0_columnAt 18 = .ok (.iload_n 1, 1) := by decide +kernel
theorem dX0_columnAt_19 : decode cX0_columnAt 19 = .ok (.ishr, 1) := by decide +kernel
theorem dX0_columnAt_20 : decode cX0_columnAt 20 = .ok (.iconst 1, 1) := by decide +kernel
theorem dX0_columnAt_21 : decode cX0_columnAt 21 = .ok (.iand, 1) := by decide +kernel
theorem dX0_columnAt_22 : decode cX0_columnAt 22 = .ok (.iload_n 3, 1) := by decide +kernel
theorem dX0_columnAt_23 : decode cX0_columnAt 23 = .ok (.ishl, 1) := by decide +kernel
theorem dX0_columnAt_24 : decode cX0_columnAt 24 = .ok (.ior, 1) := by decide +kernel
theorem dX0_columnAt_25 : decode cX0_columnAt 25 = .ok (.istore_n 2, 1) := by decide +kernel
theorem dX0_columnAt_26 : decode cX0_columnAt 26 = .ok (.iinc 3 1, 3) := by decide +kernel
theorem dX0_columnAt_29 : decode cX0_columnAt 29 = .ok (.goto (-25), 3) := by decide +kernel
theorem dX0_columnAt_32 : decode cX0_columnAt 32 = .ok (.iload_n 2, 1) := by decide +kernel
theorem dX0_columnAt_33 : decode cX0_columnAt 33 = .ok (.ireturn, 1) := by decide +kernel
theorem dX0_take_0 : decode cX0_take 0 = .ok (.aload_n 0, 1) := by decide +kernel
theorem dX0_take_1 : decode cX0_take 1 = .ok (.aload_n 1, 1) := by decide +kernel
theorem dX0_take_2 : decode cX0_take 2 = .ok (.getfield 15, 3) := by decide +kernel
theorem dX0_take_5 : decode cX0_take 5 = .ok (.putfield 15, 3) := by decide +kernel
theorem dX0_take_8 : decode cX0_take 8 = .ok (.aload_n 0, 1) := by decide +kernel
theorem dX0_take_9 : decode cX0_take 9 = .ok (.aload_n 1, 1) := by decide +kernel
theorem dX0_take_10 : decode cX0_take 10 = .ok (.getfield 19, 3) := by decide +kernel
theorem dX0_take_13 : decode cX0_take 13 = .ok (.putfield 19, 3) := by decide +kernel
theorem dX0_take_16 : decode cX0_take 16 = .ok (.aload_n 1, 1) := by decide +kernel
theorem dX0_take_17 : decode cX0_take 17 = .ok (.getfield 9, 3) := by decide +kernel
theorem dX0_take_20 : decode cX0_take 20 = .ok (.iconst 0, 1) := by decide +kernel
theorem dX0_take_21 : decode cX0_take 21 = .ok (.aload_n 0, 1) := by decide +kernel
theorem dX0_take_22 : decode cX0_take 22 = .ok (.getfield 9, 3) := by decide +kernel
theorem dX0_take_25 : decode cX0_take 25 = .ok (.iconst 0, 1) := by decide +kernel
theorem dX0_take_26 : decode cX0_take 26 = .ok (.aload_n 0, 1) := by decide +kernel
theorem dX0_take_27 : decode cX0_take 27 = .ok (.getfield 9, 3) := by decide +kernel
theorem dX0_take_30 : decode cX0_take 30 = .ok (.arraylength, 1) := by decide +kernel
theorem dX0_take_31 : decode cX0_take 31 = .ok (.invokestatic 35, 3) := by decide +kernel
theorem dX0_take_34 : decode cX0_take 34 = .ok (.return_, 1) := by decide +kernel
theorem dX0_readFrom_0 : decode cX0_readFrom 0 = .ok (.aload_n 0, 1) := by decide +kernel
theorem dX0_readFrom_1 : decode cX0_readFrom 1 = .ok (.iconst 0, 1) := by decide +kernel
theorem dX0_readFrom_2 : decode cX0_readFrom 2 = .ok (.putfield 15, 3) := by decide +kernel
theorem dX0_readFrom_5 : decode cX0_readFrom 5 = .ok (.aload_n 0, 1) := by decide +kernel
theorem dX0_readFrom_6 : decode cX0_readFrom 6 = .ok (.iconst 0, 1) := by decide +kernel
theorem dX0_readFrom_7 : decode cX0_readFrom 7 = .ok (.putfield 19, 3) := by decide +kernel
theorem dX0_readFrom_10 : decode cX0_readFrom 10 = .ok (.aload_n 1, 1) := by decide +kernel
theorem dX0_readFrom_11 : decode cX0_readFrom 11 = .ok (.iconst 0, 1) := by decide +kernel
theorem dX0_readFrom_12 : decode cX0_readFrom 12 = .ok (.invokestatic 41, 3) := by decide +kernel
theorem dX0_readFrom_15 : decode cX0_readFrom 15 = .ok (.istore_n 2, 1) := by decide +kernel
theorem dX0_readFrom_16 : decode cX0_readFrom 16 = .ok (.iconst 0, 1) := by decide +kernel
theorem dX0_readFrom_17 : decode cX0_readFrom 17 = .ok (.istore_n 3, 1) := by decide +kernel
theorem dX0_readFrom_18 : decode cX0_readFrom 18 = .ok (.iload_n 3, 1) := by decide +kernel
theorem dX0_readFrom_19 : decode cX0_readFrom 19 = .ok (.bipush 6, 2) := by decide +kernel
theorem dX0_readFrom_21 : decode cX0_readFrom 21 = .ok (.if_icmp .ge 56, 3) := by decide +kernel
theorem dX0_readFrom_24 : decode cX0_readFrom 24 = .ok (.iload_n 3, 1) := by decide +kernel
theorem dX0_readFrom_25 : decode cX0_readFrom 25 = .ok (.ifCond .ne 7, 3) := by decide +kernel
theorem dX0_readFrom_28 : decode cX0_readFrom 28 = .ok (.iload_n 2, 1) := by decide +kernel
theorem dX0_readFrom_29 : decode cX0_readFrom 29 = .ok (.goto 6, 3) := by decide +kernel
theorem dX0_readFrom_32 : decode cX0_readFrom 32 = .ok (.iload_n 2, 1) := by decide +kernel
theorem dX0_readFrom_33 : decode cX0_readFrom 33 = .ok (.iconst 1, 1) := by decide +kernel
theorem dX0_readFrom_34 : decode cX0_readFrom 34 = .ok (.iadd, 1) := by decide +kernel
theorem dX0_readFrom_35 : decode cX0_readFrom 35 = .ok (.istore 4, 2) := by decide +kernel
theorem dX0_readFrom_37 : decode cX0_readFrom 37 = .ok (.aload_n 0, 1) := by decide +kernel
theorem dX0_readFrom_38 : decode cX0_readFrom 38 = .ok (.aload_n 1, 1) := by decide +kernel
theorem dX0_readFrom_39 : decode cX0_readFrom 39 = .ok (.iload 4, 2) := by decide +kernel
theorem dX0_readFrom_41 : decode cX0_readFrom 41 = .ok (.invokevirtual 45, 3) := by decide +kernel
theorem dX0_readFrom_44 : decode cX0_readFrom 44 = .ok (.istore_n 2, 1) := by decide +kernel
theorem dX0_readFrom_45 : decode cX0_readFrom 45 = .ok (.aload_n 0, 1) := by decide +kernel
theorem dX0_readFrom_46 : decode cX0_readFrom 46 = .ok (.aload_n 1, 1) := by decide +kernel
theorem dX0_readFrom_47 : decode cX0_readFrom 47 = .ok (.iload 4, 2) := by decide +kernel
theorem dX0_readFrom_49 : decode cX0_readFrom 49 = .ok (.iload_n 2, 1) := by decide +kernel
theorem dX0_readFrom_50 : decode cX0_readFrom 50 = .ok (.invokevirtual 48, 3) := by decide +kernel
theorem dX0_readFrom_53 : decode cX0_readFrom 53 = .ok (.ifCond .ne 5, 3) := by decide +kernel
theorem dX0_readFrom_56 : decode cX0_readFrom 56 = .ok (.iload_n 2, 1) := by decide +kernel
theorem dX0_readFrom_57 : decode cX0_readFrom 57 = .ok (.ireturn, 1) := by decide +kernel
theorem dX0_readFrom_58 : decode cX0_readFrom 58 = .ok (.aload_n 1, 1) := by decide +kernel
theorem dX0_readFrom_59 : decode cX0_readFrom 59 = .ok (.iload_n 2, 1) := by decide +kernel
theorem dX0_readFrom_60 : decode cX0_readFrom 60 = .ok (.invokevirtual 52, 3) := by decide +kernel
theorem dX0_readFrom_63 : decode cX0_readFrom 63 = .ok (.bipush 47, 2) := by decide +kernel
theorem dX0_readFrom_65 : decode cX0_readFrom 65 = .ok (.if_icmp .eq 6, 3) := by decide +kernel
theorem dX0_readFrom_68 : decode cX0_readFrom 68 = .ok (.goto 9, 3) := by decide +kernel
theorem dX0_readFrom_71 : decode cX0_readFrom 71 = .ok (.iinc 3 1, 3) := by decide +kernel
theorem dX0_readFrom_74 : decode cX0_readFrom 74 = .ok (.goto (-56), 3) := by decide +kernel
theorem dX0_readFrom_77 : decode cX0_readFrom 77 = .ok (.aload_n 1, 1) := by decide +kernel
theorem dX0_readFrom_78 : decode cX0_readFrom 78 = .ok (.iload_n 2, 1) := by decide +kernel
theorem dX0_readFrom_79 : decode cX0_readFrom 79 = .ok (.invokestatic 41, 3) := by decide +kernel
theorem dX0_readFrom_82 : decode cX0_readFrom 82 = .ok (.istore_n 2, 1) := by decide +kernel
theorem dX0_readFrom_83 : decode cX0_readFrom 83 = .ok (.iload_n 2, 1) := by decide +kernel
theorem dX0_readFrom_84 : decode cX0_readFrom 84 = .ok (.aload_n 1, 1) := by decide +kernel
theorem dX0_readFrom_85 : decode cX0_readFrom 85 = .ok (.getfield 57, 3) := by decide +kernel
theorem dX0_readFrom_88 : decode cX0_readFrom 88 = .ok (.if_icmp .ne 8, 3) := by decide +kernel
theorem dX0_readFrom_91 : decode cX0_readFrom 91 = .ok (.bipush (-9), 2) := by decide +kernel
theorem dX0_readFrom_93 : decode cX0_readFrom 93 = .ok (.goto 4, 3) := by decide +kernel
theorem dX0_readFrom_96 : decode cX0_readFrom 96 = .ok (.iload_n 2, 1) := by decide +kernel
theorem dX0_readFrom_97 : decode cX0_readFrom 97 = .ok (.ireturn, 1) := by decide +kernel
theorem dX0_behindBlanks_0 : decode cX0_behindBlanks 0 = .ok (.iload_n 1, 1) := by decide +kernel
theorem dX0_behindBlanks_1 : decode cX0_behindBlanks 1 = .ok (.istore_n 2, 1) := by decide +kernel
theorem dX0_behindBlanks_2 : decode cX0_behindBlanks 2 = .ok (.iload_n 2, 1) := by decide +kernel
theorem dX0_behindBlanks_3 : decode cX0_behindBlanks 3 = .ok (.aload_n 0, 1) := by decide +kernel
theorem dX0_behindBlanks_4 : decode cX0_behindBlanks 4 = .ok (.getfield 57, 3) := by decide +kernel
theorem dX0_behindBlanks_7 : decode cX0_behindBlanks 7 = .ok (.if_icmp .ge 19, 3) := by decide +kernel
theorem dX0_behindBlanks_10 : decode cX0_behindBlanks 10 = .ok (.aload_n 0, 1) := by decide +kernel
theorem dX0_behindBlanks_11 : decode cX0_behindBlanks 11 = .ok (.iload_n 2, 1) := by decide +kernel
theorem dX0_behindBlanks_12 : decode cX0_behindBlanks 12 = .ok (.invokevirtual 52, 3) := by decide +kernel
theorem dX0_behindBlanks_15 : decode cX0_behindBlanks 15 = .ok (.bipush 32, 2) := by decide +kernel
theorem dX0_behindBlanks_17 : decode cX0_behindBlanks 17 = .ok (.if_icmp .ne 9, 3) := by decide +kernel
theorem dX0_behindBlanks_20 : decode cX0_behindBlanks 20 = .ok (.iinc 2 1, 3) := by decide +kernel
theorem dX0_behindBlanks_23 : decode cX0_behindBlanks 23 = .ok (.goto (-21), 3) := by decide +kernel
theorem dX0_behindBlanks_26 : decode cX0_behindBlanks 26 = .ok (.iload_n 2, 1) := by decide +kernel
theorem dX0_behindBlanks_27 : decode cX0_behindBlanks 27 = .ok (.ireturn, 1) := by decide +kernel
theorem dX0_behindLine_0 : decode cX0_behindLine 0 = .ok (.aload_n 0, 1) := by decide +kernel
theorem dX0_behindLine_1 : decode cX0_behindLine 1 = .ok (.getfield 15, 3) := by decide +kernel
theorem dX0_behindLine_4 : decode cX0_behindLine 4 = .ok (.ifCond .ne 8, 3) := by decide +kernel
theorem dX0_behindLine_7 : decode cX0_behindLine 7 = .ok (.bipush 12, 2) := by decide +kernel
theorem dX0_behindLine_9 : decode cX0_behindLine 9 = .ok (.goto 7, 3) := by decide +kernel
theorem dX0_behindLine_12 : decode cX0_behindLine 12 = .ok (.aload_n 0, 1) := by decide +kernel
theorem dX0_behindLine_13 : decode cX0_behindLine 13 = .ok (.getfield 19, 3) := by decide +kernel
theorem dX0_behindLine_16 : decode cX0_behindLine 16 = .ok (.istore_n 3, 1) := by decide +kernel
theorem dX0_behindLine_17 : decode cX0_behindLine 17 = .ok (.iload_n 2, 1) := by decide +kernel
theorem dX0_behindLine_18 : decode cX0_behindLine 18 = .ok (.istore 4, 2) := by decide +kernel
theorem dX0_behindLine_20 : decode cX0_behindLine 20 = .ok (.iload 4, 2) := by decide +kernel
theorem dX0_behindLine_22 : decode cX0_behindLine 22 = .ok (.aload_n 1, 1) := by decide +kernel
theorem dX0_behindLine_23 : decode cX0_behindLine 23 = .ok (.getfield 57, 3) := by decide +kernel
theorem dX0_behindLine_26 : decode cX0_behindLine 26 = .ok (.if_icmp .ge 29, 3) := by decide +kernel
theorem dX0_behindLine_29 : decode cX0_behindLine 29 = .ok (.iload 4, 2) := by decide +kernel
theorem dX0_behindLine_31 : decode cX0_behindLine 31 = .ok (.iload_n 2, 1) := by decide +kernel
theorem dX0_behindLine_32 : decode cX0_behindLine 32 = .ok (.iload_n 3, 1) := by decide +kernel
theorem dX0_behindLine_33 : decode cX0_behindLine 33 = .ok (.iadd, 1) := by decide +kernel
theorem dX0_behindLine_34 : decode cX0_behindLine 34 = .ok (.if_icmp .ge 21, 3) := by decide +kernel
theorem dX0_behindLine_37 : decode cX0_behindLine 37 = .ok (.aload_n 1, 1) := by decide +kernel
theorem dX0_behindLine_38 : decode cX0_behindLine 38 = .ok (.iload 4, 2) := by decide +kernel
theorem dX0_behindLine_40 : decode cX0_behindLine 40 = .ok (.invokevirtual 52, 3) := by decide +kernel
theorem dX0_behindLine_43 : decode cX0_behindLine 43 = .ok (.invokestatic 58, 3) := by decide +kernel
theorem dX0_behindLine_46 : decode cX0_behindLine 46 = .ok (.ifCond .eq 9, 3) := by decide +kernel
theorem dX0_behindLine_49 : decode cX0_behindLine 49 = .ok (.iinc 4 1, 3) := by decide +kernel
theorem dX0_behindLine_52 : decode cX0_behindLine 52 = .ok (.goto (-32), 3) := by decide +kernel
theorem dX0_behindLine_55 : decode cX0_behindLine 55 = .ok (.iload 4, 2) := by decide +kernel
theorem dX0_behindLine_57 : decode cX0_behindLine 57 = .ok (.ireturn, 1) := by decide +kernel
theorem dX0_isSign_0 : decode cX0_isSign 0 = .ok (.iload_n 0, 1) := by decide +kernel
theorem dX0_isSign_1 : decode cX0_isSign 1 = .ok (.bipush 48, 2) := by decide +kernel
theorem dX0_isSign_3 : decode cX0_isSign 3 = .ok (.if_icmp .eq 9, 3) := by decide +kernel
theorem dX0_isSign_6 : decode cX0_isSign 6 = .ok (.iload_n 0, 1) := by decide +kernel
theorem dX0_isSign_7 : decode cX0_isSign 7 = .ok (.bipush 49, 2) := by decide +kernel
theorem dX0_isSign_9 : decode cX0_isSign 9 = .ok (.if_icmp .ne 7, 3) := by decide +kernel
theorem dX0_isSign_12 : decode cX0_isSign 12 = .ok (.iconst 1, 1) := by decide +kernel
theorem dX0_isSign_13 : decode cX0_isSign 13 = .ok (.goto 4, 3) := by decide +kernel
theorem dX0_isSign_16 : decode cX0_isSign 16 = .ok (.iconst 0, 1) := by decide +kernel
theorem dX0_isSign_17 : decode cX0_isSign 17 = .ok (.ireturn, 1) := by decide +kernel
theorem dX0_takeLine_0 : decode cX0_takeLine 0 = .ok (.iload_n 3, 1) := by decide +kernel
theorem dX0_takeLine_1 : decode cX0_takeLine 1 = .ok (.iload_n 2, 1) := by decide +kernel
theorem dX0_takeLine_2 : decode cX0_takeLine 2 = .ok (.isub, 1) := by decide +kernel
theorem dX0_takeLine_3 : decode cX0_takeLine 3 = .ok (.istore 4, 2) := by decide +kernel
theorem dX0_takeLine_5 : decode cX0_takeLine 5 = .ok (.aload_n 0, 1) := by decide +kernel
theorem dX0_takeLine_6 : decode cX0_takeLine 6 = .ok (.getfield 15, 3) := by decide +kernel
theorem dX0_takeLine_9 : decode cX0_takeLine 9 = .ok (.aload_n 0, 1) := by decide +kernel
theorem dX0_takeLine_10 : decode cX0_takeLine 10 = .ok (.getfield 9, 3) := by decide +kernel
theorem dX0_takeLine_13 : decode cX0_takeLine 13 = .ok (.arraylength, 1) := by decide +kernel
theorem dX0_takeLine_14 : decode cX0_takeLine 14 = .ok (.if_icmp .ge 25, 3) := by decide +kernel
theorem dX0_takeLine_17 : decode cX0_takeLine 17 = .ok (.iload 4, 2) := by decide +kernel
theorem dX0_takeLine_19 : decode cX0_takeLine 19 = .ok (.iconst 1, 1) := by decide +kernel
theorem dX0_takeLine_20 : decode cX0_takeLine 20 = .ok (.if_icmp .lt 19, 3) := by decide +kernel
theorem dX0_takeLine_23 : decode cX0_takeLine 23 = .ok (.aload_n 0, 1) := by decide +kernel
theorem dX0_takeLine_24 : decode cX0_takeLine 24 = .ok (.getfield 15, 3) := by decide +kernel
theorem dX0_takeLine_27 : decode cX0_takeLine 27 = .ok (.ifCond .le 14, 3) := by decide +kernel
theorem dX0_takeLine_30 : decode cX0_takeLine 30 = .ok (.iload 4, 2) := by decide +kernel
theorem dX0_takeLine_32 : decode cX0_takeLine 32 = .ok (.aload_n 0, 1) := by decide +kernel
theorem dX0_takeLine_33 : decode cX0_takeLine 33 = .ok (.getfield 19, 3) := by decide +kernel
theorem dX0_takeLine_36 : decode cX0_takeLine 36 = .ok (.if_icmp .ge 5, 3) := by decide +kernel
theorem dX0_takeLine_39 : decode cX0_takeLine 39 = .ok (.iconst 0, 1) := by decide +kernel
theorem dX0_takeLine_40 : decode cX0_takeLine 40 = .ok (.ireturn, 1) := by decide +kernel
theorem dX0_takeLine_41 : decode cX0_takeLine 41 = .ok (.iconst 0, 1) := by decide +kernel
theorem dX0_takeLine_42 : decode cX0_takeLine 42 = .ok (.istore 5, 2) := by decide +kernel
theorem dX0_takeLine_44 : decode cX0_takeLine 44 = .ok (.iconst 0, 1) := by decide +kernel
theorem dX0_takeLine_45 : decode cX0_takeLine 45 = .ok (.istore 6, 2) := by decide +kernel
theorem dX0_takeLine_47 : decode cX0_takeLine 47 = .ok (.iload 6, 2) := by decide +kernel
theorem dX0_takeLine_49 : decode cX0_takeLine 49 = .ok (.iload 4, 2) := by decide +kernel
theorem dX0_takeLine_51 : decode cX0_takeLine 51 = .ok (.if_icmp .ge 31, 3) := by decide +kernel
theorem dX0_takeLine_54 : decode cX0_takeLine 54 = .ok (.aload_n 1, 1) := by decide +kernel
theorem dX0_takeLine_55 : decode cX0_takeLine 55 = .ok (.iload_n 2, 1) := by decide +kernel
theorem dX0_takeLine_56 : decode cX0_takeLine 56 = .ok (.iload 6, 2) := by decide +kernel
theorem dX0_takeLine_58 : decode cX0_takeLine 58 = .ok (.iadd, 1) := by decide +kernel
theorem dX0_takeLine_59 : decode cX0_takeLine 59 = .ok (.invokevirtual 52, 3) := by decide +kernel
theorem dX0_takeLine_62 : decode cX0_takeLine 62 = .ok (.bipush 49, 2) := by decide +kernel
theorem dX0_takeLine_64 : decode cX0_takeLine 64 = .ok (.if_icmp .ne 12, 3) := by decide +kernel
theorem dX0_takeLine_67 : decode cX0_takeLine 67 = .ok (.iload 5, 2) := by decide +kernel
theorem dX0_takeLine_69 : decode cX0_takeLine 69 = .ok (.iconst 1, 1) := by decide +kernel
theorem dX0_takeLine_70 : decode cX0_takeLine 70 = .ok (.iload 6, 2) := by decide +kernel
theorem dX0_takeLine_72 : decode cX0_takeLine 72 = .ok (.ishl, 1) := by decide +kernel
theorem dX0_takeLine_73 : decode cX0_takeLine 73 = .ok (.ior, 1) := by decide +kernel
theorem dX0_takeLine_74 : decode cX0_takeLine 74 = .ok (.istore 5, 2) := by decide +kernel
theorem dX0_takeLine_76 : decode cX0_takeLine 76 = .ok (.iinc 6 1, 3) := by decide +kernel
theorem dX0_takeLine_79 : decode cX0_takeLine 79 = .ok (.goto (-32), 3) := by decide +kernel
theorem dX0_takeLine_82 : decode cX0_takeLine 82 = .ok (.aload_n 0, 1) := by decide +kernel
theorem dX0_takeLine_83 : decode cX0_takeLine 83 = .ok (.getfield 9, 3) := by decide +kernel
theorem dX0_takeLine_86 : decode cX0_takeLine 86 = .ok (.aload_n 0, 1) := by decide +kernel
theorem dX0_takeLine_87 : decode cX0_takeLine 87 = .ok (.getfield 15, 3) := by decide +kernel
theorem dX0_takeLine_90 : decode cX0_takeLine 90 = .ok (.iload 5, 2) := by decide +kernel
theorem dX0_takeLine_92 : decode cX0_takeLine 92 = .ok (.iastore, 1) := by decide +kernel
theorem dX0_takeLine_93 : decode cX0_takeLine 93 = .ok (.aload_n 0, 1) := by decide +kernel
theorem dX0_takeLine_94 : decode cX0_takeLine 94 = .ok (.dup, 1) := by decide +kernel
theorem dX0_takeLine_95 : decode cX0_takeLine 95 = .ok (.getfield 15, 3) := by decide +kernel
theorem dX0_takeLine_98 : decode cX0_takeLine 98 = .ok (.iconst 1, 1) := by decide +kernel
theorem dX0_takeLine_99 : decode cX0_takeLine 99 = .ok (.iadd, 1) := by decide +kernel
theorem dX0_takeLine_100 : decode cX0_takeLine 100 = .ok (.putfield 15, 3) := by decide +kernel
theorem dX0_takeLine_103 : decode cX0_takeLine 103 = .ok (.aload_n 0, 1) := by decide +kernel
theorem dX0_takeLine_104 : decode cX0_takeLine 104 = .ok (.iload 4, 2) := by decide +kernel
theorem dX0_takeLine_106 : decode cX0_takeLine 106 = .ok (.putfield 19, 3) := by decide +kernel
theorem dX0_takeLine_109 : decode cX0_takeLine 109 = .ok (.iconst 1, 1) := by decide +kernel
theorem dX0_takeLine_110 : decode cX0_takeLine 110 = .ok (.ireturn, 1) := by decide +kernel
theorem dX0_digestFrom_0 : decode cX0_digestFrom 0 = .ok (.aload_n 0, 1) := by decide +kernel
theorem dX0_digestFrom_1 : decode cX0_digestFrom 1 = .ok (.invokevirtual 61, 3) := by decide +kernel
theorem dX0_digestFrom_4 : decode cX0_digestFrom 4 = .ok (.ifCond .eq 11, 3) := by decide +kernel
theorem dX0_digestFrom_7 : decode cX0_digestFrom 7 = .ok (.ldc2_w 65, 3) := by decide +kernel
theorem dX0_digestFrom_10 : decode cX0_digestFrom 10 = .ok (.lload_n 1, 1) := by decide +kernel
theorem dX0_digestFrom_11 : decode cX0_digestFrom 11 = .ok (.lmul, 1) := by decide +kernel
theorem dX0_digestFrom_12 : decode cX0_digestFrom 12 = .ok (.lconst 1, 1) := by decide +kernel
theorem dX0_digestFrom_13 : decode cX0_digestFrom 13 = .ok (.lsub, 1) := by decide +kernel
theorem dX0_digestFrom_14 : decode cX0_digestFrom 14 = .ok (.lreturn, 1) := by decide +kernel
theorem dX0_digestFrom_15 : decode cX0_digestFrom 15 = .ok (.ldc2_w 65, 3) := by decide +kernel
theorem dX0_digestFrom_18 : decode cX0_digestFrom 18 = .ok (.ldc2_w 65, 3) := by decide +kernel
theorem dX0_digestFrom_21 : decode cX0_digestFrom 21 = .ok (.lload_n 1, 1) := by decide +kernel
theorem dX0_digestFrom_22 : decode cX0_digestFrom 22 = .ok (.lmul, 1) := by decide +kernel
theorem dX0_digestFrom_23 : decode cX0_digestFrom 23 = .ok (.aload_n 0, 1) := by decide +kernel
theorem dX0_digestFrom_24 : decode cX0_digestFrom 24 = .ok (.getfield 15, 3) := by decide +kernel
theorem dX0_digestFrom_27 : decode cX0_digestFrom 27 = .ok (.i2l, 1) := by decide +kernel
theorem dX0_digestFrom_28 : decode cX0_digestFrom 28 = .ok (.ladd, 1) := by decide +kernel
theorem dX0_digestFrom_29 : decode cX0_digestFrom 29 = .ok (.lmul, 1) := by decide +kernel
theorem dX0_digestFrom_30 : decode cX0_digestFrom 30 = .ok (.aload_n 0, 1) := by decide +kernel
theorem dX0_digestFrom_31 : decode cX0_digestFrom 31 = .ok (.getfield 19, 3) := by decide +kernel
theorem dX0_digestFrom_34 : decode cX0_digestFrom 34 = .ok (.i2l, 1) := by decide +kernel
theorem dX0_digestFrom_35 : decode cX0_digestFrom 35 = .ok (.ladd, 1) := by decide +kernel
theorem dX0_digestFrom_36 : decode cX0_digestFrom 36 = .ok (.lstore_n 3, 1) := by decide +kernel
theorem dX0_digestFrom_37 : decode cX0_digestFrom 37 = .ok (.iconst 0, 1) := by decide +kernel
theorem dX0_digestFrom_38 : decode cX0_digestFrom 38 = .ok (.istore 5, 2) := by decide +kernel
theorem dX0_digestFrom_40 : decode cX0_digestFrom 40 = .ok (.iload 5, 2) := by decide +kernel
theorem dX0_digestFrom_42 : decode cX0_digestFrom 42 = .ok (.aload_n 0, 1) := by decide +kernel
theorem dX0_digestFrom_43 : decode cX0_digestFrom 43 = .ok (.getfield 15, 3) := by decide +kernel
theorem dX0_digestFrom_46 : decode cX0_digestFrom 46 = .ok (.if_icmp .ge 23, 3) := by decide +kernel
theorem dX0_digestFrom_49 : decode cX0_digestFrom 49 = .ok (.ldc2_w 65, 3) := by decide +kernel
theorem dX0_digestFrom_52 : decode cX0_digestFrom 52 = .ok (.lload_n 3, 1) := by decide +kernel
theorem dX0_digestFrom_53 : decode cX0_digestFrom 53 = .ok (.lmul, 1) := by decide +kernel
theorem dX0_digestFrom_54 : decode cX0_digestFrom 54 = .ok (.aload_n 0, 1) := by decide +kernel
theorem dX0_digestFrom_55 : decode cX0_digestFrom 55 = .ok (.iload 5, 2) := by decide +kernel
theorem dX0_digestFrom_57 : decode cX0_digestFrom 57 = .ok (.invokevirtual 31, 3) := by decide +kernel
theorem dX0_digestFrom_60 : decode cX0_digestFrom 60 = .ok (.i2l, 1) := by decide +kernel
theorem dX0_digestFrom_61 : decode cX0_digestFrom 61 = .ok (.ladd, 1) := by decide +kernel
theorem dX0_digestFrom_62 : decode cX0_digestFrom 62 = .ok (.lstore_n 3, 1) := by decide +kernel
theorem dX0_digestFrom_63 : decode cX0_digestFrom 63 = .ok (.iinc 5 1, 3) := by decide +kernel
theorem dX0_digestFrom_66 : decode cX0_digestFrom 66 = .ok (.goto (-26), 3) := by decide +kernel
theorem dX0_digestFrom_69 : decode cX0_digestFrom 69 = .ok (.lload_n 3, 1) := by decide +kernel
theorem dX0_digestFrom_70 : decode cX0_digestFrom 70 = .ok (.lreturn, 1) := by decide +kernel
theorem dX1_init_0 : decode cX1_init 0 = .ok (.aload_n 0, 1) := by decide +kernel
theorem dX1_init_1 : decode cX1_init 1 = .ok (.invokespecial 3, 3) := by decide +kernel
theorem dX1_init_4 : decode cX1_init 4 = .ok (.aload_n 0, 1) := by decide +kernel
theorem dX1_init_5 : decode cX1_init 5 = .ok (.bipush 40, 2) := by decide +kernel
theorem dX1_init_7 : decode cX1_init 7 = .ok (.newarray .int, 2) := by decide +kernel
theorem dX1_init_9 : decode cX1_init 9 = .ok (.putfield 9, 3) := by decide +kernel
theorem dX1_init_12 : decode cX1_init 12 = .ok (.aload_n 0, 1) := by decide +kernel
theorem dX1_init_13 : decode cX1_init 13 = .ok (.bipush 40, 2) := by decide +kernel
theorem dX1_init_15 : decode cX1_init 15 = .ok (.newarray .int, 2) := by decide +kernel
theorem dX1_init_17 : decode cX1_init 17 = .ok (.putfield 15, 3) := by decide +kernel
theorem dX1_init_20 : decode cX1_init 20 = .ok (.aload_n 0, 1) := by decide +kernel
theorem dX1_init_21 : decode cX1_init 21 = .ok (.iconst 0, 1) := by decide +kernel
theorem dX1_init_22 : decode cX1_init 22 = .ok (.putfield 18, 3) := by decide +kernel
theorem dX1_init_25 : decode cX1_init 25 = .ok (.aload_n 0, 1) := by decide +kernel
theorem dX1_init_26 : decode cX1_init 26 = .ok (.iconst 0, 1) := by decide +kernel
theorem dX1_init_27 : decode cX1_init 27 = .ok (.putfield 22, 3) := by decide +kernel
theorem dX1_init_30 : decode cX1_init 30 = .ok (.aload_n 0, 1) := by decide +kernel
theorem dX1_init_31 : decode cX1_init 31 = .ok (.iconst 0, 1) := by decide +kernel
theorem dX1_init_32 : decode cX1_init 32 = .ok (.putfield 25, 3) := by decide +kernel
theorem dX1_init_35 : decode cX1_init 35 = .ok (.aload_n 0, 1) := by decide +kernel
theorem dX1_init_36 : decode cX1_init 36 = .ok (.iconst 0, 1) := by decide +kernel
theorem dX1_init_37 : decode cX1_init 37 = .ok (.putfield 28, 3) := by decide +kernel
theorem dX1_init_40 : decode cX1_init 40 = .ok (.return_, 1) := by decide +kernel
theorem dX1_isMissing_0 : decode cX1_isMissing 0 = .ok (.aload_n 0, 1) := by decide +kernel
theorem dX1_isMissing_1 : decode cX1_isMissing 1 = .ok (.getfield 22, 3) := by decide +kernel
theorem dX1_isMissing_4 : decode cX1_isMissing 4 = .ok (.iconst 1, 1) := by decide +kernel
theorem dX1_isMissing_5 : decode cX1_isMissing 5 = .ok (.if_icmp .ge 7, 3) := by decide +kernel
theorem dX1_isMissing_8 : decode cX1_isMissing 8 = .ok (.iconst 1, 1) := by decide +kernel
theorem dX1_isMissing_9 : decode cX1_isMissing 9 = .ok (.goto 4, 3) := by decide +kernel
theorem dX1_isMissing_12 : decode cX1_isMissing 12 = .ok (.iconst 0, 1) := by decide +kernel
theorem dX1_isMissing_13 : decode cX1_isMissing 13 = .ok (.ireturn, 1) := by decide +kernel
theorem dX1_has_0 : decode cX1_has 0 = .ok (.iload_n 1, 1) := by decide +kernel
theorem dX1_has_1 : decode cX1_has 1 = .ok (.ifCond .lt 15, 3) := by decide +kernel
theorem dX1_has_4 : decode cX1_has 4 = .ok (.iload_n 1, 1) := by decide +kernel
theorem dX1_has_5 : decode cX1_has 5 = .ok (.aload_n 0, 1) := by decide +kernel
theorem dX1_has_6 : decode cX1_has 6 = .ok (.getfield 22, 3) := by decide +kernel
theorem dX1_has_9 : decode cX1_has 9 = .ok (.if_icmp .ge 7, 3) := by decide +kernel
theorem dX1_has_12 : decode cX1_has 12 = .ok (.iconst 1, 1) := by decide +kernel
theorem dX1_has_13 : decode cX1_has 13 = .ok (.goto 4, 3) := by decide +kernel
theorem dX1_has_16 : decode cX1_has 16 = .ok (.iconst 0, 1) := by decide +kernel
theorem dX1_has_17 : decode cX1_has 17 = .ok (.ireturn, 1) := by decide +kernel
theorem dX1_isOfKind_0 : decode cX1_isOfKind 0 = .ok (.aload_n 0, 1) := by decide +kernel
theorem dX1_isOfKind_1 : decode cX1_isOfKind 1 = .ok (.getfield 18, 3) := by decide +kernel
theorem dX1_isOfKind_4 : decode cX1_isOfKind 4 = .ok (.iload_n 1, 1) := by decide +kernel
theorem dX1_isOfKind_5 : decode cX1_isOfKind 5 = .ok (.if_icmp .eq 16, 3) := by decide +kernel
theorem dX1_isOfKind_8 : decode cX1_isOfKind 8 = .ok (.iload_n 1, 1) := by decide +kernel
theorem dX1_isOfKind_9 : decode cX1_isOfKind 9 = .ok (.iconst 1, 1) := by decide +kernel
theorem dX1_isOfKind_10 : decode cX1_isOfKind 10 = .ok (.if_icmp .ne 15, 3) := by decide +kernel
theorem dX1_isOfKind_13 : decode cX1_isOfKind 13 = .ok (.aload_n 0, 1) := by decide +kernel
theorem dX1_isOfKind_14 : decode cX1_isOfKind 14 = .ok (.getfield 18, 3) := by decide +kernel
theorem dX1_isOfKind_17 : decode cX1_isOfKind 17 = .ok (.iconst 2, 1) := by decide +kernel
theorem dX1_isOfKind_18 : decode cX1_isOfKind 18 = .ok (.if_icmp .ne 7, 3) := by decide +kernel
theorem dX1_isOfKind_21 : decode cX1_isOfKind 21 = .ok (.iconst 1, 1) := by decide +kernel
theorem dX1_isOfKind_22 : decode cX1_isOfKind 22 = .ok (.goto 4, 3) := by decide +kernel
theorem dX1_isOfKind_25 : decode cX1_isOfKind 25 = .ok (.iconst 0, 1) := by decide +kernel
theorem dX1_isOfKind_26 : decode cX1_isOfKind 26 = .ok (.ireturn, 1) := by decide +kernel
theorem dX1_lose_0 : decode cX1_lose 0 = .ok (.aload_n 0, 1) := by decide +kernel
theorem dX1_lose_1 : decode cX1_lose 1 = .ok (.iconst 0, 1) := by decide +kernel
theorem dX1_lose_2 : decode cX1_lose 2 = .ok (.putfield 22, 3) := by decide +kernel
theorem dX1_lose_5 : decode cX1_lose 5 = .ok (.return_, 1) := by decide +kernel
theorem dX1_renew_0 : decode cX1_renew 0 = .ok (.aload_n 1, 1) := by decide +kernel
theorem dX1_renew_1 : decode cX1_renew 1 = .ok (.getfield 31, 3) := by decide +kernel
theorem dX1_renew_4 : decode cX1_renew 4 = .ok (.iconst 0, 1) := by decide +kernel
theorem dX1_renew_5 : decode cX1_renew 5 = .ok (.aload_n 0, 1) := by decide +kernel
theorem dX1_renew_6 : decode cX1_renew 6 = .ok (.getfield 9, 3) := by decide +kernel
theorem dX1_renew_9 : decode cX1_renew 9 = .ok (.iconst 0, 1) := by decide +kernel
theorem dX1_renew_10 : decode cX1_renew 10 = .ok (.aload_n 0, 1) := by decide +kernel
theorem dX1_renew_11 : decode cX1_renew 11 = .ok (.getfield 9, 3) := by decide +kernel
theorem dX1_renew_14 : decode cX1_renew 14 = .ok (.arraylength, 1) := by decide +kernel
theorem dX1_renew_15 : decode cX1_renew 15 = .ok (.invokestatic 36, 3) := by decide +kernel
theorem dX1_renew_18 : decode cX1_renew 18 = .ok (.aload_n 0, 1) := by decide +kernel
theorem dX1_renew_19 : decode cX1_renew 19 = .ok (.iload_n 2, 1) := by decide +kernel
theorem dX1_renew_20 : decode cX1_renew 20 = .ok (.iload_n 3, 1) := by decide +kernel
theorem dX1_renew_21 : decode cX1_renew 21 = .ok (.aload_n 1, 1) := by decide +kernel
theorem dX1_renew_22 : decode cX1_renew 22 = .ok (.getfield 42, 3) := by decide +kernel
theorem dX1_renew_25 : decode cX1_renew 25 = .ok (.invokevirtual 43, 3) := by decide +kernel
theorem dX1_renew_28 : decode cX1_renew 28 = .ok (.return_, 1) := by decide +kernel
theorem dX1_takeChoices_0 : decode cX1_takeChoices 0 = .ok (.aload_n 1, 1) := by decide +kernel
theorem dX1_takeChoices_1 : decode cX1_takeChoices 1 = .ok (.getfield 31, 3) := by decide +kernel
theorem dX1_takeChoices_4 : decode cX1_takeChoices 4 = .ok (.iconst 0, 1) := by decide +kernel
theorem dX1_takeChoices_5 : decode cX1_takeChoices 5 = .ok (.aload_n 0, 1) := by decide +kernel
theorem dX1_takeChoices_6 : decode cX1_takeChoices 6 = .ok (.getfield 15, 3) := by decide +kernel
theorem dX1_takeChoices_9 : decode cX1_takeChoices 9 = .ok (.iconst 0, 1) := by decide +kernel
theorem dX1_takeChoices_10 : decode cX1_takeChoices 10 = .ok (.aload_n 0, 1) := by decide +kernel
theorem dX1_takeChoices_11 : decode cX1_takeChoices 11 = .ok (.getfield 15, 3) := by decide +kernel
theorem dX1_takeChoices_14 : decode cX1_takeChoices 14 = .ok (.arraylength, 1) := by decide +kernel
theorem dX1_takeChoices_15 : decode cX1_takeChoices 15 = .ok (.invokestatic 36, 3) := by decide +kernel
theorem dX1_takeChoices_18 : decode cX1_takeChoices 18 = .ok (.return_, 1) := by decide +kernel
theorem dX1_takeSpan_0 : decode cX1_takeSpan 0 = .ok (.iload_n 2, 1) := by decide +kernel
theorem dX1_takeSpan_1 : decode cX1_takeSpan 1 = .ok (.ifCond .lt 26, 3) := by decide +kernel
theorem dX1_takeSpan_4 : decode cX1_takeSpan 4 = .ok (.iload_n 3, 1) := by decide +kernel
theorem dX1_takeSpan_5 : decode cX1_takeSpan 5 = .ok (.iconst 1, 1) := by decide +kernel
theorem dX1_takeSpan_6 : decode cX1_takeSpan 6 = .ok (.if_icmp .lt 21, 3) := by decide +kernel
theorem dX1_takeSpan_9 : decode cX1_takeSpan 9 = .ok (.iload_n 3, 1) := by decide +kernel
theorem dX1_takeSpan_10 : decode cX1_takeSpan 10 = .ok (.aload_n 1, 1) := by decide +kernel
theorem dX1_takeSpan_11 : decode cX1_takeSpan 11 = .ok (.getfield 22, 3) := by decide +kernel
theorem dX1_takeSpan_14 : decode cX1_takeSpan 14 = .ok (.if_icmp .gt 13, 3) := by decide +kernel
theorem dX1_takeSpan_17 : decode cX1_takeSpan 17 = .ok (.iload_n 2, 1) := by decide +kernel
theorem dX1_takeSpan_18 : decode cX1_takeSpan 18 = .ok (.aload_n 1, 1) := by decide +kernel
theorem dX1_takeSpan_19 : decode cX1_takeSpan 19 = .ok (.getfield 22, 3) := by decide +kernel
theorem dX1_takeSpan_22 : decode cX1_takeSpan 22 = .ok (.iload_n 3, 1) := by decide +kernel
theorem dX1_takeSpan_23 : decode cX1_takeSpan 23 = .ok (.isub, 1) := by decide +kernel
theorem dX1_takeSpan_24 : decode cX1_takeSpan 24 = .ok (.if_icmp .le 4, 3) := by decide +kernel
theorem dX1_takeSpan_27 : decode cX1_takeSpan 27 = .ok (.return_, 1) := by decide +kernel
theorem dX1_takeSpan_28 : decode cX1_takeSpan 28 = .ok (.aload_n 1, 1) := by decide +kernel
theorem dX1_takeSpan_29 : decode cX1_takeSpan 29 = .ok (.getfield 9, 3) := by decide +kernel
theorem dX1_takeSpan_32 : decode cX1_takeSpan 32 = .ok (.iload_n 2, 1) := by decide +kernel
theorem dX1_takeSpan_33 : decode cX1_takeSpan 33 = .ok (.aload_n 0, 1) := by decide +kernel
theorem dX1_takeSpan_34 : decode cX1_takeSpan 34 = .ok (.getfield 9, 3) := by decide +kernel
theorem dX1_takeSpan_37 : decode cX1_takeSpan 37 = .ok (.iconst 0, 1) := by decide +kernel
theorem dX1_takeSpan_38 : decode cX1_takeSpan 38 = .ok (.iload_n 3, 1) := by decide +kernel
theorem dX1_takeSpan_39 : decode cX1_takeSpan 39 = .ok (.invokestatic 36, 3) := by decide +kernel
theorem dX1_takeSpan_42 : decode cX1_takeSpan 42 = .ok (.aload_n 0, 1) := by decide +kernel
theorem dX1_takeSpan_43 : decode cX1_takeSpan 43 = .ok (.iconst 0, 1) := by decide +kernel
theorem dX1_takeSpan_44 : decode cX1_takeSpan 44 = .ok (.iconst 0, 1) := by decide +kernel
theorem dX1_takeSpan_45 : decode cX1_takeSpan 45 = .ok (.iload_n 3, 1) := by decide +kernel
theorem dX1_takeSpan_46 : decode cX1_takeSpan 46 = .ok (.invokevirtual 43, 3) := by decide +kernel
theorem dX1_takeSpan_49 : decode cX1_takeSpan 49 = .ok (.return_, 1) := by decide +kernel
theorem dX1_become_0 : decode cX1_become 0 = .ok (.aload_n 0, 1) := by decide +kernel
theorem dX1_become_1 : decode cX1_become 1 = .ok (.iload_n 1, 1) := by decide +kernel
theorem dX1_become_2 : decode cX1_become 2 = .ok (.putfield 18, 3) := by decide +kernel
theorem dX1_become_5 : decode cX1_become 5 = .ok (.aload_n 0, 1) := by decide +kernel
theorem dX1_become_6 : decode cX1_become 6 = .ok (.iload_n 2, 1) := by decide +kernel
theorem dX1_become_7 : decode cX1_become 7 = .ok (.putfield 25, 3) := by decide +kernel
theorem dX1_become_10 : decode cX1_become 10 = .ok (.aload_n 0, 1) := by decide +kernel
theorem dX1_become_11 : decode cX1_become 11 = .ok (.iconst 0, 1) := by decide +kernel
theorem dX1_become_12 : decode cX1_become 12 = .ok (.iload_n 3, 1) := by decide +kernel
theorem dX1_become_13 : decode cX1_become 13 = .ok (.aload_n 0, 1) := by decide +kernel
theorem dX1_become_14 : decode cX1_become 14 = .ok (.getfield 9, 3) := by decide +kernel
theorem dX1_become_17 : decode cX1_become 17 = .ok (.arraylength, 1) := by decide +kernel
theorem dX1_become_18 : decode cX1_become 18 = .ok (.invokestatic 47, 3) := by decide +kernel
theorem dX1_become_21 : decode cX1_become 21 = .ok (.invokestatic 53, 3) := by decide +kernel
theorem dX1_become_24 : decode cX1_become 24 = .ok (.putfield 22, 3) := by decide +kernel
theorem dX1_become_27 : decode cX1_become 27 = .ok (.aload_n 0, 1) := by decide +kernel
theorem dX1_become_28 : decode cX1_become 28 = .ok (.iconst 0, 1) := by decide +kernel
theorem dX1_become_29 : decode cX1_become 29 = .ok (.putfield 28, 3) := by decide +kernel
theorem dX1_become_32 : decode cX1_become 32 = .ok (.aload_n 0, 1) := by decide +kernel
theorem dX1_become_33 : decode cX1_become 33 = .ok (.getfield 15, 3) := by decide +kernel
theorem dX1_become_36 : decode cX1_become 36 = .ok (.iconst 0, 1) := by decide +kernel
theorem dX1_become_37 : decode cX1_become 37 = .ok (.invokestatic 56, 3) := by decide +kernel
theorem dX1_become_40 : decode cX1_become 40 = .ok (.return_, 1) := by decide +kernel
theorem dX1_dotAt_0 : decode cX1_dotAt 0 = .ok (.aload_n 0, 1) := by decide +kernel
theorem dX1_dotAt_1 : decode cX1_dotAt 1 = .ok (.iload_n 1, 1) := by decide +kernel
theorem dX1_dotAt_2 : decode cX1_dotAt 2 = .ok (.invokevirtual 62, 3) := by decide +kernel
theorem dX1_dotAt_5 : decode cX1_dotAt 5 = .ok (.ifCond .eq 12, 3) := by decide +kernel
theorem dX1_dotAt_8 : decode cX1_dotAt 8 = .ok (.aload_n 0, 1) := by decide +kernel
theorem dX1_dotAt_9 : decode cX1_dotAt 9 = .ok (.getfield 9, 3) := by decide +kernel
theorem dX1_dotAt_12 : decode cX1_dotAt 12 = .ok (.iload_n 1, 1) := by decide +kernel
theorem dX1_dotAt_13 : decode cX1_dotAt 13 = .ok (.iaload, 1) := by decide +kernel
theorem dX1_dotAt_14 : decode cX1_dotAt 14 = .ok (.goto 4, 3) := by decide +kernel
theorem dX1_dotAt_17 : decode cX1_dotAt 17 = .ok (.iconst 0, 1) := by decide +kernel
theorem dX1_dotAt_18 : decode cX1_dotAt 18 = .ok (.ireturn, 1) := by decide +kernel
theorem dX1_setDot_0 : decode cX1_setDot 0 = .ok (.aload_n 0, 1) := by decide +kernel
theorem dX1_setDot_1 : decode cX1_setDot 1 = .ok (.iload_n 1, 1) := by decide +kernel
theorem dX1_setDot_2 : decode cX1_setDot 2 = .ok (.invokevirtual 62, 3) := by decide +kernel
theorem dX1_setDot_5 : decode cX1_setDot 5 = .ok (.ifCond .eq 10, 3) := by decide +kernel
theorem dX1_setDot_8 : decode cX1_setDot 8 = .ok (.aload_n 0, 1) := by decide +kernel
theorem dX1_setDot_9 : decode cX1_setDot 9 = .ok (.getfield 9, 3) := by decide +kernel
theorem dX1_setDot_12 : decode cX1_setDot 12 = .ok (.iload_n 1, 1) := by decide +kernel
theorem dX1_setDot_13 : decode cX1_setDot 13 = .ok (.iload_n 2, 1) := by decide +kernel
theorem dX1_setDot_14 : decode cX1_setDot 14 = .ok (.iastore, 1) := by decide +kernel
theorem dX1_setDot_15 : decode cX1_setDot 15 = .ok (.return_, 1) := by decide +kernel
theorem dX1_choicesAt_0 : decode cX1_choicesAt 0 = .ok (.aload_n 0, 1) := by decide +kernel
theorem dX1_choicesAt_1 : decode cX1_choicesAt 1 = .ok (.iload_n 1, 1) := by decide +kernel
theorem dX1_choicesAt_2 : decode cX1_choicesAt 2 = .ok (.invokevirtual 62, 3) := by decide +kernel
theorem dX1_choicesAt_5 : decode cX1_choicesAt 5 = .ok (.ifCond .eq 12, 3) := by decide +kernel
theorem dX1_choicesAt_8 : decode cX1_choicesAt 8 = .ok (.aload_n 0, 1) := by decide +kernel
theorem dX1_choicesAt_9 : decode cX1_choicesAt 9 = .ok (.getfield 15, 3) := by decide +kernel
theorem dX1_choicesAt_12 : decode cX1_choicesAt 12 = .ok (.iload_n 1, 1) := by decide +kernel
theorem dX1_choicesAt_13 : decode cX1_choicesAt 13 = .ok (.iaload, 1) := by decide +kernel
theorem dX1_choicesAt_14 : decode cX1_choicesAt 14 = .ok (.goto 4, 3) := by decide +kernel
theorem dX1_choicesAt_17 : decode cX1_choicesAt 17 = .ok (.iconst 0, 1) := by decide +kernel
theorem dX1_choicesAt_18 : decode cX1_choicesAt 18 = .ok (.ireturn, 1) := by decide +kernel
theorem dX1_bitAt_0 : decode cX1_bitAt 0 = .ok (.aload_n 0, 1) := by decide +kernel
theorem dX1_bitAt_1 : decode cX1_bitAt 1 = .ok (.getfield 18, 3) := by decide +kernel
theorem dX1_bitAt_4 : decode cX1_bitAt 4 = .ok (.iconst 2, 1) := by decide +kernel
theorem dX1_bitAt_5 : decode cX1_bitAt 5 = .ok (.if_icmp .ne 15, 3) := by decide +kernel
theorem dX1_bitAt_8 : decode cX1_bitAt 8 = .ok (.aload_n 0, 1) := by decide +kernel
theorem dX1_bitAt_9 : decode cX1_bitAt 9 = .ok (.iload_n 1, 1) := by decide +kernel
theorem dX1_bitAt_10 : decode cX1_bitAt 10 = .ok (.invokevirtual 66, 3) := by decide +kernel
theorem dX1_bitAt_13 : decode cX1_bitAt 13 = .ok (.iconst 1, 1) := by decide +kernel
theorem dX1_bitAt_14 : decode cX1_bitAt 14 = .ok (.ishr, 1) := by decide +kernel
theorem dX1_bitAt_15 : decode cX1_bitAt 15 = .ok (.iconst 1, 1) := by decide +kernel
theorem dX1_bitAt_16 : decode cX1_bitAt 16 = .ok (.iand, 1) := by decide +kernel
theorem dX1_bitAt_17 : decode cX1_bitAt 17 = .ok (.goto 10, 3) := by decide +kernel
theorem dX1_bitAt_20 : decode cX1_bitAt 20 = .ok (.aload_n 0, 1) := by decide +kernel
theorem dX1_bitAt_21 : decode cX1_bitAt 21 = .ok (.iload_n 1, 1) := by decide +kernel
theorem dX1_bitAt_22 : decode cX1_bitAt 22 = .ok (.invokevirtual 66, 3) := by decide +kernel
theorem dX1_bitAt_25 : decode cX1_bitAt 25 = .ok (.iconst 1, 1) := by decide +kernel
theorem dX1_bitAt_26 : decode cX1_bitAt 26 = .ok (.iand, 1) := by decide +kernel
theorem dX1_bitAt_27 : decode cX1_bitAt 27 = .ok (.ireturn, 1) := by decide +kernel
theorem dX1_flippedAt_0 : decode cX1_flippedAt 0 = .ok (.aload_n 0, 1) := by decide +kernel
theorem dX1_flippedAt_1 : decode cX1_flippedAt 1 = .ok (.iload_n 1, 1) := by decide +kernel
theorem dX1_flippedAt_2 : decode cX1_flippedAt 2 = .ok (.invokevirtual 66, 3) := by decide +kernel
theorem dX1_flippedAt_5 : decode cX1_flippedAt 5 = .ok (.istore_n 2, 1) := by decide +kernel
theorem dX1_flippedAt_6 : decode cX1_flippedAt 6 = .ok (.aload_n 0, 1) := by decide +kernel
theorem dX1_flippedAt_7 : decode cX1_flippedAt 7 = .ok (.getfield 18, 3) := by decide +kernel
theorem dX1_flippedAt_10 : decode cX1_flippedAt 10 = .ok (.iconst 2, 1) := by decide +kernel
theorem dX1_flippedAt_11 : decode cX1_flippedAt 11 = .ok (.if_icmp .ne 7, 3) := by decide +kernel
theorem dX1_flippedAt_14 : decode cX1_flippedAt 14 = .ok (.iload_n 2, 1) := by decide +kernel
theorem dX1_flippedAt_15 : decode cX1_flippedAt 15 = .ok (.iconst 2, 1) := by decide +kernel
theorem dX1_flippedAt_16 : decode cX1_flippedAt 16 = .ok (.ixor, 1) := by decide +kernel
theorem dX1_flippedAt_17 : decode cX1_flippedAt 17 = .ok (.ireturn, 1) := by decide +kernel
theorem dX1_flippedAt_18 : decode cX1_flippedAt 18 = .ok (.aload_n 0, 1) := by decide +kernel
theorem dX1_flippedAt_19 : decode cX1_flippedAt 19 = .ok (.getfield 18, 3) := by decide +kernel
theorem dX1_flippedAt_22 : decode cX1_flippedAt 22 = .ok (.iconst 3, 1) := by decide +kernel
theorem dX1_flippedAt_23 : decode cX1_flippedAt 23 = .ok (.if_icmp .eq 7, 3) := by decide +kernel
theorem dX1_flippedAt_26 : decode cX1_flippedAt 26 = .ok (.iload_n 2, 1) := by decide +kernel
theorem dX1_flippedAt_27 : decode cX1_flippedAt 27 = .ok (.iconst 1, 1) := by decide +kernel
theorem dX1_flippedAt_28 : decode cX1_flippedAt 28 = .ok (.ixor, 1) := by decide +kernel
theorem dX1_flippedAt_29 : decode cX1_flippedAt 29 = .ok (.ireturn, 1) := by decide +kernel
theorem dX1_flippedAt_30 : decode cX1_flippedAt 30 = .ok (.aload_n 0, 1) := by decide +kernel
theorem dX1_flippedAt_31 : decode cX1_flippedAt 31 = .ok (.iload_n 1, 1) := by decide +kernel
theorem dX1_flippedAt_32 : decode cX1_flippedAt 32 = .ok (.invokevirtual 70, 3) := by decide +kernel
theorem dX1_flippedAt_35 : decode cX1_flippedAt 35 = .ok (.iconst 2, 1) := by decide +kernel
theorem dX1_flippedAt_36 : decode cX1_flippedAt 36 = .ok (.if_icmp .ge 5, 3) := by decide +kernel
theorem dX1_flippedAt_39 : decode cX1_flippedAt 39 = .ok (.iload_n 2, 1) := by decide +kernel
theorem dX1_flippedAt_40 : decode cX1_flippedAt 40 = .ok (.ireturn, 1) := by decide +kernel
theorem dX1_flippedAt_41 : decode cX1_flippedAt 41 = .ok (.iload_n 2, 1) := by decide +kernel
theorem dX1_flippedAt_42 : decode cX1_flippedAt 42 = .ok (.iconst 1, 1) := by decide +kernel
theorem dX1_flippedAt_43 : decode cX1_flippedAt 43 = .ok (.iadd, 1) := by decide +kernel
theorem dX1_flippedAt_44 : decode cX1_flippedAt 44 = .ok (.aload_n 0, 1) := by decide +kernel
theorem dX1_flippedAt_45 : decode cX1_flippedAt 45 = .ok (.iload_n 1, 1) := by decide +kernel
theorem dX1_flippedAt_46 : decode cX1_flippedAt 46 = .ok (.invokevirtual 70, 3) := by decide +kernel
theorem dX1_flippedAt_49 : decode cX1_flippedAt 49 = .ok (.if_icmp .ge 9, 3) := by decide +kernel
theorem dX1_flippedAt_52 : decode cX1_flippedAt 52 = .ok (.iload_n 2, 1) := by decide +kernel
theorem dX1_flippedAt_53 : decode cX1_flippedAt 53 = .ok (.iconst 1, 1) := by decide +kernel
theorem dX1_flippedAt_54 : decode cX1_flippedAt 54 = .ok (.iadd, 1) := by decide +kernel
theorem dX1_flippedAt_55 : decode cX1_flippedAt 55 = .ok (.goto 6, 3) := by decide +kernel
theorem dX1_flippedAt_58 : decode cX1_flippedAt 58 = .ok (.iload_n 2, 1) := by decide +kernel
theorem dX1_flippedAt_59 : decode cX1_flippedAt 59 = .ok (.iconst 1, 1) := by decide +kernel
theorem dX1_flippedAt_60 : decode cX1_flippedAt 60 = .ok (.isub, 1) := by decide +kernel
theorem dX1_flippedAt_61 : decode cX1_flippedAt 61 = .ok (.ireturn, 1) := by decide +kernel
theorem dX1_isWet_0 : decode cX1_isWet 0 = .ok (.aload_n 0, 1) := by decide +kernel
theorem dX1_isWet_1 : decode cX1_isWet 1 = .ok (.getfield 18, 3) := by decide +kernel
theorem dX1_isWet_4 : decode cX1_isWet 4 = .ok (.iconst 4, 1) := by decide +kernel
theorem dX1_isWet_5 : decode cX1_isWet 5 = .ok (.if_icmp .eq 20, 3) := by decide +kernel
theorem dX1_isWet_8 : decode cX1_isWet 8 = .ok (.aload_n 0, 1) := by decide +kernel
theorem dX1_isWet_9 : decode cX1_isWet 9 = .ok (.getfield 18, 3) := by decide +kernel
theorem dX1_isWet_12 : decode cX1_isWet 12 = .ok (.iconst 3, 1) := by decide +kernel
theorem dX1_isWet_13 : decode cX1_isWet 13 = .ok (.if_icmp .ne 14, 3) := by decide +kernel
theorem dX1_isWet_16 : decode cX1_isWet 16 = .ok (.aload_n 0, 1) := by decide +kernel
theorem dX1_isWet_17 : decode cX1_isWet 17 = .ok (.iload_n 1, 1) := by decide +kernel
theorem dX1_isWet_18 : decode cX1_isWet 18 = .ok (.invokevirtual 70, 3) := by decide +kernel
theorem dX1_isWet_21 : decode cX1_isWet 21 = .ok (.iconst 2, 1) := by decide +kernel
theorem dX1_isWet_22 : decode cX1_isWet 22 = .ok (.if_icmp .ge 5, 3) := by decide +kernel
theorem dX1_isWet_25 : decode cX1_isWet 25 = .ok (.iconst 1, 1) := by decide +kernel
theorem dX1_isWet_26 : decode cX1_isWet 26 = .ok (.ireturn, 1) := by decide +kernel
theorem dX1_isWet_27 : decode cX1_isWet 27 = .ok (.iload_n 1, 1) := by decide +kernel
theorem dX1_isWet_28 : decode cX1_isWet 28 = .ok (.ifCond .lt 24, 3) := by decide +kernel
theorem dX1_isWet_31 : decode cX1_isWet 31 = .ok (.iload_n 1, 1) := by decide +kernel
theorem dX1_isWet_32 : decode cX1_isWet 32 = .ok (.bipush 30, 2) := by decide +kernel
theorem dX1_isWet_34 : decode cX1_isWet 34 = .ok (.if_icmp .gt 18, 3) := by decide +kernel
theorem dX1_isWet_37 : decode cX1_isWet 37 = .ok (.aload_n 0, 1) := by decide +kernel
theorem dX1_isWet_38 : decode cX1_isWet 38 = .ok (.getfield 28, 3) := by decide +kernel
theorem dX1_isWet_41 : decode cX1_isWet 41 = .ok (.iload_n 1, 1) := by decide +kernel
theorem dX1_isWet_42 : decode cX1_isWet 42 = .ok (.ishr, 1) := by decide +kernel
theorem dX1_isWet_43 : decode cX1_isWet 43 = .ok (.iconst 1, 1) := by decide +kernel
theorem dX1_isWet_44 : decode cX1_isWet 44 = .ok (.iand, 1) := by decide +kernel
theorem dX1_isWet_45 : decode cX1_isWet 45 = .ok (.ifCond .eq 7, 3) := by decide +kernel
theorem dX1_isWet_48 : decode cX1_isWet 48 = .ok (.iconst 1, 1) := by decide +kernel
theorem dX1_isWet_49 : decode cX1_isWet 49 = .ok (.goto 4, 3) := by decide +kernel
theorem dX1_isWet_52 : decode cX1_isWet 52 = .ok (.iconst 0, 1) := by decide +kernel
theorem dX1_isWet_53 : decode cX1_isWet 53 = .ok (.ireturn, 1) := by decide +kernel
theorem dX1_countWet_0 : decode cX1_countWet 0 = .ok (.iconst 0, 1) := by decide +kernel
theorem dX1_countWet_1 : decode cX1_countWet 1 = .ok (.istore_n 1, 1) := by decide +kernel
theorem dX1_countWet_2 : decode cX1_countWet 2 = .ok (.iconst 0, 1) := by decide +kernel
theorem dX1_countWet_3 : decode cX1_countWet 3 = .ok (.istore_n 2, 1) := by decide +kernel
theorem dX1_countWet_4 : decode cX1_countWet 4 = .ok (.iload_n 2, 1) := by decide +kernel
theorem dX1_countWet_5 : decode cX1_countWet 5 = .ok (.aload_n 0, 1) := by decide +kernel
theorem dX1_countWet_6 : decode cX1_countWet 6 = .ok (.getfield 22, 3) := by decide +kernel
theorem dX1_countWet_9 : decode cX1_countWet 9 = .ok (.if_icmp .ge 20, 3) := by decide +kernel
theorem dX1_countWet_12 : decode cX1_countWet 12 = .ok (.aload_n 0, 1) := by decide +kernel
theorem dX1_countWet_13 : decode cX1_countWet 13 = .ok (.iload_n 2, 1) := by decide +kernel
theorem dX1_countWet_14 : decode cX1_countWet 14 = .ok (.invokevirtual 73, 3) := by decide +kernel
theorem dX1_countWet_17 : decode cX1_countWet 17 = .ok (.ifCond .eq 6, 3) := by decide +kernel
theorem dX1_countWet_20 : decode cX1_countWet 20 = .ok (.iinc 1 1, 3) := by decide +kernel
theorem dX1_countWet_23 : decode cX1_countWet 23 = .ok (.iinc 2 1, 3) := by decide +kernel
theorem dX1_countWet_26 : decode cX1_countWet 26 = .ok (.goto (-22), 3) := by decide +kernel
theorem dX1_countWet_29 : decode cX1_countWet 29 = .ok (.iload_n 1, 1) := by decide +kernel
theorem dX1_countWet_30 : decode cX1_countWet 30 = .ok (.ireturn, 1) := by decide +kernel
theorem dX1_priceAt_0 : decode cX1_priceAt 0 = .ok (.aload_n 0, 1) := by decide +kernel
theorem dX1_priceAt_1 : decode cX1_priceAt 1 = .ok (.iload_n 1, 1) := by decide +kernel
theorem dX1_priceAt_2 : decode cX1_priceAt 2 = .ok (.invokevirtual 70, 3) := by decide +kernel
theorem dX1_priceAt_5 : decode cX1_priceAt 5 = .ok (.istore_n 2, 1) := by decide +kernel
theorem dX1_priceAt_6 : decode cX1_priceAt 6 = .ok (.iload_n 2, 1) := by decide +kernel
theorem dX1_priceAt_7 : decode cX1_priceAt 7 = .ok (.ifCond .le 8, 3) := by decide +kernel
theorem dX1_priceAt_10 : decode cX1_priceAt 10 = .ok (.bipush 12, 2) := by decide +kernel
theorem dX1_priceAt_12 : decode cX1_priceAt 12 = .ok (.iload_n 2, 1) := by decide +kernel
theorem dX1_priceAt_13 : decode cX1_priceAt 13 = .ok (.idiv, 1) := by decide +kernel
theorem dX1_priceAt_14 : decode cX1_priceAt 14 = .ok (.ireturn, 1) := by decide +kernel
theorem dX1_priceAt_15 : decode cX1_priceAt 15 = .ok (.aload_n 0, 1) := by decide +kernel
theorem dX1_priceAt_16 : decode cX1_priceAt 16 = .ok (.getfield 25, 3) := by decide +kernel
theorem dX1_priceAt_19 : decode cX1_priceAt 19 = .ok (.iconst 1, 1) := by decide +kernel
theorem dX1_priceAt_20 : decode cX1_priceAt 20 = .ok (.if_icmp .ge 6, 3) := by decide +kernel
theorem dX1_priceAt_23 : decode cX1_priceAt 23 = .ok (.bipush 10, 2) := by decide +kernel
theorem dX1_priceAt_25 : decode cX1_priceAt 25 = .ok (.ireturn, 1) := by decide +kernel
theorem dX1_priceAt_26 : decode cX1_priceAt 26 = .ok (.bipush 60, 2) := by decide +kernel
theorem dX1_priceAt_28 : decode cX1_priceAt 28 = .ok (.iconst 1, 1) := by decide +kernel
theorem dX1_priceAt_29 : decode cX1_priceAt 29 = .ok (.iconst 1, 1) := by decide +kernel
theorem dX1_priceAt_30 : decode cX1_priceAt 30 = .ok (.aload_n 0, 1) := by decide +kernel
theorem dX1_priceAt_31 : decode cX1_priceAt 31 = .ok (.iload_n 1, 1) := by decide +kernel
theorem dX1_priceAt_32 : decode cX1_priceAt 32 = .ok (.invokevirtual 76, 3) := by decide +kernel
theorem dX1_priceAt_35 : decode cX1_priceAt 35 = .ok (.iadd, 1) := by decide +kernel
theorem dX1_priceAt_36 : decode cX1_priceAt 36 = .ok (.invokestatic 53, 3) := by decide +kernel
theorem dX1_priceAt_39 : decode cX1_priceAt 39 = .ok (.idiv, 1) := by decide +kernel
theorem dX1_priceAt_40 : decode cX1_priceAt 40 = .ok (.iconst 1, 1) := by decide +kernel
theorem dX1_priceAt_41 : decode cX1_priceAt 41 = .ok (.iadd, 1) := by decide +kernel
theorem dX1_priceAt_42 : decode cX1_priceAt 42 = .ok (.istore_n 3, 1) := by decide +kernel
theorem dX1_priceAt_43 : decode cX1_priceAt 43 = .ok (.aload_n 0, 1) := by decide +kernel
theorem dX1_priceAt_44 : decode cX1_priceAt 44 = .ok (.getfield 18, 3) := by decide +kernel
theorem dX1_priceAt_47 : decode cX1_priceAt 47 = .ok (.iconst 2, 1) := by decide +kernel
theorem dX1_priceAt_48 : decode cX1_priceAt 48 = .ok (.if_icmp .ne 9, 3) := by decide +kernel
theorem dX1_priceAt_51 : decode cX1_priceAt 51 = .ok (.iconst 2, 1) := by decide +kernel
theorem dX1_priceAt_52 : decode cX1_priceAt 52 = .ok (.iload_n 3, 1) := by decide +kernel
theorem dX1_priceAt_53 : decode cX1_priceAt 53 = .ok (.imul, 1) := by decide +kernel
theorem dX1_priceAt_54 : decode cX1_priceAt 54 = .ok (.goto 4, 3) := by decide +kernel
theorem dX1_priceAt_57 : decode cX1_priceAt 57 = .ok (.iload_n 3, 1) := by decide +kernel
theorem dX1_priceAt_58 : decode cX1_priceAt 58 = .ok (.ireturn, 1) := by decide +kernel
theorem dX1_roughnessAt_0 : decode cX1_roughnessAt 0 = .ok (.aload_n 0, 1) := by decide +kernel
theorem dX1_roughnessAt_1 : decode cX1_roughnessAt 1 = .ok (.getfield 25, 3) := by decide +kernel
theorem dX1_roughnessAt_4 : decode cX1_roughnessAt 4 = .ok (.iconst 1, 1) := by decide +kernel
theorem dX1_roughnessAt_5 : decode cX1_roughnessAt 5 = .ok (.if_icmp .ge 5, 3) := by decide +kernel
theorem dX1_roughnessAt_8 : decode cX1_roughnessAt 8 = .ok (.iconst 0, 1) := by decide +kernel
theorem dX1_roughnessAt_9 : decode cX1_roughnessAt 9 = .ok (.ireturn, 1) := by decide +kernel
theorem dX1_roughnessAt_10 : decode cX1_roughnessAt 10 = .ok (.iconst 0, 1) := by decide +kernel
theorem dX1_roughnessAt_11 : decode cX1_roughnessAt 11 = .ok (.istore_n 2, 1) := by decide +kernel
theorem dX1_roughnessAt_12 : decode cX1_roughnessAt 12 = .ok (.iload_n 1, 1) := by decide +kernel
theorem dX1_roughnessAt_13 : decode cX1_roughnessAt 13 = .ok (.aload_n 0, 1) := by decide +kernel
theorem dX1_roughnessAt_14 : decode cX1_roughnessAt 14 = .ok (.getfield 25, 3) := by decide +kernel
theorem dX1_roughnessAt_17 : decode cX1_roughnessAt 17 = .ok (.irem, 1) := by decide +kernel
theorem dX1_roughnessAt_18 : decode cX1_roughnessAt 18 = .ok (.ifCond .le 14, 3) := by decide +kernel
theorem dX1_roughnessAt_21 : decode cX1_roughnessAt 21 = .ok (.iload_n 2, 1) := by decide +kernel
theorem dX1_roughnessAt_22 : decode cX1_roughnessAt 22 = .ok (.aload_n 0, 1) := by decide +kernel
theorem dX1_roughnessAt_23 : decode cX1_roughnessAt 23 = .ok (.iload_n 1, 1) := by decide +kernel
theorem dX1_roughnessAt_24 : decode cX1_roughnessAt 24 = .ok (.iload_n 1, 1) := by decide +kernel
theorem dX1_roughnessAt_25 : decode cX1_roughnessAt 25 = .ok (.iconst 1, 1) := by decide +kernel
theorem dX1_roughnessAt_26 : decode cX1_roughnessAt 26 = .ok (.isub, 1) := by decide +kernel
theorem dX1_roughnessAt_27 : decode cX1_roughnessAt 27 = .ok (.invokevirtual 79, 3) := by decide +kernel
theorem dX1_roughnessAt_30 : decode cX1_roughnessAt 30 = .ok (.iadd, 1) := by decide +kernel
theorem dX1_roughnessAt_31 : decode cX1_roughnessAt 31 = .ok (.istore_n 2, 1) := by decide +kernel
theorem dX1_roughnessAt_32 : decode cX1_roughnessAt 32 = .ok (.iload_n 1, 1) := by decide +kernel
theorem dX1_roughnessAt_33 : decode cX1_roughnessAt 33 = .ok (.aload_n 0, 1) := by decide +kernel
theorem dX1_roughnessAt_34 : decode cX1_roughnessAt 34 = .ok (.getfield 25, 3) := by decide +kernel
theorem dX1_roughnessAt_37 : decode cX1_roughnessAt 37 = .ok (.irem, 1) := by decide +kernel
theorem dX1_roughnessAt_38 : decode cX1_roughnessAt 38 = .ok (.aload_n 0, 1) := by decide +kernel
theorem dX1_roughnessAt_39 : decode cX1_roughnessAt 39 = .ok (.getfield 25, 3) := by decide +kernel
theorem dX1_roughnessAt_42 : decode cX1_roughnessAt 42 = .ok (.iconst 1, 1) := by decide +kernel
theorem dX1_roughnessAt_43 : decode cX1_roughnessAt 43 = .ok (.isub, 1) := by decide +kernel
theorem dX1_roughnessAt_44 : decode cX1_roughnessAt 44 = .ok (.if_icmp .ge 14, 3) := by decide +kernel
theorem dX1_roughnessAt_47 : decode cX1_roughnessAt 47 = .ok (.iload_n 2, 1) := by decide +kernel
theorem dX1_roughnessAt_48 : decode cX1_roughnessAt 48 = .ok (.aload_n 0, 1) := by decide +kernel
theorem dX1_roughnessAt_49 : decode cX1_roughnessAt 49 = .ok (.iload_n 1, 1) := by decide +kernel
theorem dX1_roughnessAt_50 : decode cX1_roughnessAt 50 = .ok (.iload_n 1, 1) := by decide +kernel
theorem dX1_roughnessAt_51 : decode cX1_roughnessAt 51 = .ok (.iconst 1, 1) := by decide +kernel
theorem dX1_roughnessAt_52 : decode cX1_roughnessAt 52 = .ok (.iadd, 1) := by decide +kernel
theorem dX1_roughnessAt_53 : decode cX1_roughnessAt 53 = .ok (.invokevirtual 79, 3) := by decide +kernel
theorem dX1_roughnessAt_56 : decode cX1_roughnessAt 56 = .ok (.iadd, 1) := by decide +kernel
theorem dX1_roughnessAt_57 : decode cX1_roughnessAt 57 = .ok (.istore_n 2, 1) := by decide +kernel
theorem dX1_roughnessAt_58 : decode cX1_roughnessAt 58 = .ok (.iload_n 2, 1) := by decide +kernel
theorem dX1_roughnessAt_59 : decode cX1_roughnessAt 59 = .ok (.aload_n 0, 1) := by decide +kernel
theorem dX1_roughnessAt_60 : decode cX1_roughnessAt 60 = .ok (.iload_n 1, 1) := by decide +kernel
theorem dX1_roughnessAt_61 : decode cX1_roughnessAt 61 = .ok (.iload_n 1, 1) := by decide +kernel
theorem dX1_roughnessAt_62 : decode cX1_roughnessAt 62 = .ok (.aload_n 0, 1) := by decide +kernel
theorem dX1_roughnessAt_63 : decode cX1_roughnessAt 63 = .ok (.getfield 25, 3) := by decide +kernel
theorem dX1_roughnessAt_66 : decode cX1_roughnessAt 66 = .ok (.isub, 1) := by decide +kernel
theorem dX1_roughnessAt_67 : decode cX1_roughnessAt 67 = .ok (.invokevirtual 79, 3) := by decide +kernel
theorem dX1_roughnessAt_70 : decode cX1_roughnessAt 70 = .ok (.iadd, 1) := by decide +kernel
theorem dX1_roughnessAt_71 : decode cX1_roughnessAt 71 = .ok (.aload_n 0, 1) := by decide +kernel
theorem dX1_roughnessAt_72 : decode cX1_roughnessAt 72 = .ok (.iload_n 1, 1) := by decide +kernel
theorem dX1_roughnessAt_73 : decode cX1_roughnessAt 73 = .ok (.iload_n 1, 1) := by decide +kernel
theorem dX1_roughnessAt_74 : decode cX1_roughnessAt 74 = .ok (.aload_n 0, 1) := by decide +kernel
theorem dX1_roughnessAt_75 : decode cX1_roughnessAt 75 = .ok (.getfield 25, 3) := by decide +kernel
theorem dX1_roughnessAt_78 : decode cX1_roughnessAt 78 = .ok (.iadd, 1) := by decide +kernel
theorem dX1_roughnessAt_79 : decode cX1_roughnessAt 79 = .ok (.invokevirtual 79, 3) := by decide +kernel
theorem dX1_roughnessAt_82 : decode cX1_roughnessAt 82 = .ok (.iadd, 1) := by decide +kernel
theorem dX1_roughnessAt_83 : decode cX1_roughnessAt 83 = .ok (.ireturn, 1) := by decide +kernel
theorem dX1_gapBetween_0 : decode cX1_gapBetween 0 = .ok (.aload_n 0, 1) := by decide +kernel
theorem dX1_gapBetween_1 : decode cX1_gapBetween 1 = .ok (.iload_n 1, 1) := by decide +kernel
theorem dX1_gapBetween_2 : decode cX1_gapBetween 2 = .ok (.invokevirtual 62, 3) := by decide +kernel
theorem dX1_gapBetween_5 : decode cX1_gapBetween 5 = .ok (.ifCond .eq 30, 3) := by decide +kernel
theorem dX1_gapBetween_8 : decode cX1_gapBetween 8 = .ok (.aload_n 0, 1) := by decide +kernel
theorem dX1_gapBetween_9 : decode cX1_gapBetween 9 = .ok (.iload_n 2, 1) := by decide +kernel
theorem dX1_gapBetween_10 : decode cX1_gapBetween 10 = .ok (.invokevirtual 62, 3) := by decide +kernel
theorem dX1_gapBetween_13 : decode cX1_gapBetween 13 = .ok (.ifCond .eq 22, 3) := by decide +kernel
theorem dX1_gapBetween_16 : decode cX1_gapBetween 16 = .ok (.aload_n 0, 1) := by decide +kernel
theorem dX1_gapBetween_17 : decode cX1_gapBetween 17 = .ok (.getfield 9, 3) := by decide +kernel
theorem dX1_gapBetween_20 : decode cX1_gapBetween 20 = .ok (.iload_n 1, 1) := by decide +kernel
theorem dX1_gapBetween_21 : decode cX1_gapBetween 21 = .ok (.iaload, 1) := by decide +kernel
theorem dX1_gapBetween_22 : decode cX1_gapBetween 22 = .ok (.aload_n 0, 1) := by decide +kernel
theorem dX1_gapBetween_23 : decode cX1_gapBetween 23 = .ok (.getfield 9, 3) := by decide +kernel
theorem dX1_gapBetween_26 : decode cX1_gapBetween 26 = .ok (.iload_n 2, 1) := by decide +kernel
theorem dX1_gapBetween_27 : decode cX1_gapBetween 27 = .ok (.iaload, 1) := by decide +kernel
theorem dX1_gapBetween_28 : decode cX1_gapBetween 28 = .ok (.isub, 1) := by decide +kernel
theorem dX1_gapBetween_29 : decode cX1_gapBetween 29 = .ok (.invokestatic 82, 3) := by decide +kernel
theorem dX1_gapBetween_32 : decode cX1_gapBetween 32 = .ok (.goto 4, 3) := by decide +kernel
theorem dX1_gapBetween_35 : decode cX1_gapBetween 35 = .ok (.iconst 0, 1) := by decide +kernel
theorem dX1_gapBetween_36 : decode cX1_gapBetween 36 = .ok (.ireturn, 1) := by decide +kernel
theorem dX1_tellPlace_0 : decode cX1_tellPlace 0 = .ok (.iload_n 2, 1) := by decide +kernel
theorem dX1_tellPlace_1 : decode cX1_tellPlace 1 = .ok (.tableswitch 55 0 3 #[31, 37, 43, 49], 31) := by decide +kernel
theorem dX1_tellPlace_32 : decode cX1_tellPlace 32 = .ok (.aload_n 0, 1) := by decide +kernel
theorem dX1_tellPlace_33 : decode cX1_tellPlace 33 = .ok (.iload_n 1, 1) := by decide +kernel
theorem dX1_tellPlace_34 : decode cX1_tellPlace 34 = .ok (.invokevirtual 66, 3) := by decide +kernel
theorem dX1_tellPlace_37 : decode cX1_tellPlace 37 = .ok (.ireturn, 1) := by decide +kernel
theorem dX1_tellPlace_38 : decode cX1_tellPlace 38 = .ok (.aload_n 0, 1) := by decide +kernel
theorem dX1_tellPlace_39 : decode cX1_tellPlace 39 = .ok (.iload_n 1, 1) := by decide +kernel
theorem dX1_tellPlace_40 : decode cX1_tellPlace 40 = .ok (.invokevirtual 85, 3) := by decide +kernel
theorem dX1_tellPlace_43 : decode cX1_tellPlace 43 = .ok (.ireturn, 1) := by decide +kernel
theorem dX1_tellPlace_44 : decode cX1_tellPlace 44 = .ok (.aload_n 0, 1) := by decide +kernel
theorem dX1_tellPlace_45 : decode cX1_tellPlace 45 = .ok (.iload_n 1, 1) := by decide +kernel
theorem dX1_tellPlace_46 : decode cX1_tellPlace 46 = .ok (.invokevirtual 88, 3) := by decide +kernel
theorem dX1_tellPlace_49 : decode cX1_tellPlace 49 = .ok (.ireturn, 1) := by decide +kernel
theorem dX1_tellPlace_50 : decode cX1_tellPlace 50 = .ok (.aload_n 0, 1) := by decide +kernel
theorem dX1_tellPlace_51 : decode cX1_tellPlace 51 = .ok (.iload_n 1, 1) := by decide +kernel
theorem dX1_tellPlace_52 : decode cX1_tellPlace 52 = .ok (.invokevirtual 91, 3) := by decide +kernel
theorem dX1_tellPlace_55 : decode cX1_tellPlace 55 = .ok (.ireturn, 1) := by decide +kernel
theorem dX1_tellPlace_56 : decode cX1_tellPlace 56 = .ok (.aload_n 0, 1) := by decide +kernel
theorem dX1_tellPlace_57 : decode cX1_tellPlace 57 = .ok (.iload_n 1, 1) := by decide +kernel
theorem dX1_tellPlace_58 : decode cX1_tellPlace 58 = .ok (.invokevirtual 73, 3) := by decide +kernel
theorem dX1_tellPlace_61 : decode cX1_tellPlace 61 = .ok (.ifCond .eq 7, 3) := by decide +kernel
theorem dX1_tellPlace_64 : decode cX1_tellPlace 64 = .ok (.iconst 1, 1) := by decide +kernel
theorem dX1_tellPlace_65 : decode cX1_tellPlace 65 = .ok (.goto 4, 3) := by decide +kernel
theorem dX1_tellPlace_68 : decode cX1_tellPlace 68 = .ok (.iconst 0, 1) := by decide +kernel
theorem dX1_tellPlace_69 : decode cX1_tellPlace 69 = .ok (.ireturn, 1) := by decide +kernel
theorem dX1_countLines_0 : decode cX1_countLines 0 = .ok (.aload_n 0, 1) := by decide +kernel
theorem dX1_countLines_1 : decode cX1_countLines 1 = .ok (.getfield 25, 3) := by decide +kernel
theorem dX1_countLines_4 : decode cX1_countLines 4 = .ok (.iconst 1, 1) := by decide +kernel
theorem dX1_countLines_5 : decode cX1_countLines 5 = .ok (.if_icmp .ge 7, 3) := by decide +kernel
theorem dX1_countLines_8 : decode cX1_countLines 8 = .ok (.iconst 0, 1) := by decide +kernel
theorem dX1_countLines_9 : decode cX1_countLines 9 = .ok (.goto 19, 3) := by decide +kernel
theorem dX1_countLines_12 : decode cX1_countLines 12 = .ok (.aload_n 0, 1) := by decide +kernel
theorem dX1_countLines_13 : decode cX1_countLines 13 = .ok (.getfield 22, 3) := by decide +kernel
theorem dX1_countLines_16 : decode cX1_countLines 16 = .ok (.aload_n 0, 1) := by decide +kernel
theorem dX1_countLines_17 : decode cX1_countLines 17 = .ok (.getfield 25, 3) := by decide +kernel
theorem dX1_countLines_20 : decode cX1_countLines 20 = .ok (.iadd, 1) := by decide +kernel
theorem dX1_countLines_21 : decode cX1_countLines 21 = .ok (.iconst 1, 1) := by decide +kernel
theorem dX1_countLines_22 : decode cX1_countLines 22 = .ok (.isub, 1) := by decide +kernel
theorem dX1_countLines_23 : decode cX1_countLines 23 = .ok (.aload_n 0, 1) := by decide +kernel
theorem dX1_countLines_24 : decode cX1_countLines 24 = .ok (.getfield 25, 3) := by decide +kernel
theorem dX1_countLines_27 : decode cX1_countLines 27 = .ok (.idiv, 1) := by decide +kernel
theorem dX1_countLines_28 : decode cX1_countLines 28 = .ok (.ireturn, 1) := by decide +kernel
theorem dX1_countBright_0 : decode cX1_countBright 0 = .ok (.iconst 0, 1) := by decide +kernel
theorem dX1_countBright_1 : decode cX1_countBright 1 = .ok (.istore_n 1, 1) := by decide +kernel
theorem dX1_countBright_2 : decode cX1_countBright 2 = .ok (.iconst 0, 1) := by decide +kernel
theorem dX1_countBright_3 : decode cX1_countBright 3 = .ok (.istore_n 2, 1) := by decide +kernel
theorem dX1_countBright_4 : decode cX1_countBright 4 = .ok (.iload_n 2, 1) := by decide +kernel
theorem dX1_countBright_5 : decode cX1_countBright 5 = .ok (.aload_n 0, 1) := by decide +kernel
theorem dX1_countBright_6 : decode cX1_countBright 6 = .ok (.getfield 22, 3) := by decide +kernel
theorem dX1_countBright_9 : decode cX1_countBright 9 = .ok (.if_icmp .ge 23, 3) := by decide +kernel
theorem dX1_countBright_12 : decode cX1_countBright 12 = .ok (.aload_n 0, 1) := by decide +kernel
theorem dX1_countBright_13 : decode cX1_countBright 13 = .ok (.getfield 9, 3) := by decide +kernel
theorem dX1_countBright_16 : decode cX1_countBright 16 = .ok (.iload_n 2, 1) := by decide +kernel
theorem dX1_countBright_17 : decode cX1_countBright 17 = .ok (.iaload, 1) := by decide +kernel
theorem dX1_countBright_18 : decode cX1_countBright 18 = .ok (.bipush 127, 2) := by decide +kernel
theorem dX1_countBright_20 : decode cX1_countBright 20 = .ok (.if_icmp .le 6, 3) := by decide +kernel
theorem dX1_countBright_23 : decode cX1_countBright 23 = .ok (.iinc 1 1, 3) := by decide +kernel
theorem dX1_countBright_26 : decode cX1_countBright 26 = .ok (.iinc 2 1, 3) := by decide +kernel
theorem dX1_countBright_29 : decode cX1_countBright 29 = .ok (.goto (-25), 3) := by decide +kernel
theorem dX1_countBright_32 : decode cX1_countBright 32 = .ok (.iload_n 1, 1) := by decide +kernel
theorem dX1_countBright_33 : decode cX1_countBright 33 = .ok (.ireturn, 1) := by decide +kernel
theorem dX1_countChoices_0 : decode cX1_countChoices 0 = .ok (.iconst 0, 1) := by decide +kernel
theorem dX1_countChoices_1 : decode cX1_countChoices 1 = .ok (.istore_n 1, 1) := by decide +kernel
theorem dX1_countChoices_2 : decode cX1_countChoices 2 = .ok (.iconst 0, 1) := by decide +kernel
theorem dX1_countChoices_3 : decode cX1_countChoices 3 = .ok (.istore_n 2, 1) := by decide +kernel
theorem dX1_countChoices_4 : decode cX1_countChoices 4 = .ok (.iload_n 2, 1) := by decide +kernel
theorem dX1_countChoices_5 : decode cX1_countChoices 5 = .ok (.aload_n 0, 1) := by decide +kernel
theorem dX1_countChoices_6 : decode cX1_countChoices 6 = .ok (.getfield 22, 3) := by decide +kernel
theorem dX1_countChoices_9 : decode cX1_countChoices 9 = .ok (.if_icmp .ge 18, 3) := by decide +kernel
theorem dX1_countChoices_12 : decode cX1_countChoices 12 = .ok (.iload_n 1, 1) := by decide +kernel
theorem dX1_countChoices_13 : decode cX1_countChoices 13 = .ok (.aload_n 0, 1) := by decide +kernel
theorem dX1_countChoices_14 : decode cX1_countChoices 14 = .ok (.getfield 15, 3) := by decide +kernel
theorem dX1_countChoices_17 : decode cX1_countChoices 17 = .ok (.iload_n 2, 1) := by decide +kernel
theorem dX1_countChoices_18 : decode cX1_countChoices 18 = .ok (.iaload, 1) := by decide +kernel
theorem dX1_countChoices_19 : decode cX1_countChoices 19 = .ok (.iadd, 1) := by decide +kernel
theorem dX1_countChoices_20 : decode cX1_countChoices 20 = .ok (.istore_n 1, 1) := by decide +kernel
theorem dX1_countChoices_21 : decode cX1_countChoices 21 = .ok (.iinc 2 1, 3) := by decide +kernel
theorem dX1_countChoices_24 : decode cX1_countChoices 24 = .ok (.goto (-20), 3) := by decide +kernel
theorem dX1_countChoices_27 : decode cX1_countChoices 27 = .ok (.iload_n 1, 1) := by decide +kernel
theorem dX1_countChoices_28 : decode cX1_countChoices 28 = .ok (.ireturn, 1) := by decide +kernel
theorem dX1_countFalls_0 : decode cX1_countFalls 0 = .ok (.iconst 0, 1) := by decide +kernel
theorem dX1_countFalls_1 : decode cX1_countFalls 1 = .ok (.istore_n 1, 1) := by decide +kernel
theorem dX1_countFalls_2 : decode cX1_countFalls 2 = .ok (.iconst 1, 1) := by decide +kernel
theorem dX1_countFalls_3 : decode cX1_countFalls 3 = .ok (.istore_n 2, 1) := by decide +kernel
theorem dX1_countFalls_4 : decode cX1_countFalls 4 = .ok (.iload_n 2, 1) := by decide +kernel
theorem dX1_countFalls_5 : decode cX1_countFalls 5 = .ok (.aload_n 0, 1) := by decide +kernel
theorem dX1_countFalls_6 : decode cX1_countFalls 6 = .ok (.getfield 22, 3) := by decide +kernel
theorem dX1_countFalls_9 : decode cX1_countFalls 9 = .ok (.if_icmp .ge 29, 3) := by decide +kernel
theorem dX1_countFalls_12 : decode cX1_countFalls 12 = .ok (.aload_n 0, 1) := by decide +kernel
theorem dX1_countFalls_13 : decode cX1_countFalls 13 = .ok (.getfield 9, 3) := by decide +kernel
theorem dX1_countFalls_16 : decode cX1_countFalls 16 = .ok (.iload_n 2, 1) := by decide +kernel
theorem dX1_countFalls_17 : decode cX1_countFalls 17 = .ok (.iaload, 1) := by decide +kernel
theorem dX1_countFalls_18 : decode cX1_countFalls 18 = .ok (.aload_n 0, 1) := by decide +kernel
theorem dX1_countFalls_19 : decode cX1_countFalls 19 = .ok (.getfield 9, 3) := by decide +kernel
theorem dX1_countFalls_22 : decode cX1_countFalls 22 = .ok (.iload_n 2, 1) := by decide +kernel
theorem dX1_countFalls_23 : decode cX1_countFalls 23 = .ok (.iconst 1, 1) := by decide +kernel
theorem dX1_countFalls_24 : decode cX1_countFalls 24 = .ok (.isub, 1) := by decide +kernel
theorem dX1_countFalls_25 : decode cX1_countFalls 25 = .ok (.iaload, 1) := by decide +kernel
theorem dX1_countFalls_26 : decode cX1_countFalls 26 = .ok (.if_icmp .ge 6, 3) := by decide +kernel
theorem dX1_countFalls_29 : decode cX1_countFalls 29 = .ok (.iinc 1 1, 3) := by decide +kernel
theorem dX1_countFalls_32 : decode cX1_countFalls 32 = .ok (.iinc 2 1, 3) := by decide +kernel
theorem dX1_countFalls_35 : decode cX1_countFalls 35 = .ok (.goto (-31), 3) := by decide +kernel
theorem dX1_countFalls_38 : decode cX1_countFalls 38 = .ok (.iload_n 1, 1) := by decide +kernel
theorem dX1_countFalls_39 : decode cX1_countFalls 39 = .ok (.ireturn, 1) := by decide +kernel
theorem dX1_totalOfDots_0 : decode cX1_totalOfDots 0 = .ok (.iconst 0, 1) := by decide +kernel
theorem dX1_totalOfDots_1 : decode cX1_totalOfDots 1 = .ok (.istore_n 1, 1) := by decide +kernel
theorem dX1_totalOfDots_2 : decode cX1_totalOfDots 2 = .ok (.iconst 0, 1) := by decide +kernel
theorem dX1_totalOfDots_3 : decode cX1_totalOfDots 3 = .ok (.istore_n 2, 1) := by decide +kernel
theorem dX1_totalOfDots_4 : decode cX1_totalOfDots 4 = .ok (.iload_n 2, 1) := by decide +kernel
theorem dX1_totalOfDots_5 : decode cX1_totalOfDots 5 = .ok (.aload_n 0, 1) := by decide +kernel
theorem dX1_totalOfDots_6 : decode cX1_totalOfDots 6 = .ok (.getfield 22, 3) := by decide +kernel
theorem dX1_totalOfDots_9 : decode cX1_totalOfDots 9 = .ok (.if_icmp .ge 18, 3) := by decide +kernel
theorem dX1_totalOfDots_12 : decode cX1_totalOfDots 12 = .ok (.iload_n 1, 1) := by decide +kernel
theorem dX1_totalOfDots_13 : decode cX1_totalOfDots 13 = .ok (.aload_n 0, 1) := by decide +kernel
theorem dX1_totalOfDots_14 : decode cX1_totalOfDots 14 = .ok (.getfield 9, 3) := by decide +kernel
theorem dX1_totalOfDots_17 : decode cX1_totalOfDots 17 = .ok (.iload_n 2, 1) := by decide +kernel
theorem dX1_totalOfDots_18 : decode cX1_totalOfDots 18 = .ok (.iaload, 1) := by decide +kernel
theorem dX1_totalOfDots_19 : decode cX1_totalOfDots 19 = .ok (.iadd, 1) := by decide +kernel
theorem dX1_totalOfDots_20 : decode cX1_totalOfDots 20 = .ok (.istore_n 1, 1) := by decide +kernel
theorem dX1_totalOfDots_21 : decode cX1_totalOfDots 21 = .ok (.iinc 2 1, 3) := by decide +kernel
theorem dX1_totalOfDots_24 : decode cX1_totalOfDots 24 = .ok (.goto (-20), 3) := by decide +kernel
theorem dX1_totalOfDots_27 : decode cX1_totalOfDots 27 = .ok (.iload_n 1, 1) := by decide +kernel
theorem dX1_totalOfDots_28 : decode cX1_totalOfDots 28 = .ok (.ireturn, 1) := by decide +kernel
theorem dX1_countInto_0 : decode cX1_countInto 0 = .ok (.aload_n 1, 1) := by decide +kernel
theorem dX1_countInto_1 : decode cX1_countInto 1 = .ok (.bipush 8, 2) := by decide +kernel
theorem dX1_countInto_3 : decode cX1_countInto 3 = .ok (.iconst 0, 1) := by decide +kernel
theorem dX1_countInto_4 : decode cX1_countInto 4 = .ok (.invokevirtual 94, 3) := by decide +kernel
theorem dX1_countInto_7 : decode cX1_countInto 7 = .ok (.iconst 0, 1) := by decide +kernel
theorem dX1_countInto_8 : decode cX1_countInto 8 = .ok (.istore_n 2, 1) := by decide +kernel
theorem dX1_countInto_9 : decode cX1_countInto 9 = .ok (.iload_n 2, 1) := by decide +kernel
theorem dX1_countInto_10 : decode cX1_countInto 10 = .ok (.aload_n 0, 1) := by decide +kernel
theorem dX1_countInto_11 : decode cX1_countInto 11 = .ok (.getfield 22, 3) := by decide +kernel
theorem dX1_countInto_14 : decode cX1_countInto 14 = .ok (.if_icmp .ge 31, 3) := by decide +kernel
theorem dX1_countInto_17 : decode cX1_countInto 17 = .ok (.aload_n 0, 1) := by decide +kernel
theorem dX1_countInto_18 : decode cX1_countInto 18 = .ok (.getfield 9, 3) := by decide +kernel
theorem dX1_countInto_21 : decode cX1_countInto 21 = .ok (.iload_n 2, 1) := by decide +kernel
theorem dX1_countInto_22 : decode cX1_countInto 22 = .ok (.iaload, 1) := by decide +kernel
theorem dX1_countInto_23 : decode cX1_countInto 23 = .ok (.bipush 7, 2) := by decide +kernel
theorem dX1_countInto_25 : decode cX1_countInto 25 = .ok (.iand, 1) := by decide +kernel
theorem dX1_countInto_26 : decode cX1_countInto 26 = .ok (.istore_n 3, 1) := by decide +kernel
theorem dX1_countInto_27 : decode cX1_countInto 27 = .ok (.aload_n 1, 1) := by decide +kernel
theorem dX1_countInto_28 : decode cX1_countInto 28 = .ok (.iload_n 3, 1) := by decide +kernel
theorem dX1_countInto_29 : decode cX1_countInto 29 = .ok (.aload_n 1, 1) := by decide +kernel
theorem dX1_countInto_30 : decode cX1_countInto 30 = .ok (.iload_n 3, 1) := by decide +kernel
theorem dX1_countInto_31 : decode cX1_countInto 31 = .ok (.invokevirtual 98, 3) := by decide +kernel
theorem dX1_countInto_34 : decode cX1_countInto 34 = .ok (.iconst 1, 1) := by decide +kernel
theorem dX1_countInto_35 : decode cX1_countInto 35 = .ok (.iadd, 1) := by decide +kernel
theorem dX1_countInto_36 : decode cX1_countInto 36 = .ok (.invokevirtual 101, 3) := by decide +kernel
theorem dX1_countInto_39 : decode cX1_countInto 39 = .ok (.iinc 2 1, 3) := by decide +kernel
theorem dX1_countInto_42 : decode cX1_countInto 42 = .ok (.goto (-33), 3) := by decide +kernel
theorem dX1_countInto_45 : decode cX1_countInto 45 = .ok (.return_, 1) := by decide +kernel
theorem dX1_isFirstOfPair_0 : decode cX1_isFirstOfPair 0 = .ok (.iconst 0, 1) := by decide +kernel
theorem dX1_isFirstOfPair_1 : decode cX1_isFirstOfPair 1 = .ok (.istore_n 2, 1) := by decide +kernel
theorem dX1_isFirstOfPair_2 : decode cX1_isFirstOfPair 2 = .ok (.iload_n 2, 1) := by decide +kernel
theorem dX1_isFirstOfPair_3 : decode cX1_isFirstOfPair 3 = .ok (.iload_n 1, 1) := by decide +kernel
theorem dX1_isFirstOfPair_4 : decode cX1_isFirstOfPair 4 = .ok (.if_icmp .ge 28, 3) := by decide +kernel
theorem dX1_isFirstOfPair_7 : decode cX1_isFirstOfPair 7 = .ok (.aload_n 0, 1) := by decide +kernel
theorem dX1_isFirstOfPair_8 : decode cX1_isFirstOfPair 8 = .ok (.iload_n 2, 1) := by decide +kernel
theorem dX1_isFirstOfPair_9 : decode cX1_isFirstOfPair 9 = .ok (.invokevirtual 66, 3) := by decide +kernel
theorem dX1_isFirstOfPair_12 : decode cX1_isFirstOfPair 12 = .ok (.iconst 1, 1) := by decide +kernel
theorem dX1_isFirstOfPair_13 : decode cX1_isFirstOfPair 13 = .ok (.ishr, 1) := by decide +kernel
theorem dX1_isFirstOfPair_14 : decode cX1_isFirstOfPair 14 = .ok (.aload_n 0, 1) := by decide +kernel
theorem dX1_isFirstOfPair_15 : decode cX1_isFirstOfPair 15 = .ok (.iload_n 1, 1) := by decide +kernel
theorem dX1_isFirstOfPair_16 : decode cX1_isFirstOfPair 16 = .ok (.invokevirtual 66, 3) := by decide +kernel
theorem dX1_isFirstOfPair_19 : decode cX1_isFirstOfPair 19 = .ok (.iconst 1, 1) := by decide +kernel
theorem dX1_isFirstOfPair_20 : decode cX1_isFirstOfPair 20 = .ok (.ishr, 1) := by decide +kernel
theorem dX1_isFirstOfPair_21 : decode cX1_isFirstOfPair 21 = .ok (.if_icmp .ne 5, 3) := by decide +kernel
theorem dX1_isFirstOfPair_24 : decode cX1_isFirstOfPair 24 = .ok (.iconst 0, 1) := by decide +kernel
theorem dX1_isFirstOfPair_25 : decode cX1_isFirstOfPair 25 = .ok (.ireturn, 1) := by decide +kernel
theorem dX1_isFirstOfPair_26 : decode cX1_isFirstOfPair 26 = .ok (.iinc 2 1, 3) := by decide +kernel
theorem dX1_isFirstOfPair_29 : decode cX1_isFirstOfPair 29 = .ok (.goto (-27), 3) := by decide +kernel
theorem dX1_isFirstOfPair_32 : decode cX1_isFirstOfPair 32 = .ok (.iconst 1, 1) := by decide +kernel
theorem dX1_isFirstOfPair_33 : decode cX1_isFirstOfPair 33 = .ok (.ireturn, 1) := by decide +kernel
theorem dX1_countDot_0 : decode cX1_countDot 0 = .ok (.iconst 0, 1) := by decide +kernel
theorem dX1_countDot_1 : decode cX1_countDot 1 = .ok (.istore_n 2, 1) := by decide +kernel
theorem dX1_countDot_2 : decode cX1_countDot 2 = .ok (.iconst 0, 1) := by decide +kernel
theorem dX1_countDot_3 : decode cX1_countDot 3 = .ok (.istore_n 3, 1) := by decide +kernel
theorem dX1_countDot_4 : decode cX1_countDot 4 = .ok (.iload_n 3, 1) := by decide +kernel
theorem dX1_countDot_5 : decode cX1_countDot 5 = .ok (.aload_n 0, 1) := by decide +kernel
theorem dX1_countDot_6 : decode cX1_countDot 6 = .ok (.getfield 22, 3) := by decide +kernel
theorem dX1_countDot_9 : decode cX1_countDot 9 = .ok (.if_icmp .ge 22, 3) := by decide +kernel
theorem dX1_countDot_12 : decode cX1_countDot 12 = .ok (.aload_n 0, 1) := by decide +kernel
theorem dX1_countDot_13 : decode cX1_countDot 13 = .ok (.getfield 9, 3) := by decide +kernel
theorem dX1_countDot_16 : decode cX1_countDot 16 = .ok (.iload_n 3, 1) := by decide +kernel
theorem dX1_countDot_17 : decode cX1_countDot 17 = .ok (.iaload, 1) := by decide +kernel
theorem dX1_countDot_18 : decode cX1_countDot 18 = .ok (.iload_n 1, 1) := by decide +kernel
theorem dX1_countDot_19 : decode cX1_countDot 19 = .ok (.if_icmp .ne 6, 3) := by decide +kernel
theorem dX1_countDot_22 : decode cX1_countDot 22 = .ok (.iinc 2 1, 3) := by decide +kernel
theorem dX1_countDot_25 : decode cX1_countDot 25 = .ok (.iinc 3 1, 3) := by decide +kernel
theorem dX1_countDot_28 : decode cX1_countDot 28 = .ok (.goto (-24), 3) := by decide +kernel
theorem dX1_countDot_31 : decode cX1_countDot 31 = .ok (.iload_n 2, 1) := by decide +kernel
theorem dX1_countDot_32 : decode cX1_countDot 32 = .ok (.ireturn, 1) := by decide +kernel
theorem dX1_countLessBehind_0 : decode cX1_countLessBehind 0 = .ok (.iconst 0, 1) := by decide +kernel
theorem dX1_countLessBehind_1 : decode cX1_countLessBehind 1 = .ok (.istore_n 2, 1) := by decide +kernel
theorem dX1_countLessBehind_2 : decode cX1_countLessBehind 2 = .ok (.iload_n 1, 1) := by decide +kernel
theorem dX1_countLessBehind_3 : decode cX1_countLessBehind 3 = .ok (.iconst 1, 1) := by decide +kernel
theorem dX1_countLessBehind_4 : decode cX1_countLessBehind 4 = .ok (.iadd, 1) := by decide +kernel
theorem dX1_countLessBehind_5 : decode cX1_countLessBehind 5 = .ok (.istore_n 3, 1) := by decide +kernel
theorem dX1_countLessBehind_6 : decode cX1_countLessBehind 6 = .ok (.iload_n 3, 1) := by decide +kernel
theorem dX1_countLessBehind_7 : decode cX1_countLessBehind 7 = .ok (.aload_n 0, 1) := by decide +kernel
theorem dX1_countLessBehind_8 : decode cX1_countLessBehind 8 = .ok (.getfield 22, 3) := by decide +kernel
theorem dX1_countLessBehind_11 : decode cX1_countLessBehind 11 = .ok (.if_icmp .ge 25, 3) := by decide +kernel
theorem dX1_countLessBehind_14 : decode cX1_countLessBehind 14 = .ok (.aload_n 0, 1) := by decide +kernel
theorem dX1_countLessBehind_15 : decode cX1_countLessBehind 15 = .ok (.iload_n 3, 1) := by decide +kernel
theorem dX1_countLessBehind_16 : decode cX1_countLessBehind 16 = .ok (.invokevirtual 66, 3) := by decide +kernel
theorem dX1_countLessBehind_19 : decode cX1_countLessBehind 19 = .ok (.aload_n 0, 1) := by decide +kernel
theorem dX1_countLessBehind_20 : decode cX1_countLessBehind 20 = .ok (.iload_n 1, 1) := by decide +kernel
theorem dX1_countLessBehind_21 : decode cX1_countLessBehind 21 = .ok (.invokevirtual 66, 3) := by decide +kernel
theorem dX1_countLessBehind_24 : decode cX1_countLessBehind 24 = .ok (.if_icmp .ge 6, 3) := by decide +kernel
theorem dX1_countLessBehind_27 : decode cX1_countLessBehind 27 = .ok (.iinc 2 1, 3) := by decide +kernel
theorem dX1_countLessBehind_30 : decode cX1_countLessBehind 30 = .ok (.iinc 3 1, 3) := by decide +kernel
theorem dX1_countLessBehind_33 : decode cX1_countLessBehind 33 = .ok (.goto (-27), 3) := by decide +kernel
theorem dX1_countLessBehind_36 : decode cX1_countLessBehind 36 = .ok (.iload_n 2, 1) := by decide +kernel
theorem dX1_countLessBehind_37 : decode cX1_countLessBehind 37 = .ok (.ireturn, 1) := by decide +kernel
theorem dX1_sort_0 : decode cX1_sort 0 = .ok (.iconst 1, 1) := by decide +kernel
theorem dX1_sort_1 : decode cX1_sort 1 = .ok (.istore_n 1, 1) := by decide +kernel
theorem dX1_sort_2 : decode cX1_sort 2 = .ok (.iload_n 1, 1) := by decide +kernel
theorem dX1_sort_3 : decode cX1_sort 3 = .ok (.aload_n 0, 1) := by decide +kernel
theorem dX1_sort_4 : decode cX1_sort 4 = .ok (.getfield 22, 3) := by decide +kernel
theorem dX1_sort_7 : decode cX1_sort 7 = .ok (.if_icmp .ge 52, 3) := by decide +kernel
theorem dX1_sort_10 : decode cX1_sort 10 = .ok (.iload_n 1, 1) := by decide +kernel
theorem dX1_sort_11 : decode cX1_sort 11 = .ok (.istore_n 2, 1) := by decide +kernel
theorem dX1_sort_12 : decode cX1_sort 12 = .ok (.iconst 0, 1) := by decide +kernel
theorem dX1_sort_13 : decode cX1_sort 13 = .ok (.istore_n 3, 1) := by decide +kernel
theorem dX1_sort_14 : decode cX1_sort 14 = .ok (.iload_n 3, 1) := by decide +kernel
theorem dX1_sort_15 : decode cX1_sort 15 = .ok (.iload_n 1, 1) := by decide +kernel
theorem dX1_sort_16 : decode cX1_sort 16 = .ok (.if_icmp .ge 31, 3) := by decide +kernel
theorem dX1_sort_19 : decode cX1_sort 19 = .ok (.iload_n 2, 1) := by decide +kernel
theorem dX1_sort_20 : decode cX1_sort 20 = .ok (.iload_n 1, 1) := by decide +kernel
theorem dX1_sort_21 : decode cX1_sort 21 = .ok (.if_icmp .ne 26, 3) := by decide +kernel
theorem dX1_sort_24 : decode cX1_sort 24 = .ok (.aload_n 0, 1) := by decide +kernel
theorem dX1_sort_25 : decode cX1_sort 25 = .ok (.getfield 9, 3) := by decide +kernel
theorem dX1_sort_28 : decode cX1_sort 28 = .ok (.iload_n 3, 1) := by decide +kernel
theorem dX1_sort_29 : decode cX1_sort 29 = .ok (.iaload, 1) := by decide +kernel
theorem dX1_sort_30 : decode cX1_sort 30 = .ok (.aload_n 0, 1) := by decide +kernel
theorem dX1_sort_31 : decode cX1_sort 31 = .ok (.getfield 9, 3) := by decide +kernel
theorem dX1_sort_34 : decode cX1_sort 34 = .ok (.iload_n 1, 1) := by decide +kernel
theorem dX1_sort_35 : decode cX1_sort 35 = .ok (.iaload, 1) := by decide +kernel
theorem dX1_sort_36 : decode cX1_sort 36 = .ok (.if_icmp .le 5, 3) := by decide +kernel
theorem dX1_sort_39 : decode cX1_sort 39 = .ok (.iload_n 3, 1) := by decide +kernel
theorem dX1_sort_40 : decode cX1_sort 40 = .ok (.istore_n 2, 1) := by decide +kernel
theorem dX1_sort_41 : decode cX1_sort 41 = .ok (.iinc 3 1, 3) := by decide +kernel
theorem dX1_sort_44 : decode cX1_sort 44 = .ok (.goto (-30), 3) := by decide +kernel
theorem dX1_sort_47 : decode cX1_sort 47 = .ok (.aload_n 0, 1) := by decide +kernel
theorem dX1_sort_48 : decode cX1_sort 48 = .ok (.iload_n 1, 1) := by decide +kernel
theorem dX1_sort_49 : decode cX1_sort 49 = .ok (.iload_n 2, 1) := by decide +kernel
theorem dX1_sort_50 : decode cX1_sort 50 = .ok (.invokevirtual 104, 3) := by decide +kernel
theorem dX1_sort_53 : decode cX1_sort 53 = .ok (.iinc 1 1, 3) := by decide +kernel
theorem dX1_sort_56 : decode cX1_sort 56 = .ok (.goto (-54), 3) := by decide +kernel
theorem dX1_sort_59 : decode cX1_sort 59 = .ok (.return_, 1) := by decide +kernel
theorem dX1_bringForward_0 : decode cX1_bringForward 0 = .ok (.aload_n 0, 1) := by decide +kernel
theorem dX1_bringForward_1 : decode cX1_bringForward 1 = .ok (.iload_n 1, 1) := by decide +kernel
theorem dX1_bringForward_2 : decode cX1_bringForward 2 = .ok (.invokevirtual 62, 3) := by decide +kernel
theorem dX1_bringForward_5 : decode cX1_bringForward 5 = .ok (.ifCond .eq 16, 3) := by decide +kernel
theorem dX1_bringForward_8 : decode cX1_bringForward 8 = .ok (.aload_n 0, 1) := by decide +kernel
theorem dX1_bringForward_9 : decode cX1_bringForward 9 = .ok (.iload_n 2, 1) := by decide +kernel
theorem dX1_bringForward_10 : decode cX1_bringForward 10 = .ok (.invokevirtual 62, 3) := by decide +kernel
theorem dX1_bringForward_13 : decode cX1_bringForward 13 = .ok (.ifCond .eq 8, 3) := by decide +kernel
theorem dX1_bringForward_16 : decode cX1_bringForward 16 = .ok (.iload_n 2, 1) := by decide +kernel
theorem dX1_bringForward_17 : decode cX1_bringForward 17 = .ok (.iload_n 1, 1) := by decide +kernel
theorem dX1_bringForward_18 : decode cX1_bringForward 18 = .ok (.if_icmp .le 4, 3) := by decide +kernel
theorem dX1_bringForward_21 : decode cX1_bringForward 21 = .ok (.return_, 1) := by decide +kernel
theorem dX1_bringForward_22 : decode cX1_bringForward 22 = .ok (.aload_n 0, 1) := by decide +kernel
theorem dX1_bringForward_23 : decode cX1_bringForward 23 = .ok (.getfield 9, 3) := by decide +kernel
theorem dX1_bringForward_26 : decode cX1_bringForward 26 = .ok (.iload_n 1, 1) := by decide +kernel
theorem dX1_bringForward_27 : decode cX1_bringForward 27 = .ok (.iaload, 1) := by decide +kernel
theorem dX1_bringForward_28 : decode cX1_bringForward 28 = .ok (.istore_n 3, 1) := by decide +kernel
theorem dX1_bringForward_29 : decode cX1_bringForward 29 = .ok (.aload_n 0, 1) := by decide +kernel
theorem dX1_bringForward_30 : decode cX1_bringForward 30 = .ok (.getfield 9, 3) := by decide +kernel
theorem dX1_bringForward_33 : decode cX1_bringForward 33 = .ok (.iload_n 2, 1) := by decide +kernel
theorem dX1_bringForward_34 : decode cX1_bringForward 34 = .ok (.aload_n 0, 1) := by decide +kernel
theorem dX1_bringForward_35 : decode cX1_bringForward 35 = .ok (.getfield 9, 3) := by decide +kernel
theorem dX1_bringForward_38 : decode cX1_bringForward 38 = .ok (.iload_n 2, 1) := by decide +kernel
theorem dX1_bringForward_39 : decode cX1_bringForward 39 = .ok (.iconst 1, 1) := by decide +kernel
theorem dX1_bringForward_40 : decode cX1_bringForward 40 = .ok (.iadd, 1) := by decide +kernel
theorem dX1_bringForward_41 : decode cX1_bringForward 41 = .ok (.iload_n 1, 1) := by decide +kernel
theorem dX1_bringForward_42 : decode cX1_bringForward 42 = .ok (.iload_n 2, 1) := by decide +kernel
theorem dX1_bringForward_43 : decode cX1_bringForward 43 = .ok (.isub, 1) := by decide +kernel
theorem dX1_bringForward_44 : decode cX1_bringForward 44 = .ok (.invokestatic 36, 3) := by decide +kernel
theorem dX1_bringForward_47 : decode cX1_bringForward 47 = .ok (.aload_n 0, 1) := by decide +kernel
theorem dX1_bringForward_48 : decode cX1_bringForward 48 = .ok (.getfield 9, 3) := by decide +kernel
theorem dX1_bringForward_51 : decode cX1_bringForward 51 = .ok (.iload_n 2, 1) := by decide +kernel
theorem dX1_bringForward_52 : decode cX1_bringForward 52 = .ok (.iload_n 3, 1) := by decide +kernel
theorem dX1_bringForward_53 : decode cX1_bringForward 53 = .ok (.iastore, 1) := by decide +kernel
theorem dX1_bringForward_54 : decode cX1_bringForward 54 = .ok (.return_, 1) := by decide +kernel
theorem dX1_digestFrom_0 : decode cX1_digestFrom 0 = .ok (.aload_n 0, 1) := by decide +kernel
theorem dX1_digestFrom_1 : decode cX1_digestFrom 1 = .ok (.invokevirtual 107, 3) := by decide +kernel
theorem dX1_digestFrom_4 : decode cX1_digestFrom 4 = .ok (.ifCond .eq 11, 3) := by decide +kernel
theorem dX1_digestFrom_7 : decode cX1_digestFrom 7 = .ok (.ldc2_w 111, 3) := by decide +kernel
theorem dX1_digestFrom_10 : decode cX1_digestFrom 10 = .ok (.lload_n 1, 1) := by decide +kernel
theorem dX1_digestFrom_11 : decode cX1_digestFrom 11 = .ok (.lmul, 1) := by decide +kernel
theorem dX1_digestFrom_12 : decode cX1_digestFrom 12 = .ok (.lconst 1, 1) := by decide +kernel
theorem dX1_digestFrom_13 : decode cX1_digestFrom 13 = .ok (.lsub, 1) := by decide +kernel
theorem dX1_digestFrom_14 : decode cX1_digestFrom 14 = .ok (.lreturn, 1) := by decide +kernel
theorem dX1_digestFrom_15 : decode cX1_digestFrom 15 = .ok (.ldc2_w 111, 3) := by decide +kernel
theorem dX1_digestFrom_18 : decode cX1_digestFrom 18 = .ok (.ldc2_w 111, 3) := by decide +kernel
theorem dX1_digestFrom_21 : decode cX1_digestFrom 21 = .ok (.lload_n 1, 1) := by decide +kernel
theorem dX1_digestFrom_22 : decode cX1_digestFrom 22 = .ok (.lmul, 1) := by decide +kernel
theorem dX1_digestFrom_23 : decode cX1_digestFrom 23 = .ok (.aload_n 0, 1) := by decide +kernel
theorem dX1_digestFrom_24 : decode cX1_digestFrom 24 = .ok (.getfield 18, 3) := by decide +kernel
theorem dX1_digestFrom_27 : decode cX1_digestFrom 27 = .ok (.i2l, 1) := by decide +kernel
theorem dX1_digestFrom_28 : decode cX1_digestFrom 28 = .ok (.ladd, 1) := by decide +kernel
theorem dX1_digestFrom_29 : decode cX1_digestFrom 29 = .ok (.lmul, 1) := by decide +kernel
theorem dX1_digestFrom_30 : decode cX1_digestFrom 30 = .ok (.aload_n 0, 1) := by decide +kernel
theorem dX1_digestFrom_31 : decode cX1_digestFrom 31 = .ok (.getfield 22, 3) := by decide +kernel
theorem dX1_digestFrom_34 : decode cX1_digestFrom 34 = .ok (.i2l, 1) := by decide +kernel
theorem dX1_digestFrom_35 : decode cX1_digestFrom 35 = .ok (.ladd, 1) := by decide +kernel
theorem dX1_digestFrom_36 : decode cX1_digestFrom 36 = .ok (.lstore_n 3, 1) := by decide +kernel
theorem dX1_digestFrom_37 : decode cX1_digestFrom 37 = .ok (.iconst 0, 1) := by decide +kernel
theorem dX1_digestFrom_38 : decode cX1_digestFrom 38 = .ok (.istore 5, 2) := by decide +kernel
theorem dX1_digestFrom_40 : decode cX1_digestFrom 40 = .ok (.iload 5, 2) := by decide +kernel
theorem dX1_digestFrom_42 : decode cX1_digestFrom 42 = .ok (.aload_n 0, 1) := by decide +kernel
theorem dX1_digestFrom_43 : decode cX1_digestFrom 43 = .ok (.getfield 22, 3) := by decide +kernel
theorem dX1_digestFrom_46 : decode cX1_digestFrom 46 = .ok (.if_icmp .ge 40, 3) := by decide +kernel
theorem dX1_digestFrom_49 : decode cX1_digestFrom 49 = .ok (.iconst 0, 1) := by decide +kernel
theorem dX1_digestFrom_50 : decode cX1_digestFrom 50 = .ok (.istore 6, 2) := by decide +kernel
theorem dX1_digestFrom_52 : decode cX1_digestFrom 52 = .ok (.iload 6, 2) := by decide +kernel
theorem dX1_digestFrom_54 : decode cX1_digestFrom 54 = .ok (.iconst 4, 1) := by decide +kernel
theorem dX1_digestFrom_55 : decode cX1_digestFrom 55 = .ok (.if_icmp .gt 25, 3) := by decide +kernel
theorem dX1_digestFrom_58 : decode cX1_digestFrom 58 = .ok (.ldc2_w 111, 3) := by decide +kernel
theorem dX1_digestFrom_61 : decode cX1_digestFrom 61 = .ok (.lload_n 3, 1) := by decide +kernel
theorem dX1_digestFrom_62 : decode cX1_digestFrom 62 = .ok (.lmul, 1) := by decide +kernel
theorem dX1_digestFrom_63 : decode cX1_digestFrom 63 = .ok (.aload_n 0, 1) := by decide +kernel
theorem dX1_digestFrom_64 : decode cX1_digestFrom 64 = .ok (.iload 5, 2) := by decide +kernel
theorem dX1_digestFrom_66 : decode cX1_digestFrom 66 = .ok (.iload 6, 2) := by decide +kernel
theorem dX1_digestFrom_68 : decode cX1_digestFrom 68 = .ok (.invokevirtual 113, 3) := by decide +kernel
theorem dX1_digestFrom_71 : decode cX1_digestFrom 71 = .ok (.i2l, 1) := by decide +kernel
theorem dX1_digestFrom_72 : decode cX1_digestFrom 72 = .ok (.ladd, 1) := by decide +kernel
theorem dX1_digestFrom_73 : decode cX1_digestFrom 73 = .ok (.lstore_n 3, 1) := by decide +kernel
theorem dX1_digestFrom_74 : decode cX1_digestFrom 74 = .ok (.iinc 6 1, 3) := by decide +kernel
theorem dX1_digestFrom_77 : decode cX1_digestFrom 77 = .ok (.goto (-25), 3) := by decide +kernel
theorem dX1_digestFrom_80 : decode cX1_digestFrom 80 = .ok (.iinc 5 1, 3) := by decide +kernel
theorem dX1_digestFrom_83 : decode cX1_digestFrom 83 = .ok (.goto (-43), 3) := by decide +kernel
theorem dX1_digestFrom_86 : decode cX1_digestFrom 86 = .ok (.lload_n 3, 1) := by decide +kernel
theorem dX1_digestFrom_87 : decode cX1_digestFrom 87 = .ok (.lreturn, 1) := by decide +kernel
theorem dX2_init_0 : decode cX2_init 0 = .ok (.aload_n 0, 1) := by decide +kernel
theorem dX2_init_1 : decode cX2_init 1 = .ok (.invokespecial 1, 3) := by decide +kernel
theorem dX2_init_4 : decode cX2_init 4 = .ok (.aload_n 0, 1) := by decide +kernel
theorem dX2_init_5 : decode cX2_init 5 = .ok (.lconst 0, 1) := by decide +kernel
theorem dX2_init_6 : decode cX2_init 6 = .ok (.putfield 7, 3) := by decide +kernel
theorem dX2_init_9 : decode cX2_init 9 = .ok (.aload_n 0, 1) := by decide +kernel
theorem dX2_init_10 : decode cX2_init 10 = .ok (.lconst 1, 1) := by decide +kernel
theorem dX2_init_11 : decode cX2_init 11 = .ok (.putfield 13, 3) := by decide +kernel
theorem dX2_init_14 : decode cX2_init 14 = .ok (.return_, 1) := by decide +kernel
theorem dX2_become_0 : decode cX2_become 0 = .ok (.lload_n 1, 1) := by decide +kernel
theorem dX2_become_1 : decode cX2_become 1 = .ok (.lload_n 3, 1) := by decide +kernel
theorem dX2_become_2 : decode cX2_become 2 = .ok (.invokestatic 16, 3) := by decide +kernel
theorem dX2_become_5 : decode cX2_become 5 = .ok (.lstore 5, 2) := by decide +kernel
theorem dX2_become_7 : decode cX2_become 7 = .ok (.lload 5, 2) := by decide +kernel
theorem dX2_become_9 : decode cX2_become 9 = .ok (.lconst 1, 1) := by decide +kernel
theorem dX2_become_10 : decode cX2_become 10 = .ok (.lcmp, 1) := by decide +kernel
theorem dX2_become_11 : decode cX2_become 11 = .ok (.ifCond .ge 4, 3) := by decide +kernel
theorem dX2_become_14 : decode cX2_become 14 = .ok (.return_, 1) := by decide +kernel
theorem dX2_become_15 : decode cX2_become 15 = .ok (.aload_n 0, 1) := by decide +kernel
theorem dX2_become_16 : decode cX2_become 16 = .ok (.lload_n 1, 1) := by decide +kernel
theorem dX2_become_17 : decode cX2_become 17 = .ok (.lload 5, 2) := by decide +kernel
theorem dX2_become_19 : decode cX2_become 19 = .ok (.ldiv, 1) := by decide +kernel
theorem dX2_become_20 : decode cX2_become 20 = .ok (.putfield 7, 3) := by decide +kernel
theorem dX2_become_23 : decode cX2_become 23 = .ok (.aload_n 0, 1) := by decide +kernel
theorem dX2_become_24 : decode cX2_become 24 = .ok (.lload_n 3, 1) := by decide +kernel
theorem dX2_become_25 : decode cX2_become 25 = .ok (.lload 5, 2) := by decide +kernel
theorem dX2_become_27 : decode cX2_become 27 = .ok (.ldiv, 1) := by decide +kernel
theorem dX2_become_28 : decode cX2_become 28 = .ok (.putfield 13, 3) := by decide +kernel
theorem dX2_become_31 : decode cX2_become 31 = .ok (.return_, 1) := by decide +kernel
theorem dX2_add_0 : decode cX2_add 0 = .ok (.aload_n 0, 1) := by decide +kernel
theorem dX2_add_1 : decode cX2_add 1 = .ok (.aload_n 0, 1) := by decide +kernel
theorem dX2_add_2 : decode cX2_add 2 = .ok (.getfield 7, 3) := by decide +kernel
theorem dX2_add_5 : decode cX2_add 5 = .ok (.lload_n 3, 1) := by decide +kernel
theorem dX2_add_6 : decode cX2_add 6 = .ok (.lmul, 1) := by decide +kernel
theorem dX2_add_7 : decode cX2_add 7 = .ok (.lload_n 1, 1) := by decide +kernel
theorem dX2_add_8 : decode cX2_add 8 = .ok (.aload_n 0, 1) := by decide +kernel
theorem dX2_add_9 : decode cX2_add 9 = .ok (.getfield 13, 3) := by decide +kernel
theorem dX2_add_12 : decode cX2_add 12 = .ok (.lmul, 1) := by decide +kernel
theorem dX2_add_13 : decode cX2_add 13 = .ok (.ladd, 1) := by decide +kernel
theorem dX2_add_14 : decode cX2_add 14 = .ok (.aload_n 0, 1) := by decide +kernel
theorem dX2_add_15 : decode cX2_add 15 = .ok (.getfield 13, 3) := by decide +kernel
theorem dX2_add_18 : decode cX2_add 18 = .ok (.lload_n 3, 1) := by decide +kernel
theorem dX2_add_19 : decode cX2_add 19 = .ok (.lmul, 1) := by decide +kernel
theorem dX2_add_20 : decode cX2_add 20 = .ok (.invokevirtual 20, 3) := by decide +kernel
theorem dX2_add_23 : decode cX2_add 23 = .ok (.return_, 1) := by decide +kernel
theorem dX2_commonDivisor_0 : decode cX2_commonDivisor 0 = .ok (.lload_n 0, 1) := by decide +kernel
theorem dX2_commonDivisor_1 : decode cX2_commonDivisor 1 = .ok (.lstore 4, 2) := by decide +kernel
theorem dX2_commonDivisor_3 : decode cX2_commonDivisor 3 = .ok (.lload_n 2, 1) := by decide +kernel
theorem dX2_commonDivisor_4 : decode cX2_commonDivisor 4 = .ok (.lstore 6, 2) := by decide +kernel
theorem dX2_commonDivisor_6 : decode cX2_commonDivisor 6 = .ok (.iconst 0, 1) := by decide +kernel
theorem dX2_commonDivisor_7 : decode cX2_commonDivisor 7 = .ok (.istore 8, 2) := by decide +kernel
theorem dX2_commonDivisor_9 : decode cX2_commonDivisor 9 = .ok (.iload 8, 2) := by decide +kernel
theorem dX2_commonDivisor_11 : decode cX2_commonDivisor 11 = .ok (.bipush 100, 2) := by decide +kernel
theorem dX2_commonDivisor_13 : decode cX2_commonDivisor 13 = .ok (.if_icmp .ge 31, 3) := by decide +kernel
theorem dX2_commonDivisor_16 : decode cX2_commonDivisor 16 = .ok (.lload 6, 2) := by decide +kernel
theorem dX2_commonDivisor_18 : decode cX2_commonDivisor 18 = .ok (.lconst 0, 1) := by decide +kernel
theorem dX2_commonDivisor_19 : decode cX2_commonDivisor 19 = .ok (.lcmp, 1) := by decide +kernel
theorem dX2_commonDivisor_20 : decode cX2_commonDivisor 20 = .ok (.ifCond .eq 24, 3) := by decide +kernel
theorem dX2_commonDivisor_23 : decode cX2_commonDivisor 23 = .ok (.lload 4, 2) := by decide +kernel
theorem dX2_commonDivisor_25 : decode cX2_commonDivisor 25 = .ok (.lload 6, 2) := by decide +kernel
theorem dX2_commonDivisor_27 : decode cX2_commonDivisor 27 = .ok (.lrem, 1) := by decide +kernel
theorem dX2_commonDivisor_28 : decode cX2_commonDivisor 28 = .ok (.lstore 9, 2) := by decide +kernel
theorem dX2_commonDivisor_30 : decode cX2_commonDivisor 30 = .ok (.lload 6, 2) := by decide +kernel
theorem dX2_commonDivisor_32 : decode cX2_commonDivisor 32 = .ok (.lstore 4, 2) := by decide +kernel
theorem dX2_commonDivisor_34 : decode cX2_commonDivisor 34 = .ok (.lload 9, 2) := by decide +kernel
theorem dX2_commonDivisor_36 : decode cX2_commonDivisor 36 = .ok (.lstore 6, 2) := by decide +kernel
theorem dX2_commonDivisor_38 : decode cX2_commonDivisor 38 = .ok (.iinc 8 1, 3) := by decide +kernel
theorem dX2_commonDivisor_41 : decode cX2_commonDivisor 41 = .ok (.goto (-32), 3) := by decide +kernel
theorem dX2_commonDivisor_44 : decode cX2_commonDivisor 44 = .ok (.lload 4, 2) := by decide +kernel
theorem dX2_commonDivisor_46 : decode cX2_commonDivisor 46 = .ok (.lreturn, 1) := by decide +kernel
theorem dX3_init_0 : decode cX3_init 0 = .ok (.aload_n 0, 1) := by decide +kernel
theorem dX3_init_1 : decode cX3_init 1 = .ok (.invokespecial 3, 3) := by decide +kernel
theorem dX3_init_4 : decode cX3_init 4 = .ok (.aload_n 0, 1) := by decide +kernel
theorem dX3_init_5 : decode cX3_init 5 = .ok (.bipush 40, 2) := by decide +kernel
theorem dX3_init_7 : decode cX3_init 7 = .ok (.newarray .int, 2) := by decide +kernel
theorem dX3_init_9 : decode cX3_init 9 = .ok (.putfield 9, 3) := by decide +kernel
theorem dX3_init_12 : decode cX3_init 12 = .ok (.aload_n 0, 1) := by decide +kernel
theorem dX3_init_13 : decode cX3_init 13 = .ok (.bipush 64, 2) := by decide +kernel
theorem dX3_init_15 : decode cX3_init 15 = .ok (.newarray .int, 2) := by decide +kernel
theorem dX3_init_17 : decode cX3_init 17 = .ok (.putfield 15, 3) := by decide +kernel
theorem dX3_init_20 : decode cX3_init 20 = .ok (.aload_n 0, 1) := by decide +kernel
theorem dX3_init_21 : decode cX3_init 21 = .ok (.bipush 64, 2) := by decide +kernel
theorem dX3_init_23 : decode cX3_init 23 = .ok (.newarray .int, 2) := by decide +kernel
theorem dX3_init_25 : decode cX3_init 25 = .ok (.putfield 18, 3) := by decide +kernel
theorem dX3_init_28 : decode cX3_init 28 = .ok (.aload_n 0, 1) := by decide +kernel
theorem dX3_init_29 : decode cX3_init 29 = .ok (.bipush 40, 2) := by decide +kernel
theorem dX3_init_31 : decode cX3_init 31 = .ok (.newarray .int, 2) := by decide +kernel
theorem dX3_init_33 : decode cX3_init 33 = .ok (.putfield 21, 3) := by decide +kernel
theorem dX3_init_36 : decode cX3_init 36 = .ok (.aload_n 0, 1) := by decide +kernel
theorem dX3_init_37 : decode cX3_init 37 = .ok (.iconst 0, 1) := by decide +kernel
theorem dX3_init_38 : decode cX3_init 38 = .ok (.putfield 24, 3) := by decide +kernel
theorem dX3_init_41 : decode cX3_init 41 = .ok (.return_, 1) := by decide +kernel
theorem dX3_orderBy_0 : decode cX3_orderBy 0 = .ok (.iload_n 2, 1) := by decide +kernel
theorem dX3_orderBy_1 : decode cX3_orderBy 1 = .ok (.aload_n 0, 1) := by decide +kernel
theorem dX3_orderBy_2 : decode cX3_orderBy 2 = .ok (.getfield 9, 3) := by decide +kernel
theorem dX3_orderBy_5 : decode cX3_orderBy 5 = .ok (.arraylength, 1) := by decide +kernel
theorem dX3_orderBy_6 : decode cX3_orderBy 6 = .ok (.invokestatic 28, 3) := by decide +kernel
theorem dX3_orderBy_9 : decode cX3_orderBy 9 = .ok (.istore_n 3, 1) := by decide +kernel
theorem dX3_orderBy_10 : decode cX3_orderBy 10 = .ok (.iconst 0, 1) := by decide +kernel
theorem dX3_orderBy_11 : decode cX3_orderBy 11 = .ok (.istore 4, 2) := by decide +kernel
theorem dX3_orderBy_13 : decode cX3_orderBy 13 = .ok (.iload 4, 2) := by decide +kernel
theorem dX3_orderBy_15 : decode cX3_orderBy 15 = .ok (.iload_n 3, 1) := by decide +kernel
theorem dX3_orderBy_16 : decode cX3_orderBy 16 = .ok (.if_icmp .ge 18, 3) := by decide +kernel
theorem dX3_orderBy_19 : decode cX3_orderBy 19 = .ok (.aload_n 0, 1) := by decide +kernel
theorem dX3_orderBy_20 : decode cX3_orderBy 20 = .ok (.getfield 9, 3) := by decide +kernel
theorem dX3_orderBy_23 : decode cX3_orderBy 23 = .ok (.iload 4, 2) := by decide +kernel
theorem dX3_orderBy_25 : decode cX3_orderBy 25 = .ok (.iload 4, 2) := by decide +kernel
theorem dX3_orderBy_27 : decode cX3_orderBy 27 = .ok (.iastore, 1) := by decide +kernel
theorem dX3_orderBy_28 : decode cX3_orderBy 28 = .ok (.iinc 4 1, 3) := by decide +kernel
theorem dX3_orderBy_31 : decode cX3_orderBy 31 = .ok (.goto (-18), 3) := by decide +kernel
theorem dX3_orderBy_34 : decode cX3_orderBy 34 = .ok (.iload_n 1, 1) := by decide +kernel
theorem dX3_orderBy_35 : decode cX3_orderBy 35 = .ok (.istore 4, 2) := by decide +kernel
theorem dX3_orderBy_37 : decode cX3_orderBy 37 = .ok (.iload_n 3, 1) := by decide +kernel
theorem dX3_orderBy_38 : decode cX3_orderBy 38 = .ok (.iconst 1, 1) := by decide +kernel
theorem dX3_orderBy_39 : decode cX3_orderBy 39 = .ok (.isub, 1) := by decide +kernel
theorem dX3_orderBy_40 : decode cX3_orderBy 40 = .ok (.istore 5, 2) := by decide +kernel
theorem dX3_orderBy_42 : decode cX3_orderBy 42 = .ok (.iload 5, 2) := by decide +kernel
theorem dX3_orderBy_44 : decode cX3_orderBy 44 = .ok (.iconst 1, 1) := by decide +kernel
theorem dX3_orderBy_45 : decode cX3_orderBy 45 = .ok (.if_icmp .lt 60, 3) := by decide +kernel
theorem dX3_orderBy_48 : decode cX3_orderBy 48 = .ok (.iload 4, 2) := by decide +kernel
theorem dX3_orderBy_50 : decode cX3_orderBy 50 = .ok (.invokestatic 34, 3) := by decide +kernel
theorem dX3_orderBy_53 : decode cX3_orderBy 53 = .ok (.istore 4, 2) := by decide +kernel
theorem dX3_orderBy_55 : decode cX3_orderBy 55 = .ok (.iload 4, 2) := by decide +kernel
theorem dX3_orderBy_57 : decode cX3_orderBy 57 = .ok (.invokestatic 38, 3) := by decide +kernel
theorem dX3_orderBy_60 : decode cX3_orderBy 60 = .ok (.iload 5, 2) := by decide +kernel
theorem dX3_orderBy_62 : decode cX3_orderBy 62 = .ok (.iconst 1, 1) := by decide +kernel
theorem dX3_orderBy_63 : decode cX3_orderBy 63 = .ok (.iadd, 1) := by decide +kernel
theorem dX3_orderBy_64 : decode cX3_orderBy 64 = .ok (.irem, 1) := by decide +kernel
theorem dX3_orderBy_65 : decode cX3_orderBy 65 = .ok (.istore 6, 2) := by decide +kernel
theorem dX3_orderBy_67 : decode cX3_orderBy 67 = .ok (.aload_n 0, 1) := by decide +kernel
theorem dX3_orderBy_68 : decode cX3_orderBy 68 = .ok (.getfield 9, 3) := by decide +kernel
theorem dX3_orderBy_71 : decode cX3_orderBy 71 = .ok (.iload 5, 2) := by decide +kernel
theorem dX3_orderBy_73 : decode cX3_orderBy 73 = .ok (.iaload, 1) := by decide +kernel
theorem dX3_orderBy_74 : decode cX3_orderBy 74 = .ok (.istore 7, 2) := by decide +kernel
theorem dX3_orderBy_76 : decode cX3_orderBy 76 = .ok (.aload_n 0, 1) := by decide +kernel
theorem dX3_orderBy_77 : decode cX3_orderBy 77 = .ok (.getfield 9, 3) := by decide +kernel
theorem dX3_orderBy_80 : decode cX3_orderBy 80 = .ok (.iload 5, 2) := by decide +kernel
theorem dX3_orderBy_82 : decode cX3_orderBy 82 = .ok (.aload_n 0, 1) := by decide +kernel
theorem dX3_orderBy_83 : decode cX3_orderBy 83 = .ok (.getfield 9, 3) := by decide +kernel
theorem dX3_orderBy_86 : decode cX3_orderBy 86 = .ok (.iload 6, 2) := by decide +kernel
theorem dX3_orderBy_88 : decode cX3_orderBy 88 = .ok (.iaload, 1) := by decide +kernel
theorem dX3_orderBy_89 : decode cX3_orderBy 89 = .ok (.iastore, 1) := by decide +kernel
theorem dX3_orderBy_90 : decode cX3_orderBy 90 = .ok (.aload_n 0, 1) := by decide +kernel
theorem dX3_orderBy_91 : decode cX3_orderBy 91 = .ok (.getfield 9, 3) := by decide +kernel
theorem dX3_orderBy_94 : decode cX3_orderBy 94 = .ok (.iload 6, 2) := by decide +kernel
theorem dX3_orderBy_96 : decode cX3_orderBy 96 = .ok (.iload 7, 2) := by decide +kernel
theorem dX3_orderBy_98 : decode cX3_orderBy 98 = .ok (.iastore, 1) := by decide +kernel
theorem dX3_orderBy_99 : decode cX3_orderBy 99 = .ok (.iinc 5 (-1), 3) := by decide +kernel
theorem dX3_orderBy_102 : decode cX3_orderBy 102 = .ok (.goto (-60), 3) := by decide +kernel
theorem dX3_orderBy_105 : decode cX3_orderBy 105 = .ok (.return_, 1) := by decide +kernel
theorem dX3_placeAt_0 : decode cX3_placeAt 0 = .ok (.iload_n 1, 1) := by decide +kernel
theorem dX3_placeAt_1 : decode cX3_placeAt 1 = .ok (.ifCond .lt 21, 3) := by decide +kernel
theorem dX3_placeAt_4 : decode cX3_placeAt 4 = .ok (.iload_n 1, 1) := by decide +kernel
theorem dX3_placeAt_5 : decode cX3_placeAt 5 = .ok (.aload_n 0, 1) := by decide +kernel
theorem dX3_placeAt_6 : decode cX3_placeAt 6 = .ok (.getfield 9, 3) := by decide +kernel
theorem dX3_placeAt_9 : decode cX3_placeAt 9 = .ok (.arraylength, 1) := by decide +kernel
theorem dX3_placeAt_10 : decode cX3_placeAt 10 = .ok (.if_icmp .ge 12, 3) := by decide +kernel
theorem dX3_placeAt_13 : decode cX3_placeAt 13 = .ok (.aload_n 0, 1) := by decide +kernel
theorem dX3_placeAt_14 : decode cX3_placeAt 14 = .ok (.getfield 9, 3) := by decide +kernel
theorem dX3_placeAt_17 : decode cX3_placeAt 17 = .ok (.iload_n 1, 1) := by decide +kernel
theorem dX3_placeAt_18 : decode cX3_placeAt 18 = .ok (.iaload, 1) := by decide +kernel
theorem dX3_placeAt_19 : decode cX3_placeAt 19 = .ok (.goto 4, 3) := by decide +kernel
theorem dX3_placeAt_22 : decode cX3_placeAt 22 = .ok (.iconst 0, 1) := by decide +kernel
theorem dX3_placeAt_23 : decode cX3_placeAt 23 = .ok (.ireturn, 1) := by decide +kernel
theorem dX3_bitsHeld_0 : decode cX3_bitsHeld 0 = .ok (.iconst 0, 1) := by decide +kernel
theorem dX3_bitsHeld_1 : decode cX3_bitsHeld 1 = .ok (.istore 4, 2) := by decide +kernel
theorem dX3_bitsHeld_3 : decode cX3_bitsHeld 3 = .ok (.iconst 0, 1) := by decide +kernel
theorem dX3_bitsHeld_4 : decode cX3_bitsHeld 4 = .ok (.istore 5, 2) := by decide +kernel
theorem dX3_bitsHeld_6 : decode cX3_bitsHeld 6 = .ok (.iload 5, 2) := by decide +kernel
theorem dX3_bitsHeld_8 : decode cX3_bitsHeld 8 = .ok (.aload_n 2, 1) := by decide +kernel
theorem dX3_bitsHeld_9 : decode cX3_bitsHeld 9 = .ok (.getfield 41, 3) := by decide +kernel
theorem dX3_bitsHeld_12 : decode cX3_bitsHeld 12 = .ok (.if_icmp .ge 41, 3) := by decide +kernel
theorem dX3_bitsHeld_15 : decode cX3_bitsHeld 15 = .ok (.aload_n 1, 1) := by decide +kernel
theorem dX3_bitsHeld_16 : decode cX3_bitsHeld 16 = .ok (.aload_n 0, 1) := by decide +kernel
theorem dX3_bitsHeld_17 : decode cX3_bitsHeld 17 = .ok (.iload_n 3, 1) := by decide +kernel
theorem dX3_bitsHeld_18 : decode cX3_bitsHeld 18 = .ok (.aload_n 2, 1) := by decide +kernel
theorem dX3_bitsHeld_19 : decode cX3_bitsHeld 19 = .ok (.getfield 41, 3) := by decide +kernel
theorem dX3_bitsHeld_22 : decode cX3_bitsHeld 22 = .ok (.imul, 1) := by decide +kernel
theorem dX3_bitsHeld_23 : decode cX3_bitsHeld 23 = .ok (.iload 5, 2) := by decide +kernel
theorem dX3_bitsHeld_25 : decode cX3_bitsHeld 25 = .ok (.iadd, 1) := by decide +kernel
theorem dX3_bitsHeld_26 : decode cX3_bitsHeld 26 = .ok (.invokevirtual 46, 3) := by decide +kernel
theorem dX3_bitsHeld_29 : decode cX3_bitsHeld 29 = .ok (.invokevirtual 49, 3) := by decide +kernel
theorem dX3_bitsHeld_32 : decode cX3_bitsHeld 32 = .ok (.iconst 1, 1) := by decide +kernel
theorem dX3_bitsHeld_33 : decode cX3_bitsHeld 33 = .ok (.if_icmp .ne 14, 3) := by decide +kernel
theorem dX3_bitsHeld_36 : decode cX3_bitsHeld 36 = .ok (.iload 4, 2) := by decide +kernel
theorem dX3_bitsHeld_38 : decode cX3_bitsHeld 38 = .ok (.aload_n 2, 1) := by decide +kernel
theorem dX3_bitsHeld_39 : decode cX3_bitsHeld 39 = .ok (.iload 5, 2) := by decide +kernel
theorem dX3_bitsHeld_41 : decode cX3_bitsHeld 41 = .ok (.invokevirtual 54, 3) := by decide +kernel
theorem dX3_bitsHeld_44 : decode cX3_bitsHeld 44 = .ok (.ixor, 1) := by decide +kernel
theorem dX3_bitsHeld_45 : decode cX3_bitsHeld 45 = .ok (.istore 4, 2) := by decide +kernel
theorem dX3_bitsHeld_47 : decode cX3_bitsHeld 47 = .ok (.iinc 5 1, 3) := by decide +kernel
theorem dX3_bitsHeld_50 : decode cX3_bitsHeld 50 = .ok (.goto (-44), 3) := by decide +kernel
theorem dX3_bitsHeld_53 : decode cX3_bitsHeld 53 = .ok (.iload 4, 2) := by decide +kernel
theorem dX3_bitsHeld_55 : decode cX3_bitsHeld 55 = .ok (.ireturn, 1) := by decide +kernel
theorem dX3_planAll_0 : decode cX3_planAll 0 = .ok (.aload_n 0, 1) := by decide +kernel
theorem dX3_planAll_1 : decode cX3_planAll 1 = .ok (.aload_n 2, 1) := by decide +kernel
theorem dX3_planAll_2 : decode cX3_planAll 2 = .ok (.getfield 57, 3) := by decide +kernel
theorem dX3_planAll_5 : decode cX3_planAll 5 = .ok (.iconst 1, 1) := by decide +kernel
theorem dX3_planAll_6 : decode cX3_planAll 6 = .ok (.if_icmp .ge 7, 3) := by decide +kernel
theorem dX3_planAll_9 : decode cX3_planAll 9 = .ok (.iconst 0, 1) := by decide +kernel
theorem dX3_planAll_10 : decode cX3_planAll 10 = .ok (.goto 20, 3) := by decide +kernel
theorem dX3_planAll_13 : decode cX3_planAll 13 = .ok (.aload_n 3, 1) := by decide +kernel
theorem dX3_planAll_14 : decode cX3_planAll 14 = .ok (.getfield 60, 3) := by decide +kernel
theorem dX3_planAll_17 : decode cX3_planAll 17 = .ok (.aload_n 2, 1) := by decide +kernel
theorem dX3_planAll_18 : decode cX3_planAll 18 = .ok (.getfield 57, 3) := by decide +kernel
theorem dX3_planAll_21 : decode cX3_planAll 21 = .ok (.idiv, 1) := by decide +kernel
theorem dX3_planAll_22 : decode cX3_planAll 22 = .ok (.aload_n 0, 1) := by decide +kernel
theorem dX3_planAll_23 : decode cX3_planAll 23 = .ok (.getfield 21, 3) := by decide +kernel
theorem dX3_planAll_26 : decode cX3_planAll 26 = .ok (.arraylength, 1) := by decide +kernel
theorem dX3_planAll_27 : decode cX3_planAll 27 = .ok (.invokestatic 28, 3) := by decide +kernel
theorem dX3_planAll_30 : decode cX3_planAll 30 = .ok (.putfield 24, 3) := by decide +kernel
theorem dX3_planAll_33 : decode cX3_planAll 33 = .ok (.iconst 0, 1) := by decide +kernel
theorem dX3_planAll_34 : decode cX3_planAll 34 = .ok (.istore 4, 2) := by decide +kernel
theorem dX3_planAll_36 : decode cX3_planAll 36 = .ok (.iconst 0, 1) := by decide +kernel
theorem dX3_planAll_37 : decode cX3_planAll 37 = .ok (.istore 5, 2) := by decide +kernel
theorem dX3_planAll_39 : decode cX3_planAll 39 = .ok (.iload 5, 2) := by decide +kernel
theorem dX3_planAll_41 : decode cX3_planAll 41 = .ok (.aload_n 0, 1) := by decide +kernel
theorem dX3_planAll_42 : decode cX3_planAll 42 = .ok (.getfield 24, 3) := by decide +kernel
theorem dX3_planAll_45 : decode cX3_planAll 45 = .ok (.if_icmp .ge 140, 3) := by decide +kernel
theorem dX3_planAll_48 : decode cX3_planAll 48 = .ok (.aload_n 0, 1) := by decide +kernel
theorem dX3_planAll_49 : decode cX3_planAll 49 = .ok (.aload_n 1, 1) := by decide +kernel
theorem dX3_planAll_50 : decode cX3_planAll 50 = .ok (.aload_n 2, 1) := by decide +kernel
theorem dX3_planAll_51 : decode cX3_planAll 51 = .ok (.iload 5, 2) := by decide +kernel
theorem dX3_planAll_53 : decode cX3_planAll 53 = .ok (.invokevirtual 65, 3) := by decide +kernel
theorem dX3_planAll_56 : decode cX3_planAll 56 = .ok (.aload_n 2, 1) := by decide +kernel
theorem dX3_planAll_57 : decode cX3_planAll 57 = .ok (.aload_n 3, 1) := by decide +kernel
theorem dX3_planAll_58 : decode cX3_planAll 58 = .ok (.iload 5, 2) := by decide +kernel
theorem dX3_planAll_60 : decode cX3_planAll 60 = .ok (.invokestatic 69, 3) := by decide +kernel
theorem dX3_planAll_63 : decode cX3_planAll 63 = .ok (.ixor, 1) := by decide +kernel
theorem dX3_planAll_64 : decode cX3_planAll 64 = .ok (.istore 6, 2) := by decide +kernel
theorem dX3_planAll_66 : decode cX3_planAll 66 = .ok (.aload_n 0, 1) := by decide +kernel
theorem dX3_planAll_67 : decode cX3_planAll 67 = .ok (.invokevirtual 73, 3) := by decide +kernel
theorem dX3_planAll_70 : decode cX3_planAll 70 = .ok (.iconst 0, 1) := by decide +kernel
theorem dX3_planAll_71 : decode cX3_planAll 71 = .ok (.istore 7, 2) := by decide +kernel
theorem dX3_planAll_73 : decode cX3_planAll 73 = .ok (.iload 7, 2) := by decide +kernel
theorem dX3_planAll_75 : decode cX3_planAll 75 = .ok (.aload_n 2, 1) := by decide +kernel
theorem dX3_planAll_76 : decode cX3_planAll 76 = .ok (.getfield 41, 3) := by decide +kernel
theorem dX3_planAll_79 : decode cX3_planAll 79 = .ok (.if_icmp .ge 52, 3) := by decide +kernel
theorem dX3_planAll_82 : decode cX3_planAll 82 = .ok (.aload_n 0, 1) := by decide +kernel
theorem dX3_planAll_83 : decode cX3_planAll 83 = .ok (.iload 5, 2) := by decide +kernel
theorem dX3_planAll_85 : decode cX3_planAll 85 = .ok (.aload_n 2, 1) := by decide +kernel
theorem dX3_planAll_86 : decode cX3_planAll 86 = .ok (.getfield 41, 3) := by decide +kernel
theorem dX3_planAll_89 : decode cX3_planAll 89 = .ok (.imul, 1) := by decide +kernel
theorem dX3_planAll_90 : decode cX3_planAll 90 = .ok (.iload 7, 2) := by decide +kernel
theorem dX3_planAll_92 : decode cX3_planAll 92 = .ok (.iadd, 1) := by decide +kernel
theorem dX3_planAll_93 : decode cX3_planAll 93 = .ok (.invokevirtual 46, 3) := by decide +kernel
theorem dX3_planAll_96 : decode cX3_planAll 96 = .ok (.istore 8, 2) := by decide +kernel
theorem dX3_planAll_98 : decode cX3_planAll 98 = .ok (.aload_n 1, 1) := by decide +kernel
theorem dX3_planAll_99 : decode cX3_planAll 99 = .ok (.iload 8, 2) := by decide +kernel
theorem dX3_planAll_101 : decode cX3_planAll 101 = .ok (.invokevirtual 76, 3) := by decide +kernel
theorem dX3_planAll_104 : decode cX3_planAll 104 = .ok (.ifCond .ne 21, 3) := by decide +kernel
theorem dX3_planAll_107 : decode cX3_planAll 107 = .ok (.aload_n 0, 1) := by decide +kernel
theorem dX3_planAll_108 : decode cX3_planAll 108 = .ok (.iload 7, 2) := by decide +kernel
theorem dX3_planAll_110 : decode cX3_planAll 110 = .ok (.aload_n 2, 1) := by decide +kernel
theorem dX3_planAll_111 : decode cX3_planAll 111 = .ok (.iload 7, 2) := by decide +kernel
theorem dX3_planAll_113 : decode cX3_planAll 113 = .ok (.invokevirtual 54, 3) := by decide +kernel
theorem dX3_planAll_116 : decode cX3_planAll 116 = .ok (.aload_n 1, 1) := by decide +kernel
theorem dX3_planAll_117 : decode cX3_planAll 117 = .ok (.iload 8, 2) := by decide +kernel
theorem dX3_planAll_119 : decode cX3_planAll 119 = .ok (.invokevirtual 80, 3) := by decide +kernel
theorem dX3_planAll_122 : decode cX3_planAll 122 = .ok (.invokevirtual 83, 3) := by decide +kernel
theorem dX3_planAll_125 : decode cX3_planAll 125 = .ok (.iinc 7 1, 3) := by decide +kernel
theorem dX3_planAll_128 : decode cX3_planAll 128 = .ok (.goto (-55), 3) := by decide +kernel
theorem dX3_planAll_131 : decode cX3_planAll 131 = .ok (.iload 6, 2) := by decide +kernel
theorem dX3_planAll_133 : decode cX3_planAll 133 = .ok (.bipush 64, 2) := by decide +kernel
theorem dX3_planAll_135 : decode cX3_planAll 135 = .ok (.if_icmp .ge 15, 3) := by decide +kernel
theorem dX3_planAll_138 : decode cX3_planAll 138 = .ok (.aload_n 0, 1) := by decide +kernel
theorem dX3_planAll_139 : decode cX3_planAll 139 = .ok (.getfield 15, 3) := by decide +kernel
theorem dX3_planAll_142 : decode cX3_planAll 142 = .ok (.iload 6, 2) := by decide +kernel
theorem dX3_planAll_144 : decode cX3_planAll 144 = .ok (.iaload, 1) := by decide +kernel
theorem dX3_planAll_145 : decode cX3_planAll 145 = .ok (.ldc 87, 2) := by decide +kernel
theorem dX3_planAll_147 : decode cX3_planAll 147 = .ok (.if_icmp .ne 6, 3) := by decide +kernel
theorem dX3_planAll_150 : decode cX3_planAll 150 = .ok (.bipush (-9), 2) := by decide +kernel
theorem dX3_planAll_152 : decode cX3_planAll 152 = .ok (.ireturn, 1) := by decide +kernel
theorem dX3_planAll_153 : decode cX3_planAll 153 = .ok (.aload_n 0, 1) := by decide +kernel
theorem dX3_planAll_154 : decode cX3_planAll 154 = .ok (.getfield 21, 3) := by decide +kernel
theorem dX3_planAll_157 : decode cX3_planAll 157 = .ok (.iload 5, 2) := by decide +kernel
theorem dX3_planAll_159 : decode cX3_planAll 159 = .ok (.aload_n 0, 1) := by decide +kernel
theorem dX3_planAll_160 : decode cX3_planAll 160 = .ok (.getfield 18, 3) := by decide +kernel
theorem dX3_planAll_163 : decode cX3_planAll 163 = .ok (.iload 6, 2) := by decide +kernel
theorem dX3_planAll_165 : decode cX3_planAll 165 = .ok (.iaload, 1) := by decide +kernel
theorem dX3_planAll_166 : decode cX3_planAll 166 = .ok (.iastore, 1) := by decide +kernel
theorem dX3_planAll_167 : decode cX3_planAll 167 = .ok (.iload 4, 2) := by decide +kernel
theorem dX3_planAll_169 : decode cX3_planAll 169 = .ok (.aload_n 0, 1) := by decide +kernel
theorem dX3_planAll_170 : decode cX3_planAll 170 = .ok (.getfield 15, 3) := by decide +kernel
theorem dX3_planAll_173 : decode cX3_planAll 173 = .ok (.iload 6, 2) := by decide +kernel
theorem dX3_planAll_175 : decode cX3_planAll 175 = .ok (.iaload, 1) := by decide +kernel
theorem dX3_planAll_176 : decode cX3_planAll 176 = .ok (.iadd, 1) := by decide +kernel
theorem dX3_planAll_177 : decode cX3_planAll 177 = .ok (.istore 4, 2) := by decide +kernel
theorem dX3_planAll_179 : decode cX3_planAll 179 = .ok (.iinc 5 1, 3) := by decide +kernel
theorem dX3_planAll_182 : decode cX3_planAll 182 = .ok (.goto (-143), 3) := by decide +kernel
theorem dX3_planAll_185 : decode cX3_planAll 185 = .ok (.iload 4, 2) := by decide +kernel
theorem dX3_planAll_187 : decode cX3_planAll 187 = .ok (.ireturn, 1) := by decide +kernel
theorem dX3_bitsWanted_0 : decode cX3_bitsWanted 0 = .ok (.iconst 0, 1) := by decide +kernel
theorem dX3_bitsWanted_1 : decode cX3_bitsWanted 1 = .ok (.istore_n 3, 1) := by decide +kernel
theorem dX3_bitsWanted_2 : decode cX3_bitsWanted 2 = .ok (.iconst 0, 1) := by decide +kernel
theorem dX3_bitsWanted_3 : decode cX3_bitsWanted 3 = .ok (.istore 4, 2) := by decide +kernel
theorem dX3_bitsWanted_5 : decode cX3_bitsWanted 5 = .ok (.iload 4, 2) := by decide +kernel
theorem dX3_bitsWanted_7 : decode cX3_bitsWanted 7 = .ok (.aload_n 0, 1) := by decide +kernel
theorem dX3_bitsWanted_8 : decode cX3_bitsWanted 8 = .ok (.getfield 57, 3) := by decide +kernel
theorem dX3_bitsWanted_11 : decode cX3_bitsWanted 11 = .ok (.if_icmp .ge 28, 3) := by decide +kernel
theorem dX3_bitsWanted_14 : decode cX3_bitsWanted 14 = .ok (.iload_n 3, 1) := by decide +kernel
theorem dX3_bitsWanted_15 : decode cX3_bitsWanted 15 = .ok (.aload_n 1, 1) := by decide +kernel
theorem dX3_bitsWanted_16 : decode cX3_bitsWanted 16 = .ok (.iload_n 2, 1) := by decide +kernel
theorem dX3_bitsWanted_17 : decode cX3_bitsWanted 17 = .ok (.aload_n 0, 1) := by decide +kernel
theorem dX3_bitsWanted_18 : decode cX3_bitsWanted 18 = .ok (.getfield 57, 3) := by decide +kernel
theorem dX3_bitsWanted_21 : decode cX3_bitsWanted 21 = .ok (.imul, 1) := by decide +kernel
theorem dX3_bitsWanted_22 : decode cX3_bitsWanted 22 = .ok (.iload 4, 2) := by decide +kernel
theorem dX3_bitsWanted_24 : decode cX3_bitsWanted 24 = .ok (.iadd, 1) := by decide +kernel
theorem dX3_bitsWanted_25 : decode cX3_bitsWanted 25 = .ok (.invokevirtual 88, 3) := by decide +kernel
theorem dX3_bitsWanted_28 : decode cX3_bitsWanted 28 = .ok (.iload 4, 2) := by decide +kernel
theorem dX3_bitsWanted_30 : decode cX3_bitsWanted 30 = .ok (.ishl, 1) := by decide +kernel
theorem dX3_bitsWanted_31 : decode cX3_bitsWanted 31 = .ok (.ior, 1) := by decide +kernel
theorem dX3_bitsWanted_32 : decode cX3_bitsWanted 32 = .ok (.istore_n 3, 1) := by decide +kernel
theorem dX3_bitsWanted_33 : decode cX3_bitsWanted 33 = .ok (.iinc 4 1, 3) := by decide +kernel
theorem dX3_bitsWanted_36 : decode cX3_bitsWanted 36 = .ok (.goto (-31), 3) := by decide +kernel
theorem dX3_bitsWanted_39 : decode cX3_bitsWanted 39 = .ok (.iload_n 3, 1) := by decide +kernel
theorem dX3_bitsWanted_40 : decode cX3_bitsWanted 40 = .ok (.ireturn, 1) := by decide +kernel
theorem dX3_flipAll_0 : decode cX3_flipAll 0 = .ok (.iconst 0, 1) := by decide +kernel
theorem dX3_flipAll_1 : decode cX3_flipAll 1 = .ok (.istore_n 3, 1) := by decide +kernel
theorem dX3_flipAll_2 : decode cX3_flipAll 2 = .ok (.iload_n 3, 1) := by decide +kernel
theorem dX3_flipAll_3 : decode cX3_flipAll 3 = .ok (.aload_n 0, 1) := by decide +kernel
theorem dX3_flipAll_4 : decode cX3_flipAll 4 = .ok (.getfield 24, 3) := by decide +kernel
theorem dX3_flipAll_7 : decode cX3_flipAll 7 = .ok (.if_icmp .ge 68, 3) := by decide +kernel
theorem dX3_flipAll_10 : decode cX3_flipAll 10 = .ok (.iconst 0, 1) := by decide +kernel
theorem dX3_flipAll_11 : decode cX3_flipAll 11 = .ok (.istore 4, 2) := by decide +kernel
theorem dX3_flipAll_13 : decode cX3_flipAll 13 = .ok (.iload 4, 2) := by decide +kernel
theorem dX3_flipAll_15 : decode cX3_flipAll 15 = .ok (.aload_n 2, 1) := by decide +kernel
theorem dX3_flipAll_16 : decode cX3_flipAll 16 = .ok (.getfield 41, 3) := by decide +kernel
theorem dX3_flipAll_19 : decode cX3_flipAll 19 = .ok (.if_icmp .ge 50, 3) := by decide +kernel
theorem dX3_flipAll_22 : decode cX3_flipAll 22 = .ok (.aload_n 0, 1) := by decide +kernel
theorem dX3_flipAll_23 : decode cX3_flipAll 23 = .ok (.iload_n 3, 1) := by decide +kernel
theorem dX3_flipAll_24 : decode cX3_flipAll 24 = .ok (.aload_n 2, 1) := by decide +kernel
theorem dX3_flipAll_25 : decode cX3_flipAll 25 = .ok (.getfield 41, 3) := by decide +kernel
theorem dX3_flipAll_28 : decode cX3_flipAll 28 = .ok (.imul, 1) := by decide +kernel
theorem dX3_flipAll_29 : decode cX3_flipAll 29 = .ok (.iload 4, 2) := by decide +kernel
theorem dX3_flipAll_31 : decode cX3_flipAll 31 = .ok (.iadd, 1) := by decide +kernel
theorem dX3_flipAll_32 : decode cX3_flipAll 32 = .ok (.invokevirtual 46, 3) := by decide +kernel
theorem dX3_flipAll_35 : decode cX3_flipAll 35 = .ok (.istore 5, 2) := by decide +kernel
theorem dX3_flipAll_37 : decode cX3_flipAll 37 = .ok (.aload_n 0, 1) := by decide +kernel
theorem dX3_flipAll_38 : decode cX3_flipAll 38 = .ok (.getfield 21, 3) := by decide +kernel
theorem dX3_flipAll_41 : decode cX3_flipAll 41 = .ok (.iload_n 3, 1) := by decide +kernel
theorem dX3_flipAll_42 : decode cX3_flipAll 42 = .ok (.iaload, 1) := by decide +kernel
theorem dX3_flipAll_43 : decode cX3_flipAll 43 = .ok (.iload 4, 2) := by decide +kernel
theorem dX3_flipAll_45 : decode cX3_flipAll 45 = .ok (.ishr, 1) := by decide +kernel
theorem dX3_flipAll_46 : decode cX3_flipAll 46 = .ok (.iconst 1, 1) := by decide +kernel
theorem dX3_flipAll_47 : decode cX3_flipAll 47 = .ok (.iand, 1) := by decide +kernel
theorem dX3_flipAll_48 : decode cX3_flipAll 48 = .ok (.ifCond .eq 15, 3) := by decide +kernel
theorem dX3_flipAll_51 : decode cX3_flipAll 51 = .ok (.aload_n 1, 1) := by decide +kernel
theorem dX3_flipAll_52 : decode cX3_flipAll 52 = .ok (.iload 5, 2) := by decide +kernel
theorem dX3_flipAll_54 : decode cX3_flipAll 54 = .ok (.aload_n 1, 1) := by decide +kernel
theorem dX3_flipAll_55 : decode cX3_flipAll 55 = .ok (.iload 5, 2) := by decide +kernel
theorem dX3_flipAll_57 : decode cX3_flipAll 57 = .ok (.invokevirtual 91, 3) := by decide +kernel
theorem dX3_flipAll_60 : decode cX3_flipAll 60 = .ok (.invokevirtual 94, 3) := by decide +kernel
theorem dX3_flipAll_63 : decode cX3_flipAll 63 = .ok (.iinc 4 1, 3) := by decide +kernel
theorem dX3_flipAll_66 : decode cX3_flipAll 66 = .ok (.goto (-53), 3) := by decide +kernel
theorem dX3_flipAll_69 : decode cX3_flipAll 69 = .ok (.iinc 3 1, 3) := by decide +kernel
theorem dX3_flipAll_72 : decode cX3_flipAll 72 = .ok (.goto (-70), 3) := by decide +kernel
theorem dX3_flipAll_75 : decode cX3_flipAll 75 = .ok (.return_, 1) := by decide +kernel
theorem dX3_countFlips_0 : decode cX3_countFlips 0 = .ok (.iconst 0, 1) := by decide +kernel
theorem dX3_countFlips_1 : decode cX3_countFlips 1 = .ok (.istore_n 1, 1) := by decide +kernel
theorem dX3_countFlips_2 : decode cX3_countFlips 2 = .ok (.iconst 0, 1) := by decide +kernel
theorem dX3_countFlips_3 : decode cX3_countFlips 3 = .ok (.istore_n 2, 1) := by decide +kernel
theorem dX3_countFlips_4 : decode cX3_countFlips 4 = .ok (.iload_n 2, 1) := by decide +kernel
theorem dX3_countFlips_5 : decode cX3_countFlips 5 = .ok (.aload_n 0, 1) := by decide +kernel
theorem dX3_countFlips_6 : decode cX3_countFlips 6 = .ok (.getfield 24, 3) := by decide +kernel
theorem dX3_countFlips_9 : decode cX3_countFlips 9 = .ok (.if_icmp .ge 21, 3) := by decide +kernel
theorem dX3_countFlips_12 : decode cX3_countFlips 12 = .ok (.iload_n 1, 1) := by decide +kernel
theorem dX3_countFlips_13 : decode cX3_countFlips 13 = .ok (.aload_n 0, 1) := by decide +kernel
theorem dX3_countFlips_14 : decode cX3_countFlips 14 = .ok (.getfield 21, 3) := by decide +kernel
theorem dX3_countFlips_17 : decode cX3_countFlips 17 = .ok (.iload_n 2, 1) := by decide +kernel
theorem dX3_countFlips_18 : decode cX3_countFlips 18 = .ok (.iaload, 1) := by decide +kernel
theorem dX3_countFlips_19 : decode cX3_countFlips 19 = .ok (.invokestatic 98, 3) := by decide +kernel
theorem dX3_countFlips_22 : decode cX3_countFlips 22 = .ok (.iadd, 1) := by decide +kernel
theorem dX3_countFlips_23 : decode cX3_countFlips 23 = .ok (.istore_n 1, 1) := by decide +kernel
theorem dX3_countFlips_24 : decode cX3_countFlips 24 = .ok (.iinc 2 1, 3) := by decide +kernel
theorem dX3_countFlips_27 : decode cX3_countFlips 27 = .ok (.goto (-23), 3) := by decide +kernel
theorem dX3_countFlips_30 : decode cX3_countFlips 30 = .ok (.iload_n 1, 1) := by decide +kernel
theorem dX3_countFlips_31 : decode cX3_countFlips 31 = .ok (.ireturn, 1) := by decide +kernel
theorem dX3_weigh_0 : decode cX3_weigh 0 = .ok (.aload_n 0, 1) := by decide +kernel
theorem dX3_weigh_1 : decode cX3_weigh 1 = .ok (.invokevirtual 73, 3) := by decide +kernel
theorem dX3_weigh_4 : decode cX3_weigh 4 = .ok (.iconst 0, 1) := by decide +kernel
theorem dX3_weigh_5 : decode cX3_weigh 5 = .ok (.istore_n 2, 1) := by decide +kernel
theorem dX3_weigh_6 : decode cX3_weigh 6 = .ok (.iload_n 2, 1) := by decide +kernel
theorem dX3_weigh_7 : decode cX3_weigh 7 = .ok (.aload_n 1, 1) := by decide +kernel
theorem dX3_weigh_8 : decode cX3_weigh 8 = .ok (.getfield 41, 3) := by decide +kernel
theorem dX3_weigh_11 : decode cX3_weigh 11 = .ok (.if_icmp .ge 20, 3) := by decide +kernel
theorem dX3_weigh_14 : decode cX3_weigh 14 = .ok (.aload_n 0, 1) := by decide +kernel
theorem dX3_weigh_15 : decode cX3_weigh 15 = .ok (.iload_n 2, 1) := by decide +kernel
theorem dX3_weigh_16 : decode cX3_weigh 16 = .ok (.aload_n 1, 1) := by decide +kernel
theorem dX3_weigh_17 : decode cX3_weigh 17 = .ok (.iload_n 2, 1) := by decide +kernel
theorem dX3_weigh_18 : decode cX3_weigh 18 = .ok (.invokevirtual 54, 3) := by decide +kernel
theorem dX3_weigh_21 : decode cX3_weigh 21 = .ok (.iconst 1, 1) := by decide +kernel
theorem dX3_weigh_22 : decode cX3_weigh 22 = .ok (.invokevirtual 83, 3) := by decide +kernel
theorem dX3_weigh_25 : decode cX3_weigh 25 = .ok (.iinc 2 1, 3) := by decide +kernel
theorem dX3_weigh_28 : decode cX3_weigh 28 = .ok (.goto (-22), 3) := by decide +kernel
theorem dX3_weigh_31 : decode cX3_weigh 31 = .ok (.return_, 1) := by decide +kernel
theorem dX3_startSets_0 : decode cX3_startSets 0 = .ok (.aload_n 0, 1) := by decide +kernel
theorem dX3_startSets_1 : decode cX3_startSets 1 = .ok (.getfield 15, 3) := by decide +kernel
theorem dX3_startSets_4 : decode cX3_startSets 4 = .ok (.ldc 87, 2) := by decide +kernel
theorem dX3_startSets_6 : decode cX3_startSets 6 = .ok (.invokestatic 103, 3) := by decide +kernel
theorem dX3_startSets_9 : decode cX3_startSets 9 = .ok (.aload_n 0, 1) := by decide +kernel
theorem dX3_startSets_10 : decode cX3_startSets 10 = .ok (.getfield 15, 3) := by decide +kernel
theorem dX3_startSets_13 : decode cX3_startSets 13 = .ok (.iconst 0, 1) := by decide +kernel
theorem dX3_startSets_14 : decode cX3_startSets 14 = .ok (.iconst 0, 1) := by decide +kernel
theorem dX3_startSets_15 : decode cX3_startSets 15 = .ok (.iastore, 1) := by decide +kernel
theorem dX3_startSets_16 : decode cX3_startSets 16 = .ok (.aload_n 0, 1) := by decide +kernel
theorem dX3_startSets_17 : decode cX3_startSets 17 = .ok (.getfield 18, 3) := by decide +kernel
theorem dX3_startSets_20 : decode cX3_startSets 20 = .ok (.iconst 0, 1) := by decide +kernel
theorem dX3_startSets_21 : decode cX3_startSets 21 = .ok (.iconst 0, 1) := by decide +kernel
theorem dX3_startSets_22 : decode cX3_startSets 22 = .ok (.iastore, 1) := by decide +kernel
theorem dX3_startSets_23 : decode cX3_startSets 23 = .ok (.return_, 1) := by decide +kernel
theorem dX3_growSets_0 : decode cX3_growSets 0 = .ok (.iconst 0, 1) := by decide +kernel
theorem dX3_growSets_1 : decode cX3_growSets 1 = .ok (.istore 4, 2) := by decide +kernel
theorem dX3_growSets_3 : decode cX3_growSets 3 = .ok (.iload 4, 2) := by decide +kernel
theorem dX3_growSets_5 : decode cX3_growSets 5 = .ok (.bipush 64, 2) := by decide +kernel
theorem dX3_growSets_7 : decode cX3_growSets 7 = .ok (.if_icmp .ge 84, 3) := by decide +kernel
theorem dX3_growSets_10 : decode cX3_growSets 10 = .ok (.iload 4, 2) := by decide +kernel
theorem dX3_growSets_12 : decode cX3_growSets 12 = .ok (.iload_n 2, 1) := by decide +kernel
theorem dX3_growSets_13 : decode cX3_growSets 13 = .ok (.ixor, 1) := by decide +kernel
theorem dX3_growSets_14 : decode cX3_growSets 14 = .ok (.istore 5, 2) := by decide +kernel
theorem dX3_growSets_16 : decode cX3_growSets 16 = .ok (.iload 5, 2) := by decide +kernel
theorem dX3_growSets_18 : decode cX3_growSets 18 = .ok (.iload 4, 2) := by decide +kernel
theorem dX3_growSets_20 : decode cX3_growSets 20 = .ok (.if_icmp .le 65, 3) := by decide +kernel
theorem dX3_growSets_23 : decode cX3_growSets 23 = .ok (.iload 5, 2) := by decide +kernel
theorem dX3_growSets_25 : decode cX3_growSets 25 = .ok (.bipush 64, 2) := by decide +kernel
theorem dX3_growSets_27 : decode cX3_growSets 27 = .ok (.if_icmp .lt 6, 3) := by decide +kernel
theorem dX3_growSets_30 : decode cX3_growSets 30 = .ok (.goto 55, 3) := by decide +kernel
theorem dX3_growSets_33 : decode cX3_growSets 33 = .ok (.aload_n 0, 1) := by decide +kernel
theorem dX3_growSets_34 : decode cX3_growSets 34 = .ok (.getfield 15, 3) := by decide +kernel
theorem dX3_growSets_37 : decode cX3_growSets 37 = .ok (.iload 4, 2) := by decide +kernel
theorem dX3_growSets_39 : decode cX3_growSets 39 = .ok (.iaload, 1) := by decide +kernel
theorem dX3_growSets_40 : decode cX3_growSets 40 = .ok (.istore 6, 2) := by decide +kernel
theorem dX3_growSets_42 : decode cX3_growSets 42 = .ok (.aload_n 0, 1) := by decide +kernel
theorem dX3_growSets_43 : decode cX3_growSets 43 = .ok (.getfield 18, 3) := by decide +kernel
theorem dX3_growSets_46 : decode cX3_growSets 46 = .ok (.iload 4, 2) := by decide +kernel
theorem dX3_growSets_48 : decode cX3_growSets 48 = .ok (.iaload, 1) := by decide +kernel
theorem dX3_growSets_49 : decode cX3_growSets 49 = .ok (.istore 7, 2) := by decide +kernel
theorem dX3_growSets_51 : decode cX3_growSets 51 = .ok (.aload_n 0, 1) := by decide +kernel
theorem dX3_growSets_52 : decode cX3_growSets 52 = .ok (.iload 4, 2) := by decide +kernel
theorem dX3_growSets_54 : decode cX3_growSets 54 = .ok (.aload_n 0, 1) := by decide +kernel
theorem dX3_growSets_55 : decode cX3_growSets 55 = .ok (.getfield 15, 3) := by decide +kernel
theorem dX3_growSets_58 : decode cX3_growSets 58 = .ok (.iload 5, 2) := by decide +kernel
theorem dX3_growSets_60 : decode cX3_growSets 60 = .ok (.iaload, 1) := by decide +kernel
theorem dX3_growSets_61 : decode cX3_growSets 61 = .ok (.aload_n 0, 1) := by decide +kernel
theorem dX3_growSets_62 : decode cX3_growSets 62 = .ok (.getfield 18, 3) := by decide +kernel
theorem dX3_growSets_65 : decode cX3_growSets 65 = .ok (.iload 5, 2) := by decide +kernel
theorem dX3_growSets_67 : decode cX3_growSets 67 = .ok (.iaload, 1) := by decide +kernel
theorem dX3_growSets_68 : decode cX3_growSets 68 = .ok (.iload_n 1, 1) := by decide +kernel
theorem dX3_growSets_69 : decode cX3_growSets 69 = .ok (.iload_n 3, 1) := by decide +kernel
theorem dX3_growSets_70 : decode cX3_growSets 70 = .ok (.invokevirtual 109, 3) := by decide +kernel
theorem dX3_growSets_73 : decode cX3_growSets 73 = .ok (.aload_n 0, 1) := by decide +kernel
theorem dX3_growSets_74 : decode cX3_growSets 74 = .ok (.iload 5, 2) := by decide +kernel
theorem dX3_growSets_76 : decode cX3_growSets 76 = .ok (.iload 6, 2) := by decide +kernel
theorem dX3_growSets_78 : decode cX3_growSets 78 = .ok (.iload 7, 2) := by decide +kernel
theorem dX3_growSets_80 : decode cX3_growSets 80 = .ok (.iload_n 1, 1) := by decide +kernel
theorem dX3_growSets_81 : decode cX3_growSets 81 = .ok (.iload_n 3, 1) := by decide +kernel
theorem dX3_growSets_82 : decode cX3_growSets 82 = .ok (.invokevirtual 109, 3) := by decide +kernel
theorem dX3_growSets_85 : decode cX3_growSets 85 = .ok (.iinc 4 1, 3) := by decide +kernel
theorem dX3_growSets_88 : decode cX3_growSets 88 = .ok (.goto (-85), 3) := by decide +kernel
theorem dX3_growSets_91 : decode cX3_growSets 91 = .ok (.return_, 1) := by decide +kernel
theorem dX3_joinPlace_0 : decode cX3_joinPlace 0 = .ok (.iload_n 2, 1) := by decide +kernel
theorem dX3_joinPlace_1 : decode cX3_joinPlace 1 = .ok (.ldc 87, 2) := by decide +kernel
theorem dX3_joinPlace_3 : decode cX3_joinPlace 3 = .ok (.if_icmp .eq 16, 3) := by decide +kernel
theorem dX3_joinPlace_6 : decode cX3_joinPlace 6 = .ok (.iload_n 2, 1) := by decide +kernel
theorem dX3_joinPlace_7 : decode cX3_joinPlace 7 = .ok (.iload 5, 2) := by decide +kernel
theorem dX3_joinPlace_9 : decode cX3_joinPlace 9 = .ok (.iadd, 1) := by decide +kernel
theorem dX3_joinPlace_10 : decode cX3_joinPlace 10 = .ok (.aload_n 0, 1) := by decide +kernel
theorem dX3_joinPlace_11 : decode cX3_joinPlace 11 = .ok (.getfield 15, 3) := by decide +kernel
theorem dX3_joinPlace_14 : decode cX3_joinPlace 14 = .ok (.iload_n 1, 1) := by decide +kernel
theorem dX3_joinPlace_15 : decode cX3_joinPlace 15 = .ok (.iaload, 1) := by decide +kernel
theorem dX3_joinPlace_16 : decode cX3_joinPlace 16 = .ok (.if_icmp .lt 4, 3) := by decide +kernel
theorem dX3_joinPlace_19 : decode cX3_joinPlace 19 = .ok (.return_, 1) := by decide +kernel
theorem dX3_joinPlace_20 : decode cX3_joinPlace 20 = .ok (.aload_n 0, 1) := by decide +kernel
theorem dX3_joinPlace_21 : decode cX3_joinPlace 21 = .ok (.getfield 15, 3) := by decide +kernel
theorem dX3_joinPlace_24 : decode cX3_joinPlace 24 = .ok (.iload_n 1, 1) := by decide +kernel
theorem dX3_joinPlace_25 : decode cX3_joinPlace 25 = .ok (.iload_n 2, 1) := by decide +kernel
theorem dX3_joinPlace_26 : decode cX3_joinPlace 26 = .ok (.iload 5, 2) := by decide +kernel
theorem dX3_joinPlace_28 : decode cX3_joinPlace 28 = .ok (.iadd, 1) := by decide +kernel
theorem dX3_joinPlace_29 : decode cX3_joinPlace 29 = .ok (.iastore, 1) := by decide +kernel
theorem dX3_joinPlace_30 : decode cX3_joinPlace 30 = .ok (.aload_n 0, 1) := by decide +kernel
theorem dX3_joinPlace_31 : decode cX3_joinPlace 31 = .ok (.getfield 18, 3) := by decide +kernel
theorem dX3_joinPlace_34 : decode cX3_joinPlace 34 = .ok (.iload_n 1, 1) := by decide +kernel
theorem dX3_joinPlace_35 : decode cX3_joinPlace 35 = .ok (.iload_n 3, 1) := by decide +kernel
theorem dX3_joinPlace_36 : decode cX3_joinPlace 36 = .ok (.iconst 1, 1) := by decide +kernel
theorem dX3_joinPlace_37 : decode cX3_joinPlace 37 = .ok (.iload 4, 2) := by decide +kernel
theorem dX3_joinPlace_39 : decode cX3_joinPlace 39 = .ok (.ishl, 1) := by decide +kernel
theorem dX3_joinPlace_40 : decode cX3_joinPlace 40 = .ok (.ior, 1) := by decide +kernel
theorem dX3_joinPlace_41 : decode cX3_joinPlace 41 = .ok (.iastore, 1) := by decide +kernel
theorem dX3_joinPlace_42 : decode cX3_joinPlace 42 = .ok (.return_, 1) := by decide +kernel
theorem dX3_countReached_0 : decode cX3_countReached 0 = .ok (.iconst 0, 1) := by decide +kernel
theorem dX3_countReached_1 : decode cX3_countReached 1 = .ok (.istore_n 1, 1) := by decide +kernel
theorem dX3_countReached_2 : decode cX3_countReached 2 = .ok (.aload_n 0, 1) := by decide +kernel
theorem dX3_countReached_3 : decode cX3_countReached 3 = .ok (.getfield 15, 3) := by decide +kernel
theorem dX3_countReached_6 : decode cX3_countReached 6 = .ok (.astore_n 2, 1) := by decide +kernel
theorem dX3_countReached_7 : decode cX3_countReached 7 = .ok (.aload_n 2, 1) := by decide +kernel
theorem dX3_countReached_8 : decode cX3_countReached 8 = .ok (.arraylength, 1) := by decide +kernel
theorem dX3_countReached_9 : decode cX3_countReached 9 = .ok (.istore_n 3, 1) := by decide +kernel
theorem dX3_countReached_10 : decode cX3_countReached 10 = .ok (.iconst 0, 1) := by decide +kernel
theorem dX3_countReached_11 : decode cX3_countReached 11 = .ok (.istore 4, 2) := by decide +kernel
theorem dX3_countReached_13 : decode cX3_countReached 13 = .ok (.iload 4, 2) := by decide +kernel
theorem dX3_countReached_15 : decode cX3_countReached 15 = .ok (.iload_n 3, 1) := by decide +kernel
theorem dX3_countReached_16 : decode cX3_countReached 16 = .ok (.if_icmp .ge 25, 3) := by decide +kernel
theorem dX3_countReached_19 : decode cX3_countReached 19 = .ok (.aload_n 2, 1) := by decide +kernel
theorem dX3_countReached_20 : decode cX3_countReached 20 = .ok (.iload 4, 2) := by decide +kernel
theorem dX3_countReached_22 : decode cX3_countReached 22 = .ok (.iaload, 1) := by decide +kernel
theorem dX3_countReached_23 : decode cX3_countReached 23 = .ok (.istore 5, 2) := by decide +kernel
theorem dX3_countReached_25 : decode cX3_countReached 25 = .ok (.iload 5, 2) := by decide +kernel
theorem dX3_countReached_27 : decode cX3_countReached 27 = .ok (.ldc 87, 2) := by decide +kernel
theorem dX3_countReached_29 : decode cX3_countReached 29 = .ok (.if_icmp .eq 6, 3) := by decide +kernel
theorem dX3_countReached_32 : decode cX3_countReached 32 = .ok (.iinc 1 1, 3) := by decide +kernel
theorem dX3_countReached_35 : decode cX3_countReached 35 = .ok (.iinc 4 1, 3) := by decide +kernel
theorem dX3_countReached_38 : decode cX3_countReached 38 = .ok (.goto (-25), 3) := by decide +kernel
theorem dX3_countReached_41 : decode cX3_countReached 41 = .ok (.iload_n 1, 1) := by decide +kernel
theorem dX3_countReached_42 : decode cX3_countReached 42 = .ok (.ireturn, 1) := by decide +kernel
theorem dX3_sumOfCosts_0 : decode cX3_sumOfCosts 0 = .ok (.iconst 0, 1) := by decide +kernel
theorem dX3_sumOfCosts_1 : decode cX3_sumOfCosts 1 = .ok (.istore_n 1, 1) := by decide +kernel
theorem dX3_sumOfCosts_2 : decode cX3_sumOfCosts 2 = .ok (.aload_n 0, 1) := by decide +kernel
theorem dX3_sumOfCosts_3 : decode cX3_sumOfCosts 3 = .ok (.getfield 15, 3) := by decide +kernel
theorem dX3_sumOfCosts_6 : decode cX3_sumOfCosts 6 = .ok (.astore_n 2, 1) := by decide +kernel
theorem dX3_sumOfCosts_7 : decode cX3_sumOfCosts 7 = .ok (.aload_n 2, 1) := by decide +kernel
theorem dX3_sumOfCosts_8 : decode cX3_sumOfCosts 8 = .ok (.arraylength, 1) := by decide +kernel
theorem dX3_sumOfCosts_9 : decode cX3_sumOfCosts 9 = .ok (.istore_n 3, 1) := by decide +kernel
theorem dX3_sumOfCosts_10 : decode cX3_sumOfCosts 10 = .ok (.iconst 0, 1) := by decide +kernel
theorem dX3_sumOfCosts_11 : decode cX3_sumOfCosts 11 = .ok (.istore 4, 2) := by decide +kernel
theorem dX3_sumOfCosts_13 : decode cX3_sumOfCosts 13 = .ok (.iload 4, 2) := by decide +kernel
theorem dX3_sumOfCosts_15 : decode cX3_sumOfCosts 15 = .ok (.iload_n 3, 1) := by decide +kernel
theorem dX3_sumOfCosts_16 : decode cX3_sumOfCosts 16 = .ok (.if_icmp .ge 27, 3) := by decide +kernel
theorem dX3_sumOfCosts_19 : decode cX3_sumOfCosts 19 = .ok (.aload_n 2, 1) := by decide +kernel
theorem dX3_sumOfCosts_20 : decode cX3_sumOfCosts 20 = .ok (.iload 4, 2) := by decide +kernel
theorem dX3_sumOfCosts_22 : decode cX3_sumOfCosts 22 = .ok (.iaload, 1) := by decide +kernel
theorem dX3_sumOfCosts_23 : decode cX3_sumOfCosts 23 = .ok (.istore 5, 2) := by decide +kernel
theorem dX3_sumOfCosts_25 : decode cX3_sumOfCosts 25 = .ok (.iload 5, 2) := by decide +kernel
theorem dX3_sumOfCosts_27 : decode cX3_sumOfCosts 27 = .ok (.ldc 87, 2) := by decide +kernel
theorem dX3_sumOfCosts_29 : decode cX3_sumOfCosts 29 = .ok (.if_icmp .eq 8, 3) := by decide +kernel
theorem dX3_sumOfCosts_32 : decode cX3_sumOfCosts 32 = .ok (.iload_n 1, 1) := by decide +kernel
theorem dX3_sumOfCosts_33 : decode cX3_sumOfCosts 33 = .ok (.iload 5, 2) := by decide +kernel
theorem dX3_sumOfCosts_35 : decode cX3_sumOfCosts 35 = .ok (.iadd, 1) := by decide +kernel
theorem dX3_sumOfCosts_36 : decode cX3_sumOfCosts 36 = .ok (.istore_n 1, 1) := by decide +kernel
theorem dX3_sumOfCosts_37 : decode cX3_sumOfCosts 37 = .ok (.iinc 4 1, 3) := by decide +kernel
theorem dX3_sumOfCosts_40 : decode cX3_sumOfCosts 40 = .ok (.goto (-27), 3) := by decide +kernel
theorem dX3_sumOfCosts_43 : decode cX3_sumOfCosts 43 = .ok (.iload_n 1, 1) := by decide +kernel
theorem dX3_sumOfCosts_44 : decode cX3_sumOfCosts 44 = .ok (.ireturn, 1) := by decide +kernel
theorem dX3_mostCost_0 : decode cX3_mostCost 0 = .ok (.iconst 0, 1) := by decide +kernel
theorem dX3_mostCost_1 : decode cX3_mostCost 1 = .ok (.istore_n 1, 1) := by decide +kernel
theorem dX3_mostCost_2 : decode cX3_mostCost 2 = .ok (.aload_n 0, 1) := by decide +kernel
theorem dX3_mostCost_3 : decode cX3_mostCost 3 = .ok (.getfield 15, 3) := by decide +kernel
theorem dX3_mostCost_6 : decode cX3_mostCost 6 = .ok (.astore_n 2, 1) := by decide +kernel
theorem dX3_mostCost_7 : decode cX3_mostCost 7 = .ok (.aload_n 2, 1) := by decide +kernel
theorem dX3_mostCost_8 : decode cX3_mostCost 8 = .ok (.arraylength, 1) := by decide +kernel
theorem dX3_mostCost_9 : decode cX3_mostCost 9 = .ok (.istore_n 3, 1) := by decide +kernel
theorem dX3_mostCost_10 : decode cX3_mostCost 10 = .ok (.iconst 0, 1) := by decide +kernel
theorem dX3_mostCost_11 : decode cX3_mostCost 11 = .ok (.istore 4, 2) := by decide +kernel
theorem dX3_mostCost_13 : decode cX3_mostCost 13 = .ok (.iload 4, 2) := by decide +kernel
theorem dX3_mostCost_15 : decode cX3_mostCost 15 = .ok (.iload_n 3, 1) := by decide +kernel
theorem dX3_mostCost_16 : decode cX3_mostCost 16 = .ok (.if_icmp .ge 29, 3) := by decide +kernel
theorem dX3_mostCost_19 : decode cX3_mostCost 19 = .ok (.aload_n 2, 1) := by decide +kernel
theorem dX3_mostCost_20 : decode cX3_mostCost 20 = .ok (.iload 4, 2) := by decide +kernel
theorem dX3_mostCost_22 : decode cX3_mostCost 22 = .ok (.iaload, 1) := by decide +kernel
theorem dX3_mostCost_23 : decode cX3_mostCost 23 = .ok (.istore 5, 2) := by decide +kernel
theorem dX3_mostCost_25 : decode cX3_mostCost 25 = .ok (.iload 5, 2) := by decide +kernel
theorem dX3_mostCost_27 : decode cX3_mostCost 27 = .ok (.ldc 87, 2) := by decide +kernel
theorem dX3_mostCost_29 : decode cX3_mostCost 29 = .ok (.if_icmp .eq 10, 3) := by decide +kernel
theorem dX3_mostCost_32 : decode cX3_mostCost 32 = .ok (.iload_n 1, 1) := by decide +kernel
theorem dX3_mostCost_33 : decode cX3_mostCost 33 = .ok (.iload 5, 2) := by decide +kernel
theorem dX3_mostCost_35 : decode cX3_mostCost 35 = .ok (.invokestatic 113, 3) := by decide +kernel
theorem dX3_mostCost_38 : decode cX3_mostCost 38 = .ok (.istore_n 1, 1) := by decide +kernel
theorem dX3_mostCost_39 : decode cX3_mostCost 39 = .ok (.iinc 4 1, 3) := by decide +kernel
theorem dX3_mostCost_42 : decode cX3_mostCost 42 = .ok (.goto (-29), 3) := by decide +kernel
theorem dX3_mostCost_45 : decode cX3_mostCost 45 = .ok (.iload_n 1, 1) := by decide +kernel
theorem dX3_mostCost_46 : decode cX3_mostCost 46 = .ok (.ireturn, 1) := by decide +kernel
theorem dX4_init_0 : decode cX4_init 0 = .ok (.aload_n 0, 1) := by decide +kernel
theorem dX4_init_1 : decode cX4_init 1 = .ok (.invokespecial 3, 3) := by decide +kernel
theorem dX4_init_4 : decode cX4_init 4 = .ok (.aload_n 0, 1) := by decide +kernel
theorem dX4_init_5 : decode cX4_init 5 = .ok (.bipush 40, 2) := by decide +kernel
theorem dX4_init_7 : decode cX4_init 7 = .ok (.newarray .int, 2) := by decide +kernel
theorem dX4_init_9 : decode cX4_init 9 = .ok (.putfield 9, 3) := by decide +kernel
theorem dX4_init_12 : decode cX4_init 12 = .ok (.aload_n 0, 1) := by decide +kernel
theorem dX4_init_13 : decode cX4_init 13 = .ok (.aconst_null, 1) := by decide +kernel
theorem dX4_init_14 : decode cX4_init 14 = .ok (.putfield 15, 3) := by decide +kernel
theorem dX4_init_17 : decode cX4_init 17 = .ok (.return_, 1) := by decide +kernel
theorem dX4_signBy_0 : decode cX4_signBy 0 = .ok (.iload_n 1, 1) := by decide +kernel
theorem dX4_signBy_1 : decode cX4_signBy 1 = .ok (.istore_n 2, 1) := by decide +kernel
theorem dX4_signBy_2 : decode cX4_signBy 2 = .ok (.iconst 0, 1) := by decide +kernel
theorem dX4_signBy_3 : decode cX4_signBy 3 = .ok (.istore_n 3, 1) := by decide +kernel
theorem dX4_signBy_4 : decode cX4_signBy 4 = .ok (.iload_n 3, 1) := by decide +kernel
theorem dX4_signBy_5 : decode cX4_signBy 5 = .ok (.aload_n 0, 1) := by decide +kernel
theorem dX4_signBy_6 : decode cX4_signBy 6 = .ok (.getfield 9, 3) := by decide +kernel
theorem dX4_signBy_9 : decode cX4_signBy 9 = .ok (.arraylength, 1) := by decide +kernel
theorem dX4_signBy_10 : decode cX4_signBy 10 = .ok (.if_icmp .ge 35, 3) := by decide +kernel
theorem dX4_signBy_13 : decode cX4_signBy 13 = .ok (.iload_n 2, 1) := by decide +kernel
theorem dX4_signBy_14 : decode cX4_signBy 14 = .ok (.invokestatic 19, 3) := by decide +kernel
theorem dX4_signBy_17 : decode cX4_signBy 17 = .ok (.istore_n 2, 1) := by decide +kernel
theorem dX4_signBy_18 : decode cX4_signBy 18 = .ok (.aload_n 0, 1) := by decide +kernel
theorem dX4_signBy_19 : decode cX4_signBy 19 = .ok (.getfield 9, 3) := by decide +kernel
theorem dX4_signBy_22 : decode cX4_signBy 22 = .ok (.iload_n 3, 1) := by decide +kernel
theorem dX4_signBy_23 : decode cX4_signBy 23 = .ok (.iload_n 2, 1) := by decide +kernel
theorem dX4_signBy_24 : decode cX4_signBy 24 = .ok (.invokestatic 23, 3) := by decide +kernel
theorem dX4_signBy_27 : decode cX4_signBy 27 = .ok (.iconst 2, 1) := by decide +kernel
theorem dX4_signBy_28 : decode cX4_signBy 28 = .ok (.irem, 1) := by decide +kernel
theorem dX4_signBy_29 : decode cX4_signBy 29 = .ok (.iconst 1, 1) := by decide +kernel
theorem dX4_signBy_30 : decode cX4_signBy 30 = .ok (.if_icmp .ne 7, 3) := by decide +kernel
theorem dX4_signBy_33 : decode cX4_signBy 33 = .ok (.iconst 1, 1) := by decide +kernel
theorem dX4_signBy_34 : decode cX4_signBy 34 = .ok (.goto 4, 3) := by decide +kernel
theorem dX4_signBy_37 : decode cX4_signBy 37 = .ok (.iconst (-1), 1) := by decide +kernel
theorem dX4_signBy_38 : decode cX4_signBy 38 = .ok (.iastore, 1) := by decide +kernel
theorem dX4_signBy_39 : decode cX4_signBy 39 = .ok (.iinc 3 1, 3) := by decide +kernel
theorem dX4_signBy_42 : decode cX4_signBy 42 = .ok (.goto (-38), 3) := by decide +kernel
theorem dX4_signBy_45 : decode cX4_signBy 45 = .ok (.return_, 1) := by decide +kernel
theorem dX4_signAt_0 : decode cX4_signAt 0 = .ok (.iload_n 1, 1) := by decide +kernel
theorem dX4_signAt_1 : decode cX4_signAt 1 = .ok (.ifCond .lt 21, 3) := by decide +kernel
theorem dX4_signAt_4 : decode cX4_signAt 4 = .ok (.iload_n 1, 1) := by decide +kernel
theorem dX4_signAt_5 : decode cX4_signAt 5 = .ok (.aload_n 0, 1) := by decide +kernel
theorem dX4_signAt_6 : decode cX4_signAt 6 = .ok (.getfield 9, 3) := by decide +kernel
theorem dX4_signAt_9 : decode cX4_signAt 9 = .ok (.arraylength, 1) := by decide +kernel
theorem dX4_signAt_10 : decode cX4_signAt 10 = .ok (.if_icmp .ge 12, 3) := by decide +kernel
theorem dX4_signAt_13 : decode cX4_signAt 13 = .ok (.aload_n 0, 1) := by decide +kernel
theorem dX4_signAt_14 : decode cX4_signAt 14 = .ok (.getfield 9, 3) := by decide +kernel
theorem dX4_signAt_17 : decode cX4_signAt 17 = .ok (.iload_n 1, 1) := by decide +kernel
theorem dX4_signAt_18 : decode cX4_signAt 18 = .ok (.iaload, 1) := by decide +kernel
theorem dX4_signAt_19 : decode cX4_signAt 19 = .ok (.goto 4, 3) := by decide +kernel
theorem dX4_signAt_22 : decode cX4_signAt 22 = .ok (.iconst 0, 1) := by decide +kernel
theorem dX4_signAt_23 : decode cX4_signAt 23 = .ok (.ireturn, 1) := by decide +kernel
theorem dX4_sumOver_0 : decode cX4_sumOver 0 = .ok (.aload_n 1, 1) := by decide +kernel
theorem dX4_sumOver_1 : decode cX4_sumOver 1 = .ok (.getfield 26, 3) := by decide +kernel
theorem dX4_sumOver_4 : decode cX4_sumOver 4 = .ok (.iconst 1, 1) := by decide +kernel
theorem dX4_sumOver_5 : decode cX4_sumOver 5 = .ok (.if_icmp .ge 5, 3) := by decide +kernel
theorem dX4_sumOver_8 : decode cX4_sumOver 8 = .ok (.iconst 0, 1) := by decide +kernel
theorem dX4_sumOver_9 : decode cX4_sumOver 9 = .ok (.ireturn, 1) := by decide +kernel
theorem dX4_sumOver_10 : decode cX4_sumOver 10 = .ok (.iconst 0, 1) := by decide +kernel
theorem dX4_sumOver_11 : decode cX4_sumOver 11 = .ok (.istore_n 3, 1) := by decide +kernel
theorem dX4_sumOver_12 : decode cX4_sumOver 12 = .ok (.iconst 0, 1) := by decide +kernel
theorem dX4_sumOver_13 : decode cX4_sumOver 13 = .ok (.istore 4, 2) := by decide +kernel
theorem dX4_sumOver_15 : decode cX4_sumOver 15 = .ok (.iload 4, 2) := by decide +kernel
theorem dX4_sumOver_17 : decode cX4_sumOver 17 = .ok (.aload_n 1, 1) := by decide +kernel
theorem dX4_sumOver_18 : decode cX4_sumOver 18 = .ok (.getfield 26, 3) := by decide +kernel
theorem dX4_sumOver_21 : decode cX4_sumOver 21 = .ok (.if_icmp .ge 32, 3) := by decide +kernel
theorem dX4_sumOver_24 : decode cX4_sumOver 24 = .ok (.iload_n 3, 1) := by decide +kernel
theorem dX4_sumOver_25 : decode cX4_sumOver 25 = .ok (.aload_n 1, 1) := by decide +kernel
theorem dX4_sumOver_26 : decode cX4_sumOver 26 = .ok (.iload 4, 2) := by decide +kernel
theorem dX4_sumOver_28 : decode cX4_sumOver 28 = .ok (.invokevirtual 32, 3) := by decide +kernel
theorem dX4_sumOver_31 : decode cX4_sumOver 31 = .ok (.aload_n 0, 1) := by decide +kernel
theorem dX4_sumOver_32 : decode cX4_sumOver 32 = .ok (.iload 4, 2) := by decide +kernel
theorem dX4_sumOver_34 : decode cX4_sumOver 34 = .ok (.iload_n 2, 1) := by decide +kernel
theorem dX4_sumOver_35 : decode cX4_sumOver 35 = .ok (.iadd, 1) := by decide +kernel
theorem dX4_sumOver_36 : decode cX4_sumOver 36 = .ok (.aload_n 1, 1) := by decide +kernel
theorem dX4_sumOver_37 : decode cX4_sumOver 37 = .ok (.getfield 26, 3) := by decide +kernel
theorem dX4_sumOver_40 : decode cX4_sumOver 40 = .ok (.irem, 1) := by decide +kernel
theorem dX4_sumOver_41 : decode cX4_sumOver 41 = .ok (.invokevirtual 35, 3) := by decide +kernel
theorem dX4_sumOver_44 : decode cX4_sumOver 44 = .ok (.imul, 1) := by decide +kernel
theorem dX4_sumOver_45 : decode cX4_sumOver 45 = .ok (.iadd, 1) := by decide +kernel
theorem dX4_sumOver_46 : decode cX4_sumOver 46 = .ok (.istore_n 3, 1) := by decide +kernel
theorem dX4_sumOver_47 : decode cX4_sumOver 47 = .ok (.iinc 4 1, 3) := by decide +kernel
theorem dX4_sumOver_50 : decode cX4_sumOver 50 = .ok (.goto (-35), 3) := by decide +kernel
theorem dX4_sumOver_53 : decode cX4_sumOver 53 = .ok (.iload_n 3, 1) := by decide +kernel
theorem dX4_sumOver_54 : decode cX4_sumOver 54 = .ok (.ireturn, 1) := by decide +kernel
theorem dX4_countAsGreat_0 : decode cX4_countAsGreat 0 = .ok (.lconst 1, 1) := by decide +kernel
theorem dX4_countAsGreat_1 : decode cX4_countAsGreat 1 = .ok (.aload_n 1, 1) := by decide +kernel
theorem dX4_countAsGreat_2 : decode cX4_countAsGreat 2 = .ok (.getfield 26, 3) := by decide +kernel
theorem dX4_countAsGreat_5 : decode cX4_countAsGreat 5 = .ok (.lshl, 1) := by decide +kernel
theorem dX4_countAsGreat_6 : decode cX4_countAsGreat 6 = .ok (.lstore_n 3, 1) := by decide +kernel
theorem dX4_countAsGreat_7 : decode cX4_countAsGreat 7 = .ok (.aload_n 1, 1) := by decide +kernel
theorem dX4_countAsGreat_8 : decode cX4_countAsGreat 8 = .ok (.invokevirtual 38, 3) := by decide +kernel
theorem dX4_countAsGreat_11 : decode cX4_countAsGreat 11 = .ok (.istore 5, 2) := by decide +kernel
theorem dX4_countAsGreat_13 : decode cX4_countAsGreat 13 = .ok (.iload_n 2, 1) := by decide +kernel
theorem dX4_countAsGreat_14 : decode cX4_countAsGreat 14 = .ok (.iload 5, 2) := by decide +kernel
theorem dX4_countAsGreat_16 : decode cX4_countAsGreat 16 = .ok (.iadd, 1) := by decide +kernel
theorem dX4_countAsGreat_17 : decode cX4_countAsGreat 17 = .ok (.iconst 1, 1) := by decide +kernel
theorem dX4_countAsGreat_18 : decode cX4_countAsGreat 18 = .ok (.iadd, 1) := by decide +kernel
theorem dX4_countAsGreat_19 : decode cX4_countAsGreat 19 = .ok (.iconst 2, 1) := by decide +kernel
theorem dX4_countAsGreat_20 : decode cX4_countAsGreat 20 = .ok (.invokestatic 42, 3) := by decide +kernel
theorem dX4_countAsGreat_23 : decode cX4_countAsGreat 23 = .ok (.istore 6, 2) := by decide +kernel
theorem dX4_countAsGreat_25 : decode cX4_countAsGreat 25 = .ok (.iload 6, 2) := by decide +kernel
theorem dX4_countAsGreat_27 : decode cX4_countAsGreat 27 = .ok (.ifCond .gt 5, 3) := by decide +kernel
theorem dX4_countAsGreat_30 : decode cX4_countAsGreat 30 = .ok (.lload_n 3, 1) := by decide +kernel
theorem dX4_countAsGreat_31 : decode cX4_countAsGreat 31 = .ok (.lreturn, 1) := by decide +kernel
theorem dX4_countAsGreat_32 : decode cX4_countAsGreat 32 = .ok (.iload 6, 2) := by decide +kernel
theorem dX4_countAsGreat_34 : decode cX4_countAsGreat 34 = .ok (.iconst 1, 1) := by decide +kernel
theorem dX4_countAsGreat_35 : decode cX4_countAsGreat 35 = .ok (.isub, 1) := by decide +kernel
theorem dX4_countAsGreat_36 : decode cX4_countAsGreat 36 = .ok (.iload 5, 2) := by decide +kernel
theorem dX4_countAsGreat_38 : decode cX4_countAsGreat 38 = .ok (.iload 6, 2) := by decide +kernel
theorem dX4_countAsGreat_40 : decode cX4_countAsGreat 40 = .ok (.isub, 1) := by decide +kernel
theorem dX4_countAsGreat_41 : decode cX4_countAsGreat 41 = .ok (.if_icmp .ge 17, 3) := by decide +kernel
theorem dX4_countAsGreat_44 : decode cX4_countAsGreat 44 = .ok (.lload_n 3, 1) := by decide +kernel
theorem dX4_countAsGreat_45 : decode cX4_countAsGreat 45 = .ok (.aload_n 0, 1) := by decide +kernel
theorem dX4_countAsGreat_46 : decode cX4_countAsGreat 46 = .ok (.aload_n 1, 1) := by decide +kernel
theorem dX4_countAsGreat_47 : decode cX4_countAsGreat 47 = .ok (.iload 6, 2) := by decide +kernel
theorem dX4_countAsGreat_49 : decode cX4_countAsGreat 49 = .ok (.iconst 1, 1) := by decide +kernel
theorem dX4_countAsGreat_50 : decode cX4_countAsGreat 50 = .ok (.isub, 1) := by decide +kernel
theorem dX4_countAsGreat_51 : decode cX4_countAsGreat 51 = .ok (.invokevirtual 48, 3) := by decide +kernel
theorem dX4_countAsGreat_54 : decode cX4_countAsGreat 54 = .ok (.lsub, 1) := by decide +kernel
theorem dX4_countAsGreat_55 : decode cX4_countAsGreat 55 = .ok (.goto 13, 3) := by decide +kernel
theorem dX4_countAsGreat_58 : decode cX4_countAsGreat 58 = .ok (.aload_n 0, 1) := by decide +kernel
theorem dX4_countAsGreat_59 : decode cX4_countAsGreat 59 = .ok (.aload_n 1, 1) := by decide +kernel
theorem dX4_countAsGreat_60 : decode cX4_countAsGreat 60 = .ok (.iload 5, 2) := by decide +kernel
theorem dX4_countAsGreat_62 : decode cX4_countAsGreat 62 = .ok (.iload 6, 2) := by decide +kernel
theorem dX4_countAsGreat_64 : decode cX4_countAsGreat 64 = .ok (.isub, 1) := by decide +kernel
theorem dX4_countAsGreat_65 : decode cX4_countAsGreat 65 = .ok (.invokevirtual 48, 3) := by decide +kernel
theorem dX4_countAsGreat_68 : decode cX4_countAsGreat 68 = .ok (.lreturn, 1) := by decide +kernel
theorem dX4_countUpTo_0 : decode cX4_countUpTo 0 = .ok (.aload_n 0, 1) := by decide +kernel
theorem dX4_countUpTo_1 : decode cX4_countUpTo 1 = .ok (.getfield 15, 3) := by decide +kernel
theorem dX4_countUpTo_4 : decode cX4_countUpTo 4 = .ok (.ifnonnull 12, 3) := by decide +kernel
theorem dX4_countUpTo_7 : decode cX4_countUpTo 7 = .ok (.aload_n 0, 1) := by decide +kernel
theorem dX4_countUpTo_8 : decode cX4_countUpTo 8 = .ok (.sipush 5101, 3) := by decide +kernel
theorem dX4_countUpTo_11 : decode cX4_countUpTo 11 = .ok (.newarray .long, 2) := by decide +kernel
theorem dX4_countUpTo_13 : decode cX4_countUpTo 13 = .ok (.putfield 15, 3) := by decide +kernel
theorem dX4_countUpTo_16 : decode cX4_countUpTo 16 = .ok (.iload_n 2, 1) := by decide +kernel
theorem dX4_countUpTo_17 : decode cX4_countUpTo 17 = .ok (.ifCond .lt 12, 3) := by decide +kernel
theorem dX4_countUpTo_20 : decode cX4_countUpTo 20 = .ok (.iload_n 2, 1) := by decide +kernel
theorem dX4_countUpTo_21 : decode cX4_countUpTo 21 = .ok (.aload_n 0, 1) := by decide +kernel
theorem dX4_countUpTo_22 : decode cX4_countUpTo 22 = .ok (.getfield 15, 3) := by decide +kernel
theorem dX4_countUpTo_25 : decode cX4_countUpTo 25 = .ok (.arraylength, 1) := by decide +kernel
theorem dX4_countUpTo_26 : decode cX4_countUpTo 26 = .ok (.if_icmp .lt 5, 3) := by decide +kernel
theorem dX4_countUpTo_29 : decode cX4_countUpTo 29 = .ok (.lconst 0, 1) := by decide +kernel
theorem dX4_countUpTo_30 : decode cX4_countUpTo 30 = .ok (.lreturn, 1) := by decide +kernel
theorem dX4_countUpTo_31 : decode cX4_countUpTo 31 = .ok (.aload_n 0, 1) := by decide +kernel
theorem dX4_countUpTo_32 : decode cX4_countUpTo 32 = .ok (.getfield 15, 3) := by decide +kernel
theorem dX4_countUpTo_35 : decode cX4_countUpTo 35 = .ok (.iconst 0, 1) := by decide +kernel
theorem dX4_countUpTo_36 : decode cX4_countUpTo 36 = .ok (.iload_n 2, 1) := by decide +kernel
theorem dX4_countUpTo_37 : decode cX4_countUpTo 37 = .ok (.iconst 1, 1) := by decide +kernel
theorem dX4_countUpTo_38 : decode cX4_countUpTo 38 = .ok (.iadd, 1) := by decide +kernel
theorem dX4_countUpTo_39 : decode cX4_countUpTo 39 = .ok (.lconst 0, 1) := by decide +kernel
theorem dX4_countUpTo_40 : decode cX4_countUpTo 40 = .ok (.invokestatic 52, 3) := by decide +kernel
theorem dX4_countUpTo_43 : decode cX4_countUpTo 43 = .ok (.aload_n 0, 1) := by decide +kernel
theorem dX4_countUpTo_44 : decode cX4_countUpTo 44 = .ok (.getfield 15, 3) := by decide +kernel
theorem dX4_countUpTo_47 : decode cX4_countUpTo 47 = .ok (.iconst 0, 1) := by decide +kernel
theorem dX4_countUpTo_48 : decode cX4_countUpTo 48 = .ok (.lconst 1, 1) := by decide +kernel
theorem dX4_countUpTo_49 : decode cX4_countUpTo 49 = .ok (.lastore, 1) := by decide +kernel
theorem dX4_countUpTo_50 : decode cX4_countUpTo 50 = .ok (.iconst 0, 1) := by decide +kernel
theorem dX4_countUpTo_51 : decode cX4_countUpTo 51 = .ok (.istore_n 3, 1) := by decide +kernel
theorem dX4_countUpTo_52 : decode cX4_countUpTo 52 = .ok (.iconst 0, 1) := by decide +kernel
theorem dX4_countUpTo_53 : decode cX4_countUpTo 53 = .ok (.istore 4, 2) := by decide +kernel
theorem dX4_countUpTo_55 : decode cX4_countUpTo 55 = .ok (.iload 4, 2) := by decide +kernel
theorem dX4_countUpTo_57 : decode cX4_countUpTo 57 = .ok (.aload_n 1, 1) := by decide +kernel
theorem dX4_countUpTo_58 : decode cX4_countUpTo 58 = .ok (.getfield 26, 3) := by decide +kernel
theorem dX4_countUpTo_61 : decode cX4_countUpTo 61 = .ok (.if_icmp .ge 67, 3) := by decide +kernel
theorem dX4_countUpTo_64 : decode cX4_countUpTo 64 = .ok (.aload_n 1, 1) := by decide +kernel
theorem dX4_countUpTo_65 : decode cX4_countUpTo 65 = .ok (.iload 4, 2) := by decide +kernel
theorem dX4_countUpTo_67 : decode cX4_countUpTo 67 = .ok (.invokevirtual 32, 3) := by decide +kernel
theorem dX4_countUpTo_70 : decode cX4_countUpTo 70 = .ok (.istore 5, 2) := by decide +kernel
theorem dX4_countUpTo_72 : decode cX4_countUpTo 72 = .ok (.iload_n 2, 1) := by decide +kernel
theorem dX4_countUpTo_73 : decode cX4_countUpTo 73 = .ok (.iload_n 3, 1) := by decide +kernel
theorem dX4_countUpTo_74 : decode cX4_countUpTo 74 = .ok (.iload 5, 2) := by decide +kernel
theorem dX4_countUpTo_76 : decode cX4_countUpTo 76 = .ok (.iadd, 1) := by decide +kernel
theorem dX4_countUpTo_77 : decode cX4_countUpTo 77 = .ok (.invokestatic 58, 3) := by decide +kernel
theorem dX4_countUpTo_80 : decode cX4_countUpTo 80 = .ok (.istore_n 3, 1) := by decide +kernel
theorem dX4_countUpTo_81 : decode cX4_countUpTo 81 = .ok (.iload_n 3, 1) := by decide +kernel
theorem dX4_countUpTo_82 : decode cX4_countUpTo 82 = .ok (.istore 6, 2) := by decide +kernel
theorem dX4_countUpTo_84 : decode cX4_countUpTo 84 = .ok (.iload 6, 2) := by decide +kernel
theorem dX4_countUpTo_86 : decode cX4_countUpTo 86 = .ok (.iload 5, 2) := by decide +kernel
theorem dX4_countUpTo_88 : decode cX4_countUpTo 88 = .ok (.if_icmp .lt 34, 3) := by decide +kernel
theorem dX4_countUpTo_91 : decode cX4_countUpTo 91 = .ok (.iload 5, 2) := by decide +kernel
theorem dX4_countUpTo_93 : decode cX4_countUpTo 93 = .ok (.ifCond .lt 29, 3) := by decide +kernel
theorem dX4_countUpTo_96 : decode cX4_countUpTo 96 = .ok (.aload_n 0, 1) := by decide +kernel
theorem dX4_countUpTo_97 : decode cX4_countUpTo 97 = .ok (.getfield 15, 3) := by decide +kernel
theorem dX4_countUpTo_100 : decode cX4_countUpTo 100 = .ok (.iload 6, 2) := by decide +kernel
theorem dX4_countUpTo_102 : decode cX4_countUpTo 102 = .ok (.dup2, 1) := by decide +kernel
theorem dX4_countUpTo_103 : decode cX4_countUpTo 103 = .ok (.laload, 1) := by decide +kernel
theorem dX4_countUpTo_104 : decode cX4_countUpTo 104 = .ok (.aload_n 0, 1) := by decide +kernel
theorem dX4_countUpTo_105 : decode cX4_countUpTo 105 = .ok (.getfield 15, 3) := by decide +kernel
theorem dX4_countUpTo_108 : decode cX4_countUpTo 108 = .ok (.iload 6, 2) := by decide +kernel
theorem dX4_countUpTo_110 : decode cX4_countUpTo 110 = .ok (.iload 5, 2) := by decide +kernel
theorem dX4_countUpTo_112 : decode cX4_countUpTo 112 = .ok (.isub, 1) := by decide +kernel
theorem dX4_countUpTo_113 : decode cX4_countUpTo 113 = .ok (.laload, 1) := by decide +kernel
theorem dX4_countUpTo_114 : decode cX4_countUpTo 114 = .ok (.ladd, 1) := by decide +kernel
theorem dX4_countUpTo_115 : decode cX4_countUpTo 115 = .ok (.lastore, 1) := by decide +kernel
theorem dX4_countUpTo_116 : decode cX4_countUpTo 116 = .ok (.iinc 6 (-1), 3) := by decide +kernel
theorem dX4_countUpTo_119 : decode cX4_countUpTo 119 = .ok (.goto (-35), 3) := by decide +kernel
theorem dX4_countUpTo_122 : decode cX4_countUpTo 122 = .ok (.iinc 4 1, 3) := by decide +kernel
theorem dX4_countUpTo_125 : decode cX4_countUpTo 125 = .ok (.goto (-70), 3) := by decide +kernel
theorem dX4_countUpTo_128 : decode cX4_countUpTo 128 = .ok (.lconst 0, 1) := by decide +kernel
theorem dX4_countUpTo_129 : decode cX4_countUpTo 129 = .ok (.lstore 4, 2) := by decide +kernel
theorem dX4_countUpTo_131 : decode cX4_countUpTo 131 = .ok (.iconst 0, 1) := by decide +kernel
theorem dX4_countUpTo_132 : decode cX4_countUpTo 132 = .ok (.istore 6, 2) := by decide +kernel
theorem dX4_countUpTo_134 : decode cX4_countUpTo 134 = .ok (.iload 6, 2) := by decide +kernel
theorem dX4_countUpTo_136 : decode cX4_countUpTo 136 = .ok (.iload_n 3, 1) := by decide +kernel
theorem dX4_countUpTo_137 : decode cX4_countUpTo 137 = .ok (.if_icmp .gt 21, 3) := by decide +kernel
theorem dX4_countUpTo_140 : decode cX4_countUpTo 140 = .ok (.lload 4, 2) := by decide +kernel
theorem dX4_countUpTo_142 : decode cX4_countUpTo 142 = .ok (.aload_n 0, 1) := by decide +kernel
theorem dX4_countUpTo_143 : decode cX4_countUpTo 143 = .ok (.getfield 15, 3) := by decide +kernel
theorem dX4_countUpTo_146 : decode cX4_countUpTo 146 = .ok (.iload 6, 2) := by decide +kernel
theorem dX4_countUpTo_148 : decode cX4_countUpTo 148 = .ok (.laload, 1) := by decide +kernel
theorem dX4_countUpTo_149 : decode cX4_countUpTo 149 = .ok (.ladd, 1) := by decide +kernel
theorem dX4_countUpTo_150 : decode cX4_countUpTo 150 = .ok (.lstore 4, 2) := by decide +kernel
theorem dX4_countUpTo_152 : decode cX4_countUpTo 152 = .ok (.iinc 6 1, 3) := by decide +kernel
theorem dX4_countUpTo_155 : decode cX4_countUpTo 155 = .ok (.goto (-21), 3) := by decide +kernel
theorem dX4_countUpTo_158 : decode cX4_countUpTo 158 = .ok (.lload 4, 2) := by decide +kernel
theorem dX4_countUpTo_160 : decode cX4_countUpTo 160 = .ok (.lreturn, 1) := by decide +kernel
theorem dX5_init_0 : decode cX5_init 0 = .ok (.aload_n 0, 1) := by decide +kernel
theorem dX5_init_1 : decode cX5_init 1 = .ok (.invokespecial 3, 3) := by decide +kernel
theorem dX5_init_4 : decode cX5_init 4 = .ok (.aload_n 0, 1) := by decide +kernel
theorem dX5_init_5 : decode cX5_init 5 = .ok (.bipush 60, 2) := by decide +kernel
theorem dX5_init_7 : decode cX5_init 7 = .ok (.newarray .int, 2) := by decide +kernel
theorem dX5_init_9 : decode cX5_init 9 = .ok (.putfield 9, 3) := by decide +kernel
theorem dX5_init_12 : decode cX5_init 12 = .ok (.aload_n 0, 1) := by decide +kernel
theorem dX5_init_13 : decode cX5_init 13 = .ok (.iconst (-1), 1) := by decide +kernel
theorem dX5_init_14 : decode cX5_init 14 = .ok (.putfield 15, 3) := by decide +kernel
theorem dX5_init_17 : decode cX5_init 17 = .ok (.return_, 1) := by decide +kernel
theorem dX5_isMissing_0 : decode cX5_isMissing 0 = .ok (.aload_n 0, 1) := by decide +kernel
theorem dX5_isMissing_1 : decode cX5_isMissing 1 = .ok (.getfield 15, 3) := by decide +kernel
theorem dX5_isMissing_4 : decode cX5_isMissing 4 = .ok (.ifCond .ge 7, 3) := by decide +kernel
theorem dX5_isMissing_7 : decode cX5_isMissing 7 = .ok (.iconst 1, 1) := by decide +kernel
theorem dX5_isMissing_8 : decode cX5_isMissing 8 = .ok (.goto 4, 3) := by decide +kernel
theorem dX5_isMissing_11 : decode cX5_isMissing 11 = .ok (.iconst 0, 1) := by decide +kernel
theorem dX5_isMissing_12 : decode cX5_isMissing 12 = .ok (.ireturn, 1) := by decide +kernel
theorem dX5_has_0 : decode cX5_has 0 = .ok (.iload_n 1, 1) := by decide +kernel
theorem dX5_has_1 : decode cX5_has 1 = .ok (.ifCond .lt 15, 3) := by decide +kernel
theorem dX5_has_4 : decode cX5_has 4 = .ok (.iload_n 1, 1) := by decide +kernel
theorem dX5_has_5 : decode cX5_has 5 = .ok (.aload_n 0, 1) := by decide +kernel
theorem dX5_has_6 : decode cX5_has 6 = .ok (.getfield 15, 3) := by decide +kernel
theorem dX5_has_9 : decode cX5_has 9 = .ok (.if_icmp .ge 7, 3) := by decide +kernel
theorem dX5_has_12 : decode cX5_has 12 = .ok (.iconst 1, 1) := by decide +kernel
theorem dX5_has_13 : decode cX5_has 13 = .ok (.goto 4, 3) := by decide +kernel
theorem dX5_has_16 : decode cX5_has 16 = .ok (.iconst 0, 1) := by decide +kernel
theorem dX5_has_17 : decode cX5_has 17 = .ok (.ireturn, 1) := by decide +kernel
theorem dX5_hasSpan_0 : decode cX5_hasSpan 0 = .ok (.iload_n 1, 1) := by decide +kernel
theorem dX5_hasSpan_1 : decode cX5_hasSpan 1 = .ok (.ifCond .lt 29, 3) := by decide +kernel
theorem dX5_hasSpan_4 : decode cX5_hasSpan 4 = .ok (.iload_n 2, 1) := by decide +kernel
theorem dX5_hasSpan_5 : decode cX5_hasSpan 5 = .ok (.ifCond .lt 25, 3) := by decide +kernel
theorem dX5_hasSpan_8 : decode cX5_hasSpan 8 = .ok (.iload_n 2, 1) := by decide +kernel
theorem dX5_hasSpan_9 : decode cX5_hasSpan 9 = .ok (.aload_n 0, 1) := by decide +kernel
theorem dX5_hasSpan_10 : decode cX5_hasSpan 10 = .ok (.getfield 15, 3) := by decide +kernel
theorem dX5_hasSpan_13 : decode cX5_hasSpan 13 = .ok (.if_icmp .gt 17, 3) := by decide +kernel
theorem dX5_hasSpan_16 : decode cX5_hasSpan 16 = .ok (.iload_n 1, 1) := by decide +kernel
theorem dX5_hasSpan_17 : decode cX5_hasSpan 17 = .ok (.aload_n 0, 1) := by decide +kernel
theorem dX5_hasSpan_18 : decode cX5_hasSpan 18 = .ok (.getfield 15, 3) := by decide +kernel
theorem dX5_hasSpan_21 : decode cX5_hasSpan 21 = .ok (.iload_n 2, 1) := by decide +kernel
theorem dX5_hasSpan_22 : decode cX5_hasSpan 22 = .ok (.isub, 1) := by decide +kernel
theorem dX5_hasSpan_23 : decode cX5_hasSpan 23 = .ok (.if_icmp .gt 7, 3) := by decide +kernel
theorem dX5_hasSpan_26 : decode cX5_hasSpan 26 = .ok (.iconst 1, 1) := by decide +kernel
theorem dX5_hasSpan_27 : decode cX5_hasSpan 27 = .ok (.goto 4, 3) := by decide +kernel
theorem dX5_hasSpan_30 : decode cX5_hasSpan 30 = .ok (.iconst 0, 1) := by decide +kernel
theorem dX5_hasSpan_31 : decode cX5_hasSpan 31 = .ok (.ireturn, 1) := by decide +kernel
theorem dX5_get_0 : decode cX5_get 0 = .ok (.aload_n 0, 1) := by decide +kernel
theorem dX5_get_1 : decode cX5_get 1 = .ok (.iload_n 1, 1) := by decide +kernel
theorem dX5_get_2 : decode cX5_get 2 = .ok (.invokevirtual 19, 3) := by decide +kernel
theorem dX5_get_5 : decode cX5_get 5 = .ok (.ifCond .eq 12, 3) := by decide +kernel
theorem dX5_get_8 : decode cX5_get 8 = .ok (.aload_n 0, 1) := by decide +kernel
theorem dX5_get_9 : decode cX5_get 9 = .ok (.getfield 9, 3) := by decide +kernel
theorem dX5_get_12 : decode cX5_get 12 = .ok (.iload_n 1, 1) := by decide +kernel
theorem dX5_get_13 : decode cX5_get 13 = .ok (.iaload, 1) := by decide +kernel
theorem dX5_get_14 : decode cX5_get 14 = .ok (.goto 4, 3) := by decide +kernel
theorem dX5_get_17 : decode cX5_get 17 = .ok (.iconst 0, 1) := by decide +kernel
theorem dX5_get_18 : decode cX5_get 18 = .ok (.ireturn, 1) := by decide +kernel
theorem dX5_set_0 : decode cX5_set 0 = .ok (.aload_n 0, 1) := by decide +kernel
theorem dX5_set_1 : decode cX5_set 1 = .ok (.iload_n 1, 1) := by decide +kernel
theorem dX5_set_2 : decode cX5_set 2 = .ok (.invokevirtual 19, 3) := by decide +kernel
theorem dX5_set_5 : decode cX5_set 5 = .ok (.ifCond .eq 10, 3) := by decide +kernel
theorem dX5_set_8 : decode cX5_set 8 = .ok (.aload_n 0, 1) := by decide +kernel
theorem dX5_set_9 : decode cX5_set 9 = .ok (.getfield 9, 3) := by decide +kernel
theorem dX5_set_12 : decode cX5_set 12 = .ok (.iload_n 1, 1) := by decide +kernel
theorem dX5_set_13 : decode cX5_set 13 = .ok (.iload_n 2, 1) := by decide +kernel
theorem dX5_set_14 : decode cX5_set 14 = .ok (.iastore, 1) := by decide +kernel
theorem dX5_set_15 : decode cX5_set 15 = .ok (.return_, 1) := by decide +kernel
theorem dX5_renew_0 : decode cX5_renew 0 = .ok (.aload_n 0, 1) := by decide +kernel
theorem dX5_renew_1 : decode cX5_renew 1 = .ok (.iconst 0, 1) := by decide +kernel
theorem dX5_renew_2 : decode cX5_renew 2 = .ok (.iload_n 1, 1) := by decide +kernel
theorem dX5_renew_3 : decode cX5_renew 3 = .ok (.aload_n 0, 1) := by decide +kernel
theorem dX5_renew_4 : decode cX5_renew 4 = .ok (.getfield 9, 3) := by decide +kernel
theorem dX5_renew_7 : decode cX5_renew 7 = .ok (.arraylength, 1) := by decide +kernel
theorem dX5_renew_8 : decode cX5_renew 8 = .ok (.invokestatic 23, 3) := by decide +kernel
theorem dX5_renew_11 : decode cX5_renew 11 = .ok (.invokestatic 29, 3) := by decide +kernel
theorem dX5_renew_14 : decode cX5_renew 14 = .ok (.putfield 15, 3) := by decide +kernel
theorem dX5_renew_17 : decode cX5_renew 17 = .ok (.aload_n 0, 1) := by decide +kernel
theorem dX5_renew_18 : decode cX5_renew 18 = .ok (.getfield 9, 3) := by decide +kernel
theorem dX5_renew_21 : decode cX5_renew 21 = .ok (.iconst 0, 1) := by decide +kernel
theorem dX5_renew_22 : decode cX5_renew 22 = .ok (.aload_n 0, 1) := by decide +kernel
theorem dX5_renew_23 : decode cX5_renew 23 = .ok (.getfield 15, 3) := by decide +kernel
theorem dX5_renew_26 : decode cX5_renew 26 = .ok (.iload_n 2, 1) := by decide +kernel
theorem dX5_renew_27 : decode cX5_renew 27 = .ok (.invokestatic 32, 3) := by decide +kernel
theorem dX5_renew_30 : decode cX5_renew 30 = .ok (.return_, 1) := by decide +kernel
theorem dX5_lose_0 : decode cX5_lose 0 = .ok (.aload_n 0, 1) := by decide +kernel
theorem dX5_lose_1 : decode cX5_lose 1 = .ok (.iconst (-1), 1) := by decide +kernel
theorem dX5_lose_2 : decode cX5_lose 2 = .ok (.putfield 15, 3) := by decide +kernel
theorem dX5_lose_5 : decode cX5_lose 5 = .ok (.return_, 1) := by decide +kernel
theorem dX5_total_0 : decode cX5_total 0 = .ok (.lconst 0, 1) := by decide +kernel
theorem dX5_total_1 : decode cX5_total 1 = .ok (.lstore_n 1, 1) := by decide +kernel
theorem dX5_total_2 : decode cX5_total 2 = .ok (.iconst 0, 1) := by decide +kernel
theorem dX5_total_3 : decode cX5_total 3 = .ok (.istore_n 3, 1) := by decide +kernel
theorem dX5_total_4 : decode cX5_total 4 = .ok (.iload_n 3, 1) := by decide +kernel
theorem dX5_total_5 : decode cX5_total 5 = .ok (.aload_n 0, 1) := by decide +kernel
theorem dX5_total_6 : decode cX5_total 6 = .ok (.getfield 15, 3) := by decide +kernel
theorem dX5_total_9 : decode cX5_total 9 = .ok (.if_icmp .ge 19, 3) := by decide +kernel
theorem dX5_total_12 : decode cX5_total 12 = .ok (.lload_n 1, 1) := by decide +kernel
theorem dX5_total_13 : decode cX5_total 13 = .ok (.aload_n 0, 1) := by decide +kernel
theorem dX5_total_14 : decode cX5_total 14 = .ok (.getfield 9, 3) := by decide +kernel
theorem dX5_total_17 : decode cX5_total 17 = .ok (.iload_n 3, 1) := by decide +kernel
theorem dX5_total_18 : decode cX5_total 18 = .ok (.iaload, 1) := by decide +kernel
theorem dX5_total_19 : decode cX5_total 19 = .ok (.i2l, 1) := by decide +kernel
theorem dX5_total_20 : decode cX5_total 20 = .ok (.ladd, 1) := by decide +kernel
theorem dX5_total_21 : decode cX5_total 21 = .ok (.lstore_n 1, 1) := by decide +kernel
theorem dX5_total_22 : decode cX5_total 22 = .ok (.iinc 3 1, 3) := by decide +kernel
theorem dX5_total_25 : decode cX5_total 25 = .ok (.goto (-21), 3) := by decide +kernel
theorem dX5_total_28 : decode cX5_total 28 = .ok (.lload_n 1, 1) := by decide +kernel
theorem dX5_total_29 : decode cX5_total 29 = .ok (.lreturn, 1) := by decide +kernel
theorem dX5_isWithin_0 : decode cX5_isWithin 0 = .ok (.iconst 0, 1) := by decide +kernel
theorem dX5_isWithin_1 : decode cX5_isWithin 1 = .ok (.istore_n 3, 1) := by decide +kernel
theorem dX5_isWithin_2 : decode cX5_isWithin 2 = .ok (.iload_n 3, 1) := by decide +kernel
theorem dX5_isWithin_3 : decode cX5_isWithin 3 = .ok (.aload_n 0, 1) := by decide +kernel
theorem dX5_isWithin_4 : decode cX5_isWithin 4 = .ok (.getfield 15, 3) := by decide +kernel
theorem dX5_isWithin_7 : decode cX5_isWithin 7 = .ok (.if_icmp .ge 31, 3) := by decide +kernel
theorem dX5_isWithin_10 : decode cX5_isWithin 10 = .ok (.aload_n 0, 1) := by decide +kernel
theorem dX5_isWithin_11 : decode cX5_isWithin 11 = .ok (.getfield 9, 3) := by decide +kernel
theorem dX5_isWithin_14 : decode cX5_isWithin 14 = .ok (.iload_n 3, 1) := by decide +kernel
theorem dX5_isWithin_15 : decode cX5_isWithin 15 = .ok (.iaload, 1) := by decide +kernel
theorem dX5_isWithin_16 : decode cX5_isWithin 16 = .ok (.iload_n 1, 1) := by decide +kernel
theorem dX5_isWithin_17 : decode cX5_isWithin 17 = .ok (.if_icmp .lt 13, 3) := by decide +kernel
theorem dX5_isWithin_20 : decode cX5_isWithin 20 = .ok (.aload_n 0, 1) := by decide +kernel
theorem dX5_isWithin_21 : decode cX5_isWithin 21 = .ok (.getfield 9, 3) := by decide +kernel
theorem dX5_isWithin_24 : decode cX5_isWithin 24 = .ok (.iload_n 3, 1) := by decide +kernel
theorem dX5_isWithin_25 : decode cX5_isWithin 25 = .ok (.iaload, 1) := by decide +kernel
theorem dX5_isWithin_26 : decode cX5_isWithin 26 = .ok (.iload_n 2, 1) := by decide +kernel
theorem dX5_isWithin_27 : decode cX5_isWithin 27 = .ok (.if_icmp .le 5, 3) := by decide +kernel
theorem dX5_isWithin_30 : decode cX5_isWithin 30 = .ok (.iconst 0, 1) := by decide +kernel
theorem dX5_isWithin_31 : decode cX5_isWithin 31 = .ok (.ireturn, 1) := by decide +kernel
theorem dX5_isWithin_32 : decode cX5_isWithin 32 = .ok (.iinc 3 1, 3) := by decide +kernel
theorem dX5_isWithin_35 : decode cX5_isWithin 35 = .ok (.goto (-33), 3) := by decide +kernel
theorem dX5_isWithin_38 : decode cX5_isWithin 38 = .ok (.iconst 1, 1) := by decide +kernel
theorem dX5_isWithin_39 : decode cX5_isWithin 39 = .ok (.ireturn, 1) := by decide +kernel
theorem dX5_hasTwoAlike_0 : decode cX5_hasTwoAlike 0 = .ok (.iconst 0, 1) := by decide +kernel
theorem dX5_hasTwoAlike_1 : decode cX5_hasTwoAlike 1 = .ok (.istore_n 1, 1) := by decide +kernel
theorem dX5_hasTwoAlike_2 : decode cX5_hasTwoAlike 2 = .ok (.iload_n 1, 1) := by decide +kernel
theorem dX5_hasTwoAlike_3 : decode cX5_hasTwoAlike 3 = .ok (.aload_n 0, 1) := by decide +kernel
theorem dX5_hasTwoAlike_4 : decode cX5_hasTwoAlike 4 = .ok (.getfield 15, 3) := by decide +kernel
theorem dX5_hasTwoAlike_7 : decode cX5_hasTwoAlike 7 = .ok (.if_icmp .ge 39, 3) := by decide +kernel
theorem dX5_hasTwoAlike_10 : decode cX5_hasTwoAlike 10 = .ok (.iconst 0, 1) := by decide +kernel
theorem dX5_hasTwoAlike_11 : decode cX5_hasTwoAlike 11 = .ok (.istore_n 2, 1) := by decide +kernel
theorem dX5_hasTwoAlike_12 : decode cX5_hasTwoAlike 12 = .ok (.iload_n 2, 1) := by decide +kernel
theorem dX5_hasTwoAlike_13 : decode cX5_hasTwoAlike 13 = .ok (.iload_n 1, 1) := by decide +kernel
theorem dX5_hasTwoAlike_14 : decode cX5_hasTwoAlike 14 = .ok (.if_icmp .ge 26, 3) := by decide +kernel
theorem dX5_hasTwoAlike_17 : decode cX5_hasTwoAlike 17 = .ok (.aload_n 0, 1) := by decide +kernel
theorem dX5_hasTwoAlike_18 : decode cX5_hasTwoAlike 18 = .ok (.getfield 9, 3) := by decide +kernel
theorem dX5_hasTwoAlike_21 : decode cX5_hasTwoAlike 21 = .ok (.iload_n 1, 1) := by decide +kernel
theorem dX5_hasTwoAlike_22 : decode cX5_hasTwoAlike 22 = .ok (.iaload, 1) := by decide +kernel
theorem dX5_hasTwoAlike_23 : decode cX5_hasTwoAlike 23 = .ok (.aload_n 0, 1) := by decide +kernel
theorem dX5_hasTwoAlike_24 : decode cX5_hasTwoAlike 24 = .ok (.getfield 9, 3) := by decide +kernel
theorem dX5_hasTwoAlike_27 : decode cX5_hasTwoAlike 27 = .ok (.iload_n 2, 1) := by decide +kernel
theorem dX5_hasTwoAlike_28 : decode cX5_hasTwoAlike 28 = .ok (.iaload, 1) := by decide +kernel
theorem dX5_hasTwoAlike_29 : decode cX5_hasTwoAlike 29 = .ok (.if_icmp .ne 5, 3) := by decide +kernel
theorem dX5_hasTwoAlike_32 : decode cX5_hasTwoAlike 32 = .ok (.iconst 1, 1) := by decide +kernel
theorem dX5_hasTwoAlike_33 : decode cX5_hasTwoAlike 33 = .ok (.ireturn, 1) := by decide +kernel
theorem dX5_hasTwoAlike_34 : decode cX5_hasTwoAlike 34 = .ok (.iinc 2 1, 3) := by decide +kernel
theorem dX5_hasTwoAlike_37 : decode cX5_hasTwoAlike 37 = .ok (.goto (-25), 3) := by decide +kernel
theorem dX5_hasTwoAlike_40 : decode cX5_hasTwoAlike 40 = .ok (.iinc 1 1, 3) := by decide +kernel
theorem dX5_hasTwoAlike_43 : decode cX5_hasTwoAlike 43 = .ok (.goto (-41), 3) := by decide +kernel
theorem dX5_hasTwoAlike_46 : decode cX5_hasTwoAlike 46 = .ok (.iconst 0, 1) := by decide +kernel
theorem dX5_hasTwoAlike_47 : decode cX5_hasTwoAlike 47 = .ok (.ireturn, 1) := by decide +kernel
theorem dX5_digestFrom_0 : decode cX5_digestFrom 0 = .ok (.ldc2_w 38, 3) := by decide +kernel
theorem dX5_digestFrom_3 : decode cX5_digestFrom 3 = .ok (.lload_n 1, 1) := by decide +kernel
theorem dX5_digestFrom_4 : decode cX5_digestFrom 4 = .ok (.lmul, 1) := by decide +kernel
theorem dX5_digestFrom_5 : decode cX5_digestFrom 5 = .ok (.aload_n 0, 1) := by decide +kernel
theorem dX5_digestFrom_6 : decode cX5_digestFrom 6 = .ok (.getfield 15, 3) := by decide +kernel
theorem dX5_digestFrom_9 : decode cX5_digestFrom 9 = .ok (.i2l, 1) := by decide +kernel
theorem dX5_digestFrom_10 : decode cX5_digestFrom 10 = .ok (.ladd, 1) := by decide +kernel
theorem dX5_digestFrom_11 : decode cX5_digestFrom 11 = .ok (.lstore_n 3, 1) := by decide +kernel
theorem dX5_digestFrom_12 : decode cX5_digestFrom 12 = .ok (.iconst 0, 1) := by decide +kernel
theorem dX5_digestFrom_13 : decode cX5_digestFrom 13 = .ok (.istore 5, 2) := by decide +kernel
theorem dX5_digestFrom_15 : decode cX5_digestFrom 15 = .ok (.iload 5, 2) := by decide +kernel
theorem dX5_digestFrom_17 : decode cX5_digestFrom 17 = .ok (.aload_n 0, 1) := by decide +kernel
theorem dX5_digestFrom_18 : decode cX5_digestFrom 18 = .ok (.getfield 15, 3) := by decide +kernel
theorem dX5_digestFrom_21 : decode cX5_digestFrom 21 = .ok (.if_icmp .ge 24, 3) := by decide +kernel
theorem dX5_digestFrom_24 : decode cX5_digestFrom 24 = .ok (.ldc2_w 38, 3) := by decide +kernel
theorem dX5_digestFrom_27 : decode cX5_digestFrom 27 = .ok (.lload_n 3, 1) := by decide +kernel
theorem dX5_digestFrom_28 : decode cX5_digestFrom 28 = .ok (.lmul, 1) := by decide +kernel
theorem dX5_digestFrom_29 : decode cX5_digestFrom 29 = .ok (.aload_n 0, 1) := by decide +kernel
theorem dX5_digestFrom_30 : decode cX5_digestFrom 30 = .ok (.getfield 9, 3) := by decide +kernel
theorem dX5_digestFrom_33 : decode cX5_digestFrom 33 = .ok (.iload 5, 2) := by decide +kernel
theorem dX5_digestFrom_35 : decode cX5_digestFrom 35 = .ok (.iaload, 1) := by decide +kernel
theorem dX5_digestFrom_36 : decode cX5_digestFrom 36 = .ok (.i2l, 1) := by decide +kernel
theorem dX5_digestFrom_37 : decode cX5_digestFrom 37 = .ok (.ladd, 1) := by decide +kernel
theorem dX5_digestFrom_38 : decode cX5_digestFrom 38 = .ok (.lstore_n 3, 1) := by decide +kernel
theorem dX5_digestFrom_39 : decode cX5_digestFrom 39 = .ok (.iinc 5 1, 3) := by decide +kernel
theorem dX5_digestFrom_42 : decode cX5_digestFrom 42 = .ok (.goto (-27), 3) := by decide +kernel
theorem dX5_digestFrom_45 : decode cX5_digestFrom 45 = .ok (.lload_n 3, 1) := by decide +kernel
theorem dX5_digestFrom_46 : decode cX5_digestFrom 46 = .ok (.lreturn, 1) := by decide +kernel
theorem dX6_init_0 : decode cX6_init 0 = .ok (.aload_n 0, 1) := by decide +kernel
theorem dX6_init_1 : decode cX6_init 1 = .ok (.invokespecial 3, 3) := by decide +kernel
theorem dX6_init_4 : decode cX6_init 4 = .ok (.aload_n 0, 1) := by decide +kernel
theorem dX6_init_5 : decode cX6_init 5 = .ok (.bipush 6, 2) := by decide +kernel
theorem dX6_init_7 : decode cX6_init 7 = .ok (.anewarray 9, 3) := by decide +kernel
theorem dX6_init_10 : decode cX6_init 10 = .ok (.putfield 11, 3) := by decide +kernel
theorem dX6_init_13 : decode cX6_init 13 = .ok (.aload_n 0, 1) := by decide +kernel
theorem dX6_init_14 : decode cX6_init 14 = .ok (.iconst 4, 1) := by decide +kernel
theorem dX6_init_15 : decode cX6_init 15 = .ok (.anewarray 9, 3) := by decide +kernel
theorem dX6_init_18 : decode cX6_init 18 = .ok (.putfield 15, 3) := by decide +kernel
theorem dX6_init_21 : decode cX6_init 21 = .ok (.aload_n 0, 1) := by decide +kernel
theorem dX6_init_22 : decode cX6_init 22 = .ok (.bipush 6, 2) := by decide +kernel
theorem dX6_init_24 : decode cX6_init 24 = .ok (.anewarray 18, 3) := by decide +kernel
theorem dX6_init_27 : decode cX6_init 27 = .ok (.putfield 20, 3) := by decide +kernel
theorem dX6_init_30 : decode cX6_init 30 = .ok (.aload_n 0, 1) := by decide +kernel
theorem dX6_init_31 : decode cX6_init 31 = .ok (.iconst 4, 1) := by decide +kernel
theorem dX6_init_32 : decode cX6_init 32 = .ok (.anewarray 24, 3) := by decide +kernel
theorem dX6_init_35 : decode cX6_init 35 = .ok (.putfield 26, 3) := by decide +kernel
theorem dX6_init_38 : decode cX6_init 38 = .ok (.aload_n 0, 1) := by decide +kernel
theorem dX6_init_39 : decode cX6_init 39 = .ok (.new 24, 3) := by decide +kernel
theorem dX6_init_42 : decode cX6_init 42 = .ok (.dup, 1) := by decide +kernel
theorem dX6_init_43 : decode cX6_init 43 = .ok (.invokespecial 30, 3) := by decide +kernel
theorem dX6_init_46 : decode cX6_init 46 = .ok (.putfield 31, 3) := by decide +kernel
theorem dX6_init_49 : decode cX6_init 49 = .ok (.aload_n 0, 1) := by decide +kernel
theorem dX6_init_50 : decode cX6_init 50 = .ok (.new 9, 3) := by decide +kernel
theorem dX6_init_53 : decode cX6_init 53 = .ok (.dup, 1) := by decide +kernel
theorem dX6_init_54 : decode cX6_init 54 = .ok (.invokespecial 35, 3) := by decide +kernel
theorem dX6_init_57 : decode cX6_init 57 = .ok (.putfield 36, 3) := by decide +kernel
theorem dX6_init_60 : decode cX6_init 60 = .ok (.aload_n 0, 1) := by decide +kernel
theorem dX6_init_61 : decode cX6_init 61 = .ok (.new 40, 3) := by decide +kernel
theorem dX6_init_64 : decode cX6_init 64 = .ok (.dup, 1) := by decide +kernel
theorem dX6_init_65 : decode cX6_init 65 = .ok (.invokespecial 42, 3) := by decide +kernel
theorem dX6_init_68 : decode cX6_init 68 = .ok (.putfield 43, 3) := by decide +kernel
theorem dX6_init_71 : decode cX6_init 71 = .ok (.aload_n 0, 1) := by decide +kernel
theorem dX6_init_72 : decode cX6_init 72 = .ok (.new 47, 3) := by decide +kernel
theorem dX6_init_75 : decode cX6_init 75 = .ok (.dup, 1) := by decide +kernel
theorem dX6_init_76 : decode cX6_init 76 = .ok (.invokespecial 49, 3) := by decide +kernel
theorem dX6_init_79 : decode cX6_init 79 = .ok (.putfield 50, 3) := by decide +kernel
theorem dX6_init_82 : decode cX6_init 82 = .ok (.aload_n 0, 1) := by decide +kernel
theorem dX6_init_83 : decode cX6_init 83 = .ok (.new 54, 3) := by decide +kernel
theorem dX6_init_86 : decode cX6_init 86 = .ok (.dup, 1) := by decide +kernel
theorem dX6_init_87 : decode cX6_init 87 = .ok (.invokespecial 56, 3) := by decide +kernel
theorem dX6_init_90 : decode cX6_init 90 = .ok (.putfield 57, 3) := by decide +kernel
theorem dX6_init_93 : decode cX6_init 93 = .ok (.aload_n 0, 1) := by decide +kernel
theorem dX6_init_94 : decode cX6_init 94 = .ok (.iconst 0, 1) := by decide +kernel
theorem dX6_init_95 : decode cX6_init 95 = .ok (.putfield 61, 3) := by decide +kernel
theorem dX6_init_98 : decode cX6_init 98 = .ok (.aload_n 0, 1) := by decide +kernel
theorem dX6_init_99 : decode cX6_init 99 = .ok (.iconst 0, 1) := by decide +kernel
theorem dX6_init_100 : decode cX6_init 100 = .ok (.putfield 65, 3) := by decide +kernel
theorem dX6_init_103 : decode cX6_init 103 = .ok (.aload_n 0, 1) := by decide +kernel
theorem dX6_init_104 : decode cX6_init 104 = .ok (.bipush 6, 2) := by decide +kernel
theorem dX6_init_106 : decode cX6_init 106 = .ok (.newarray .int, 2) := by decide +kernel
theorem dX6_init_108 : decode cX6_init 108 = .ok (.putfield 68, 3) := by decide +kernel
theorem dX6_init_111 : decode cX6_init 111 = .ok (.iconst 0, 1) := by decide +kernel
theorem dX6_init_112 : decode cX6_init 112 = .ok (.istore_n 1, 1) := by decide +kernel
theorem dX6_init_113 : decode cX6_init 113 = .ok (.iload_n 1, 1) := by decide +kernel
theorem dX6_init_114 : decode cX6_init 114 = .ok (.aload_n 0, 1) := by decide +kernel
theorem dX6_init_115 : decode cX6_init 115 = .ok (.getfield 11, 3) := by decide +kernel
theorem dX6_init_118 : decode cX6_init 118 = .ok (.arraylength, 1) := by decide +kernel
theorem dX6_init_119 : decode cX6_init 119 = .ok (.if_icmp .ge 22, 3) := by decide +kernel
theorem dX6_init_122 : decode cX6_init 122 = .ok (.aload_n 0, 1) := by decide +kernel
theorem dX6_init_123 : decode cX6_init 123 = .ok (.getfield 11, 3) := by decide +kernel
theorem dX6_init_126 : decode cX6_init 126 = .ok (.iload_n 1, 1) := by decide +kernel
theorem dX6_init_127 : decode cX6_init 127 = .ok (.new 9, 3) := by decide +kernel
theorem dX6_init_130 : decode cX6_init 130 = .ok (.dup, 1) := by decide +kernel
theorem dX6_init_131 : decode cX6_init 131 = .ok (.invokespecial 35, 3) := by decide +kernel
theorem dX6_init_134 : decode cX6_init 134 = .ok (.aastore, 1) := by decide +kernel
theorem dX6_init_135 : decode cX6_init 135 = .ok (.iinc 1 1, 3) := by decide +kernel
theorem dX6_init_138 : decode cX6_init 138 = .ok (.goto (-25), 3) := by decide +kernel
theorem dX6_init_141 : decode cX6_init 141 = .ok (.iconst 0, 1) := by decide +kernel
theorem dX6_init_142 : decode cX6_init 142 = .ok (.istore_n 1, 1) := by decide +kernel
theorem dX6_init_143 : decode cX6_init 143 = .ok (.iload_n 1, 1) := by decide +kernel
theorem dX6_init_144 : decode cX6_init 144 = .ok (.aload_n 0, 1) := by decide +kernel
theorem dX6_init_145 : decode cX6_init 145 = .ok (.getfield 15, 3) := by decide +kernel
theorem dX6_init_148 : decode cX6_init 148 = .ok (.arraylength, 1) := by decide +kernel
theorem dX6_init_149 : decode cX6_init 149 = .ok (.if_icmp .ge 22, 3) := by decide +kernel
theorem dX6_init_152 : decode cX6_init 152 = .ok (.aload_n 0, 1) := by decide +kernel
theorem dX6_init_153 : decode cX6_init 153 = .ok (.getfield 15, 3) := by decide +kernel
theorem dX6_init_156 : decode cX6_init 156 = .ok (.iload_n 1, 1) := by decide +kernel
theorem dX6_init_157 : decode cX6_init 157 = .ok (.new 9, 3) := by decide +kernel
theorem dX6_init_160 : decode cX6_init 160 = .ok (.dup, 1) := by decide +kernel
theorem dX6_init_161 : decode cX6_init 161 = .ok (.invokespecial 35, 3) := by decide +kernel
theorem dX6_init_164 : decode cX6_init 164 = .ok (.aastore, 1) := by decide +kernel
theorem dX6_init_165 : decode cX6_init 165 = .ok (.iinc 1 1, 3) := by decide +kernel
theorem dX6_init_168 : decode cX6_init 168 = .ok (.goto (-25), 3) := by decide +kernel
theorem dX6_init_171 : decode cX6_init 171 = .ok (.iconst 0, 1) := by decide +kernel
theorem dX6_init_172 : decode cX6_init 172 = .ok (.istore_n 1, 1) := by decide +kernel
theorem dX6_init_173 : decode cX6_init 173 = .ok (.iload_n 1, 1) := by decide +kernel
theorem dX6_init_174 : decode cX6_init 174 = .ok (.aload_n 0, 1) := by decide +kernel
theorem dX6_init_175 : decode cX6_init 175 = .ok (.getfield 20, 3) := by decide +kernel
theorem dX6_init_178 : decode cX6_init 178 = .ok (.arraylength, 1) := by decide +kernel
theorem dX6_init_179 : decode cX6_init 179 = .ok (.if_icmp .ge 22, 3) := by decide +kernel
theorem dX6_init_182 : decode cX6_init 182 = .ok (.aload_n 0, 1) := by decide +kernel
theorem dX6_init_183 : decode cX6_init 183 = .ok (.getfield 20, 3) := by decide +kernel
theorem dX6_init_186 : decode cX6_init 186 = .ok (.iload_n 1, 1) := by decide +kernel
theorem dX6_init_187 : decode cX6_init 187 = .ok (.new 18, 3) := by decide +kernel
theorem dX6_init_190 : decode cX6_init 190 = .ok (.dup, 1) := by decide +kernel
theorem dX6_init_191 : decode cX6_init 191 = .ok (.invokespecial 72, 3) := by decide +kernel
theorem dX6_init_194 : decode cX6_init 194 = .ok (.aastore, 1) := by decide +kernel
theorem dX6_init_195 : decode cX6_init 195 = .ok (.iinc 1 1, 3) := by decide +kernel
theorem dX6_init_198 : decode cX6_init 198 = .ok (.goto (-25), 3) := by decide +kernel
theorem dX6_init_201 : decode cX6_init 201 = .ok (.iconst 0, 1) := by decide +kernel
theorem dX6_init_202 : decode cX6_init 202 = .ok (.istore_n 1, 1) := by decide +kernel
theorem dX6_init_203 : decode cX6_init 203 = .ok (.iload_n 1, 1) := by decide +kernel
theorem dX6_init_204 : decode cX6_init 204 = .ok (.aload_n 0, 1) := by decide +kernel
theorem dX6_init_205 : decode cX6_init 205 = .ok (.getfield 26, 3) := by decide +kernel
theorem dX6_init_208 : decode cX6_init 208 = .ok (.arraylength, 1) := by decide +kernel
theorem dX6_init_209 : decode cX6_init 209 = .ok (.if_icmp .ge 22, 3) := by decide +kernel
theorem dX6_init_212 : decode cX6_init 212 = .ok (.aload_n 0, 1) := by decide +kernel
theorem dX6_init_213 : decode cX6_init 213 = .ok (.getfield 26, 3) := by decide +kernel
theorem dX6_init_216 : decode cX6_init 216 = .ok (.iload_n 1, 1) := by decide +kernel
theorem dX6_init_217 : decode cX6_init 217 = .ok (.new 24, 3) := by decide +kernel
theorem dX6_init_220 : decode cX6_init 220 = .ok (.dup, 1) := by decide +kernel
theorem dX6_init_221 : decode cX6_init 221 = .ok (.invokespecial 30, 3) := by decide +kernel
theorem dX6_init_224 : decode cX6_init 224 = .ok (.aastore, 1) := by decide +kernel
theorem dX6_init_225 : decode cX6_init 225 = .ok (.iinc 1 1, 3) := by decide +kernel
theorem dX6_init_228 : decode cX6_init 228 = .ok (.goto (-25), 3) := by decide +kernel
theorem dX6_init_231 : decode cX6_init 231 = .ok (.return_, 1) := by decide +kernel
theorem dX6_row_0 : decode cX6_row 0 = .ok (.aload_n 0, 1) := by decide +kernel
theorem dX6_row_1 : decode cX6_row 1 = .ok (.iload_n 1, 1) := by decide +kernel
theorem dX6_row_2 : decode cX6_row 2 = .ok (.invokevirtual 73, 3) := by decide +kernel
theorem dX6_row_5 : decode cX6_row 5 = .ok (.ifCond .eq 9, 3) := by decide +kernel
theorem dX6_row_8 : decode cX6_row 8 = .ok (.iload_n 2, 1) := by decide +kernel
theorem dX6_row_9 : decode cX6_row 9 = .ok (.bipush 40, 2) := by decide +kernel
theorem dX6_row_11 : decode cX6_row 11 = .ok (.if_icmp .le 5, 3) := by decide +kernel
theorem dX6_row_14 : decode cX6_row 14 = .ok (.iconst (-1), 1) := by decide +kernel
theorem dX6_row_15 : decode cX6_row 15 = .ok (.ireturn, 1) := by decide +kernel
theorem dX6_row_16 : decode cX6_row 16 = .ok (.iload_n 2, 1) := by decide +kernel
theorem dX6_row_17 : decode cX6_row 17 = .ok (.ifCond .ge 9, 3) := by decide +kernel
theorem dX6_row_20 : decode cX6_row 20 = .ok (.aload_n 0, 1) := by decide +kernel
theorem dX6_row_21 : decode cX6_row 21 = .ok (.iconst 5, 1) := by decide +kernel
theorem dX6_row_22 : decode cX6_row 22 = .ok (.invokevirtual 77, 3) := by decide +kernel
theorem dX6_row_25 : decode cX6_row 25 = .ok (.ireturn, 1) := by decide +kernel
theorem dX6_row_26 : decode cX6_row 26 = .ok (.aload_n 0, 1) := by decide +kernel
theorem dX6_row_27 : decode cX6_row 27 = .ok (.getfield 11, 3) := by decide +kernel
theorem dX6_row_30 : decode cX6_row 30 = .ok (.iload_n 1, 1) := by decide +kernel
theorem dX6_row_31 : decode cX6_row 31 = .ok (.aaload, 1) := by decide +kernel
theorem dX6_row_32 : decode cX6_row 32 = .ok (.iload_n 2, 1) := by decide +kernel
theorem dX6_row_33 : decode cX6_row 33 = .ok (.iconst 0, 1) := by decide +kernel
theorem dX6_row_34 : decode cX6_row 34 = .ok (.invokevirtual 81, 3) := by decide +kernel
theorem dX6_row_37 : decode cX6_row 37 = .ok (.iload_n 2, 1) := by decide +kernel
theorem dX6_row_38 : decode cX6_row 38 = .ok (.ireturn, 1) := by decide +kernel
theorem dX6_lay_0 : decode cX6_lay 0 = .ok (.aload_n 0, 1) := by decide +kernel
theorem dX6_lay_1 : decode cX6_lay 1 = .ok (.iload_n 1, 1) := by decide +kernel
theorem dX6_lay_2 : decode cX6_lay 2 = .ok (.invokevirtual 73, 3) := by decide +kernel
theorem dX6_lay_5 : decode cX6_lay 5 = .ok (.ifCond .ne 5, 3) := by decide +kernel
theorem dX6_lay_8 : decode cX6_lay 8 = .ok (.iconst (-1), 1) := by decide +kernel
theorem dX6_lay_9 : decode cX6_lay 9 = .ok (.ireturn, 1) := by decide +kernel
theorem dX6_lay_10 : decode cX6_lay 10 = .ok (.aload_n 0, 1) := by decide +kernel
theorem dX6_lay_11 : decode cX6_lay 11 = .ok (.getfield 11, 3) := by decide +kernel
theorem dX6_lay_14 : decode cX6_lay 14 = .ok (.iload_n 1, 1) := by decide +kernel
theorem dX6_lay_15 : decode cX6_lay 15 = .ok (.aaload, 1) := by decide +kernel
theorem dX6_lay_16 : decode cX6_lay 16 = .ok (.astore 4, 2) := by decide +kernel
theorem dX6_lay_18 : decode cX6_lay 18 = .ok (.aload 4, 2) := by decide +kernel
theorem dX6_lay_20 : decode cX6_lay 20 = .ok (.invokevirtual 85, 3) := by decide +kernel
theorem dX6_lay_23 : decode cX6_lay 23 = .ok (.ifCond .eq 9, 3) := by decide +kernel
theorem dX6_lay_26 : decode cX6_lay 26 = .ok (.aload_n 0, 1) := by decide +kernel
theorem dX6_lay_27 : decode cX6_lay 27 = .ok (.iconst 1, 1) := by decide +kernel
theorem dX6_lay_28 : decode cX6_lay 28 = .ok (.invokevirtual 77, 3) := by decide +kernel
theorem dX6_lay_31 : decode cX6_lay 31 = .ok (.ireturn, 1) := by decide +kernel
theorem dX6_lay_32 : decode cX6_lay 32 = .ok (.aload 4, 2) := by decide +kernel
theorem dX6_lay_34 : decode cX6_lay 34 = .ok (.iload_n 2, 1) := by decide +kernel
theorem dX6_lay_35 : decode cX6_lay 35 = .ok (.invokevirtual 89, 3) := by decide +kernel
theorem dX6_lay_38 : decode cX6_lay 38 = .ok (.ifCond .ne 9, 3) := by decide +kernel
theorem dX6_lay_41 : decode cX6_lay 41 = .ok (.aload_n 0, 1) := by decide +kernel
theorem dX6_lay_42 : decode cX6_lay 42 = .ok (.iconst 2, 1) := by decide +kernel
theorem dX6_lay_43 : decode cX6_lay 43 = .ok (.invokevirtual 77, 3) := by decide +kernel
theorem dX6_lay_46 : decode cX6_lay 46 = .ok (.ireturn, 1) := by decide +kernel
theorem dX6_lay_47 : decode cX6_lay 47 = .ok (.aload_n 0, 1) := by decide +kernel
theorem dX6_lay_48 : decode cX6_lay 48 = .ok (.aload 4, 2) := by decide +kernel
theorem dX6_lay_50 : decode cX6_lay 50 = .ok (.iload_n 2, 1) := by decide +kernel
theorem dX6_lay_51 : decode cX6_lay 51 = .ok (.invokevirtual 92, 3) := by decide +kernel
theorem dX6_lay_54 : decode cX6_lay 54 = .ok (.putfield 61, 3) := by decide +kernel
theorem dX6_lay_57 : decode cX6_lay 57 = .ok (.aload 4, 2) := by decide +kernel
theorem dX6_lay_59 : decode cX6_lay 59 = .ok (.iload_n 2, 1) := by decide +kernel
theorem dX6_lay_60 : decode cX6_lay 60 = .ok (.iload_n 3, 1) := by decide +kernel
theorem dX6_lay_61 : decode cX6_lay 61 = .ok (.invokevirtual 95, 3) := by decide +kernel
theorem dX6_lay_64 : decode cX6_lay 64 = .ok (.iconst 1, 1) := by decide +kernel
theorem dX6_lay_65 : decode cX6_lay 65 = .ok (.ireturn, 1) := by decide +kernel
theorem dX6_at_0 : decode cX6_at 0 = .ok (.aload_n 0, 1) := by decide +kernel
theorem dX6_at_1 : decode cX6_at 1 = .ok (.iload_n 1, 1) := by decide +kernel
theorem dX6_at_2 : decode cX6_at 2 = .ok (.invokevirtual 73, 3) := by decide +kernel
theorem dX6_at_5 : decode cX6_at 5 = .ok (.ifCond .ne 5, 3) := by decide +kernel
theorem dX6_at_8 : decode cX6_at 8 = .ok (.iconst (-1), 1) := by decide +kernel
theorem dX6_at_9 : decode cX6_at 9 = .ok (.ireturn, 1) := by decide +kernel
theorem dX6_at_10 : decode cX6_at 10 = .ok (.aload_n 0, 1) := by decide +kernel
theorem dX6_at_11 : decode cX6_at 11 = .ok (.getfield 11, 3) := by decide +kernel
theorem dX6_at_14 : decode cX6_at 14 = .ok (.iload_n 1, 1) := by decide +kernel
theorem dX6_at_15 : decode cX6_at 15 = .ok (.aaload, 1) := by decide +kernel
theorem dX6_at_16 : decode cX6_at 16 = .ok (.astore_n 3, 1) := by decide +kernel
theorem dX6_at_17 : decode cX6_at 17 = .ok (.aload_n 3, 1) := by decide +kernel
theorem dX6_at_18 : decode cX6_at 18 = .ok (.invokevirtual 85, 3) := by decide +kernel
theorem dX6_at_21 : decode cX6_at 21 = .ok (.ifCond .eq 9, 3) := by decide +kernel
theorem dX6_at_24 : decode cX6_at 24 = .ok (.aload_n 0, 1) := by decide +kernel
theorem dX6_at_25 : decode cX6_at 25 = .ok (.iconst 1, 1) := by decide +kernel
theorem dX6_at_26 : decode cX6_at 26 = .ok (.invokevirtual 77, 3) := by decide +kernel
theorem dX6_at_29 : decode cX6_at 29 = .ok (.ireturn, 1) := by decide +kernel
theorem dX6_at_30 : decode cX6_at 30 = .ok (.aload_n 3, 1) := by decide +kernel
theorem dX6_at_31 : decode cX6_at 31 = .ok (.iload_n 2, 1) := by decide +kernel
theorem dX6_at_32 : decode cX6_at 32 = .ok (.invokevirtual 89, 3) := by decide +kernel
theorem dX6_at_35 : decode cX6_at 35 = .ok (.ifCond .ne 9, 3) := by decide +kernel
theorem dX6_at_38 : decode cX6_at 38 = .ok (.aload_n 0, 1) := by decide +kernel
theorem dX6_at_39 : decode cX6_at 39 = .ok (.iconst 2, 1) := by decide +kernel
theorem dX6_at_40 : decode cX6_at 40 = .ok (.invokevirtual 77, 3) := by decide +kernel
theorem dX6_at_43 : decode cX6_at 43 = .ok (.ireturn, 1) := by decide +kernel
theorem dX6_at_44 : decode cX6_at 44 = .ok (.aload_n 0, 1) := by decide +kernel
theorem dX6_at_45 : decode cX6_at 45 = .ok (.aload_n 3, 1) := by decide +kernel
theorem dX6_at_46 : decode cX6_at 46 = .ok (.iload_n 2, 1) := by decide +kernel
theorem dX6_at_47 : decode cX6_at 47 = .ok (.invokevirtual 92, 3) := by decide +kernel
theorem dX6_at_50 : decode cX6_at 50 = .ok (.putfield 61, 3) := by decide +kernel
theorem dX6_at_53 : decode cX6_at 53 = .ok (.iconst 1, 1) := by decide +kernel
theorem dX6_at_54 : decode cX6_at 54 = .ok (.ireturn, 1) := by decide +kernel
theorem dX6_tear_0 : decode cX6_tear 0 = .ok (.aload_n 0, 1) := by decide +kernel
theorem dX6_tear_1 : decode cX6_tear 1 = .ok (.iload_n 1, 1) := by decide +kernel
theorem dX6_tear_2 : decode cX6_tear 2 = .ok (.invokevirtual 73, 3) := by decide +kernel
theorem dX6_tear_5 : decode cX6_tear 5 = .ok (.ifCond .ne 5, 3) := by decide +kernel
theorem dX6_tear_8 : decode cX6_tear 8 = .ok (.iconst (-1), 1) := by decide +kernel
theorem dX6_tear_9 : decode cX6_tear 9 = .ok (.ireturn, 1) := by decide +kernel
theorem dX6_tear_10 : decode cX6_tear 10 = .ok (.aload_n 0, 1) := by decide +kernel
theorem dX6_tear_11 : decode cX6_tear 11 = .ok (.getfield 11, 3) := by decide +kernel
theorem dX6_tear_14 : decode cX6_tear 14 = .ok (.iload_n 1, 1) := by decide +kernel
theorem dX6_tear_15 : decode cX6_tear 15 = .ok (.aaload, 1) := by decide +kernel
theorem dX6_tear_16 : decode cX6_tear 16 = .ok (.invokevirtual 85, 3) := by decide +kernel
theorem dX6_tear_19 : decode cX6_tear 19 = .ok (.ifCond .eq 9, 3) := by decide +kernel
theorem dX6_tear_22 : decode cX6_tear 22 = .ok (.aload_n 0, 1) := by decide +kernel
theorem dX6_tear_23 : decode cX6_tear 23 = .ok (.iconst 1, 1) := by decide +kernel
theorem dX6_tear_24 : decode cX6_tear 24 = .ok (.invokevirtual 77, 3) := by decide +kernel
theorem dX6_tear_27 : decode cX6_tear 27 = .ok (.ireturn, 1) := by decide +kernel
theorem dX6_tear_28 : decode cX6_tear 28 = .ok (.aload_n 0, 1) := by decide +kernel
theorem dX6_tear_29 : decode cX6_tear 29 = .ok (.getfield 11, 3) := by decide +kernel
theorem dX6_tear_32 : decode cX6_tear 32 = .ok (.iload_n 1, 1) := by decide +kernel
theorem dX6_tear_33 : decode cX6_tear 33 = .ok (.aaload, 1) := by decide +kernel
theorem dX6_tear_34 : decode cX6_tear 34 = .ok (.invokevirtual 98, 3) := by decide +kernel
theorem dX6_tear_37 : decode cX6_tear 37 = .ok (.iconst 1, 1) := by decide +kernel
theorem dX6_tear_38 : decode cX6_tear 38 = .ok (.ireturn, 1) := by decide +kernel
theorem dX6_copy_0 : decode cX6_copy 0 = .ok (.aload_n 0, 1) := by decide +kernel
theorem dX6_copy_1 : decode cX6_copy 1 = .ok (.iload_n 1, 1) := by decide +kernel
theorem dX6_copy_2 : decode cX6_copy 2 = .ok (.invokevirtual 73, 3) := by decide +kernel
theorem dX6_copy_5 : decode cX6_copy 5 = .ok (.ifCond .eq 11, 3) := by decide +kernel
theorem dX6_copy_8 : decode cX6_copy 8 = .ok (.aload_n 0, 1) := by decide +kernel
theorem dX6_copy_9 : decode cX6_copy 9 = .ok (.iload_n 3, 1) := by decide +kernel
theorem dX6_copy_10 : decode cX6_copy 10 = .ok (.invokevirtual 73, 3) := by decide +kernel
theorem dX6_copy_13 : decode cX6_copy 13 = .ok (.ifCond .ne 5, 3) := by decide +kernel
theorem dX6_copy_16 : decode cX6_copy 16 = .ok (.iconst (-1), 1) := by decide +kernel
theorem dX6_copy_17 : decode cX6_copy 17 = .ok (.ireturn, 1) := by decide +kernel
theorem dX6_copy_18 : decode cX6_copy 18 = .ok (.iload 5, 2) := by decide +kernel
theorem dX6_copy_20 : decode cX6_copy 20 = .ok (.ifCond .ge 9, 3) := by decide +kernel
theorem dX6_copy_23 : decode cX6_copy 23 = .ok (.aload_n 0, 1) := by decide +kernel
theorem dX6_copy_24 : decode cX6_copy 24 = .ok (.iconst 5, 1) := by decide +kernel
theorem dX6_copy_25 : decode cX6_copy 25 = .ok (.invokevirtual 77, 3) := by decide +kernel
theorem dX6_copy_28 : decode cX6_copy 28 = .ok (.ireturn, 1) := by decide +kernel
theorem dX6_copy_29 : decode cX6_copy 29 = .ok (.aload_n 0, 1) := by decide +kernel
theorem dX6_copy_30 : decode cX6_copy 30 = .ok (.getfield 11, 3) := by decide +kernel
theorem dX6_copy_33 : decode cX6_copy 33 = .ok (.iload_n 1, 1) := by decide +kernel
theorem dX6_copy_34 : decode cX6_copy 34 = .ok (.aaload, 1) := by decide +kernel
theorem dX6_copy_35 : decode cX6_copy 35 = .ok (.astore 6, 2) := by decide +kernel
theorem dX6_copy_37 : decode cX6_copy 37 = .ok (.aload_n 0, 1) := by decide +kernel
theorem dX6_copy_38 : decode cX6_copy 38 = .ok (.getfield 11, 3) := by decide +kernel
theorem dX6_copy_41 : decode cX6_copy 41 = .ok (.iload_n 3, 1) := by decide +kernel
theorem dX6_copy_42 : decode cX6_copy 42 = .ok (.aaload, 1) := by decide +kernel
theorem dX6_copy_43 : decode cX6_copy 43 = .ok (.astore 7, 2) := by decide +kernel
theorem dX6_copy_45 : decode cX6_copy 45 = .ok (.aload 6, 2) := by decide +kernel
theorem dX6_copy_47 : decode cX6_copy 47 = .ok (.invokevirtual 85, 3) := by decide +kernel
theorem dX6_copy_50 : decode cX6_copy 50 = .ok (.ifCond .ne 11, 3) := by decide +kernel
theorem dX6_copy_53 : decode cX6_copy 53 = .ok (.aload 7, 2) := by decide +kernel
theorem dX6_copy_55 : decode cX6_copy 55 = .ok (.invokevirtual 85, 3) := by decide +kernel
theorem dX6_copy_58 : decode cX6_copy 58 = .ok (.ifCond .eq 9, 3) := by decide +kernel
theorem dX6_copy_61 : decode cX6_copy 61 = .ok (.aload_n 0, 1) := by decide +kernel
theorem dX6_copy_62 : decode cX6_copy 62 = .ok (.iconst 1, 1) := by decide +kernel
theorem dX6_copy_63 : decode cX6_copy 63 = .ok (.invokevirtual 77, 3) := by decide +kernel
theorem dX6_copy_66 : decode cX6_copy 66 = .ok (.ireturn, 1) := by decide +kernel
theorem dX6_copy_67 : decode cX6_copy 67 = .ok (.aload 6, 2) := by decide +kernel
theorem dX6_copy_69 : decode cX6_copy 69 = .ok (.iload_n 2, 1) := by decide +kernel
theorem dX6_copy_70 : decode cX6_copy 70 = .ok (.iload 5, 2) := by decide +kernel
theorem dX6_copy_72 : decode cX6_copy 72 = .ok (.invokevirtual 101, 3) := by decide +kernel
theorem dX6_copy_75 : decode cX6_copy 75 = .ok (.ifCond .eq 15, 3) := by decide +kernel
theorem dX6_copy_78 : decode cX6_copy 78 = .ok (.aload 7, 2) := by decide +kernel
theorem dX6_copy_80 : decode cX6_copy 80 = .ok (.iload 4, 2) := by decide +kernel
theorem dX6_copy_82 : decode cX6_copy 82 = .ok (.iload 5, 2) := by decide +kernel
theorem dX6_copy_84 : decode cX6_copy 84 = .ok (.invokevirtual 101, 3) := by decide +kernel
theorem dX6_copy_87 : decode cX6_copy 87 = .ok (.ifCond .ne 9, 3) := by decide +kernel
theorem dX6_copy_90 : decode cX6_copy 90 = .ok (.aload_n 0, 1) := by decide +kernel
theorem dX6_copy_91 : decode cX6_copy 91 = .ok (.iconst 2, 1) := by decide +kernel
theorem dX6_copy_92 : decode cX6_copy 92 = .ok (.invokevirtual 77, 3) := by decide +kernel
theorem dX6_copy_95 : decode cX6_copy 95 = .ok (.ireturn, 1) := by decide +kernel
theorem dX6_copy_96 : decode cX6_copy 96 = .ok (.aload 6, 2) := by decide +kernel
theorem dX6_copy_98 : decode cX6_copy 98 = .ok (.getfield 105, 3) := by decide +kernel
theorem dX6_copy_101 : decode cX6_copy 101 = .ok (.iload_n 2, 1) := by decide +kernel
theorem dX6_copy_102 : decode cX6_copy 102 = .ok (.aload 7, 2) := by decide +kernel
theorem dX6_copy_104 : decode cX6_copy 104 = .ok (.getfield 105, 3) := by decide +kernel
theorem dX6_copy_107 : decode cX6_copy 107 = .ok (.iload 4, 2) := by decide +kernel
theorem dX6_copy_109 : decode cX6_copy 109 = .ok (.iload 5, 2) := by decide +kernel
theorem dX6_copy_111 : decode cX6_copy 111 = .ok (.invokestatic 108, 3) := by decide +kernel
theorem dX6_copy_114 : decode cX6_copy 114 = .ok (.iconst 1, 1) := by decide +kernel
theorem dX6_copy_115 : decode cX6_copy 115 = .ok (.ireturn, 1) := by decide +kernel
theorem dX6_mean_0 : decode cX6_mean 0 = .ok (.aload_n 0, 1) := by decide +kernel
theorem dX6_mean_1 : decode cX6_mean 1 = .ok (.iload_n 1, 1) := by decide +kernel
theorem dX6_mean_2 : decode cX6_mean 2 = .ok (.invokevirtual 73, 3) := by decide +kernel
theorem dX6_mean_5 : decode cX6_mean 5 = .ok (.ifCond .ne 5, 3) := by decide +kernel
theorem dX6_mean_8 : decode cX6_mean 8 = .ok (.iconst (-1), 1) := by decide +kernel
theorem dX6_mean_9 : decode cX6_mean 9 = .ok (.ireturn, 1) := by decide +kernel
theorem dX6_mean_10 : decode cX6_mean 10 = .ok (.aload_n 0, 1) := by decide +kernel
theorem dX6_mean_11 : decode cX6_mean 11 = .ok (.getfield 11, 3) := by decide +kernel
theorem dX6_mean_14 : decode cX6_mean 14 = .ok (.iload_n 1, 1) := by decide +kernel
theorem dX6_mean_15 : decode cX6_mean 15 = .ok (.aaload, 1) := by decide +kernel
theorem dX6_mean_16 : decode cX6_mean 16 = .ok (.astore_n 2, 1) := by decide +kernel
theorem dX6_mean_17 : decode cX6_mean 17 = .ok (.aload_n 2, 1) := by decide +kernel
theorem dX6_mean_18 : decode cX6_mean 18 = .ok (.invokevirtual 85, 3) := by decide +kernel
theorem dX6_mean_21 : decode cX6_mean 21 = .ok (.ifCond .eq 9, 3) := by decide +kernel
theorem dX6_mean_24 : decode cX6_mean 24 = .ok (.aload_n 0, 1) := by decide +kernel
theorem dX6_mean_25 : decode cX6_mean 25 = .ok (.iconst 1, 1) := by decide +kernel
theorem dX6_mean_26 : decode cX6_mean 26 = .ok (.invokevirtual 77, 3) := by decide +kernel
theorem dX6_mean_29 : decode cX6_mean 29 = .ok (.ireturn, 1) := by decide +kernel
theorem dX6_mean_30 : decode cX6_mean 30 = .ok (.aload_n 2, 1) := by decide +kernel
theorem dX6_mean_31 : decode cX6_mean 31 = .ok (.getfield 114, 3) := by decide +kernel
theorem dX6_mean_34 : decode cX6_mean 34 = .ok (.iconst 1, 1) := by decide +kernel
theorem dX6_mean_35 : decode cX6_mean 35 = .ok (.if_icmp .ge 9, 3) := by decide +kernel
theorem dX6_mean_38 : decode cX6_mean 38 = .ok (.aload_n 0, 1) := by decide +kernel
theorem dX6_mean_39 : decode cX6_mean 39 = .ok (.iconst 4, 1) := by decide +kernel
theorem dX6_mean_40 : decode cX6_mean 40 = .ok (.invokevirtual 77, 3) := by decide +kernel
theorem dX6_mean_43 : decode cX6_mean 43 = .ok (.ireturn, 1) := by decide +kernel
theorem dX6_mean_44 : decode cX6_mean 44 = .ok (.aload_n 0, 1) := by decide +kernel
theorem dX6_mean_45 : decode cX6_mean 45 = .ok (.aload_n 2, 1) := by decide +kernel
theorem dX6_mean_46 : decode cX6_mean 46 = .ok (.invokevirtual 117, 3) := by decide +kernel
theorem dX6_mean_49 : decode cX6_mean 49 = .ok (.aload_n 2, 1) := by decide +kernel
theorem dX6_mean_50 : decode cX6_mean 50 = .ok (.getfield 114, 3) := by decide +kernel
theorem dX6_mean_53 : decode cX6_mean 53 = .ok (.i2l, 1) := by decide +kernel
theorem dX6_mean_54 : decode cX6_mean 54 = .ok (.ldiv, 1) := by decide +kernel
theorem dX6_mean_55 : decode cX6_mean 55 = .ok (.l2i, 1) := by decide +kernel
theorem dX6_mean_56 : decode cX6_mean 56 = .ok (.putfield 61, 3) := by decide +kernel
theorem dX6_mean_59 : decode cX6_mean 59 = .ok (.iconst 1, 1) := by decide +kernel
theorem dX6_mean_60 : decode cX6_mean 60 = .ok (.ireturn, 1) := by decide +kernel
theorem dX6_text_0 : decode cX6_text 0 = .ok (.aload_n 0, 1) := by decide +kernel
theorem dX6_text_1 : decode cX6_text 1 = .ok (.iload_n 1, 1) := by decide +kernel
theorem dX6_text_2 : decode cX6_text 2 = .ok (.invokevirtual 121, 3) := by decide +kernel
theorem dX6_text_5 : decode cX6_text 5 = .ok (.ifCond .eq 9, 3) := by decide +kernel
theorem dX6_text_8 : decode cX6_text 8 = .ok (.iload_n 2, 1) := by decide +kernel
theorem dX6_text_9 : decode cX6_text 9 = .ok (.bipush 60, 2) := by decide +kernel
theorem dX6_text_11 : decode cX6_text 11 = .ok (.if_icmp .le 5, 3) := by decide +kernel
theorem dX6_text_14 : decode cX6_text 14 = .ok (.iconst (-1), 1) := by decide +kernel
theorem dX6_text_15 : decode cX6_text 15 = .ok (.ireturn, 1) := by decide +kernel
theorem dX6_text_16 : decode cX6_text 16 = .ok (.iload_n 2, 1) := by decide +kernel
theorem dX6_text_17 : decode cX6_text 17 = .ok (.ifCond .ge 9, 3) := by decide +kernel
theorem dX6_text_20 : decode cX6_text 20 = .ok (.aload_n 0, 1) := by decide +kernel
theorem dX6_text_21 : decode cX6_text 21 = .ok (.iconst 5, 1) := by decide +kernel
theorem dX6_text_22 : decode cX6_text 22 = .ok (.invokevirtual 77, 3) := by decide +kernel
theorem dX6_text_25 : decode cX6_text 25 = .ok (.ireturn, 1) := by decide +kernel
theorem dX6_text_26 : decode cX6_text 26 = .ok (.aload_n 0, 1) := by decide +kernel
theorem dX6_text_27 : decode cX6_text 27 = .ok (.getfield 15, 3) := by decide +kernel
theorem dX6_text_30 : decode cX6_text 30 = .ok (.iload_n 1, 1) := by decide +kernel
theorem dX6_text_31 : decode cX6_text 31 = .ok (.aaload, 1) := by decide +kernel
theorem dX6_text_32 : decode cX6_text 32 = .ok (.iload_n 2, 1) := by decide +kernel
theorem dX6_text_33 : decode cX6_text 33 = .ok (.bipush 32, 2) := by decide +kernel
theorem dX6_text_35 : decode cX6_text 35 = .ok (.invokevirtual 81, 3) := by decide +kernel
theorem dX6_text_38 : decode cX6_text 38 = .ok (.iload_n 2, 1) := by decide +kernel
theorem dX6_text_39 : decode cX6_text 39 = .ok (.ireturn, 1) := by decide +kernel
theorem dX6_put_0 : decode cX6_put 0 = .ok (.aload_n 0, 1) := by decide +kernel
theorem dX6_put_1 : decode cX6_put 1 = .ok (.iload_n 1, 1) := by decide +kernel
theorem dX6_put_2 : decode cX6_put 2 = .ok (.invokevirtual 121, 3) := by decide +kernel
theorem dX6_put_5 : decode cX6_put 5 = .ok (.ifCond .ne 5, 3) := by decide +kernel
theorem dX6_put_8 : decode cX6_put 8 = .ok (.iconst (-1), 1) := by decide +kernel
theorem dX6_put_9 : decode cX6_put 9 = .ok (.ireturn, 1) := by decide +kernel
theorem dX6_put_10 : decode cX6_put 10 = .ok (.aload_n 0, 1) := by decide +kernel
theorem dX6_put_11 : decode cX6_put 11 = .ok (.getfield 15, 3) := by decide +kernel
theorem dX6_put_14 : decode cX6_put 14 = .ok (.iload_n 1, 1) := by decide +kernel
theorem dX6_put_15 : decode cX6_put 15 = .ok (.aaload, 1) := by decide +kernel
theorem dX6_put_16 : decode cX6_put 16 = .ok (.astore 4, 2) := by decide +kernel
theorem dX6_put_18 : decode cX6_put 18 = .ok (.aload 4, 2) := by decide +kernel
theorem dX6_put_20 : decode cX6_put 20 = .ok (.invokevirtual 85, 3) := by decide +kernel
theorem dX6_put_23 : decode cX6_put 23 = .ok (.ifCond .eq 9, 3) := by decide +kernel
theorem dX6_put_26 : decode cX6_put 26 = .ok (.aload_n 0, 1) := by decide +kernel
theorem dX6_put_27 : decode cX6_put 27 = .ok (.iconst 1, 1) := by decide +kernel
theorem dX6_put_28 : decode cX6_put 28 = .ok (.invokevirtual 77, 3) := by decide +kernel
theorem dX6_put_31 : decode cX6_put 31 = .ok (.ireturn, 1) := by decide +kernel
theorem dX6_put_32 : decode cX6_put 32 = .ok (.aload 4, 2) := by decide +kernel
theorem dX6_put_34 : decode cX6_put 34 = .ok (.iload_n 2, 1) := by decide +kernel
theorem dX6_put_35 : decode cX6_put 35 = .ok (.invokevirtual 89, 3) := by decide +kernel
theorem dX6_put_38 : decode cX6_put 38 = .ok (.ifCond .ne 9, 3) := by decide +kernel
theorem dX6_put_41 : decode cX6_put 41 = .ok (.aload_n 0, 1) := by decide +kernel
theorem dX6_put_42 : decode cX6_put 42 = .ok (.iconst 2, 1) := by decide +kernel
theorem dX6_put_43 : decode cX6_put 43 = .ok (.invokevirtual 77, 3) := by decide +kernel
theorem dX6_put_46 : decode cX6_put 46 = .ok (.ireturn, 1) := by decide +kernel
theorem dX6_put_47 : decode cX6_put 47 = .ok (.aload 4, 2) := by decide +kernel
theorem dX6_put_49 : decode cX6_put 49 = .ok (.iload_n 2, 1) := by decide +kernel
theorem dX6_put_50 : decode cX6_put 50 = .ok (.invokevirtual 92, 3) := by decide +kernel
theorem dX6_put_53 : decode cX6_put 53 = .ok (.istore 5, 2) := by decide +kernel
theorem dX6_put_55 : decode cX6_put 55 = .ok (.aload 4, 2) := by decide +kernel
theorem dX6_put_57 : decode cX6_put 57 = .ok (.iload_n 2, 1) := by decide +kernel
theorem dX6_put_58 : decode cX6_put 58 = .ok (.iload_n 3, 1) := by decide +kernel
theorem dX6_put_59 : decode cX6_put 59 = .ok (.i2b, 1) := by decide +kernel
theorem dX6_put_60 : decode cX6_put 60 = .ok (.invokevirtual 95, 3) := by decide +kernel
theorem dX6_put_63 : decode cX6_put 63 = .ok (.iload 5, 2) := by decide +kernel
theorem dX6_put_65 : decode cX6_put 65 = .ok (.sipush 1000, 3) := by decide +kernel
theorem dX6_put_68 : decode cX6_put 68 = .ok (.iadd, 1) := by decide +kernel
theorem dX6_put_69 : decode cX6_put 69 = .ok (.ireturn, 1) := by decide +kernel
theorem dX6_cover_0 : decode cX6_cover 0 = .ok (.aload_n 0, 1) := by decide +kernel
theorem dX6_cover_1 : decode cX6_cover 1 = .ok (.iload_n 1, 1) := by decide +kernel
theorem dX6_cover_2 : decode cX6_cover 2 = .ok (.invokevirtual 124, 3) := by decide +kernel
theorem dX6_cover_5 : decode cX6_cover 5 = .ok (.ifCond .eq 20, 3) := by decide +kernel
theorem dX6_cover_8 : decode cX6_cover 8 = .ok (.aload_n 0, 1) := by decide +kernel
theorem dX6_cover_9 : decode cX6_cover 9 = .ok (.iload_n 3, 1) := by decide +kernel
theorem dX6_cover_10 : decode cX6_cover 10 = .ok (.invokevirtual 73, 3) := by decide +kernel
theorem dX6_cover_13 : decode cX6_cover 13 = .ok (.ifCond .eq 12, 3) := by decide +kernel
theorem dX6_cover_16 : decode cX6_cover 16 = .ok (.iload_n 2, 1) := by decide +kernel
theorem dX6_cover_17 : decode cX6_cover 17 = .ok (.ifCond .eq 10, 3) := by decide +kernel
theorem dX6_cover_20 : decode cX6_cover 20 = .ok (.iload_n 2, 1) := by decide +kernel
theorem dX6_cover_21 : decode cX6_cover 21 = .ok (.iconst 4, 1) := by decide +kernel
theorem dX6_cover_22 : decode cX6_cover 22 = .ok (.if_icmp .eq 5, 3) := by decide +kernel
theorem dX6_cover_25 : decode cX6_cover 25 = .ok (.iconst (-1), 1) := by decide +kernel
theorem dX6_cover_26 : decode cX6_cover 26 = .ok (.ireturn, 1) := by decide +kernel
theorem dX6_cover_27 : decode cX6_cover 27 = .ok (.aload_n 0, 1) := by decide +kernel
theorem dX6_cover_28 : decode cX6_cover 28 = .ok (.aload_n 0, 1) := by decide +kernel
theorem dX6_cover_29 : decode cX6_cover 29 = .ok (.getfield 20, 3) := by decide +kernel
theorem dX6_cover_32 : decode cX6_cover 32 = .ok (.iload_n 1, 1) := by decide +kernel
theorem dX6_cover_33 : decode cX6_cover 33 = .ok (.aaload, 1) := by decide +kernel
theorem dX6_cover_34 : decode cX6_cover 34 = .ok (.aload_n 0, 1) := by decide +kernel
theorem dX6_cover_35 : decode cX6_cover 35 = .ok (.getfield 11, 3) := by decide +kernel
theorem dX6_cover_38 : decode cX6_cover 38 = .ok (.iload_n 3, 1) := by decide +kernel
theorem dX6_cover_39 : decode cX6_cover 39 = .ok (.aaload, 1) := by decide +kernel
theorem dX6_cover_40 : decode cX6_cover 40 = .ok (.iload_n 2, 1) := by decide +kernel
theorem dX6_cover_41 : decode cX6_cover 41 = .ok (.iconst 0, 1) := by decide +kernel
theorem dX6_cover_42 : decode cX6_cover 42 = .ok (.invokevirtual 127, 3) := by decide +kernel
theorem dX6_cover_45 : decode cX6_cover 45 = .ok (.ireturn, 1) := by decide +kernel
theorem dX6_grey_0 : decode cX6_grey 0 = .ok (.aload_n 0, 1) := by decide +kernel
theorem dX6_grey_1 : decode cX6_grey 1 = .ok (.iload_n 1, 1) := by decide +kernel
theorem dX6_grey_2 : decode cX6_grey 2 = .ok (.invokevirtual 124, 3) := by decide +kernel
theorem dX6_grey_5 : decode cX6_grey 5 = .ok (.ifCond .eq 22, 3) := by decide +kernel
theorem dX6_grey_8 : decode cX6_grey 8 = .ok (.aload_n 0, 1) := by decide +kernel
theorem dX6_grey_9 : decode cX6_grey 9 = .ok (.iload_n 2, 1) := by decide +kernel
theorem dX6_grey_10 : decode cX6_grey 10 = .ok (.invokevirtual 73, 3) := by decide +kernel
theorem dX6_grey_13 : decode cX6_grey 13 = .ok (.ifCond .eq 14, 3) := by decide +kernel
theorem dX6_grey_16 : decode cX6_grey 16 = .ok (.iload_n 3, 1) := by decide +kernel
theorem dX6_grey_17 : decode cX6_grey 17 = .ok (.iconst 1, 1) := by decide +kernel
theorem dX6_grey_18 : decode cX6_grey 18 = .ok (.if_icmp .lt 9, 3) := by decide +kernel
theorem dX6_grey_21 : decode cX6_grey 21 = .ok (.iload_n 3, 1) := by decide +kernel
theorem dX6_grey_22 : decode cX6_grey 22 = .ok (.bipush 40, 2) := by decide +kernel
theorem dX6_grey_24 : decode cX6_grey 24 = .ok (.if_icmp .le 5, 3) := by decide +kernel
theorem dX6_grey_27 : decode cX6_grey 27 = .ok (.iconst (-1), 1) := by decide +kernel
theorem dX6_grey_28 : decode cX6_grey 28 = .ok (.ireturn, 1) := by decide +kernel
theorem dX6_grey_29 : decode cX6_grey 29 = .ok (.aload_n 0, 1) := by decide +kernel
theorem dX6_grey_30 : decode cX6_grey 30 = .ok (.aload_n 0, 1) := by decide +kernel
theorem dX6_grey_31 : decode cX6_grey 31 = .ok (.getfield 20, 3) := by decide +kernel
theorem dX6_grey_34 : decode cX6_grey 34 = .ok (.iload_n 1, 1) := by decide +kernel
theorem dX6_grey_35 : decode cX6_grey 35 = .ok (.aaload, 1) := by decide +kernel
theorem dX6_grey_36 : decode cX6_grey 36 = .ok (.aload_n 0, 1) := by decide +kernel
theorem dX6_grey_37 : decode cX6_grey 37 = .ok (.getfield 11, 3) := by decide +kernel
theorem dX6_grey_40 : decode cX6_grey 40 = .ok (.iload_n 2, 1) := by decide +kernel
theorem dX6_grey_41 : decode cX6_grey 41 = .ok (.aaload, 1) := by decide +kernel
theorem dX6_grey_42 : decode cX6_grey 42 = .ok (.iload 4, 2) := by decide +kernel
theorem dX6_grey_44 : decode cX6_grey 44 = .ok (.ifCond .eq 7, 3) := by decide +kernel
theorem dX6_grey_47 : decode cX6_grey 47 = .ok (.iconst 2, 1) := by decide +kernel
theorem dX6_grey_48 : decode cX6_grey 48 = .ok (.goto 4, 3) := by decide +kernel
theorem dX6_grey_51 : decode cX6_grey 51 = .ok (.iconst 1, 1) := by decide +kernel
theorem dX6_grey_52 : decode cX6_grey 52 = .ok (.iload_n 3, 1) := by decide +kernel
theorem dX6_grey_53 : decode cX6_grey 53 = .ok (.invokevirtual 127, 3) := by decide +kernel
theorem dX6_grey_56 : decode cX6_grey 56 = .ok (.ireturn, 1) := by decide +kernel
theorem dX6_wordy_0 : decode cX6_wordy 0 = .ok (.aload_n 0, 1) := by decide +kernel
theorem dX6_wordy_1 : decode cX6_wordy 1 = .ok (.iload_n 1, 1) := by decide +kernel
theorem dX6_wordy_2 : decode cX6_wordy 2 = .ok (.invokevirtual 124, 3) := by decide +kernel
theorem dX6_wordy_5 : decode cX6_wordy 5 = .ok (.ifCond .eq 19, 3) := by decide +kernel
theorem dX6_wordy_8 : decode cX6_wordy 8 = .ok (.aload_n 0, 1) := by decide +kernel
theorem dX6_wordy_9 : decode cX6_wordy 9 = .ok (.iload_n 2, 1) := by decide +kernel
theorem dX6_wordy_10 : decode cX6_wordy 10 = .ok (.invokevirtual 73, 3) := by decide +kernel
theorem dX6_wordy_13 : decode cX6_wordy 13 = .ok (.ifCond .eq 11, 3) := by decide +kernel
theorem dX6_wordy_16 : decode cX6_wordy 16 = .ok (.aload_n 0, 1) := by decide +kernel
theorem dX6_wordy_17 : decode cX6_wordy 17 = .ok (.iload_n 3, 1) := by decide +kernel
theorem dX6_wordy_18 : decode cX6_wordy 18 = .ok (.invokevirtual 73, 3) := by decide +kernel
theorem dX6_wordy_21 : decode cX6_wordy 21 = .ok (.ifCond .ne 5, 3) := by decide +kernel
theorem dX6_wordy_24 : decode cX6_wordy 24 = .ok (.iconst (-1), 1) := by decide +kernel
theorem dX6_wordy_25 : decode cX6_wordy 25 = .ok (.ireturn, 1) := by decide +kernel
theorem dX6_wordy_26 : decode cX6_wordy 26 = .ok (.aload_n 0, 1) := by decide +kernel
theorem dX6_wordy_27 : decode cX6_wordy 27 = .ok (.getfield 11, 3) := by decide +kernel
theorem dX6_wordy_30 : decode cX6_wordy 30 = .ok (.iload_n 2, 1) := by decide +kernel
theorem dX6_wordy_31 : decode cX6_wordy 31 = .ok (.aaload, 1) := by decide +kernel
theorem dX6_wordy_32 : decode cX6_wordy 32 = .ok (.astore 4, 2) := by decide +kernel
theorem dX6_wordy_34 : decode cX6_wordy 34 = .ok (.aload_n 0, 1) := by decide +kernel
theorem dX6_wordy_35 : decode cX6_wordy 35 = .ok (.getfield 11, 3) := by decide +kernel
theorem dX6_wordy_38 : decode cX6_wordy 38 = .ok (.iload_n 3, 1) := by decide +kernel
theorem dX6_wordy_39 : decode cX6_wordy 39 = .ok (.aaload, 1) := by decide +kernel
theorem dX6_wordy_40 : decode cX6_wordy 40 = .ok (.astore 5, 2) := by decide +kernel
theorem dX6_wordy_42 : decode cX6_wordy 42 = .ok (.aload 4, 2) := by decide +kernel
theorem dX6_wordy_44 : decode cX6_wordy 44 = .ok (.invokevirtual 85, 3) := by decide +kernel
theorem dX6_wordy_47 : decode cX6_wordy 47 = .ok (.ifCond .ne 11, 3) := by decide +kernel
theorem dX6_wordy_50 : decode cX6_wordy 50 = .ok (.aload 5, 2) := by decide +kernel
theorem dX6_wordy_52 : decode cX6_wordy 52 = .ok (.invokevirtual 85, 3) := by decide +kernel
theorem dX6_wordy_55 : decode cX6_wordy 55 = .ok (.ifCond .eq 9, 3) := by decide +kernel
theorem dX6_wordy_58 : decode cX6_wordy 58 = .ok (.aload_n 0, 1) := by decide +kernel
theorem dX6_wordy_59 : decode cX6_wordy 59 = .ok (.iconst 1, 1) := by decide +kernel
theorem dX6_wordy_60 : decode cX6_wordy 60 = .ok (.invokevirtual 77, 3) := by decide +kernel
theorem dX6_wordy_63 : decode cX6_wordy 63 = .ok (.ireturn, 1) := by decide +kernel
theorem dX6_wordy_64 : decode cX6_wordy 64 = .ok (.aload 4, 2) := by decide +kernel
theorem dX6_wordy_66 : decode cX6_wordy 66 = .ok (.getfield 114, 3) := by decide +kernel
theorem dX6_wordy_69 : decode cX6_wordy 69 = .ok (.iconst 1, 1) := by decide +kernel
theorem dX6_wordy_70 : decode cX6_wordy 70 = .ok (.if_icmp .lt 16, 3) := by decide +kernel
theorem dX6_wordy_73 : decode cX6_wordy 73 = .ok (.aload 4, 2) := by decide +kernel
theorem dX6_wordy_75 : decode cX6_wordy 75 = .ok (.getfield 114, 3) := by decide +kernel
theorem dX6_wordy_78 : decode cX6_wordy 78 = .ok (.aload 5, 2) := by decide +kernel
theorem dX6_wordy_80 : decode cX6_wordy 80 = .ok (.getfield 114, 3) := by decide +kernel
theorem dX6_wordy_83 : decode cX6_wordy 83 = .ok (.if_icmp .eq 9, 3) := by decide +kernel
theorem dX6_wordy_86 : decode cX6_wordy 86 = .ok (.aload_n 0, 1) := by decide +kernel
theorem dX6_wordy_87 : decode cX6_wordy 87 = .ok (.iconst 5, 1) := by decide +kernel
theorem dX6_wordy_88 : decode cX6_wordy 88 = .ok (.invokevirtual 77, 3) := by decide +kernel
theorem dX6_wordy_91 : decode cX6_wordy 91 = .ok (.ireturn, 1) := by decide +kernel
theorem dX6_wordy_92 : decode cX6_wordy 92 = .ok (.aload 4, 2) := by decide +kernel
theorem dX6_wordy_94 : decode cX6_wordy 94 = .ok (.aload 5, 2) := by decide +kernel
theorem dX6_wordy_96 : decode cX6_wordy 96 = .ok (.invokestatic 131, 3) := by decide +kernel
theorem dX6_wordy_99 : decode cX6_wordy 99 = .ok (.ifCond .ne 9, 3) := by decide +kernel
theorem dX6_wordy_102 : decode cX6_wordy 102 = .ok (.aload_n 0, 1) := by decide +kernel
theorem dX6_wordy_103 : decode cX6_wordy 103 = .ok (.iconst 3, 1) := by decide +kernel
theorem dX6_wordy_104 : decode cX6_wordy 104 = .ok (.invokevirtual 77, 3) := by decide +kernel
theorem dX6_wordy_107 : decode cX6_wordy 107 = .ok (.ireturn, 1) := by decide +kernel
theorem dX6_wordy_108 : decode cX6_wordy 108 = .ok (.aload_n 0, 1) := by decide +kernel
theorem dX6_wordy_109 : decode cX6_wordy 109 = .ok (.getfield 20, 3) := by decide +kernel
theorem dX6_wordy_112 : decode cX6_wordy 112 = .ok (.iload_n 1, 1) := by decide +kernel
theorem dX6_wordy_113 : decode cX6_wordy 113 = .ok (.aaload, 1) := by decide +kernel
theorem dX6_wordy_114 : decode cX6_wordy 114 = .ok (.aload 4, 2) := by decide +kernel
theorem dX6_wordy_116 : decode cX6_wordy 116 = .ok (.iconst 3, 1) := by decide +kernel
theorem dX6_wordy_117 : decode cX6_wordy 117 = .ok (.iconst 0, 1) := by decide +kernel
theorem dX6_wordy_118 : decode cX6_wordy 118 = .ok (.invokevirtual 135, 3) := by decide +kernel
theorem dX6_wordy_121 : decode cX6_wordy 121 = .ok (.aload_n 0, 1) := by decide +kernel
theorem dX6_wordy_122 : decode cX6_wordy 122 = .ok (.getfield 20, 3) := by decide +kernel
theorem dX6_wordy_125 : decode cX6_wordy 125 = .ok (.iload_n 1, 1) := by decide +kernel
theorem dX6_wordy_126 : decode cX6_wordy 126 = .ok (.aaload, 1) := by decide +kernel
theorem dX6_wordy_127 : decode cX6_wordy 127 = .ok (.aload 5, 2) := by decide +kernel
theorem dX6_wordy_129 : decode cX6_wordy 129 = .ok (.invokevirtual 138, 3) := by decide +kernel
theorem dX6_wordy_132 : decode cX6_wordy 132 = .ok (.aload 4, 2) := by decide +kernel
theorem dX6_wordy_134 : decode cX6_wordy 134 = .ok (.getfield 114, 3) := by decide +kernel
theorem dX6_wordy_137 : decode cX6_wordy 137 = .ok (.ireturn, 1) := by decide +kernel
theorem dX6_wet_0 : decode cX6_wet 0 = .ok (.aload_n 0, 1) := by decide +kernel
theorem dX6_wet_1 : decode cX6_wet 1 = .ok (.iload_n 1, 1) := by decide +kernel
theorem dX6_wet_2 : decode cX6_wet 2 = .ok (.invokevirtual 124, 3) := by decide +kernel
theorem dX6_wet_5 : decode cX6_wet 5 = .ok (.ifCond .eq 7, 3) := by decide +kernel
theorem dX6_wet_8 : decode cX6_wet 8 = .ok (.iload_n 2, 1) := by decide +kernel
theorem dX6_wet_9 : decode cX6_wet 9 = .ok (.ifCond .ge 5, 3) := by decide +kernel
theorem dX6_wet_12 : decode cX6_wet 12 = .ok (.iconst (-1), 1) := by decide +kernel
theorem dX6_wet_13 : decode cX6_wet 13 = .ok (.ireturn, 1) := by decide +kernel
theorem dX6_wet_14 : decode cX6_wet 14 = .ok (.aload_n 0, 1) := by decide +kernel
theorem dX6_wet_15 : decode cX6_wet 15 = .ok (.getfield 20, 3) := by decide +kernel
theorem dX6_wet_18 : decode cX6_wet 18 = .ok (.iload_n 1, 1) := by decide +kernel
theorem dX6_wet_19 : decode cX6_wet 19 = .ok (.aaload, 1) := by decide +kernel
theorem dX6_wet_20 : decode cX6_wet 20 = .ok (.astore_n 3, 1) := by decide +kernel
theorem dX6_wet_21 : decode cX6_wet 21 = .ok (.aload_n 3, 1) := by decide +kernel
theorem dX6_wet_22 : decode cX6_wet 22 = .ok (.invokevirtual 142, 3) := by decide +kernel
theorem dX6_wet_25 : decode cX6_wet 25 = .ok (.ifCond .eq 9, 3) := by decide +kernel
theorem dX6_wet_28 : decode cX6_wet 28 = .ok (.aload_n 0, 1) := by decide +kernel
theorem dX6_wet_29 : decode cX6_wet 29 = .ok (.iconst 1, 1) := by decide +kernel
theorem dX6_wet_30 : decode cX6_wet 30 = .ok (.invokevirtual 77, 3) := by decide +kernel
theorem dX6_wet_33 : decode cX6_wet 33 = .ok (.ireturn, 1) := by decide +kernel
theorem dX6_wet_34 : decode cX6_wet 34 = .ok (.aload_n 3, 1) := by decide +kernel
theorem dX6_wet_35 : decode cX6_wet 35 = .ok (.iload_n 2, 1) := by decide +kernel
theorem dX6_wet_36 : decode cX6_wet 36 = .ok (.putfield 143, 3) := by decide +kernel
theorem dX6_wet_39 : decode cX6_wet 39 = .ok (.aload_n 3, 1) := by decide +kernel
theorem dX6_wet_40 : decode cX6_wet 40 = .ok (.invokevirtual 146, 3) := by decide +kernel
theorem dX6_wet_43 : decode cX6_wet 43 = .ok (.ireturn, 1) := by decide +kernel
theorem dX6_drop_0 : decode cX6_drop 0 = .ok (.aload_n 0, 1) := by decide +kernel
theorem dX6_drop_1 : decode cX6_drop 1 = .ok (.iload_n 1, 1) := by decide +kernel
theorem dX6_drop_2 : decode cX6_drop 2 = .ok (.invokevirtual 124, 3) := by decide +kernel
theorem dX6_drop_5 : decode cX6_drop 5 = .ok (.ifCond .ne 5, 3) := by decide +kernel
theorem dX6_drop_8 : decode cX6_drop 8 = .ok (.iconst (-1), 1) := by decide +kernel
theorem dX6_drop_9 : decode cX6_drop 9 = .ok (.ireturn, 1) := by decide +kernel
theorem dX6_drop_10 : decode cX6_drop 10 = .ok (.aload_n 0, 1) := by decide +kernel
theorem dX6_drop_11 : decode cX6_drop 11 = .ok (.getfield 20, 3) := by decide +kernel
theorem dX6_drop_14 : decode cX6_drop 14 = .ok (.iload_n 1, 1) := by decide +kernel
theorem dX6_drop_15 : decode cX6_drop 15 = .ok (.aaload, 1) := by decide +kernel
theorem dX6_drop_16 : decode cX6_drop 16 = .ok (.invokevirtual 142, 3) := by decide +kernel
theorem dX6_drop_19 : decode cX6_drop 19 = .ok (.ifCond .eq 9, 3) := by decide +kernel
theorem dX6_drop_22 : decode cX6_drop 22 = .ok (.aload_n 0, 1) := by decide +kernel
theorem dX6_drop_23 : decode cX6_drop 23 = .ok (.iconst 1, 1) := by decide +kernel
theorem dX6_drop_24 : decode cX6_drop 24 = .ok (.invokevirtual 77, 3) := by decide +kernel
theorem dX6_drop_27 : decode cX6_drop 27 = .ok (.ireturn, 1) := by decide +kernel
theorem dX6_drop_28 : decode cX6_drop 28 = .ok (.aload_n 0, 1) := by decide +kernel
theorem dX6_drop_29 : decode cX6_drop 29 = .ok (.getfield 20, 3) := by decide +kernel
theorem dX6_drop_32 : decode cX6_drop 32 = .ok (.iload_n 1, 1) := by decide +kernel
theorem dX6_drop_33 : decode cX6_drop 33 = .ok (.aaload, 1) := by decide +kernel
theorem dX6_drop_34 : decode cX6_drop 34 = .ok (.invokevirtual 150, 3) := by decide +kernel
theorem dX6_drop_37 : decode cX6_drop 37 = .ok (.iconst 1, 1) := by decide +kernel
theorem dX6_drop_38 : decode cX6_drop 38 = .ok (.ireturn, 1) := by decide +kernel
theorem dX6_dots_0 : decode cX6_dots 0 = .ok (.aload_n 0, 1) := by decide +kernel
theorem dX6_dots_1 : decode cX6_dots 1 = .ok (.iload_n 1, 1) := by decide +kernel
theorem dX6_dots_2 : decode cX6_dots 2 = .ok (.invokevirtual 124, 3) := by decide +kernel
theorem dX6_dots_5 : decode cX6_dots 5 = .ok (.ifCond .eq 11, 3) := by decide +kernel
theorem dX6_dots_8 : decode cX6_dots 8 = .ok (.aload_n 0, 1) := by decide +kernel
theorem dX6_dots_9 : decode cX6_dots 9 = .ok (.iload_n 2, 1) := by decide +kernel
theorem dX6_dots_10 : decode cX6_dots 10 = .ok (.invokevirtual 73, 3) := by decide +kernel
theorem dX6_dots_13 : decode cX6_dots 13 = .ok (.ifCond .ne 5, 3) := by decide +kernel
theorem dX6_dots_16 : decode cX6_dots 16 = .ok (.iconst (-1), 1) := by decide +kernel
theorem dX6_dots_17 : decode cX6_dots 17 = .ok (.ireturn, 1) := by decide +kernel
theorem dX6_dots_18 : decode cX6_dots 18 = .ok (.aload_n 0, 1) := by decide +kernel
theorem dX6_dots_19 : decode cX6_dots 19 = .ok (.getfield 20, 3) := by decide +kernel
theorem dX6_dots_22 : decode cX6_dots 22 = .ok (.iload_n 1, 1) := by decide +kernel
theorem dX6_dots_23 : decode cX6_dots 23 = .ok (.aaload, 1) := by decide +kernel
theorem dX6_dots_24 : decode cX6_dots 24 = .ok (.astore_n 3, 1) := by decide +kernel
theorem dX6_dots_25 : decode cX6_dots 25 = .ok (.aload_n 3, 1) := by decide +kernel
theorem dX6_dots_26 : decode cX6_dots 26 = .ok (.invokevirtual 142, 3) := by decide +kernel
theorem dX6_dots_29 : decode cX6_dots 29 = .ok (.ifCond .eq 9, 3) := by decide +kernel
theorem dX6_dots_32 : decode cX6_dots 32 = .ok (.aload_n 0, 1) := by decide +kernel
theorem dX6_dots_33 : decode cX6_dots 33 = .ok (.iconst 1, 1) := by decide +kernel
theorem dX6_dots_34 : decode cX6_dots 34 = .ok (.invokevirtual 77, 3) := by decide +kernel
theorem dX6_dots_37 : decode cX6_dots 37 = .ok (.ireturn, 1) := by decide +kernel
theorem dX6_dots_38 : decode cX6_dots 38 = .ok (.aload_n 0, 1) := by decide +kernel
theorem dX6_dots_39 : decode cX6_dots 39 = .ok (.getfield 11, 3) := by decide +kernel
theorem dX6_dots_42 : decode cX6_dots 42 = .ok (.iload_n 2, 1) := by decide +kernel
theorem dX6_dots_43 : decode cX6_dots 43 = .ok (.aaload, 1) := by decide +kernel
theorem dX6_dots_44 : decode cX6_dots 44 = .ok (.astore 4, 2) := by decide +kernel
theorem dX6_dots_46 : decode cX6_dots 46 = .ok (.aload 4, 2) := by decide +kernel
theorem dX6_dots_48 : decode cX6_dots 48 = .ok (.aload_n 3, 1) := by decide +kernel
theorem dX6_dots_49 : decode cX6_dots 49 = .ok (.getfield 151, 3) := by decide +kernel
theorem dX6_dots_52 : decode cX6_dots 52 = .ok (.iconst 0, 1) := by decide +kernel
theorem dX6_dots_53 : decode cX6_dots 53 = .ok (.invokevirtual 81, 3) := by decide +kernel
theorem dX6_dots_56 : decode cX6_dots 56 = .ok (.iconst 0, 1) := by decide +kernel
theorem dX6_dots_57 : decode cX6_dots 57 = .ok (.istore 5, 2) := by decide +kernel
theorem dX6_dots_59 : decode cX6_dots 59 = .ok (.iload 5, 2) := by decide +kernel
theorem dX6_dots_61 : decode cX6_dots 61 = .ok (.aload_n 3, 1) := by decide +kernel
theorem dX6_dots_62 : decode cX6_dots 62 = .ok (.getfield 151, 3) := by decide +kernel
theorem dX6_dots_65 : decode cX6_dots 65 = .ok (.if_icmp .ge 22, 3) := by decide +kernel
theorem dX6_dots_68 : decode cX6_dots 68 = .ok (.aload 4, 2) := by decide +kernel
theorem dX6_dots_70 : decode cX6_dots 70 = .ok (.iload 5, 2) := by decide +kernel
theorem dX6_dots_72 : decode cX6_dots 72 = .ok (.aload_n 3, 1) := by decide +kernel
theorem dX6_dots_73 : decode cX6_dots 73 = .ok (.iload 5, 2) := by decide +kernel
theorem dX6_dots_75 : decode cX6_dots 75 = .ok (.invokevirtual 152, 3) := by decide +kernel
theorem dX6_dots_78 : decode cX6_dots 78 = .ok (.invokevirtual 95, 3) := by decide +kernel
theorem dX6_dots_81 : decode cX6_dots 81 = .ok (.iinc 5 1, 3) := by decide +kernel
theorem dX6_dots_84 : decode cX6_dots 84 = .ok (.goto (-25), 3) := by decide +kernel
theorem dX6_dots_87 : decode cX6_dots 87 = .ok (.aload_n 3, 1) := by decide +kernel
theorem dX6_dots_88 : decode cX6_dots 88 = .ok (.getfield 151, 3) := by decide +kernel
theorem dX6_dots_91 : decode cX6_dots 91 = .ok (.ireturn, 1) := by decide +kernel
theorem dX6_dot_0 : decode cX6_dot 0 = .ok (.aload_n 0, 1) := by decide +kernel
theorem dX6_dot_1 : decode cX6_dot 1 = .ok (.iload_n 1, 1) := by decide +kernel
theorem dX6_dot_2 : decode cX6_dot 2 = .ok (.invokevirtual 124, 3) := by decide +kernel
theorem dX6_dot_5 : decode cX6_dot 5 = .ok (.ifCond .eq 12, 3) := by decide +kernel
theorem dX6_dot_8 : decode cX6_dot 8 = .ok (.iload_n 3, 1) := by decide +kernel
theorem dX6_dot_9 : decode cX6_dot 9 = .ok (.ifCond .lt 8, 3) := by decide +kernel
theorem dX6_dot_12 : decode cX6_dot 12 = .ok (.iload_n 3, 1) := by decide +kernel
theorem dX6_dot_13 : decode cX6_dot 13 = .ok (.iconst 4, 1) := by decide +kernel
theorem dX6_dot_14 : decode cX6_dot 14 = .ok (.if_icmp .le 5, 3) := by decide +kernel
theorem dX6_dot_17 : decode cX6_dot 17 = .ok (.iconst (-1), 1) := by decide +kernel
theorem dX6_dot_18 : decode cX6_dot 18 = .ok (.ireturn, 1) := by decide +kernel
theorem dX6_dot_19 : decode cX6_dot 19 = .ok (.aload_n 0, 1) := by decide +kernel
theorem dX6_dot_20 : decode cX6_dot 20 = .ok (.getfield 20, 3) := by decide +kernel
theorem dX6_dot_23 : decode cX6_dot 23 = .ok (.iload_n 1, 1) := by decide +kernel
theorem dX6_dot_24 : decode cX6_dot 24 = .ok (.aaload, 1) := by decide +kernel
theorem dX6_dot_25 : decode cX6_dot 25 = .ok (.astore 4, 2) := by decide +kernel
theorem dX6_dot_27 : decode cX6_dot 27 = .ok (.aload 4, 2) := by decide +kernel
theorem dX6_dot_29 : decode cX6_dot 29 = .ok (.invokevirtual 142, 3) := by decide +kernel
theorem dX6_dot_32 : decode cX6_dot 32 = .ok (.ifCond .eq 9, 3) := by decide +kernel
theorem dX6_dot_35 : decode cX6_dot 35 = .ok (.aload_n 0, 1) := by decide +kernel
theorem dX6_dot_36 : decode cX6_dot 36 = .ok (.iconst 1, 1) := by decide +kernel
theorem dX6_dot_37 : decode cX6_dot 37 = .ok (.invokevirtual 77, 3) := by decide +kernel
theorem dX6_dot_40 : decode cX6_dot 40 = .ok (.ireturn, 1) := by decide +kernel
theorem dX6_dot_41 : decode cX6_dot 41 = .ok (.aload 4, 2) := by decide +kernel
theorem dX6_dot_43 : decode cX6_dot 43 = .ok (.iload_n 2, 1) := by decide +kernel
theorem dX6_dot_44 : decode cX6_dot 44 = .ok (.invokevirtual 155, 3) := by decide +kernel
theorem dX6_dot_47 : decode cX6_dot 47 = .ok (.ifCond .ne 9, 3) := by decide +kernel
theorem dX6_dot_50 : decode cX6_dot 50 = .ok (.aload_n 0, 1) := by decide +kernel
theorem dX6_dot_51 : decode cX6_dot 51 = .ok (.iconst 2, 1) := by decide +kernel
theorem dX6_dot_52 : decode cX6_dot 52 = .ok (.invokevirtual 77, 3) := by decide +kernel
theorem dX6_dot_55 : decode cX6_dot 55 = .ok (.ireturn, 1) := by decide +kernel
theorem dX6_dot_56 : decode cX6_dot 56 = .ok (.aload_n 0, 1) := by decide +kernel
theorem dX6_dot_57 : decode cX6_dot 57 = .ok (.aload 4, 2) := by decide +kernel
theorem dX6_dot_59 : decode cX6_dot 59 = .ok (.iload_n 2, 1) := by decide +kernel
theorem dX6_dot_60 : decode cX6_dot 60 = .ok (.iload_n 3, 1) := by decide +kernel
theorem dX6_dot_61 : decode cX6_dot 61 = .ok (.invokevirtual 156, 3) := by decide +kernel
theorem dX6_dot_64 : decode cX6_dot 64 = .ok (.putfield 61, 3) := by decide +kernel
theorem dX6_dot_67 : decode cX6_dot 67 = .ok (.iconst 1, 1) := by decide +kernel
theorem dX6_dot_68 : decode cX6_dot 68 = .ok (.ireturn, 1) := by decide +kernel
theorem dX6_kind_0 : decode cX6_kind 0 = .ok (.aload_n 0, 1) := by decide +kernel
theorem dX6_kind_1 : decode cX6_kind 1 = .ok (.iload_n 1, 1) := by decide +kernel
theorem dX6_kind_2 : decode cX6_kind 2 = .ok (.invokevirtual 124, 3) := by decide +kernel
theorem dX6_kind_5 : decode cX6_kind 5 = .ok (.ifCond .ne 5, 3) := by decide +kernel
theorem dX6_kind_8 : decode cX6_kind 8 = .ok (.iconst (-1), 1) := by decide +kernel
theorem dX6_kind_9 : decode cX6_kind 9 = .ok (.ireturn, 1) := by decide +kernel
theorem dX6_kind_10 : decode cX6_kind 10 = .ok (.aload_n 0, 1) := by decide +kernel
theorem dX6_kind_11 : decode cX6_kind 11 = .ok (.getfield 20, 3) := by decide +kernel
theorem dX6_kind_14 : decode cX6_kind 14 = .ok (.iload_n 1, 1) := by decide +kernel
theorem dX6_kind_15 : decode cX6_kind 15 = .ok (.aaload, 1) := by decide +kernel
theorem dX6_kind_16 : decode cX6_kind 16 = .ok (.invokevirtual 142, 3) := by decide +kernel
theorem dX6_kind_19 : decode cX6_kind 19 = .ok (.ifCond .eq 11, 3) := by decide +kernel
theorem dX6_kind_22 : decode cX6_kind 22 = .ok (.aload_n 0, 1) := by decide +kernel
theorem dX6_kind_23 : decode cX6_kind 23 = .ok (.iconst 1, 1) := by decide +kernel
theorem dX6_kind_24 : decode cX6_kind 24 = .ok (.invokevirtual 77, 3) := by decide +kernel
theorem dX6_kind_27 : decode cX6_kind 27 = .ok (.goto 12, 3) := by decide +kernel
theorem dX6_kind_30 : decode cX6_kind 30 = .ok (.aload_n 0, 1) := by decide +kernel
theorem dX6_kind_31 : decode cX6_kind 31 = .ok (.getfield 20, 3) := by decide +kernel
theorem dX6_kind_34 : decode cX6_kind 34 = .ok (.iload_n 1, 1) := by decide +kernel
theorem dX6_kind_35 : decode cX6_kind 35 = .ok (.aaload, 1) := by decide +kernel
theorem dX6_kind_36 : decode cX6_kind 36 = .ok (.getfield 160, 3) := by decide +kernel
theorem dX6_kind_39 : decode cX6_kind 39 = .ok (.ireturn, 1) := by decide +kernel
theorem dX6_mark_0 : decode cX6_mark 0 = .ok (.aload_n 0, 1) := by decide +kernel
theorem dX6_mark_1 : decode cX6_mark 1 = .ok (.iload_n 1, 1) := by decide +kernel
theorem dX6_mark_2 : decode cX6_mark 2 = .ok (.invokevirtual 124, 3) := by decide +kernel
theorem dX6_mark_5 : decode cX6_mark 5 = .ok (.ifCond .eq 13, 3) := by decide +kernel
theorem dX6_mark_8 : decode cX6_mark 8 = .ok (.iload_n 2, 1) := by decide +kernel
theorem dX6_mark_9 : decode cX6_mark 9 = .ok (.iconst 1, 1) := by decide +kernel
theorem dX6_mark_10 : decode cX6_mark 10 = .ok (.if_icmp .lt 8, 3) := by decide +kernel
theorem dX6_mark_13 : decode cX6_mark 13 = .ok (.iload_n 2, 1) := by decide +kernel
theorem dX6_mark_14 : decode cX6_mark 14 = .ok (.iconst 4, 1) := by decide +kernel
theorem dX6_mark_15 : decode cX6_mark 15 = .ok (.if_icmp .le 5, 3) := by decide +kernel
theorem dX6_mark_18 : decode cX6_mark 18 = .ok (.iconst (-1), 1) := by decide +kernel
theorem dX6_mark_19 : decode cX6_mark 19 = .ok (.ireturn, 1) := by decide +kernel
theorem dX6_mark_20 : decode cX6_mark 20 = .ok (.aload_n 0, 1) := by decide +kernel
theorem dX6_mark_21 : decode cX6_mark 21 = .ok (.getfield 20, 3) := by decide +kernel
theorem dX6_mark_24 : decode cX6_mark 24 = .ok (.iload_n 1, 1) := by decide +kernel
theorem dX6_mark_25 : decode cX6_mark 25 = .ok (.aaload, 1) := by decide +kernel
theorem dX6_mark_26 : decode cX6_mark 26 = .ok (.astore_n 3, 1) := by decide +kernel
theorem dX6_mark_27 : decode cX6_mark 27 = .ok (.aload_n 3, 1) := by decide +kernel
theorem dX6_mark_28 : decode cX6_mark 28 = .ok (.invokevirtual 142, 3) := by decide +kernel
theorem dX6_mark_31 : decode cX6_mark 31 = .ok (.ifCond .eq 9, 3) := by decide +kernel
theorem dX6_mark_34 : decode cX6_mark 34 = .ok (.aload_n 0, 1) := by decide +kernel
theorem dX6_mark_35 : decode cX6_mark 35 = .ok (.iconst 1, 1) := by decide +kernel
theorem dX6_mark_36 : decode cX6_mark 36 = .ok (.invokevirtual 77, 3) := by decide +kernel
theorem dX6_mark_39 : decode cX6_mark 39 = .ok (.ireturn, 1) := by decide +kernel
theorem dX6_mark_40 : decode cX6_mark 40 = .ok (.aload_n 3, 1) := by decide +kernel
theorem dX6_mark_41 : decode cX6_mark 41 = .ok (.iload_n 2, 1) := by decide +kernel
theorem dX6_mark_42 : decode cX6_mark 42 = .ok (.invokevirtual 163, 3) := by decide +kernel
theorem dX6_mark_45 : decode cX6_mark 45 = .ok (.ifCond .ne 9, 3) := by decide +kernel
theorem dX6_mark_48 : decode cX6_mark 48 = .ok (.aload_n 0, 1) := by decide +kernel
theorem dX6_mark_49 : decode cX6_mark 49 = .ok (.iconst 3, 1) := by decide +kernel
theorem dX6_mark_50 : decode cX6_mark 50 = .ok (.invokevirtual 77, 3) := by decide +kernel
theorem dX6_mark_53 : decode cX6_mark 53 = .ok (.ireturn, 1) := by decide +kernel
theorem dX6_mark_54 : decode cX6_mark 54 = .ok (.iload_n 2, 1) := by decide +kernel
theorem dX6_mark_55 : decode cX6_mark 55 = .ok (.tableswitch 40 1 3 #[25, 30, 35], 25) := by decide +kernel
theorem dX6_mark_80 : decode cX6_mark 80 = .ok (.aload_n 3, 1) := by decide +kernel
theorem dX6_mark_81 : decode cX6_mark 81 = .ok (.invokevirtual 166, 3) := by decide +kernel
theorem dX6_mark_84 : decode cX6_mark 84 = .ok (.ireturn, 1) := by decide +kernel
theorem dX6_mark_85 : decode cX6_mark 85 = .ok (.aload_n 3, 1) := by decide +kernel
theorem dX6_mark_86 : decode cX6_mark 86 = .ok (.invokevirtual 169, 3) := by decide +kernel
theorem dX6_mark_89 : decode cX6_mark 89 = .ok (.ireturn, 1) := by decide +kernel
theorem dX6_mark_90 : decode cX6_mark 90 = .ok (.aload_n 3, 1) := by decide +kernel
theorem dX6_mark_91 : decode cX6_mark 91 = .ok (.invokevirtual 172, 3) := by decide +kernel
theorem dX6_mark_94 : decode cX6_mark 94 = .ok (.ireturn, 1) := by decide +kernel
theorem dX6_mark_95 : decode cX6_mark 95 = .ok (.aload_n 3, 1) := by decide +kernel
theorem dX6_mark_96 : decode cX6_mark 96 = .ok (.invokevirtual 175, 3) := by decide +kernel
theorem dX6_mark_99 : decode cX6_mark 99 = .ok (.ireturn, 1) := by decide +kernel
theorem dX6_place_0 : decode cX6_place 0 = .ok (.aload_n 0, 1) := by decide +kernel
theorem dX6_place_1 : decode cX6_place 1 = .ok (.iload_n 1, 1) := by decide +kernel
theorem dX6_place_2 : decode cX6_place 2 = .ok (.invokevirtual 124, 3) := by decide +kernel
theorem dX6_place_5 : decode cX6_place 5 = .ok (.ifCond .ne 5, 3) := by decide +kernel
theorem dX6_place_8 : decode cX6_place 8 = .ok (.iconst (-1), 1) := by decide +kernel
theorem dX6_place_9 : decode cX6_place 9 = .ok (.ireturn, 1) := by decide +kernel
theorem dX6_place_10 : decode cX6_place 10 = .ok (.aload_n 0, 1) := by decide +kernel
theorem dX6_place_11 : decode cX6_place 11 = .ok (.getfield 20, 3) := by decide +kernel
theorem dX6_place_14 : decode cX6_place 14 = .ok (.iload_n 1, 1) := by decide +kernel
theorem dX6_place_15 : decode cX6_place 15 = .ok (.aaload, 1) := by decide +kernel
theorem dX6_place_16 : decode cX6_place 16 = .ok (.astore 4, 2) := by decide +kernel
theorem dX6_place_18 : decode cX6_place 18 = .ok (.aload 4, 2) := by decide +kernel
theorem dX6_place_20 : decode cX6_place 20 = .ok (.invokevirtual 142, 3) := by decide +kernel
theorem dX6_place_23 : decode cX6_place 23 = .ok (.ifCond .eq 9, 3) := by decide +kernel
theorem dX6_place_26 : decode cX6_place 26 = .ok (.aload_n 0, 1) := by decide +kernel
theorem dX6_place_27 : decode cX6_place 27 = .ok (.iconst 1, 1) := by decide +kernel
theorem dX6_place_28 : decode cX6_place 28 = .ok (.invokevirtual 77, 3) := by decide +kernel
theorem dX6_place_31 : decode cX6_place 31 = .ok (.ireturn, 1) := by decide +kernel
theorem dX6_place_32 : decode cX6_place 32 = .ok (.aload 4, 2) := by decide +kernel
theorem dX6_place_34 : decode cX6_place 34 = .ok (.iload_n 3, 1) := by decide +kernel
theorem dX6_place_35 : decode cX6_place 35 = .ok (.invokevirtual 155, 3) := by decide +kernel
theorem dX6_place_38 : decode cX6_place 38 = .ok (.ifCond .ne 9, 3) := by decide +kernel
theorem dX6_place_41 : decode cX6_place 41 = .ok (.aload_n 0, 1) := by decide +kernel
theorem dX6_place_42 : decode cX6_place 42 = .ok (.iconst 2, 1) := by decide +kernel
theorem dX6_place_43 : decode cX6_place 43 = .ok (.invokevirtual 77, 3) := by decide +kernel
theorem dX6_place_46 : decode cX6_place 46 = .ok (.ireturn, 1) := by decide +kernel
theorem dX6_place_47 : decode cX6_place 47 = .ok (.aload_n 0, 1) := by decide +kernel
theorem dX6_place_48 : decode cX6_place 48 = .ok (.getfield 43, 3) := by decide +kernel
theorem dX6_place_51 : decode cX6_place 51 = .ok (.iload_n 2, 1) := by decide +kernel
theorem dX6_place_52 : decode cX6_place 52 = .ok (.aload 4, 2) := by decide +kernel
theorem dX6_place_54 : decode cX6_place 54 = .ok (.getfield 151, 3) := by decide +kernel
theorem dX6_place_57 : decode cX6_place 57 = .ok (.invokevirtual 178, 3) := by decide +kernel
theorem dX6_place_60 : decode cX6_place 60 = .ok (.aload_n 0, 1) := by decide +kernel
theorem dX6_place_61 : decode cX6_place 61 = .ok (.getfield 43, 3) := by decide +kernel
theorem dX6_place_64 : decode cX6_place 64 = .ok (.iload_n 3, 1) := by decide +kernel
theorem dX6_place_65 : decode cX6_place 65 = .ok (.invokevirtual 181, 3) := by decide +kernel
theorem dX6_place_68 : decode cX6_place 68 = .ok (.ireturn, 1) := by decide +kernel
theorem dX6_fault_0 : decode cX6_fault 0 = .ok (.aload_n 0, 1) := by decide +kernel
theorem dX6_fault_1 : decode cX6_fault 1 = .ok (.iload_n 1, 1) := by decide +kernel
theorem dX6_fault_2 : decode cX6_fault 2 = .ok (.invokevirtual 121, 3) := by decide +kernel
theorem dX6_fault_5 : decode cX6_fault 5 = .ok (.ifCond .ne 5, 3) := by decide +kernel
