theorem dX7_askedDots_131 : decode cX7_askedDots 131 = .ok (.goto 8, 3) := by decide +kernel
theorem dX7_askedDots_134 : decode cX7_askedDots 134 = .ok (.aload_n 0, 1) := by decide +kernel
theorem dX7_askedDots_135 : decode cX7_askedDots 135 = .ok (.iconst 3, 1) := by decide +kernel
theorem dX7_askedDots_136 : decode cX7_askedDots 136 = .ok (.invokevirtual 100, 3) := by decide +kernel
theorem dX7_askedDots_139 : decode cX7_askedDots 139 = .ok (.ireturn, 1) := by decide +kernel
theorem dX7_come_0 : decode cX7_come 0 = .ok (.aload_n 0, 1) := by decide +kernel
theorem dX7_come_1 : decode cX7_come 1 = .ok (.getfield 35, 3) := by decide +kernel
theorem dX7_come_4 : decode cX7_come 4 = .ok (.iload_n 1, 1) := by decide +kernel
theorem dX7_come_5 : decode cX7_come 5 = .ok (.iload_n 2, 1) := by decide +kernel
theorem dX7_come_6 : decode cX7_come 6 = .ok (.iastore, 1) := by decide +kernel
theorem dX7_come_7 : decode cX7_come 7 = .ok (.aload_n 0, 1) := by decide +kernel
theorem dX7_come_8 : decode cX7_come 8 = .ok (.getfield 32, 3) := by decide +kernel
theorem dX7_come_11 : decode cX7_come 11 = .ok (.iload_n 1, 1) := by decide +kernel
theorem dX7_come_12 : decode cX7_come 12 = .ok (.aload_n 0, 1) := by decide +kernel
theorem dX7_come_13 : decode cX7_come 13 = .ok (.getfield 17, 3) := by decide +kernel
theorem dX7_come_16 : decode cX7_come 16 = .ok (.iload_n 3, 1) := by decide +kernel
theorem dX7_come_17 : decode cX7_come 17 = .ok (.iaload, 1) := by decide +kernel
theorem dX7_come_18 : decode cX7_come 18 = .ok (.iastore, 1) := by decide +kernel
theorem dX7_come_19 : decode cX7_come 19 = .ok (.aload_n 0, 1) := by decide +kernel
theorem dX7_come_20 : decode cX7_come 20 = .ok (.getfield 47, 3) := by decide +kernel
theorem dX7_come_23 : decode cX7_come 23 = .ok (.iload_n 1, 1) := by decide +kernel
theorem dX7_come_24 : decode cX7_come 24 = .ok (.iconst 0, 1) := by decide +kernel
theorem dX7_come_25 : decode cX7_come 25 = .ok (.iastore, 1) := by decide +kernel
theorem dX7_come_26 : decode cX7_come 26 = .ok (.iconst 0, 1) := by decide +kernel
theorem dX7_come_27 : decode cX7_come 27 = .ok (.istore 4, 2) := by decide +kernel
theorem dX7_come_29 : decode cX7_come 29 = .ok (.iload 4, 2) := by decide +kernel
theorem dX7_come_31 : decode cX7_come 31 = .ok (.aload_n 0, 1) := by decide +kernel
theorem dX7_come_32 : decode cX7_come 32 = .ok (.getfield 32, 3) := by decide +kernel
theorem dX7_come_35 : decode cX7_come 35 = .ok (.iload_n 1, 1) := by decide +kernel
theorem dX7_come_36 : decode cX7_come 36 = .ok (.iaload, 1) := by decide +kernel
theorem dX7_come_37 : decode cX7_come 37 = .ok (.if_icmp .ge 28, 3) := by decide +kernel
theorem dX7_come_40 : decode cX7_come 40 = .ok (.aload_n 0, 1) := by decide +kernel
theorem dX7_come_41 : decode cX7_come 41 = .ok (.getfield 38, 3) := by decide +kernel
theorem dX7_come_44 : decode cX7_come 44 = .ok (.bipush 40, 2) := by decide +kernel
theorem dX7_come_46 : decode cX7_come 46 = .ok (.iload_n 1, 1) := by decide +kernel
theorem dX7_come_47 : decode cX7_come 47 = .ok (.imul, 1) := by decide +kernel
theorem dX7_come_48 : decode cX7_come 48 = .ok (.iload 4, 2) := by decide +kernel
theorem dX7_come_50 : decode cX7_come 50 = .ok (.iadd, 1) := by decide +kernel
theorem dX7_come_51 : decode cX7_come 51 = .ok (.aload_n 0, 1) := by decide +kernel
theorem dX7_come_52 : decode cX7_come 52 = .ok (.iload_n 3, 1) := by decide +kernel
theorem dX7_come_53 : decode cX7_come 53 = .ok (.iload 4, 2) := by decide +kernel
theorem dX7_come_55 : decode cX7_come 55 = .ok (.invokevirtual 110, 3) := by decide +kernel
theorem dX7_come_58 : decode cX7_come 58 = .ok (.iastore, 1) := by decide +kernel
theorem dX7_come_59 : decode cX7_come 59 = .ok (.iinc 4 1, 3) := by decide +kernel
theorem dX7_come_62 : decode cX7_come 62 = .ok (.goto (-33), 3) := by decide +kernel
theorem dX7_come_65 : decode cX7_come 65 = .ok (.aload_n 0, 1) := by decide +kernel
theorem dX7_come_66 : decode cX7_come 66 = .ok (.getfield 32, 3) := by decide +kernel
theorem dX7_come_69 : decode cX7_come 69 = .ok (.iload_n 1, 1) := by decide +kernel
theorem dX7_come_70 : decode cX7_come 70 = .ok (.iaload, 1) := by decide +kernel
theorem dX7_come_71 : decode cX7_come 71 = .ok (.ireturn, 1) := by decide +kernel
theorem dX7_cover_0 : decode cX7_cover 0 = .ok (.iload_n 1, 1) := by decide +kernel
theorem dX7_cover_1 : decode cX7_cover 1 = .ok (.invokestatic 123, 3) := by decide +kernel
theorem dX7_cover_4 : decode cX7_cover 4 = .ok (.ifCond .eq 19, 3) := by decide +kernel
theorem dX7_cover_7 : decode cX7_cover 7 = .ok (.iload_n 2, 1) := by decide +kernel
theorem dX7_cover_8 : decode cX7_cover 8 = .ok (.ifCond .eq 8, 3) := by decide +kernel
theorem dX7_cover_11 : decode cX7_cover 11 = .ok (.iload_n 2, 1) := by decide +kernel
theorem dX7_cover_12 : decode cX7_cover 12 = .ok (.iconst 4, 1) := by decide +kernel
theorem dX7_cover_13 : decode cX7_cover 13 = .ok (.if_icmp .ne 10, 3) := by decide +kernel
theorem dX7_cover_16 : decode cX7_cover 16 = .ok (.iload_n 3, 1) := by decide +kernel
theorem dX7_cover_17 : decode cX7_cover 17 = .ok (.invokestatic 96, 3) := by decide +kernel
theorem dX7_cover_20 : decode cX7_cover 20 = .ok (.ifCond .ne 5, 3) := by decide +kernel
theorem dX7_cover_23 : decode cX7_cover 23 = .ok (.iconst (-1), 1) := by decide +kernel
theorem dX7_cover_24 : decode cX7_cover 24 = .ok (.ireturn, 1) := by decide +kernel
theorem dX7_cover_25 : decode cX7_cover 25 = .ok (.aload_n 0, 1) := by decide +kernel
theorem dX7_cover_26 : decode cX7_cover 26 = .ok (.iload_n 3, 1) := by decide +kernel
theorem dX7_cover_27 : decode cX7_cover 27 = .ok (.iload_n 2, 1) := by decide +kernel
theorem dX7_cover_28 : decode cX7_cover 28 = .ok (.iconst 4, 1) := by decide +kernel
theorem dX7_cover_29 : decode cX7_cover 29 = .ok (.if_icmp .ne 7, 3) := by decide +kernel
theorem dX7_cover_32 : decode cX7_cover 32 = .ok (.iconst 1, 1) := by decide +kernel
theorem dX7_cover_33 : decode cX7_cover 33 = .ok (.goto 4, 3) := by decide +kernel
theorem dX7_cover_36 : decode cX7_cover 36 = .ok (.iconst 0, 1) := by decide +kernel
theorem dX7_cover_37 : decode cX7_cover 37 = .ok (.invokevirtual 126, 3) := by decide +kernel
theorem dX7_cover_40 : decode cX7_cover 40 = .ok (.istore 4, 2) := by decide +kernel
theorem dX7_cover_42 : decode cX7_cover 42 = .ok (.iload 4, 2) := by decide +kernel
theorem dX7_cover_44 : decode cX7_cover 44 = .ok (.ifCond .ge 8, 3) := by decide +kernel
theorem dX7_cover_47 : decode cX7_cover 47 = .ok (.iload 4, 2) := by decide +kernel
theorem dX7_cover_49 : decode cX7_cover 49 = .ok (.goto 10, 3) := by decide +kernel
theorem dX7_cover_52 : decode cX7_cover 52 = .ok (.aload_n 0, 1) := by decide +kernel
theorem dX7_cover_53 : decode cX7_cover 53 = .ok (.iload_n 1, 1) := by decide +kernel
theorem dX7_cover_54 : decode cX7_cover 54 = .ok (.iload_n 2, 1) := by decide +kernel
theorem dX7_cover_55 : decode cX7_cover 55 = .ok (.iload_n 3, 1) := by decide +kernel
theorem dX7_cover_56 : decode cX7_cover 56 = .ok (.invokevirtual 130, 3) := by decide +kernel
theorem dX7_cover_59 : decode cX7_cover 59 = .ok (.ireturn, 1) := by decide +kernel
theorem dX7_grey_0 : decode cX7_grey 0 = .ok (.iload_n 1, 1) := by decide +kernel
theorem dX7_grey_1 : decode cX7_grey 1 = .ok (.invokestatic 123, 3) := by decide +kernel
theorem dX7_grey_4 : decode cX7_grey 4 = .ok (.ifCond .eq 20, 3) := by decide +kernel
theorem dX7_grey_7 : decode cX7_grey 7 = .ok (.iload_n 2, 1) := by decide +kernel
theorem dX7_grey_8 : decode cX7_grey 8 = .ok (.invokestatic 96, 3) := by decide +kernel
theorem dX7_grey_11 : decode cX7_grey 11 = .ok (.ifCond .eq 13, 3) := by decide +kernel
theorem dX7_grey_14 : decode cX7_grey 14 = .ok (.iload_n 3, 1) := by decide +kernel
theorem dX7_grey_15 : decode cX7_grey 15 = .ok (.iconst 1, 1) := by decide +kernel
theorem dX7_grey_16 : decode cX7_grey 16 = .ok (.bipush 40, 2) := by decide +kernel
theorem dX7_grey_18 : decode cX7_grey 18 = .ok (.invokestatic 92, 3) := by decide +kernel
theorem dX7_grey_21 : decode cX7_grey 21 = .ok (.ifCond .ne 5, 3) := by decide +kernel
theorem dX7_grey_24 : decode cX7_grey 24 = .ok (.iconst (-1), 1) := by decide +kernel
theorem dX7_grey_25 : decode cX7_grey 25 = .ok (.ireturn, 1) := by decide +kernel
theorem dX7_grey_26 : decode cX7_grey 26 = .ok (.aload_n 0, 1) := by decide +kernel
theorem dX7_grey_27 : decode cX7_grey 27 = .ok (.iload_n 2, 1) := by decide +kernel
theorem dX7_grey_28 : decode cX7_grey 28 = .ok (.iconst 0, 1) := by decide +kernel
theorem dX7_grey_29 : decode cX7_grey 29 = .ok (.invokevirtual 126, 3) := by decide +kernel
theorem dX7_grey_32 : decode cX7_grey 32 = .ok (.istore 5, 2) := by decide +kernel
theorem dX7_grey_34 : decode cX7_grey 34 = .ok (.iload 5, 2) := by decide +kernel
theorem dX7_grey_36 : decode cX7_grey 36 = .ok (.ifCond .ge 6, 3) := by decide +kernel
theorem dX7_grey_39 : decode cX7_grey 39 = .ok (.iload 5, 2) := by decide +kernel
theorem dX7_grey_41 : decode cX7_grey 41 = .ok (.ireturn, 1) := by decide +kernel
theorem dX7_grey_42 : decode cX7_grey 42 = .ok (.aload_n 0, 1) := by decide +kernel
theorem dX7_grey_43 : decode cX7_grey 43 = .ok (.getfield 44, 3) := by decide +kernel
theorem dX7_grey_46 : decode cX7_grey 46 = .ok (.iload_n 1, 1) := by decide +kernel
theorem dX7_grey_47 : decode cX7_grey 47 = .ok (.iload_n 3, 1) := by decide +kernel
theorem dX7_grey_48 : decode cX7_grey 48 = .ok (.iastore, 1) := by decide +kernel
theorem dX7_grey_49 : decode cX7_grey 49 = .ok (.aload_n 0, 1) := by decide +kernel
theorem dX7_grey_50 : decode cX7_grey 50 = .ok (.iload_n 1, 1) := by decide +kernel
theorem dX7_grey_51 : decode cX7_grey 51 = .ok (.iload 4, 2) := by decide +kernel
theorem dX7_grey_53 : decode cX7_grey 53 = .ok (.ifCond .eq 7, 3) := by decide +kernel
theorem dX7_grey_56 : decode cX7_grey 56 = .ok (.iconst 2, 1) := by decide +kernel
theorem dX7_grey_57 : decode cX7_grey 57 = .ok (.goto 4, 3) := by decide +kernel
theorem dX7_grey_60 : decode cX7_grey 60 = .ok (.iconst 1, 1) := by decide +kernel
theorem dX7_grey_61 : decode cX7_grey 61 = .ok (.iload_n 2, 1) := by decide +kernel
theorem dX7_grey_62 : decode cX7_grey 62 = .ok (.invokevirtual 130, 3) := by decide +kernel
theorem dX7_grey_65 : decode cX7_grey 65 = .ok (.ireturn, 1) := by decide +kernel
theorem dX7_wordy_0 : decode cX7_wordy 0 = .ok (.iload_n 1, 1) := by decide +kernel
theorem dX7_wordy_1 : decode cX7_wordy 1 = .ok (.invokestatic 123, 3) := by decide +kernel
theorem dX7_wordy_4 : decode cX7_wordy 4 = .ok (.ifCond .eq 17, 3) := by decide +kernel
theorem dX7_wordy_7 : decode cX7_wordy 7 = .ok (.iload_n 2, 1) := by decide +kernel
theorem dX7_wordy_8 : decode cX7_wordy 8 = .ok (.invokestatic 96, 3) := by decide +kernel
theorem dX7_wordy_11 : decode cX7_wordy 11 = .ok (.ifCond .eq 10, 3) := by decide +kernel
theorem dX7_wordy_14 : decode cX7_wordy 14 = .ok (.iload_n 3, 1) := by decide +kernel
theorem dX7_wordy_15 : decode cX7_wordy 15 = .ok (.invokestatic 96, 3) := by decide +kernel
theorem dX7_wordy_18 : decode cX7_wordy 18 = .ok (.ifCond .ne 5, 3) := by decide +kernel
theorem dX7_wordy_21 : decode cX7_wordy 21 = .ok (.iconst (-1), 1) := by decide +kernel
theorem dX7_wordy_22 : decode cX7_wordy 22 = .ok (.ireturn, 1) := by decide +kernel
theorem dX7_wordy_23 : decode cX7_wordy 23 = .ok (.aload_n 0, 1) := by decide +kernel
theorem dX7_wordy_24 : decode cX7_wordy 24 = .ok (.getfield 17, 3) := by decide +kernel
theorem dX7_wordy_27 : decode cX7_wordy 27 = .ok (.iload_n 2, 1) := by decide +kernel
theorem dX7_wordy_28 : decode cX7_wordy 28 = .ok (.iaload, 1) := by decide +kernel
theorem dX7_wordy_29 : decode cX7_wordy 29 = .ok (.ifCond .lt 12, 3) := by decide +kernel
theorem dX7_wordy_32 : decode cX7_wordy 32 = .ok (.aload_n 0, 1) := by decide +kernel
theorem dX7_wordy_33 : decode cX7_wordy 33 = .ok (.getfield 17, 3) := by decide +kernel
theorem dX7_wordy_36 : decode cX7_wordy 36 = .ok (.iload_n 3, 1) := by decide +kernel
theorem dX7_wordy_37 : decode cX7_wordy 37 = .ok (.iaload, 1) := by decide +kernel
theorem dX7_wordy_38 : decode cX7_wordy 38 = .ok (.ifCond .ge 9, 3) := by decide +kernel
theorem dX7_wordy_41 : decode cX7_wordy 41 = .ok (.aload_n 0, 1) := by decide +kernel
theorem dX7_wordy_42 : decode cX7_wordy 42 = .ok (.iconst 1, 1) := by decide +kernel
theorem dX7_wordy_43 : decode cX7_wordy 43 = .ok (.invokevirtual 100, 3) := by decide +kernel
theorem dX7_wordy_46 : decode cX7_wordy 46 = .ok (.ireturn, 1) := by decide +kernel
theorem dX7_wordy_47 : decode cX7_wordy 47 = .ok (.aload_n 0, 1) := by decide +kernel
theorem dX7_wordy_48 : decode cX7_wordy 48 = .ok (.getfield 17, 3) := by decide +kernel
theorem dX7_wordy_51 : decode cX7_wordy 51 = .ok (.iload_n 2, 1) := by decide +kernel
theorem dX7_wordy_52 : decode cX7_wordy 52 = .ok (.iaload, 1) := by decide +kernel
theorem dX7_wordy_53 : decode cX7_wordy 53 = .ok (.ifCond .eq 18, 3) := by decide +kernel
theorem dX7_wordy_56 : decode cX7_wordy 56 = .ok (.aload_n 0, 1) := by decide +kernel
theorem dX7_wordy_57 : decode cX7_wordy 57 = .ok (.getfield 17, 3) := by decide +kernel
theorem dX7_wordy_60 : decode cX7_wordy 60 = .ok (.iload_n 2, 1) := by decide +kernel
theorem dX7_wordy_61 : decode cX7_wordy 61 = .ok (.iaload, 1) := by decide +kernel
theorem dX7_wordy_62 : decode cX7_wordy 62 = .ok (.aload_n 0, 1) := by decide +kernel
theorem dX7_wordy_63 : decode cX7_wordy 63 = .ok (.getfield 17, 3) := by decide +kernel
theorem dX7_wordy_66 : decode cX7_wordy 66 = .ok (.iload_n 3, 1) := by decide +kernel
theorem dX7_wordy_67 : decode cX7_wordy 67 = .ok (.iaload, 1) := by decide +kernel
theorem dX7_wordy_68 : decode cX7_wordy 68 = .ok (.if_icmp .eq 9, 3) := by decide +kernel
theorem dX7_wordy_71 : decode cX7_wordy 71 = .ok (.aload_n 0, 1) := by decide +kernel
theorem dX7_wordy_72 : decode cX7_wordy 72 = .ok (.iconst 5, 1) := by decide +kernel
theorem dX7_wordy_73 : decode cX7_wordy 73 = .ok (.invokevirtual 100, 3) := by decide +kernel
theorem dX7_wordy_76 : decode cX7_wordy 76 = .ok (.ireturn, 1) := by decide +kernel
theorem dX7_wordy_77 : decode cX7_wordy 77 = .ok (.iconst 1, 1) := by decide +kernel
theorem dX7_wordy_78 : decode cX7_wordy 78 = .ok (.istore 4, 2) := by decide +kernel
theorem dX7_wordy_80 : decode cX7_wordy 80 = .ok (.iconst 0, 1) := by decide +kernel
theorem dX7_wordy_81 : decode cX7_wordy 81 = .ok (.istore 5, 2) := by decide +kernel
theorem dX7_wordy_83 : decode cX7_wordy 83 = .ok (.iload 5, 2) := by decide +kernel
theorem dX7_wordy_85 : decode cX7_wordy 85 = .ok (.aload_n 0, 1) := by decide +kernel
theorem dX7_wordy_86 : decode cX7_wordy 86 = .ok (.getfield 17, 3) := by decide +kernel
theorem dX7_wordy_89 : decode cX7_wordy 89 = .ok (.iload_n 2, 1) := by decide +kernel
theorem dX7_wordy_90 : decode cX7_wordy 90 = .ok (.iaload, 1) := by decide +kernel
theorem dX7_wordy_91 : decode cX7_wordy 91 = .ok (.if_icmp .ge 60, 3) := by decide +kernel
theorem dX7_wordy_94 : decode cX7_wordy 94 = .ok (.iload 4, 2) := by decide +kernel
theorem dX7_wordy_96 : decode cX7_wordy 96 = .ok (.ifCond .eq 46, 3) := by decide +kernel
theorem dX7_wordy_99 : decode cX7_wordy 99 = .ok (.aload_n 0, 1) := by decide +kernel
theorem dX7_wordy_100 : decode cX7_wordy 100 = .ok (.iload_n 3, 1) := by decide +kernel
theorem dX7_wordy_101 : decode cX7_wordy 101 = .ok (.iload 5, 2) := by decide +kernel
theorem dX7_wordy_103 : decode cX7_wordy 103 = .ok (.invokevirtual 110, 3) := by decide +kernel
theorem dX7_wordy_106 : decode cX7_wordy 106 = .ok (.iconst 1, 1) := by decide +kernel
theorem dX7_wordy_107 : decode cX7_wordy 107 = .ok (.bipush 9, 2) := by decide +kernel
theorem dX7_wordy_109 : decode cX7_wordy 109 = .ok (.invokestatic 92, 3) := by decide +kernel
theorem dX7_wordy_112 : decode cX7_wordy 112 = .ok (.ifCond .eq 30, 3) := by decide +kernel
theorem dX7_wordy_115 : decode cX7_wordy 115 = .ok (.aload_n 0, 1) := by decide +kernel
theorem dX7_wordy_116 : decode cX7_wordy 116 = .ok (.iload_n 2, 1) := by decide +kernel
theorem dX7_wordy_117 : decode cX7_wordy 117 = .ok (.iload 5, 2) := by decide +kernel
theorem dX7_wordy_119 : decode cX7_wordy 119 = .ok (.invokevirtual 110, 3) := by decide +kernel
theorem dX7_wordy_122 : decode cX7_wordy 122 = .ok (.iconst 0, 1) := by decide +kernel
theorem dX7_wordy_123 : decode cX7_wordy 123 = .ok (.aload_n 0, 1) := by decide +kernel
theorem dX7_wordy_124 : decode cX7_wordy 124 = .ok (.iload_n 3, 1) := by decide +kernel
theorem dX7_wordy_125 : decode cX7_wordy 125 = .ok (.iload 5, 2) := by decide +kernel
theorem dX7_wordy_127 : decode cX7_wordy 127 = .ok (.invokevirtual 110, 3) := by decide +kernel
theorem dX7_wordy_130 : decode cX7_wordy 130 = .ok (.iconst 1, 1) := by decide +kernel
theorem dX7_wordy_131 : decode cX7_wordy 131 = .ok (.isub, 1) := by decide +kernel
theorem dX7_wordy_132 : decode cX7_wordy 132 = .ok (.invokestatic 92, 3) := by decide +kernel
theorem dX7_wordy_135 : decode cX7_wordy 135 = .ok (.ifCond .eq 7, 3) := by decide +kernel
theorem dX7_wordy_138 : decode cX7_wordy 138 = .ok (.iconst 1, 1) := by decide +kernel
theorem dX7_wordy_139 : decode cX7_wordy 139 = .ok (.goto 4, 3) := by decide +kernel
theorem dX7_wordy_142 : decode cX7_wordy 142 = .ok (.iconst 0, 1) := by decide +kernel
theorem dX7_wordy_143 : decode cX7_wordy 143 = .ok (.istore 4, 2) := by decide +kernel
theorem dX7_wordy_145 : decode cX7_wordy 145 = .ok (.iinc 5 1, 3) := by decide +kernel
theorem dX7_wordy_148 : decode cX7_wordy 148 = .ok (.goto (-65), 3) := by decide +kernel
theorem dX7_wordy_151 : decode cX7_wordy 151 = .ok (.iload 4, 2) := by decide +kernel
theorem dX7_wordy_153 : decode cX7_wordy 153 = .ok (.ifCond .ne 9, 3) := by decide +kernel
theorem dX7_wordy_156 : decode cX7_wordy 156 = .ok (.aload_n 0, 1) := by decide +kernel
theorem dX7_wordy_157 : decode cX7_wordy 157 = .ok (.iconst 3, 1) := by decide +kernel
theorem dX7_wordy_158 : decode cX7_wordy 158 = .ok (.invokevirtual 100, 3) := by decide +kernel
theorem dX7_wordy_161 : decode cX7_wordy 161 = .ok (.ireturn, 1) := by decide +kernel
theorem dX7_wordy_162 : decode cX7_wordy 162 = .ok (.iconst 0, 1) := by decide +kernel
theorem dX7_wordy_163 : decode cX7_wordy 163 = .ok (.istore 5, 2) := by decide +kernel
theorem dX7_wordy_165 : decode cX7_wordy 165 = .ok (.iload 5, 2) := by decide +kernel
theorem dX7_wordy_167 : decode cX7_wordy 167 = .ok (.aload_n 0, 1) := by decide +kernel
theorem dX7_wordy_168 : decode cX7_wordy 168 = .ok (.getfield 17, 3) := by decide +kernel
theorem dX7_wordy_171 : decode cX7_wordy 171 = .ok (.iload_n 2, 1) := by decide +kernel
theorem dX7_wordy_172 : decode cX7_wordy 172 = .ok (.iaload, 1) := by decide +kernel
theorem dX7_wordy_173 : decode cX7_wordy 173 = .ok (.if_icmp .ge 28, 3) := by decide +kernel
theorem dX7_wordy_176 : decode cX7_wordy 176 = .ok (.aload_n 0, 1) := by decide +kernel
theorem dX7_wordy_177 : decode cX7_wordy 177 = .ok (.getfield 41, 3) := by decide +kernel
theorem dX7_wordy_180 : decode cX7_wordy 180 = .ok (.bipush 40, 2) := by decide +kernel
theorem dX7_wordy_182 : decode cX7_wordy 182 = .ok (.iload_n 1, 1) := by decide +kernel
theorem dX7_wordy_183 : decode cX7_wordy 183 = .ok (.imul, 1) := by decide +kernel
theorem dX7_wordy_184 : decode cX7_wordy 184 = .ok (.iload 5, 2) := by decide +kernel
theorem dX7_wordy_186 : decode cX7_wordy 186 = .ok (.iadd, 1) := by decide +kernel
theorem dX7_wordy_187 : decode cX7_wordy 187 = .ok (.aload_n 0, 1) := by decide +kernel
theorem dX7_wordy_188 : decode cX7_wordy 188 = .ok (.iload_n 3, 1) := by decide +kernel
theorem dX7_wordy_189 : decode cX7_wordy 189 = .ok (.iload 5, 2) := by decide +kernel
theorem dX7_wordy_191 : decode cX7_wordy 191 = .ok (.invokevirtual 110, 3) := by decide +kernel
theorem dX7_wordy_194 : decode cX7_wordy 194 = .ok (.iastore, 1) := by decide +kernel
theorem dX7_wordy_195 : decode cX7_wordy 195 = .ok (.iinc 5 1, 3) := by decide +kernel
theorem dX7_wordy_198 : decode cX7_wordy 198 = .ok (.goto (-33), 3) := by decide +kernel
theorem dX7_wordy_201 : decode cX7_wordy 201 = .ok (.aload_n 0, 1) := by decide +kernel
theorem dX7_wordy_202 : decode cX7_wordy 202 = .ok (.iload_n 1, 1) := by decide +kernel
theorem dX7_wordy_203 : decode cX7_wordy 203 = .ok (.iconst 3, 1) := by decide +kernel
theorem dX7_wordy_204 : decode cX7_wordy 204 = .ok (.iload_n 2, 1) := by decide +kernel
theorem dX7_wordy_205 : decode cX7_wordy 205 = .ok (.invokevirtual 130, 3) := by decide +kernel
theorem dX7_wordy_208 : decode cX7_wordy 208 = .ok (.ireturn, 1) := by decide +kernel
theorem dX7_isWet_0 : decode cX7_isWet 0 = .ok (.aload_n 0, 1) := by decide +kernel
theorem dX7_isWet_1 : decode cX7_isWet 1 = .ok (.getfield 35, 3) := by decide +kernel
theorem dX7_isWet_4 : decode cX7_isWet 4 = .ok (.iload_n 1, 1) := by decide +kernel
theorem dX7_isWet_5 : decode cX7_isWet 5 = .ok (.iaload, 1) := by decide +kernel
theorem dX7_isWet_6 : decode cX7_isWet 6 = .ok (.iconst 4, 1) := by decide +kernel
theorem dX7_isWet_7 : decode cX7_isWet 7 = .ok (.if_icmp .eq 47, 3) := by decide +kernel
theorem dX7_isWet_10 : decode cX7_isWet 10 = .ok (.aload_n 0, 1) := by decide +kernel
theorem dX7_isWet_11 : decode cX7_isWet 11 = .ok (.getfield 35, 3) := by decide +kernel
theorem dX7_isWet_14 : decode cX7_isWet 14 = .ok (.iload_n 1, 1) := by decide +kernel
theorem dX7_isWet_15 : decode cX7_isWet 15 = .ok (.iaload, 1) := by decide +kernel
theorem dX7_isWet_16 : decode cX7_isWet 16 = .ok (.iconst 3, 1) := by decide +kernel
theorem dX7_isWet_17 : decode cX7_isWet 17 = .ok (.if_icmp .ne 18, 3) := by decide +kernel
theorem dX7_isWet_20 : decode cX7_isWet 20 = .ok (.aload_n 0, 1) := by decide +kernel
theorem dX7_isWet_21 : decode cX7_isWet 21 = .ok (.getfield 41, 3) := by decide +kernel
theorem dX7_isWet_24 : decode cX7_isWet 24 = .ok (.bipush 40, 2) := by decide +kernel
theorem dX7_isWet_26 : decode cX7_isWet 26 = .ok (.iload_n 1, 1) := by decide +kernel
theorem dX7_isWet_27 : decode cX7_isWet 27 = .ok (.imul, 1) := by decide +kernel
theorem dX7_isWet_28 : decode cX7_isWet 28 = .ok (.iload_n 2, 1) := by decide +kernel
theorem dX7_isWet_29 : decode cX7_isWet 29 = .ok (.iadd, 1) := by decide +kernel
theorem dX7_isWet_30 : decode cX7_isWet 30 = .ok (.iaload, 1) := by decide +kernel
theorem dX7_isWet_31 : decode cX7_isWet 31 = .ok (.iconst 1, 1) := by decide +kernel
theorem dX7_isWet_32 : decode cX7_isWet 32 = .ok (.if_icmp .eq 22, 3) := by decide +kernel
theorem dX7_isWet_35 : decode cX7_isWet 35 = .ok (.iload_n 2, 1) := by decide +kernel
theorem dX7_isWet_36 : decode cX7_isWet 36 = .ok (.bipush 31, 2) := by decide +kernel
theorem dX7_isWet_38 : decode cX7_isWet 38 = .ok (.if_icmp .ge 20, 3) := by decide +kernel
theorem dX7_isWet_41 : decode cX7_isWet 41 = .ok (.aload_n 0, 1) := by decide +kernel
theorem dX7_isWet_42 : decode cX7_isWet 42 = .ok (.getfield 47, 3) := by decide +kernel
theorem dX7_isWet_45 : decode cX7_isWet 45 = .ok (.iload_n 1, 1) := by decide +kernel
theorem dX7_isWet_46 : decode cX7_isWet 46 = .ok (.iaload, 1) := by decide +kernel
theorem dX7_isWet_47 : decode cX7_isWet 47 = .ok (.iload_n 2, 1) := by decide +kernel
theorem dX7_isWet_48 : decode cX7_isWet 48 = .ok (.invokestatic 134, 3) := by decide +kernel
theorem dX7_isWet_51 : decode cX7_isWet 51 = .ok (.ifCond .eq 7, 3) := by decide +kernel
theorem dX7_isWet_54 : decode cX7_isWet 54 = .ok (.iconst 1, 1) := by decide +kernel
theorem dX7_isWet_55 : decode cX7_isWet 55 = .ok (.goto 4, 3) := by decide +kernel
theorem dX7_isWet_58 : decode cX7_isWet 58 = .ok (.iconst 0, 1) := by decide +kernel
theorem dX7_isWet_59 : decode cX7_isWet 59 = .ok (.ireturn, 1) := by decide +kernel
theorem dX7_wet_0 : decode cX7_wet 0 = .ok (.iload_n 2, 1) := by decide +kernel
theorem dX7_wet_1 : decode cX7_wet 1 = .ok (.ifCond .ge 5, 3) := by decide +kernel
theorem dX7_wet_4 : decode cX7_wet 4 = .ok (.iconst (-1), 1) := by decide +kernel
theorem dX7_wet_5 : decode cX7_wet 5 = .ok (.ireturn, 1) := by decide +kernel
theorem dX7_wet_6 : decode cX7_wet 6 = .ok (.aload_n 0, 1) := by decide +kernel
theorem dX7_wet_7 : decode cX7_wet 7 = .ok (.iload_n 1, 1) := by decide +kernel
theorem dX7_wet_8 : decode cX7_wet 8 = .ok (.invokevirtual 138, 3) := by decide +kernel
theorem dX7_wet_11 : decode cX7_wet 11 = .ok (.istore_n 3, 1) := by decide +kernel
theorem dX7_wet_12 : decode cX7_wet 12 = .ok (.iload_n 3, 1) := by decide +kernel
theorem dX7_wet_13 : decode cX7_wet 13 = .ok (.ifCond .ge 5, 3) := by decide +kernel
theorem dX7_wet_16 : decode cX7_wet 16 = .ok (.iload_n 3, 1) := by decide +kernel
theorem dX7_wet_17 : decode cX7_wet 17 = .ok (.ireturn, 1) := by decide +kernel
theorem dX7_wet_18 : decode cX7_wet 18 = .ok (.aload_n 0, 1) := by decide +kernel
theorem dX7_wet_19 : decode cX7_wet 19 = .ok (.getfield 47, 3) := by decide +kernel
theorem dX7_wet_22 : decode cX7_wet 22 = .ok (.iload_n 1, 1) := by decide +kernel
theorem dX7_wet_23 : decode cX7_wet 23 = .ok (.iload_n 2, 1) := by decide +kernel
theorem dX7_wet_24 : decode cX7_wet 24 = .ok (.iastore, 1) := by decide +kernel
theorem dX7_wet_25 : decode cX7_wet 25 = .ok (.iconst 0, 1) := by decide +kernel
theorem dX7_wet_26 : decode cX7_wet 26 = .ok (.istore 4, 2) := by decide +kernel
theorem dX7_wet_28 : decode cX7_wet 28 = .ok (.iconst 0, 1) := by decide +kernel
theorem dX7_wet_29 : decode cX7_wet 29 = .ok (.istore 5, 2) := by decide +kernel
theorem dX7_wet_31 : decode cX7_wet 31 = .ok (.iload 5, 2) := by decide +kernel
theorem dX7_wet_33 : decode cX7_wet 33 = .ok (.aload_n 0, 1) := by decide +kernel
theorem dX7_wet_34 : decode cX7_wet 34 = .ok (.getfield 32, 3) := by decide +kernel
theorem dX7_wet_37 : decode cX7_wet 37 = .ok (.iload_n 1, 1) := by decide +kernel
theorem dX7_wet_38 : decode cX7_wet 38 = .ok (.iaload, 1) := by decide +kernel
theorem dX7_wet_39 : decode cX7_wet 39 = .ok (.if_icmp .ge 29, 3) := by decide +kernel
theorem dX7_wet_42 : decode cX7_wet 42 = .ok (.iload 4, 2) := by decide +kernel
theorem dX7_wet_44 : decode cX7_wet 44 = .ok (.aload_n 0, 1) := by decide +kernel
theorem dX7_wet_45 : decode cX7_wet 45 = .ok (.iload_n 1, 1) := by decide +kernel
theorem dX7_wet_46 : decode cX7_wet 46 = .ok (.iload 5, 2) := by decide +kernel
theorem dX7_wet_48 : decode cX7_wet 48 = .ok (.invokevirtual 141, 3) := by decide +kernel
theorem dX7_wet_51 : decode cX7_wet 51 = .ok (.ifCond .eq 7, 3) := by decide +kernel
theorem dX7_wet_54 : decode cX7_wet 54 = .ok (.iconst 1, 1) := by decide +kernel
theorem dX7_wet_55 : decode cX7_wet 55 = .ok (.goto 4, 3) := by decide +kernel
theorem dX7_wet_58 : decode cX7_wet 58 = .ok (.iconst 0, 1) := by decide +kernel
theorem dX7_wet_59 : decode cX7_wet 59 = .ok (.iadd, 1) := by decide +kernel
theorem dX7_wet_60 : decode cX7_wet 60 = .ok (.istore 4, 2) := by decide +kernel
theorem dX7_wet_62 : decode cX7_wet 62 = .ok (.iinc 5 1, 3) := by decide +kernel
theorem dX7_wet_65 : decode cX7_wet 65 = .ok (.goto (-34), 3) := by decide +kernel
theorem dX7_wet_68 : decode cX7_wet 68 = .ok (.iload 4, 2) := by decide +kernel
theorem dX7_wet_70 : decode cX7_wet 70 = .ok (.ireturn, 1) := by decide +kernel
theorem dX7_drop_0 : decode cX7_drop 0 = .ok (.aload_n 0, 1) := by decide +kernel
theorem dX7_drop_1 : decode cX7_drop 1 = .ok (.iload_n 1, 1) := by decide +kernel
theorem dX7_drop_2 : decode cX7_drop 2 = .ok (.invokevirtual 138, 3) := by decide +kernel
theorem dX7_drop_5 : decode cX7_drop 5 = .ok (.istore_n 2, 1) := by decide +kernel
theorem dX7_drop_6 : decode cX7_drop 6 = .ok (.iload_n 2, 1) := by decide +kernel
theorem dX7_drop_7 : decode cX7_drop 7 = .ok (.ifCond .ge 5, 3) := by decide +kernel
theorem dX7_drop_10 : decode cX7_drop 10 = .ok (.iload_n 2, 1) := by decide +kernel
theorem dX7_drop_11 : decode cX7_drop 11 = .ok (.ireturn, 1) := by decide +kernel
theorem dX7_drop_12 : decode cX7_drop 12 = .ok (.aload_n 0, 1) := by decide +kernel
theorem dX7_drop_13 : decode cX7_drop 13 = .ok (.getfield 32, 3) := by decide +kernel
theorem dX7_drop_16 : decode cX7_drop 16 = .ok (.iload_n 1, 1) := by decide +kernel
theorem dX7_drop_17 : decode cX7_drop 17 = .ok (.iconst 0, 1) := by decide +kernel
theorem dX7_drop_18 : decode cX7_drop 18 = .ok (.iastore, 1) := by decide +kernel
theorem dX7_drop_19 : decode cX7_drop 19 = .ok (.iconst 1, 1) := by decide +kernel
theorem dX7_drop_20 : decode cX7_drop 20 = .ok (.ireturn, 1) := by decide +kernel
theorem dX7_dots_0 : decode cX7_dots 0 = .ok (.iload_n 2, 1) := by decide +kernel
theorem dX7_dots_1 : decode cX7_dots 1 = .ok (.invokestatic 96, 3) := by decide +kernel
theorem dX7_dots_4 : decode cX7_dots 4 = .ok (.ifCond .ne 5, 3) := by decide +kernel
theorem dX7_dots_7 : decode cX7_dots 7 = .ok (.iconst (-1), 1) := by decide +kernel
theorem dX7_dots_8 : decode cX7_dots 8 = .ok (.ireturn, 1) := by decide +kernel
theorem dX7_dots_9 : decode cX7_dots 9 = .ok (.aload_n 0, 1) := by decide +kernel
theorem dX7_dots_10 : decode cX7_dots 10 = .ok (.iload_n 1, 1) := by decide +kernel
theorem dX7_dots_11 : decode cX7_dots 11 = .ok (.invokevirtual 138, 3) := by decide +kernel
theorem dX7_dots_14 : decode cX7_dots 14 = .ok (.istore_n 3, 1) := by decide +kernel
theorem dX7_dots_15 : decode cX7_dots 15 = .ok (.iload_n 3, 1) := by decide +kernel
theorem dX7_dots_16 : decode cX7_dots 16 = .ok (.ifCond .ge 5, 3) := by decide +kernel
theorem dX7_dots_19 : decode cX7_dots 19 = .ok (.iload_n 3, 1) := by decide +kernel
theorem dX7_dots_20 : decode cX7_dots 20 = .ok (.ireturn, 1) := by decide +kernel
theorem dX7_dots_21 : decode cX7_dots 21 = .ok (.aload_n 0, 1) := by decide +kernel
theorem dX7_dots_22 : decode cX7_dots 22 = .ok (.iload_n 2, 1) := by decide +kernel
theorem dX7_dots_23 : decode cX7_dots 23 = .ok (.aload_n 0, 1) := by decide +kernel
theorem dX7_dots_24 : decode cX7_dots 24 = .ok (.getfield 32, 3) := by decide +kernel
theorem dX7_dots_27 : decode cX7_dots 27 = .ok (.iload_n 1, 1) := by decide +kernel
theorem dX7_dots_28 : decode cX7_dots 28 = .ok (.iaload, 1) := by decide +kernel
theorem dX7_dots_29 : decode cX7_dots 29 = .ok (.invokevirtual 144, 3) := by decide +kernel
theorem dX7_dots_32 : decode cX7_dots 32 = .ok (.pop, 1) := by decide +kernel
theorem dX7_dots_33 : decode cX7_dots 33 = .ok (.iconst 0, 1) := by decide +kernel
theorem dX7_dots_34 : decode cX7_dots 34 = .ok (.istore 4, 2) := by decide +kernel
theorem dX7_dots_36 : decode cX7_dots 36 = .ok (.iload 4, 2) := by decide +kernel
theorem dX7_dots_38 : decode cX7_dots 38 = .ok (.aload_n 0, 1) := by decide +kernel
theorem dX7_dots_39 : decode cX7_dots 39 = .ok (.getfield 32, 3) := by decide +kernel
theorem dX7_dots_42 : decode cX7_dots 42 = .ok (.iload_n 1, 1) := by decide +kernel
theorem dX7_dots_43 : decode cX7_dots 43 = .ok (.iaload, 1) := by decide +kernel
theorem dX7_dots_44 : decode cX7_dots 44 = .ok (.if_icmp .ge 28, 3) := by decide +kernel
theorem dX7_dots_47 : decode cX7_dots 47 = .ok (.aload_n 0, 1) := by decide +kernel
theorem dX7_dots_48 : decode cX7_dots 48 = .ok (.getfield 20, 3) := by decide +kernel
theorem dX7_dots_51 : decode cX7_dots 51 = .ok (.bipush 40, 2) := by decide +kernel
theorem dX7_dots_53 : decode cX7_dots 53 = .ok (.iload_n 2, 1) := by decide +kernel
theorem dX7_dots_54 : decode cX7_dots 54 = .ok (.imul, 1) := by decide +kernel
theorem dX7_dots_55 : decode cX7_dots 55 = .ok (.iload 4, 2) := by decide +kernel
theorem dX7_dots_57 : decode cX7_dots 57 = .ok (.iadd, 1) := by decide +kernel
theorem dX7_dots_58 : decode cX7_dots 58 = .ok (.aload_n 0, 1) := by decide +kernel
theorem dX7_dots_59 : decode cX7_dots 59 = .ok (.iload_n 1, 1) := by decide +kernel
theorem dX7_dots_60 : decode cX7_dots 60 = .ok (.iload 4, 2) := by decide +kernel
theorem dX7_dots_62 : decode cX7_dots 62 = .ok (.invokevirtual 147, 3) := by decide +kernel
theorem dX7_dots_65 : decode cX7_dots 65 = .ok (.iastore, 1) := by decide +kernel
theorem dX7_dots_66 : decode cX7_dots 66 = .ok (.iinc 4 1, 3) := by decide +kernel
theorem dX7_dots_69 : decode cX7_dots 69 = .ok (.goto (-33), 3) := by decide +kernel
theorem dX7_dots_72 : decode cX7_dots 72 = .ok (.aload_n 0, 1) := by decide +kernel
theorem dX7_dots_73 : decode cX7_dots 73 = .ok (.getfield 32, 3) := by decide +kernel
theorem dX7_dots_76 : decode cX7_dots 76 = .ok (.iload_n 1, 1) := by decide +kernel
theorem dX7_dots_77 : decode cX7_dots 77 = .ok (.iaload, 1) := by decide +kernel
theorem dX7_dots_78 : decode cX7_dots 78 = .ok (.ireturn, 1) := by decide +kernel
theorem dX7_bitOf_0 : decode cX7_bitOf 0 = .ok (.aload_n 0, 1) := by decide +kernel
theorem dX7_bitOf_1 : decode cX7_bitOf 1 = .ok (.getfield 35, 3) := by decide +kernel
theorem dX7_bitOf_4 : decode cX7_bitOf 4 = .ok (.iload_n 1, 1) := by decide +kernel
theorem dX7_bitOf_5 : decode cX7_bitOf 5 = .ok (.iaload, 1) := by decide +kernel
theorem dX7_bitOf_6 : decode cX7_bitOf 6 = .ok (.iconst 2, 1) := by decide +kernel
theorem dX7_bitOf_7 : decode cX7_bitOf 7 = .ok (.if_icmp .ne 16, 3) := by decide +kernel
theorem dX7_bitOf_10 : decode cX7_bitOf 10 = .ok (.aload_n 0, 1) := by decide +kernel
theorem dX7_bitOf_11 : decode cX7_bitOf 11 = .ok (.iload_n 1, 1) := by decide +kernel
theorem dX7_bitOf_12 : decode cX7_bitOf 12 = .ok (.iload_n 2, 1) := by decide +kernel
theorem dX7_bitOf_13 : decode cX7_bitOf 13 = .ok (.invokevirtual 147, 3) := by decide +kernel
theorem dX7_bitOf_16 : decode cX7_bitOf 16 = .ok (.iconst 1, 1) := by decide +kernel
theorem dX7_bitOf_17 : decode cX7_bitOf 17 = .ok (.ishr, 1) := by decide +kernel
theorem dX7_bitOf_18 : decode cX7_bitOf 18 = .ok (.iconst 1, 1) := by decide +kernel
theorem dX7_bitOf_19 : decode cX7_bitOf 19 = .ok (.iand, 1) := by decide +kernel
theorem dX7_bitOf_20 : decode cX7_bitOf 20 = .ok (.goto 11, 3) := by decide +kernel
theorem dX7_bitOf_23 : decode cX7_bitOf 23 = .ok (.aload_n 0, 1) := by decide +kernel
theorem dX7_bitOf_24 : decode cX7_bitOf 24 = .ok (.iload_n 1, 1) := by decide +kernel
theorem dX7_bitOf_25 : decode cX7_bitOf 25 = .ok (.iload_n 2, 1) := by decide +kernel
theorem dX7_bitOf_26 : decode cX7_bitOf 26 = .ok (.invokevirtual 147, 3) := by decide +kernel
theorem dX7_bitOf_29 : decode cX7_bitOf 29 = .ok (.iconst 1, 1) := by decide +kernel
theorem dX7_bitOf_30 : decode cX7_bitOf 30 = .ok (.iand, 1) := by decide +kernel
theorem dX7_bitOf_31 : decode cX7_bitOf 31 = .ok (.ireturn, 1) := by decide +kernel
theorem dX7_flipped_0 : decode cX7_flipped 0 = .ok (.aload_n 0, 1) := by decide +kernel
theorem dX7_flipped_1 : decode cX7_flipped 1 = .ok (.iload_n 1, 1) := by decide +kernel
theorem dX7_flipped_2 : decode cX7_flipped 2 = .ok (.iload_n 2, 1) := by decide +kernel
theorem dX7_flipped_3 : decode cX7_flipped 3 = .ok (.invokevirtual 147, 3) := by decide +kernel
theorem dX7_flipped_6 : decode cX7_flipped 6 = .ok (.istore_n 3, 1) := by decide +kernel
theorem dX7_flipped_7 : decode cX7_flipped 7 = .ok (.aload_n 0, 1) := by decide +kernel
theorem dX7_flipped_8 : decode cX7_flipped 8 = .ok (.getfield 35, 3) := by decide +kernel
theorem dX7_flipped_11 : decode cX7_flipped 11 = .ok (.iload_n 1, 1) := by decide +kernel
theorem dX7_flipped_12 : decode cX7_flipped 12 = .ok (.iaload, 1) := by decide +kernel
theorem dX7_flipped_13 : decode cX7_flipped 13 = .ok (.iconst 3, 1) := by decide +kernel
theorem dX7_flipped_14 : decode cX7_flipped 14 = .ok (.if_icmp .ne 44, 3) := by decide +kernel
theorem dX7_flipped_17 : decode cX7_flipped 17 = .ok (.aload_n 0, 1) := by decide +kernel
theorem dX7_flipped_18 : decode cX7_flipped 18 = .ok (.getfield 41, 3) := by decide +kernel
theorem dX7_flipped_21 : decode cX7_flipped 21 = .ok (.bipush 40, 2) := by decide +kernel
theorem dX7_flipped_23 : decode cX7_flipped 23 = .ok (.iload_n 1, 1) := by decide +kernel
theorem dX7_flipped_24 : decode cX7_flipped 24 = .ok (.imul, 1) := by decide +kernel
theorem dX7_flipped_25 : decode cX7_flipped 25 = .ok (.iload_n 2, 1) := by decide +kernel
theorem dX7_flipped_26 : decode cX7_flipped 26 = .ok (.iadd, 1) := by decide +kernel
theorem dX7_flipped_27 : decode cX7_flipped 27 = .ok (.iaload, 1) := by decide +kernel
theorem dX7_flipped_28 : decode cX7_flipped 28 = .ok (.istore 4, 2) := by decide +kernel
theorem dX7_flipped_30 : decode cX7_flipped 30 = .ok (.iload 4, 2) := by decide +kernel
theorem dX7_flipped_32 : decode cX7_flipped 32 = .ok (.iconst 1, 1) := by decide +kernel
theorem dX7_flipped_33 : decode cX7_flipped 33 = .ok (.if_icmp .ne 7, 3) := by decide +kernel
theorem dX7_flipped_36 : decode cX7_flipped 36 = .ok (.iload_n 3, 1) := by decide +kernel
theorem dX7_flipped_37 : decode cX7_flipped 37 = .ok (.goto 20, 3) := by decide +kernel
theorem dX7_flipped_40 : decode cX7_flipped 40 = .ok (.iload_n 3, 1) := by decide +kernel
theorem dX7_flipped_41 : decode cX7_flipped 41 = .ok (.iload 4, 2) := by decide +kernel
theorem dX7_flipped_43 : decode cX7_flipped 43 = .ok (.iconst 1, 1) := by decide +kernel
theorem dX7_flipped_44 : decode cX7_flipped 44 = .ok (.isub, 1) := by decide +kernel
theorem dX7_flipped_45 : decode cX7_flipped 45 = .ok (.if_icmp .ne 9, 3) := by decide +kernel
theorem dX7_flipped_48 : decode cX7_flipped 48 = .ok (.iload_n 3, 1) := by decide +kernel
theorem dX7_flipped_49 : decode cX7_flipped 49 = .ok (.iconst 1, 1) := by decide +kernel
theorem dX7_flipped_50 : decode cX7_flipped 50 = .ok (.isub, 1) := by decide +kernel
theorem dX7_flipped_51 : decode cX7_flipped 51 = .ok (.goto 6, 3) := by decide +kernel
theorem dX7_flipped_54 : decode cX7_flipped 54 = .ok (.iload_n 3, 1) := by decide +kernel
theorem dX7_flipped_55 : decode cX7_flipped 55 = .ok (.iconst 1, 1) := by decide +kernel
theorem dX7_flipped_56 : decode cX7_flipped 56 = .ok (.iadd, 1) := by decide +kernel
theorem dX7_flipped_57 : decode cX7_flipped 57 = .ok (.ireturn, 1) := by decide +kernel
theorem dX7_flipped_58 : decode cX7_flipped 58 = .ok (.iload_n 3, 1) := by decide +kernel
theorem dX7_flipped_59 : decode cX7_flipped 59 = .ok (.aload_n 0, 1) := by decide +kernel
theorem dX7_flipped_60 : decode cX7_flipped 60 = .ok (.getfield 35, 3) := by decide +kernel
theorem dX7_flipped_63 : decode cX7_flipped 63 = .ok (.iload_n 1, 1) := by decide +kernel
theorem dX7_flipped_64 : decode cX7_flipped 64 = .ok (.iaload, 1) := by decide +kernel
theorem dX7_flipped_65 : decode cX7_flipped 65 = .ok (.iconst 2, 1) := by decide +kernel
theorem dX7_flipped_66 : decode cX7_flipped 66 = .ok (.if_icmp .ne 7, 3) := by decide +kernel
theorem dX7_flipped_69 : decode cX7_flipped 69 = .ok (.iconst 2, 1) := by decide +kernel
theorem dX7_flipped_70 : decode cX7_flipped 70 = .ok (.goto 4, 3) := by decide +kernel
theorem dX7_flipped_73 : decode cX7_flipped 73 = .ok (.iconst 1, 1) := by decide +kernel
theorem dX7_flipped_74 : decode cX7_flipped 74 = .ok (.ixor, 1) := by decide +kernel
theorem dX7_flipped_75 : decode cX7_flipped 75 = .ok (.ireturn, 1) := by decide +kernel
theorem dX7_priceOf_0 : decode cX7_priceOf 0 = .ok (.aload_n 0, 1) := by decide +kernel
theorem dX7_priceOf_1 : decode cX7_priceOf 1 = .ok (.getfield 35, 3) := by decide +kernel
theorem dX7_priceOf_4 : decode cX7_priceOf 4 = .ok (.iload_n 1, 1) := by decide +kernel
theorem dX7_priceOf_5 : decode cX7_priceOf 5 = .ok (.iaload, 1) := by decide +kernel
theorem dX7_priceOf_6 : decode cX7_priceOf 6 = .ok (.iconst 3, 1) := by decide +kernel
theorem dX7_priceOf_7 : decode cX7_priceOf 7 = .ok (.if_icmp .ne 18, 3) := by decide +kernel
theorem dX7_priceOf_10 : decode cX7_priceOf 10 = .ok (.bipush 12, 2) := by decide +kernel
theorem dX7_priceOf_12 : decode cX7_priceOf 12 = .ok (.aload_n 0, 1) := by decide +kernel
theorem dX7_priceOf_13 : decode cX7_priceOf 13 = .ok (.getfield 41, 3) := by decide +kernel
theorem dX7_priceOf_16 : decode cX7_priceOf 16 = .ok (.bipush 40, 2) := by decide +kernel
theorem dX7_priceOf_18 : decode cX7_priceOf 18 = .ok (.iload_n 1, 1) := by decide +kernel
theorem dX7_priceOf_19 : decode cX7_priceOf 19 = .ok (.imul, 1) := by decide +kernel
theorem dX7_priceOf_20 : decode cX7_priceOf 20 = .ok (.iload_n 2, 1) := by decide +kernel
theorem dX7_priceOf_21 : decode cX7_priceOf 21 = .ok (.iadd, 1) := by decide +kernel
theorem dX7_priceOf_22 : decode cX7_priceOf 22 = .ok (.iaload, 1) := by decide +kernel
theorem dX7_priceOf_23 : decode cX7_priceOf 23 = .ok (.idiv, 1) := by decide +kernel
theorem dX7_priceOf_24 : decode cX7_priceOf 24 = .ok (.ireturn, 1) := by decide +kernel
theorem dX7_priceOf_25 : decode cX7_priceOf 25 = .ok (.aload_n 0, 1) := by decide +kernel
theorem dX7_priceOf_26 : decode cX7_priceOf 26 = .ok (.getfield 35, 3) := by decide +kernel
theorem dX7_priceOf_29 : decode cX7_priceOf 29 = .ok (.iload_n 1, 1) := by decide +kernel
theorem dX7_priceOf_30 : decode cX7_priceOf 30 = .ok (.iaload, 1) := by decide +kernel
theorem dX7_priceOf_31 : decode cX7_priceOf 31 = .ok (.iconst 1, 1) := by decide +kernel
theorem dX7_priceOf_32 : decode cX7_priceOf 32 = .ok (.if_icmp .eq 16, 3) := by decide +kernel
theorem dX7_priceOf_35 : decode cX7_priceOf 35 = .ok (.aload_n 0, 1) := by decide +kernel
theorem dX7_priceOf_36 : decode cX7_priceOf 36 = .ok (.getfield 35, 3) := by decide +kernel
theorem dX7_priceOf_39 : decode cX7_priceOf 39 = .ok (.iload_n 1, 1) := by decide +kernel
theorem dX7_priceOf_40 : decode cX7_priceOf 40 = .ok (.iaload, 1) := by decide +kernel
theorem dX7_priceOf_41 : decode cX7_priceOf 41 = .ok (.iconst 2, 1) := by decide +kernel
theorem dX7_priceOf_42 : decode cX7_priceOf 42 = .ok (.if_icmp .eq 6, 3) := by decide +kernel
theorem dX7_priceOf_45 : decode cX7_priceOf 45 = .ok (.bipush 10, 2) := by decide +kernel
theorem dX7_priceOf_47 : decode cX7_priceOf 47 = .ok (.ireturn, 1) := by decide +kernel
theorem dX7_priceOf_48 : decode cX7_priceOf 48 = .ok (.aload_n 0, 1) := by decide +kernel
theorem dX7_priceOf_49 : decode cX7_priceOf 49 = .ok (.getfield 44, 3) := by decide +kernel
theorem dX7_priceOf_52 : decode cX7_priceOf 52 = .ok (.iload_n 1, 1) := by decide +kernel
theorem dX7_priceOf_53 : decode cX7_priceOf 53 = .ok (.iaload, 1) := by decide +kernel
theorem dX7_priceOf_54 : decode cX7_priceOf 54 = .ok (.istore_n 3, 1) := by decide +kernel
theorem dX7_priceOf_55 : decode cX7_priceOf 55 = .ok (.iconst 1, 1) := by decide +kernel
theorem dX7_priceOf_56 : decode cX7_priceOf 56 = .ok (.istore 4, 2) := by decide +kernel
theorem dX7_priceOf_58 : decode cX7_priceOf 58 = .ok (.iconst 0, 1) := by decide +kernel
theorem dX7_priceOf_59 : decode cX7_priceOf 59 = .ok (.istore 5, 2) := by decide +kernel
theorem dX7_priceOf_61 : decode cX7_priceOf 61 = .ok (.iload 5, 2) := by decide +kernel
theorem dX7_priceOf_63 : decode cX7_priceOf 63 = .ok (.aload_n 0, 1) := by decide +kernel
theorem dX7_priceOf_64 : decode cX7_priceOf 64 = .ok (.getfield 32, 3) := by decide +kernel
theorem dX7_priceOf_67 : decode cX7_priceOf 67 = .ok (.iload_n 1, 1) := by decide +kernel
theorem dX7_priceOf_68 : decode cX7_priceOf 68 = .ok (.iaload, 1) := by decide +kernel
theorem dX7_priceOf_69 : decode cX7_priceOf 69 = .ok (.if_icmp .ge 104, 3) := by decide +kernel
theorem dX7_priceOf_72 : decode cX7_priceOf 72 = .ok (.iload 5, 2) := by decide +kernel
theorem dX7_priceOf_74 : decode cX7_priceOf 74 = .ok (.iload_n 3, 1) := by decide +kernel
theorem dX7_priceOf_75 : decode cX7_priceOf 75 = .ok (.idiv, 1) := by decide +kernel
theorem dX7_priceOf_76 : decode cX7_priceOf 76 = .ok (.iload_n 2, 1) := by decide +kernel
theorem dX7_priceOf_77 : decode cX7_priceOf 77 = .ok (.iload_n 3, 1) := by decide +kernel
theorem dX7_priceOf_78 : decode cX7_priceOf 78 = .ok (.idiv, 1) := by decide +kernel
theorem dX7_priceOf_79 : decode cX7_priceOf 79 = .ok (.if_icmp .ne 14, 3) := by decide +kernel
theorem dX7_priceOf_82 : decode cX7_priceOf 82 = .ok (.iload_n 2, 1) := by decide +kernel
theorem dX7_priceOf_83 : decode cX7_priceOf 83 = .ok (.iload 5, 2) := by decide +kernel
theorem dX7_priceOf_85 : decode cX7_priceOf 85 = .ok (.isub, 1) := by decide +kernel
theorem dX7_priceOf_86 : decode cX7_priceOf 86 = .ok (.invokestatic 150, 3) := by decide +kernel
theorem dX7_priceOf_89 : decode cX7_priceOf 89 = .ok (.iconst 1, 1) := by decide +kernel
theorem dX7_priceOf_90 : decode cX7_priceOf 90 = .ok (.if_icmp .eq 39, 3) := by decide +kernel
theorem dX7_priceOf_93 : decode cX7_priceOf 93 = .ok (.iload_n 2, 1) := by decide +kernel
theorem dX7_priceOf_94 : decode cX7_priceOf 94 = .ok (.iload 5, 2) := by decide +kernel
theorem dX7_priceOf_96 : decode cX7_priceOf 96 = .ok (.isub, 1) := by decide +kernel
theorem dX7_priceOf_97 : decode cX7_priceOf 97 = .ok (.invokestatic 150, 3) := by decide +kernel
theorem dX7_priceOf_100 : decode cX7_priceOf 100 = .ok (.iload_n 3, 1) := by decide +kernel
theorem dX7_priceOf_101 : decode cX7_priceOf 101 = .ok (.if_icmp .ne 32, 3) := by decide +kernel
theorem dX7_priceOf_104 : decode cX7_priceOf 104 = .ok (.iload_n 2, 1) := by decide +kernel
theorem dX7_priceOf_105 : decode cX7_priceOf 105 = .ok (.iload_n 3, 1) := by decide +kernel
theorem dX7_priceOf_106 : decode cX7_priceOf 106 = .ok (.irem, 1) := by decide +kernel
theorem dX7_priceOf_107 : decode cX7_priceOf 107 = .ok (.iload 5, 2) := by decide +kernel
theorem dX7_priceOf_109 : decode cX7_priceOf 109 = .ok (.iload_n 3, 1) := by decide +kernel
theorem dX7_priceOf_110 : decode cX7_priceOf 110 = .ok (.irem, 1) := by decide +kernel
theorem dX7_priceOf_111 : decode cX7_priceOf 111 = .ok (.if_icmp .ne 22, 3) := by decide +kernel
theorem dX7_priceOf_114 : decode cX7_priceOf 114 = .ok (.iload_n 2, 1) := by decide +kernel
theorem dX7_priceOf_115 : decode cX7_priceOf 115 = .ok (.iload_n 3, 1) := by decide +kernel
theorem dX7_priceOf_116 : decode cX7_priceOf 116 = .ok (.idiv, 1) := by decide +kernel
theorem dX7_priceOf_117 : decode cX7_priceOf 117 = .ok (.iload 5, 2) := by decide +kernel
theorem dX7_priceOf_119 : decode cX7_priceOf 119 = .ok (.iload_n 3, 1) := by decide +kernel
theorem dX7_priceOf_120 : decode cX7_priceOf 120 = .ok (.idiv, 1) := by decide +kernel
theorem dX7_priceOf_121 : decode cX7_priceOf 121 = .ok (.isub, 1) := by decide +kernel
theorem dX7_priceOf_122 : decode cX7_priceOf 122 = .ok (.invokestatic 150, 3) := by decide +kernel
theorem dX7_priceOf_125 : decode cX7_priceOf 125 = .ok (.iconst 1, 1) := by decide +kernel
theorem dX7_priceOf_126 : decode cX7_priceOf 126 = .ok (.if_icmp .ne 7, 3) := by decide +kernel
theorem dX7_priceOf_129 : decode cX7_priceOf 129 = .ok (.iconst 1, 1) := by decide +kernel
theorem dX7_priceOf_130 : decode cX7_priceOf 130 = .ok (.goto 4, 3) := by decide +kernel
theorem dX7_priceOf_133 : decode cX7_priceOf 133 = .ok (.iconst 0, 1) := by decide +kernel
theorem dX7_priceOf_134 : decode cX7_priceOf 134 = .ok (.istore 6, 2) := by decide +kernel
theorem dX7_priceOf_136 : decode cX7_priceOf 136 = .ok (.iload 4, 2) := by decide +kernel
theorem dX7_priceOf_138 : decode cX7_priceOf 138 = .ok (.iload 6, 2) := by decide +kernel
theorem dX7_priceOf_140 : decode cX7_priceOf 140 = .ok (.ifCond .eq 23, 3) := by decide +kernel
theorem dX7_priceOf_143 : decode cX7_priceOf 143 = .ok (.aload_n 0, 1) := by decide +kernel
theorem dX7_priceOf_144 : decode cX7_priceOf 144 = .ok (.iload_n 1, 1) := by decide +kernel
theorem dX7_priceOf_145 : decode cX7_priceOf 145 = .ok (.iload_n 2, 1) := by decide +kernel
theorem dX7_priceOf_146 : decode cX7_priceOf 146 = .ok (.invokevirtual 147, 3) := by decide +kernel
theorem dX7_priceOf_149 : decode cX7_priceOf 149 = .ok (.aload_n 0, 1) := by decide +kernel
theorem dX7_priceOf_150 : decode cX7_priceOf 150 = .ok (.iload_n 1, 1) := by decide +kernel
theorem dX7_priceOf_151 : decode cX7_priceOf 151 = .ok (.iload 5, 2) := by decide +kernel
theorem dX7_priceOf_153 : decode cX7_priceOf 153 = .ok (.invokevirtual 147, 3) := by decide +kernel
theorem dX7_priceOf_156 : decode cX7_priceOf 156 = .ok (.isub, 1) := by decide +kernel
theorem dX7_priceOf_157 : decode cX7_priceOf 157 = .ok (.invokestatic 150, 3) := by decide +kernel
theorem dX7_priceOf_160 : decode cX7_priceOf 160 = .ok (.goto 4, 3) := by decide +kernel
theorem dX7_priceOf_163 : decode cX7_priceOf 163 = .ok (.iconst 0, 1) := by decide +kernel
theorem dX7_priceOf_164 : decode cX7_priceOf 164 = .ok (.iadd, 1) := by decide +kernel
theorem dX7_priceOf_165 : decode cX7_priceOf 165 = .ok (.istore 4, 2) := by decide +kernel
theorem dX7_priceOf_167 : decode cX7_priceOf 167 = .ok (.iinc 5 1, 3) := by decide +kernel
theorem dX7_priceOf_170 : decode cX7_priceOf 170 = .ok (.goto (-109), 3) := by decide +kernel
theorem dX7_priceOf_173 : decode cX7_priceOf 173 = .ok (.bipush 60, 2) := by decide +kernel
theorem dX7_priceOf_175 : decode cX7_priceOf 175 = .ok (.iload 4, 2) := by decide +kernel
theorem dX7_priceOf_177 : decode cX7_priceOf 177 = .ok (.idiv, 1) := by decide +kernel
theorem dX7_priceOf_178 : decode cX7_priceOf 178 = .ok (.iconst 1, 1) := by decide +kernel
theorem dX7_priceOf_179 : decode cX7_priceOf 179 = .ok (.iadd, 1) := by decide +kernel
theorem dX7_priceOf_180 : decode cX7_priceOf 180 = .ok (.istore 5, 2) := by decide +kernel
theorem dX7_priceOf_182 : decode cX7_priceOf 182 = .ok (.aload_n 0, 1) := by decide +kernel
theorem dX7_priceOf_183 : decode cX7_priceOf 183 = .ok (.getfield 35, 3) := by decide +kernel
theorem dX7_priceOf_186 : decode cX7_priceOf 186 = .ok (.iload_n 1, 1) := by decide +kernel
theorem dX7_priceOf_187 : decode cX7_priceOf 187 = .ok (.iaload, 1) := by decide +kernel
theorem dX7_priceOf_188 : decode cX7_priceOf 188 = .ok (.iconst 2, 1) := by decide +kernel
theorem dX7_priceOf_189 : decode cX7_priceOf 189 = .ok (.if_icmp .ne 10, 3) := by decide +kernel
theorem dX7_priceOf_192 : decode cX7_priceOf 192 = .ok (.iconst 2, 1) := by decide +kernel
theorem dX7_priceOf_193 : decode cX7_priceOf 193 = .ok (.iload 5, 2) := by decide +kernel
theorem dX7_priceOf_195 : decode cX7_priceOf 195 = .ok (.imul, 1) := by decide +kernel
theorem dX7_priceOf_196 : decode cX7_priceOf 196 = .ok (.goto 5, 3) := by decide +kernel
theorem dX7_priceOf_199 : decode cX7_priceOf 199 = .ok (.iload 5, 2) := by decide +kernel
theorem dX7_priceOf_201 : decode cX7_priceOf 201 = .ok (.ireturn, 1) := by decide +kernel
theorem dX7_dotTells_0 : decode cX7_dotTells 0 = .ok (.iload_n 3, 1) := by decide +kernel
theorem dX7_dotTells_1 : decode cX7_dotTells 1 = .ok (.tableswitch 59 0 3 #[31, 38, 45, 52], 31) := by decide +kernel
theorem dX7_dotTells_32 : decode cX7_dotTells 32 = .ok (.aload_n 0, 1) := by decide +kernel
theorem dX7_dotTells_33 : decode cX7_dotTells 33 = .ok (.iload_n 1, 1) := by decide +kernel
theorem dX7_dotTells_34 : decode cX7_dotTells 34 = .ok (.iload_n 2, 1) := by decide +kernel
theorem dX7_dotTells_35 : decode cX7_dotTells 35 = .ok (.invokevirtual 147, 3) := by decide +kernel
theorem dX7_dotTells_38 : decode cX7_dotTells 38 = .ok (.ireturn, 1) := by decide +kernel
theorem dX7_dotTells_39 : decode cX7_dotTells 39 = .ok (.aload_n 0, 1) := by decide +kernel
theorem dX7_dotTells_40 : decode cX7_dotTells 40 = .ok (.iload_n 1, 1) := by decide +kernel
theorem dX7_dotTells_41 : decode cX7_dotTells 41 = .ok (.iload_n 2, 1) := by decide +kernel
theorem dX7_dotTells_42 : decode cX7_dotTells 42 = .ok (.invokevirtual 153, 3) := by decide +kernel
theorem dX7_dotTells_45 : decode cX7_dotTells 45 = .ok (.ireturn, 1) := by decide +kernel
theorem dX7_dotTells_46 : decode cX7_dotTells 46 = .ok (.aload_n 0, 1) := by decide +kernel
theorem dX7_dotTells_47 : decode cX7_dotTells 47 = .ok (.iload_n 1, 1) := by decide +kernel
theorem dX7_dotTells_48 : decode cX7_dotTells 48 = .ok (.iload_n 2, 1) := by decide +kernel
theorem dX7_dotTells_49 : decode cX7_dotTells 49 = .ok (.invokevirtual 156, 3) := by decide +kernel
theorem dX7_dotTells_52 : decode cX7_dotTells 52 = .ok (.ireturn, 1) := by decide +kernel
theorem dX7_dotTells_53 : decode cX7_dotTells 53 = .ok (.aload_n 0, 1) := by decide +kernel
theorem dX7_dotTells_54 : decode cX7_dotTells 54 = .ok (.iload_n 1, 1) := by decide +kernel
theorem dX7_dotTells_55 : decode cX7_dotTells 55 = .ok (.iload_n 2, 1) := by decide +kernel
theorem dX7_dotTells_56 : decode cX7_dotTells 56 = .ok (.invokevirtual 159, 3) := by decide +kernel
theorem dX7_dotTells_59 : decode cX7_dotTells 59 = .ok (.ireturn, 1) := by decide +kernel
theorem dX7_dotTells_60 : decode cX7_dotTells 60 = .ok (.aload_n 0, 1) := by decide +kernel
theorem dX7_dotTells_61 : decode cX7_dotTells 61 = .ok (.iload_n 1, 1) := by decide +kernel
theorem dX7_dotTells_62 : decode cX7_dotTells 62 = .ok (.iload_n 2, 1) := by decide +kernel
theorem dX7_dotTells_63 : decode cX7_dotTells 63 = .ok (.invokevirtual 141, 3) := by decide +kernel
theorem dX7_dotTells_66 : decode cX7_dotTells 66 = .ok (.ifCond .eq 7, 3) := by decide +kernel
theorem dX7_dotTells_69 : decode cX7_dotTells 69 = .ok (.iconst 1, 1) := by decide +kernel
theorem dX7_dotTells_70 : decode cX7_dotTells 70 = .ok (.goto 4, 3) := by decide +kernel
theorem dX7_dotTells_73 : decode cX7_dotTells 73 = .ok (.iconst 0, 1) := by decide +kernel
theorem dX7_dotTells_74 : decode cX7_dotTells 74 = .ok (.ireturn, 1) := by decide +kernel
theorem dX7_dot_0 : decode cX7_dot 0 = .ok (.iload_n 3, 1) := by decide +kernel
theorem dX7_dot_1 : decode cX7_dot 1 = .ok (.iconst 0, 1) := by decide +kernel
theorem dX7_dot_2 : decode cX7_dot 2 = .ok (.iconst 4, 1) := by decide +kernel
theorem dX7_dot_3 : decode cX7_dot 3 = .ok (.invokestatic 92, 3) := by decide +kernel
theorem dX7_dot_6 : decode cX7_dot 6 = .ok (.ifCond .ne 5, 3) := by decide +kernel
theorem dX7_dot_9 : decode cX7_dot 9 = .ok (.iconst (-1), 1) := by decide +kernel
theorem dX7_dot_10 : decode cX7_dot 10 = .ok (.ireturn, 1) := by decide +kernel
theorem dX7_dot_11 : decode cX7_dot 11 = .ok (.aload_n 0, 1) := by decide +kernel
theorem dX7_dot_12 : decode cX7_dot 12 = .ok (.iload_n 1, 1) := by decide +kernel
theorem dX7_dot_13 : decode cX7_dot 13 = .ok (.invokevirtual 138, 3) := by decide +kernel
theorem dX7_dot_16 : decode cX7_dot 16 = .ok (.istore 4, 2) := by decide +kernel
theorem dX7_dot_18 : decode cX7_dot 18 = .ok (.iload 4, 2) := by decide +kernel
theorem dX7_dot_20 : decode cX7_dot 20 = .ok (.ifCond .ge 6, 3) := by decide +kernel
theorem dX7_dot_23 : decode cX7_dot 23 = .ok (.iload 4, 2) := by decide +kernel
theorem dX7_dot_25 : decode cX7_dot 25 = .ok (.ireturn, 1) := by decide +kernel
theorem dX7_dot_26 : decode cX7_dot 26 = .ok (.iload_n 2, 1) := by decide +kernel
theorem dX7_dot_27 : decode cX7_dot 27 = .ok (.iconst 0, 1) := by decide +kernel
theorem dX7_dot_28 : decode cX7_dot 28 = .ok (.aload_n 0, 1) := by decide +kernel
theorem dX7_dot_29 : decode cX7_dot 29 = .ok (.getfield 32, 3) := by decide +kernel
theorem dX7_dot_32 : decode cX7_dot 32 = .ok (.iload_n 1, 1) := by decide +kernel
theorem dX7_dot_33 : decode cX7_dot 33 = .ok (.iaload, 1) := by decide +kernel
theorem dX7_dot_34 : decode cX7_dot 34 = .ok (.iconst 1, 1) := by decide +kernel
theorem dX7_dot_35 : decode cX7_dot 35 = .ok (.isub, 1) := by decide +kernel
theorem dX7_dot_36 : decode cX7_dot 36 = .ok (.invokestatic 92, 3) := by decide +kernel
theorem dX7_dot_39 : decode cX7_dot 39 = .ok (.ifCond .eq 18, 3) := by decide +kernel
theorem dX7_dot_42 : decode cX7_dot 42 = .ok (.aload_n 0, 1) := by decide +kernel
theorem dX7_dot_43 : decode cX7_dot 43 = .ok (.aload_n 0, 1) := by decide +kernel
theorem dX7_dot_44 : decode cX7_dot 44 = .ok (.iload_n 1, 1) := by decide +kernel
theorem dX7_dot_45 : decode cX7_dot 45 = .ok (.iload_n 2, 1) := by decide +kernel
theorem dX7_dot_46 : decode cX7_dot 46 = .ok (.iload_n 3, 1) := by decide +kernel
theorem dX7_dot_47 : decode cX7_dot 47 = .ok (.invokevirtual 162, 3) := by decide +kernel
theorem dX7_dot_50 : decode cX7_dot 50 = .ok (.iconst 1, 1) := by decide +kernel
theorem dX7_dot_51 : decode cX7_dot 51 = .ok (.invokevirtual 114, 3) := by decide +kernel
theorem dX7_dot_54 : decode cX7_dot 54 = .ok (.goto 8, 3) := by decide +kernel
theorem dX7_dot_57 : decode cX7_dot 57 = .ok (.aload_n 0, 1) := by decide +kernel
theorem dX7_dot_58 : decode cX7_dot 58 = .ok (.iconst 2, 1) := by decide +kernel
theorem dX7_dot_59 : decode cX7_dot 59 = .ok (.invokevirtual 100, 3) := by decide +kernel
theorem dX7_dot_62 : decode cX7_dot 62 = .ok (.ireturn, 1) := by decide +kernel
theorem dX7_kind_0 : decode cX7_kind 0 = .ok (.aload_n 0, 1) := by decide +kernel
theorem dX7_kind_1 : decode cX7_kind 1 = .ok (.iload_n 1, 1) := by decide +kernel
theorem dX7_kind_2 : decode cX7_kind 2 = .ok (.invokevirtual 138, 3) := by decide +kernel
theorem dX7_kind_5 : decode cX7_kind 5 = .ok (.istore_n 2, 1) := by decide +kernel
theorem dX7_kind_6 : decode cX7_kind 6 = .ok (.iload_n 2, 1) := by decide +kernel
theorem dX7_kind_7 : decode cX7_kind 7 = .ok (.ifCond .ge 7, 3) := by decide +kernel
theorem dX7_kind_10 : decode cX7_kind 10 = .ok (.iload_n 2, 1) := by decide +kernel
theorem dX7_kind_11 : decode cX7_kind 11 = .ok (.goto 9, 3) := by decide +kernel
theorem dX7_kind_14 : decode cX7_kind 14 = .ok (.aload_n 0, 1) := by decide +kernel
theorem dX7_kind_15 : decode cX7_kind 15 = .ok (.getfield 35, 3) := by decide +kernel
theorem dX7_kind_18 : decode cX7_kind 18 = .ok (.iload_n 1, 1) := by decide +kernel
theorem dX7_kind_19 : decode cX7_kind 19 = .ok (.iaload, 1) := by decide +kernel
theorem dX7_kind_20 : decode cX7_kind 20 = .ok (.ireturn, 1) := by decide +kernel
theorem dX7_mark_0 : decode cX7_mark 0 = .ok (.iload_n 2, 1) := by decide +kernel
theorem dX7_mark_1 : decode cX7_mark 1 = .ok (.iconst 1, 1) := by decide +kernel
theorem dX7_mark_2 : decode cX7_mark 2 = .ok (.iconst 4, 1) := by decide +kernel
theorem dX7_mark_3 : decode cX7_mark 3 = .ok (.invokestatic 92, 3) := by decide +kernel
theorem dX7_mark_6 : decode cX7_mark 6 = .ok (.ifCond .ne 5, 3) := by decide +kernel
theorem dX7_mark_9 : decode cX7_mark 9 = .ok (.iconst (-1), 1) := by decide +kernel
theorem dX7_mark_10 : decode cX7_mark 10 = .ok (.ireturn, 1) := by decide +kernel
theorem dX7_mark_11 : decode cX7_mark 11 = .ok (.aload_n 0, 1) := by decide +kernel
theorem dX7_mark_12 : decode cX7_mark 12 = .ok (.iload_n 1, 1) := by decide +kernel
theorem dX7_mark_13 : decode cX7_mark 13 = .ok (.invokevirtual 138, 3) := by decide +kernel
theorem dX7_mark_16 : decode cX7_mark 16 = .ok (.istore_n 3, 1) := by decide +kernel
theorem dX7_mark_17 : decode cX7_mark 17 = .ok (.iload_n 3, 1) := by decide +kernel
theorem dX7_mark_18 : decode cX7_mark 18 = .ok (.ifCond .ge 5, 3) := by decide +kernel
theorem dX7_mark_21 : decode cX7_mark 21 = .ok (.iload_n 3, 1) := by decide +kernel
theorem dX7_mark_22 : decode cX7_mark 22 = .ok (.ireturn, 1) := by decide +kernel
theorem dX7_mark_23 : decode cX7_mark 23 = .ok (.aload_n 0, 1) := by decide +kernel
theorem dX7_mark_24 : decode cX7_mark 24 = .ok (.getfield 35, 3) := by decide +kernel
theorem dX7_mark_27 : decode cX7_mark 27 = .ok (.iload_n 1, 1) := by decide +kernel
theorem dX7_mark_28 : decode cX7_mark 28 = .ok (.iaload, 1) := by decide +kernel
theorem dX7_mark_29 : decode cX7_mark 29 = .ok (.iload_n 2, 1) := by decide +kernel
theorem dX7_mark_30 : decode cX7_mark 30 = .ok (.if_icmp .eq 24, 3) := by decide +kernel
theorem dX7_mark_33 : decode cX7_mark 33 = .ok (.iload_n 2, 1) := by decide +kernel
theorem dX7_mark_34 : decode cX7_mark 34 = .ok (.iconst 1, 1) := by decide +kernel
theorem dX7_mark_35 : decode cX7_mark 35 = .ok (.if_icmp .ne 13, 3) := by decide +kernel
theorem dX7_mark_38 : decode cX7_mark 38 = .ok (.aload_n 0, 1) := by decide +kernel
theorem dX7_mark_39 : decode cX7_mark 39 = .ok (.getfield 35, 3) := by decide +kernel
theorem dX7_mark_42 : decode cX7_mark 42 = .ok (.iload_n 1, 1) := by decide +kernel
theorem dX7_mark_43 : decode cX7_mark 43 = .ok (.iaload, 1) := by decide +kernel
theorem dX7_mark_44 : decode cX7_mark 44 = .ok (.iconst 2, 1) := by decide +kernel
theorem dX7_mark_45 : decode cX7_mark 45 = .ok (.if_icmp .eq 9, 3) := by decide +kernel
theorem dX7_mark_48 : decode cX7_mark 48 = .ok (.aload_n 0, 1) := by decide +kernel
theorem dX7_mark_49 : decode cX7_mark 49 = .ok (.iconst 3, 1) := by decide +kernel
theorem dX7_mark_50 : decode cX7_mark 50 = .ok (.invokevirtual 100, 3) := by decide +kernel
theorem dX7_mark_53 : decode cX7_mark 53 = .ok (.ireturn, 1) := by decide +kernel
theorem dX7_mark_54 : decode cX7_mark 54 = .ok (.iconst 0, 1) := by decide +kernel
theorem dX7_mark_55 : decode cX7_mark 55 = .ok (.istore 4, 2) := by decide +kernel
theorem dX7_mark_57 : decode cX7_mark 57 = .ok (.iconst 0, 1) := by decide +kernel
theorem dX7_mark_58 : decode cX7_mark 58 = .ok (.istore 5, 2) := by decide +kernel
theorem dX7_mark_60 : decode cX7_mark 60 = .ok (.iload 5, 2) := by decide +kernel
theorem dX7_mark_62 : decode cX7_mark 62 = .ok (.aload_n 0, 1) := by decide +kernel
theorem dX7_mark_63 : decode cX7_mark 63 = .ok (.getfield 32, 3) := by decide +kernel
theorem dX7_mark_66 : decode cX7_mark 66 = .ok (.iload_n 1, 1) := by decide +kernel
theorem dX7_mark_67 : decode cX7_mark 67 = .ok (.iaload, 1) := by decide +kernel
theorem dX7_mark_68 : decode cX7_mark 68 = .ok (.if_icmp .ge 113, 3) := by decide +kernel
theorem dX7_mark_71 : decode cX7_mark 71 = .ok (.iload 4, 2) := by decide +kernel
theorem dX7_mark_73 : decode cX7_mark 73 = .ok (.iload_n 2, 1) := by decide +kernel
theorem dX7_mark_74 : decode cX7_mark 74 = .ok (.iconst 1, 1) := by decide +kernel
theorem dX7_mark_75 : decode cX7_mark 75 = .ok (.if_icmp .ne 23, 3) := by decide +kernel
theorem dX7_mark_78 : decode cX7_mark 78 = .ok (.iload 5, 2) := by decide +kernel
theorem dX7_mark_80 : decode cX7_mark 80 = .ok (.aload_n 0, 1) := by decide +kernel
theorem dX7_mark_81 : decode cX7_mark 81 = .ok (.getfield 44, 3) := by decide +kernel
theorem dX7_mark_84 : decode cX7_mark 84 = .ok (.iload_n 1, 1) := by decide +kernel
theorem dX7_mark_85 : decode cX7_mark 85 = .ok (.iaload, 1) := by decide +kernel
theorem dX7_mark_86 : decode cX7_mark 86 = .ok (.irem, 1) := by decide +kernel
theorem dX7_mark_87 : decode cX7_mark 87 = .ok (.ifCond .ne 7, 3) := by decide +kernel
theorem dX7_mark_90 : decode cX7_mark 90 = .ok (.iconst 1, 1) := by decide +kernel
theorem dX7_mark_91 : decode cX7_mark 91 = .ok (.goto 81, 3) := by decide +kernel
theorem dX7_mark_94 : decode cX7_mark 94 = .ok (.iconst 0, 1) := by decide +kernel
theorem dX7_mark_95 : decode cX7_mark 95 = .ok (.goto 77, 3) := by decide +kernel
theorem dX7_mark_98 : decode cX7_mark 98 = .ok (.iload_n 2, 1) := by decide +kernel
theorem dX7_mark_99 : decode cX7_mark 99 = .ok (.iconst 2, 1) := by decide +kernel
theorem dX7_mark_100 : decode cX7_mark 100 = .ok (.if_icmp .ne 23, 3) := by decide +kernel
theorem dX7_mark_103 : decode cX7_mark 103 = .ok (.aload_n 0, 1) := by decide +kernel
theorem dX7_mark_104 : decode cX7_mark 104 = .ok (.iload_n 1, 1) := by decide +kernel
theorem dX7_mark_105 : decode cX7_mark 105 = .ok (.iload 5, 2) := by decide +kernel
theorem dX7_mark_107 : decode cX7_mark 107 = .ok (.invokevirtual 147, 3) := by decide +kernel
theorem dX7_mark_110 : decode cX7_mark 110 = .ok (.bipush 127, 2) := by decide +kernel
theorem dX7_mark_112 : decode cX7_mark 112 = .ok (.if_icmp .le 7, 3) := by decide +kernel
theorem dX7_mark_115 : decode cX7_mark 115 = .ok (.iconst 1, 1) := by decide +kernel
theorem dX7_mark_116 : decode cX7_mark 116 = .ok (.goto 56, 3) := by decide +kernel
theorem dX7_mark_119 : decode cX7_mark 119 = .ok (.iconst 0, 1) := by decide +kernel
theorem dX7_mark_120 : decode cX7_mark 120 = .ok (.goto 52, 3) := by decide +kernel
theorem dX7_mark_123 : decode cX7_mark 123 = .ok (.iload_n 2, 1) := by decide +kernel
theorem dX7_mark_124 : decode cX7_mark 124 = .ok (.iconst 3, 1) := by decide +kernel
theorem dX7_mark_125 : decode cX7_mark 125 = .ok (.if_icmp .ne 18, 3) := by decide +kernel
theorem dX7_mark_128 : decode cX7_mark 128 = .ok (.aload_n 0, 1) := by decide +kernel
theorem dX7_mark_129 : decode cX7_mark 129 = .ok (.getfield 41, 3) := by decide +kernel
theorem dX7_mark_132 : decode cX7_mark 132 = .ok (.bipush 40, 2) := by decide +kernel
theorem dX7_mark_134 : decode cX7_mark 134 = .ok (.iload_n 1, 1) := by decide +kernel
theorem dX7_mark_135 : decode cX7_mark 135 = .ok (.imul, 1) := by decide +kernel
theorem dX7_mark_136 : decode cX7_mark 136 = .ok (.iload 5, 2) := by decide +kernel
theorem dX7_mark_138 : decode cX7_mark 138 = .ok (.iadd, 1) := by decide +kernel
theorem dX7_mark_139 : decode cX7_mark 139 = .ok (.iaload, 1) := by decide +kernel
theorem dX7_mark_140 : decode cX7_mark 140 = .ok (.goto 32, 3) := by decide +kernel
theorem dX7_mark_143 : decode cX7_mark 143 = .ok (.iload 5, 2) := by decide +kernel
theorem dX7_mark_145 : decode cX7_mark 145 = .ok (.ifCond .le 26, 3) := by decide +kernel
theorem dX7_mark_148 : decode cX7_mark 148 = .ok (.aload_n 0, 1) := by decide +kernel
theorem dX7_mark_149 : decode cX7_mark 149 = .ok (.iload_n 1, 1) := by decide +kernel
theorem dX7_mark_150 : decode cX7_mark 150 = .ok (.iload 5, 2) := by decide +kernel
theorem dX7_mark_152 : decode cX7_mark 152 = .ok (.invokevirtual 147, 3) := by decide +kernel
theorem dX7_mark_155 : decode cX7_mark 155 = .ok (.aload_n 0, 1) := by decide +kernel
theorem dX7_mark_156 : decode cX7_mark 156 = .ok (.iload_n 1, 1) := by decide +kernel
theorem dX7_mark_157 : decode cX7_mark 157 = .ok (.iload 5, 2) := by decide +kernel
theorem dX7_mark_159 : decode cX7_mark 159 = .ok (.iconst 1, 1) := by decide +kernel
theorem dX7_mark_160 : decode cX7_mark 160 = .ok (.isub, 1) := by decide +kernel
theorem dX7_mark_161 : decode cX7_mark 161 = .ok (.invokevirtual 147, 3) := by decide +kernel
theorem dX7_mark_164 : decode cX7_mark 164 = .ok (.if_icmp .ge 7, 3) := by decide +kernel
theorem dX7_mark_167 : decode cX7_mark 167 = .ok (.iconst 1, 1) := by decide +kernel
theorem dX7_mark_168 : decode cX7_mark 168 = .ok (.goto 4, 3) := by decide +kernel
theorem dX7_mark_171 : decode cX7_mark 171 = .ok (.iconst 0, 1) := by decide +kernel
theorem dX7_mark_172 : decode cX7_mark 172 = .ok (.iadd, 1) := by decide +kernel
theorem dX7_mark_173 : decode cX7_mark 173 = .ok (.istore 4, 2) := by decide +kernel
theorem dX7_mark_175 : decode cX7_mark 175 = .ok (.iinc 5 1, 3) := by decide +kernel
theorem dX7_mark_178 : decode cX7_mark 178 = .ok (.goto (-118), 3) := by decide +kernel
theorem dX7_mark_181 : decode cX7_mark 181 = .ok (.iload 4, 2) := by decide +kernel
theorem dX7_mark_183 : decode cX7_mark 183 = .ok (.ireturn, 1) := by decide +kernel
theorem dX7_draw_0 : decode cX7_draw 0 = .ok (.aload_n 0, 1) := by decide +kernel
theorem dX7_draw_1 : decode cX7_draw 1 = .ok (.aload_n 0, 1) := by decide +kernel
theorem dX7_draw_2 : decode cX7_draw 2 = .ok (.getfield 165, 3) := by decide +kernel
theorem dX7_draw_5 : decode cX7_draw 5 = .ok (.ldc 168, 2) := by decide +kernel
theorem dX7_draw_7 : decode cX7_draw 7 = .ok (.imul, 1) := by decide +kernel
theorem dX7_draw_8 : decode cX7_draw 8 = .ok (.sipush 12345, 3) := by decide +kernel
theorem dX7_draw_11 : decode cX7_draw 11 = .ok (.iadd, 1) := by decide +kernel
theorem dX7_draw_12 : decode cX7_draw 12 = .ok (.putfield 165, 3) := by decide +kernel
theorem dX7_draw_15 : decode cX7_draw 15 = .ok (.aload_n 0, 1) := by decide +kernel
theorem dX7_draw_16 : decode cX7_draw 16 = .ok (.getfield 165, 3) := by decide +kernel
theorem dX7_draw_19 : decode cX7_draw 19 = .ok (.bipush 16, 2) := by decide +kernel
theorem dX7_draw_21 : decode cX7_draw 21 = .ok (.ishr, 1) := by decide +kernel
theorem dX7_draw_22 : decode cX7_draw 22 = .ok (.sipush 32767, 3) := by decide +kernel
theorem dX7_draw_25 : decode cX7_draw 25 = .ok (.iand, 1) := by decide +kernel
theorem dX7_draw_26 : decode cX7_draw 26 = .ok (.iload_n 1, 1) := by decide +kernel
theorem dX7_draw_27 : decode cX7_draw 27 = .ok (.irem, 1) := by decide +kernel
theorem dX7_draw_28 : decode cX7_draw 28 = .ok (.ireturn, 1) := by decide +kernel
theorem dX7_setOrder_0 : decode cX7_setOrder 0 = .ok (.aload_n 0, 1) := by decide +kernel
theorem dX7_setOrder_1 : decode cX7_setOrder 1 = .ok (.iload_n 2, 1) := by decide +kernel
theorem dX7_setOrder_2 : decode cX7_setOrder 2 = .ok (.putfield 165, 3) := by decide +kernel
theorem dX7_setOrder_5 : decode cX7_setOrder 5 = .ok (.iconst 0, 1) := by decide +kernel
theorem dX7_setOrder_6 : decode cX7_setOrder 6 = .ok (.istore_n 3, 1) := by decide +kernel
theorem dX7_setOrder_7 : decode cX7_setOrder 7 = .ok (.iload_n 3, 1) := by decide +kernel
theorem dX7_setOrder_8 : decode cX7_setOrder 8 = .ok (.iload_n 1, 1) := by decide +kernel
theorem dX7_setOrder_9 : decode cX7_setOrder 9 = .ok (.if_icmp .ge 16, 3) := by decide +kernel
theorem dX7_setOrder_12 : decode cX7_setOrder 12 = .ok (.aload_n 0, 1) := by decide +kernel
theorem dX7_setOrder_13 : decode cX7_setOrder 13 = .ok (.getfield 50, 3) := by decide +kernel
theorem dX7_setOrder_16 : decode cX7_setOrder 16 = .ok (.iload_n 3, 1) := by decide +kernel
theorem dX7_setOrder_17 : decode cX7_setOrder 17 = .ok (.iload_n 3, 1) := by decide +kernel
theorem dX7_setOrder_18 : decode cX7_setOrder 18 = .ok (.iastore, 1) := by decide +kernel
theorem dX7_setOrder_19 : decode cX7_setOrder 19 = .ok (.iinc 3 1, 3) := by decide +kernel
theorem dX7_setOrder_22 : decode cX7_setOrder 22 = .ok (.goto (-15), 3) := by decide +kernel
theorem dX7_setOrder_25 : decode cX7_setOrder 25 = .ok (.iload_n 1, 1) := by decide +kernel
theorem dX7_setOrder_26 : decode cX7_setOrder 26 = .ok (.iconst 1, 1) := by decide +kernel
theorem dX7_setOrder_27 : decode cX7_setOrder 27 = .ok (.isub, 1) := by decide +kernel
theorem dX7_setOrder_28 : decode cX7_setOrder 28 = .ok (.istore_n 3, 1) := by decide +kernel
theorem dX7_setOrder_29 : decode cX7_setOrder 29 = .ok (.iload_n 3, 1) := by decide +kernel
theorem dX7_setOrder_30 : decode cX7_setOrder 30 = .ok (.ifCond .le 48, 3) := by decide +kernel
theorem dX7_setOrder_33 : decode cX7_setOrder 33 = .ok (.aload_n 0, 1) := by decide +kernel
theorem dX7_setOrder_34 : decode cX7_setOrder 34 = .ok (.iload_n 3, 1) := by decide +kernel
theorem dX7_setOrder_35 : decode cX7_setOrder 35 = .ok (.iconst 1, 1) := by decide +kernel
theorem dX7_setOrder_36 : decode cX7_setOrder 36 = .ok (.iadd, 1) := by decide +kernel
theorem dX7_setOrder_37 : decode cX7_setOrder 37 = .ok (.invokevirtual 169, 3) := by decide +kernel
theorem dX7_setOrder_40 : decode cX7_setOrder 40 = .ok (.istore 4, 2) := by decide +kernel
theorem dX7_setOrder_42 : decode cX7_setOrder 42 = .ok (.aload_n 0, 1) := by decide +kernel
theorem dX7_setOrder_43 : decode cX7_setOrder 43 = .ok (.getfield 50, 3) := by decide +kernel
theorem dX7_setOrder_46 : decode cX7_setOrder 46 = .ok (.iload_n 3, 1) := by decide +kernel
theorem dX7_setOrder_47 : decode cX7_setOrder 47 = .ok (.iaload, 1) := by decide +kernel
theorem dX7_setOrder_48 : decode cX7_setOrder 48 = .ok (.istore 5, 2) := by decide +kernel
theorem dX7_setOrder_50 : decode cX7_setOrder 50 = .ok (.aload_n 0, 1) := by decide +kernel
theorem dX7_setOrder_51 : decode cX7_setOrder 51 = .ok (.getfield 50, 3) := by decide +kernel
theorem dX7_setOrder_54 : decode cX7_setOrder 54 = .ok (.iload_n 3, 1) := by decide +kernel
theorem dX7_setOrder_55 : decode cX7_setOrder 55 = .ok (.aload_n 0, 1) := by decide +kernel
theorem dX7_setOrder_56 : decode cX7_setOrder 56 = .ok (.getfield 50, 3) := by decide +kernel
theorem dX7_setOrder_59 : decode cX7_setOrder 59 = .ok (.iload 4, 2) := by decide +kernel
theorem dX7_setOrder_61 : decode cX7_setOrder 61 = .ok (.iaload, 1) := by decide +kernel
theorem dX7_setOrder_62 : decode cX7_setOrder 62 = .ok (.iastore, 1) := by decide +kernel
theorem dX7_setOrder_63 : decode cX7_setOrder 63 = .ok (.aload_n 0, 1) := by decide +kernel
theorem dX7_setOrder_64 : decode cX7_setOrder 64 = .ok (.getfield 50, 3) := by decide +kernel
theorem dX7_setOrder_67 : decode cX7_setOrder 67 = .ok (.iload 4, 2) := by decide +kernel
theorem dX7_setOrder_69 : decode cX7_setOrder 69 = .ok (.iload 5, 2) := by decide +kernel
theorem dX7_setOrder_71 : decode cX7_setOrder 71 = .ok (.iastore, 1) := by decide +kernel
theorem dX7_setOrder_72 : decode cX7_setOrder 72 = .ok (.iinc 3 (-1), 3) := by decide +kernel
theorem dX7_setOrder_75 : decode cX7_setOrder 75 = .ok (.goto (-46), 3) := by decide +kernel
theorem dX7_setOrder_78 : decode cX7_setOrder 78 = .ok (.return_, 1) := by decide +kernel
theorem dX7_place_0 : decode cX7_place 0 = .ok (.aload_n 0, 1) := by decide +kernel
theorem dX7_place_1 : decode cX7_place 1 = .ok (.iload_n 1, 1) := by decide +kernel
theorem dX7_place_2 : decode cX7_place 2 = .ok (.invokevirtual 138, 3) := by decide +kernel
theorem dX7_place_5 : decode cX7_place 5 = .ok (.istore 4, 2) := by decide +kernel
theorem dX7_place_7 : decode cX7_place 7 = .ok (.iload 4, 2) := by decide +kernel
theorem dX7_place_9 : decode cX7_place 9 = .ok (.ifCond .ge 6, 3) := by decide +kernel
theorem dX7_place_12 : decode cX7_place 12 = .ok (.iload 4, 2) := by decide +kernel
theorem dX7_place_14 : decode cX7_place 14 = .ok (.ireturn, 1) := by decide +kernel
theorem dX7_place_15 : decode cX7_place 15 = .ok (.iload_n 3, 1) := by decide +kernel
theorem dX7_place_16 : decode cX7_place 16 = .ok (.iconst 0, 1) := by decide +kernel
theorem dX7_place_17 : decode cX7_place 17 = .ok (.aload_n 0, 1) := by decide +kernel
theorem dX7_place_18 : decode cX7_place 18 = .ok (.getfield 32, 3) := by decide +kernel
theorem dX7_place_21 : decode cX7_place 21 = .ok (.iload_n 1, 1) := by decide +kernel
theorem dX7_place_22 : decode cX7_place 22 = .ok (.iaload, 1) := by decide +kernel
theorem dX7_place_23 : decode cX7_place 23 = .ok (.iconst 1, 1) := by decide +kernel
theorem dX7_place_24 : decode cX7_place 24 = .ok (.isub, 1) := by decide +kernel
theorem dX7_place_25 : decode cX7_place 25 = .ok (.invokestatic 92, 3) := by decide +kernel
theorem dX7_place_28 : decode cX7_place 28 = .ok (.ifCond .ne 9, 3) := by decide +kernel
theorem dX7_place_31 : decode cX7_place 31 = .ok (.aload_n 0, 1) := by decide +kernel
theorem dX7_place_32 : decode cX7_place 32 = .ok (.iconst 2, 1) := by decide +kernel
theorem dX7_place_33 : decode cX7_place 33 = .ok (.invokevirtual 100, 3) := by decide +kernel
theorem dX7_place_36 : decode cX7_place 36 = .ok (.ireturn, 1) := by decide +kernel
theorem dX7_place_37 : decode cX7_place 37 = .ok (.aload_n 0, 1) := by decide +kernel
theorem dX7_place_38 : decode cX7_place 38 = .ok (.aload_n 0, 1) := by decide +kernel
theorem dX7_place_39 : decode cX7_place 39 = .ok (.getfield 32, 3) := by decide +kernel
theorem dX7_place_42 : decode cX7_place 42 = .ok (.iload_n 1, 1) := by decide +kernel
theorem dX7_place_43 : decode cX7_place 43 = .ok (.iaload, 1) := by decide +kernel
theorem dX7_place_44 : decode cX7_place 44 = .ok (.iload_n 2, 1) := by decide +kernel
theorem dX7_place_45 : decode cX7_place 45 = .ok (.invokevirtual 172, 3) := by decide +kernel
theorem dX7_place_48 : decode cX7_place 48 = .ok (.aload_n 0, 1) := by decide +kernel
theorem dX7_place_49 : decode cX7_place 49 = .ok (.getfield 50, 3) := by decide +kernel
theorem dX7_place_52 : decode cX7_place 52 = .ok (.iload_n 3, 1) := by decide +kernel
theorem dX7_place_53 : decode cX7_place 53 = .ok (.iaload, 1) := by decide +kernel
theorem dX7_place_54 : decode cX7_place 54 = .ok (.ireturn, 1) := by decide +kernel
theorem dX7_byteAt_0 : decode cX7_byteAt 0 = .ok (.iload_n 2, 1) := by decide +kernel
theorem dX7_byteAt_1 : decode cX7_byteAt 1 = .ok (.aload_n 0, 1) := by decide +kernel
theorem dX7_byteAt_2 : decode cX7_byteAt 2 = .ok (.getfield 26, 3) := by decide +kernel
theorem dX7_byteAt_5 : decode cX7_byteAt 5 = .ok (.iload_n 1, 1) := by decide +kernel
theorem dX7_byteAt_6 : decode cX7_byteAt 6 = .ok (.iaload, 1) := by decide +kernel
theorem dX7_byteAt_7 : decode cX7_byteAt 7 = .ok (.if_icmp .ge 17, 3) := by decide +kernel
theorem dX7_byteAt_10 : decode cX7_byteAt 10 = .ok (.aload_n 0, 1) := by decide +kernel
theorem dX7_byteAt_11 : decode cX7_byteAt 11 = .ok (.getfield 29, 3) := by decide +kernel
theorem dX7_byteAt_14 : decode cX7_byteAt 14 = .ok (.bipush 60, 2) := by decide +kernel
theorem dX7_byteAt_16 : decode cX7_byteAt 16 = .ok (.iload_n 1, 1) := by decide +kernel
theorem dX7_byteAt_17 : decode cX7_byteAt 17 = .ok (.imul, 1) := by decide +kernel
theorem dX7_byteAt_18 : decode cX7_byteAt 18 = .ok (.iload_n 2, 1) := by decide +kernel
theorem dX7_byteAt_19 : decode cX7_byteAt 19 = .ok (.iadd, 1) := by decide +kernel
theorem dX7_byteAt_20 : decode cX7_byteAt 20 = .ok (.iaload, 1) := by decide +kernel
theorem dX7_byteAt_21 : decode cX7_byteAt 21 = .ok (.goto 5, 3) := by decide +kernel
theorem dX7_byteAt_24 : decode cX7_byteAt 24 = .ok (.bipush (-9), 2) := by decide +kernel
theorem dX7_byteAt_26 : decode cX7_byteAt 26 = .ok (.ireturn, 1) := by decide +kernel
theorem dX7_isSign_0 : decode cX7_isSign 0 = .ok (.iload_n 0, 1) := by decide +kernel
theorem dX7_isSign_1 : decode cX7_isSign 1 = .ok (.bipush 48, 2) := by decide +kernel
theorem dX7_isSign_3 : decode cX7_isSign 3 = .ok (.if_icmp .eq 9, 3) := by decide +kernel
theorem dX7_isSign_6 : decode cX7_isSign 6 = .ok (.iload_n 0, 1) := by decide +kernel
theorem dX7_isSign_7 : decode cX7_isSign 7 = .ok (.bipush 49, 2) := by decide +kernel
theorem dX7_isSign_9 : decode cX7_isSign 9 = .ok (.if_icmp .ne 7, 3) := by decide +kernel
theorem dX7_isSign_12 : decode cX7_isSign 12 = .ok (.iconst 1, 1) := by decide +kernel
theorem dX7_isSign_13 : decode cX7_isSign 13 = .ok (.goto 4, 3) := by decide +kernel
theorem dX7_isSign_16 : decode cX7_isSign 16 = .ok (.iconst 0, 1) := by decide +kernel
theorem dX7_isSign_17 : decode cX7_isSign 17 = .ok (.ireturn, 1) := by decide +kernel
theorem dX7_reads_0 : decode cX7_reads 0 = .ok (.iconst 0, 1) := by decide +kernel
theorem dX7_reads_1 : decode cX7_reads 1 = .ok (.istore_n 2, 1) := by decide +kernel
theorem dX7_reads_2 : decode cX7_reads 2 = .ok (.aload_n 0, 1) := by decide +kernel
theorem dX7_reads_3 : decode cX7_reads 3 = .ok (.iload_n 1, 1) := by decide +kernel
theorem dX7_reads_4 : decode cX7_reads 4 = .ok (.iload_n 2, 1) := by decide +kernel
theorem dX7_reads_5 : decode cX7_reads 5 = .ok (.invokevirtual 176, 3) := by decide +kernel
theorem dX7_reads_8 : decode cX7_reads 8 = .ok (.bipush 32, 2) := by decide +kernel
theorem dX7_reads_10 : decode cX7_reads 10 = .ok (.if_icmp .ne 9, 3) := by decide +kernel
theorem dX7_reads_13 : decode cX7_reads 13 = .ok (.iinc 2 1, 3) := by decide +kernel
theorem dX7_reads_16 : decode cX7_reads 16 = .ok (.goto (-14), 3) := by decide +kernel
theorem dX7_reads_19 : decode cX7_reads 19 = .ok (.aload_n 0, 1) := by decide +kernel
theorem dX7_reads_20 : decode cX7_reads 20 = .ok (.iconst 0, 1) := by decide +kernel
theorem dX7_reads_21 : decode cX7_reads 21 = .ok (.putfield 179, 3) := by decide +kernel
theorem dX7_reads_24 : decode cX7_reads 24 = .ok (.iconst 1, 1) := by decide +kernel
theorem dX7_reads_25 : decode cX7_reads 25 = .ok (.istore_n 3, 1) := by decide +kernel
theorem dX7_reads_26 : decode cX7_reads 26 = .ok (.iload_n 3, 1) := by decide +kernel
theorem dX7_reads_27 : decode cX7_reads 27 = .ok (.ifCond .eq 191, 3) := by decide +kernel
theorem dX7_reads_30 : decode cX7_reads 30 = .ok (.iconst 0, 1) := by decide +kernel
theorem dX7_reads_31 : decode cX7_reads 31 = .ok (.istore 4, 2) := by decide +kernel
theorem dX7_reads_33 : decode cX7_reads 33 = .ok (.aload_n 0, 1) := by decide +kernel
theorem dX7_reads_34 : decode cX7_reads 34 = .ok (.getfield 62, 3) := by decide +kernel
theorem dX7_reads_37 : decode cX7_reads 37 = .ok (.aload_n 0, 1) := by decide +kernel
theorem dX7_reads_38 : decode cX7_reads 38 = .ok (.getfield 179, 3) := by decide +kernel
theorem dX7_reads_41 : decode cX7_reads 41 = .ok (.iconst 0, 1) := by decide +kernel
theorem dX7_reads_42 : decode cX7_reads 42 = .ok (.iastore, 1) := by decide +kernel
theorem dX7_reads_43 : decode cX7_reads 43 = .ok (.aload_n 0, 1) := by decide +kernel
theorem dX7_reads_44 : decode cX7_reads 44 = .ok (.getfield 179, 3) := by decide +kernel
theorem dX7_reads_47 : decode cX7_reads 47 = .ok (.ifCond .ne 8, 3) := by decide +kernel
theorem dX7_reads_50 : decode cX7_reads 50 = .ok (.bipush 12, 2) := by decide +kernel
theorem dX7_reads_52 : decode cX7_reads 52 = .ok (.goto 7, 3) := by decide +kernel
theorem dX7_reads_55 : decode cX7_reads 55 = .ok (.aload_n 0, 1) := by decide +kernel
theorem dX7_reads_56 : decode cX7_reads 56 = .ok (.getfield 182, 3) := by decide +kernel
theorem dX7_reads_59 : decode cX7_reads 59 = .ok (.istore 5, 2) := by decide +kernel
theorem dX7_reads_61 : decode cX7_reads 61 = .ok (.aload_n 0, 1) := by decide +kernel
theorem dX7_reads_62 : decode cX7_reads 62 = .ok (.iload_n 1, 1) := by decide +kernel
theorem dX7_reads_63 : decode cX7_reads 63 = .ok (.iload_n 2, 1) := by decide +kernel
theorem dX7_reads_64 : decode cX7_reads 64 = .ok (.invokevirtual 176, 3) := by decide +kernel
theorem dX7_reads_67 : decode cX7_reads 67 = .ok (.invokestatic 185, 3) := by decide +kernel
theorem dX7_reads_70 : decode cX7_reads 70 = .ok (.ifCond .eq 43, 3) := by decide +kernel
theorem dX7_reads_73 : decode cX7_reads 73 = .ok (.iload 4, 2) := by decide +kernel
theorem dX7_reads_75 : decode cX7_reads 75 = .ok (.iload 5, 2) := by decide +kernel
theorem dX7_reads_77 : decode cX7_reads 77 = .ok (.if_icmp .ge 36, 3) := by decide +kernel
theorem dX7_reads_80 : decode cX7_reads 80 = .ok (.aload_n 0, 1) := by decide +kernel
theorem dX7_reads_81 : decode cX7_reads 81 = .ok (.getfield 62, 3) := by decide +kernel
theorem dX7_reads_84 : decode cX7_reads 84 = .ok (.aload_n 0, 1) := by decide +kernel
theorem dX7_reads_85 : decode cX7_reads 85 = .ok (.getfield 179, 3) := by decide +kernel
theorem dX7_reads_88 : decode cX7_reads 88 = .ok (.dup2, 1) := by decide +kernel
theorem dX7_reads_89 : decode cX7_reads 89 = .ok (.iaload, 1) := by decide +kernel
theorem dX7_reads_90 : decode cX7_reads 90 = .ok (.aload_n 0, 1) := by decide +kernel
theorem dX7_reads_91 : decode cX7_reads 91 = .ok (.iload_n 1, 1) := by decide +kernel
theorem dX7_reads_92 : decode cX7_reads 92 = .ok (.iload_n 2, 1) := by decide +kernel
theorem dX7_reads_93 : decode cX7_reads 93 = .ok (.invokevirtual 176, 3) := by decide +kernel
theorem dX7_reads_96 : decode cX7_reads 96 = .ok (.bipush 48, 2) := by decide +kernel
theorem dX7_reads_98 : decode cX7_reads 98 = .ok (.isub, 1) := by decide +kernel
theorem dX7_reads_99 : decode cX7_reads 99 = .ok (.iload 4, 2) := by decide +kernel
theorem dX7_reads_101 : decode cX7_reads 101 = .ok (.ishl, 1) := by decide +kernel
theorem dX7_reads_102 : decode cX7_reads 102 = .ok (.ior, 1) := by decide +kernel
theorem dX7_reads_103 : decode cX7_reads 103 = .ok (.iastore, 1) := by decide +kernel
theorem dX7_reads_104 : decode cX7_reads 104 = .ok (.iinc 4 1, 3) := by decide +kernel
theorem dX7_reads_107 : decode cX7_reads 107 = .ok (.iinc 2 1, 3) := by decide +kernel
theorem dX7_reads_110 : decode cX7_reads 110 = .ok (.goto (-49), 3) := by decide +kernel
theorem dX7_reads_113 : decode cX7_reads 113 = .ok (.aload_n 0, 1) := by decide +kernel
theorem dX7_reads_114 : decode cX7_reads 114 = .ok (.aload_n 0, 1) := by decide +kernel
theorem dX7_reads_115 : decode cX7_reads 115 = .ok (.getfield 179, 3) := by decide +kernel
theorem dX7_reads_118 : decode cX7_reads 118 = .ok (.ifCond .ne 8, 3) := by decide +kernel
theorem dX7_reads_121 : decode cX7_reads 121 = .ok (.iload 4, 2) := by decide +kernel
theorem dX7_reads_123 : decode cX7_reads 123 = .ok (.goto 7, 3) := by decide +kernel
theorem dX7_reads_126 : decode cX7_reads 126 = .ok (.aload_n 0, 1) := by decide +kernel
theorem dX7_reads_127 : decode cX7_reads 127 = .ok (.getfield 182, 3) := by decide +kernel
theorem dX7_reads_130 : decode cX7_reads 130 = .ok (.putfield 182, 3) := by decide +kernel
theorem dX7_reads_133 : decode cX7_reads 133 = .ok (.iload 4, 2) := by decide +kernel
theorem dX7_reads_135 : decode cX7_reads 135 = .ok (.ifCond .eq 24, 3) := by decide +kernel
theorem dX7_reads_138 : decode cX7_reads 138 = .ok (.iload 4, 2) := by decide +kernel
theorem dX7_reads_140 : decode cX7_reads 140 = .ok (.aload_n 0, 1) := by decide +kernel
theorem dX7_reads_141 : decode cX7_reads 141 = .ok (.getfield 182, 3) := by decide +kernel
theorem dX7_reads_144 : decode cX7_reads 144 = .ok (.if_icmp .lt 15, 3) := by decide +kernel
theorem dX7_reads_147 : decode cX7_reads 147 = .ok (.aload_n 0, 1) := by decide +kernel
theorem dX7_reads_148 : decode cX7_reads 148 = .ok (.iload_n 1, 1) := by decide +kernel
theorem dX7_reads_149 : decode cX7_reads 149 = .ok (.iload_n 2, 1) := by decide +kernel
theorem dX7_reads_150 : decode cX7_reads 150 = .ok (.invokevirtual 176, 3) := by decide +kernel
theorem dX7_reads_153 : decode cX7_reads 153 = .ok (.invokestatic 185, 3) := by decide +kernel
theorem dX7_reads_156 : decode cX7_reads 156 = .ok (.ifCond .eq 5, 3) := by decide +kernel
theorem dX7_reads_159 : decode cX7_reads 159 = .ok (.iload_n 2, 1) := by decide +kernel
theorem dX7_reads_160 : decode cX7_reads 160 = .ok (.ireturn, 1) := by decide +kernel
theorem dX7_reads_161 : decode cX7_reads 161 = .ok (.aload_n 0, 1) := by decide +kernel
theorem dX7_reads_162 : decode cX7_reads 162 = .ok (.dup, 1) := by decide +kernel
theorem dX7_reads_163 : decode cX7_reads 163 = .ok (.getfield 179, 3) := by decide +kernel
theorem dX7_reads_166 : decode cX7_reads 166 = .ok (.iconst 1, 1) := by decide +kernel
theorem dX7_reads_167 : decode cX7_reads 167 = .ok (.iadd, 1) := by decide +kernel
theorem dX7_reads_168 : decode cX7_reads 168 = .ok (.putfield 179, 3) := by decide +kernel
theorem dX7_reads_171 : decode cX7_reads 171 = .ok (.aload_n 0, 1) := by decide +kernel
theorem dX7_reads_172 : decode cX7_reads 172 = .ok (.iload_n 1, 1) := by decide +kernel
theorem dX7_reads_173 : decode cX7_reads 173 = .ok (.iload_n 2, 1) := by decide +kernel
theorem dX7_reads_174 : decode cX7_reads 174 = .ok (.invokevirtual 176, 3) := by decide +kernel
theorem dX7_reads_177 : decode cX7_reads 177 = .ok (.bipush 47, 2) := by decide +kernel
theorem dX7_reads_179 : decode cX7_reads 179 = .ok (.if_icmp .ne 7, 3) := by decide +kernel
theorem dX7_reads_182 : decode cX7_reads 182 = .ok (.iconst 1, 1) := by decide +kernel
theorem dX7_reads_183 : decode cX7_reads 183 = .ok (.goto 4, 3) := by decide +kernel
theorem dX7_reads_186 : decode cX7_reads 186 = .ok (.iconst 0, 1) := by decide +kernel
theorem dX7_reads_187 : decode cX7_reads 187 = .ok (.istore_n 3, 1) := by decide +kernel
theorem dX7_reads_188 : decode cX7_reads 188 = .ok (.iload_n 3, 1) := by decide +kernel
theorem dX7_reads_189 : decode cX7_reads 189 = .ok (.ifCond .eq 14, 3) := by decide +kernel
theorem dX7_reads_192 : decode cX7_reads 192 = .ok (.aload_n 0, 1) := by decide +kernel
theorem dX7_reads_193 : decode cX7_reads 193 = .ok (.getfield 179, 3) := by decide +kernel
theorem dX7_reads_196 : decode cX7_reads 196 = .ok (.bipush 6, 2) := by decide +kernel
theorem dX7_reads_198 : decode cX7_reads 198 = .ok (.if_icmp .ne 5, 3) := by decide +kernel
theorem dX7_reads_201 : decode cX7_reads 201 = .ok (.iload_n 2, 1) := by decide +kernel
theorem dX7_reads_202 : decode cX7_reads 202 = .ok (.ireturn, 1) := by decide +kernel
theorem dX7_reads_203 : decode cX7_reads 203 = .ok (.iload_n 2, 1) := by decide +kernel
theorem dX7_reads_204 : decode cX7_reads 204 = .ok (.iload_n 3, 1) := by decide +kernel
theorem dX7_reads_205 : decode cX7_reads 205 = .ok (.ifCond .eq 7, 3) := by decide +kernel
theorem dX7_reads_208 : decode cX7_reads 208 = .ok (.iconst 1, 1) := by decide +kernel
theorem dX7_reads_209 : decode cX7_reads 209 = .ok (.goto 4, 3) := by decide +kernel
theorem dX7_reads_212 : decode cX7_reads 212 = .ok (.iconst 0, 1) := by decide +kernel
theorem dX7_reads_213 : decode cX7_reads 213 = .ok (.iadd, 1) := by decide +kernel
theorem dX7_reads_214 : decode cX7_reads 214 = .ok (.istore_n 2, 1) := by decide +kernel
theorem dX7_reads_215 : decode cX7_reads 215 = .ok (.goto (-189), 3) := by decide +kernel
theorem dX7_reads_218 : decode cX7_reads 218 = .ok (.aload_n 0, 1) := by decide +kernel
theorem dX7_reads_219 : decode cX7_reads 219 = .ok (.iload_n 1, 1) := by decide +kernel
theorem dX7_reads_220 : decode cX7_reads 220 = .ok (.iload_n 2, 1) := by decide +kernel
theorem dX7_reads_221 : decode cX7_reads 221 = .ok (.invokevirtual 176, 3) := by decide +kernel
theorem dX7_reads_224 : decode cX7_reads 224 = .ok (.bipush 32, 2) := by decide +kernel
theorem dX7_reads_226 : decode cX7_reads 226 = .ok (.if_icmp .ne 9, 3) := by decide +kernel
theorem dX7_reads_229 : decode cX7_reads 229 = .ok (.iinc 2 1, 3) := by decide +kernel
theorem dX7_reads_232 : decode cX7_reads 232 = .ok (.goto (-14), 3) := by decide +kernel
theorem dX7_reads_235 : decode cX7_reads 235 = .ok (.iload_n 2, 1) := by decide +kernel
theorem dX7_reads_236 : decode cX7_reads 236 = .ok (.aload_n 0, 1) := by decide +kernel
theorem dX7_reads_237 : decode cX7_reads 237 = .ok (.getfield 26, 3) := by decide +kernel
theorem dX7_reads_240 : decode cX7_reads 240 = .ok (.iload_n 1, 1) := by decide +kernel
theorem dX7_reads_241 : decode cX7_reads 241 = .ok (.iaload, 1) := by decide +kernel
theorem dX7_reads_242 : decode cX7_reads 242 = .ok (.if_icmp .ne 8, 3) := by decide +kernel
theorem dX7_reads_245 : decode cX7_reads 245 = .ok (.bipush (-9), 2) := by decide +kernel
theorem dX7_reads_247 : decode cX7_reads 247 = .ok (.goto 4, 3) := by decide +kernel
theorem dX7_reads_250 : decode cX7_reads 250 = .ok (.iload_n 2, 1) := by decide +kernel
theorem dX7_reads_251 : decode cX7_reads 251 = .ok (.ireturn, 1) := by decide +kernel
theorem dX7_fault_0 : decode cX7_fault 0 = .ok (.aload_n 0, 1) := by decide +kernel
theorem dX7_fault_1 : decode cX7_fault 1 = .ok (.iload_n 1, 1) := by decide +kernel
theorem dX7_fault_2 : decode cX7_fault 2 = .ok (.invokevirtual 120, 3) := by decide +kernel
theorem dX7_fault_5 : decode cX7_fault 5 = .ok (.istore_n 2, 1) := by decide +kernel
theorem dX7_fault_6 : decode cX7_fault 6 = .ok (.iload_n 2, 1) := by decide +kernel
theorem dX7_fault_7 : decode cX7_fault 7 = .ok (.ifCond .ge 7, 3) := by decide +kernel
theorem dX7_fault_10 : decode cX7_fault 10 = .ok (.iload_n 2, 1) := by decide +kernel
theorem dX7_fault_11 : decode cX7_fault 11 = .ok (.goto 8, 3) := by decide +kernel
theorem dX7_fault_14 : decode cX7_fault 14 = .ok (.aload_n 0, 1) := by decide +kernel
theorem dX7_fault_15 : decode cX7_fault 15 = .ok (.iload_n 1, 1) := by decide +kernel
theorem dX7_fault_16 : decode cX7_fault 16 = .ok (.invokevirtual 188, 3) := by decide +kernel
theorem dX7_fault_19 : decode cX7_fault 19 = .ok (.ireturn, 1) := by decide +kernel
theorem dX7_isCode_0 : decode cX7_isCode 0 = .ok (.iload_n 0, 1) := by decide +kernel
theorem dX7_isCode_1 : decode cX7_isCode 1 = .ok (.iconst 0, 1) := by decide +kernel
theorem dX7_isCode_2 : decode cX7_isCode 2 = .ok (.iconst 3, 1) := by decide +kernel
theorem dX7_isCode_3 : decode cX7_isCode 3 = .ok (.invokestatic 92, 3) := by decide +kernel
theorem dX7_isCode_6 : decode cX7_isCode 6 = .ok (.ireturn, 1) := by decide +kernel
theorem dX7_askedCode_0 : decode cX7_askedCode 0 = .ok (.iload_n 1, 1) := by decide +kernel
theorem dX7_askedCode_1 : decode cX7_askedCode 1 = .ok (.invokestatic 191, 3) := by decide +kernel
theorem dX7_askedCode_4 : decode cX7_askedCode 4 = .ok (.ifCond .ne 7, 3) := by decide +kernel
theorem dX7_askedCode_7 : decode cX7_askedCode 7 = .ok (.iconst (-1), 1) := by decide +kernel
theorem dX7_askedCode_8 : decode cX7_askedCode 8 = .ok (.goto 21, 3) := by decide +kernel
theorem dX7_askedCode_11 : decode cX7_askedCode 11 = .ok (.aload_n 0, 1) := by decide +kernel
theorem dX7_askedCode_12 : decode cX7_askedCode 12 = .ok (.getfield 53, 3) := by decide +kernel
theorem dX7_askedCode_15 : decode cX7_askedCode 15 = .ok (.iload_n 1, 1) := by decide +kernel
theorem dX7_askedCode_16 : decode cX7_askedCode 16 = .ok (.iaload, 1) := by decide +kernel
theorem dX7_askedCode_17 : decode cX7_askedCode 17 = .ok (.ifCond .ne 11, 3) := by decide +kernel
theorem dX7_askedCode_20 : decode cX7_askedCode 20 = .ok (.aload_n 0, 1) := by decide +kernel
theorem dX7_askedCode_21 : decode cX7_askedCode 21 = .ok (.iconst 1, 1) := by decide +kernel
theorem dX7_askedCode_22 : decode cX7_askedCode 22 = .ok (.invokevirtual 100, 3) := by decide +kernel
theorem dX7_askedCode_25 : decode cX7_askedCode 25 = .ok (.goto 4, 3) := by decide +kernel
theorem dX7_askedCode_28 : decode cX7_askedCode 28 = .ok (.iconst 0, 1) := by decide +kernel
theorem dX7_askedCode_29 : decode cX7_askedCode 29 = .ok (.ireturn, 1) := by decide +kernel
theorem dX7_code_0 : decode cX7_code 0 = .ok (.iload_n 1, 1) := by decide +kernel
theorem dX7_code_1 : decode cX7_code 1 = .ok (.invokestatic 191, 3) := by decide +kernel
theorem dX7_code_4 : decode cX7_code 4 = .ok (.ifCond .eq 10, 3) := by decide +kernel
theorem dX7_code_7 : decode cX7_code 7 = .ok (.iload_n 2, 1) := by decide +kernel
theorem dX7_code_8 : decode cX7_code 8 = .ok (.invokestatic 104, 3) := by decide +kernel
theorem dX7_code_11 : decode cX7_code 11 = .ok (.ifCond .ne 5, 3) := by decide +kernel
theorem dX7_code_14 : decode cX7_code 14 = .ok (.iconst (-1), 1) := by decide +kernel
theorem dX7_code_15 : decode cX7_code 15 = .ok (.ireturn, 1) := by decide +kernel
theorem dX7_code_16 : decode cX7_code 16 = .ok (.aload_n 0, 1) := by decide +kernel
theorem dX7_code_17 : decode cX7_code 17 = .ok (.getfield 26, 3) := by decide +kernel
theorem dX7_code_20 : decode cX7_code 20 = .ok (.iload_n 2, 1) := by decide +kernel
theorem dX7_code_21 : decode cX7_code 21 = .ok (.iaload, 1) := by decide +kernel
theorem dX7_code_22 : decode cX7_code 22 = .ok (.ifCond .ge 9, 3) := by decide +kernel
theorem dX7_code_25 : decode cX7_code 25 = .ok (.aload_n 0, 1) := by decide +kernel
theorem dX7_code_26 : decode cX7_code 26 = .ok (.iconst 1, 1) := by decide +kernel
theorem dX7_code_27 : decode cX7_code 27 = .ok (.invokevirtual 100, 3) := by decide +kernel
theorem dX7_code_30 : decode cX7_code 30 = .ok (.ireturn, 1) := by decide +kernel
theorem dX7_code_31 : decode cX7_code 31 = .ok (.aload_n 0, 1) := by decide +kernel
theorem dX7_code_32 : decode cX7_code 32 = .ok (.iload_n 2, 1) := by decide +kernel
theorem dX7_code_33 : decode cX7_code 33 = .ok (.invokevirtual 188, 3) := by decide +kernel
theorem dX7_code_36 : decode cX7_code 36 = .ok (.bipush (-9), 2) := by decide +kernel
theorem dX7_code_38 : decode cX7_code 38 = .ok (.if_icmp .eq 6, 3) := by decide +kernel
theorem dX7_code_41 : decode cX7_code 41 = .ok (.bipush (-4), 2) := by decide +kernel
theorem dX7_code_43 : decode cX7_code 43 = .ok (.ireturn, 1) := by decide +kernel
theorem dX7_code_44 : decode cX7_code 44 = .ok (.aload_n 0, 1) := by decide +kernel
theorem dX7_code_45 : decode cX7_code 45 = .ok (.getfield 53, 3) := by decide +kernel
theorem dX7_code_48 : decode cX7_code 48 = .ok (.iload_n 1, 1) := by decide +kernel
theorem dX7_code_49 : decode cX7_code 49 = .ok (.aload_n 0, 1) := by decide +kernel
theorem dX7_code_50 : decode cX7_code 50 = .ok (.getfield 179, 3) := by decide +kernel
theorem dX7_code_53 : decode cX7_code 53 = .ok (.iastore, 1) := by decide +kernel
theorem dX7_code_54 : decode cX7_code 54 = .ok (.aload_n 0, 1) := by decide +kernel
theorem dX7_code_55 : decode cX7_code 55 = .ok (.getfield 56, 3) := by decide +kernel
theorem dX7_code_58 : decode cX7_code 58 = .ok (.iload_n 1, 1) := by decide +kernel
theorem dX7_code_59 : decode cX7_code 59 = .ok (.aload_n 0, 1) := by decide +kernel
theorem dX7_code_60 : decode cX7_code 60 = .ok (.getfield 182, 3) := by decide +kernel
theorem dX7_code_63 : decode cX7_code 63 = .ok (.iastore, 1) := by decide +kernel
theorem dX7_code_64 : decode cX7_code 64 = .ok (.iconst 0, 1) := by decide +kernel
theorem dX7_code_65 : decode cX7_code 65 = .ok (.istore_n 3, 1) := by decide +kernel
theorem dX7_code_66 : decode cX7_code 66 = .ok (.iload_n 3, 1) := by decide +kernel
theorem dX7_code_67 : decode cX7_code 67 = .ok (.aload_n 0, 1) := by decide +kernel
theorem dX7_code_68 : decode cX7_code 68 = .ok (.getfield 179, 3) := by decide +kernel
theorem dX7_code_71 : decode cX7_code 71 = .ok (.if_icmp .ge 26, 3) := by decide +kernel
theorem dX7_code_74 : decode cX7_code 74 = .ok (.aload_n 0, 1) := by decide +kernel
theorem dX7_code_75 : decode cX7_code 75 = .ok (.getfield 59, 3) := by decide +kernel
theorem dX7_code_78 : decode cX7_code 78 = .ok (.bipush 6, 2) := by decide +kernel
theorem dX7_code_80 : decode cX7_code 80 = .ok (.iload_n 1, 1) := by decide +kernel
theorem dX7_code_81 : decode cX7_code 81 = .ok (.imul, 1) := by decide +kernel
theorem dX7_code_82 : decode cX7_code 82 = .ok (.iload_n 3, 1) := by decide +kernel
theorem dX7_code_83 : decode cX7_code 83 = .ok (.iadd, 1) := by decide +kernel
theorem dX7_code_84 : decode cX7_code 84 = .ok (.aload_n 0, 1) := by decide +kernel
theorem dX7_code_85 : decode cX7_code 85 = .ok (.getfield 62, 3) := by decide +kernel
theorem dX7_code_88 : decode cX7_code 88 = .ok (.iload_n 3, 1) := by decide +kernel
theorem dX7_code_89 : decode cX7_code 89 = .ok (.iaload, 1) := by decide +kernel
theorem dX7_code_90 : decode cX7_code 90 = .ok (.iastore, 1) := by decide +kernel
theorem dX7_code_91 : decode cX7_code 91 = .ok (.iinc 3 1, 3) := by decide +kernel
theorem dX7_code_94 : decode cX7_code 94 = .ok (.goto (-28), 3) := by decide +kernel
theorem dX7_code_97 : decode cX7_code 97 = .ok (.aload_n 0, 1) := by decide +kernel
theorem dX7_code_98 : decode cX7_code 98 = .ok (.getfield 179, 3) := by decide +kernel
theorem dX7_code_101 : decode cX7_code 101 = .ok (.ireturn, 1) := by decide +kernel
theorem dX7_line_0 : decode cX7_line 0 = .ok (.aload_n 0, 1) := by decide +kernel
theorem dX7_line_1 : decode cX7_line 1 = .ok (.iload_n 1, 1) := by decide +kernel
theorem dX7_line_2 : decode cX7_line 2 = .ok (.invokevirtual 194, 3) := by decide +kernel
theorem dX7_line_5 : decode cX7_line 5 = .ok (.istore_n 3, 1) := by decide +kernel
theorem dX7_line_6 : decode cX7_line 6 = .ok (.iload_n 3, 1) := by decide +kernel
theorem dX7_line_7 : decode cX7_line 7 = .ok (.ifCond .ge 5, 3) := by decide +kernel
theorem dX7_line_10 : decode cX7_line 10 = .ok (.iload_n 3, 1) := by decide +kernel
theorem dX7_line_11 : decode cX7_line 11 = .ok (.ireturn, 1) := by decide +kernel
theorem dX7_line_12 : decode cX7_line 12 = .ok (.iload_n 2, 1) := by decide +kernel
theorem dX7_line_13 : decode cX7_line 13 = .ok (.iconst 0, 1) := by decide +kernel
theorem dX7_line_14 : decode cX7_line 14 = .ok (.aload_n 0, 1) := by decide +kernel
theorem dX7_line_15 : decode cX7_line 15 = .ok (.getfield 53, 3) := by decide +kernel
theorem dX7_line_18 : decode cX7_line 18 = .ok (.iload_n 1, 1) := by decide +kernel
theorem dX7_line_19 : decode cX7_line 19 = .ok (.iaload, 1) := by decide +kernel
theorem dX7_line_20 : decode cX7_line 20 = .ok (.iconst 1, 1) := by decide +kernel
theorem dX7_line_21 : decode cX7_line 21 = .ok (.isub, 1) := by decide +kernel
theorem dX7_line_22 : decode cX7_line 22 = .ok (.invokestatic 92, 3) := by decide +kernel
theorem dX7_line_25 : decode cX7_line 25 = .ok (.ifCond .eq 17, 3) := by decide +kernel
theorem dX7_line_28 : decode cX7_line 28 = .ok (.aload_n 0, 1) := by decide +kernel
theorem dX7_line_29 : decode cX7_line 29 = .ok (.getfield 59, 3) := by decide +kernel
theorem dX7_line_32 : decode cX7_line 32 = .ok (.bipush 6, 2) := by decide +kernel
theorem dX7_line_34 : decode cX7_line 34 = .ok (.iload_n 1, 1) := by decide +kernel
theorem dX7_line_35 : decode cX7_line 35 = .ok (.imul, 1) := by decide +kernel
theorem dX7_line_36 : decode cX7_line 36 = .ok (.iload_n 2, 1) := by decide +kernel
theorem dX7_line_37 : decode cX7_line 37 = .ok (.iadd, 1) := by decide +kernel
theorem dX7_line_38 : decode cX7_line 38 = .ok (.iaload, 1) := by decide +kernel
theorem dX7_line_39 : decode cX7_line 39 = .ok (.goto 8, 3) := by decide +kernel
theorem dX7_line_42 : decode cX7_line 42 = .ok (.aload_n 0, 1) := by decide +kernel
theorem dX7_line_43 : decode cX7_line 43 = .ok (.iconst 2, 1) := by decide +kernel
theorem dX7_line_44 : decode cX7_line 44 = .ok (.invokevirtual 100, 3) := by decide +kernel
theorem dX7_line_47 : decode cX7_line 47 = .ok (.ireturn, 1) := by decide +kernel
theorem dX7_askedBoth_0 : decode cX7_askedBoth 0 = .ok (.iload_n 1, 1) := by decide +kernel
theorem dX7_askedBoth_1 : decode cX7_askedBoth 1 = .ok (.invokestatic 123, 3) := by decide +kernel
theorem dX7_askedBoth_4 : decode cX7_askedBoth 4 = .ok (.ifCond .eq 10, 3) := by decide +kernel
theorem dX7_askedBoth_7 : decode cX7_askedBoth 7 = .ok (.iload_n 2, 1) := by decide +kernel
theorem dX7_askedBoth_8 : decode cX7_askedBoth 8 = .ok (.invokestatic 191, 3) := by decide +kernel
theorem dX7_askedBoth_11 : decode cX7_askedBoth 11 = .ok (.ifCond .ne 5, 3) := by decide +kernel
theorem dX7_askedBoth_14 : decode cX7_askedBoth 14 = .ok (.iconst (-1), 1) := by decide +kernel
theorem dX7_askedBoth_15 : decode cX7_askedBoth 15 = .ok (.ireturn, 1) := by decide +kernel
theorem dX7_askedBoth_16 : decode cX7_askedBoth 16 = .ok (.aload_n 0, 1) := by decide +kernel
theorem dX7_askedBoth_17 : decode cX7_askedBoth 17 = .ok (.getfield 32, 3) := by decide +kernel
theorem dX7_askedBoth_20 : decode cX7_askedBoth 20 = .ok (.iload_n 1, 1) := by decide +kernel
theorem dX7_askedBoth_21 : decode cX7_askedBoth 21 = .ok (.iaload, 1) := by decide +kernel
theorem dX7_askedBoth_22 : decode cX7_askedBoth 22 = .ok (.ifCond .eq 12, 3) := by decide +kernel
theorem dX7_askedBoth_25 : decode cX7_askedBoth 25 = .ok (.aload_n 0, 1) := by decide +kernel
theorem dX7_askedBoth_26 : decode cX7_askedBoth 26 = .ok (.getfield 53, 3) := by decide +kernel
theorem dX7_askedBoth_29 : decode cX7_askedBoth 29 = .ok (.iload_n 2, 1) := by decide +kernel
theorem dX7_askedBoth_30 : decode cX7_askedBoth 30 = .ok (.iaload, 1) := by decide +kernel
theorem dX7_askedBoth_31 : decode cX7_askedBoth 31 = .ok (.ifCond .ne 11, 3) := by decide +kernel
theorem dX7_askedBoth_34 : decode cX7_askedBoth 34 = .ok (.aload_n 0, 1) := by decide +kernel
theorem dX7_askedBoth_35 : decode cX7_askedBoth 35 = .ok (.iconst 1, 1) := by decide +kernel
theorem dX7_askedBoth_36 : decode cX7_askedBoth 36 = .ok (.invokevirtual 100, 3) := by decide +kernel
theorem dX7_askedBoth_39 : decode cX7_askedBoth 39 = .ok (.goto 4, 3) := by decide +kernel
theorem dX7_askedBoth_42 : decode cX7_askedBoth 42 = .ok (.iconst 0, 1) := by decide +kernel
theorem dX7_askedBoth_43 : decode cX7_askedBoth 43 = .ok (.ireturn, 1) := by decide +kernel
theorem dX7_blocksOf_0 : decode cX7_blocksOf 0 = .ok (.aload_n 0, 1) := by decide +kernel
theorem dX7_blocksOf_1 : decode cX7_blocksOf 1 = .ok (.getfield 32, 3) := by decide +kernel
theorem dX7_blocksOf_4 : decode cX7_blocksOf 4 = .ok (.iload_n 1, 1) := by decide +kernel
theorem dX7_blocksOf_5 : decode cX7_blocksOf 5 = .ok (.iaload, 1) := by decide +kernel
theorem dX7_blocksOf_6 : decode cX7_blocksOf 6 = .ok (.aload_n 0, 1) := by decide +kernel
theorem dX7_blocksOf_7 : decode cX7_blocksOf 7 = .ok (.getfield 56, 3) := by decide +kernel
theorem dX7_blocksOf_10 : decode cX7_blocksOf 10 = .ok (.iload_n 2, 1) := by decide +kernel
theorem dX7_blocksOf_11 : decode cX7_blocksOf 11 = .ok (.iaload, 1) := by decide +kernel
theorem dX7_blocksOf_12 : decode cX7_blocksOf 12 = .ok (.idiv, 1) := by decide +kernel
theorem dX7_blocksOf_13 : decode cX7_blocksOf 13 = .ok (.ireturn, 1) := by decide +kernel
theorem dX7_room_0 : decode cX7_room 0 = .ok (.aload_n 0, 1) := by decide +kernel
theorem dX7_room_1 : decode cX7_room 1 = .ok (.iload_n 1, 1) := by decide +kernel
theorem dX7_room_2 : decode cX7_room 2 = .ok (.iload_n 2, 1) := by decide +kernel
theorem dX7_room_3 : decode cX7_room 3 = .ok (.invokevirtual 197, 3) := by decide +kernel
theorem dX7_room_6 : decode cX7_room 6 = .ok (.istore_n 3, 1) := by decide +kernel
theorem dX7_room_7 : decode cX7_room 7 = .ok (.iload_n 3, 1) := by decide +kernel
theorem dX7_room_8 : decode cX7_room 8 = .ok (.ifCond .ge 7, 3) := by decide +kernel
theorem dX7_room_11 : decode cX7_room 11 = .ok (.iload_n 3, 1) := by decide +kernel
theorem dX7_room_12 : decode cX7_room 12 = .ok (.goto 16, 3) := by decide +kernel
theorem dX7_room_15 : decode cX7_room 15 = .ok (.aload_n 0, 1) := by decide +kernel
theorem dX7_room_16 : decode cX7_room 16 = .ok (.getfield 53, 3) := by decide +kernel
theorem dX7_room_19 : decode cX7_room 19 = .ok (.iload_n 2, 1) := by decide +kernel
theorem dX7_room_20 : decode cX7_room 20 = .ok (.iaload, 1) := by decide +kernel
theorem dX7_room_21 : decode cX7_room 21 = .ok (.aload_n 0, 1) := by decide +kernel
theorem dX7_room_22 : decode cX7_room 22 = .ok (.iload_n 1, 1) := by decide +kernel
theorem dX7_room_23 : decode cX7_room 23 = .ok (.iload_n 2, 1) := by decide +kernel
theorem dX7_room_24 : decode cX7_room 24 = .ok (.invokevirtual 200, 3) := by decide +kernel
theorem dX7_room_27 : decode cX7_room 27 = .ok (.imul, 1) := by decide +kernel
theorem dX7_room_28 : decode cX7_room 28 = .ok (.ireturn, 1) := by decide +kernel
theorem dX7_sums_0 : decode cX7_sums 0 = .ok (.iconst 0, 1) := by decide +kernel
theorem dX7_sums_1 : decode cX7_sums 1 = .ok (.istore_n 3, 1) := by decide +kernel
theorem dX7_sums_2 : decode cX7_sums 2 = .ok (.iconst 0, 1) := by decide +kernel
theorem dX7_sums_3 : decode cX7_sums 3 = .ok (.istore 4, 2) := by decide +kernel
theorem dX7_sums_5 : decode cX7_sums 5 = .ok (.iload 4, 2) := by decide +kernel
theorem dX7_sums_7 : decode cX7_sums 7 = .ok (.aload_n 0, 1) := by decide +kernel
theorem dX7_sums_8 : decode cX7_sums 8 = .ok (.getfield 53, 3) := by decide +kernel
theorem dX7_sums_11 : decode cX7_sums 11 = .ok (.iload_n 1, 1) := by decide +kernel
theorem dX7_sums_12 : decode cX7_sums 12 = .ok (.iaload, 1) := by decide +kernel
theorem dX7_sums_13 : decode cX7_sums 13 = .ok (.if_icmp .ge 34, 3) := by decide +kernel
theorem dX7_sums_16 : decode cX7_sums 16 = .ok (.iload_n 3, 1) := by decide +kernel
theorem dX7_sums_17 : decode cX7_sums 17 = .ok (.iload_n 2, 1) := by decide +kernel
theorem dX7_sums_18 : decode cX7_sums 18 = .ok (.aload_n 0, 1) := by decide +kernel
theorem dX7_sums_19 : decode cX7_sums 19 = .ok (.getfield 59, 3) := by decide +kernel
theorem dX7_sums_22 : decode cX7_sums 22 = .ok (.bipush 6, 2) := by decide +kernel
theorem dX7_sums_24 : decode cX7_sums 24 = .ok (.iload_n 1, 1) := by decide +kernel
theorem dX7_sums_25 : decode cX7_sums 25 = .ok (.imul, 1) := by decide +kernel
theorem dX7_sums_26 : decode cX7_sums 26 = .ok (.iload 4, 2) := by decide +kernel
theorem dX7_sums_28 : decode cX7_sums 28 = .ok (.iadd, 1) := by decide +kernel
theorem dX7_sums_29 : decode cX7_sums 29 = .ok (.iaload, 1) := by decide +kernel
theorem dX7_sums_30 : decode cX7_sums 30 = .ok (.iand, 1) := by decide +kernel
theorem dX7_sums_31 : decode cX7_sums 31 = .ok (.invokestatic 203, 3) := by decide +kernel
theorem dX7_sums_34 : decode cX7_sums 34 = .ok (.iconst 1, 1) := by decide +kernel
theorem dX7_sums_35 : decode cX7_sums 35 = .ok (.iand, 1) := by decide +kernel
theorem dX7_sums_36 : decode cX7_sums 36 = .ok (.iload 4, 2) := by decide +kernel
theorem dX7_sums_38 : decode cX7_sums 38 = .ok (.ishl, 1) := by decide +kernel
theorem dX7_sums_39 : decode cX7_sums 39 = .ok (.ior, 1) := by decide +kernel
theorem dX7_sums_40 : decode cX7_sums 40 = .ok (.istore_n 3, 1) := by decide +kernel
theorem dX7_sums_41 : decode cX7_sums 41 = .ok (.iinc 4 1, 3) := by decide +kernel
theorem dX7_sums_44 : decode cX7_sums 44 = .ok (.goto (-39), 3) := by decide +kernel
theorem dX7_sums_47 : decode cX7_sums 47 = .ok (.iload_n 3, 1) := by decide +kernel
theorem dX7_sums_48 : decode cX7_sums 48 = .ok (.ireturn, 1) := by decide +kernel
theorem dX7_blockSet_0 : decode cX7_blockSet 0 = .ok (.iconst 0, 1) := by decide +kernel
theorem dX7_blockSet_1 : decode cX7_blockSet 1 = .ok (.istore 4, 2) := by decide +kernel
theorem dX7_blockSet_3 : decode cX7_blockSet 3 = .ok (.iconst 0, 1) := by decide +kernel
theorem dX7_blockSet_4 : decode cX7_blockSet 4 = .ok (.istore 5, 2) := by decide +kernel
theorem dX7_blockSet_6 : decode cX7_blockSet 6 = .ok (.iload 5, 2) := by decide +kernel
theorem dX7_blockSet_8 : decode cX7_blockSet 8 = .ok (.aload_n 0, 1) := by decide +kernel
theorem dX7_blockSet_9 : decode cX7_blockSet 9 = .ok (.getfield 56, 3) := by decide +kernel
theorem dX7_blockSet_12 : decode cX7_blockSet 12 = .ok (.iload_n 2, 1) := by decide +kernel
theorem dX7_blockSet_13 : decode cX7_blockSet 13 = .ok (.iaload, 1) := by decide +kernel
theorem dX7_blockSet_14 : decode cX7_blockSet 14 = .ok (.if_icmp .ge 38, 3) := by decide +kernel
theorem dX7_blockSet_17 : decode cX7_blockSet 17 = .ok (.iload 4, 2) := by decide +kernel
theorem dX7_blockSet_19 : decode cX7_blockSet 19 = .ok (.aload_n 0, 1) := by decide +kernel
theorem dX7_blockSet_20 : decode cX7_blockSet 20 = .ok (.iload_n 1, 1) := by decide +kernel
theorem dX7_blockSet_21 : decode cX7_blockSet 21 = .ok (.aload_n 0, 1) := by decide +kernel
theorem dX7_blockSet_22 : decode cX7_blockSet 22 = .ok (.getfield 50, 3) := by decide +kernel
theorem dX7_blockSet_25 : decode cX7_blockSet 25 = .ok (.iload_n 3, 1) := by decide +kernel
theorem dX7_blockSet_26 : decode cX7_blockSet 26 = .ok (.aload_n 0, 1) := by decide +kernel
theorem dX7_blockSet_27 : decode cX7_blockSet 27 = .ok (.getfield 56, 3) := by decide +kernel
theorem dX7_blockSet_30 : decode cX7_blockSet 30 = .ok (.iload_n 2, 1) := by decide +kernel
theorem dX7_blockSet_31 : decode cX7_blockSet 31 = .ok (.iaload, 1) := by decide +kernel
theorem dX7_blockSet_32 : decode cX7_blockSet 32 = .ok (.imul, 1) := by decide +kernel
theorem dX7_blockSet_33 : decode cX7_blockSet 33 = .ok (.iload 5, 2) := by decide +kernel
theorem dX7_blockSet_35 : decode cX7_blockSet 35 = .ok (.iadd, 1) := by decide +kernel
theorem dX7_blockSet_36 : decode cX7_blockSet 36 = .ok (.iaload, 1) := by decide +kernel
theorem dX7_blockSet_37 : decode cX7_blockSet 37 = .ok (.invokevirtual 153, 3) := by decide +kernel
theorem dX7_blockSet_40 : decode cX7_blockSet 40 = .ok (.iload 5, 2) := by decide +kernel
theorem dX7_blockSet_42 : decode cX7_blockSet 42 = .ok (.ishl, 1) := by decide +kernel
theorem dX7_blockSet_43 : decode cX7_blockSet 43 = .ok (.ior, 1) := by decide +kernel
theorem dX7_blockSet_44 : decode cX7_blockSet 44 = .ok (.istore 4, 2) := by decide +kernel
theorem dX7_blockSet_46 : decode cX7_blockSet 46 = .ok (.iinc 5 1, 3) := by decide +kernel
theorem dX7_blockSet_49 : decode cX7_blockSet 49 = .ok (.goto (-43), 3) := by decide +kernel
theorem dX7_blockSet_52 : decode cX7_blockSet 52 = .ok (.iload 4, 2) := by decide +kernel
theorem dX7_blockSet_54 : decode cX7_blockSet 54 = .ok (.ireturn, 1) := by decide +kernel
theorem dX7_hides_0 : decode cX7_hides 0 = .ok (.aload_n 0, 1) := by decide +kernel
theorem dX7_hides_1 : decode cX7_hides 1 = .ok (.getfield 56, 3) := by decide +kernel
theorem dX7_hides_4 : decode cX7_hides 4 = .ok (.iload_n 2, 1) := by decide +kernel
theorem dX7_hides_5 : decode cX7_hides 5 = .ok (.iaload, 1) := by decide +kernel
theorem dX7_hides_6 : decode cX7_hides 6 = .ok (.istore 5, 2) := by decide +kernel
theorem dX7_hides_8 : decode cX7_hides 8 = .ok (.iconst 0, 1) := by decide +kernel
theorem dX7_hides_9 : decode cX7_hides 9 = .ok (.istore 6, 2) := by decide +kernel
theorem dX7_hides_11 : decode cX7_hides 11 = .ok (.iconst 0, 1) := by decide +kernel
theorem dX7_hides_12 : decode cX7_hides 12 = .ok (.istore 7, 2) := by decide +kernel
theorem dX7_hides_14 : decode cX7_hides 14 = .ok (.iload 7, 2) := by decide +kernel
theorem dX7_hides_16 : decode cX7_hides 16 = .ok (.iload 5, 2) := by decide +kernel
theorem dX7_hides_18 : decode cX7_hides 18 = .ok (.if_icmp .ge 66, 3) := by decide +kernel
theorem dX7_hides_21 : decode cX7_hides 21 = .ok (.aload_n 0, 1) := by decide +kernel
theorem dX7_hides_22 : decode cX7_hides 22 = .ok (.getfield 23, 3) := by decide +kernel
theorem dX7_hides_25 : decode cX7_hides 25 = .ok (.iload 7, 2) := by decide +kernel
theorem dX7_hides_27 : decode cX7_hides 27 = .ok (.aload_n 0, 1) := by decide +kernel
theorem dX7_hides_28 : decode cX7_hides 28 = .ok (.iload_n 1, 1) := by decide +kernel
theorem dX7_hides_29 : decode cX7_hides 29 = .ok (.aload_n 0, 1) := by decide +kernel
theorem dX7_hides_30 : decode cX7_hides 30 = .ok (.getfield 50, 3) := by decide +kernel
theorem dX7_hides_33 : decode cX7_hides 33 = .ok (.iload_n 3, 1) := by decide +kernel
theorem dX7_hides_34 : decode cX7_hides 34 = .ok (.iload 5, 2) := by decide +kernel
theorem dX7_hides_36 : decode cX7_hides 36 = .ok (.imul, 1) := by decide +kernel
theorem dX7_hides_37 : decode cX7_hides 37 = .ok (.iload 7, 2) := by decide +kernel
theorem dX7_hides_39 : decode cX7_hides 39 = .ok (.iadd, 1) := by decide +kernel
theorem dX7_hides_40 : decode cX7_hides 40 = .ok (.iaload, 1) := by decide +kernel
theorem dX7_hides_41 : decode cX7_hides 41 = .ok (.invokevirtual 159, 3) := by decide +kernel
theorem dX7_hides_44 : decode cX7_hides 44 = .ok (.iastore, 1) := by decide +kernel
theorem dX7_hides_45 : decode cX7_hides 45 = .ok (.iload 6, 2) := by decide +kernel
theorem dX7_hides_47 : decode cX7_hides 47 = .ok (.aload_n 0, 1) := by decide +kernel
theorem dX7_hides_48 : decode cX7_hides 48 = .ok (.iload_n 1, 1) := by decide +kernel
theorem dX7_hides_49 : decode cX7_hides 49 = .ok (.aload_n 0, 1) := by decide +kernel
theorem dX7_hides_50 : decode cX7_hides 50 = .ok (.getfield 50, 3) := by decide +kernel
theorem dX7_hides_53 : decode cX7_hides 53 = .ok (.iload_n 3, 1) := by decide +kernel
theorem dX7_hides_54 : decode cX7_hides 54 = .ok (.iload 5, 2) := by decide +kernel
theorem dX7_hides_56 : decode cX7_hides 56 = .ok (.imul, 1) := by decide +kernel
theorem dX7_hides_57 : decode cX7_hides 57 = .ok (.iload 7, 2) := by decide +kernel
theorem dX7_hides_59 : decode cX7_hides 59 = .ok (.iadd, 1) := by decide +kernel
theorem dX7_hides_60 : decode cX7_hides 60 = .ok (.iaload, 1) := by decide +kernel
theorem dX7_hides_61 : decode cX7_hides 61 = .ok (.invokevirtual 141, 3) := by decide +kernel
theorem dX7_hides_64 : decode cX7_hides 64 = .ok (.ifCond .eq 10, 3) := by decide +kernel
theorem dX7_hides_67 : decode cX7_hides 67 = .ok (.iconst 1, 1) := by decide +kernel
theorem dX7_hides_68 : decode cX7_hides 68 = .ok (.iload 7, 2) := by decide +kernel
theorem dX7_hides_70 : decode cX7_hides 70 = .ok (.ishl, 1) := by decide +kernel
theorem dX7_hides_71 : decode cX7_hides 71 = .ok (.goto 4, 3) := by decide +kernel
theorem dX7_hides_74 : decode cX7_hides 74 = .ok (.iconst 0, 1) := by decide +kernel
theorem dX7_hides_75 : decode cX7_hides 75 = .ok (.ior, 1) := by decide +kernel
theorem dX7_hides_76 : decode cX7_hides 76 = .ok (.istore 6, 2) := by decide +kernel
theorem dX7_hides_78 : decode cX7_hides 78 = .ok (.iinc 7 1, 3) := by decide +kernel
theorem dX7_hides_81 : decode cX7_hides 81 = .ok (.goto (-67), 3) := by decide +kernel
theorem dX7_hides_84 : decode cX7_hides 84 = .ok (.bipush (-9), 2) := by decide +kernel
theorem dX7_hides_86 : decode cX7_hides 86 = .ok (.istore 7, 2) := by decide +kernel
theorem dX7_hides_88 : decode cX7_hides 88 = .ok (.iconst 0, 1) := by decide +kernel
theorem dX7_hides_89 : decode cX7_hides 89 = .ok (.istore 8, 2) := by decide +kernel
theorem dX7_hides_91 : decode cX7_hides 91 = .ok (.iconst 0, 1) := by decide +kernel
theorem dX7_hides_92 : decode cX7_hides 92 = .ok (.istore 9, 2) := by decide +kernel
theorem dX7_hides_94 : decode cX7_hides 94 = .ok (.iload 9, 2) := by decide +kernel
theorem dX7_hides_96 : decode cX7_hides 96 = .ok (.iconst 1, 1) := by decide +kernel
theorem dX7_hides_97 : decode cX7_hides 97 = .ok (.iload 5, 2) := by decide +kernel
theorem dX7_hides_99 : decode cX7_hides 99 = .ok (.ishl, 1) := by decide +kernel
theorem dX7_hides_100 : decode cX7_hides 100 = .ok (.if_icmp .ge 94, 3) := by decide +kernel
theorem dX7_hides_103 : decode cX7_hides 103 = .ok (.iload 9, 2) := by decide +kernel
theorem dX7_hides_105 : decode cX7_hides 105 = .ok (.iload 6, 2) := by decide +kernel
theorem dX7_hides_107 : decode cX7_hides 107 = .ok (.iand, 1) := by decide +kernel
theorem dX7_hides_108 : decode cX7_hides 108 = .ok (.ifCond .ne 80, 3) := by decide +kernel
theorem dX7_hides_111 : decode cX7_hides 111 = .ok (.aload_n 0, 1) := by decide +kernel
theorem dX7_hides_112 : decode cX7_hides 112 = .ok (.iload_n 2, 1) := by decide +kernel
theorem dX7_hides_113 : decode cX7_hides 113 = .ok (.iload 9, 2) := by decide +kernel
theorem dX7_hides_115 : decode cX7_hides 115 = .ok (.invokevirtual 206, 3) := by decide +kernel
theorem dX7_hides_118 : decode cX7_hides 118 = .ok (.iload 4, 2) := by decide +kernel
theorem dX7_hides_120 : decode cX7_hides 120 = .ok (.if_icmp .ne 68, 3) := by decide +kernel
theorem dX7_hides_123 : decode cX7_hides 123 = .ok (.iconst 0, 1) := by decide +kernel
theorem dX7_hides_124 : decode cX7_hides 124 = .ok (.istore 10, 2) := by decide +kernel
theorem dX7_hides_126 : decode cX7_hides 126 = .ok (.iconst 0, 1) := by decide +kernel
theorem dX7_hides_127 : decode cX7_hides 127 = .ok (.istore 11, 2) := by decide +kernel
theorem dX7_hides_129 : decode cX7_hides 129 = .ok (.iload 11, 2) := by decide +kernel
theorem dX7_hides_131 : decode cX7_hides 131 = .ok (.iload 5, 2) := by decide +kernel
theorem dX7_hides_133 : decode cX7_hides 133 = .ok (.if_icmp .ge 35, 3) := by decide +kernel
theorem dX7_hides_136 : decode cX7_hides 136 = .ok (.iload 10, 2) := by decide +kernel
theorem dX7_hides_138 : decode cX7_hides 138 = .ok (.iload 9, 2) := by decide +kernel
theorem dX7_hides_140 : decode cX7_hides 140 = .ok (.iload 11, 2) := by decide +kernel
theorem dX7_hides_142 : decode cX7_hides 142 = .ok (.invokestatic 134, 3) := by decide +kernel
theorem dX7_hides_145 : decode cX7_hides 145 = .ok (.ifCond .eq 13, 3) := by decide +kernel
theorem dX7_hides_148 : decode cX7_hides 148 = .ok (.aload_n 0, 1) := by decide +kernel
theorem dX7_hides_149 : decode cX7_hides 149 = .ok (.getfield 23, 3) := by decide +kernel
theorem dX7_hides_152 : decode cX7_hides 152 = .ok (.iload 11, 2) := by decide +kernel
theorem dX7_hides_154 : decode cX7_hides 154 = .ok (.iaload, 1) := by decide +kernel
theorem dX7_hides_155 : decode cX7_hides 155 = .ok (.goto 4, 3) := by decide +kernel
theorem dX7_hides_158 : decode cX7_hides 158 = .ok (.iconst 0, 1) := by decide +kernel
theorem dX7_hides_159 : decode cX7_hides 159 = .ok (.iadd, 1) := by decide +kernel
theorem dX7_hides_160 : decode cX7_hides 160 = .ok (.istore 10, 2) := by decide +kernel
theorem dX7_hides_162 : decode cX7_hides 162 = .ok (.iinc 11 1, 3) := by decide +kernel
theorem dX7_hides_165 : decode cX7_hides 165 = .ok (.goto (-36), 3) := by decide +kernel
theorem dX7_hides_168 : decode cX7_hides 168 = .ok (.iload 7, 2) := by decide +kernel
theorem dX7_hides_170 : decode cX7_hides 170 = .ok (.ifCond .lt 10, 3) := by decide +kernel
theorem dX7_hides_173 : decode cX7_hides 173 = .ok (.iload 10, 2) := by decide +kernel
theorem dX7_hides_175 : decode cX7_hides 175 = .ok (.iload 8, 2) := by decide +kernel
theorem dX7_hides_177 : decode cX7_hides 177 = .ok (.if_icmp .ge 11, 3) := by decide +kernel
theorem dX7_hides_180 : decode cX7_hides 180 = .ok (.iload 9, 2) := by decide +kernel
theorem dX7_hides_182 : decode cX7_hides 182 = .ok (.istore 7, 2) := by decide +kernel
theorem dX7_hides_184 : decode cX7_hides 184 = .ok (.iload 10, 2) := by decide +kernel
theorem dX7_hides_186 : decode cX7_hides 186 = .ok (.istore 8, 2) := by decide +kernel
theorem dX7_hides_188 : decode cX7_hides 188 = .ok (.iinc 9 1, 3) := by decide +kernel
theorem dX7_hides_191 : decode cX7_hides 191 = .ok (.goto (-97), 3) := by decide +kernel
theorem dX7_hides_194 : decode cX7_hides 194 = .ok (.iconst 0, 1) := by decide +kernel
theorem dX7_hides_195 : decode cX7_hides 195 = .ok (.istore 9, 2) := by decide +kernel
theorem dX7_hides_197 : decode cX7_hides 197 = .ok (.iload 9, 2) := by decide +kernel
theorem dX7_hides_199 : decode cX7_hides 199 = .ok (.iload 5, 2) := by decide +kernel
theorem dX7_hides_201 : decode cX7_hides 201 = .ok (.if_icmp .ge 62, 3) := by decide +kernel
theorem dX7_hides_204 : decode cX7_hides 204 = .ok (.iload 7, 2) := by decide +kernel
theorem dX7_hides_206 : decode cX7_hides 206 = .ok (.ifCond .lt 57, 3) := by decide +kernel
theorem dX7_hides_209 : decode cX7_hides 209 = .ok (.aload_n 0, 1) := by decide +kernel
theorem dX7_hides_210 : decode cX7_hides 210 = .ok (.getfield 65, 3) := by decide +kernel
theorem dX7_hides_213 : decode cX7_hides 213 = .ok (.aload_n 0, 1) := by decide +kernel
theorem dX7_hides_214 : decode cX7_hides 214 = .ok (.getfield 50, 3) := by decide +kernel
theorem dX7_hides_217 : decode cX7_hides 217 = .ok (.iload_n 3, 1) := by decide +kernel
theorem dX7_hides_218 : decode cX7_hides 218 = .ok (.iload 5, 2) := by decide +kernel
theorem dX7_hides_220 : decode cX7_hides 220 = .ok (.imul, 1) := by decide +kernel
theorem dX7_hides_221 : decode cX7_hides 221 = .ok (.iload 9, 2) := by decide +kernel
theorem dX7_hides_223 : decode cX7_hides 223 = .ok (.iadd, 1) := by decide +kernel
theorem dX7_hides_224 : decode cX7_hides 224 = .ok (.iaload, 1) := by decide +kernel
theorem dX7_hides_225 : decode cX7_hides 225 = .ok (.iload 7, 2) := by decide +kernel
theorem dX7_hides_227 : decode cX7_hides 227 = .ok (.iload 9, 2) := by decide +kernel
theorem dX7_hides_229 : decode cX7_hides 229 = .ok (.invokestatic 134, 3) := by decide +kernel
theorem dX7_hides_232 : decode cX7_hides 232 = .ok (.bastore, 1) := by decide +kernel
theorem dX7_hides_233 : decode cX7_hides 233 = .ok (.aload_n 0, 1) := by decide +kernel
theorem dX7_hides_234 : decode cX7_hides 234 = .ok (.dup, 1) := by decide +kernel
theorem dX7_hides_235 : decode cX7_hides 235 = .ok (.getfield 209, 3) := by decide +kernel
theorem dX7_hides_238 : decode cX7_hides 238 = .ok (.iload 7, 2) := by decide +kernel
theorem dX7_hides_240 : decode cX7_hides 240 = .ok (.iload 9, 2) := by decide +kernel
theorem dX7_hides_242 : decode cX7_hides 242 = .ok (.invokestatic 134, 3) := by decide +kernel
theorem dX7_hides_245 : decode cX7_hides 245 = .ok (.ifCond .eq 7, 3) := by decide +kernel
theorem dX7_hides_248 : decode cX7_hides 248 = .ok (.iconst 1, 1) := by decide +kernel
theorem dX7_hides_249 : decode cX7_hides 249 = .ok (.goto 4, 3) := by decide +kernel
theorem dX7_hides_252 : decode cX7_hides 252 = .ok (.iconst 0, 1) := by decide +kernel
theorem dX7_hides_253 : decode cX7_hides 253 = .ok (.iadd, 1) := by decide +kernel
theorem dX7_hides_254 : decode cX7_hides 254 = .ok (.putfield 209, 3) := by decide +kernel
theorem dX7_hides_257 : decode cX7_hides 257 = .ok (.iinc 9 1, 3) := by decide +kernel
theorem dX7_hides_260 : decode cX7_hides 260 = .ok (.goto (-63), 3) := by decide +kernel
theorem dX7_hides_263 : decode cX7_hides 263 = .ok (.aload_n 0, 1) := by decide +kernel
theorem dX7_hides_264 : decode cX7_hides 264 = .ok (.dup, 1) := by decide +kernel
theorem dX7_hides_265 : decode cX7_hides 265 = .ok (.getfield 212, 3) := by decide +kernel
theorem dX7_hides_268 : decode cX7_hides 268 = .ok (.iload 8, 2) := by decide +kernel
theorem dX7_hides_270 : decode cX7_hides 270 = .ok (.iadd, 1) := by decide +kernel
theorem dX7_hides_271 : decode cX7_hides 271 = .ok (.putfield 212, 3) := by decide +kernel
theorem dX7_hides_274 : decode cX7_hides 274 = .ok (.iload 7, 2) := by decide +kernel
theorem dX7_hides_276 : decode cX7_hides 276 = .ok (.ifCond .lt 7, 3) := by decide +kernel
theorem dX7_hides_279 : decode cX7_hides 279 = .ok (.iconst 1, 1) := by decide +kernel
theorem dX7_hides_280 : decode cX7_hides 280 = .ok (.goto 4, 3) := by decide +kernel
theorem dX7_hides_283 : decode cX7_hides 283 = .ok (.iconst 0, 1) := by decide +kernel
theorem dX7_hides_284 : decode cX7_hides 284 = .ok (.ireturn, 1) := by decide +kernel
theorem dX7_works_0 : decode cX7_works 0 = .ok (.iload_n 1, 1) := by decide +kernel
theorem dX7_works_1 : decode cX7_works 1 = .ok (.invokestatic 123, 3) := by decide +kernel
theorem dX7_works_4 : decode cX7_works 4 = .ok (.ifCond .eq 18, 3) := by decide +kernel
theorem dX7_works_7 : decode cX7_works 7 = .ok (.iload_n 3, 1) := by decide +kernel
theorem dX7_works_8 : decode cX7_works 8 = .ok (.invokestatic 191, 3) := by decide +kernel
theorem dX7_works_11 : decode cX7_works 11 = .ok (.ifCond .eq 11, 3) := by decide +kernel
theorem dX7_works_14 : decode cX7_works 14 = .ok (.iload 4, 2) := by decide +kernel
theorem dX7_works_16 : decode cX7_works 16 = .ok (.invokestatic 96, 3) := by decide +kernel
theorem dX7_works_19 : decode cX7_works 19 = .ok (.ifCond .ne 5, 3) := by decide +kernel
theorem dX7_works_22 : decode cX7_works 22 = .ok (.iconst (-1), 1) := by decide +kernel
theorem dX7_works_23 : decode cX7_works 23 = .ok (.ireturn, 1) := by decide +kernel
theorem dX7_works_24 : decode cX7_works 24 = .ok (.aload_n 0, 1) := by decide +kernel
theorem dX7_works_25 : decode cX7_works 25 = .ok (.getfield 32, 3) := by decide +kernel
theorem dX7_works_28 : decode cX7_works 28 = .ok (.iload_n 1, 1) := by decide +kernel
theorem dX7_works_29 : decode cX7_works 29 = .ok (.iaload, 1) := by decide +kernel
theorem dX7_works_30 : decode cX7_works 30 = .ok (.ifCond .eq 22, 3) := by decide +kernel
theorem dX7_works_33 : decode cX7_works 33 = .ok (.aload_n 0, 1) := by decide +kernel
theorem dX7_works_34 : decode cX7_works 34 = .ok (.getfield 53, 3) := by decide +kernel
theorem dX7_works_37 : decode cX7_works 37 = .ok (.iload_n 3, 1) := by decide +kernel
theorem dX7_works_38 : decode cX7_works 38 = .ok (.iaload, 1) := by decide +kernel
theorem dX7_works_39 : decode cX7_works 39 = .ok (.ifCond .eq 13, 3) := by decide +kernel
theorem dX7_works_42 : decode cX7_works 42 = .ok (.aload_n 0, 1) := by decide +kernel
theorem dX7_works_43 : decode cX7_works 43 = .ok (.getfield 17, 3) := by decide +kernel
theorem dX7_works_46 : decode cX7_works 46 = .ok (.iload 4, 2) := by decide +kernel
theorem dX7_works_48 : decode cX7_works 48 = .ok (.iaload, 1) := by decide +kernel
theorem dX7_works_49 : decode cX7_works 49 = .ok (.ifCond .ge 9, 3) := by decide +kernel
theorem dX7_works_52 : decode cX7_works 52 = .ok (.aload_n 0, 1) := by decide +kernel
theorem dX7_works_53 : decode cX7_works 53 = .ok (.iconst 1, 1) := by decide +kernel
theorem dX7_works_54 : decode cX7_works 54 = .ok (.invokevirtual 100, 3) := by decide +kernel
theorem dX7_works_57 : decode cX7_works 57 = .ok (.ireturn, 1) := by decide +kernel
theorem dX7_works_58 : decode cX7_works 58 = .ok (.aload_n 0, 1) := by decide +kernel
theorem dX7_works_59 : decode cX7_works 59 = .ok (.getfield 53, 3) := by decide +kernel
theorem dX7_works_62 : decode cX7_works 62 = .ok (.iload_n 3, 1) := by decide +kernel
theorem dX7_works_63 : decode cX7_works 63 = .ok (.iaload, 1) := by decide +kernel
theorem dX7_works_64 : decode cX7_works 64 = .ok (.istore 5, 2) := by decide +kernel
theorem dX7_works_66 : decode cX7_works 66 = .ok (.aload_n 0, 1) := by decide +kernel
theorem dX7_works_67 : decode cX7_works 67 = .ok (.getfield 17, 3) := by decide +kernel
theorem dX7_works_70 : decode cX7_works 70 = .ok (.iload 4, 2) := by decide +kernel
theorem dX7_works_72 : decode cX7_works 72 = .ok (.iaload, 1) := by decide +kernel
theorem dX7_works_73 : decode cX7_works 73 = .ok (.iload 5, 2) := by decide +kernel
theorem dX7_works_75 : decode cX7_works 75 = .ok (.irem, 1) := by decide +kernel
theorem dX7_works_76 : decode cX7_works 76 = .ok (.ifCond .eq 9, 3) := by decide +kernel
theorem dX7_works_79 : decode cX7_works 79 = .ok (.aload_n 0, 1) := by decide +kernel
theorem dX7_works_80 : decode cX7_works 80 = .ok (.iconst 5, 1) := by decide +kernel
theorem dX7_works_81 : decode cX7_works 81 = .ok (.invokevirtual 100, 3) := by decide +kernel
theorem dX7_works_84 : decode cX7_works 84 = .ok (.ireturn, 1) := by decide +kernel
theorem dX7_works_85 : decode cX7_works 85 = .ok (.iconst 1, 1) := by decide +kernel
theorem dX7_works_86 : decode cX7_works 86 = .ok (.istore 6, 2) := by decide +kernel
theorem dX7_works_88 : decode cX7_works 88 = .ok (.iconst 0, 1) := by decide +kernel
theorem dX7_works_89 : decode cX7_works 89 = .ok (.istore 7, 2) := by decide +kernel
theorem dX7_works_91 : decode cX7_works 91 = .ok (.iload 7, 2) := by decide +kernel
theorem dX7_works_93 : decode cX7_works 93 = .ok (.aload_n 0, 1) := by decide +kernel
theorem dX7_works_94 : decode cX7_works 94 = .ok (.getfield 17, 3) := by decide +kernel
theorem dX7_works_97 : decode cX7_works 97 = .ok (.iload 4, 2) := by decide +kernel
theorem dX7_works_99 : decode cX7_works 99 = .ok (.iaload, 1) := by decide +kernel
theorem dX7_works_100 : decode cX7_works 100 = .ok (.if_icmp .ge 37, 3) := by decide +kernel
theorem dX7_works_103 : decode cX7_works 103 = .ok (.iload 6, 2) := by decide +kernel
theorem dX7_works_105 : decode cX7_works 105 = .ok (.ifCond .eq 23, 3) := by decide +kernel
theorem dX7_works_108 : decode cX7_works 108 = .ok (.aload_n 0, 1) := by decide +kernel
theorem dX7_works_109 : decode cX7_works 109 = .ok (.iload 4, 2) := by decide +kernel
theorem dX7_works_111 : decode cX7_works 111 = .ok (.iload 7, 2) := by decide +kernel
theorem dX7_works_113 : decode cX7_works 113 = .ok (.invokevirtual 110, 3) := by decide +kernel
theorem dX7_works_116 : decode cX7_works 116 = .ok (.iconst 0, 1) := by decide +kernel
theorem dX7_works_117 : decode cX7_works 117 = .ok (.iconst 1, 1) := by decide +kernel
theorem dX7_works_118 : decode cX7_works 118 = .ok (.invokestatic 92, 3) := by decide +kernel
theorem dX7_works_121 : decode cX7_works 121 = .ok (.ifCond .eq 7, 3) := by decide +kernel
theorem dX7_works_124 : decode cX7_works 124 = .ok (.iconst 1, 1) := by decide +kernel
theorem dX7_works_125 : decode cX7_works 125 = .ok (.goto 4, 3) := by decide +kernel
theorem dX7_works_128 : decode cX7_works 128 = .ok (.iconst 0, 1) := by decide +kernel
theorem dX7_works_129 : decode cX7_works 129 = .ok (.istore 6, 2) := by decide +kernel
theorem dX7_works_131 : decode cX7_works 131 = .ok (.iinc 7 1, 3) := by decide +kernel
theorem dX7_works_134 : decode cX7_works 134 = .ok (.goto (-43), 3) := by decide +kernel
theorem dX7_works_137 : decode cX7_works 137 = .ok (.iload 6, 2) := by decide +kernel
theorem dX7_works_139 : decode cX7_works 139 = .ok (.ifCond .ne 9, 3) := by decide +kernel
theorem dX7_works_142 : decode cX7_works 142 = .ok (.aload_n 0, 1) := by decide +kernel
theorem dX7_works_143 : decode cX7_works 143 = .ok (.iconst 3, 1) := by decide +kernel
theorem dX7_works_144 : decode cX7_works 144 = .ok (.invokevirtual 100, 3) := by decide +kernel
theorem dX7_works_147 : decode cX7_works 147 = .ok (.ireturn, 1) := by decide +kernel
theorem dX7_works_148 : decode cX7_works 148 = .ok (.aload_n 0, 1) := by decide +kernel
theorem dX7_works_149 : decode cX7_works 149 = .ok (.getfield 17, 3) := by decide +kernel
theorem dX7_works_152 : decode cX7_works 152 = .ok (.iload 4, 2) := by decide +kernel
theorem dX7_works_154 : decode cX7_works 154 = .ok (.iaload, 1) := by decide +kernel
theorem dX7_works_155 : decode cX7_works 155 = .ok (.iload 5, 2) := by decide +kernel
theorem dX7_works_157 : decode cX7_works 157 = .ok (.aload_n 0, 1) := by decide +kernel
theorem dX7_works_158 : decode cX7_works 158 = .ok (.iload_n 1, 1) := by decide +kernel
theorem dX7_works_159 : decode cX7_works 159 = .ok (.iload_n 3, 1) := by decide +kernel
theorem dX7_works_160 : decode cX7_works 160 = .ok (.invokevirtual 200, 3) := by decide +kernel
theorem dX7_works_163 : decode cX7_works 163 = .ok (.imul, 1) := by decide +kernel
theorem dX7_works_164 : decode cX7_works 164 = .ok (.if_icmp .le 9, 3) := by decide +kernel
theorem dX7_works_167 : decode cX7_works 167 = .ok (.aload_n 0, 1) := by decide +kernel
theorem dX7_works_168 : decode cX7_works 168 = .ok (.iconst 2, 1) := by decide +kernel
theorem dX7_works_169 : decode cX7_works 169 = .ok (.invokevirtual 100, 3) := by decide +kernel
theorem dX7_works_172 : decode cX7_works 172 = .ok (.ireturn, 1) := by decide +kernel
theorem dX7_works_173 : decode cX7_works 173 = .ok (.aload_n 0, 1) := by decide +kernel
theorem dX7_works_174 : decode cX7_works 174 = .ok (.aload_n 0, 1) := by decide +kernel
theorem dX7_works_175 : decode cX7_works 175 = .ok (.getfield 32, 3) := by decide +kernel
theorem dX7_works_178 : decode cX7_works 178 = .ok (.iload_n 1, 1) := by decide +kernel
theorem dX7_works_179 : decode cX7_works 179 = .ok (.iaload, 1) := by decide +kernel
theorem dX7_works_180 : decode cX7_works 180 = .ok (.iload_n 2, 1) := by decide +kernel
theorem dX7_works_181 : decode cX7_works 181 = .ok (.invokevirtual 172, 3) := by decide +kernel
theorem dX7_works_184 : decode cX7_works 184 = .ok (.aload_n 0, 1) := by decide +kernel
theorem dX7_works_185 : decode cX7_works 185 = .ok (.iconst 0, 1) := by decide +kernel
theorem dX7_works_186 : decode cX7_works 186 = .ok (.putfield 209, 3) := by decide +kernel
theorem dX7_works_189 : decode cX7_works 189 = .ok (.aload_n 0, 1) := by decide +kernel
theorem dX7_works_190 : decode cX7_works 190 = .ok (.iconst 0, 1) := by decide +kernel
theorem dX7_works_191 : decode cX7_works 191 = .ok (.putfield 212, 3) := by decide +kernel
theorem dX7_works_194 : decode cX7_works 194 = .ok (.iconst 0, 1) := by decide +kernel
theorem dX7_works_195 : decode cX7_works 195 = .ok (.istore 7, 2) := by decide +kernel
theorem dX7_works_197 : decode cX7_works 197 = .ok (.iload 7, 2) := by decide +kernel
theorem dX7_works_199 : decode cX7_works 199 = .ok (.bipush 40, 2) := by decide +kernel
theorem dX7_works_201 : decode cX7_works 201 = .ok (.if_icmp .ge 17, 3) := by decide +kernel
theorem dX7_works_204 : decode cX7_works 204 = .ok (.aload_n 0, 1) := by decide +kernel
theorem dX7_works_205 : decode cX7_works 205 = .ok (.getfield 65, 3) := by decide +kernel
theorem dX7_works_208 : decode cX7_works 208 = .ok (.iload 7, 2) := by decide +kernel
theorem dX7_works_210 : decode cX7_works 210 = .ok (.iconst 0, 1) := by decide +kernel
theorem dX7_works_211 : decode cX7_works 211 = .ok (.bastore, 1) := by decide +kernel
theorem dX7_works_212 : decode cX7_works 212 = .ok (.iinc 7 1, 3) := by decide +kernel
theorem dX7_works_215 : decode cX7_works 215 = .ok (.goto (-18), 3) := by decide +kernel
theorem dX7_works_218 : decode cX7_works 218 = .ok (.iconst 0, 1) := by decide +kernel
theorem dX7_works_219 : decode cX7_works 219 = .ok (.istore 7, 2) := by decide +kernel
theorem dX7_works_221 : decode cX7_works 221 = .ok (.iload 7, 2) := by decide +kernel
theorem dX7_works_223 : decode cX7_works 223 = .ok (.aload_n 0, 1) := by decide +kernel
theorem dX7_works_224 : decode cX7_works 224 = .ok (.getfield 17, 3) := by decide +kernel
theorem dX7_works_227 : decode cX7_works 227 = .ok (.iload 4, 2) := by decide +kernel
theorem dX7_works_229 : decode cX7_works 229 = .ok (.iaload, 1) := by decide +kernel
theorem dX7_works_230 : decode cX7_works 230 = .ok (.iload 5, 2) := by decide +kernel
theorem dX7_works_232 : decode cX7_works 232 = .ok (.idiv, 1) := by decide +kernel
theorem dX7_works_233 : decode cX7_works 233 = .ok (.if_icmp .ge 80, 3) := by decide +kernel
theorem dX7_works_236 : decode cX7_works 236 = .ok (.iconst 0, 1) := by decide +kernel
theorem dX7_works_237 : decode cX7_works 237 = .ok (.istore 8, 2) := by decide +kernel
theorem dX7_works_239 : decode cX7_works 239 = .ok (.iconst 0, 1) := by decide +kernel
theorem dX7_works_240 : decode cX7_works 240 = .ok (.istore 9, 2) := by decide +kernel
theorem dX7_works_242 : decode cX7_works 242 = .ok (.iload 9, 2) := by decide +kernel
theorem dX7_works_244 : decode cX7_works 244 = .ok (.iload 5, 2) := by decide +kernel
theorem dX7_works_246 : decode cX7_works 246 = .ok (.if_icmp .ge 31, 3) := by decide +kernel
theorem dX7_works_249 : decode cX7_works 249 = .ok (.iload 8, 2) := by decide +kernel
theorem dX7_works_251 : decode cX7_works 251 = .ok (.aload_n 0, 1) := by decide +kernel
theorem dX7_works_252 : decode cX7_works 252 = .ok (.iload 4, 2) := by decide +kernel
theorem dX7_works_254 : decode cX7_works 254 = .ok (.iload 7, 2) := by decide +kernel
theorem dX7_works_256 : decode cX7_works 256 = .ok (.iload 5, 2) := by decide +kernel
theorem dX7_works_258 : decode cX7_works 258 = .ok (.imul, 1) := by decide +kernel
theorem dX7_works_259 : decode cX7_works 259 = .ok (.iload 9, 2) := by decide +kernel
theorem dX7_works_261 : decode cX7_works 261 = .ok (.iadd, 1) := by decide +kernel
theorem dX7_works_262 : decode cX7_works 262 = .ok (.invokevirtual 110, 3) := by decide +kernel
theorem dX7_works_265 : decode cX7_works 265 = .ok (.iload 9, 2) := by decide +kernel
theorem dX7_works_267 : decode cX7_works 267 = .ok (.ishl, 1) := by decide +kernel
theorem dX7_works_268 : decode cX7_works 268 = .ok (.ior, 1) := by decide +kernel
theorem dX7_works_269 : decode cX7_works 269 = .ok (.istore 8, 2) := by decide +kernel
theorem dX7_works_271 : decode cX7_works 271 = .ok (.iinc 9 1, 3) := by decide +kernel
theorem dX7_works_274 : decode cX7_works 274 = .ok (.goto (-32), 3) := by decide +kernel
theorem dX7_works_277 : decode cX7_works 277 = .ok (.aload_n 0, 1) := by decide +kernel
theorem dX7_works_278 : decode cX7_works 278 = .ok (.iload_n 1, 1) := by decide +kernel
theorem dX7_works_279 : decode cX7_works 279 = .ok (.iload_n 3, 1) := by decide +kernel
theorem dX7_works_280 : decode cX7_works 280 = .ok (.iload 7, 2) := by decide +kernel
theorem dX7_works_282 : decode cX7_works 282 = .ok (.iload 8, 2) := by decide +kernel
theorem dX7_works_284 : decode cX7_works 284 = .ok (.aload_n 0, 1) := by decide +kernel
theorem dX7_works_285 : decode cX7_works 285 = .ok (.iload_n 3, 1) := by decide +kernel
theorem dX7_works_286 : decode cX7_works 286 = .ok (.aload_n 0, 1) := by decide +kernel
theorem dX7_works_287 : decode cX7_works 287 = .ok (.iload_n 1, 1) := by decide +kernel
theorem dX7_works_288 : decode cX7_works 288 = .ok (.iload_n 3, 1) := by decide +kernel
theorem dX7_works_289 : decode cX7_works 289 = .ok (.iload 7, 2) := by decide +kernel
theorem dX7_works_291 : decode cX7_works 291 = .ok (.invokevirtual 215, 3) := by decide +kernel
theorem dX7_works_294 : decode cX7_works 294 = .ok (.invokevirtual 206, 3) := by decide +kernel
theorem dX7_works_297 : decode cX7_works 297 = .ok (.ixor, 1) := by decide +kernel
theorem dX7_works_298 : decode cX7_works 298 = .ok (.invokevirtual 218, 3) := by decide +kernel
theorem dX7_works_301 : decode cX7_works 301 = .ok (.ifCond .ne 6, 3) := by decide +kernel
theorem dX7_works_304 : decode cX7_works 304 = .ok (.bipush (-9), 2) := by decide +kernel
theorem dX7_works_306 : decode cX7_works 306 = .ok (.ireturn, 1) := by decide +kernel
theorem dX7_works_307 : decode cX7_works 307 = .ok (.iinc 7 1, 3) := by decide +kernel
theorem dX7_works_310 : decode cX7_works 310 = .ok (.goto (-89), 3) := by decide +kernel
theorem dX7_works_313 : decode cX7_works 313 = .ok (.aload_n 0, 1) := by decide +kernel
theorem dX7_works_314 : decode cX7_works 314 = .ok (.getfield 212, 3) := by decide +kernel
theorem dX7_works_317 : decode cX7_works 317 = .ok (.ireturn, 1) := by decide +kernel
theorem dX7_hide_0 : decode cX7_hide 0 = .ok (.aload_n 0, 1) := by decide +kernel
theorem dX7_hide_1 : decode cX7_hide 1 = .ok (.iload_n 1, 1) := by decide +kernel
theorem dX7_hide_2 : decode cX7_hide 2 = .ok (.iload_n 2, 1) := by decide +kernel
theorem dX7_hide_3 : decode cX7_hide 3 = .ok (.iload_n 3, 1) := by decide +kernel
theorem dX7_hide_4 : decode cX7_hide 4 = .ok (.iload 4, 2) := by decide +kernel
theorem dX7_hide_6 : decode cX7_hide 6 = .ok (.invokevirtual 222, 3) := by decide +kernel
theorem dX7_hide_9 : decode cX7_hide 9 = .ok (.istore 5, 2) := by decide +kernel
theorem dX7_hide_11 : decode cX7_hide 11 = .ok (.iconst 0, 1) := by decide +kernel
theorem dX7_hide_12 : decode cX7_hide 12 = .ok (.istore 6, 2) := by decide +kernel
theorem dX7_hide_14 : decode cX7_hide 14 = .ok (.iload 5, 2) := by decide +kernel
theorem dX7_hide_16 : decode cX7_hide 16 = .ok (.ifCond .lt 54, 3) := by decide +kernel
theorem dX7_hide_19 : decode cX7_hide 19 = .ok (.iload 6, 2) := by decide +kernel
theorem dX7_hide_21 : decode cX7_hide 21 = .ok (.aload_n 0, 1) := by decide +kernel
theorem dX7_hide_22 : decode cX7_hide 22 = .ok (.getfield 32, 3) := by decide +kernel
theorem dX7_hide_25 : decode cX7_hide 25 = .ok (.iload_n 1, 1) := by decide +kernel
theorem dX7_hide_26 : decode cX7_hide 26 = .ok (.iaload, 1) := by decide +kernel
theorem dX7_hide_27 : decode cX7_hide 27 = .ok (.if_icmp .ge 43, 3) := by decide +kernel
theorem dX7_hide_30 : decode cX7_hide 30 = .ok (.aload_n 0, 1) := by decide +kernel
theorem dX7_hide_31 : decode cX7_hide 31 = .ok (.getfield 23, 3) := by decide +kernel
theorem dX7_hide_34 : decode cX7_hide 34 = .ok (.iload 6, 2) := by decide +kernel
theorem dX7_hide_36 : decode cX7_hide 36 = .ok (.aload_n 0, 1) := by decide +kernel
theorem dX7_hide_37 : decode cX7_hide 37 = .ok (.getfield 65, 3) := by decide +kernel
theorem dX7_hide_40 : decode cX7_hide 40 = .ok (.iload 6, 2) := by decide +kernel
theorem dX7_hide_42 : decode cX7_hide 42 = .ok (.baload, 1) := by decide +kernel
theorem dX7_hide_43 : decode cX7_hide 43 = .ok (.ifCond .eq 13, 3) := by decide +kernel
theorem dX7_hide_46 : decode cX7_hide 46 = .ok (.aload_n 0, 1) := by decide +kernel
theorem dX7_hide_47 : decode cX7_hide 47 = .ok (.iload_n 1, 1) := by decide +kernel
theorem dX7_hide_48 : decode cX7_hide 48 = .ok (.iload 6, 2) := by decide +kernel
theorem dX7_hide_50 : decode cX7_hide 50 = .ok (.invokevirtual 156, 3) := by decide +kernel
theorem dX7_hide_53 : decode cX7_hide 53 = .ok (.goto 10, 3) := by decide +kernel
theorem dX7_hide_56 : decode cX7_hide 56 = .ok (.aload_n 0, 1) := by decide +kernel
theorem dX7_hide_57 : decode cX7_hide 57 = .ok (.iload_n 1, 1) := by decide +kernel
theorem dX7_hide_58 : decode cX7_hide 58 = .ok (.iload 6, 2) := by decide +kernel
theorem dX7_hide_60 : decode cX7_hide 60 = .ok (.invokevirtual 147, 3) := by decide +kernel
theorem dX7_hide_63 : decode cX7_hide 63 = .ok (.iastore, 1) := by decide +kernel
theorem dX7_hide_64 : decode cX7_hide 64 = .ok (.iinc 6 1, 3) := by decide +kernel
theorem dX7_hide_67 : decode cX7_hide 67 = .ok (.goto (-53), 3) := by decide +kernel
theorem dX7_hide_70 : decode cX7_hide 70 = .ok (.iconst 0, 1) := by decide +kernel
theorem dX7_hide_71 : decode cX7_hide 71 = .ok (.istore 6, 2) := by decide +kernel
theorem dX7_hide_73 : decode cX7_hide 73 = .ok (.iload 5, 2) := by decide +kernel
theorem dX7_hide_75 : decode cX7_hide 75 = .ok (.ifCond .lt 39, 3) := by decide +kernel
theorem dX7_hide_78 : decode cX7_hide 78 = .ok (.iload 6, 2) := by decide +kernel
theorem dX7_hide_80 : decode cX7_hide 80 = .ok (.aload_n 0, 1) := by decide +kernel
theorem dX7_hide_81 : decode cX7_hide 81 = .ok (.getfield 32, 3) := by decide +kernel
theorem dX7_hide_84 : decode cX7_hide 84 = .ok (.iload_n 1, 1) := by decide +kernel
theorem dX7_hide_85 : decode cX7_hide 85 = .ok (.iaload, 1) := by decide +kernel
theorem dX7_hide_86 : decode cX7_hide 86 = .ok (.if_icmp .ge 28, 3) := by decide +kernel
theorem dX7_hide_89 : decode cX7_hide 89 = .ok (.aload_n 0, 1) := by decide +kernel
theorem dX7_hide_90 : decode cX7_hide 90 = .ok (.getfield 38, 3) := by decide +kernel
theorem dX7_hide_93 : decode cX7_hide 93 = .ok (.bipush 40, 2) := by decide +kernel
theorem dX7_hide_95 : decode cX7_hide 95 = .ok (.iload_n 1, 1) := by decide +kernel
theorem dX7_hide_96 : decode cX7_hide 96 = .ok (.imul, 1) := by decide +kernel
theorem dX7_hide_97 : decode cX7_hide 97 = .ok (.iload 6, 2) := by decide +kernel
theorem dX7_hide_99 : decode cX7_hide 99 = .ok (.iadd, 1) := by decide +kernel
theorem dX7_hide_100 : decode cX7_hide 100 = .ok (.aload_n 0, 1) := by decide +kernel
theorem dX7_hide_101 : decode cX7_hide 101 = .ok (.getfield 23, 3) := by decide +kernel
theorem dX7_hide_104 : decode cX7_hide 104 = .ok (.iload 6, 2) := by decide +kernel
theorem dX7_hide_106 : decode cX7_hide 106 = .ok (.iaload, 1) := by decide +kernel
theorem dX7_hide_107 : decode cX7_hide 107 = .ok (.iastore, 1) := by decide +kernel
theorem dX7_hide_108 : decode cX7_hide 108 = .ok (.iinc 6 1, 3) := by decide +kernel
theorem dX7_hide_111 : decode cX7_hide 111 = .ok (.goto (-38), 3) := by decide +kernel
theorem dX7_hide_114 : decode cX7_hide 114 = .ok (.iload 5, 2) := by decide +kernel
theorem dX7_hide_116 : decode cX7_hide 116 = .ok (.ireturn, 1) := by decide +kernel
theorem dX7_price_0 : decode cX7_price 0 = .ok (.aload_n 0, 1) := by decide +kernel
theorem dX7_price_1 : decode cX7_price 1 = .ok (.iload_n 1, 1) := by decide +kernel
theorem dX7_price_2 : decode cX7_price 2 = .ok (.iload_n 2, 1) := by decide +kernel
theorem dX7_price_3 : decode cX7_price 3 = .ok (.iload_n 3, 1) := by decide +kernel
theorem dX7_price_4 : decode cX7_price 4 = .ok (.iload 4, 2) := by decide +kernel
theorem dX7_price_6 : decode cX7_price 6 = .ok (.invokevirtual 222, 3) := by decide +kernel
theorem dX7_price_9 : decode cX7_price 9 = .ok (.istore 5, 2) := by decide +kernel
theorem dX7_price_11 : decode cX7_price 11 = .ok (.iload 5, 2) := by decide +kernel
theorem dX7_price_13 : decode cX7_price 13 = .ok (.ifCond .ge 8, 3) := by decide +kernel
theorem dX7_price_16 : decode cX7_price 16 = .ok (.iload 5, 2) := by decide +kernel
theorem dX7_price_18 : decode cX7_price 18 = .ok (.goto 13, 3) := by decide +kernel
theorem dX7_price_21 : decode cX7_price 21 = .ok (.aload_n 0, 1) := by decide +kernel
theorem dX7_price_22 : decode cX7_price 22 = .ok (.aload_n 0, 1) := by decide +kernel
theorem dX7_price_23 : decode cX7_price 23 = .ok (.getfield 209, 3) := by decide +kernel
theorem dX7_price_26 : decode cX7_price 26 = .ok (.iload 5, 2) := by decide +kernel
theorem dX7_price_28 : decode cX7_price 28 = .ok (.invokevirtual 114, 3) := by decide +kernel
theorem dX7_price_31 : decode cX7_price 31 = .ok (.ireturn, 1) := by decide +kernel
theorem dX7_read_0 : decode cX7_read 0 = .ok (.iload 4, 2) := by decide +kernel
theorem dX7_read_2 : decode cX7_read 2 = .ok (.iconst 0, 1) := by decide +kernel
theorem dX7_read_3 : decode cX7_read 3 = .ok (.bipush 40, 2) := by decide +kernel
theorem dX7_read_5 : decode cX7_read 5 = .ok (.invokestatic 92, 3) := by decide +kernel
theorem dX7_read_8 : decode cX7_read 8 = .ok (.ifCond .eq 11, 3) := by decide +kernel
theorem dX7_read_11 : decode cX7_read 11 = .ok (.iload 5, 2) := by decide +kernel
theorem dX7_read_13 : decode cX7_read 13 = .ok (.invokestatic 96, 3) := by decide +kernel
theorem dX7_read_16 : decode cX7_read 16 = .ok (.ifCond .ne 5, 3) := by decide +kernel
theorem dX7_read_19 : decode cX7_read 19 = .ok (.iconst (-1), 1) := by decide +kernel
theorem dX7_read_20 : decode cX7_read 20 = .ok (.ireturn, 1) := by decide +kernel
theorem dX7_read_21 : decode cX7_read 21 = .ok (.aload_n 0, 1) := by decide +kernel
theorem dX7_read_22 : decode cX7_read 22 = .ok (.iload_n 1, 1) := by decide +kernel
theorem dX7_read_23 : decode cX7_read 23 = .ok (.iload_n 3, 1) := by decide +kernel
theorem dX7_read_24 : decode cX7_read 24 = .ok (.invokevirtual 197, 3) := by decide +kernel
theorem dX7_read_27 : decode cX7_read 27 = .ok (.istore 6, 2) := by decide +kernel
theorem dX7_read_29 : decode cX7_read 29 = .ok (.iload 6, 2) := by decide +kernel
theorem dX7_read_31 : decode cX7_read 31 = .ok (.ifCond .ge 6, 3) := by decide +kernel
theorem dX7_read_34 : decode cX7_read 34 = .ok (.iload 6, 2) := by decide +kernel
theorem dX7_read_36 : decode cX7_read 36 = .ok (.ireturn, 1) := by decide +kernel
theorem dX7_read_37 : decode cX7_read 37 = .ok (.iload 4, 2) := by decide +kernel
theorem dX7_read_39 : decode cX7_read 39 = .ok (.aload_n 0, 1) := by decide +kernel
theorem dX7_read_40 : decode cX7_read 40 = .ok (.getfield 53, 3) := by decide +kernel
theorem dX7_read_43 : decode cX7_read 43 = .ok (.iload_n 3, 1) := by decide +kernel
theorem dX7_read_44 : decode cX7_read 44 = .ok (.iaload, 1) := by decide +kernel
theorem dX7_read_45 : decode cX7_read 45 = .ok (.imul, 1) := by decide +kernel
theorem dX7_read_46 : decode cX7_read 46 = .ok (.istore 7, 2) := by decide +kernel
theorem dX7_read_48 : decode cX7_read 48 = .ok (.iload 4, 2) := by decide +kernel
theorem dX7_read_50 : decode cX7_read 50 = .ok (.aload_n 0, 1) := by decide +kernel
theorem dX7_read_51 : decode cX7_read 51 = .ok (.iload_n 1, 1) := by decide +kernel
theorem dX7_read_52 : decode cX7_read 52 = .ok (.iload_n 3, 1) := by decide +kernel
theorem dX7_read_53 : decode cX7_read 53 = .ok (.invokevirtual 200, 3) := by decide +kernel
theorem dX7_read_56 : decode cX7_read 56 = .ok (.if_icmp .gt 10, 3) := by decide +kernel
theorem dX7_read_59 : decode cX7_read 59 = .ok (.iload 7, 2) := by decide +kernel
theorem dX7_read_61 : decode cX7_read 61 = .ok (.bipush 40, 2) := by decide +kernel
theorem dX7_read_63 : decode cX7_read 63 = .ok (.if_icmp .le 9, 3) := by decide +kernel
theorem dX7_read_66 : decode cX7_read 66 = .ok (.aload_n 0, 1) := by decide +kernel
theorem dX7_read_67 : decode cX7_read 67 = .ok (.iconst 2, 1) := by decide +kernel
theorem dX7_read_68 : decode cX7_read 68 = .ok (.invokevirtual 100, 3) := by decide +kernel
theorem dX7_read_71 : decode cX7_read 71 = .ok (.ireturn, 1) := by decide +kernel
theorem dX7_read_72 : decode cX7_read 72 = .ok (.aload_n 0, 1) := by decide +kernel
theorem dX7_read_73 : decode cX7_read 73 = .ok (.aload_n 0, 1) := by decide +kernel
theorem dX7_read_74 : decode cX7_read 74 = .ok (.getfield 32, 3) := by decide +kernel
theorem dX7_read_77 : decode cX7_read 77 = .ok (.iload_n 1, 1) := by decide +kernel
theorem dX7_read_78 : decode cX7_read 78 = .ok (.iaload, 1) := by decide +kernel
theorem dX7_read_79 : decode cX7_read 79 = .ok (.iload_n 2, 1) := by decide +kernel
theorem dX7_read_80 : decode cX7_read 80 = .ok (.invokevirtual 172, 3) := by decide +kernel
theorem dX7_read_83 : decode cX7_read 83 = .ok (.aload_n 0, 1) := by decide +kernel
theorem dX7_read_84 : decode cX7_read 84 = .ok (.iload 5, 2) := by decide +kernel
theorem dX7_read_86 : decode cX7_read 86 = .ok (.iload 7, 2) := by decide +kernel
theorem dX7_read_88 : decode cX7_read 88 = .ok (.invokevirtual 144, 3) := by decide +kernel
theorem dX7_read_91 : decode cX7_read 91 = .ok (.pop, 1) := by decide +kernel
theorem dX7_read_92 : decode cX7_read 92 = .ok (.iconst 0, 1) := by decide +kernel
theorem dX7_read_93 : decode cX7_read 93 = .ok (.istore 8, 2) := by decide +kernel
theorem dX7_read_95 : decode cX7_read 95 = .ok (.iload 8, 2) := by decide +kernel
theorem dX7_read_97 : decode cX7_read 97 = .ok (.iload 4, 2) := by decide +kernel
theorem dX7_read_99 : decode cX7_read 99 = .ok (.if_icmp .ge 74, 3) := by decide +kernel
theorem dX7_read_102 : decode cX7_read 102 = .ok (.aload_n 0, 1) := by decide +kernel
theorem dX7_read_103 : decode cX7_read 103 = .ok (.iload_n 3, 1) := by decide +kernel
theorem dX7_read_104 : decode cX7_read 104 = .ok (.aload_n 0, 1) := by decide +kernel
theorem dX7_read_105 : decode cX7_read 105 = .ok (.iload_n 1, 1) := by decide +kernel
theorem dX7_read_106 : decode cX7_read 106 = .ok (.iload_n 3, 1) := by decide +kernel
theorem dX7_read_107 : decode cX7_read 107 = .ok (.iload 8, 2) := by decide +kernel
theorem dX7_read_109 : decode cX7_read 109 = .ok (.invokevirtual 215, 3) := by decide +kernel
theorem dX7_read_112 : decode cX7_read 112 = .ok (.invokevirtual 206, 3) := by decide +kernel
theorem dX7_read_115 : decode cX7_read 115 = .ok (.istore 9, 2) := by decide +kernel
theorem dX7_read_117 : decode cX7_read 117 = .ok (.iconst 0, 1) := by decide +kernel
theorem dX7_read_118 : decode cX7_read 118 = .ok (.istore 10, 2) := by decide +kernel
theorem dX7_read_120 : decode cX7_read 120 = .ok (.iload 10, 2) := by decide +kernel
theorem dX7_read_122 : decode cX7_read 122 = .ok (.aload_n 0, 1) := by decide +kernel
theorem dX7_read_123 : decode cX7_read 123 = .ok (.getfield 53, 3) := by decide +kernel
theorem dX7_read_126 : decode cX7_read 126 = .ok (.iload_n 3, 1) := by decide +kernel
theorem dX7_read_127 : decode cX7_read 127 = .ok (.iaload, 1) := by decide +kernel
theorem dX7_read_128 : decode cX7_read 128 = .ok (.if_icmp .ge 39, 3) := by decide +kernel
theorem dX7_read_131 : decode cX7_read 131 = .ok (.aload_n 0, 1) := by decide +kernel
theorem dX7_read_132 : decode cX7_read 132 = .ok (.getfield 20, 3) := by decide +kernel
theorem dX7_read_135 : decode cX7_read 135 = .ok (.bipush 40, 2) := by decide +kernel
theorem dX7_read_137 : decode cX7_read 137 = .ok (.iload 5, 2) := by decide +kernel
theorem dX7_read_139 : decode cX7_read 139 = .ok (.imul, 1) := by decide +kernel
theorem dX7_read_140 : decode cX7_read 140 = .ok (.iload 8, 2) := by decide +kernel
theorem dX7_read_142 : decode cX7_read 142 = .ok (.aload_n 0, 1) := by decide +kernel
theorem dX7_read_143 : decode cX7_read 143 = .ok (.getfield 53, 3) := by decide +kernel
theorem dX7_read_146 : decode cX7_read 146 = .ok (.iload_n 3, 1) := by decide +kernel
theorem dX7_read_147 : decode cX7_read 147 = .ok (.iaload, 1) := by decide +kernel
theorem dX7_read_148 : decode cX7_read 148 = .ok (.imul, 1) := by decide +kernel
theorem dX7_read_149 : decode cX7_read 149 = .ok (.iadd, 1) := by decide +kernel
theorem dX7_read_150 : decode cX7_read 150 = .ok (.iload 10, 2) := by decide +kernel
theorem dX7_read_152 : decode cX7_read 152 = .ok (.iadd, 1) := by decide +kernel
theorem dX7_read_153 : decode cX7_read 153 = .ok (.iload 9, 2) := by decide +kernel
theorem dX7_read_155 : decode cX7_read 155 = .ok (.iload 10, 2) := by decide +kernel
theorem dX7_read_157 : decode cX7_read 157 = .ok (.ishr, 1) := by decide +kernel
theorem dX7_read_158 : decode cX7_read 158 = .ok (.iconst 1, 1) := by decide +kernel
theorem dX7_read_159 : decode cX7_read 159 = .ok (.iand, 1) := by decide +kernel
theorem dX7_read_160 : decode cX7_read 160 = .ok (.iastore, 1) := by decide +kernel
theorem dX7_read_161 : decode cX7_read 161 = .ok (.iinc 10 1, 3) := by decide +kernel
theorem dX7_read_164 : decode cX7_read 164 = .ok (.goto (-44), 3) := by decide +kernel
theorem dX7_read_167 : decode cX7_read 167 = .ok (.iinc 8 1, 3) := by decide +kernel
theorem dX7_read_170 : decode cX7_read 170 = .ok (.goto (-75), 3) := by decide +kernel
theorem dX7_read_173 : decode cX7_read 173 = .ok (.iload 7, 2) := by decide +kernel
theorem dX7_read_175 : decode cX7_read 175 = .ok (.ireturn, 1) := by decide +kernel
theorem dX7_setNeeds_0 : decode cX7_setNeeds 0 = .ok (.iconst 0, 1) := by decide +kernel
theorem dX7_setNeeds_1 : decode cX7_setNeeds 1 = .ok (.istore_n 2, 1) := by decide +kernel
theorem dX7_setNeeds_2 : decode cX7_setNeeds 2 = .ok (.iconst 0, 1) := by decide +kernel
theorem dX7_setNeeds_3 : decode cX7_setNeeds 3 = .ok (.istore_n 3, 1) := by decide +kernel
theorem dX7_setNeeds_4 : decode cX7_setNeeds 4 = .ok (.iload_n 3, 1) := by decide +kernel
theorem dX7_setNeeds_5 : decode cX7_setNeeds 5 = .ok (.bipush 64, 2) := by decide +kernel
theorem dX7_setNeeds_7 : decode cX7_setNeeds 7 = .ok (.if_icmp .ge 17, 3) := by decide +kernel
theorem dX7_setNeeds_10 : decode cX7_setNeeds 10 = .ok (.aload_n 0, 1) := by decide +kernel
theorem dX7_setNeeds_11 : decode cX7_setNeeds 11 = .ok (.getfield 69, 3) := by decide +kernel
theorem dX7_setNeeds_14 : decode cX7_setNeeds 14 = .ok (.iload_n 3, 1) := by decide +kernel
theorem dX7_setNeeds_15 : decode cX7_setNeeds 15 = .ok (.bipush (-9), 2) := by decide +kernel
theorem dX7_setNeeds_17 : decode cX7_setNeeds 17 = .ok (.iastore, 1) := by decide +kernel
theorem dX7_setNeeds_18 : decode cX7_setNeeds 18 = .ok (.iinc 3 1, 3) := by decide +kernel
theorem dX7_setNeeds_21 : decode cX7_setNeeds 21 = .ok (.goto (-17), 3) := by decide +kernel
theorem dX7_setNeeds_24 : decode cX7_setNeeds 24 = .ok (.iconst 0, 1) := by decide +kernel
theorem dX7_setNeeds_25 : decode cX7_setNeeds 25 = .ok (.istore_n 3, 1) := by decide +kernel
theorem dX7_setNeeds_26 : decode cX7_setNeeds 26 = .ok (.iload_n 3, 1) := by decide +kernel
theorem dX7_setNeeds_27 : decode cX7_setNeeds 27 = .ok (.iconst 1, 1) := by decide +kernel
theorem dX7_setNeeds_28 : decode cX7_setNeeds 28 = .ok (.aload_n 0, 1) := by decide +kernel
theorem dX7_setNeeds_29 : decode cX7_setNeeds 29 = .ok (.getfield 56, 3) := by decide +kernel
theorem dX7_setNeeds_32 : decode cX7_setNeeds 32 = .ok (.iload_n 1, 1) := by decide +kernel
theorem dX7_setNeeds_33 : decode cX7_setNeeds 33 = .ok (.iaload, 1) := by decide +kernel
theorem dX7_setNeeds_34 : decode cX7_setNeeds 34 = .ok (.ishl, 1) := by decide +kernel
theorem dX7_setNeeds_35 : decode cX7_setNeeds 35 = .ok (.if_icmp .ge 80, 3) := by decide +kernel
theorem dX7_setNeeds_38 : decode cX7_setNeeds 38 = .ok (.aload_n 0, 1) := by decide +kernel
theorem dX7_setNeeds_39 : decode cX7_setNeeds 39 = .ok (.iload_n 1, 1) := by decide +kernel
theorem dX7_setNeeds_40 : decode cX7_setNeeds 40 = .ok (.iload_n 3, 1) := by decide +kernel
theorem dX7_setNeeds_41 : decode cX7_setNeeds 41 = .ok (.invokevirtual 206, 3) := by decide +kernel
theorem dX7_setNeeds_44 : decode cX7_setNeeds 44 = .ok (.istore 4, 2) := by decide +kernel
theorem dX7_setNeeds_46 : decode cX7_setNeeds 46 = .ok (.iload_n 2, 1) := by decide +kernel
theorem dX7_setNeeds_47 : decode cX7_setNeeds 47 = .ok (.aload_n 0, 1) := by decide +kernel
theorem dX7_setNeeds_48 : decode cX7_setNeeds 48 = .ok (.getfield 69, 3) := by decide +kernel
theorem dX7_setNeeds_51 : decode cX7_setNeeds 51 = .ok (.iload 4, 2) := by decide +kernel
theorem dX7_setNeeds_53 : decode cX7_setNeeds 53 = .ok (.iaload, 1) := by decide +kernel
theorem dX7_setNeeds_54 : decode cX7_setNeeds 54 = .ok (.ifCond .ge 7, 3) := by decide +kernel
theorem dX7_setNeeds_57 : decode cX7_setNeeds 57 = .ok (.iconst 1, 1) := by decide +kernel
theorem dX7_setNeeds_58 : decode cX7_setNeeds 58 = .ok (.goto 4, 3) := by decide +kernel
theorem dX7_setNeeds_61 : decode cX7_setNeeds 61 = .ok (.iconst 0, 1) := by decide +kernel
theorem dX7_setNeeds_62 : decode cX7_setNeeds 62 = .ok (.iadd, 1) := by decide +kernel
theorem dX7_setNeeds_63 : decode cX7_setNeeds 63 = .ok (.istore_n 2, 1) := by decide +kernel
theorem dX7_setNeeds_64 : decode cX7_setNeeds 64 = .ok (.aload_n 0, 1) := by decide +kernel
theorem dX7_setNeeds_65 : decode cX7_setNeeds 65 = .ok (.getfield 69, 3) := by decide +kernel
theorem dX7_setNeeds_68 : decode cX7_setNeeds 68 = .ok (.iload 4, 2) := by decide +kernel
theorem dX7_setNeeds_70 : decode cX7_setNeeds 70 = .ok (.aload_n 0, 1) := by decide +kernel
theorem dX7_setNeeds_71 : decode cX7_setNeeds 71 = .ok (.getfield 69, 3) := by decide +kernel
theorem dX7_setNeeds_74 : decode cX7_setNeeds 74 = .ok (.iload 4, 2) := by decide +kernel
theorem dX7_setNeeds_76 : decode cX7_setNeeds 76 = .ok (.iaload, 1) := by decide +kernel
theorem dX7_setNeeds_77 : decode cX7_setNeeds 77 = .ok (.ifCond .lt 17, 3) := by decide +kernel
theorem dX7_setNeeds_80 : decode cX7_setNeeds 80 = .ok (.iload_n 3, 1) := by decide +kernel
theorem dX7_setNeeds_81 : decode cX7_setNeeds 81 = .ok (.invokestatic 203, 3) := by decide +kernel
theorem dX7_setNeeds_84 : decode cX7_setNeeds 84 = .ok (.aload_n 0, 1) := by decide +kernel
theorem dX7_setNeeds_85 : decode cX7_setNeeds 85 = .ok (.getfield 69, 3) := by decide +kernel
theorem dX7_setNeeds_88 : decode cX7_setNeeds 88 = .ok (.iload 4, 2) := by decide +kernel
theorem dX7_setNeeds_90 : decode cX7_setNeeds 90 = .ok (.iaload, 1) := by decide +kernel
theorem dX7_setNeeds_91 : decode cX7_setNeeds 91 = .ok (.if_icmp .ge 10, 3) := by decide +kernel
theorem dX7_setNeeds_94 : decode cX7_setNeeds 94 = .ok (.iload_n 3, 1) := by decide +kernel
theorem dX7_setNeeds_95 : decode cX7_setNeeds 95 = .ok (.invokestatic 203, 3) := by decide +kernel
theorem dX7_setNeeds_98 : decode cX7_setNeeds 98 = .ok (.goto 10, 3) := by decide +kernel
theorem dX7_setNeeds_101 : decode cX7_setNeeds 101 = .ok (.aload_n 0, 1) := by decide +kernel
theorem dX7_setNeeds_102 : decode cX7_setNeeds 102 = .ok (.getfield 69, 3) := by decide +kernel
theorem dX7_setNeeds_105 : decode cX7_setNeeds 105 = .ok (.iload 4, 2) := by decide +kernel
theorem dX7_setNeeds_107 : decode cX7_setNeeds 107 = .ok (.iaload, 1) := by decide +kernel
theorem dX7_setNeeds_108 : decode cX7_setNeeds 108 = .ok (.iastore, 1) := by decide +kernel
theorem dX7_setNeeds_109 : decode cX7_setNeeds 109 = .ok (.iinc 3 1, 3) := by decide +kernel
theorem dX7_setNeeds_112 : decode cX7_setNeeds 112 = .ok (.goto (-86), 3) := by decide +kernel
theorem dX7_setNeeds_115 : decode cX7_setNeeds 115 = .ok (.iload_n 2, 1) := by decide +kernel
theorem dX7_setNeeds_116 : decode cX7_setNeeds 116 = .ok (.ireturn, 1) := by decide +kernel
theorem dX7_changes_0 : decode cX7_changes 0 = .ok (.aload_n 0, 1) := by decide +kernel
theorem dX7_changes_1 : decode cX7_changes 1 = .ok (.iload_n 1, 1) := by decide +kernel
theorem dX7_changes_2 : decode cX7_changes 2 = .ok (.invokevirtual 194, 3) := by decide +kernel
theorem dX7_changes_5 : decode cX7_changes 5 = .ok (.istore_n 2, 1) := by decide +kernel
theorem dX7_changes_6 : decode cX7_changes 6 = .ok (.iload_n 2, 1) := by decide +kernel
theorem dX7_changes_7 : decode cX7_changes 7 = .ok (.ifCond .ge 5, 3) := by decide +kernel
theorem dX7_changes_10 : decode cX7_changes 10 = .ok (.iload_n 2, 1) := by decide +kernel
theorem dX7_changes_11 : decode cX7_changes 11 = .ok (.ireturn, 1) := by decide +kernel
theorem dX7_changes_12 : decode cX7_changes 12 = .ok (.aload_n 0, 1) := by decide +kernel
theorem dX7_changes_13 : decode cX7_changes 13 = .ok (.iload_n 1, 1) := by decide +kernel
theorem dX7_changes_14 : decode cX7_changes 14 = .ok (.invokevirtual 226, 3) := by decide +kernel
theorem dX7_changes_17 : decode cX7_changes 17 = .ok (.istore_n 3, 1) := by decide +kernel
theorem dX7_changes_18 : decode cX7_changes 18 = .ok (.iconst 0, 1) := by decide +kernel
theorem dX7_changes_19 : decode cX7_changes 19 = .ok (.istore 4, 2) := by decide +kernel
theorem dX7_changes_21 : decode cX7_changes 21 = .ok (.iconst 0, 1) := by decide +kernel
theorem dX7_changes_22 : decode cX7_changes 22 = .ok (.istore 5, 2) := by decide +kernel
theorem dX7_changes_24 : decode cX7_changes 24 = .ok (.iconst 0, 1) := by decide +kernel
theorem dX7_changes_25 : decode cX7_changes 25 = .ok (.istore 6, 2) := by decide +kernel
theorem dX7_changes_27 : decode cX7_changes 27 = .ok (.iload 6, 2) := by decide +kernel
theorem dX7_changes_29 : decode cX7_changes 29 = .ok (.bipush 64, 2) := by decide +kernel
theorem dX7_changes_31 : decode cX7_changes 31 = .ok (.if_icmp .ge 61, 3) := by decide +kernel
theorem dX7_changes_34 : decode cX7_changes 34 = .ok (.aload_n 0, 1) := by decide +kernel
theorem dX7_changes_35 : decode cX7_changes 35 = .ok (.getfield 69, 3) := by decide +kernel
theorem dX7_changes_38 : decode cX7_changes 38 = .ok (.iload 6, 2) := by decide +kernel
theorem dX7_changes_40 : decode cX7_changes 40 = .ok (.iaload, 1) := by decide +kernel
theorem dX7_changes_41 : decode cX7_changes 41 = .ok (.iload 4, 2) := by decide +kernel
theorem dX7_changes_43 : decode cX7_changes 43 = .ok (.if_icmp .le 13, 3) := by decide +kernel
theorem dX7_changes_46 : decode cX7_changes 46 = .ok (.aload_n 0, 1) := by decide +kernel
theorem dX7_changes_47 : decode cX7_changes 47 = .ok (.getfield 69, 3) := by decide +kernel
theorem dX7_changes_50 : decode cX7_changes 50 = .ok (.iload 6, 2) := by decide +kernel
theorem dX7_changes_52 : decode cX7_changes 52 = .ok (.iaload, 1) := by decide +kernel
theorem dX7_changes_53 : decode cX7_changes 53 = .ok (.goto 5, 3) := by decide +kernel
theorem dX7_changes_56 : decode cX7_changes 56 = .ok (.iload 4, 2) := by decide +kernel
theorem dX7_changes_58 : decode cX7_changes 58 = .ok (.istore 4, 2) := by decide +kernel
theorem dX7_changes_60 : decode cX7_changes 60 = .ok (.iload 5, 2) := by decide +kernel
theorem dX7_changes_62 : decode cX7_changes 62 = .ok (.aload_n 0, 1) := by decide +kernel
theorem dX7_changes_63 : decode cX7_changes 63 = .ok (.getfield 69, 3) := by decide +kernel
theorem dX7_changes_66 : decode cX7_changes 66 = .ok (.iload 6, 2) := by decide +kernel
theorem dX7_changes_68 : decode cX7_changes 68 = .ok (.iaload, 1) := by decide +kernel
theorem dX7_changes_69 : decode cX7_changes 69 = .ok (.ifCond .le 13, 3) := by decide +kernel
theorem dX7_changes_72 : decode cX7_changes 72 = .ok (.aload_n 0, 1) := by decide +kernel
theorem dX7_changes_73 : decode cX7_changes 73 = .ok (.getfield 69, 3) := by decide +kernel
theorem dX7_changes_76 : decode cX7_changes 76 = .ok (.iload 6, 2) := by decide +kernel
theorem dX7_changes_78 : decode cX7_changes 78 = .ok (.iaload, 1) := by decide +kernel
theorem dX7_changes_79 : decode cX7_changes 79 = .ok (.goto 4, 3) := by decide +kernel
theorem dX7_changes_82 : decode cX7_changes 82 = .ok (.iconst 0, 1) := by decide +kernel
theorem dX7_changes_83 : decode cX7_changes 83 = .ok (.iadd, 1) := by decide +kernel
theorem dX7_changes_84 : decode cX7_changes 84 = .ok (.istore 5, 2) := by decide +kernel
theorem dX7_changes_86 : decode cX7_changes 86 = .ok (.iinc 6 1, 3) := by decide +kernel
theorem dX7_changes_89 : decode cX7_changes 89 = .ok (.goto (-62), 3) := by decide +kernel
theorem dX7_changes_92 : decode cX7_changes 92 = .ok (.aload_n 0, 1) := by decide +kernel
theorem dX7_changes_93 : decode cX7_changes 93 = .ok (.iload 5, 2) := by decide +kernel
theorem dX7_changes_95 : decode cX7_changes 95 = .ok (.i2l, 1) := by decide +kernel
theorem dX7_changes_96 : decode cX7_changes 96 = .ok (.iload_n 3, 1) := by decide +kernel
theorem dX7_changes_97 : decode cX7_changes 97 = .ok (.i2l, 1) := by decide +kernel
theorem dX7_changes_98 : decode cX7_changes 98 = .ok (.iload 4, 2) := by decide +kernel
theorem dX7_changes_100 : decode cX7_changes 100 = .ok (.invokevirtual 229, 3) := by decide +kernel
theorem dX7_changes_103 : decode cX7_changes 103 = .ok (.ireturn, 1) := by decide +kernel
theorem dX7_reach_0 : decode cX7_reach 0 = .ok (.aload_n 0, 1) := by decide +kernel
theorem dX7_reach_1 : decode cX7_reach 1 = .ok (.iload_n 1, 1) := by decide +kernel
theorem dX7_reach_2 : decode cX7_reach 2 = .ok (.invokevirtual 194, 3) := by decide +kernel
theorem dX7_reach_5 : decode cX7_reach 5 = .ok (.istore_n 2, 1) := by decide +kernel
theorem dX7_reach_6 : decode cX7_reach 6 = .ok (.iload_n 2, 1) := by decide +kernel
theorem dX7_reach_7 : decode cX7_reach 7 = .ok (.ifCond .ge 7, 3) := by decide +kernel
theorem dX7_reach_10 : decode cX7_reach 10 = .ok (.iload_n 2, 1) := by decide +kernel
theorem dX7_reach_11 : decode cX7_reach 11 = .ok (.goto 8, 3) := by decide +kernel
theorem dX7_reach_14 : decode cX7_reach 14 = .ok (.aload_n 0, 1) := by decide +kernel
theorem dX7_reach_15 : decode cX7_reach 15 = .ok (.iload_n 1, 1) := by decide +kernel
theorem dX7_reach_16 : decode cX7_reach 16 = .ok (.invokevirtual 226, 3) := by decide +kernel
theorem dX7_reach_19 : decode cX7_reach 19 = .ok (.ireturn, 1) := by decide +kernel
theorem dX7_parts_0 : decode cX7_parts 0 = .ok (.iload_n 1, 1) := by decide +kernel
theorem dX7_parts_1 : decode cX7_parts 1 = .ok (.iconst 0, 1) := by decide +kernel
theorem dX7_parts_2 : decode cX7_parts 2 = .ok (.sipush 250, 3) := by decide +kernel
theorem dX7_parts_5 : decode cX7_parts 5 = .ok (.invokestatic 92, 3) := by decide +kernel
theorem dX7_parts_8 : decode cX7_parts 8 = .ok (.ifCond .eq 30, 3) := by decide +kernel
theorem dX7_parts_11 : decode cX7_parts 11 = .ok (.iload_n 2, 1) := by decide +kernel
theorem dX7_parts_12 : decode cX7_parts 12 = .ok (.iconst 1, 1) := by decide +kernel
theorem dX7_parts_13 : decode cX7_parts 13 = .ok (.iconst 5, 1) := by decide +kernel
theorem dX7_parts_14 : decode cX7_parts 14 = .ok (.invokestatic 92, 3) := by decide +kernel
theorem dX7_parts_17 : decode cX7_parts 17 = .ok (.ifCond .eq 21, 3) := by decide +kernel
theorem dX7_parts_20 : decode cX7_parts 20 = .ok (.iload_n 3, 1) := by decide +kernel
theorem dX7_parts_21 : decode cX7_parts 21 = .ok (.iload_n 2, 1) := by decide +kernel
theorem dX7_parts_22 : decode cX7_parts 22 = .ok (.bipush 10, 2) := by decide +kernel
theorem dX7_parts_24 : decode cX7_parts 24 = .ok (.invokestatic 92, 3) := by decide +kernel
theorem dX7_parts_27 : decode cX7_parts 27 = .ok (.ifCond .eq 11, 3) := by decide +kernel
theorem dX7_parts_30 : decode cX7_parts 30 = .ok (.iload 5, 2) := by decide +kernel
theorem dX7_parts_32 : decode cX7_parts 32 = .ok (.invokestatic 96, 3) := by decide +kernel
theorem dX7_parts_35 : decode cX7_parts 35 = .ok (.ifCond .ne 5, 3) := by decide +kernel
theorem dX7_parts_38 : decode cX7_parts 38 = .ok (.iconst (-1), 1) := by decide +kernel
theorem dX7_parts_39 : decode cX7_parts 39 = .ok (.ireturn, 1) := by decide +kernel
theorem dX7_parts_40 : decode cX7_parts 40 = .ok (.aload_n 0, 1) := by decide +kernel
theorem dX7_parts_41 : decode cX7_parts 41 = .ok (.iload 4, 2) := by decide +kernel
theorem dX7_parts_43 : decode cX7_parts 43 = .ok (.putfield 165, 3) := by decide +kernel
theorem dX7_parts_46 : decode cX7_parts 46 = .ok (.aload_n 0, 1) := by decide +kernel
theorem dX7_parts_47 : decode cX7_parts 47 = .ok (.getfield 23, 3) := by decide +kernel
theorem dX7_parts_50 : decode cX7_parts 50 = .ok (.iconst 0, 1) := by decide +kernel
theorem dX7_parts_51 : decode cX7_parts 51 = .ok (.iload_n 1, 1) := by decide +kernel
theorem dX7_parts_52 : decode cX7_parts 52 = .ok (.iastore, 1) := by decide +kernel
theorem dX7_parts_53 : decode cX7_parts 53 = .ok (.iconst 1, 1) := by decide +kernel
theorem dX7_parts_54 : decode cX7_parts 54 = .ok (.istore 6, 2) := by decide +kernel
theorem dX7_parts_56 : decode cX7_parts 56 = .ok (.iload 6, 2) := by decide +kernel
theorem dX7_parts_58 : decode cX7_parts 58 = .ok (.iload_n 2, 1) := by decide +kernel
theorem dX7_parts_59 : decode cX7_parts 59 = .ok (.if_icmp .ge 23, 3) := by decide +kernel
theorem dX7_parts_62 : decode cX7_parts 62 = .ok (.aload_n 0, 1) := by decide +kernel
theorem dX7_parts_63 : decode cX7_parts 63 = .ok (.getfield 23, 3) := by decide +kernel
theorem dX7_parts_66 : decode cX7_parts 66 = .ok (.iload 6, 2) := by decide +kernel
theorem dX7_parts_68 : decode cX7_parts 68 = .ok (.aload_n 0, 1) := by decide +kernel
theorem dX7_parts_69 : decode cX7_parts 69 = .ok (.sipush 251, 3) := by decide +kernel
theorem dX7_parts_72 : decode cX7_parts 72 = .ok (.invokevirtual 169, 3) := by decide +kernel
theorem dX7_parts_75 : decode cX7_parts 75 = .ok (.iastore, 1) := by decide +kernel
theorem dX7_parts_76 : decode cX7_parts 76 = .ok (.iinc 6 1, 3) := by decide +kernel
theorem dX7_parts_79 : decode cX7_parts 79 = .ok (.goto (-23), 3) := by decide +kernel
theorem dX7_parts_82 : decode cX7_parts 82 = .ok (.aload_n 0, 1) := by decide +kernel
theorem dX7_parts_83 : decode cX7_parts 83 = .ok (.iload 5, 2) := by decide +kernel
theorem dX7_parts_85 : decode cX7_parts 85 = .ok (.iload_n 3, 1) := by decide +kernel
theorem dX7_parts_86 : decode cX7_parts 86 = .ok (.invokevirtual 144, 3) := by decide +kernel
theorem dX7_parts_89 : decode cX7_parts 89 = .ok (.pop, 1) := by decide +kernel
theorem dX7_parts_90 : decode cX7_parts 90 = .ok (.iconst 1, 1) := by decide +kernel
theorem dX7_parts_91 : decode cX7_parts 91 = .ok (.istore 6, 2) := by decide +kernel
theorem dX7_parts_93 : decode cX7_parts 93 = .ok (.iload 6, 2) := by decide +kernel
theorem dX7_parts_95 : decode cX7_parts 95 = .ok (.iload_n 3, 1) := by decide +kernel
theorem dX7_parts_96 : decode cX7_parts 96 = .ok (.if_icmp .gt 64, 3) := by decide +kernel
theorem dX7_parts_99 : decode cX7_parts 99 = .ok (.iconst 0, 1) := by decide +kernel
theorem dX7_parts_100 : decode cX7_parts 100 = .ok (.istore 7, 2) := by decide +kernel
theorem dX7_parts_102 : decode cX7_parts 102 = .ok (.iload_n 2, 1) := by decide +kernel
theorem dX7_parts_103 : decode cX7_parts 103 = .ok (.iconst 1, 1) := by decide +kernel
theorem dX7_parts_104 : decode cX7_parts 104 = .ok (.isub, 1) := by decide +kernel
theorem dX7_parts_105 : decode cX7_parts 105 = .ok (.istore 8, 2) := by decide +kernel
theorem dX7_parts_107 : decode cX7_parts 107 = .ok (.iload 8, 2) := by decide +kernel
theorem dX7_parts_109 : decode cX7_parts 109 = .ok (.ifCond .lt 28, 3) := by decide +kernel
theorem dX7_parts_112 : decode cX7_parts 112 = .ok (.iload 7, 2) := by decide +kernel
theorem dX7_parts_114 : decode cX7_parts 114 = .ok (.iload 6, 2) := by decide +kernel
theorem dX7_parts_116 : decode cX7_parts 116 = .ok (.imul, 1) := by decide +kernel
theorem dX7_parts_117 : decode cX7_parts 117 = .ok (.aload_n 0, 1) := by decide +kernel
theorem dX7_parts_118 : decode cX7_parts 118 = .ok (.getfield 23, 3) := by decide +kernel
theorem dX7_parts_121 : decode cX7_parts 121 = .ok (.iload 8, 2) := by decide +kernel
theorem dX7_parts_123 : decode cX7_parts 123 = .ok (.iaload, 1) := by decide +kernel
theorem dX7_parts_124 : decode cX7_parts 124 = .ok (.iadd, 1) := by decide +kernel
theorem dX7_parts_125 : decode cX7_parts 125 = .ok (.sipush 251, 3) := by decide +kernel
theorem dX7_parts_128 : decode cX7_parts 128 = .ok (.irem, 1) := by decide +kernel
theorem dX7_parts_129 : decode cX7_parts 129 = .ok (.istore 7, 2) := by decide +kernel
theorem dX7_parts_131 : decode cX7_parts 131 = .ok (.iinc 8 (-1), 3) := by decide +kernel
theorem dX7_parts_134 : decode cX7_parts 134 = .ok (.goto (-27), 3) := by decide +kernel
theorem dX7_parts_137 : decode cX7_parts 137 = .ok (.aload_n 0, 1) := by decide +kernel
theorem dX7_parts_138 : decode cX7_parts 138 = .ok (.getfield 20, 3) := by decide +kernel
theorem dX7_parts_141 : decode cX7_parts 141 = .ok (.bipush 40, 2) := by decide +kernel
theorem dX7_parts_143 : decode cX7_parts 143 = .ok (.iload 5, 2) := by decide +kernel
theorem dX7_parts_145 : decode cX7_parts 145 = .ok (.imul, 1) := by decide +kernel
theorem dX7_parts_146 : decode cX7_parts 146 = .ok (.iload 6, 2) := by decide +kernel
theorem dX7_parts_148 : decode cX7_parts 148 = .ok (.iadd, 1) := by decide +kernel
theorem dX7_parts_149 : decode cX7_parts 149 = .ok (.iconst 1, 1) := by decide +kernel
theorem dX7_parts_150 : decode cX7_parts 150 = .ok (.isub, 1) := by decide +kernel
theorem dX7_parts_151 : decode cX7_parts 151 = .ok (.iload 7, 2) := by decide +kernel
theorem dX7_parts_153 : decode cX7_parts 153 = .ok (.iastore, 1) := by decide +kernel
theorem dX7_parts_154 : decode cX7_parts 154 = .ok (.iinc 6 1, 3) := by decide +kernel
theorem dX7_parts_157 : decode cX7_parts 157 = .ok (.goto (-64), 3) := by decide +kernel
theorem dX7_parts_160 : decode cX7_parts 160 = .ok (.iload_n 3, 1) := by decide +kernel
theorem dX7_parts_161 : decode cX7_parts 161 = .ok (.ireturn, 1) := by decide +kernel
theorem dX7_inverse_0 : decode cX7_inverse 0 = .ok (.iconst 1, 1) := by decide +kernel
theorem dX7_inverse_1 : decode cX7_inverse 1 = .ok (.istore_n 1, 1) := by decide +kernel
theorem dX7_inverse_2 : decode cX7_inverse 2 = .ok (.iconst 0, 1) := by decide +kernel
theorem dX7_inverse_3 : decode cX7_inverse 3 = .ok (.istore_n 2, 1) := by decide +kernel
theorem dX7_inverse_4 : decode cX7_inverse 4 = .ok (.iload_n 2, 1) := by decide +kernel
theorem dX7_inverse_5 : decode cX7_inverse 5 = .ok (.sipush 249, 3) := by decide +kernel
theorem dX7_inverse_8 : decode cX7_inverse 8 = .ok (.if_icmp .ge 17, 3) := by decide +kernel
theorem dX7_inverse_11 : decode cX7_inverse 11 = .ok (.iload_n 1, 1) := by decide +kernel
theorem dX7_inverse_12 : decode cX7_inverse 12 = .ok (.iload_n 0, 1) := by decide +kernel
theorem dX7_inverse_13 : decode cX7_inverse 13 = .ok (.imul, 1) := by decide +kernel
theorem dX7_inverse_14 : decode cX7_inverse 14 = .ok (.sipush 251, 3) := by decide +kernel
theorem dX7_inverse_17 : decode cX7_inverse 17 = .ok (.irem, 1) := by decide +kernel
theorem dX7_inverse_18 : decode cX7_inverse 18 = .ok (.istore_n 1, 1) := by decide +kernel
theorem dX7_inverse_19 : decode cX7_inverse 19 = .ok (.iinc 2 1, 3) := by decide +kernel
theorem dX7_inverse_22 : decode cX7_inverse 22 = .ok (.goto (-18), 3) := by decide +kernel
theorem dX7_inverse_25 : decode cX7_inverse 25 = .ok (.iload_n 1, 1) := by decide +kernel
theorem dX7_inverse_26 : decode cX7_inverse 26 = .ok (.ireturn, 1) := by decide +kernel
theorem dX7_join_0 : decode cX7_join 0 = .ok (.aload_n 0, 1) := by decide +kernel
theorem dX7_join_1 : decode cX7_join 1 = .ok (.iload_n 1, 1) := by decide +kernel
theorem dX7_join_2 : decode cX7_join 2 = .ok (.invokevirtual 107, 3) := by decide +kernel
theorem dX7_join_5 : decode cX7_join 5 = .ok (.istore_n 2, 1) := by decide +kernel
theorem dX7_join_6 : decode cX7_join 6 = .ok (.iload_n 2, 1) := by decide +kernel
theorem dX7_join_7 : decode cX7_join 7 = .ok (.ifCond .ge 5, 3) := by decide +kernel
theorem dX7_join_10 : decode cX7_join 10 = .ok (.iload_n 2, 1) := by decide +kernel
theorem dX7_join_11 : decode cX7_join 11 = .ok (.ireturn, 1) := by decide +kernel
theorem dX7_join_12 : decode cX7_join 12 = .ok (.aload_n 0, 1) := by decide +kernel
theorem dX7_join_13 : decode cX7_join 13 = .ok (.getfield 17, 3) := by decide +kernel
theorem dX7_join_16 : decode cX7_join 16 = .ok (.iload_n 1, 1) := by decide +kernel
theorem dX7_join_17 : decode cX7_join 17 = .ok (.iaload, 1) := by decide +kernel
theorem dX7_join_18 : decode cX7_join 18 = .ok (.istore_n 3, 1) := by decide +kernel
theorem dX7_join_19 : decode cX7_join 19 = .ok (.iload_n 3, 1) := by decide +kernel
theorem dX7_join_20 : decode cX7_join 20 = .ok (.iconst 2, 1) := by decide +kernel
theorem dX7_join_21 : decode cX7_join 21 = .ok (.irem, 1) := by decide +kernel
theorem dX7_join_22 : decode cX7_join 22 = .ok (.ifCond .ne 13, 3) := by decide +kernel
theorem dX7_join_25 : decode cX7_join 25 = .ok (.iload_n 3, 1) := by decide +kernel
theorem dX7_join_26 : decode cX7_join 26 = .ok (.iconst 2, 1) := by decide +kernel
theorem dX7_join_27 : decode cX7_join 27 = .ok (.bipush 10, 2) := by decide +kernel
theorem dX7_join_29 : decode cX7_join 29 = .ok (.invokestatic 92, 3) := by decide +kernel
theorem dX7_join_32 : decode cX7_join 32 = .ok (.ifCond .ne 9, 3) := by decide +kernel
theorem dX7_join_35 : decode cX7_join 35 = .ok (.aload_n 0, 1) := by decide +kernel
theorem dX7_join_36 : decode cX7_join 36 = .ok (.iconst 5, 1) := by decide +kernel
theorem dX7_join_37 : decode cX7_join 37 = .ok (.invokevirtual 100, 3) := by decide +kernel
theorem dX7_join_40 : decode cX7_join 40 = .ok (.ireturn, 1) := by decide +kernel
theorem dX7_join_41 : decode cX7_join 41 = .ok (.iconst 1, 1) := by decide +kernel
theorem dX7_join_42 : decode cX7_join 42 = .ok (.istore 4, 2) := by decide +kernel
theorem dX7_join_44 : decode cX7_join 44 = .ok (.iconst 0, 1) := by decide +kernel
theorem dX7_join_45 : decode cX7_join 45 = .ok (.istore 5, 2) := by decide +kernel
theorem dX7_join_47 : decode cX7_join 47 = .ok (.iload 5, 2) := by decide +kernel
theorem dX7_join_49 : decode cX7_join 49 = .ok (.iload_n 3, 1) := by decide +kernel
theorem dX7_join_50 : decode cX7_join 50 = .ok (.if_icmp .ge 101, 3) := by decide +kernel
theorem dX7_join_53 : decode cX7_join 53 = .ok (.iload 4, 2) := by decide +kernel
theorem dX7_join_55 : decode cX7_join 55 = .ok (.ifCond .eq 42, 3) := by decide +kernel
theorem dX7_join_58 : decode cX7_join 58 = .ok (.aload_n 0, 1) := by decide +kernel
theorem dX7_join_59 : decode cX7_join 59 = .ok (.iload_n 1, 1) := by decide +kernel
theorem dX7_join_60 : decode cX7_join 60 = .ok (.iload 5, 2) := by decide +kernel
theorem dX7_join_62 : decode cX7_join 62 = .ok (.invokevirtual 110, 3) := by decide +kernel
theorem dX7_join_65 : decode cX7_join 65 = .ok (.iconst 1, 1) := by decide +kernel
theorem dX7_join_66 : decode cX7_join 66 = .ok (.bipush 10, 2) := by decide +kernel
theorem dX7_join_68 : decode cX7_join 68 = .ok (.invokestatic 92, 3) := by decide +kernel
theorem dX7_join_71 : decode cX7_join 71 = .ok (.ifCond .eq 26, 3) := by decide +kernel
theorem dX7_join_74 : decode cX7_join 74 = .ok (.aload_n 0, 1) := by decide +kernel
theorem dX7_join_75 : decode cX7_join 75 = .ok (.iload_n 1, 1) := by decide +kernel
theorem dX7_join_76 : decode cX7_join 76 = .ok (.iload 5, 2) := by decide +kernel
theorem dX7_join_78 : decode cX7_join 78 = .ok (.iconst 1, 1) := by decide +kernel
theorem dX7_join_79 : decode cX7_join 79 = .ok (.iadd, 1) := by decide +kernel
theorem dX7_join_80 : decode cX7_join 80 = .ok (.invokevirtual 110, 3) := by decide +kernel
theorem dX7_join_83 : decode cX7_join 83 = .ok (.iconst 0, 1) := by decide +kernel
theorem dX7_join_84 : decode cX7_join 84 = .ok (.sipush 250, 3) := by decide +kernel
theorem dX7_join_87 : decode cX7_join 87 = .ok (.invokestatic 92, 3) := by decide +kernel
theorem dX7_join_90 : decode cX7_join 90 = .ok (.ifCond .eq 7, 3) := by decide +kernel
theorem dX7_join_93 : decode cX7_join 93 = .ok (.iconst 1, 1) := by decide +kernel
theorem dX7_join_94 : decode cX7_join 94 = .ok (.goto 4, 3) := by decide +kernel
theorem dX7_join_97 : decode cX7_join 97 = .ok (.iconst 0, 1) := by decide +kernel
theorem dX7_join_98 : decode cX7_join 98 = .ok (.istore 4, 2) := by decide +kernel
theorem dX7_join_100 : decode cX7_join 100 = .ok (.iconst 0, 1) := by decide +kernel
theorem dX7_join_101 : decode cX7_join 101 = .ok (.istore 6, 2) := by decide +kernel
theorem dX7_join_103 : decode cX7_join 103 = .ok (.iload 6, 2) := by decide +kernel
theorem dX7_join_105 : decode cX7_join 105 = .ok (.iload 5, 2) := by decide +kernel
theorem dX7_join_107 : decode cX7_join 107 = .ok (.if_icmp .ge 38, 3) := by decide +kernel
theorem dX7_join_110 : decode cX7_join 110 = .ok (.iload 4, 2) := by decide +kernel
theorem dX7_join_112 : decode cX7_join 112 = .ok (.ifCond .eq 24, 3) := by decide +kernel
theorem dX7_join_115 : decode cX7_join 115 = .ok (.aload_n 0, 1) := by decide +kernel
theorem dX7_join_116 : decode cX7_join 116 = .ok (.iload_n 1, 1) := by decide +kernel
theorem dX7_join_117 : decode cX7_join 117 = .ok (.iload 5, 2) := by decide +kernel
theorem dX7_join_119 : decode cX7_join 119 = .ok (.invokevirtual 110, 3) := by decide +kernel
theorem dX7_join_122 : decode cX7_join 122 = .ok (.aload_n 0, 1) := by decide +kernel
theorem dX7_join_123 : decode cX7_join 123 = .ok (.iload_n 1, 1) := by decide +kernel
theorem dX7_join_124 : decode cX7_join 124 = .ok (.iload 6, 2) := by decide +kernel
theorem dX7_join_126 : decode cX7_join 126 = .ok (.invokevirtual 110, 3) := by decide +kernel
theorem dX7_join_129 : decode cX7_join 129 = .ok (.if_icmp .eq 7, 3) := by decide +kernel
theorem dX7_join_132 : decode cX7_join 132 = .ok (.iconst 1, 1) := by decide +kernel
theorem dX7_join_133 : decode cX7_join 133 = .ok (.goto 4, 3) := by decide +kernel
theorem dX7_join_136 : decode cX7_join 136 = .ok (.iconst 0, 1) := by decide +kernel
theorem dX7_join_137 : decode cX7_join 137 = .ok (.istore 4, 2) := by decide +kernel
theorem dX7_join_139 : decode cX7_join 139 = .ok (.iinc 6 2, 3) := by decide +kernel
theorem dX7_join_142 : decode cX7_join 142 = .ok (.goto (-39), 3) := by decide +kernel
theorem dX7_join_145 : decode cX7_join 145 = .ok (.iinc 5 2, 3) := by decide +kernel
theorem dX7_join_148 : decode cX7_join 148 = .ok (.goto (-101), 3) := by decide +kernel
theorem dX7_join_151 : decode cX7_join 151 = .ok (.iload 4, 2) := by decide +kernel
theorem dX7_join_153 : decode cX7_join 153 = .ok (.ifCond .ne 9, 3) := by decide +kernel
theorem dX7_join_156 : decode cX7_join 156 = .ok (.aload_n 0, 1) := by decide +kernel
theorem dX7_join_157 : decode cX7_join 157 = .ok (.iconst 3, 1) := by decide +kernel
theorem dX7_join_158 : decode cX7_join 158 = .ok (.invokevirtual 100, 3) := by decide +kernel
theorem dX7_join_161 : decode cX7_join 161 = .ok (.ireturn, 1) := by decide +kernel
theorem dX7_join_162 : decode cX7_join 162 = .ok (.iconst 0, 1) := by decide +kernel
theorem dX7_join_163 : decode cX7_join 163 = .ok (.istore 5, 2) := by decide +kernel
theorem dX7_join_165 : decode cX7_join 165 = .ok (.iconst 0, 1) := by decide +kernel
theorem dX7_join_166 : decode cX7_join 166 = .ok (.istore 6, 2) := by decide +kernel
theorem dX7_join_168 : decode cX7_join 168 = .ok (.iload 6, 2) := by decide +kernel
theorem dX7_join_170 : decode cX7_join 170 = .ok (.iload_n 3, 1) := by decide +kernel
theorem dX7_join_171 : decode cX7_join 171 = .ok (.if_icmp .ge 100, 3) := by decide +kernel
theorem dX7_join_174 : decode cX7_join 174 = .ok (.aload_n 0, 1) := by decide +kernel
theorem dX7_join_175 : decode cX7_join 175 = .ok (.iload_n 1, 1) := by decide +kernel
theorem dX7_join_176 : decode cX7_join 176 = .ok (.iload 6, 2) := by decide +kernel
theorem dX7_join_178 : decode cX7_join 178 = .ok (.iconst 1, 1) := by decide +kernel
theorem dX7_join_179 : decode cX7_join 179 = .ok (.iadd, 1) := by decide +kernel
theorem dX7_join_180 : decode cX7_join 180 = .ok (.invokevirtual 110, 3) := by decide +kernel
theorem dX7_join_183 : decode cX7_join 183 = .ok (.istore 7, 2) := by decide +kernel
theorem dX7_join_185 : decode cX7_join 185 = .ok (.iconst 0, 1) := by decide +kernel
theorem dX7_join_186 : decode cX7_join 186 = .ok (.istore 8, 2) := by decide +kernel
theorem dX7_join_188 : decode cX7_join 188 = .ok (.iload 8, 2) := by decide +kernel
theorem dX7_join_190 : decode cX7_join 190 = .ok (.iload_n 3, 1) := by decide +kernel
theorem dX7_join_191 : decode cX7_join 191 = .ok (.if_icmp .ge 63, 3) := by decide +kernel
theorem dX7_join_194 : decode cX7_join 194 = .ok (.iload 8, 2) := by decide +kernel
theorem dX7_join_196 : decode cX7_join 196 = .ok (.iload 6, 2) := by decide +kernel
theorem dX7_join_198 : decode cX7_join 198 = .ok (.if_icmp .eq 50, 3) := by decide +kernel
theorem dX7_join_201 : decode cX7_join 201 = .ok (.iload 7, 2) := by decide +kernel
theorem dX7_join_203 : decode cX7_join 203 = .ok (.aload_n 0, 1) := by decide +kernel
theorem dX7_join_204 : decode cX7_join 204 = .ok (.iload_n 1, 1) := by decide +kernel
theorem dX7_join_205 : decode cX7_join 205 = .ok (.iload 8, 2) := by decide +kernel
theorem dX7_join_207 : decode cX7_join 207 = .ok (.invokevirtual 110, 3) := by decide +kernel
theorem dX7_join_210 : decode cX7_join 210 = .ok (.imul, 1) := by decide +kernel
theorem dX7_join_211 : decode cX7_join 211 = .ok (.sipush 251, 3) := by decide +kernel
theorem dX7_join_214 : decode cX7_join 214 = .ok (.irem, 1) := by decide +kernel
theorem dX7_join_215 : decode cX7_join 215 = .ok (.aload_n 0, 1) := by decide +kernel
theorem dX7_join_216 : decode cX7_join 216 = .ok (.iload_n 1, 1) := by decide +kernel
theorem dX7_join_217 : decode cX7_join 217 = .ok (.iload 8, 2) := by decide +kernel
theorem dX7_join_219 : decode cX7_join 219 = .ok (.invokevirtual 110, 3) := by decide +kernel
theorem dX7_join_222 : decode cX7_join 222 = .ok (.aload_n 0, 1) := by decide +kernel
theorem dX7_join_223 : decode cX7_join 223 = .ok (.iload_n 1, 1) := by decide +kernel
theorem dX7_join_224 : decode cX7_join 224 = .ok (.iload 6, 2) := by decide +kernel
theorem dX7_join_226 : decode cX7_join 226 = .ok (.invokevirtual 110, 3) := by decide +kernel
theorem dX7_join_229 : decode cX7_join 229 = .ok (.isub, 1) := by decide +kernel
theorem dX7_join_230 : decode cX7_join 230 = .ok (.sipush 251, 3) := by decide +kernel
theorem dX7_join_233 : decode cX7_join 233 = .ok (.iadd, 1) := by decide +kernel
theorem dX7_join_234 : decode cX7_join 234 = .ok (.sipush 251, 3) := by decide +kernel
theorem dX7_join_237 : decode cX7_join 237 = .ok (.irem, 1) := by decide +kernel
theorem dX7_join_238 : decode cX7_join 238 = .ok (.invokestatic 233, 3) := by decide +kernel
theorem dX7_join_241 : decode cX7_join 241 = .ok (.imul, 1) := by decide +kernel
theorem dX7_join_242 : decode cX7_join 242 = .ok (.sipush 251, 3) := by decide +kernel
theorem dX7_join_245 : decode cX7_join 245 = .ok (.irem, 1) := by decide +kernel
theorem dX7_join_246 : decode cX7_join 246 = .ok (.istore 7, 2) := by decide +kernel
theorem dX7_join_248 : decode cX7_join 248 = .ok (.iinc 8 2, 3) := by decide +kernel
theorem dX7_join_251 : decode cX7_join 251 = .ok (.goto (-63), 3) := by decide +kernel
theorem dX7_join_254 : decode cX7_join 254 = .ok (.iload 5, 2) := by decide +kernel
theorem dX7_join_256 : decode cX7_join 256 = .ok (.iload 7, 2) := by decide +kernel
theorem dX7_join_258 : decode cX7_join 258 = .ok (.iadd, 1) := by decide +kernel
theorem dX7_join_259 : decode cX7_join 259 = .ok (.sipush 251, 3) := by decide +kernel
theorem dX7_join_262 : decode cX7_join 262 = .ok (.irem, 1) := by decide +kernel
theorem dX7_join_263 : decode cX7_join 263 = .ok (.istore 5, 2) := by decide +kernel
theorem dX7_join_265 : decode cX7_join 265 = .ok (.iinc 6 2, 3) := by decide +kernel
theorem dX7_join_268 : decode cX7_join 268 = .ok (.goto (-100), 3) := by decide +kernel
theorem dX7_join_271 : decode cX7_join 271 = .ok (.iload 5, 2) := by decide +kernel
theorem dX7_join_273 : decode cX7_join 273 = .ok (.ireturn, 1) := by decide +kernel
theorem dX7_setSigns_0 : decode cX7_setSigns 0 = .ok (.aload_n 0, 1) := by decide +kernel
theorem dX7_setSigns_1 : decode cX7_setSigns 1 = .ok (.iload_n 2, 1) := by decide +kernel
theorem dX7_setSigns_2 : decode cX7_setSigns 2 = .ok (.putfield 165, 3) := by decide +kernel
theorem dX7_setSigns_5 : decode cX7_setSigns 5 = .ok (.iconst 0, 1) := by decide +kernel
theorem dX7_setSigns_6 : decode cX7_setSigns 6 = .ok (.istore_n 3, 1) := by decide +kernel
theorem dX7_setSigns_7 : decode cX7_setSigns 7 = .ok (.iload_n 3, 1) := by decide +kernel
theorem dX7_setSigns_8 : decode cX7_setSigns 8 = .ok (.iload_n 1, 1) := by decide +kernel
theorem dX7_setSigns_9 : decode cX7_setSigns 9 = .ok (.if_icmp .ge 29, 3) := by decide +kernel
theorem dX7_setSigns_12 : decode cX7_setSigns 12 = .ok (.aload_n 0, 1) := by decide +kernel
theorem dX7_setSigns_13 : decode cX7_setSigns 13 = .ok (.getfield 72, 3) := by decide +kernel
theorem dX7_setSigns_16 : decode cX7_setSigns 16 = .ok (.iload_n 3, 1) := by decide +kernel
theorem dX7_setSigns_17 : decode cX7_setSigns 17 = .ok (.aload_n 0, 1) := by decide +kernel
theorem dX7_setSigns_18 : decode cX7_setSigns 18 = .ok (.iconst 2, 1) := by decide +kernel
theorem dX7_setSigns_19 : decode cX7_setSigns 19 = .ok (.invokevirtual 169, 3) := by decide +kernel
theorem dX7_setSigns_22 : decode cX7_setSigns 22 = .ok (.iconst 1, 1) := by decide +kernel
theorem dX7_setSigns_23 : decode cX7_setSigns 23 = .ok (.if_icmp .ne 7, 3) := by decide +kernel
theorem dX7_setSigns_26 : decode cX7_setSigns 26 = .ok (.iconst 1, 1) := by decide +kernel
theorem dX7_setSigns_27 : decode cX7_setSigns 27 = .ok (.goto 4, 3) := by decide +kernel
theorem dX7_setSigns_30 : decode cX7_setSigns 30 = .ok (.iconst (-1), 1) := by decide +kernel
theorem dX7_setSigns_31 : decode cX7_setSigns 31 = .ok (.iastore, 1) := by decide +kernel
theorem dX7_setSigns_32 : decode cX7_setSigns 32 = .ok (.iinc 3 1, 3) := by decide +kernel
theorem dX7_setSigns_35 : decode cX7_setSigns 35 = .ok (.goto (-28), 3) := by decide +kernel
theorem dX7_setSigns_38 : decode cX7_setSigns 38 = .ok (.return_, 1) := by decide +kernel
theorem dX7_spread_0 : decode cX7_spread 0 = .ok (.iload_n 3, 1) := by decide +kernel
theorem dX7_spread_1 : decode cX7_spread 1 = .ok (.iconst 1, 1) := by decide +kernel
theorem dX7_spread_2 : decode cX7_spread 2 = .ok (.bipush 20, 2) := by decide +kernel
theorem dX7_spread_4 : decode cX7_spread 4 = .ok (.invokestatic 92, 3) := by decide +kernel
theorem dX7_spread_7 : decode cX7_spread 7 = .ok (.ifCond .ne 5, 3) := by decide +kernel
theorem dX7_spread_10 : decode cX7_spread 10 = .ok (.iconst (-1), 1) := by decide +kernel
theorem dX7_spread_11 : decode cX7_spread 11 = .ok (.ireturn, 1) := by decide +kernel
theorem dX7_spread_12 : decode cX7_spread 12 = .ok (.aload_n 0, 1) := by decide +kernel
theorem dX7_spread_13 : decode cX7_spread 13 = .ok (.iload_n 1, 1) := by decide +kernel
theorem dX7_spread_14 : decode cX7_spread 14 = .ok (.invokevirtual 138, 3) := by decide +kernel
theorem dX7_spread_17 : decode cX7_spread 17 = .ok (.istore 4, 2) := by decide +kernel
theorem dX7_spread_19 : decode cX7_spread 19 = .ok (.iload 4, 2) := by decide +kernel
theorem dX7_spread_21 : decode cX7_spread 21 = .ok (.ifCond .ge 6, 3) := by decide +kernel
theorem dX7_spread_24 : decode cX7_spread 24 = .ok (.iload 4, 2) := by decide +kernel
theorem dX7_spread_26 : decode cX7_spread 26 = .ok (.ireturn, 1) := by decide +kernel
theorem dX7_spread_27 : decode cX7_spread 27 = .ok (.aload_n 0, 1) := by decide +kernel
theorem dX7_spread_28 : decode cX7_spread 28 = .ok (.getfield 35, 3) := by decide +kernel
theorem dX7_spread_31 : decode cX7_spread 31 = .ok (.iload_n 1, 1) := by decide +kernel
theorem dX7_spread_32 : decode cX7_spread 32 = .ok (.iaload, 1) := by decide +kernel
theorem dX7_spread_33 : decode cX7_spread 33 = .ok (.iconst 2, 1) := by decide +kernel
theorem dX7_spread_34 : decode cX7_spread 34 = .ok (.if_icmp .le 9, 3) := by decide +kernel
theorem dX7_spread_37 : decode cX7_spread 37 = .ok (.aload_n 0, 1) := by decide +kernel
theorem dX7_spread_38 : decode cX7_spread 38 = .ok (.iconst 3, 1) := by decide +kernel
theorem dX7_spread_39 : decode cX7_spread 39 = .ok (.invokevirtual 100, 3) := by decide +kernel
theorem dX7_spread_42 : decode cX7_spread 42 = .ok (.ireturn, 1) := by decide +kernel
theorem dX7_spread_43 : decode cX7_spread 43 = .ok (.aload_n 0, 1) := by decide +kernel
theorem dX7_spread_44 : decode cX7_spread 44 = .ok (.aload_n 0, 1) := by decide +kernel
theorem dX7_spread_45 : decode cX7_spread 45 = .ok (.getfield 32, 3) := by decide +kernel
theorem dX7_spread_48 : decode cX7_spread 48 = .ok (.iload_n 1, 1) := by decide +kernel
theorem dX7_spread_49 : decode cX7_spread 49 = .ok (.iaload, 1) := by decide +kernel
theorem dX7_spread_50 : decode cX7_spread 50 = .ok (.iload_n 2, 1) := by decide +kernel
theorem dX7_spread_51 : decode cX7_spread 51 = .ok (.invokevirtual 236, 3) := by decide +kernel
theorem dX7_spread_54 : decode cX7_spread 54 = .ok (.iconst 0, 1) := by decide +kernel
theorem dX7_spread_55 : decode cX7_spread 55 = .ok (.istore 5, 2) := by decide +kernel
theorem dX7_spread_57 : decode cX7_spread 57 = .ok (.iconst 0, 1) := by decide +kernel
theorem dX7_spread_58 : decode cX7_spread 58 = .ok (.istore 6, 2) := by decide +kernel
theorem dX7_spread_60 : decode cX7_spread 60 = .ok (.iload 6, 2) := by decide +kernel
theorem dX7_spread_62 : decode cX7_spread 62 = .ok (.aload_n 0, 1) := by decide +kernel
theorem dX7_spread_63 : decode cX7_spread 63 = .ok (.getfield 32, 3) := by decide +kernel
theorem dX7_spread_66 : decode cX7_spread 66 = .ok (.iload_n 1, 1) := by decide +kernel
theorem dX7_spread_67 : decode cX7_spread 67 = .ok (.iaload, 1) := by decide +kernel
theorem dX7_spread_68 : decode cX7_spread 68 = .ok (.if_icmp .ge 87, 3) := by decide +kernel
theorem dX7_spread_71 : decode cX7_spread 71 = .ok (.aload_n 0, 1) := by decide +kernel
theorem dX7_spread_72 : decode cX7_spread 72 = .ok (.iload_n 1, 1) := by decide +kernel
theorem dX7_spread_73 : decode cX7_spread 73 = .ok (.iload 6, 2) := by decide +kernel
theorem dX7_spread_75 : decode cX7_spread 75 = .ok (.invokevirtual 147, 3) := by decide +kernel
theorem dX7_spread_78 : decode cX7_spread 78 = .ok (.aload_n 0, 1) := by decide +kernel
theorem dX7_spread_79 : decode cX7_spread 79 = .ok (.getfield 72, 3) := by decide +kernel
theorem dX7_spread_82 : decode cX7_spread 82 = .ok (.iload 6, 2) := by decide +kernel
theorem dX7_spread_84 : decode cX7_spread 84 = .ok (.iaload, 1) := by decide +kernel
theorem dX7_spread_85 : decode cX7_spread 85 = .ok (.iload_n 3, 1) := by decide +kernel
theorem dX7_spread_86 : decode cX7_spread 86 = .ok (.imul, 1) := by decide +kernel
theorem dX7_spread_87 : decode cX7_spread 87 = .ok (.iadd, 1) := by decide +kernel
theorem dX7_spread_88 : decode cX7_spread 88 = .ok (.istore 7, 2) := by decide +kernel
theorem dX7_spread_90 : decode cX7_spread 90 = .ok (.iload 5, 2) := by decide +kernel
theorem dX7_spread_92 : decode cX7_spread 92 = .ok (.iload 7, 2) := by decide +kernel
theorem dX7_spread_94 : decode cX7_spread 94 = .ok (.iconst 0, 1) := by decide +kernel
theorem dX7_spread_95 : decode cX7_spread 95 = .ok (.sipush 255, 3) := by decide +kernel
theorem dX7_spread_98 : decode cX7_spread 98 = .ok (.invokestatic 92, 3) := by decide +kernel
theorem dX7_spread_101 : decode cX7_spread 101 = .ok (.ifCond .eq 7, 3) := by decide +kernel
theorem dX7_spread_104 : decode cX7_spread 104 = .ok (.iconst 0, 1) := by decide +kernel
theorem dX7_spread_105 : decode cX7_spread 105 = .ok (.goto 4, 3) := by decide +kernel
theorem dX7_spread_108 : decode cX7_spread 108 = .ok (.iconst 1, 1) := by decide +kernel
theorem dX7_spread_109 : decode cX7_spread 109 = .ok (.iadd, 1) := by decide +kernel
theorem dX7_spread_110 : decode cX7_spread 110 = .ok (.istore 5, 2) := by decide +kernel
theorem dX7_spread_112 : decode cX7_spread 112 = .ok (.aload_n 0, 1) := by decide +kernel
theorem dX7_spread_113 : decode cX7_spread 113 = .ok (.getfield 38, 3) := by decide +kernel
theorem dX7_spread_116 : decode cX7_spread 116 = .ok (.bipush 40, 2) := by decide +kernel
theorem dX7_spread_118 : decode cX7_spread 118 = .ok (.iload_n 1, 1) := by decide +kernel
theorem dX7_spread_119 : decode cX7_spread 119 = .ok (.imul, 1) := by decide +kernel
theorem dX7_spread_120 : decode cX7_spread 120 = .ok (.iload 6, 2) := by decide +kernel
theorem dX7_spread_122 : decode cX7_spread 122 = .ok (.iadd, 1) := by decide +kernel
theorem dX7_spread_123 : decode cX7_spread 123 = .ok (.iload 7, 2) := by decide +kernel
theorem dX7_spread_125 : decode cX7_spread 125 = .ok (.ifCond .ge 7, 3) := by decide +kernel
theorem dX7_spread_128 : decode cX7_spread 128 = .ok (.iconst 0, 1) := by decide +kernel
theorem dX7_spread_129 : decode cX7_spread 129 = .ok (.goto 19, 3) := by decide +kernel
theorem dX7_spread_132 : decode cX7_spread 132 = .ok (.iload 7, 2) := by decide +kernel
theorem dX7_spread_134 : decode cX7_spread 134 = .ok (.sipush 255, 3) := by decide +kernel
theorem dX7_spread_137 : decode cX7_spread 137 = .ok (.if_icmp .le 9, 3) := by decide +kernel
theorem dX7_spread_140 : decode cX7_spread 140 = .ok (.sipush 255, 3) := by decide +kernel
theorem dX7_spread_143 : decode cX7_spread 143 = .ok (.goto 5, 3) := by decide +kernel
theorem dX7_spread_146 : decode cX7_spread 146 = .ok (.iload 7, 2) := by decide +kernel
theorem dX7_spread_148 : decode cX7_spread 148 = .ok (.iastore, 1) := by decide +kernel
theorem dX7_spread_149 : decode cX7_spread 149 = .ok (.iinc 6 1, 3) := by decide +kernel
theorem dX7_spread_152 : decode cX7_spread 152 = .ok (.goto (-92), 3) := by decide +kernel
theorem dX7_spread_155 : decode cX7_spread 155 = .ok (.iload 5, 2) := by decide +kernel
theorem dX7_spread_157 : decode cX7_spread 157 = .ok (.ireturn, 1) := by decide +kernel
theorem dX7_sumBy_0 : decode cX7_sumBy 0 = .ok (.iconst 0, 1) := by decide +kernel
theorem dX7_sumBy_1 : decode cX7_sumBy 1 = .ok (.istore_n 3, 1) := by decide +kernel
theorem dX7_sumBy_2 : decode cX7_sumBy 2 = .ok (.iconst 0, 1) := by decide +kernel
theorem dX7_sumBy_3 : decode cX7_sumBy 3 = .ok (.istore 4, 2) := by decide +kernel
theorem dX7_sumBy_5 : decode cX7_sumBy 5 = .ok (.iload 4, 2) := by decide +kernel
theorem dX7_sumBy_7 : decode cX7_sumBy 7 = .ok (.aload_n 0, 1) := by decide +kernel
theorem dX7_sumBy_8 : decode cX7_sumBy 8 = .ok (.getfield 32, 3) := by decide +kernel
theorem dX7_sumBy_11 : decode cX7_sumBy 11 = .ok (.iload_n 1, 1) := by decide +kernel
theorem dX7_sumBy_12 : decode cX7_sumBy 12 = .ok (.iaload, 1) := by decide +kernel
theorem dX7_sumBy_13 : decode cX7_sumBy 13 = .ok (.if_icmp .ge 36, 3) := by decide +kernel
theorem dX7_sumBy_16 : decode cX7_sumBy 16 = .ok (.iload_n 3, 1) := by decide +kernel
theorem dX7_sumBy_17 : decode cX7_sumBy 17 = .ok (.aload_n 0, 1) := by decide +kernel
theorem dX7_sumBy_18 : decode cX7_sumBy 18 = .ok (.iload_n 1, 1) := by decide +kernel
theorem dX7_sumBy_19 : decode cX7_sumBy 19 = .ok (.iload 4, 2) := by decide +kernel
theorem dX7_sumBy_21 : decode cX7_sumBy 21 = .ok (.invokevirtual 147, 3) := by decide +kernel
theorem dX7_sumBy_24 : decode cX7_sumBy 24 = .ok (.aload_n 0, 1) := by decide +kernel
theorem dX7_sumBy_25 : decode cX7_sumBy 25 = .ok (.getfield 72, 3) := by decide +kernel
theorem dX7_sumBy_28 : decode cX7_sumBy 28 = .ok (.iload 4, 2) := by decide +kernel
theorem dX7_sumBy_30 : decode cX7_sumBy 30 = .ok (.iload_n 2, 1) := by decide +kernel
theorem dX7_sumBy_31 : decode cX7_sumBy 31 = .ok (.iadd, 1) := by decide +kernel
theorem dX7_sumBy_32 : decode cX7_sumBy 32 = .ok (.aload_n 0, 1) := by decide +kernel
theorem dX7_sumBy_33 : decode cX7_sumBy 33 = .ok (.getfield 32, 3) := by decide +kernel
theorem dX7_sumBy_36 : decode cX7_sumBy 36 = .ok (.iload_n 1, 1) := by decide +kernel
theorem dX7_sumBy_37 : decode cX7_sumBy 37 = .ok (.iaload, 1) := by decide +kernel
theorem dX7_sumBy_38 : decode cX7_sumBy 38 = .ok (.irem, 1) := by decide +kernel
theorem dX7_sumBy_39 : decode cX7_sumBy 39 = .ok (.iaload, 1) := by decide +kernel
theorem dX7_sumBy_40 : decode cX7_sumBy 40 = .ok (.imul, 1) := by decide +kernel
theorem dX7_sumBy_41 : decode cX7_sumBy 41 = .ok (.iadd, 1) := by decide +kernel
theorem dX7_sumBy_42 : decode cX7_sumBy 42 = .ok (.istore_n 3, 1) := by decide +kernel
theorem dX7_sumBy_43 : decode cX7_sumBy 43 = .ok (.iinc 4 1, 3) := by decide +kernel
theorem dX7_sumBy_46 : decode cX7_sumBy 46 = .ok (.goto (-41), 3) := by decide +kernel
theorem dX7_sumBy_49 : decode cX7_sumBy 49 = .ok (.iload_n 3, 1) := by decide +kernel
theorem dX7_sumBy_50 : decode cX7_sumBy 50 = .ok (.ireturn, 1) := by decide +kernel
theorem dX7_sum_0 : decode cX7_sum 0 = .ok (.iload_n 3, 1) := by decide +kernel
theorem dX7_sum_1 : decode cX7_sum 1 = .ok (.iconst 0, 1) := by decide +kernel
theorem dX7_sum_2 : decode cX7_sum 2 = .ok (.bipush 39, 2) := by decide +kernel
theorem dX7_sum_4 : decode cX7_sum 4 = .ok (.invokestatic 92, 3) := by decide +kernel
theorem dX7_sum_7 : decode cX7_sum 7 = .ok (.ifCond .ne 5, 3) := by decide +kernel
theorem dX7_sum_10 : decode cX7_sum 10 = .ok (.iconst (-1), 1) := by decide +kernel
theorem dX7_sum_11 : decode cX7_sum 11 = .ok (.ireturn, 1) := by decide +kernel
theorem dX7_sum_12 : decode cX7_sum 12 = .ok (.aload_n 0, 1) := by decide +kernel
theorem dX7_sum_13 : decode cX7_sum 13 = .ok (.iload_n 1, 1) := by decide +kernel
theorem dX7_sum_14 : decode cX7_sum 14 = .ok (.invokevirtual 138, 3) := by decide +kernel
theorem dX7_sum_17 : decode cX7_sum 17 = .ok (.istore 4, 2) := by decide +kernel
theorem dX7_sum_19 : decode cX7_sum 19 = .ok (.iload 4, 2) := by decide +kernel
theorem dX7_sum_21 : decode cX7_sum 21 = .ok (.ifCond .ge 6, 3) := by decide +kernel
theorem dX7_sum_24 : decode cX7_sum 24 = .ok (.iload 4, 2) := by decide +kernel
theorem dX7_sum_26 : decode cX7_sum 26 = .ok (.ireturn, 1) := by decide +kernel
theorem dX7_sum_27 : decode cX7_sum 27 = .ok (.aload_n 0, 1) := by decide +kernel
theorem dX7_sum_28 : decode cX7_sum 28 = .ok (.aload_n 0, 1) := by decide +kernel
theorem dX7_sum_29 : decode cX7_sum 29 = .ok (.getfield 32, 3) := by decide +kernel
theorem dX7_sum_32 : decode cX7_sum 32 = .ok (.iload_n 1, 1) := by decide +kernel
theorem dX7_sum_33 : decode cX7_sum 33 = .ok (.iaload, 1) := by decide +kernel
theorem dX7_sum_34 : decode cX7_sum 34 = .ok (.iload_n 2, 1) := by decide +kernel
theorem dX7_sum_35 : decode cX7_sum 35 = .ok (.invokevirtual 236, 3) := by decide +kernel
theorem dX7_sum_38 : decode cX7_sum 38 = .ok (.aload_n 0, 1) := by decide +kernel
theorem dX7_sum_39 : decode cX7_sum 39 = .ok (.aload_n 0, 1) := by decide +kernel
theorem dX7_sum_40 : decode cX7_sum 40 = .ok (.iload_n 1, 1) := by decide +kernel
theorem dX7_sum_41 : decode cX7_sum 41 = .ok (.iload_n 3, 1) := by decide +kernel
theorem dX7_sum_42 : decode cX7_sum 42 = .ok (.invokevirtual 239, 3) := by decide +kernel
theorem dX7_sum_45 : decode cX7_sum 45 = .ok (.iconst 1, 1) := by decide +kernel
theorem dX7_sum_46 : decode cX7_sum 46 = .ok (.invokevirtual 114, 3) := by decide +kernel
theorem dX7_sum_49 : decode cX7_sum 49 = .ok (.ireturn, 1) := by decide +kernel
theorem dX7_lineUp_0 : decode cX7_lineUp 0 = .ok (.aload_n 0, 1) := by decide +kernel
theorem dX7_lineUp_1 : decode cX7_lineUp 1 = .ok (.iload_n 1, 1) := by decide +kernel
theorem dX7_lineUp_2 : decode cX7_lineUp 2 = .ok (.invokevirtual 138, 3) := by decide +kernel
theorem dX7_lineUp_5 : decode cX7_lineUp 5 = .ok (.istore_n 3, 1) := by decide +kernel
theorem dX7_lineUp_6 : decode cX7_lineUp 6 = .ok (.iload_n 3, 1) := by decide +kernel
theorem dX7_lineUp_7 : decode cX7_lineUp 7 = .ok (.ifCond .ge 5, 3) := by decide +kernel
theorem dX7_lineUp_10 : decode cX7_lineUp 10 = .ok (.iload_n 3, 1) := by decide +kernel
theorem dX7_lineUp_11 : decode cX7_lineUp 11 = .ok (.ireturn, 1) := by decide +kernel
theorem dX7_lineUp_12 : decode cX7_lineUp 12 = .ok (.aload_n 0, 1) := by decide +kernel
theorem dX7_lineUp_13 : decode cX7_lineUp 13 = .ok (.aload_n 0, 1) := by decide +kernel
theorem dX7_lineUp_14 : decode cX7_lineUp 14 = .ok (.getfield 32, 3) := by decide +kernel
theorem dX7_lineUp_17 : decode cX7_lineUp 17 = .ok (.iload_n 1, 1) := by decide +kernel
theorem dX7_lineUp_18 : decode cX7_lineUp 18 = .ok (.iaload, 1) := by decide +kernel
theorem dX7_lineUp_19 : decode cX7_lineUp 19 = .ok (.iload_n 2, 1) := by decide +kernel
theorem dX7_lineUp_20 : decode cX7_lineUp 20 = .ok (.invokevirtual 236, 3) := by decide +kernel
theorem dX7_lineUp_23 : decode cX7_lineUp 23 = .ok (.iconst 0, 1) := by decide +kernel
theorem dX7_lineUp_24 : decode cX7_lineUp 24 = .ok (.istore 4, 2) := by decide +kernel
theorem dX7_lineUp_26 : decode cX7_lineUp 26 = .ok (.iconst 1, 1) := by decide +kernel
theorem dX7_lineUp_27 : decode cX7_lineUp 27 = .ok (.istore 5, 2) := by decide +kernel
theorem dX7_lineUp_29 : decode cX7_lineUp 29 = .ok (.iload 5, 2) := by decide +kernel
theorem dX7_lineUp_31 : decode cX7_lineUp 31 = .ok (.aload_n 0, 1) := by decide +kernel
theorem dX7_lineUp_32 : decode cX7_lineUp 32 = .ok (.getfield 32, 3) := by decide +kernel
theorem dX7_lineUp_35 : decode cX7_lineUp 35 = .ok (.iload_n 1, 1) := by decide +kernel
theorem dX7_lineUp_36 : decode cX7_lineUp 36 = .ok (.iaload, 1) := by decide +kernel
theorem dX7_lineUp_37 : decode cX7_lineUp 37 = .ok (.if_icmp .ge 35, 3) := by decide +kernel
theorem dX7_lineUp_40 : decode cX7_lineUp 40 = .ok (.aload_n 0, 1) := by decide +kernel
theorem dX7_lineUp_41 : decode cX7_lineUp 41 = .ok (.iload_n 1, 1) := by decide +kernel
theorem dX7_lineUp_42 : decode cX7_lineUp 42 = .ok (.iload 5, 2) := by decide +kernel
theorem dX7_lineUp_44 : decode cX7_lineUp 44 = .ok (.invokevirtual 239, 3) := by decide +kernel
theorem dX7_lineUp_47 : decode cX7_lineUp 47 = .ok (.aload_n 0, 1) := by decide +kernel
theorem dX7_lineUp_48 : decode cX7_lineUp 48 = .ok (.iload_n 1, 1) := by decide +kernel
theorem dX7_lineUp_49 : decode cX7_lineUp 49 = .ok (.iload 4, 2) := by decide +kernel
theorem dX7_lineUp_51 : decode cX7_lineUp 51 = .ok (.invokevirtual 239, 3) := by decide +kernel
theorem dX7_lineUp_54 : decode cX7_lineUp 54 = .ok (.if_icmp .le 8, 3) := by decide +kernel
theorem dX7_lineUp_57 : decode cX7_lineUp 57 = .ok (.iload 5, 2) := by decide +kernel
theorem dX7_lineUp_59 : decode cX7_lineUp 59 = .ok (.goto 5, 3) := by decide +kernel
theorem dX7_lineUp_62 : decode cX7_lineUp 62 = .ok (.iload 4, 2) := by decide +kernel
theorem dX7_lineUp_64 : decode cX7_lineUp 64 = .ok (.istore 4, 2) := by decide +kernel
theorem dX7_lineUp_66 : decode cX7_lineUp 66 = .ok (.iinc 5 1, 3) := by decide +kernel
theorem dX7_lineUp_69 : decode cX7_lineUp 69 = .ok (.goto (-40), 3) := by decide +kernel
theorem dX7_lineUp_72 : decode cX7_lineUp 72 = .ok (.aload_n 0, 1) := by decide +kernel
theorem dX7_lineUp_73 : decode cX7_lineUp 73 = .ok (.aload_n 0, 1) := by decide +kernel
theorem dX7_lineUp_74 : decode cX7_lineUp 74 = .ok (.iload_n 1, 1) := by decide +kernel
theorem dX7_lineUp_75 : decode cX7_lineUp 75 = .ok (.iload 4, 2) := by decide +kernel
theorem dX7_lineUp_77 : decode cX7_lineUp 77 = .ok (.invokevirtual 239, 3) := by decide +kernel
theorem dX7_lineUp_80 : decode cX7_lineUp 80 = .ok (.iload 4, 2) := by decide +kernel
theorem dX7_lineUp_82 : decode cX7_lineUp 82 = .ok (.invokevirtual 114, 3) := by decide +kernel
theorem dX7_lineUp_85 : decode cX7_lineUp 85 = .ok (.ireturn, 1) := by decide +kernel
theorem dX7_falseShare_0 : decode cX7_falseShare 0 = .ok (.iload_n 2, 1) := by decide +kernel
theorem dX7_falseShare_1 : decode cX7_falseShare 1 = .ok (.sipush (-10200), 3) := by decide +kernel
theorem dX7_falseShare_4 : decode cX7_falseShare 4 = .ok (.sipush 10200, 3) := by decide +kernel
theorem dX7_falseShare_7 : decode cX7_falseShare 7 = .ok (.invokestatic 92, 3) := by decide +kernel
theorem dX7_falseShare_10 : decode cX7_falseShare 10 = .ok (.ifCond .ne 5, 3) := by decide +kernel
theorem dX7_falseShare_13 : decode cX7_falseShare 13 = .ok (.iconst (-1), 1) := by decide +kernel
theorem dX7_falseShare_14 : decode cX7_falseShare 14 = .ok (.ireturn, 1) := by decide +kernel
theorem dX7_falseShare_15 : decode cX7_falseShare 15 = .ok (.aload_n 0, 1) := by decide +kernel
theorem dX7_falseShare_16 : decode cX7_falseShare 16 = .ok (.iload_n 1, 1) := by decide +kernel
theorem dX7_falseShare_17 : decode cX7_falseShare 17 = .ok (.invokevirtual 138, 3) := by decide +kernel
theorem dX7_falseShare_20 : decode cX7_falseShare 20 = .ok (.istore_n 3, 1) := by decide +kernel
theorem dX7_falseShare_21 : decode cX7_falseShare 21 = .ok (.iload_n 3, 1) := by decide +kernel
theorem dX7_falseShare_22 : decode cX7_falseShare 22 = .ok (.ifCond .ge 5, 3) := by decide +kernel
theorem dX7_falseShare_25 : decode cX7_falseShare 25 = .ok (.iload_n 3, 1) := by decide +kernel
theorem dX7_falseShare_26 : decode cX7_falseShare 26 = .ok (.ireturn, 1) := by decide +kernel
theorem dX7_falseShare_27 : decode cX7_falseShare 27 = .ok (.iconst 0, 1) := by decide +kernel
theorem dX7_falseShare_28 : decode cX7_falseShare 28 = .ok (.istore 4, 2) := by decide +kernel
theorem dX7_falseShare_30 : decode cX7_falseShare 30 = .ok (.iload 4, 2) := by decide +kernel
theorem dX7_falseShare_32 : decode cX7_falseShare 32 = .ok (.sipush 10200, 3) := by decide +kernel
theorem dX7_falseShare_35 : decode cX7_falseShare 35 = .ok (.if_icmp .gt 26, 3) := by decide +kernel
theorem dX7_falseShare_38 : decode cX7_falseShare 38 = .ok (.aload_n 0, 1) := by decide +kernel
theorem dX7_falseShare_39 : decode cX7_falseShare 39 = .ok (.getfield 75, 3) := by decide +kernel
theorem dX7_falseShare_42 : decode cX7_falseShare 42 = .ok (.iload 4, 2) := by decide +kernel
theorem dX7_falseShare_44 : decode cX7_falseShare 44 = .ok (.iload 4, 2) := by decide +kernel
theorem dX7_falseShare_46 : decode cX7_falseShare 46 = .ok (.ifCond .ne 7, 3) := by decide +kernel
theorem dX7_falseShare_49 : decode cX7_falseShare 49 = .ok (.lconst 1, 1) := by decide +kernel
theorem dX7_falseShare_50 : decode cX7_falseShare 50 = .ok (.goto 4, 3) := by decide +kernel
theorem dX7_falseShare_53 : decode cX7_falseShare 53 = .ok (.lconst 0, 1) := by decide +kernel
theorem dX7_falseShare_54 : decode cX7_falseShare 54 = .ok (.lastore, 1) := by decide +kernel
theorem dX7_falseShare_55 : decode cX7_falseShare 55 = .ok (.iinc 4 1, 3) := by decide +kernel
theorem dX7_falseShare_58 : decode cX7_falseShare 58 = .ok (.goto (-28), 3) := by decide +kernel
theorem dX7_falseShare_61 : decode cX7_falseShare 61 = .ok (.iconst 0, 1) := by decide +kernel
theorem dX7_falseShare_62 : decode cX7_falseShare 62 = .ok (.istore 4, 2) := by decide +kernel
theorem dX7_falseShare_64 : decode cX7_falseShare 64 = .ok (.lconst 1, 1) := by decide +kernel
theorem dX7_falseShare_65 : decode cX7_falseShare 65 = .ok (.lstore 5, 2) := by decide +kernel
theorem dX7_falseShare_67 : decode cX7_falseShare 67 = .ok (.iconst 0, 1) := by decide +kernel
theorem dX7_falseShare_68 : decode cX7_falseShare 68 = .ok (.istore 7, 2) := by decide +kernel
theorem dX7_falseShare_70 : decode cX7_falseShare 70 = .ok (.iload 7, 2) := by decide +kernel
theorem dX7_falseShare_72 : decode cX7_falseShare 72 = .ok (.aload_n 0, 1) := by decide +kernel
theorem dX7_falseShare_73 : decode cX7_falseShare 73 = .ok (.getfield 32, 3) := by decide +kernel
theorem dX7_falseShare_76 : decode cX7_falseShare 76 = .ok (.iload_n 1, 1) := by decide +kernel
theorem dX7_falseShare_77 : decode cX7_falseShare 77 = .ok (.iaload, 1) := by decide +kernel
theorem dX7_falseShare_78 : decode cX7_falseShare 78 = .ok (.if_icmp .ge 98, 3) := by decide +kernel
theorem dX7_falseShare_81 : decode cX7_falseShare 81 = .ok (.aload_n 0, 1) := by decide +kernel
theorem dX7_falseShare_82 : decode cX7_falseShare 82 = .ok (.iload_n 1, 1) := by decide +kernel
theorem dX7_falseShare_83 : decode cX7_falseShare 83 = .ok (.iload 7, 2) := by decide +kernel
theorem dX7_falseShare_85 : decode cX7_falseShare 85 = .ok (.invokevirtual 147, 3) := by decide +kernel
theorem dX7_falseShare_88 : decode cX7_falseShare 88 = .ok (.istore 8, 2) := by decide +kernel
theorem dX7_falseShare_90 : decode cX7_falseShare 90 = .ok (.lload 5, 2) := by decide +kernel
theorem dX7_falseShare_92 : decode cX7_falseShare 92 = .ok (.ldc2_w 242, 3) := by decide +kernel
theorem dX7_falseShare_95 : decode cX7_falseShare 95 = .ok (.lmul, 1) := by decide +kernel
theorem dX7_falseShare_96 : decode cX7_falseShare 96 = .ok (.lstore 5, 2) := by decide +kernel
theorem dX7_falseShare_98 : decode cX7_falseShare 98 = .ok (.iload 4, 2) := by decide +kernel
theorem dX7_falseShare_100 : decode cX7_falseShare 100 = .ok (.iload 8, 2) := by decide +kernel
theorem dX7_falseShare_102 : decode cX7_falseShare 102 = .ok (.iadd, 1) := by decide +kernel
theorem dX7_falseShare_103 : decode cX7_falseShare 103 = .ok (.istore 9, 2) := by decide +kernel
theorem dX7_falseShare_105 : decode cX7_falseShare 105 = .ok (.iload 9, 2) := by decide +kernel
theorem dX7_falseShare_107 : decode cX7_falseShare 107 = .ok (.ifCond .lt 56, 3) := by decide +kernel
theorem dX7_falseShare_110 : decode cX7_falseShare 110 = .ok (.aload_n 0, 1) := by decide +kernel
theorem dX7_falseShare_111 : decode cX7_falseShare 111 = .ok (.getfield 75, 3) := by decide +kernel
theorem dX7_falseShare_114 : decode cX7_falseShare 114 = .ok (.iload 9, 2) := by decide +kernel
theorem dX7_falseShare_116 : decode cX7_falseShare 116 = .ok (.iload 9, 2) := by decide +kernel
theorem dX7_falseShare_118 : decode cX7_falseShare 118 = .ok (.iload 4, 2) := by decide +kernel
theorem dX7_falseShare_120 : decode cX7_falseShare 120 = .ok (.if_icmp .gt 13, 3) := by decide +kernel
theorem dX7_falseShare_123 : decode cX7_falseShare 123 = .ok (.aload_n 0, 1) := by decide +kernel
theorem dX7_falseShare_124 : decode cX7_falseShare 124 = .ok (.getfield 75, 3) := by decide +kernel
theorem dX7_falseShare_127 : decode cX7_falseShare 127 = .ok (.iload 9, 2) := by decide +kernel
theorem dX7_falseShare_129 : decode cX7_falseShare 129 = .ok (.laload, 1) := by decide +kernel
theorem dX7_falseShare_130 : decode cX7_falseShare 130 = .ok (.goto 4, 3) := by decide +kernel
theorem dX7_falseShare_133 : decode cX7_falseShare 133 = .ok (.lconst 0, 1) := by decide +kernel
theorem dX7_falseShare_134 : decode cX7_falseShare 134 = .ok (.iload 9, 2) := by decide +kernel
theorem dX7_falseShare_136 : decode cX7_falseShare 136 = .ok (.iload 8, 2) := by decide +kernel
theorem dX7_falseShare_138 : decode cX7_falseShare 138 = .ok (.if_icmp .lt 16, 3) := by decide +kernel
theorem dX7_falseShare_141 : decode cX7_falseShare 141 = .ok (.aload_n 0, 1) := by decide +kernel
theorem dX7_falseShare_142 : decode cX7_falseShare 142 = .ok (.getfield 75, 3) := by decide +kernel
theorem dX7_falseShare_145 : decode cX7_falseShare 145 = .ok (.iload 9, 2) := by decide +kernel
theorem dX7_falseShare_147 : decode cX7_falseShare 147 = .ok (.iload 8, 2) := by decide +kernel
theorem dX7_falseShare_149 : decode cX7_falseShare 149 = .ok (.isub, 1) := by decide +kernel
theorem dX7_falseShare_150 : decode cX7_falseShare 150 = .ok (.laload, 1) := by decide +kernel
theorem dX7_falseShare_151 : decode cX7_falseShare 151 = .ok (.goto 4, 3) := by decide +kernel
theorem dX7_falseShare_154 : decode cX7_falseShare 154 = .ok (.lconst 0, 1) := by decide +kernel
theorem dX7_falseShare_155 : decode cX7_falseShare 155 = .ok (.ladd, 1) := by decide +kernel
theorem dX7_falseShare_156 : decode cX7_falseShare 156 = .ok (.lastore, 1) := by decide +kernel
theorem dX7_falseShare_157 : decode cX7_falseShare 157 = .ok (.iinc 9 (-1), 3) := by decide +kernel
theorem dX7_falseShare_160 : decode cX7_falseShare 160 = .ok (.goto (-55), 3) := by decide +kernel
theorem dX7_falseShare_163 : decode cX7_falseShare 163 = .ok (.iload 4, 2) := by decide +kernel
theorem dX7_falseShare_165 : decode cX7_falseShare 165 = .ok (.iload 8, 2) := by decide +kernel
theorem dX7_falseShare_167 : decode cX7_falseShare 167 = .ok (.iadd, 1) := by decide +kernel
theorem dX7_falseShare_168 : decode cX7_falseShare 168 = .ok (.istore 4, 2) := by decide +kernel
theorem dX7_falseShare_170 : decode cX7_falseShare 170 = .ok (.iinc 7 1, 3) := by decide +kernel
theorem dX7_falseShare_173 : decode cX7_falseShare 173 = .ok (.goto (-103), 3) := by decide +kernel
theorem dX7_falseShare_176 : decode cX7_falseShare 176 = .ok (.lconst 0, 1) := by decide +kernel
theorem dX7_falseShare_177 : decode cX7_falseShare 177 = .ok (.lstore 7, 2) := by decide +kernel
theorem dX7_falseShare_179 : decode cX7_falseShare 179 = .ok (.iconst 0, 1) := by decide +kernel
theorem dX7_falseShare_180 : decode cX7_falseShare 180 = .ok (.istore 9, 2) := by decide +kernel
theorem dX7_falseShare_182 : decode cX7_falseShare 182 = .ok (.iload 9, 2) := by decide +kernel
theorem dX7_falseShare_184 : decode cX7_falseShare 184 = .ok (.iload 4, 2) := by decide +kernel
theorem dX7_falseShare_186 : decode cX7_falseShare 186 = .ok (.if_icmp .gt 36, 3) := by decide +kernel
theorem dX7_falseShare_189 : decode cX7_falseShare 189 = .ok (.lload 7, 2) := by decide +kernel
theorem dX7_falseShare_191 : decode cX7_falseShare 191 = .ok (.iconst 2, 1) := by decide +kernel
theorem dX7_falseShare_192 : decode cX7_falseShare 192 = .ok (.iload 9, 2) := by decide +kernel
theorem dX7_falseShare_194 : decode cX7_falseShare 194 = .ok (.imul, 1) := by decide +kernel
theorem dX7_falseShare_195 : decode cX7_falseShare 195 = .ok (.iload 4, 2) := by decide +kernel
theorem dX7_falseShare_197 : decode cX7_falseShare 197 = .ok (.isub, 1) := by decide +kernel
theorem dX7_falseShare_198 : decode cX7_falseShare 198 = .ok (.iload_n 2, 1) := by decide +kernel
theorem dX7_falseShare_199 : decode cX7_falseShare 199 = .ok (.if_icmp .lt 13, 3) := by decide +kernel
theorem dX7_falseShare_202 : decode cX7_falseShare 202 = .ok (.aload_n 0, 1) := by decide +kernel
theorem dX7_falseShare_203 : decode cX7_falseShare 203 = .ok (.getfield 75, 3) := by decide +kernel
theorem dX7_falseShare_206 : decode cX7_falseShare 206 = .ok (.iload 9, 2) := by decide +kernel
theorem dX7_falseShare_208 : decode cX7_falseShare 208 = .ok (.laload, 1) := by decide +kernel
theorem dX7_falseShare_209 : decode cX7_falseShare 209 = .ok (.goto 4, 3) := by decide +kernel
theorem dX7_falseShare_212 : decode cX7_falseShare 212 = .ok (.lconst 0, 1) := by decide +kernel
theorem dX7_falseShare_213 : decode cX7_falseShare 213 = .ok (.ladd, 1) := by decide +kernel
theorem dX7_falseShare_214 : decode cX7_falseShare 214 = .ok (.lstore 7, 2) := by decide +kernel
theorem dX7_falseShare_216 : decode cX7_falseShare 216 = .ok (.iinc 9 1, 3) := by decide +kernel
theorem dX7_falseShare_219 : decode cX7_falseShare 219 = .ok (.goto (-37), 3) := by decide +kernel
theorem dX7_falseShare_222 : decode cX7_falseShare 222 = .ok (.aload_n 0, 1) := by decide +kernel
theorem dX7_falseShare_223 : decode cX7_falseShare 223 = .ok (.lload 7, 2) := by decide +kernel
theorem dX7_falseShare_225 : decode cX7_falseShare 225 = .ok (.lload 5, 2) := by decide +kernel
theorem dX7_falseShare_227 : decode cX7_falseShare 227 = .ok (.iconst 1, 1) := by decide +kernel
theorem dX7_falseShare_228 : decode cX7_falseShare 228 = .ok (.invokevirtual 229, 3) := by decide +kernel
theorem dX7_falseShare_231 : decode cX7_falseShare 231 = .ok (.ireturn, 1) := by decide +kernel
theorem dX7_cut_0 : decode cX7_cut 0 = .ok (.iload 4, 2) := by decide +kernel
theorem dX7_cut_2 : decode cX7_cut 2 = .ok (.invokestatic 123, 3) := by decide +kernel
theorem dX7_cut_5 : decode cX7_cut 5 = .ok (.ifCond .eq 8, 3) := by decide +kernel
theorem dX7_cut_8 : decode cX7_cut 8 = .ok (.iload_n 3, 1) := by decide +kernel
theorem dX7_cut_9 : decode cX7_cut 9 = .ok (.iconst 1, 1) := by decide +kernel
theorem dX7_cut_10 : decode cX7_cut 10 = .ok (.if_icmp .ge 5, 3) := by decide +kernel
theorem dX7_cut_13 : decode cX7_cut 13 = .ok (.iconst (-1), 1) := by decide +kernel
theorem dX7_cut_14 : decode cX7_cut 14 = .ok (.ireturn, 1) := by decide +kernel
theorem dX7_cut_15 : decode cX7_cut 15 = .ok (.aload_n 0, 1) := by decide +kernel
theorem dX7_cut_16 : decode cX7_cut 16 = .ok (.iload_n 1, 1) := by decide +kernel
theorem dX7_cut_17 : decode cX7_cut 17 = .ok (.invokevirtual 138, 3) := by decide +kernel
theorem dX7_cut_20 : decode cX7_cut 20 = .ok (.istore 5, 2) := by decide +kernel
theorem dX7_cut_22 : decode cX7_cut 22 = .ok (.iload 5, 2) := by decide +kernel
theorem dX7_cut_24 : decode cX7_cut 24 = .ok (.ifCond .ge 6, 3) := by decide +kernel
theorem dX7_cut_27 : decode cX7_cut 27 = .ok (.iload 5, 2) := by decide +kernel
theorem dX7_cut_29 : decode cX7_cut 29 = .ok (.ireturn, 1) := by decide +kernel
theorem dX7_cut_30 : decode cX7_cut 30 = .ok (.iload_n 2, 1) := by decide +kernel
theorem dX7_cut_31 : decode cX7_cut 31 = .ok (.ifCond .lt 19, 3) := by decide +kernel
theorem dX7_cut_34 : decode cX7_cut 34 = .ok (.iload_n 2, 1) := by decide +kernel
theorem dX7_cut_35 : decode cX7_cut 35 = .ok (.i2l, 1) := by decide +kernel
theorem dX7_cut_36 : decode cX7_cut 36 = .ok (.iload_n 3, 1) := by decide +kernel
theorem dX7_cut_37 : decode cX7_cut 37 = .ok (.i2l, 1) := by decide +kernel
theorem dX7_cut_38 : decode cX7_cut 38 = .ok (.ladd, 1) := by decide +kernel
theorem dX7_cut_39 : decode cX7_cut 39 = .ok (.aload_n 0, 1) := by decide +kernel
theorem dX7_cut_40 : decode cX7_cut 40 = .ok (.getfield 32, 3) := by decide +kernel
theorem dX7_cut_43 : decode cX7_cut 43 = .ok (.iload_n 1, 1) := by decide +kernel
theorem dX7_cut_44 : decode cX7_cut 44 = .ok (.iaload, 1) := by decide +kernel
theorem dX7_cut_45 : decode cX7_cut 45 = .ok (.i2l, 1) := by decide +kernel
theorem dX7_cut_46 : decode cX7_cut 46 = .ok (.lcmp, 1) := by decide +kernel
theorem dX7_cut_47 : decode cX7_cut 47 = .ok (.ifCond .le 9, 3) := by decide +kernel
theorem dX7_cut_50 : decode cX7_cut 50 = .ok (.aload_n 0, 1) := by decide +kernel
theorem dX7_cut_51 : decode cX7_cut 51 = .ok (.iconst 2, 1) := by decide +kernel
theorem dX7_cut_52 : decode cX7_cut 52 = .ok (.invokevirtual 100, 3) := by decide +kernel
theorem dX7_cut_55 : decode cX7_cut 55 = .ok (.ireturn, 1) := by decide +kernel
theorem dX7_cut_56 : decode cX7_cut 56 = .ok (.iconst 0, 1) := by decide +kernel
theorem dX7_cut_57 : decode cX7_cut 57 = .ok (.istore 6, 2) := by decide +kernel
theorem dX7_cut_59 : decode cX7_cut 59 = .ok (.iload 6, 2) := by decide +kernel
theorem dX7_cut_61 : decode cX7_cut 61 = .ok (.iload_n 3, 1) := by decide +kernel
theorem dX7_cut_62 : decode cX7_cut 62 = .ok (.if_icmp .ge 25, 3) := by decide +kernel
theorem dX7_cut_65 : decode cX7_cut 65 = .ok (.aload_n 0, 1) := by decide +kernel
theorem dX7_cut_66 : decode cX7_cut 66 = .ok (.getfield 23, 3) := by decide +kernel
theorem dX7_cut_69 : decode cX7_cut 69 = .ok (.iload 6, 2) := by decide +kernel
theorem dX7_cut_71 : decode cX7_cut 71 = .ok (.aload_n 0, 1) := by decide +kernel
theorem dX7_cut_72 : decode cX7_cut 72 = .ok (.iload_n 1, 1) := by decide +kernel
theorem dX7_cut_73 : decode cX7_cut 73 = .ok (.iload_n 2, 1) := by decide +kernel
theorem dX7_cut_74 : decode cX7_cut 74 = .ok (.iload 6, 2) := by decide +kernel
theorem dX7_cut_76 : decode cX7_cut 76 = .ok (.iadd, 1) := by decide +kernel
theorem dX7_cut_77 : decode cX7_cut 77 = .ok (.invokevirtual 147, 3) := by decide +kernel
theorem dX7_cut_80 : decode cX7_cut 80 = .ok (.iastore, 1) := by decide +kernel
theorem dX7_cut_81 : decode cX7_cut 81 = .ok (.iinc 6 1, 3) := by decide +kernel
theorem dX7_cut_84 : decode cX7_cut 84 = .ok (.goto (-25), 3) := by decide +kernel
theorem dX7_cut_87 : decode cX7_cut 87 = .ok (.aload_n 0, 1) := by decide +kernel
theorem dX7_cut_88 : decode cX7_cut 88 = .ok (.getfield 35, 3) := by decide +kernel
theorem dX7_cut_91 : decode cX7_cut 91 = .ok (.iload 4, 2) := by decide +kernel
theorem dX7_cut_93 : decode cX7_cut 93 = .ok (.iconst 0, 1) := by decide +kernel
theorem dX7_cut_94 : decode cX7_cut 94 = .ok (.iastore, 1) := by decide +kernel
theorem dX7_cut_95 : decode cX7_cut 95 = .ok (.aload_n 0, 1) := by decide +kernel
theorem dX7_cut_96 : decode cX7_cut 96 = .ok (.getfield 32, 3) := by decide +kernel
theorem dX7_cut_99 : decode cX7_cut 99 = .ok (.iload 4, 2) := by decide +kernel
theorem dX7_cut_101 : decode cX7_cut 101 = .ok (.iload_n 3, 1) := by decide +kernel
theorem dX7_cut_102 : decode cX7_cut 102 = .ok (.iastore, 1) := by decide +kernel
theorem dX7_cut_103 : decode cX7_cut 103 = .ok (.aload_n 0, 1) := by decide +kernel
theorem dX7_cut_104 : decode cX7_cut 104 = .ok (.getfield 47, 3) := by decide +kernel
theorem dX7_cut_107 : decode cX7_cut 107 = .ok (.iload 4, 2) := by decide +kernel
theorem dX7_cut_109 : decode cX7_cut 109 = .ok (.iconst 0, 1) := by decide +kernel
theorem dX7_cut_110 : decode cX7_cut 110 = .ok (.iastore, 1) := by decide +kernel
theorem dX7_cut_111 : decode cX7_cut 111 = .ok (.iconst 0, 1) := by decide +kernel
theorem dX7_cut_112 : decode cX7_cut 112 = .ok (.istore 6, 2) := by decide +kernel
theorem dX7_cut_114 : decode cX7_cut 114 = .ok (.iload 6, 2) := by decide +kernel
theorem dX7_cut_116 : decode cX7_cut 116 = .ok (.iload_n 3, 1) := by decide +kernel
theorem dX7_cut_117 : decode cX7_cut 117 = .ok (.if_icmp .ge 29, 3) := by decide +kernel
theorem dX7_cut_120 : decode cX7_cut 120 = .ok (.aload_n 0, 1) := by decide +kernel
theorem dX7_cut_121 : decode cX7_cut 121 = .ok (.getfield 38, 3) := by decide +kernel
theorem dX7_cut_124 : decode cX7_cut 124 = .ok (.bipush 40, 2) := by decide +kernel
theorem dX7_cut_126 : decode cX7_cut 126 = .ok (.iload 4, 2) := by decide +kernel
theorem dX7_cut_128 : decode cX7_cut 128 = .ok (.imul, 1) := by decide +kernel
theorem dX7_cut_129 : decode cX7_cut 129 = .ok (.iload 6, 2) := by decide +kernel
theorem dX7_cut_131 : decode cX7_cut 131 = .ok (.iadd, 1) := by decide +kernel
theorem dX7_cut_132 : decode cX7_cut 132 = .ok (.aload_n 0, 1) := by decide +kernel
theorem dX7_cut_133 : decode cX7_cut 133 = .ok (.getfield 23, 3) := by decide +kernel
theorem dX7_cut_136 : decode cX7_cut 136 = .ok (.iload 6, 2) := by decide +kernel
theorem dX7_cut_138 : decode cX7_cut 138 = .ok (.iaload, 1) := by decide +kernel
theorem dX7_cut_139 : decode cX7_cut 139 = .ok (.iastore, 1) := by decide +kernel
theorem dX7_cut_140 : decode cX7_cut 140 = .ok (.iinc 6 1, 3) := by decide +kernel
theorem dX7_cut_143 : decode cX7_cut 143 = .ok (.goto (-29), 3) := by decide +kernel
theorem dX7_cut_146 : decode cX7_cut 146 = .ok (.iload_n 3, 1) := by decide +kernel
theorem dX7_cut_147 : decode cX7_cut 147 = .ok (.ireturn, 1) := by decide +kernel
theorem dX7_isName_0 : decode cX7_isName 0 = .ok (.iload_n 0, 1) := by decide +kernel
theorem dX7_isName_1 : decode cX7_isName 1 = .ok (.iconst 0, 1) := by decide +kernel
theorem dX7_isName_2 : decode cX7_isName 2 = .ok (.sipush 4095, 3) := by decide +kernel
theorem dX7_isName_5 : decode cX7_isName 5 = .ok (.invokestatic 92, 3) := by decide +kernel
theorem dX7_isName_8 : decode cX7_isName 8 = .ok (.ireturn, 1) := by decide +kernel
theorem dX7_askedNames_0 : decode cX7_askedNames 0 = .ok (.aload_n 0, 1) := by decide +kernel
theorem dX7_askedNames_1 : decode cX7_askedNames 1 = .ok (.iload_n 1, 1) := by decide +kernel
theorem dX7_askedNames_2 : decode cX7_askedNames 2 = .ok (.invokevirtual 107, 3) := by decide +kernel
theorem dX7_askedNames_5 : decode cX7_askedNames 5 = .ok (.istore_n 2, 1) := by decide +kernel
theorem dX7_askedNames_6 : decode cX7_askedNames 6 = .ok (.iload_n 2, 1) := by decide +kernel
theorem dX7_askedNames_7 : decode cX7_askedNames 7 = .ok (.ifCond .ge 5, 3) := by decide +kernel
theorem dX7_askedNames_10 : decode cX7_askedNames 10 = .ok (.iload_n 2, 1) := by decide +kernel
theorem dX7_askedNames_11 : decode cX7_askedNames 11 = .ok (.ireturn, 1) := by decide +kernel
theorem dX7_askedNames_12 : decode cX7_askedNames 12 = .ok (.aload_n 0, 1) := by decide +kernel
theorem dX7_askedNames_13 : decode cX7_askedNames 13 = .ok (.getfield 17, 3) := by decide +kernel
theorem dX7_askedNames_16 : decode cX7_askedNames 16 = .ok (.iload_n 1, 1) := by decide +kernel
theorem dX7_askedNames_17 : decode cX7_askedNames 17 = .ok (.iaload, 1) := by decide +kernel
theorem dX7_askedNames_18 : decode cX7_askedNames 18 = .ok (.iconst 1, 1) := by decide +kernel
theorem dX7_askedNames_19 : decode cX7_askedNames 19 = .ok (.bipush 10, 2) := by decide +kernel
theorem dX7_askedNames_21 : decode cX7_askedNames 21 = .ok (.invokestatic 92, 3) := by decide +kernel
theorem dX7_askedNames_24 : decode cX7_askedNames 24 = .ok (.ifCond .ne 9, 3) := by decide +kernel
theorem dX7_askedNames_27 : decode cX7_askedNames 27 = .ok (.aload_n 0, 1) := by decide +kernel
theorem dX7_askedNames_28 : decode cX7_askedNames 28 = .ok (.iconst 5, 1) := by decide +kernel
theorem dX7_askedNames_29 : decode cX7_askedNames 29 = .ok (.invokevirtual 100, 3) := by decide +kernel
theorem dX7_askedNames_32 : decode cX7_askedNames 32 = .ok (.ireturn, 1) := by decide +kernel
theorem dX7_askedNames_33 : decode cX7_askedNames 33 = .ok (.iconst 1, 1) := by decide +kernel
theorem dX7_askedNames_34 : decode cX7_askedNames 34 = .ok (.istore_n 3, 1) := by decide +kernel
theorem dX7_askedNames_35 : decode cX7_askedNames 35 = .ok (.iconst 0, 1) := by decide +kernel
theorem dX7_askedNames_36 : decode cX7_askedNames 36 = .ok (.istore 4, 2) := by decide +kernel
theorem dX7_askedNames_38 : decode cX7_askedNames 38 = .ok (.iload 4, 2) := by decide +kernel
theorem dX7_askedNames_40 : decode cX7_askedNames 40 = .ok (.aload_n 0, 1) := by decide +kernel
theorem dX7_askedNames_41 : decode cX7_askedNames 41 = .ok (.getfield 17, 3) := by decide +kernel
theorem dX7_askedNames_44 : decode cX7_askedNames 44 = .ok (.iload_n 1, 1) := by decide +kernel
theorem dX7_askedNames_45 : decode cX7_askedNames 45 = .ok (.iaload, 1) := by decide +kernel
theorem dX7_askedNames_46 : decode cX7_askedNames 46 = .ok (.if_icmp .ge 32, 3) := by decide +kernel
theorem dX7_askedNames_49 : decode cX7_askedNames 49 = .ok (.iload_n 3, 1) := by decide +kernel
theorem dX7_askedNames_50 : decode cX7_askedNames 50 = .ok (.ifCond .eq 20, 3) := by decide +kernel
theorem dX7_askedNames_53 : decode cX7_askedNames 53 = .ok (.aload_n 0, 1) := by decide +kernel
theorem dX7_askedNames_54 : decode cX7_askedNames 54 = .ok (.iload_n 1, 1) := by decide +kernel
theorem dX7_askedNames_55 : decode cX7_askedNames 55 = .ok (.iload 4, 2) := by decide +kernel
theorem dX7_askedNames_57 : decode cX7_askedNames 57 = .ok (.invokevirtual 110, 3) := by decide +kernel
theorem dX7_askedNames_60 : decode cX7_askedNames 60 = .ok (.invokestatic 244, 3) := by decide +kernel
theorem dX7_askedNames_63 : decode cX7_askedNames 63 = .ok (.ifCond .eq 7, 3) := by decide +kernel
theorem dX7_askedNames_66 : decode cX7_askedNames 66 = .ok (.iconst 1, 1) := by decide +kernel
theorem dX7_askedNames_67 : decode cX7_askedNames 67 = .ok (.goto 4, 3) := by decide +kernel
theorem dX7_askedNames_70 : decode cX7_askedNames 70 = .ok (.iconst 0, 1) := by decide +kernel
theorem dX7_askedNames_71 : decode cX7_askedNames 71 = .ok (.istore_n 3, 1) := by decide +kernel
theorem dX7_askedNames_72 : decode cX7_askedNames 72 = .ok (.iinc 4 1, 3) := by decide +kernel
theorem dX7_askedNames_75 : decode cX7_askedNames 75 = .ok (.goto (-37), 3) := by decide +kernel
theorem dX7_askedNames_78 : decode cX7_askedNames 78 = .ok (.iload_n 3, 1) := by decide +kernel
theorem dX7_askedNames_79 : decode cX7_askedNames 79 = .ok (.ifCond .eq 7, 3) := by decide +kernel
theorem dX7_askedNames_82 : decode cX7_askedNames 82 = .ok (.iconst 0, 1) := by decide +kernel
theorem dX7_askedNames_83 : decode cX7_askedNames 83 = .ok (.goto 8, 3) := by decide +kernel
theorem dX7_askedNames_86 : decode cX7_askedNames 86 = .ok (.aload_n 0, 1) := by decide +kernel
theorem dX7_askedNames_87 : decode cX7_askedNames 87 = .ok (.iconst 3, 1) := by decide +kernel
theorem dX7_askedNames_88 : decode cX7_askedNames 88 = .ok (.invokevirtual 100, 3) := by decide +kernel
theorem dX7_askedNames_91 : decode cX7_askedNames 91 = .ok (.ireturn, 1) := by decide +kernel
theorem dX7_canMake_0 : decode cX7_canMake 0 = .ok (.iconst 0, 1) := by decide +kernel
theorem dX7_canMake_1 : decode cX7_canMake 1 = .ok (.istore 4, 2) := by decide +kernel
theorem dX7_canMake_3 : decode cX7_canMake 3 = .ok (.sipush 4095, 3) := by decide +kernel
theorem dX7_canMake_6 : decode cX7_canMake 6 = .ok (.istore 5, 2) := by decide +kernel
theorem dX7_canMake_8 : decode cX7_canMake 8 = .ok (.iconst 0, 1) := by decide +kernel
theorem dX7_canMake_9 : decode cX7_canMake 9 = .ok (.istore 6, 2) := by decide +kernel
theorem dX7_canMake_11 : decode cX7_canMake 11 = .ok (.iload 6, 2) := by decide +kernel
theorem dX7_canMake_13 : decode cX7_canMake 13 = .ok (.aload_n 0, 1) := by decide +kernel
theorem dX7_canMake_14 : decode cX7_canMake 14 = .ok (.getfield 17, 3) := by decide +kernel
theorem dX7_canMake_17 : decode cX7_canMake 17 = .ok (.iload_n 1, 1) := by decide +kernel
theorem dX7_canMake_18 : decode cX7_canMake 18 = .ok (.iaload, 1) := by decide +kernel
theorem dX7_canMake_19 : decode cX7_canMake 19 = .ok (.if_icmp .ge 61, 3) := by decide +kernel
theorem dX7_canMake_22 : decode cX7_canMake 22 = .ok (.iload 4, 2) := by decide +kernel
theorem dX7_canMake_24 : decode cX7_canMake 24 = .ok (.iload_n 2, 1) := by decide +kernel
theorem dX7_canMake_25 : decode cX7_canMake 25 = .ok (.iload 6, 2) := by decide +kernel
theorem dX7_canMake_27 : decode cX7_canMake 27 = .ok (.invokestatic 134, 3) := by decide +kernel
theorem dX7_canMake_30 : decode cX7_canMake 30 = .ok (.ifCond .eq 13, 3) := by decide +kernel
theorem dX7_canMake_33 : decode cX7_canMake 33 = .ok (.aload_n 0, 1) := by decide +kernel
theorem dX7_canMake_34 : decode cX7_canMake 34 = .ok (.iload_n 1, 1) := by decide +kernel
theorem dX7_canMake_35 : decode cX7_canMake 35 = .ok (.iload 6, 2) := by decide +kernel
theorem dX7_canMake_37 : decode cX7_canMake 37 = .ok (.invokevirtual 110, 3) := by decide +kernel
theorem dX7_canMake_40 : decode cX7_canMake 40 = .ok (.goto 4, 3) := by decide +kernel
theorem dX7_canMake_43 : decode cX7_canMake 43 = .ok (.iconst 0, 1) := by decide +kernel
theorem dX7_canMake_44 : decode cX7_canMake 44 = .ok (.ior, 1) := by decide +kernel
theorem dX7_canMake_45 : decode cX7_canMake 45 = .ok (.istore 4, 2) := by decide +kernel
theorem dX7_canMake_47 : decode cX7_canMake 47 = .ok (.iload 5, 2) := by decide +kernel
theorem dX7_canMake_49 : decode cX7_canMake 49 = .ok (.iload_n 2, 1) := by decide +kernel
theorem dX7_canMake_50 : decode cX7_canMake 50 = .ok (.iload 6, 2) := by decide +kernel
theorem dX7_canMake_52 : decode cX7_canMake 52 = .ok (.invokestatic 134, 3) := by decide +kernel
theorem dX7_canMake_55 : decode cX7_canMake 55 = .ok (.ifCond .eq 13, 3) := by decide +kernel
theorem dX7_canMake_58 : decode cX7_canMake 58 = .ok (.aload_n 0, 1) := by decide +kernel
theorem dX7_canMake_59 : decode cX7_canMake 59 = .ok (.iload_n 1, 1) := by decide +kernel
theorem dX7_canMake_60 : decode cX7_canMake 60 = .ok (.iload 6, 2) := by decide +kernel
theorem dX7_canMake_62 : decode cX7_canMake 62 = .ok (.invokevirtual 110, 3) := by decide +kernel
theorem dX7_canMake_65 : decode cX7_canMake 65 = .ok (.goto 6, 3) := by decide +kernel
theorem dX7_canMake_68 : decode cX7_canMake 68 = .ok (.sipush 4095, 3) := by decide +kernel
theorem dX7_canMake_71 : decode cX7_canMake 71 = .ok (.iand, 1) := by decide +kernel
theorem dX7_canMake_72 : decode cX7_canMake 72 = .ok (.istore 5, 2) := by decide +kernel
theorem dX7_canMake_74 : decode cX7_canMake 74 = .ok (.iinc 6 1, 3) := by decide +kernel
theorem dX7_canMake_77 : decode cX7_canMake 77 = .ok (.goto (-66), 3) := by decide +kernel
theorem dX7_canMake_80 : decode cX7_canMake 80 = .ok (.iload_n 3, 1) := by decide +kernel
theorem dX7_canMake_81 : decode cX7_canMake 81 = .ok (.iload 4, 2) := by decide +kernel
theorem dX7_canMake_83 : decode cX7_canMake 83 = .ok (.iconst (-1), 1) := by decide +kernel
theorem dX7_canMake_84 : decode cX7_canMake 84 = .ok (.ixor, 1) := by decide +kernel
theorem dX7_canMake_85 : decode cX7_canMake 85 = .ok (.iand, 1) := by decide +kernel
theorem dX7_canMake_86 : decode cX7_canMake 86 = .ok (.ifCond .ne 16, 3) := by decide +kernel
theorem dX7_canMake_89 : decode cX7_canMake 89 = .ok (.iload 5, 2) := by decide +kernel
theorem dX7_canMake_91 : decode cX7_canMake 91 = .ok (.iload_n 3, 1) := by decide +kernel
theorem dX7_canMake_92 : decode cX7_canMake 92 = .ok (.iconst (-1), 1) := by decide +kernel
theorem dX7_canMake_93 : decode cX7_canMake 93 = .ok (.ixor, 1) := by decide +kernel
theorem dX7_canMake_94 : decode cX7_canMake 94 = .ok (.iand, 1) := by decide +kernel
theorem dX7_canMake_95 : decode cX7_canMake 95 = .ok (.ifCond .ne 7, 3) := by decide +kernel
theorem dX7_canMake_98 : decode cX7_canMake 98 = .ok (.iconst 1, 1) := by decide +kernel
theorem dX7_canMake_99 : decode cX7_canMake 99 = .ok (.goto 4, 3) := by decide +kernel
theorem dX7_canMake_102 : decode cX7_canMake 102 = .ok (.iconst 0, 1) := by decide +kernel
theorem dX7_canMake_103 : decode cX7_canMake 103 = .ok (.ireturn, 1) := by decide +kernel
theorem dX7_makes_0 : decode cX7_makes 0 = .ok (.iload_n 2, 1) := by decide +kernel
theorem dX7_makes_1 : decode cX7_makes 1 = .ok (.iconst 1, 1) := by decide +kernel
theorem dX7_makes_2 : decode cX7_makes 2 = .ok (.if_icmp .lt 10, 3) := by decide +kernel
theorem dX7_makes_5 : decode cX7_makes 5 = .ok (.iload_n 3, 1) := by decide +kernel
theorem dX7_makes_6 : decode cX7_makes 6 = .ok (.invokestatic 244, 3) := by decide +kernel
theorem dX7_makes_9 : decode cX7_makes 9 = .ok (.ifCond .ne 5, 3) := by decide +kernel
theorem dX7_makes_12 : decode cX7_makes 12 = .ok (.iconst (-1), 1) := by decide +kernel
theorem dX7_makes_13 : decode cX7_makes 13 = .ok (.ireturn, 1) := by decide +kernel
theorem dX7_makes_14 : decode cX7_makes 14 = .ok (.aload_n 0, 1) := by decide +kernel
theorem dX7_makes_15 : decode cX7_makes 15 = .ok (.iload_n 1, 1) := by decide +kernel
theorem dX7_makes_16 : decode cX7_makes 16 = .ok (.invokevirtual 247, 3) := by decide +kernel
theorem dX7_makes_19 : decode cX7_makes 19 = .ok (.istore 4, 2) := by decide +kernel
theorem dX7_makes_21 : decode cX7_makes 21 = .ok (.iload 4, 2) := by decide +kernel
theorem dX7_makes_23 : decode cX7_makes 23 = .ok (.ifCond .ge 6, 3) := by decide +kernel
theorem dX7_makes_26 : decode cX7_makes 26 = .ok (.iload 4, 2) := by decide +kernel
theorem dX7_makes_28 : decode cX7_makes 28 = .ok (.ireturn, 1) := by decide +kernel
theorem dX7_makes_29 : decode cX7_makes 29 = .ok (.iload_n 2, 1) := by decide +kernel
theorem dX7_makes_30 : decode cX7_makes 30 = .ok (.iconst 1, 1) := by decide +kernel
theorem dX7_makes_31 : decode cX7_makes 31 = .ok (.aload_n 0, 1) := by decide +kernel
theorem dX7_makes_32 : decode cX7_makes 32 = .ok (.getfield 17, 3) := by decide +kernel
theorem dX7_makes_35 : decode cX7_makes 35 = .ok (.iload_n 1, 1) := by decide +kernel
theorem dX7_makes_36 : decode cX7_makes 36 = .ok (.iaload, 1) := by decide +kernel
theorem dX7_makes_37 : decode cX7_makes 37 = .ok (.ishl, 1) := by decide +kernel
theorem dX7_makes_38 : decode cX7_makes 38 = .ok (.if_icmp .lt 7, 3) := by decide +kernel
theorem dX7_makes_41 : decode cX7_makes 41 = .ok (.iconst (-1), 1) := by decide +kernel
theorem dX7_makes_42 : decode cX7_makes 42 = .ok (.goto 18, 3) := by decide +kernel
theorem dX7_makes_45 : decode cX7_makes 45 = .ok (.aload_n 0, 1) := by decide +kernel
theorem dX7_makes_46 : decode cX7_makes 46 = .ok (.iload_n 1, 1) := by decide +kernel
theorem dX7_makes_47 : decode cX7_makes 47 = .ok (.iload_n 2, 1) := by decide +kernel
theorem dX7_makes_48 : decode cX7_makes 48 = .ok (.iload_n 3, 1) := by decide +kernel
theorem dX7_makes_49 : decode cX7_makes 49 = .ok (.invokevirtual 250, 3) := by decide +kernel
theorem dX7_makes_52 : decode cX7_makes 52 = .ok (.ifCond .eq 7, 3) := by decide +kernel
theorem dX7_makes_55 : decode cX7_makes 55 = .ok (.iconst 1, 1) := by decide +kernel
theorem dX7_makes_56 : decode cX7_makes 56 = .ok (.goto 4, 3) := by decide +kernel
theorem dX7_makes_59 : decode cX7_makes 59 = .ok (.iconst 0, 1) := by decide +kernel
theorem dX7_makes_60 : decode cX7_makes 60 = .ok (.ireturn, 1) := by decide +kernel
theorem dX7_guilty_0 : decode cX7_guilty 0 = .ok (.iload_n 2, 1) := by decide +kernel
theorem dX7_guilty_1 : decode cX7_guilty 1 = .ok (.iconst 1, 1) := by decide +kernel
theorem dX7_guilty_2 : decode cX7_guilty 2 = .ok (.iconst 4, 1) := by decide +kernel
theorem dX7_guilty_3 : decode cX7_guilty 3 = .ok (.invokestatic 92, 3) := by decide +kernel
theorem dX7_guilty_6 : decode cX7_guilty 6 = .ok (.ifCond .eq 10, 3) := by decide +kernel
theorem dX7_guilty_9 : decode cX7_guilty 9 = .ok (.iload_n 3, 1) := by decide +kernel
theorem dX7_guilty_10 : decode cX7_guilty 10 = .ok (.invokestatic 244, 3) := by decide +kernel
theorem dX7_guilty_13 : decode cX7_guilty 13 = .ok (.ifCond .ne 5, 3) := by decide +kernel
theorem dX7_guilty_16 : decode cX7_guilty 16 = .ok (.iconst (-1), 1) := by decide +kernel
theorem dX7_guilty_17 : decode cX7_guilty 17 = .ok (.ireturn, 1) := by decide +kernel
theorem dX7_guilty_18 : decode cX7_guilty 18 = .ok (.aload_n 0, 1) := by decide +kernel
theorem dX7_guilty_19 : decode cX7_guilty 19 = .ok (.iload_n 1, 1) := by decide +kernel
theorem dX7_guilty_20 : decode cX7_guilty 20 = .ok (.invokevirtual 247, 3) := by decide +kernel
theorem dX7_guilty_23 : decode cX7_guilty 23 = .ok (.istore 4, 2) := by decide +kernel
theorem dX7_guilty_25 : decode cX7_guilty 25 = .ok (.iload 4, 2) := by decide +kernel
theorem dX7_guilty_27 : decode cX7_guilty 27 = .ok (.ifCond .ge 6, 3) := by decide +kernel
theorem dX7_guilty_30 : decode cX7_guilty 30 = .ok (.iload 4, 2) := by decide +kernel
theorem dX7_guilty_32 : decode cX7_guilty 32 = .ok (.ireturn, 1) := by decide +kernel
theorem dX7_guilty_33 : decode cX7_guilty 33 = .ok (.iconst 0, 1) := by decide +kernel
theorem dX7_guilty_34 : decode cX7_guilty 34 = .ok (.istore 5, 2) := by decide +kernel
theorem dX7_guilty_36 : decode cX7_guilty 36 = .ok (.iconst 1, 1) := by decide +kernel
theorem dX7_guilty_37 : decode cX7_guilty 37 = .ok (.aload_n 0, 1) := by decide +kernel
theorem dX7_guilty_38 : decode cX7_guilty 38 = .ok (.getfield 17, 3) := by decide +kernel
theorem dX7_guilty_41 : decode cX7_guilty 41 = .ok (.iload_n 1, 1) := by decide +kernel
theorem dX7_guilty_42 : decode cX7_guilty 42 = .ok (.iaload, 1) := by decide +kernel
theorem dX7_guilty_43 : decode cX7_guilty 43 = .ok (.ishl, 1) := by decide +kernel
theorem dX7_guilty_44 : decode cX7_guilty 44 = .ok (.iconst 1, 1) := by decide +kernel
theorem dX7_guilty_45 : decode cX7_guilty 45 = .ok (.isub, 1) := by decide +kernel
theorem dX7_guilty_46 : decode cX7_guilty 46 = .ok (.istore 6, 2) := by decide +kernel
theorem dX7_guilty_48 : decode cX7_guilty 48 = .ok (.iconst 1, 1) := by decide +kernel
theorem dX7_guilty_49 : decode cX7_guilty 49 = .ok (.istore 7, 2) := by decide +kernel
theorem dX7_guilty_51 : decode cX7_guilty 51 = .ok (.iload 7, 2) := by decide +kernel
theorem dX7_guilty_53 : decode cX7_guilty 53 = .ok (.iconst 1, 1) := by decide +kernel
theorem dX7_guilty_54 : decode cX7_guilty 54 = .ok (.aload_n 0, 1) := by decide +kernel
theorem dX7_guilty_55 : decode cX7_guilty 55 = .ok (.getfield 17, 3) := by decide +kernel
theorem dX7_guilty_58 : decode cX7_guilty 58 = .ok (.iload_n 1, 1) := by decide +kernel
theorem dX7_guilty_59 : decode cX7_guilty 59 = .ok (.iaload, 1) := by decide +kernel
theorem dX7_guilty_60 : decode cX7_guilty 60 = .ok (.ishl, 1) := by decide +kernel
theorem dX7_guilty_61 : decode cX7_guilty 61 = .ok (.if_icmp .ge 39, 3) := by decide +kernel
theorem dX7_guilty_64 : decode cX7_guilty 64 = .ok (.iload 7, 2) := by decide +kernel
theorem dX7_guilty_66 : decode cX7_guilty 66 = .ok (.invokestatic 203, 3) := by decide +kernel
theorem dX7_guilty_69 : decode cX7_guilty 69 = .ok (.iload_n 2, 1) := by decide +kernel
theorem dX7_guilty_70 : decode cX7_guilty 70 = .ok (.if_icmp .gt 24, 3) := by decide +kernel
theorem dX7_guilty_73 : decode cX7_guilty 73 = .ok (.aload_n 0, 1) := by decide +kernel
theorem dX7_guilty_74 : decode cX7_guilty 74 = .ok (.iload_n 1, 1) := by decide +kernel
theorem dX7_guilty_75 : decode cX7_guilty 75 = .ok (.iload 7, 2) := by decide +kernel
theorem dX7_guilty_77 : decode cX7_guilty 77 = .ok (.iload_n 3, 1) := by decide +kernel
theorem dX7_guilty_78 : decode cX7_guilty 78 = .ok (.invokevirtual 250, 3) := by decide +kernel
theorem dX7_guilty_81 : decode cX7_guilty 81 = .ok (.ifCond .eq 13, 3) := by decide +kernel
theorem dX7_guilty_84 : decode cX7_guilty 84 = .ok (.iinc 5 1, 3) := by decide +kernel
theorem dX7_guilty_87 : decode cX7_guilty 87 = .ok (.iload 6, 2) := by decide +kernel
theorem dX7_guilty_89 : decode cX7_guilty 89 = .ok (.iload 7, 2) := by decide +kernel
theorem dX7_guilty_91 : decode cX7_guilty 91 = .ok (.iand, 1) := by decide +kernel
theorem dX7_guilty_92 : decode cX7_guilty 92 = .ok (.istore 6, 2) := by decide +kernel
theorem dX7_guilty_94 : decode cX7_guilty 94 = .ok (.iinc 7 1, 3) := by decide +kernel
theorem dX7_guilty_97 : decode cX7_guilty 97 = .ok (.goto (-46), 3) := by decide +kernel
theorem dX7_guilty_100 : decode cX7_guilty 100 = .ok (.aload_n 0, 1) := by decide +kernel
theorem dX7_guilty_101 : decode cX7_guilty 101 = .ok (.iload 5, 2) := by decide +kernel
theorem dX7_guilty_103 : decode cX7_guilty 103 = .ok (.ifCond .ne 7, 3) := by decide +kernel
theorem dX7_guilty_106 : decode cX7_guilty 106 = .ok (.iconst 0, 1) := by decide +kernel
theorem dX7_guilty_107 : decode cX7_guilty 107 = .ok (.goto 5, 3) := by decide +kernel
theorem dX7_guilty_110 : decode cX7_guilty 110 = .ok (.iload 6, 2) := by decide +kernel
theorem dX7_guilty_112 : decode cX7_guilty 112 = .ok (.iload 5, 2) := by decide +kernel
theorem dX7_guilty_114 : decode cX7_guilty 114 = .ok (.invokevirtual 114, 3) := by decide +kernel
theorem dX7_guilty_117 : decode cX7_guilty 117 = .ok (.ireturn, 1) := by decide +kernel
theorem dX7_apart_0 : decode cX7_apart 0 = .ok (.aload_n 0, 1) := by decide +kernel
theorem dX7_apart_1 : decode cX7_apart 1 = .ok (.iload_n 1, 1) := by decide +kernel
theorem dX7_apart_2 : decode cX7_apart 2 = .ok (.invokevirtual 247, 3) := by decide +kernel
