theorem dX6_fault_8 : decode cX6_fault 8 = .ok (.iconst (-1), 1) := by decide +kernel
theorem dX6_fault_9 : decode cX6_fault 9 = .ok (.ireturn, 1) := by decide +kernel
theorem dX6_fault_10 : decode cX6_fault 10 = .ok (.aload_n 0, 1) := by decide +kernel
theorem dX6_fault_11 : decode cX6_fault 11 = .ok (.getfield 15, 3) := by decide +kernel
theorem dX6_fault_14 : decode cX6_fault 14 = .ok (.iload_n 1, 1) := by decide +kernel
theorem dX6_fault_15 : decode cX6_fault 15 = .ok (.aaload, 1) := by decide +kernel
theorem dX6_fault_16 : decode cX6_fault 16 = .ok (.invokevirtual 85, 3) := by decide +kernel
theorem dX6_fault_19 : decode cX6_fault 19 = .ok (.ifCond .eq 9, 3) := by decide +kernel
theorem dX6_fault_22 : decode cX6_fault 22 = .ok (.aload_n 0, 1) := by decide +kernel
theorem dX6_fault_23 : decode cX6_fault 23 = .ok (.iconst 1, 1) := by decide +kernel
theorem dX6_fault_24 : decode cX6_fault 24 = .ok (.invokevirtual 77, 3) := by decide +kernel
theorem dX6_fault_27 : decode cX6_fault 27 = .ok (.ireturn, 1) := by decide +kernel
theorem dX6_fault_28 : decode cX6_fault 28 = .ok (.aload_n 0, 1) := by decide +kernel
theorem dX6_fault_29 : decode cX6_fault 29 = .ok (.getfield 31, 3) := by decide +kernel
theorem dX6_fault_32 : decode cX6_fault 32 = .ok (.aload_n 0, 1) := by decide +kernel
theorem dX6_fault_33 : decode cX6_fault 33 = .ok (.getfield 15, 3) := by decide +kernel
theorem dX6_fault_36 : decode cX6_fault 36 = .ok (.iload_n 1, 1) := by decide +kernel
theorem dX6_fault_37 : decode cX6_fault 37 = .ok (.aaload, 1) := by decide +kernel
theorem dX6_fault_38 : decode cX6_fault 38 = .ok (.invokevirtual 184, 3) := by decide +kernel
theorem dX6_fault_41 : decode cX6_fault 41 = .ok (.ireturn, 1) := by decide +kernel
theorem dX6_code_0 : decode cX6_code 0 = .ok (.aload_n 0, 1) := by decide +kernel
theorem dX6_code_1 : decode cX6_code 1 = .ok (.iload_n 1, 1) := by decide +kernel
theorem dX6_code_2 : decode cX6_code 2 = .ok (.invokevirtual 188, 3) := by decide +kernel
theorem dX6_code_5 : decode cX6_code 5 = .ok (.ifCond .eq 11, 3) := by decide +kernel
theorem dX6_code_8 : decode cX6_code 8 = .ok (.aload_n 0, 1) := by decide +kernel
theorem dX6_code_9 : decode cX6_code 9 = .ok (.iload_n 2, 1) := by decide +kernel
theorem dX6_code_10 : decode cX6_code 10 = .ok (.invokevirtual 121, 3) := by decide +kernel
theorem dX6_code_13 : decode cX6_code 13 = .ok (.ifCond .ne 5, 3) := by decide +kernel
theorem dX6_code_16 : decode cX6_code 16 = .ok (.iconst (-1), 1) := by decide +kernel
theorem dX6_code_17 : decode cX6_code 17 = .ok (.ireturn, 1) := by decide +kernel
theorem dX6_code_18 : decode cX6_code 18 = .ok (.aload_n 0, 1) := by decide +kernel
theorem dX6_code_19 : decode cX6_code 19 = .ok (.getfield 15, 3) := by decide +kernel
theorem dX6_code_22 : decode cX6_code 22 = .ok (.iload_n 2, 1) := by decide +kernel
theorem dX6_code_23 : decode cX6_code 23 = .ok (.aaload, 1) := by decide +kernel
theorem dX6_code_24 : decode cX6_code 24 = .ok (.invokevirtual 85, 3) := by decide +kernel
theorem dX6_code_27 : decode cX6_code 27 = .ok (.ifCond .eq 9, 3) := by decide +kernel
theorem dX6_code_30 : decode cX6_code 30 = .ok (.aload_n 0, 1) := by decide +kernel
theorem dX6_code_31 : decode cX6_code 31 = .ok (.iconst 1, 1) := by decide +kernel
theorem dX6_code_32 : decode cX6_code 32 = .ok (.invokevirtual 77, 3) := by decide +kernel
theorem dX6_code_35 : decode cX6_code 35 = .ok (.ireturn, 1) := by decide +kernel
theorem dX6_code_36 : decode cX6_code 36 = .ok (.aload_n 0, 1) := by decide +kernel
theorem dX6_code_37 : decode cX6_code 37 = .ok (.getfield 31, 3) := by decide +kernel
theorem dX6_code_40 : decode cX6_code 40 = .ok (.aload_n 0, 1) := by decide +kernel
theorem dX6_code_41 : decode cX6_code 41 = .ok (.getfield 15, 3) := by decide +kernel
theorem dX6_code_44 : decode cX6_code 44 = .ok (.iload_n 2, 1) := by decide +kernel
theorem dX6_code_45 : decode cX6_code 45 = .ok (.aaload, 1) := by decide +kernel
theorem dX6_code_46 : decode cX6_code 46 = .ok (.invokevirtual 184, 3) := by decide +kernel
theorem dX6_code_49 : decode cX6_code 49 = .ok (.bipush (-9), 2) := by decide +kernel
theorem dX6_code_51 : decode cX6_code 51 = .ok (.if_icmp .eq 6, 3) := by decide +kernel
theorem dX6_code_54 : decode cX6_code 54 = .ok (.bipush (-4), 2) := by decide +kernel
theorem dX6_code_56 : decode cX6_code 56 = .ok (.ireturn, 1) := by decide +kernel
theorem dX6_code_57 : decode cX6_code 57 = .ok (.aload_n 0, 1) := by decide +kernel
theorem dX6_code_58 : decode cX6_code 58 = .ok (.getfield 26, 3) := by decide +kernel
theorem dX6_code_61 : decode cX6_code 61 = .ok (.iload_n 1, 1) := by decide +kernel
theorem dX6_code_62 : decode cX6_code 62 = .ok (.aaload, 1) := by decide +kernel
theorem dX6_code_63 : decode cX6_code 63 = .ok (.aload_n 0, 1) := by decide +kernel
theorem dX6_code_64 : decode cX6_code 64 = .ok (.getfield 31, 3) := by decide +kernel
theorem dX6_code_67 : decode cX6_code 67 = .ok (.invokevirtual 191, 3) := by decide +kernel
theorem dX6_code_70 : decode cX6_code 70 = .ok (.aload_n 0, 1) := by decide +kernel
theorem dX6_code_71 : decode cX6_code 71 = .ok (.getfield 31, 3) := by decide +kernel
theorem dX6_code_74 : decode cX6_code 74 = .ok (.getfield 195, 3) := by decide +kernel
theorem dX6_code_77 : decode cX6_code 77 = .ok (.ireturn, 1) := by decide +kernel
theorem dX6_line_0 : decode cX6_line 0 = .ok (.aload_n 0, 1) := by decide +kernel
theorem dX6_line_1 : decode cX6_line 1 = .ok (.iload_n 1, 1) := by decide +kernel
theorem dX6_line_2 : decode cX6_line 2 = .ok (.invokevirtual 188, 3) := by decide +kernel
theorem dX6_line_5 : decode cX6_line 5 = .ok (.ifCond .ne 5, 3) := by decide +kernel
theorem dX6_line_8 : decode cX6_line 8 = .ok (.iconst (-1), 1) := by decide +kernel
theorem dX6_line_9 : decode cX6_line 9 = .ok (.ireturn, 1) := by decide +kernel
theorem dX6_line_10 : decode cX6_line 10 = .ok (.aload_n 0, 1) := by decide +kernel
theorem dX6_line_11 : decode cX6_line 11 = .ok (.getfield 26, 3) := by decide +kernel
theorem dX6_line_14 : decode cX6_line 14 = .ok (.iload_n 1, 1) := by decide +kernel
theorem dX6_line_15 : decode cX6_line 15 = .ok (.aaload, 1) := by decide +kernel
theorem dX6_line_16 : decode cX6_line 16 = .ok (.astore_n 3, 1) := by decide +kernel
theorem dX6_line_17 : decode cX6_line 17 = .ok (.aload_n 3, 1) := by decide +kernel
theorem dX6_line_18 : decode cX6_line 18 = .ok (.invokevirtual 198, 3) := by decide +kernel
theorem dX6_line_21 : decode cX6_line 21 = .ok (.ifCond .eq 9, 3) := by decide +kernel
theorem dX6_line_24 : decode cX6_line 24 = .ok (.aload_n 0, 1) := by decide +kernel
theorem dX6_line_25 : decode cX6_line 25 = .ok (.iconst 1, 1) := by decide +kernel
theorem dX6_line_26 : decode cX6_line 26 = .ok (.invokevirtual 77, 3) := by decide +kernel
theorem dX6_line_29 : decode cX6_line 29 = .ok (.ireturn, 1) := by decide +kernel
theorem dX6_line_30 : decode cX6_line 30 = .ok (.aload_n 3, 1) := by decide +kernel
theorem dX6_line_31 : decode cX6_line 31 = .ok (.iload_n 2, 1) := by decide +kernel
theorem dX6_line_32 : decode cX6_line 32 = .ok (.invokevirtual 199, 3) := by decide +kernel
theorem dX6_line_35 : decode cX6_line 35 = .ok (.ifCond .eq 11, 3) := by decide +kernel
theorem dX6_line_38 : decode cX6_line 38 = .ok (.aload_n 3, 1) := by decide +kernel
theorem dX6_line_39 : decode cX6_line 39 = .ok (.iload_n 2, 1) := by decide +kernel
theorem dX6_line_40 : decode cX6_line 40 = .ok (.invokevirtual 200, 3) := by decide +kernel
theorem dX6_line_43 : decode cX6_line 43 = .ok (.goto 8, 3) := by decide +kernel
theorem dX6_line_46 : decode cX6_line 46 = .ok (.aload_n 0, 1) := by decide +kernel
theorem dX6_line_47 : decode cX6_line 47 = .ok (.iconst 2, 1) := by decide +kernel
theorem dX6_line_48 : decode cX6_line 48 = .ok (.invokevirtual 77, 3) := by decide +kernel
theorem dX6_line_51 : decode cX6_line 51 = .ok (.ireturn, 1) := by decide +kernel
theorem dX6_room_0 : decode cX6_room 0 = .ok (.aload_n 0, 1) := by decide +kernel
theorem dX6_room_1 : decode cX6_room 1 = .ok (.iload_n 1, 1) := by decide +kernel
theorem dX6_room_2 : decode cX6_room 2 = .ok (.invokevirtual 124, 3) := by decide +kernel
theorem dX6_room_5 : decode cX6_room 5 = .ok (.ifCond .eq 11, 3) := by decide +kernel
theorem dX6_room_8 : decode cX6_room 8 = .ok (.aload_n 0, 1) := by decide +kernel
theorem dX6_room_9 : decode cX6_room 9 = .ok (.iload_n 2, 1) := by decide +kernel
theorem dX6_room_10 : decode cX6_room 10 = .ok (.invokevirtual 188, 3) := by decide +kernel
theorem dX6_room_13 : decode cX6_room 13 = .ok (.ifCond .ne 5, 3) := by decide +kernel
theorem dX6_room_16 : decode cX6_room 16 = .ok (.iconst (-1), 1) := by decide +kernel
theorem dX6_room_17 : decode cX6_room 17 = .ok (.ireturn, 1) := by decide +kernel
theorem dX6_room_18 : decode cX6_room 18 = .ok (.aload_n 0, 1) := by decide +kernel
theorem dX6_room_19 : decode cX6_room 19 = .ok (.getfield 20, 3) := by decide +kernel
theorem dX6_room_22 : decode cX6_room 22 = .ok (.iload_n 1, 1) := by decide +kernel
theorem dX6_room_23 : decode cX6_room 23 = .ok (.aaload, 1) := by decide +kernel
theorem dX6_room_24 : decode cX6_room 24 = .ok (.invokevirtual 142, 3) := by decide +kernel
theorem dX6_room_27 : decode cX6_room 27 = .ok (.ifCond .ne 15, 3) := by decide +kernel
theorem dX6_room_30 : decode cX6_room 30 = .ok (.aload_n 0, 1) := by decide +kernel
theorem dX6_room_31 : decode cX6_room 31 = .ok (.getfield 26, 3) := by decide +kernel
theorem dX6_room_34 : decode cX6_room 34 = .ok (.iload_n 2, 1) := by decide +kernel
theorem dX6_room_35 : decode cX6_room 35 = .ok (.aaload, 1) := by decide +kernel
theorem dX6_room_36 : decode cX6_room 36 = .ok (.invokevirtual 198, 3) := by decide +kernel
theorem dX6_room_39 : decode cX6_room 39 = .ok (.ifCond .eq 9, 3) := by decide +kernel
theorem dX6_room_42 : decode cX6_room 42 = .ok (.aload_n 0, 1) := by decide +kernel
theorem dX6_room_43 : decode cX6_room 43 = .ok (.iconst 1, 1) := by decide +kernel
theorem dX6_room_44 : decode cX6_room 44 = .ok (.invokevirtual 77, 3) := by decide +kernel
theorem dX6_room_47 : decode cX6_room 47 = .ok (.ireturn, 1) := by decide +kernel
theorem dX6_room_48 : decode cX6_room 48 = .ok (.aload_n 0, 1) := by decide +kernel
theorem dX6_room_49 : decode cX6_room 49 = .ok (.getfield 26, 3) := by decide +kernel
theorem dX6_room_52 : decode cX6_room 52 = .ok (.iload_n 2, 1) := by decide +kernel
theorem dX6_room_53 : decode cX6_room 53 = .ok (.aaload, 1) := by decide +kernel
theorem dX6_room_54 : decode cX6_room 54 = .ok (.getfield 195, 3) := by decide +kernel
theorem dX6_room_57 : decode cX6_room 57 = .ok (.aload_n 0, 1) := by decide +kernel
theorem dX6_room_58 : decode cX6_room 58 = .ok (.getfield 26, 3) := by decide +kernel
theorem dX6_room_61 : decode cX6_room 61 = .ok (.iload_n 2, 1) := by decide +kernel
theorem dX6_room_62 : decode cX6_room 62 = .ok (.aaload, 1) := by decide +kernel
theorem dX6_room_63 : decode cX6_room 63 = .ok (.aload_n 0, 1) := by decide +kernel
theorem dX6_room_64 : decode cX6_room 64 = .ok (.getfield 20, 3) := by decide +kernel
theorem dX6_room_67 : decode cX6_room 67 = .ok (.iload_n 1, 1) := by decide +kernel
theorem dX6_room_68 : decode cX6_room 68 = .ok (.aaload, 1) := by decide +kernel
theorem dX6_room_69 : decode cX6_room 69 = .ok (.invokevirtual 203, 3) := by decide +kernel
theorem dX6_room_72 : decode cX6_room 72 = .ok (.imul, 1) := by decide +kernel
theorem dX6_room_73 : decode cX6_room 73 = .ok (.ireturn, 1) := by decide +kernel
theorem dX6_hide_0 : decode cX6_hide 0 = .ok (.aload_n 0, 1) := by decide +kernel
theorem dX6_hide_1 : decode cX6_hide 1 = .ok (.iload_n 1, 1) := by decide +kernel
theorem dX6_hide_2 : decode cX6_hide 2 = .ok (.iload_n 2, 1) := by decide +kernel
theorem dX6_hide_3 : decode cX6_hide 3 = .ok (.iload_n 3, 1) := by decide +kernel
theorem dX6_hide_4 : decode cX6_hide 4 = .ok (.iload 4, 2) := by decide +kernel
theorem dX6_hide_6 : decode cX6_hide 6 = .ok (.invokevirtual 207, 3) := by decide +kernel
theorem dX6_hide_9 : decode cX6_hide 9 = .ok (.istore 5, 2) := by decide +kernel
theorem dX6_hide_11 : decode cX6_hide 11 = .ok (.iload 5, 2) := by decide +kernel
theorem dX6_hide_13 : decode cX6_hide 13 = .ok (.ifCond .lt 22, 3) := by decide +kernel
theorem dX6_hide_16 : decode cX6_hide 16 = .ok (.aload_n 0, 1) := by decide +kernel
theorem dX6_hide_17 : decode cX6_hide 17 = .ok (.getfield 43, 3) := by decide +kernel
theorem dX6_hide_20 : decode cX6_hide 20 = .ok (.aload_n 0, 1) := by decide +kernel
theorem dX6_hide_21 : decode cX6_hide 21 = .ok (.getfield 20, 3) := by decide +kernel
theorem dX6_hide_24 : decode cX6_hide 24 = .ok (.iload_n 1, 1) := by decide +kernel
theorem dX6_hide_25 : decode cX6_hide 25 = .ok (.aaload, 1) := by decide +kernel
theorem dX6_hide_26 : decode cX6_hide 26 = .ok (.aload_n 0, 1) := by decide +kernel
theorem dX6_hide_27 : decode cX6_hide 27 = .ok (.getfield 26, 3) := by decide +kernel
theorem dX6_hide_30 : decode cX6_hide 30 = .ok (.iload_n 3, 1) := by decide +kernel
theorem dX6_hide_31 : decode cX6_hide 31 = .ok (.aaload, 1) := by decide +kernel
theorem dX6_hide_32 : decode cX6_hide 32 = .ok (.invokevirtual 211, 3) := by decide +kernel
theorem dX6_hide_35 : decode cX6_hide 35 = .ok (.iload 5, 2) := by decide +kernel
theorem dX6_hide_37 : decode cX6_hide 37 = .ok (.ireturn, 1) := by decide +kernel
theorem dX6_price_0 : decode cX6_price 0 = .ok (.aload_n 0, 1) := by decide +kernel
theorem dX6_price_1 : decode cX6_price 1 = .ok (.iload_n 1, 1) := by decide +kernel
theorem dX6_price_2 : decode cX6_price 2 = .ok (.iload_n 2, 1) := by decide +kernel
theorem dX6_price_3 : decode cX6_price 3 = .ok (.iload_n 3, 1) := by decide +kernel
theorem dX6_price_4 : decode cX6_price 4 = .ok (.iload 4, 2) := by decide +kernel
theorem dX6_price_6 : decode cX6_price 6 = .ok (.invokevirtual 207, 3) := by decide +kernel
theorem dX6_price_9 : decode cX6_price 9 = .ok (.istore 5, 2) := by decide +kernel
theorem dX6_price_11 : decode cX6_price 11 = .ok (.iload 5, 2) := by decide +kernel
theorem dX6_price_13 : decode cX6_price 13 = .ok (.ifCond .lt 14, 3) := by decide +kernel
theorem dX6_price_16 : decode cX6_price 16 = .ok (.aload_n 0, 1) := by decide +kernel
theorem dX6_price_17 : decode cX6_price 17 = .ok (.aload_n 0, 1) := by decide +kernel
theorem dX6_price_18 : decode cX6_price 18 = .ok (.getfield 43, 3) := by decide +kernel
theorem dX6_price_21 : decode cX6_price 21 = .ok (.invokevirtual 215, 3) := by decide +kernel
theorem dX6_price_24 : decode cX6_price 24 = .ok (.putfield 61, 3) := by decide +kernel
theorem dX6_price_27 : decode cX6_price 27 = .ok (.iload 5, 2) := by decide +kernel
theorem dX6_price_29 : decode cX6_price 29 = .ok (.ireturn, 1) := by decide +kernel
theorem dX6_read_0 : decode cX6_read 0 = .ok (.aload_n 0, 1) := by decide +kernel
theorem dX6_read_1 : decode cX6_read 1 = .ok (.iload_n 1, 1) := by decide +kernel
theorem dX6_read_2 : decode cX6_read 2 = .ok (.invokevirtual 124, 3) := by decide +kernel
theorem dX6_read_5 : decode cX6_read 5 = .ok (.ifCond .eq 32, 3) := by decide +kernel
theorem dX6_read_8 : decode cX6_read 8 = .ok (.aload_n 0, 1) := by decide +kernel
theorem dX6_read_9 : decode cX6_read 9 = .ok (.iload_n 3, 1) := by decide +kernel
theorem dX6_read_10 : decode cX6_read 10 = .ok (.invokevirtual 188, 3) := by decide +kernel
theorem dX6_read_13 : decode cX6_read 13 = .ok (.ifCond .eq 24, 3) := by decide +kernel
theorem dX6_read_16 : decode cX6_read 16 = .ok (.aload_n 0, 1) := by decide +kernel
theorem dX6_read_17 : decode cX6_read 17 = .ok (.iload 5, 2) := by decide +kernel
theorem dX6_read_19 : decode cX6_read 19 = .ok (.invokevirtual 73, 3) := by decide +kernel
theorem dX6_read_22 : decode cX6_read 22 = .ok (.ifCond .eq 15, 3) := by decide +kernel
theorem dX6_read_25 : decode cX6_read 25 = .ok (.iload 4, 2) := by decide +kernel
theorem dX6_read_27 : decode cX6_read 27 = .ok (.ifCond .lt 10, 3) := by decide +kernel
theorem dX6_read_30 : decode cX6_read 30 = .ok (.iload 4, 2) := by decide +kernel
theorem dX6_read_32 : decode cX6_read 32 = .ok (.bipush 40, 2) := by decide +kernel
theorem dX6_read_34 : decode cX6_read 34 = .ok (.if_icmp .le 5, 3) := by decide +kernel
theorem dX6_read_37 : decode cX6_read 37 = .ok (.iconst (-1), 1) := by decide +kernel
theorem dX6_read_38 : decode cX6_read 38 = .ok (.ireturn, 1) := by decide +kernel
theorem dX6_read_39 : decode cX6_read 39 = .ok (.aload_n 0, 1) := by decide +kernel
theorem dX6_read_40 : decode cX6_read 40 = .ok (.getfield 20, 3) := by decide +kernel
theorem dX6_read_43 : decode cX6_read 43 = .ok (.iload_n 1, 1) := by decide +kernel
theorem dX6_read_44 : decode cX6_read 44 = .ok (.aaload, 1) := by decide +kernel
theorem dX6_read_45 : decode cX6_read 45 = .ok (.astore 6, 2) := by decide +kernel
theorem dX6_read_47 : decode cX6_read 47 = .ok (.aload_n 0, 1) := by decide +kernel
theorem dX6_read_48 : decode cX6_read 48 = .ok (.getfield 26, 3) := by decide +kernel
theorem dX6_read_51 : decode cX6_read 51 = .ok (.iload_n 3, 1) := by decide +kernel
theorem dX6_read_52 : decode cX6_read 52 = .ok (.aaload, 1) := by decide +kernel
theorem dX6_read_53 : decode cX6_read 53 = .ok (.astore 7, 2) := by decide +kernel
theorem dX6_read_55 : decode cX6_read 55 = .ok (.aload 6, 2) := by decide +kernel
theorem dX6_read_57 : decode cX6_read 57 = .ok (.invokevirtual 142, 3) := by decide +kernel
theorem dX6_read_60 : decode cX6_read 60 = .ok (.ifCond .ne 11, 3) := by decide +kernel
theorem dX6_read_63 : decode cX6_read 63 = .ok (.aload 7, 2) := by decide +kernel
theorem dX6_read_65 : decode cX6_read 65 = .ok (.invokevirtual 198, 3) := by decide +kernel
theorem dX6_read_68 : decode cX6_read 68 = .ok (.ifCond .eq 9, 3) := by decide +kernel
theorem dX6_read_71 : decode cX6_read 71 = .ok (.aload_n 0, 1) := by decide +kernel
theorem dX6_read_72 : decode cX6_read 72 = .ok (.iconst 1, 1) := by decide +kernel
theorem dX6_read_73 : decode cX6_read 73 = .ok (.invokevirtual 77, 3) := by decide +kernel
theorem dX6_read_76 : decode cX6_read 76 = .ok (.ireturn, 1) := by decide +kernel
theorem dX6_read_77 : decode cX6_read 77 = .ok (.iload 4, 2) := by decide +kernel
theorem dX6_read_79 : decode cX6_read 79 = .ok (.aload 7, 2) := by decide +kernel
theorem dX6_read_81 : decode cX6_read 81 = .ok (.getfield 195, 3) := by decide +kernel
theorem dX6_read_84 : decode cX6_read 84 = .ok (.imul, 1) := by decide +kernel
theorem dX6_read_85 : decode cX6_read 85 = .ok (.istore 8, 2) := by decide +kernel
theorem dX6_read_87 : decode cX6_read 87 = .ok (.iload 4, 2) := by decide +kernel
theorem dX6_read_89 : decode cX6_read 89 = .ok (.aload 7, 2) := by decide +kernel
theorem dX6_read_91 : decode cX6_read 91 = .ok (.aload 6, 2) := by decide +kernel
theorem dX6_read_93 : decode cX6_read 93 = .ok (.invokevirtual 203, 3) := by decide +kernel
theorem dX6_read_96 : decode cX6_read 96 = .ok (.if_icmp .gt 10, 3) := by decide +kernel
theorem dX6_read_99 : decode cX6_read 99 = .ok (.iload 8, 2) := by decide +kernel
theorem dX6_read_101 : decode cX6_read 101 = .ok (.bipush 40, 2) := by decide +kernel
theorem dX6_read_103 : decode cX6_read 103 = .ok (.if_icmp .le 9, 3) := by decide +kernel
theorem dX6_read_106 : decode cX6_read 106 = .ok (.aload_n 0, 1) := by decide +kernel
theorem dX6_read_107 : decode cX6_read 107 = .ok (.iconst 2, 1) := by decide +kernel
theorem dX6_read_108 : decode cX6_read 108 = .ok (.invokevirtual 77, 3) := by decide +kernel
theorem dX6_read_111 : decode cX6_read 111 = .ok (.ireturn, 1) := by decide +kernel
theorem dX6_read_112 : decode cX6_read 112 = .ok (.aload_n 0, 1) := by decide +kernel
theorem dX6_read_113 : decode cX6_read 113 = .ok (.getfield 43, 3) := by decide +kernel
theorem dX6_read_116 : decode cX6_read 116 = .ok (.iload_n 2, 1) := by decide +kernel
theorem dX6_read_117 : decode cX6_read 117 = .ok (.aload 6, 2) := by decide +kernel
theorem dX6_read_119 : decode cX6_read 119 = .ok (.getfield 151, 3) := by decide +kernel
theorem dX6_read_122 : decode cX6_read 122 = .ok (.invokevirtual 178, 3) := by decide +kernel
theorem dX6_read_125 : decode cX6_read 125 = .ok (.aload_n 0, 1) := by decide +kernel
theorem dX6_read_126 : decode cX6_read 126 = .ok (.getfield 11, 3) := by decide +kernel
theorem dX6_read_129 : decode cX6_read 129 = .ok (.iload 5, 2) := by decide +kernel
theorem dX6_read_131 : decode cX6_read 131 = .ok (.aaload, 1) := by decide +kernel
theorem dX6_read_132 : decode cX6_read 132 = .ok (.iload 8, 2) := by decide +kernel
theorem dX6_read_134 : decode cX6_read 134 = .ok (.iconst 0, 1) := by decide +kernel
theorem dX6_read_135 : decode cX6_read 135 = .ok (.invokevirtual 81, 3) := by decide +kernel
theorem dX6_read_138 : decode cX6_read 138 = .ok (.iconst 0, 1) := by decide +kernel
theorem dX6_read_139 : decode cX6_read 139 = .ok (.istore 9, 2) := by decide +kernel
theorem dX6_read_141 : decode cX6_read 141 = .ok (.iload 9, 2) := by decide +kernel
theorem dX6_read_143 : decode cX6_read 143 = .ok (.iload 4, 2) := by decide +kernel
theorem dX6_read_145 : decode cX6_read 145 = .ok (.if_icmp .ge 71, 3) := by decide +kernel
theorem dX6_read_148 : decode cX6_read 148 = .ok (.aload_n 0, 1) := by decide +kernel
theorem dX6_read_149 : decode cX6_read 149 = .ok (.getfield 43, 3) := by decide +kernel
theorem dX6_read_152 : decode cX6_read 152 = .ok (.aload 6, 2) := by decide +kernel
theorem dX6_read_154 : decode cX6_read 154 = .ok (.aload 7, 2) := by decide +kernel
theorem dX6_read_156 : decode cX6_read 156 = .ok (.iload 9, 2) := by decide +kernel
theorem dX6_read_158 : decode cX6_read 158 = .ok (.invokevirtual 218, 3) := by decide +kernel
theorem dX6_read_161 : decode cX6_read 161 = .ok (.istore 10, 2) := by decide +kernel
theorem dX6_read_163 : decode cX6_read 163 = .ok (.iconst 0, 1) := by decide +kernel
theorem dX6_read_164 : decode cX6_read 164 = .ok (.istore 11, 2) := by decide +kernel
theorem dX6_read_166 : decode cX6_read 166 = .ok (.iload 11, 2) := by decide +kernel
theorem dX6_read_168 : decode cX6_read 168 = .ok (.aload 7, 2) := by decide +kernel
theorem dX6_read_170 : decode cX6_read 170 = .ok (.getfield 195, 3) := by decide +kernel
theorem dX6_read_173 : decode cX6_read 173 = .ok (.if_icmp .ge 37, 3) := by decide +kernel
theorem dX6_read_176 : decode cX6_read 176 = .ok (.aload_n 0, 1) := by decide +kernel
theorem dX6_read_177 : decode cX6_read 177 = .ok (.getfield 11, 3) := by decide +kernel
theorem dX6_read_180 : decode cX6_read 180 = .ok (.iload 5, 2) := by decide +kernel
theorem dX6_read_182 : decode cX6_read 182 = .ok (.aaload, 1) := by decide +kernel
theorem dX6_read_183 : decode cX6_read 183 = .ok (.iload 9, 2) := by decide +kernel
theorem dX6_read_185 : decode cX6_read 185 = .ok (.aload 7, 2) := by decide +kernel
theorem dX6_read_187 : decode cX6_read 187 = .ok (.getfield 195, 3) := by decide +kernel
theorem dX6_read_190 : decode cX6_read 190 = .ok (.imul, 1) := by decide +kernel
theorem dX6_read_191 : decode cX6_read 191 = .ok (.iload 11, 2) := by decide +kernel
theorem dX6_read_193 : decode cX6_read 193 = .ok (.iadd, 1) := by decide +kernel
theorem dX6_read_194 : decode cX6_read 194 = .ok (.iload 10, 2) := by decide +kernel
theorem dX6_read_196 : decode cX6_read 196 = .ok (.iload 11, 2) := by decide +kernel
theorem dX6_read_198 : decode cX6_read 198 = .ok (.ishr, 1) := by decide +kernel
theorem dX6_read_199 : decode cX6_read 199 = .ok (.iconst 1, 1) := by decide +kernel
theorem dX6_read_200 : decode cX6_read 200 = .ok (.iand, 1) := by decide +kernel
theorem dX6_read_201 : decode cX6_read 201 = .ok (.invokevirtual 95, 3) := by decide +kernel
theorem dX6_read_204 : decode cX6_read 204 = .ok (.iinc 11 1, 3) := by decide +kernel
theorem dX6_read_207 : decode cX6_read 207 = .ok (.goto (-41), 3) := by decide +kernel
theorem dX6_read_210 : decode cX6_read 210 = .ok (.iinc 9 1, 3) := by decide +kernel
theorem dX6_read_213 : decode cX6_read 213 = .ok (.goto (-72), 3) := by decide +kernel
theorem dX6_read_216 : decode cX6_read 216 = .ok (.iload 8, 2) := by decide +kernel
theorem dX6_read_218 : decode cX6_read 218 = .ok (.ireturn, 1) := by decide +kernel
theorem dX6_changes_0 : decode cX6_changes 0 = .ok (.aload_n 0, 1) := by decide +kernel
theorem dX6_changes_1 : decode cX6_changes 1 = .ok (.iload_n 1, 1) := by decide +kernel
theorem dX6_changes_2 : decode cX6_changes 2 = .ok (.invokevirtual 188, 3) := by decide +kernel
theorem dX6_changes_5 : decode cX6_changes 5 = .ok (.ifCond .ne 5, 3) := by decide +kernel
theorem dX6_changes_8 : decode cX6_changes 8 = .ok (.iconst (-1), 1) := by decide +kernel
theorem dX6_changes_9 : decode cX6_changes 9 = .ok (.ireturn, 1) := by decide +kernel
theorem dX6_changes_10 : decode cX6_changes 10 = .ok (.aload_n 0, 1) := by decide +kernel
theorem dX6_changes_11 : decode cX6_changes 11 = .ok (.getfield 26, 3) := by decide +kernel
theorem dX6_changes_14 : decode cX6_changes 14 = .ok (.iload_n 1, 1) := by decide +kernel
theorem dX6_changes_15 : decode cX6_changes 15 = .ok (.aaload, 1) := by decide +kernel
theorem dX6_changes_16 : decode cX6_changes 16 = .ok (.invokevirtual 198, 3) := by decide +kernel
theorem dX6_changes_19 : decode cX6_changes 19 = .ok (.ifCond .eq 9, 3) := by decide +kernel
theorem dX6_changes_22 : decode cX6_changes 22 = .ok (.aload_n 0, 1) := by decide +kernel
theorem dX6_changes_23 : decode cX6_changes 23 = .ok (.iconst 1, 1) := by decide +kernel
theorem dX6_changes_24 : decode cX6_changes 24 = .ok (.invokevirtual 77, 3) := by decide +kernel
theorem dX6_changes_27 : decode cX6_changes 27 = .ok (.ireturn, 1) := by decide +kernel
theorem dX6_changes_28 : decode cX6_changes 28 = .ok (.aload_n 0, 1) := by decide +kernel
theorem dX6_changes_29 : decode cX6_changes 29 = .ok (.getfield 43, 3) := by decide +kernel
theorem dX6_changes_32 : decode cX6_changes 32 = .ok (.aload_n 0, 1) := by decide +kernel
theorem dX6_changes_33 : decode cX6_changes 33 = .ok (.getfield 26, 3) := by decide +kernel
theorem dX6_changes_36 : decode cX6_changes 36 = .ok (.iload_n 1, 1) := by decide +kernel
theorem dX6_changes_37 : decode cX6_changes 37 = .ok (.aaload, 1) := by decide +kernel
theorem dX6_changes_38 : decode cX6_changes 38 = .ok (.invokevirtual 222, 3) := by decide +kernel
theorem dX6_changes_41 : decode cX6_changes 41 = .ok (.aload_n 0, 1) := by decide +kernel
theorem dX6_changes_42 : decode cX6_changes 42 = .ok (.getfield 57, 3) := by decide +kernel
theorem dX6_changes_45 : decode cX6_changes 45 = .ok (.aload_n 0, 1) := by decide +kernel
theorem dX6_changes_46 : decode cX6_changes 46 = .ok (.getfield 43, 3) := by decide +kernel
theorem dX6_changes_49 : decode cX6_changes 49 = .ok (.invokevirtual 225, 3) := by decide +kernel
theorem dX6_changes_52 : decode cX6_changes 52 = .ok (.i2l, 1) := by decide +kernel
theorem dX6_changes_53 : decode cX6_changes 53 = .ok (.aload_n 0, 1) := by decide +kernel
theorem dX6_changes_54 : decode cX6_changes 54 = .ok (.getfield 43, 3) := by decide +kernel
theorem dX6_changes_57 : decode cX6_changes 57 = .ok (.invokevirtual 228, 3) := by decide +kernel
theorem dX6_changes_60 : decode cX6_changes 60 = .ok (.i2l, 1) := by decide +kernel
theorem dX6_changes_61 : decode cX6_changes 61 = .ok (.invokevirtual 231, 3) := by decide +kernel
theorem dX6_changes_64 : decode cX6_changes 64 = .ok (.aload_n 0, 1) := by decide +kernel
theorem dX6_changes_65 : decode cX6_changes 65 = .ok (.getfield 43, 3) := by decide +kernel
theorem dX6_changes_68 : decode cX6_changes 68 = .ok (.invokevirtual 235, 3) := by decide +kernel
theorem dX6_changes_71 : decode cX6_changes 71 = .ok (.ireturn, 1) := by decide +kernel
theorem dX6_reach_0 : decode cX6_reach 0 = .ok (.aload_n 0, 1) := by decide +kernel
theorem dX6_reach_1 : decode cX6_reach 1 = .ok (.iload_n 1, 1) := by decide +kernel
theorem dX6_reach_2 : decode cX6_reach 2 = .ok (.invokevirtual 188, 3) := by decide +kernel
theorem dX6_reach_5 : decode cX6_reach 5 = .ok (.ifCond .ne 5, 3) := by decide +kernel
theorem dX6_reach_8 : decode cX6_reach 8 = .ok (.iconst (-1), 1) := by decide +kernel
theorem dX6_reach_9 : decode cX6_reach 9 = .ok (.ireturn, 1) := by decide +kernel
theorem dX6_reach_10 : decode cX6_reach 10 = .ok (.aload_n 0, 1) := by decide +kernel
theorem dX6_reach_11 : decode cX6_reach 11 = .ok (.getfield 26, 3) := by decide +kernel
theorem dX6_reach_14 : decode cX6_reach 14 = .ok (.iload_n 1, 1) := by decide +kernel
theorem dX6_reach_15 : decode cX6_reach 15 = .ok (.aaload, 1) := by decide +kernel
theorem dX6_reach_16 : decode cX6_reach 16 = .ok (.invokevirtual 198, 3) := by decide +kernel
theorem dX6_reach_19 : decode cX6_reach 19 = .ok (.ifCond .eq 9, 3) := by decide +kernel
theorem dX6_reach_22 : decode cX6_reach 22 = .ok (.aload_n 0, 1) := by decide +kernel
theorem dX6_reach_23 : decode cX6_reach 23 = .ok (.iconst 1, 1) := by decide +kernel
theorem dX6_reach_24 : decode cX6_reach 24 = .ok (.invokevirtual 77, 3) := by decide +kernel
theorem dX6_reach_27 : decode cX6_reach 27 = .ok (.ireturn, 1) := by decide +kernel
theorem dX6_reach_28 : decode cX6_reach 28 = .ok (.aload_n 0, 1) := by decide +kernel
theorem dX6_reach_29 : decode cX6_reach 29 = .ok (.getfield 43, 3) := by decide +kernel
theorem dX6_reach_32 : decode cX6_reach 32 = .ok (.aload_n 0, 1) := by decide +kernel
theorem dX6_reach_33 : decode cX6_reach 33 = .ok (.getfield 26, 3) := by decide +kernel
theorem dX6_reach_36 : decode cX6_reach 36 = .ok (.iload_n 1, 1) := by decide +kernel
theorem dX6_reach_37 : decode cX6_reach 37 = .ok (.aaload, 1) := by decide +kernel
theorem dX6_reach_38 : decode cX6_reach 38 = .ok (.invokevirtual 222, 3) := by decide +kernel
theorem dX6_reach_41 : decode cX6_reach 41 = .ok (.aload_n 0, 1) := by decide +kernel
theorem dX6_reach_42 : decode cX6_reach 42 = .ok (.getfield 43, 3) := by decide +kernel
theorem dX6_reach_45 : decode cX6_reach 45 = .ok (.invokevirtual 228, 3) := by decide +kernel
theorem dX6_reach_48 : decode cX6_reach 48 = .ok (.ireturn, 1) := by decide +kernel
theorem dX6_parts_0 : decode cX6_parts 0 = .ok (.iload_n 1, 1) := by decide +kernel
theorem dX6_parts_1 : decode cX6_parts 1 = .ok (.ifCond .lt 20, 3) := by decide +kernel
theorem dX6_parts_4 : decode cX6_parts 4 = .ok (.iload_n 1, 1) := by decide +kernel
theorem dX6_parts_5 : decode cX6_parts 5 = .ok (.sipush 251, 3) := by decide +kernel
theorem dX6_parts_8 : decode cX6_parts 8 = .ok (.if_icmp .ge 13, 3) := by decide +kernel
theorem dX6_parts_11 : decode cX6_parts 11 = .ok (.iload_n 2, 1) := by decide +kernel
theorem dX6_parts_12 : decode cX6_parts 12 = .ok (.iconst 1, 1) := by decide +kernel
theorem dX6_parts_13 : decode cX6_parts 13 = .ok (.if_icmp .lt 8, 3) := by decide +kernel
theorem dX6_parts_16 : decode cX6_parts 16 = .ok (.iload_n 2, 1) := by decide +kernel
theorem dX6_parts_17 : decode cX6_parts 17 = .ok (.iconst 5, 1) := by decide +kernel
theorem dX6_parts_18 : decode cX6_parts 18 = .ok (.if_icmp .le 5, 3) := by decide +kernel
theorem dX6_parts_21 : decode cX6_parts 21 = .ok (.iconst (-1), 1) := by decide +kernel
theorem dX6_parts_22 : decode cX6_parts 22 = .ok (.ireturn, 1) := by decide +kernel
theorem dX6_parts_23 : decode cX6_parts 23 = .ok (.iload_n 3, 1) := by decide +kernel
theorem dX6_parts_24 : decode cX6_parts 24 = .ok (.iload_n 2, 1) := by decide +kernel
theorem dX6_parts_25 : decode cX6_parts 25 = .ok (.if_icmp .lt 18, 3) := by decide +kernel
theorem dX6_parts_28 : decode cX6_parts 28 = .ok (.iload_n 3, 1) := by decide +kernel
theorem dX6_parts_29 : decode cX6_parts 29 = .ok (.bipush 10, 2) := by decide +kernel
theorem dX6_parts_31 : decode cX6_parts 31 = .ok (.if_icmp .gt 12, 3) := by decide +kernel
theorem dX6_parts_34 : decode cX6_parts 34 = .ok (.aload_n 0, 1) := by decide +kernel
theorem dX6_parts_35 : decode cX6_parts 35 = .ok (.iload 5, 2) := by decide +kernel
theorem dX6_parts_37 : decode cX6_parts 37 = .ok (.invokevirtual 73, 3) := by decide +kernel
theorem dX6_parts_40 : decode cX6_parts 40 = .ok (.ifCond .ne 5, 3) := by decide +kernel
theorem dX6_parts_43 : decode cX6_parts 43 = .ok (.iconst (-1), 1) := by decide +kernel
theorem dX6_parts_44 : decode cX6_parts 44 = .ok (.ireturn, 1) := by decide +kernel
theorem dX6_parts_45 : decode cX6_parts 45 = .ok (.aload_n 0, 1) := by decide +kernel
theorem dX6_parts_46 : decode cX6_parts 46 = .ok (.getfield 11, 3) := by decide +kernel
theorem dX6_parts_49 : decode cX6_parts 49 = .ok (.iload 5, 2) := by decide +kernel
theorem dX6_parts_51 : decode cX6_parts 51 = .ok (.aaload, 1) := by decide +kernel
theorem dX6_parts_52 : decode cX6_parts 52 = .ok (.astore 6, 2) := by decide +kernel
theorem dX6_parts_54 : decode cX6_parts 54 = .ok (.aload 6, 2) := by decide +kernel
theorem dX6_parts_56 : decode cX6_parts 56 = .ok (.iload_n 3, 1) := by decide +kernel
theorem dX6_parts_57 : decode cX6_parts 57 = .ok (.iload_n 1, 1) := by decide +kernel
theorem dX6_parts_58 : decode cX6_parts 58 = .ok (.invokevirtual 81, 3) := by decide +kernel
theorem dX6_parts_61 : decode cX6_parts 61 = .ok (.iload 4, 2) := by decide +kernel
theorem dX6_parts_63 : decode cX6_parts 63 = .ok (.istore 7, 2) := by decide +kernel
theorem dX6_parts_65 : decode cX6_parts 65 = .ok (.iconst 1, 1) := by decide +kernel
theorem dX6_parts_66 : decode cX6_parts 66 = .ok (.istore 8, 2) := by decide +kernel
theorem dX6_parts_68 : decode cX6_parts 68 = .ok (.iload 8, 2) := by decide +kernel
theorem dX6_parts_70 : decode cX6_parts 70 = .ok (.iload_n 2, 1) := by decide +kernel
theorem dX6_parts_71 : decode cX6_parts 71 = .ok (.if_icmp .ge 73, 3) := by decide +kernel
theorem dX6_parts_74 : decode cX6_parts 74 = .ok (.iload 7, 2) := by decide +kernel
theorem dX6_parts_76 : decode cX6_parts 76 = .ok (.invokestatic 238, 3) := by decide +kernel
theorem dX6_parts_79 : decode cX6_parts 79 = .ok (.istore 7, 2) := by decide +kernel
theorem dX6_parts_81 : decode cX6_parts 81 = .ok (.iload 7, 2) := by decide +kernel
theorem dX6_parts_83 : decode cX6_parts 83 = .ok (.invokestatic 241, 3) := by decide +kernel
theorem dX6_parts_86 : decode cX6_parts 86 = .ok (.sipush 251, 3) := by decide +kernel
theorem dX6_parts_89 : decode cX6_parts 89 = .ok (.irem, 1) := by decide +kernel
theorem dX6_parts_90 : decode cX6_parts 90 = .ok (.istore 9, 2) := by decide +kernel
theorem dX6_parts_92 : decode cX6_parts 92 = .ok (.iconst 0, 1) := by decide +kernel
theorem dX6_parts_93 : decode cX6_parts 93 = .ok (.istore 10, 2) := by decide +kernel
theorem dX6_parts_95 : decode cX6_parts 95 = .ok (.iload 10, 2) := by decide +kernel
theorem dX6_parts_97 : decode cX6_parts 97 = .ok (.iload_n 3, 1) := by decide +kernel
theorem dX6_parts_98 : decode cX6_parts 98 = .ok (.if_icmp .ge 40, 3) := by decide +kernel
theorem dX6_parts_101 : decode cX6_parts 101 = .ok (.aload 6, 2) := by decide +kernel
theorem dX6_parts_103 : decode cX6_parts 103 = .ok (.iload 10, 2) := by decide +kernel
theorem dX6_parts_105 : decode cX6_parts 105 = .ok (.aload 6, 2) := by decide +kernel
theorem dX6_parts_107 : decode cX6_parts 107 = .ok (.iload 10, 2) := by decide +kernel
theorem dX6_parts_109 : decode cX6_parts 109 = .ok (.invokevirtual 92, 3) := by decide +kernel
theorem dX6_parts_112 : decode cX6_parts 112 = .ok (.iload 9, 2) := by decide +kernel
theorem dX6_parts_114 : decode cX6_parts 114 = .ok (.iload 10, 2) := by decide +kernel
theorem dX6_parts_116 : decode cX6_parts 116 = .ok (.iconst 1, 1) := by decide +kernel
theorem dX6_parts_117 : decode cX6_parts 117 = .ok (.iadd, 1) := by decide +kernel
theorem dX6_parts_118 : decode cX6_parts 118 = .ok (.iload 8, 2) := by decide +kernel
theorem dX6_parts_120 : decode cX6_parts 120 = .ok (.invokestatic 244, 3) := by decide +kernel
theorem dX6_parts_123 : decode cX6_parts 123 = .ok (.imul, 1) := by decide +kernel
theorem dX6_parts_124 : decode cX6_parts 124 = .ok (.iadd, 1) := by decide +kernel
theorem dX6_parts_125 : decode cX6_parts 125 = .ok (.sipush 251, 3) := by decide +kernel
theorem dX6_parts_128 : decode cX6_parts 128 = .ok (.irem, 1) := by decide +kernel
theorem dX6_parts_129 : decode cX6_parts 129 = .ok (.invokevirtual 95, 3) := by decide +kernel
theorem dX6_parts_132 : decode cX6_parts 132 = .ok (.iinc 10 1, 3) := by decide +kernel
theorem dX6_parts_135 : decode cX6_parts 135 = .ok (.goto (-40), 3) := by decide +kernel
theorem dX6_parts_138 : decode cX6_parts 138 = .ok (.iinc 8 1, 3) := by decide +kernel
theorem dX6_parts_141 : decode cX6_parts 141 = .ok (.goto (-73), 3) := by decide +kernel
theorem dX6_parts_144 : decode cX6_parts 144 = .ok (.iload_n 3, 1) := by decide +kernel
theorem dX6_parts_145 : decode cX6_parts 145 = .ok (.ireturn, 1) := by decide +kernel
theorem dX6_join_0 : decode cX6_join 0 = .ok (.aload_n 0, 1) := by decide +kernel
theorem dX6_join_1 : decode cX6_join 1 = .ok (.iload_n 1, 1) := by decide +kernel
theorem dX6_join_2 : decode cX6_join 2 = .ok (.invokevirtual 73, 3) := by decide +kernel
theorem dX6_join_5 : decode cX6_join 5 = .ok (.ifCond .ne 5, 3) := by decide +kernel
theorem dX6_join_8 : decode cX6_join 8 = .ok (.iconst (-1), 1) := by decide +kernel
theorem dX6_join_9 : decode cX6_join 9 = .ok (.ireturn, 1) := by decide +kernel
theorem dX6_join_10 : decode cX6_join 10 = .ok (.aload_n 0, 1) := by decide +kernel
theorem dX6_join_11 : decode cX6_join 11 = .ok (.getfield 11, 3) := by decide +kernel
theorem dX6_join_14 : decode cX6_join 14 = .ok (.iload_n 1, 1) := by decide +kernel
theorem dX6_join_15 : decode cX6_join 15 = .ok (.aaload, 1) := by decide +kernel
theorem dX6_join_16 : decode cX6_join 16 = .ok (.astore_n 2, 1) := by decide +kernel
theorem dX6_join_17 : decode cX6_join 17 = .ok (.aload_n 2, 1) := by decide +kernel
theorem dX6_join_18 : decode cX6_join 18 = .ok (.invokevirtual 85, 3) := by decide +kernel
theorem dX6_join_21 : decode cX6_join 21 = .ok (.ifCond .eq 9, 3) := by decide +kernel
theorem dX6_join_24 : decode cX6_join 24 = .ok (.aload_n 0, 1) := by decide +kernel
theorem dX6_join_25 : decode cX6_join 25 = .ok (.iconst 1, 1) := by decide +kernel
theorem dX6_join_26 : decode cX6_join 26 = .ok (.invokevirtual 77, 3) := by decide +kernel
theorem dX6_join_29 : decode cX6_join 29 = .ok (.ireturn, 1) := by decide +kernel
theorem dX6_join_30 : decode cX6_join 30 = .ok (.aload_n 2, 1) := by decide +kernel
theorem dX6_join_31 : decode cX6_join 31 = .ok (.getfield 114, 3) := by decide +kernel
theorem dX6_join_34 : decode cX6_join 34 = .ok (.iconst 2, 1) := by decide +kernel
theorem dX6_join_35 : decode cX6_join 35 = .ok (.if_icmp .lt 21, 3) := by decide +kernel
theorem dX6_join_38 : decode cX6_join 38 = .ok (.aload_n 2, 1) := by decide +kernel
theorem dX6_join_39 : decode cX6_join 39 = .ok (.getfield 114, 3) := by decide +kernel
theorem dX6_join_42 : decode cX6_join 42 = .ok (.bipush 10, 2) := by decide +kernel
theorem dX6_join_44 : decode cX6_join 44 = .ok (.if_icmp .gt 12, 3) := by decide +kernel
theorem dX6_join_47 : decode cX6_join 47 = .ok (.aload_n 2, 1) := by decide +kernel
theorem dX6_join_48 : decode cX6_join 48 = .ok (.getfield 114, 3) := by decide +kernel
theorem dX6_join_51 : decode cX6_join 51 = .ok (.iconst 2, 1) := by decide +kernel
theorem dX6_join_52 : decode cX6_join 52 = .ok (.irem, 1) := by decide +kernel
theorem dX6_join_53 : decode cX6_join 53 = .ok (.ifCond .eq 9, 3) := by decide +kernel
theorem dX6_join_56 : decode cX6_join 56 = .ok (.aload_n 0, 1) := by decide +kernel
theorem dX6_join_57 : decode cX6_join 57 = .ok (.iconst 5, 1) := by decide +kernel
theorem dX6_join_58 : decode cX6_join 58 = .ok (.invokevirtual 77, 3) := by decide +kernel
theorem dX6_join_61 : decode cX6_join 61 = .ok (.ireturn, 1) := by decide +kernel
theorem dX6_join_62 : decode cX6_join 62 = .ok (.aload_n 2, 1) := by decide +kernel
theorem dX6_join_63 : decode cX6_join 63 = .ok (.invokestatic 247, 3) := by decide +kernel
theorem dX6_join_66 : decode cX6_join 66 = .ok (.ifCond .ne 9, 3) := by decide +kernel
theorem dX6_join_69 : decode cX6_join 69 = .ok (.aload_n 0, 1) := by decide +kernel
theorem dX6_join_70 : decode cX6_join 70 = .ok (.iconst 3, 1) := by decide +kernel
theorem dX6_join_71 : decode cX6_join 71 = .ok (.invokevirtual 77, 3) := by decide +kernel
theorem dX6_join_74 : decode cX6_join 74 = .ok (.ireturn, 1) := by decide +kernel
theorem dX6_join_75 : decode cX6_join 75 = .ok (.iconst 0, 1) := by decide +kernel
theorem dX6_join_76 : decode cX6_join 76 = .ok (.istore_n 3, 1) := by decide +kernel
theorem dX6_join_77 : decode cX6_join 77 = .ok (.iconst 0, 1) := by decide +kernel
theorem dX6_join_78 : decode cX6_join 78 = .ok (.istore 4, 2) := by decide +kernel
theorem dX6_join_80 : decode cX6_join 80 = .ok (.iload 4, 2) := by decide +kernel
theorem dX6_join_82 : decode cX6_join 82 = .ok (.aload_n 2, 1) := by decide +kernel
theorem dX6_join_83 : decode cX6_join 83 = .ok (.getfield 114, 3) := by decide +kernel
theorem dX6_join_86 : decode cX6_join 86 = .ok (.if_icmp .ge 31, 3) := by decide +kernel
theorem dX6_join_89 : decode cX6_join 89 = .ok (.iload_n 3, 1) := by decide +kernel
theorem dX6_join_90 : decode cX6_join 90 = .ok (.aload_n 2, 1) := by decide +kernel
theorem dX6_join_91 : decode cX6_join 91 = .ok (.iload 4, 2) := by decide +kernel
theorem dX6_join_93 : decode cX6_join 93 = .ok (.iconst 1, 1) := by decide +kernel
theorem dX6_join_94 : decode cX6_join 94 = .ok (.iadd, 1) := by decide +kernel
theorem dX6_join_95 : decode cX6_join 95 = .ok (.invokevirtual 92, 3) := by decide +kernel
theorem dX6_join_98 : decode cX6_join 98 = .ok (.aload_n 2, 1) := by decide +kernel
theorem dX6_join_99 : decode cX6_join 99 = .ok (.iload 4, 2) := by decide +kernel
theorem dX6_join_101 : decode cX6_join 101 = .ok (.invokestatic 251, 3) := by decide +kernel
theorem dX6_join_104 : decode cX6_join 104 = .ok (.imul, 1) := by decide +kernel
theorem dX6_join_105 : decode cX6_join 105 = .ok (.iadd, 1) := by decide +kernel
theorem dX6_join_106 : decode cX6_join 106 = .ok (.sipush 251, 3) := by decide +kernel
theorem dX6_join_109 : decode cX6_join 109 = .ok (.irem, 1) := by decide +kernel
theorem dX6_join_110 : decode cX6_join 110 = .ok (.istore_n 3, 1) := by decide +kernel
theorem dX6_join_111 : decode cX6_join 111 = .ok (.iinc 4 2, 3) := by decide +kernel
theorem dX6_join_114 : decode cX6_join 114 = .ok (.goto (-34), 3) := by decide +kernel
theorem dX6_join_117 : decode cX6_join 117 = .ok (.iload_n 3, 1) := by decide +kernel
theorem dX6_join_118 : decode cX6_join 118 = .ok (.ireturn, 1) := by decide +kernel
theorem dX6_spread_0 : decode cX6_spread 0 = .ok (.aload_n 0, 1) := by decide +kernel
theorem dX6_spread_1 : decode cX6_spread 1 = .ok (.iload_n 1, 1) := by decide +kernel
theorem dX6_spread_2 : decode cX6_spread 2 = .ok (.invokevirtual 124, 3) := by decide +kernel
theorem dX6_spread_5 : decode cX6_spread 5 = .ok (.ifCond .eq 14, 3) := by decide +kernel
theorem dX6_spread_8 : decode cX6_spread 8 = .ok (.iload_n 3, 1) := by decide +kernel
theorem dX6_spread_9 : decode cX6_spread 9 = .ok (.iconst 1, 1) := by decide +kernel
theorem dX6_spread_10 : decode cX6_spread 10 = .ok (.if_icmp .lt 9, 3) := by decide +kernel
theorem dX6_spread_13 : decode cX6_spread 13 = .ok (.iload_n 3, 1) := by decide +kernel
theorem dX6_spread_14 : decode cX6_spread 14 = .ok (.bipush 20, 2) := by decide +kernel
theorem dX6_spread_16 : decode cX6_spread 16 = .ok (.if_icmp .le 5, 3) := by decide +kernel
theorem dX6_spread_19 : decode cX6_spread 19 = .ok (.iconst (-1), 1) := by decide +kernel
theorem dX6_spread_20 : decode cX6_spread 20 = .ok (.ireturn, 1) := by decide +kernel
theorem dX6_spread_21 : decode cX6_spread 21 = .ok (.aload_n 0, 1) := by decide +kernel
theorem dX6_spread_22 : decode cX6_spread 22 = .ok (.getfield 20, 3) := by decide +kernel
theorem dX6_spread_25 : decode cX6_spread 25 = .ok (.iload_n 1, 1) := by decide +kernel
theorem dX6_spread_26 : decode cX6_spread 26 = .ok (.aaload, 1) := by decide +kernel
theorem dX6_spread_27 : decode cX6_spread 27 = .ok (.astore 4, 2) := by decide +kernel
theorem dX6_spread_29 : decode cX6_spread 29 = .ok (.aload 4, 2) := by decide +kernel
theorem dX6_spread_31 : decode cX6_spread 31 = .ok (.invokevirtual 142, 3) := by decide +kernel
theorem dX6_spread_34 : decode cX6_spread 34 = .ok (.ifCond .eq 9, 3) := by decide +kernel
theorem dX6_spread_37 : decode cX6_spread 37 = .ok (.aload_n 0, 1) := by decide +kernel
theorem dX6_spread_38 : decode cX6_spread 38 = .ok (.iconst 1, 1) := by decide +kernel
theorem dX6_spread_39 : decode cX6_spread 39 = .ok (.invokevirtual 77, 3) := by decide +kernel
theorem dX6_spread_42 : decode cX6_spread 42 = .ok (.ireturn, 1) := by decide +kernel
theorem dX6_spread_43 : decode cX6_spread 43 = .ok (.aload 4, 2) := by decide +kernel
theorem dX6_spread_45 : decode cX6_spread 45 = .ok (.getfield 160, 3) := by decide +kernel
theorem dX6_spread_48 : decode cX6_spread 48 = .ok (.iconst 2, 1) := by decide +kernel
theorem dX6_spread_49 : decode cX6_spread 49 = .ok (.if_icmp .le 9, 3) := by decide +kernel
theorem dX6_spread_52 : decode cX6_spread 52 = .ok (.aload_n 0, 1) := by decide +kernel
theorem dX6_spread_53 : decode cX6_spread 53 = .ok (.iconst 3, 1) := by decide +kernel
theorem dX6_spread_54 : decode cX6_spread 54 = .ok (.invokevirtual 77, 3) := by decide +kernel
theorem dX6_spread_57 : decode cX6_spread 57 = .ok (.ireturn, 1) := by decide +kernel
theorem dX6_spread_58 : decode cX6_spread 58 = .ok (.aload_n 0, 1) := by decide +kernel
theorem dX6_spread_59 : decode cX6_spread 59 = .ok (.getfield 50, 3) := by decide +kernel
theorem dX6_spread_62 : decode cX6_spread 62 = .ok (.iload_n 2, 1) := by decide +kernel
theorem dX6_spread_63 : decode cX6_spread 63 = .ok (.invokevirtual 255, 3) := by decide +kernel
theorem dX6_spread_66 : decode cX6_spread 66 = .ok (.iconst 0, 1) := by decide +kernel
theorem dX6_spread_67 : decode cX6_spread 67 = .ok (.istore 5, 2) := by decide +kernel
theorem dX6_spread_69 : decode cX6_spread 69 = .ok (.iconst 0, 1) := by decide +kernel
theorem dX6_spread_70 : decode cX6_spread 70 = .ok (.istore 6, 2) := by decide +kernel
theorem dX6_spread_72 : decode cX6_spread 72 = .ok (.iload 6, 2) := by decide +kernel
theorem dX6_spread_74 : decode cX6_spread 74 = .ok (.aload 4, 2) := by decide +kernel
theorem dX6_spread_76 : decode cX6_spread 76 = .ok (.getfield 151, 3) := by decide +kernel
theorem dX6_spread_79 : decode cX6_spread 79 = .ok (.if_icmp .ge 63, 3) := by decide +kernel
theorem dX6_spread_82 : decode cX6_spread 82 = .ok (.aload 4, 2) := by decide +kernel
theorem dX6_spread_84 : decode cX6_spread 84 = .ok (.iload 6, 2) := by decide +kernel
theorem dX6_spread_86 : decode cX6_spread 86 = .ok (.invokevirtual 152, 3) := by decide +kernel
theorem dX6_spread_89 : decode cX6_spread 89 = .ok (.iload_n 3, 1) := by decide +kernel
theorem dX6_spread_90 : decode cX6_spread 90 = .ok (.aload_n 0, 1) := by decide +kernel
theorem dX6_spread_91 : decode cX6_spread 91 = .ok (.getfield 50, 3) := by decide +kernel
theorem dX6_spread_94 : decode cX6_spread 94 = .ok (.iload 6, 2) := by decide +kernel
theorem dX6_spread_96 : decode cX6_spread 96 = .ok (.invokevirtual 259, 3) := by decide +kernel
theorem dX6_spread_99 : decode cX6_spread 99 = .ok (.imul, 1) := by decide +kernel
theorem dX6_spread_100 : decode cX6_spread 100 = .ok (.iadd, 1) := by decide +kernel
theorem dX6_spread_101 : decode cX6_spread 101 = .ok (.istore 7, 2) := by decide +kernel
theorem dX6_spread_103 : decode cX6_spread 103 = .ok (.iconst 0, 1) := by decide +kernel
theorem dX6_spread_104 : decode cX6_spread 104 = .ok (.sipush 255, 3) := by decide +kernel
theorem dX6_spread_107 : decode cX6_spread 107 = .ok (.iload 7, 2) := by decide +kernel
theorem dX6_spread_109 : decode cX6_spread 109 = .ok (.invokestatic 262, 3) := by decide +kernel
theorem dX6_spread_112 : decode cX6_spread 112 = .ok (.invokestatic 267, 3) := by decide +kernel
theorem dX6_spread_115 : decode cX6_spread 115 = .ok (.istore 8, 2) := by decide +kernel
theorem dX6_spread_117 : decode cX6_spread 117 = .ok (.iload 8, 2) := by decide +kernel
theorem dX6_spread_119 : decode cX6_spread 119 = .ok (.iload 7, 2) := by decide +kernel
theorem dX6_spread_121 : decode cX6_spread 121 = .ok (.if_icmp .eq 6, 3) := by decide +kernel
theorem dX6_spread_124 : decode cX6_spread 124 = .ok (.iinc 5 1, 3) := by decide +kernel
theorem dX6_spread_127 : decode cX6_spread 127 = .ok (.aload 4, 2) := by decide +kernel
theorem dX6_spread_129 : decode cX6_spread 129 = .ok (.iload 6, 2) := by decide +kernel
theorem dX6_spread_131 : decode cX6_spread 131 = .ok (.iload 8, 2) := by decide +kernel
theorem dX6_spread_133 : decode cX6_spread 133 = .ok (.invokevirtual 270, 3) := by decide +kernel
theorem dX6_spread_136 : decode cX6_spread 136 = .ok (.iinc 6 1, 3) := by decide +kernel
theorem dX6_spread_139 : decode cX6_spread 139 = .ok (.goto (-67), 3) := by decide +kernel
theorem dX6_spread_142 : decode cX6_spread 142 = .ok (.iload 5, 2) := by decide +kernel
theorem dX6_spread_144 : decode cX6_spread 144 = .ok (.ireturn, 1) := by decide +kernel
theorem dX6_sum_0 : decode cX6_sum 0 = .ok (.aload_n 0, 1) := by decide +kernel
theorem dX6_sum_1 : decode cX6_sum 1 = .ok (.iload_n 1, 1) := by decide +kernel
theorem dX6_sum_2 : decode cX6_sum 2 = .ok (.invokevirtual 124, 3) := by decide +kernel
theorem dX6_sum_5 : decode cX6_sum 5 = .ok (.ifCond .eq 13, 3) := by decide +kernel
theorem dX6_sum_8 : decode cX6_sum 8 = .ok (.iload_n 3, 1) := by decide +kernel
theorem dX6_sum_9 : decode cX6_sum 9 = .ok (.ifCond .lt 9, 3) := by decide +kernel
theorem dX6_sum_12 : decode cX6_sum 12 = .ok (.iload_n 3, 1) := by decide +kernel
theorem dX6_sum_13 : decode cX6_sum 13 = .ok (.bipush 40, 2) := by decide +kernel
theorem dX6_sum_15 : decode cX6_sum 15 = .ok (.if_icmp .lt 5, 3) := by decide +kernel
theorem dX6_sum_18 : decode cX6_sum 18 = .ok (.iconst (-1), 1) := by decide +kernel
theorem dX6_sum_19 : decode cX6_sum 19 = .ok (.ireturn, 1) := by decide +kernel
theorem dX6_sum_20 : decode cX6_sum 20 = .ok (.aload_n 0, 1) := by decide +kernel
theorem dX6_sum_21 : decode cX6_sum 21 = .ok (.getfield 20, 3) := by decide +kernel
theorem dX6_sum_24 : decode cX6_sum 24 = .ok (.iload_n 1, 1) := by decide +kernel
theorem dX6_sum_25 : decode cX6_sum 25 = .ok (.aaload, 1) := by decide +kernel
theorem dX6_sum_26 : decode cX6_sum 26 = .ok (.invokevirtual 142, 3) := by decide +kernel
theorem dX6_sum_29 : decode cX6_sum 29 = .ok (.ifCond .eq 9, 3) := by decide +kernel
theorem dX6_sum_32 : decode cX6_sum 32 = .ok (.aload_n 0, 1) := by decide +kernel
theorem dX6_sum_33 : decode cX6_sum 33 = .ok (.iconst 1, 1) := by decide +kernel
theorem dX6_sum_34 : decode cX6_sum 34 = .ok (.invokevirtual 77, 3) := by decide +kernel
theorem dX6_sum_37 : decode cX6_sum 37 = .ok (.ireturn, 1) := by decide +kernel
theorem dX6_sum_38 : decode cX6_sum 38 = .ok (.aload_n 0, 1) := by decide +kernel
theorem dX6_sum_39 : decode cX6_sum 39 = .ok (.getfield 50, 3) := by decide +kernel
theorem dX6_sum_42 : decode cX6_sum 42 = .ok (.iload_n 2, 1) := by decide +kernel
theorem dX6_sum_43 : decode cX6_sum 43 = .ok (.invokevirtual 255, 3) := by decide +kernel
theorem dX6_sum_46 : decode cX6_sum 46 = .ok (.aload_n 0, 1) := by decide +kernel
theorem dX6_sum_47 : decode cX6_sum 47 = .ok (.aload_n 0, 1) := by decide +kernel
theorem dX6_sum_48 : decode cX6_sum 48 = .ok (.getfield 50, 3) := by decide +kernel
theorem dX6_sum_51 : decode cX6_sum 51 = .ok (.aload_n 0, 1) := by decide +kernel
theorem dX6_sum_52 : decode cX6_sum 52 = .ok (.getfield 20, 3) := by decide +kernel
theorem dX6_sum_55 : decode cX6_sum 55 = .ok (.iload_n 1, 1) := by decide +kernel
theorem dX6_sum_56 : decode cX6_sum 56 = .ok (.aaload, 1) := by decide +kernel
theorem dX6_sum_57 : decode cX6_sum 57 = .ok (.iload_n 3, 1) := by decide +kernel
theorem dX6_sum_58 : decode cX6_sum 58 = .ok (.invokevirtual 273, 3) := by decide +kernel
theorem dX6_sum_61 : decode cX6_sum 61 = .ok (.putfield 61, 3) := by decide +kernel
theorem dX6_sum_64 : decode cX6_sum 64 = .ok (.iconst 1, 1) := by decide +kernel
theorem dX6_sum_65 : decode cX6_sum 65 = .ok (.ireturn, 1) := by decide +kernel
theorem dX6_lineUp_0 : decode cX6_lineUp 0 = .ok (.aload_n 0, 1) := by decide +kernel
theorem dX6_lineUp_1 : decode cX6_lineUp 1 = .ok (.iload_n 1, 1) := by decide +kernel
theorem dX6_lineUp_2 : decode cX6_lineUp 2 = .ok (.invokevirtual 124, 3) := by decide +kernel
theorem dX6_lineUp_5 : decode cX6_lineUp 5 = .ok (.ifCond .ne 5, 3) := by decide +kernel
theorem dX6_lineUp_8 : decode cX6_lineUp 8 = .ok (.iconst (-1), 1) := by decide +kernel
theorem dX6_lineUp_9 : decode cX6_lineUp 9 = .ok (.ireturn, 1) := by decide +kernel
theorem dX6_lineUp_10 : decode cX6_lineUp 10 = .ok (.aload_n 0, 1) := by decide +kernel
theorem dX6_lineUp_11 : decode cX6_lineUp 11 = .ok (.getfield 20, 3) := by decide +kernel
theorem dX6_lineUp_14 : decode cX6_lineUp 14 = .ok (.iload_n 1, 1) := by decide +kernel
theorem dX6_lineUp_15 : decode cX6_lineUp 15 = .ok (.aaload, 1) := by decide +kernel
theorem dX6_lineUp_16 : decode cX6_lineUp 16 = .ok (.astore_n 3, 1) := by decide +kernel
theorem dX6_lineUp_17 : decode cX6_lineUp 17 = .ok (.aload_n 3, 1) := by decide +kernel
theorem dX6_lineUp_18 : decode cX6_lineUp 18 = .ok (.invokevirtual 142, 3) := by decide +kernel
theorem dX6_lineUp_21 : decode cX6_lineUp 21 = .ok (.ifCond .eq 9, 3) := by decide +kernel
theorem dX6_lineUp_24 : decode cX6_lineUp 24 = .ok (.aload_n 0, 1) := by decide +kernel
theorem dX6_lineUp_25 : decode cX6_lineUp 25 = .ok (.iconst 1, 1) := by decide +kernel
theorem dX6_lineUp_26 : decode cX6_lineUp 26 = .ok (.invokevirtual 77, 3) := by decide +kernel
theorem dX6_lineUp_29 : decode cX6_lineUp 29 = .ok (.ireturn, 1) := by decide +kernel
theorem dX6_lineUp_30 : decode cX6_lineUp 30 = .ok (.aload_n 0, 1) := by decide +kernel
theorem dX6_lineUp_31 : decode cX6_lineUp 31 = .ok (.getfield 50, 3) := by decide +kernel
theorem dX6_lineUp_34 : decode cX6_lineUp 34 = .ok (.iload_n 2, 1) := by decide +kernel
theorem dX6_lineUp_35 : decode cX6_lineUp 35 = .ok (.invokevirtual 255, 3) := by decide +kernel
theorem dX6_lineUp_38 : decode cX6_lineUp 38 = .ok (.iconst 0, 1) := by decide +kernel
theorem dX6_lineUp_39 : decode cX6_lineUp 39 = .ok (.istore 4, 2) := by decide +kernel
theorem dX6_lineUp_41 : decode cX6_lineUp 41 = .ok (.aload_n 0, 1) := by decide +kernel
theorem dX6_lineUp_42 : decode cX6_lineUp 42 = .ok (.getfield 50, 3) := by decide +kernel
theorem dX6_lineUp_45 : decode cX6_lineUp 45 = .ok (.aload_n 3, 1) := by decide +kernel
theorem dX6_lineUp_46 : decode cX6_lineUp 46 = .ok (.iconst 0, 1) := by decide +kernel
theorem dX6_lineUp_47 : decode cX6_lineUp 47 = .ok (.invokevirtual 273, 3) := by decide +kernel
theorem dX6_lineUp_50 : decode cX6_lineUp 50 = .ok (.istore 5, 2) := by decide +kernel
theorem dX6_lineUp_52 : decode cX6_lineUp 52 = .ok (.iconst 1, 1) := by decide +kernel
theorem dX6_lineUp_53 : decode cX6_lineUp 53 = .ok (.istore 6, 2) := by decide +kernel
theorem dX6_lineUp_55 : decode cX6_lineUp 55 = .ok (.iload 6, 2) := by decide +kernel
theorem dX6_lineUp_57 : decode cX6_lineUp 57 = .ok (.aload_n 3, 1) := by decide +kernel
theorem dX6_lineUp_58 : decode cX6_lineUp 58 = .ok (.getfield 151, 3) := by decide +kernel
theorem dX6_lineUp_61 : decode cX6_lineUp 61 = .ok (.if_icmp .ge 36, 3) := by decide +kernel
theorem dX6_lineUp_64 : decode cX6_lineUp 64 = .ok (.aload_n 0, 1) := by decide +kernel
theorem dX6_lineUp_65 : decode cX6_lineUp 65 = .ok (.getfield 50, 3) := by decide +kernel
theorem dX6_lineUp_68 : decode cX6_lineUp 68 = .ok (.aload_n 3, 1) := by decide +kernel
theorem dX6_lineUp_69 : decode cX6_lineUp 69 = .ok (.iload 6, 2) := by decide +kernel
theorem dX6_lineUp_71 : decode cX6_lineUp 71 = .ok (.invokevirtual 273, 3) := by decide +kernel
theorem dX6_lineUp_74 : decode cX6_lineUp 74 = .ok (.istore 7, 2) := by decide +kernel
theorem dX6_lineUp_76 : decode cX6_lineUp 76 = .ok (.iload 7, 2) := by decide +kernel
theorem dX6_lineUp_78 : decode cX6_lineUp 78 = .ok (.iload 5, 2) := by decide +kernel
theorem dX6_lineUp_80 : decode cX6_lineUp 80 = .ok (.if_icmp .le 11, 3) := by decide +kernel
theorem dX6_lineUp_83 : decode cX6_lineUp 83 = .ok (.iload 6, 2) := by decide +kernel
theorem dX6_lineUp_85 : decode cX6_lineUp 85 = .ok (.istore 4, 2) := by decide +kernel
theorem dX6_lineUp_87 : decode cX6_lineUp 87 = .ok (.iload 7, 2) := by decide +kernel
theorem dX6_lineUp_89 : decode cX6_lineUp 89 = .ok (.istore 5, 2) := by decide +kernel
theorem dX6_lineUp_91 : decode cX6_lineUp 91 = .ok (.iinc 6 1, 3) := by decide +kernel
theorem dX6_lineUp_94 : decode cX6_lineUp 94 = .ok (.goto (-39), 3) := by decide +kernel
theorem dX6_lineUp_97 : decode cX6_lineUp 97 = .ok (.aload_n 0, 1) := by decide +kernel
theorem dX6_lineUp_98 : decode cX6_lineUp 98 = .ok (.iload 5, 2) := by decide +kernel
theorem dX6_lineUp_100 : decode cX6_lineUp 100 = .ok (.putfield 61, 3) := by decide +kernel
theorem dX6_lineUp_103 : decode cX6_lineUp 103 = .ok (.iload 4, 2) := by decide +kernel
theorem dX6_lineUp_105 : decode cX6_lineUp 105 = .ok (.ireturn, 1) := by decide +kernel
theorem dX6_falseShare_0 : decode cX6_falseShare 0 = .ok (.aload_n 0, 1) := by decide +kernel
theorem dX6_falseShare_1 : decode cX6_falseShare 1 = .ok (.iload_n 1, 1) := by decide +kernel
theorem dX6_falseShare_2 : decode cX6_falseShare 2 = .ok (.invokevirtual 124, 3) := by decide +kernel
theorem dX6_falseShare_5 : decode cX6_falseShare 5 = .ok (.ifCond .eq 17, 3) := by decide +kernel
theorem dX6_falseShare_8 : decode cX6_falseShare 8 = .ok (.iload_n 2, 1) := by decide +kernel
theorem dX6_falseShare_9 : decode cX6_falseShare 9 = .ok (.sipush (-10200), 3) := by decide +kernel
theorem dX6_falseShare_12 : decode cX6_falseShare 12 = .ok (.if_icmp .lt 10, 3) := by decide +kernel
theorem dX6_falseShare_15 : decode cX6_falseShare 15 = .ok (.iload_n 2, 1) := by decide +kernel
theorem dX6_falseShare_16 : decode cX6_falseShare 16 = .ok (.sipush 10200, 3) := by decide +kernel
theorem dX6_falseShare_19 : decode cX6_falseShare 19 = .ok (.if_icmp .le 5, 3) := by decide +kernel
theorem dX6_falseShare_22 : decode cX6_falseShare 22 = .ok (.iconst (-1), 1) := by decide +kernel
theorem dX6_falseShare_23 : decode cX6_falseShare 23 = .ok (.ireturn, 1) := by decide +kernel
theorem dX6_falseShare_24 : decode cX6_falseShare 24 = .ok (.aload_n 0, 1) := by decide +kernel
theorem dX6_falseShare_25 : decode cX6_falseShare 25 = .ok (.getfield 20, 3) := by decide +kernel
theorem dX6_falseShare_28 : decode cX6_falseShare 28 = .ok (.iload_n 1, 1) := by decide +kernel
theorem dX6_falseShare_29 : decode cX6_falseShare 29 = .ok (.aaload, 1) := by decide +kernel
theorem dX6_falseShare_30 : decode cX6_falseShare 30 = .ok (.astore_n 3, 1) := by decide +kernel
theorem dX6_falseShare_31 : decode cX6_falseShare 31 = .ok (.aload_n 3, 1) := by decide +kernel
theorem dX6_falseShare_32 : decode cX6_falseShare 32 = .ok (.invokevirtual 142, 3) := by decide +kernel
theorem dX6_falseShare_35 : decode cX6_falseShare 35 = .ok (.ifCond .eq 9, 3) := by decide +kernel
theorem dX6_falseShare_38 : decode cX6_falseShare 38 = .ok (.aload_n 0, 1) := by decide +kernel
theorem dX6_falseShare_39 : decode cX6_falseShare 39 = .ok (.iconst 1, 1) := by decide +kernel
theorem dX6_falseShare_40 : decode cX6_falseShare 40 = .ok (.invokevirtual 77, 3) := by decide +kernel
theorem dX6_falseShare_43 : decode cX6_falseShare 43 = .ok (.ireturn, 1) := by decide +kernel
theorem dX6_falseShare_44 : decode cX6_falseShare 44 = .ok (.aload_n 0, 1) := by decide +kernel
theorem dX6_falseShare_45 : decode cX6_falseShare 45 = .ok (.getfield 57, 3) := by decide +kernel
theorem dX6_falseShare_48 : decode cX6_falseShare 48 = .ok (.aload_n 0, 1) := by decide +kernel
theorem dX6_falseShare_49 : decode cX6_falseShare 49 = .ok (.getfield 50, 3) := by decide +kernel
theorem dX6_falseShare_52 : decode cX6_falseShare 52 = .ok (.aload_n 3, 1) := by decide +kernel
theorem dX6_falseShare_53 : decode cX6_falseShare 53 = .ok (.iload_n 2, 1) := by decide +kernel
theorem dX6_falseShare_54 : decode cX6_falseShare 54 = .ok (.invokevirtual 277, 3) := by decide +kernel
theorem dX6_falseShare_57 : decode cX6_falseShare 57 = .ok (.lconst 1, 1) := by decide +kernel
theorem dX6_falseShare_58 : decode cX6_falseShare 58 = .ok (.aload_n 3, 1) := by decide +kernel
theorem dX6_falseShare_59 : decode cX6_falseShare 59 = .ok (.getfield 151, 3) := by decide +kernel
theorem dX6_falseShare_62 : decode cX6_falseShare 62 = .ok (.lshl, 1) := by decide +kernel
theorem dX6_falseShare_63 : decode cX6_falseShare 63 = .ok (.invokevirtual 231, 3) := by decide +kernel
theorem dX6_falseShare_66 : decode cX6_falseShare 66 = .ok (.iconst 1, 1) := by decide +kernel
theorem dX6_falseShare_67 : decode cX6_falseShare 67 = .ok (.ireturn, 1) := by decide +kernel
theorem dX6_cut_0 : decode cX6_cut 0 = .ok (.aload_n 0, 1) := by decide +kernel
theorem dX6_cut_1 : decode cX6_cut 1 = .ok (.iload_n 1, 1) := by decide +kernel
theorem dX6_cut_2 : decode cX6_cut 2 = .ok (.invokevirtual 124, 3) := by decide +kernel
theorem dX6_cut_5 : decode cX6_cut 5 = .ok (.ifCond .eq 17, 3) := by decide +kernel
theorem dX6_cut_8 : decode cX6_cut 8 = .ok (.aload_n 0, 1) := by decide +kernel
theorem dX6_cut_9 : decode cX6_cut 9 = .ok (.iload 4, 2) := by decide +kernel
theorem dX6_cut_11 : decode cX6_cut 11 = .ok (.invokevirtual 124, 3) := by decide +kernel
theorem dX6_cut_14 : decode cX6_cut 14 = .ok (.ifCond .eq 8, 3) := by decide +kernel
theorem dX6_cut_17 : decode cX6_cut 17 = .ok (.iload_n 3, 1) := by decide +kernel
theorem dX6_cut_18 : decode cX6_cut 18 = .ok (.iconst 1, 1) := by decide +kernel
theorem dX6_cut_19 : decode cX6_cut 19 = .ok (.if_icmp .ge 5, 3) := by decide +kernel
theorem dX6_cut_22 : decode cX6_cut 22 = .ok (.iconst (-1), 1) := by decide +kernel
theorem dX6_cut_23 : decode cX6_cut 23 = .ok (.ireturn, 1) := by decide +kernel
theorem dX6_cut_24 : decode cX6_cut 24 = .ok (.aload_n 0, 1) := by decide +kernel
theorem dX6_cut_25 : decode cX6_cut 25 = .ok (.getfield 20, 3) := by decide +kernel
theorem dX6_cut_28 : decode cX6_cut 28 = .ok (.iload_n 1, 1) := by decide +kernel
theorem dX6_cut_29 : decode cX6_cut 29 = .ok (.aaload, 1) := by decide +kernel
theorem dX6_cut_30 : decode cX6_cut 30 = .ok (.astore 5, 2) := by decide +kernel
theorem dX6_cut_32 : decode cX6_cut 32 = .ok (.aload 5, 2) := by decide +kernel
theorem dX6_cut_34 : decode cX6_cut 34 = .ok (.invokevirtual 142, 3) := by decide +kernel
theorem dX6_cut_37 : decode cX6_cut 37 = .ok (.ifCond .eq 9, 3) := by decide +kernel
theorem dX6_cut_40 : decode cX6_cut 40 = .ok (.aload_n 0, 1) := by decide +kernel
theorem dX6_cut_41 : decode cX6_cut 41 = .ok (.iconst 1, 1) := by decide +kernel
theorem dX6_cut_42 : decode cX6_cut 42 = .ok (.invokevirtual 77, 3) := by decide +kernel
theorem dX6_cut_45 : decode cX6_cut 45 = .ok (.ireturn, 1) := by decide +kernel
theorem dX6_cut_46 : decode cX6_cut 46 = .ok (.iload_n 2, 1) := by decide +kernel
theorem dX6_cut_47 : decode cX6_cut 47 = .ok (.ifCond .lt 23, 3) := by decide +kernel
theorem dX6_cut_50 : decode cX6_cut 50 = .ok (.iload_n 3, 1) := by decide +kernel
theorem dX6_cut_51 : decode cX6_cut 51 = .ok (.aload 5, 2) := by decide +kernel
theorem dX6_cut_53 : decode cX6_cut 53 = .ok (.getfield 151, 3) := by decide +kernel
theorem dX6_cut_56 : decode cX6_cut 56 = .ok (.if_icmp .gt 14, 3) := by decide +kernel
theorem dX6_cut_59 : decode cX6_cut 59 = .ok (.iload_n 2, 1) := by decide +kernel
theorem dX6_cut_60 : decode cX6_cut 60 = .ok (.aload 5, 2) := by decide +kernel
theorem dX6_cut_62 : decode cX6_cut 62 = .ok (.getfield 151, 3) := by decide +kernel
theorem dX6_cut_65 : decode cX6_cut 65 = .ok (.iload_n 3, 1) := by decide +kernel
theorem dX6_cut_66 : decode cX6_cut 66 = .ok (.isub, 1) := by decide +kernel
theorem dX6_cut_67 : decode cX6_cut 67 = .ok (.if_icmp .le 9, 3) := by decide +kernel
theorem dX6_cut_70 : decode cX6_cut 70 = .ok (.aload_n 0, 1) := by decide +kernel
theorem dX6_cut_71 : decode cX6_cut 71 = .ok (.iconst 2, 1) := by decide +kernel
theorem dX6_cut_72 : decode cX6_cut 72 = .ok (.invokevirtual 77, 3) := by decide +kernel
theorem dX6_cut_75 : decode cX6_cut 75 = .ok (.ireturn, 1) := by decide +kernel
theorem dX6_cut_76 : decode cX6_cut 76 = .ok (.aload_n 0, 1) := by decide +kernel
theorem dX6_cut_77 : decode cX6_cut 77 = .ok (.getfield 20, 3) := by decide +kernel
theorem dX6_cut_80 : decode cX6_cut 80 = .ok (.iload 4, 2) := by decide +kernel
theorem dX6_cut_82 : decode cX6_cut 82 = .ok (.aaload, 1) := by decide +kernel
theorem dX6_cut_83 : decode cX6_cut 83 = .ok (.aload 5, 2) := by decide +kernel
theorem dX6_cut_85 : decode cX6_cut 85 = .ok (.iload_n 2, 1) := by decide +kernel
theorem dX6_cut_86 : decode cX6_cut 86 = .ok (.iload_n 3, 1) := by decide +kernel
theorem dX6_cut_87 : decode cX6_cut 87 = .ok (.invokevirtual 281, 3) := by decide +kernel
theorem dX6_cut_90 : decode cX6_cut 90 = .ok (.iload_n 3, 1) := by decide +kernel
theorem dX6_cut_91 : decode cX6_cut 91 = .ok (.ireturn, 1) := by decide +kernel
theorem dX6_makes_0 : decode cX6_makes 0 = .ok (.aload_n 0, 1) := by decide +kernel
theorem dX6_makes_1 : decode cX6_makes 1 = .ok (.iload_n 1, 1) := by decide +kernel
theorem dX6_makes_2 : decode cX6_makes 2 = .ok (.invokevirtual 73, 3) := by decide +kernel
theorem dX6_makes_5 : decode cX6_makes 5 = .ok (.ifCond .eq 15, 3) := by decide +kernel
theorem dX6_makes_8 : decode cX6_makes 8 = .ok (.iload_n 2, 1) := by decide +kernel
theorem dX6_makes_9 : decode cX6_makes 9 = .ok (.iconst 1, 1) := by decide +kernel
theorem dX6_makes_10 : decode cX6_makes 10 = .ok (.if_icmp .lt 10, 3) := by decide +kernel
theorem dX6_makes_13 : decode cX6_makes 13 = .ok (.iload_n 3, 1) := by decide +kernel
theorem dX6_makes_14 : decode cX6_makes 14 = .ok (.invokestatic 285, 3) := by decide +kernel
theorem dX6_makes_17 : decode cX6_makes 17 = .ok (.ifCond .ne 5, 3) := by decide +kernel
theorem dX6_makes_20 : decode cX6_makes 20 = .ok (.iconst (-1), 1) := by decide +kernel
theorem dX6_makes_21 : decode cX6_makes 21 = .ok (.ireturn, 1) := by decide +kernel
theorem dX6_makes_22 : decode cX6_makes 22 = .ok (.aload_n 0, 1) := by decide +kernel
theorem dX6_makes_23 : decode cX6_makes 23 = .ok (.getfield 11, 3) := by decide +kernel
theorem dX6_makes_26 : decode cX6_makes 26 = .ok (.iload_n 1, 1) := by decide +kernel
theorem dX6_makes_27 : decode cX6_makes 27 = .ok (.aaload, 1) := by decide +kernel
theorem dX6_makes_28 : decode cX6_makes 28 = .ok (.astore 4, 2) := by decide +kernel
theorem dX6_makes_30 : decode cX6_makes 30 = .ok (.aload 4, 2) := by decide +kernel
theorem dX6_makes_32 : decode cX6_makes 32 = .ok (.invokevirtual 85, 3) := by decide +kernel
theorem dX6_makes_35 : decode cX6_makes 35 = .ok (.ifCond .eq 9, 3) := by decide +kernel
theorem dX6_makes_38 : decode cX6_makes 38 = .ok (.aload_n 0, 1) := by decide +kernel
theorem dX6_makes_39 : decode cX6_makes 39 = .ok (.iconst 1, 1) := by decide +kernel
theorem dX6_makes_40 : decode cX6_makes 40 = .ok (.invokevirtual 77, 3) := by decide +kernel
theorem dX6_makes_43 : decode cX6_makes 43 = .ok (.ireturn, 1) := by decide +kernel
theorem dX6_makes_44 : decode cX6_makes 44 = .ok (.aload 4, 2) := by decide +kernel
theorem dX6_makes_46 : decode cX6_makes 46 = .ok (.invokestatic 288, 3) := by decide +kernel
theorem dX6_makes_49 : decode cX6_makes 49 = .ok (.istore 5, 2) := by decide +kernel
theorem dX6_makes_51 : decode cX6_makes 51 = .ok (.iload 5, 2) := by decide +kernel
theorem dX6_makes_53 : decode cX6_makes 53 = .ok (.ifCond .eq 10, 3) := by decide +kernel
theorem dX6_makes_56 : decode cX6_makes 56 = .ok (.aload_n 0, 1) := by decide +kernel
theorem dX6_makes_57 : decode cX6_makes 57 = .ok (.iload 5, 2) := by decide +kernel
theorem dX6_makes_59 : decode cX6_makes 59 = .ok (.invokevirtual 77, 3) := by decide +kernel
theorem dX6_makes_62 : decode cX6_makes 62 = .ok (.ireturn, 1) := by decide +kernel
theorem dX6_makes_63 : decode cX6_makes 63 = .ok (.iload_n 2, 1) := by decide +kernel
theorem dX6_makes_64 : decode cX6_makes 64 = .ok (.iconst 1, 1) := by decide +kernel
theorem dX6_makes_65 : decode cX6_makes 65 = .ok (.aload 4, 2) := by decide +kernel
theorem dX6_makes_67 : decode cX6_makes 67 = .ok (.getfield 114, 3) := by decide +kernel
theorem dX6_makes_70 : decode cX6_makes 70 = .ok (.ishl, 1) := by decide +kernel
theorem dX6_makes_71 : decode cX6_makes 71 = .ok (.if_icmp .lt 5, 3) := by decide +kernel
theorem dX6_makes_74 : decode cX6_makes 74 = .ok (.iconst (-1), 1) := by decide +kernel
theorem dX6_makes_75 : decode cX6_makes 75 = .ok (.ireturn, 1) := by decide +kernel
theorem dX6_makes_76 : decode cX6_makes 76 = .ok (.aload 4, 2) := by decide +kernel
theorem dX6_makes_78 : decode cX6_makes 78 = .ok (.iload_n 2, 1) := by decide +kernel
theorem dX6_makes_79 : decode cX6_makes 79 = .ok (.iload_n 3, 1) := by decide +kernel
theorem dX6_makes_80 : decode cX6_makes 80 = .ok (.invokestatic 291, 3) := by decide +kernel
theorem dX6_makes_83 : decode cX6_makes 83 = .ok (.ifCond .eq 7, 3) := by decide +kernel
theorem dX6_makes_86 : decode cX6_makes 86 = .ok (.iconst 1, 1) := by decide +kernel
theorem dX6_makes_87 : decode cX6_makes 87 = .ok (.goto 4, 3) := by decide +kernel
theorem dX6_makes_90 : decode cX6_makes 90 = .ok (.iconst 0, 1) := by decide +kernel
theorem dX6_makes_91 : decode cX6_makes 91 = .ok (.ireturn, 1) := by decide +kernel
theorem dX6_guilty_0 : decode cX6_guilty 0 = .ok (.aload_n 0, 1) := by decide +kernel
theorem dX6_guilty_1 : decode cX6_guilty 1 = .ok (.iload_n 1, 1) := by decide +kernel
theorem dX6_guilty_2 : decode cX6_guilty 2 = .ok (.invokevirtual 73, 3) := by decide +kernel
theorem dX6_guilty_5 : decode cX6_guilty 5 = .ok (.ifCond .eq 20, 3) := by decide +kernel
theorem dX6_guilty_8 : decode cX6_guilty 8 = .ok (.iload_n 2, 1) := by decide +kernel
theorem dX6_guilty_9 : decode cX6_guilty 9 = .ok (.iconst 1, 1) := by decide +kernel
theorem dX6_guilty_10 : decode cX6_guilty 10 = .ok (.if_icmp .lt 15, 3) := by decide +kernel
theorem dX6_guilty_13 : decode cX6_guilty 13 = .ok (.iload_n 2, 1) := by decide +kernel
theorem dX6_guilty_14 : decode cX6_guilty 14 = .ok (.iconst 4, 1) := by decide +kernel
theorem dX6_guilty_15 : decode cX6_guilty 15 = .ok (.if_icmp .gt 10, 3) := by decide +kernel
theorem dX6_guilty_18 : decode cX6_guilty 18 = .ok (.iload_n 3, 1) := by decide +kernel
theorem dX6_guilty_19 : decode cX6_guilty 19 = .ok (.invokestatic 285, 3) := by decide +kernel
theorem dX6_guilty_22 : decode cX6_guilty 22 = .ok (.ifCond .ne 5, 3) := by decide +kernel
theorem dX6_guilty_25 : decode cX6_guilty 25 = .ok (.iconst (-1), 1) := by decide +kernel
theorem dX6_guilty_26 : decode cX6_guilty 26 = .ok (.ireturn, 1) := by decide +kernel
theorem dX6_guilty_27 : decode cX6_guilty 27 = .ok (.aload_n 0, 1) := by decide +kernel
theorem dX6_guilty_28 : decode cX6_guilty 28 = .ok (.getfield 11, 3) := by decide +kernel
theorem dX6_guilty_31 : decode cX6_guilty 31 = .ok (.iload_n 1, 1) := by decide +kernel
theorem dX6_guilty_32 : decode cX6_guilty 32 = .ok (.aaload, 1) := by decide +kernel
theorem dX6_guilty_33 : decode cX6_guilty 33 = .ok (.astore 4, 2) := by decide +kernel
theorem dX6_guilty_35 : decode cX6_guilty 35 = .ok (.aload 4, 2) := by decide +kernel
theorem dX6_guilty_37 : decode cX6_guilty 37 = .ok (.invokevirtual 85, 3) := by decide +kernel
theorem dX6_guilty_40 : decode cX6_guilty 40 = .ok (.ifCond .eq 9, 3) := by decide +kernel
theorem dX6_guilty_43 : decode cX6_guilty 43 = .ok (.aload_n 0, 1) := by decide +kernel
theorem dX6_guilty_44 : decode cX6_guilty 44 = .ok (.iconst 1, 1) := by decide +kernel
theorem dX6_guilty_45 : decode cX6_guilty 45 = .ok (.invokevirtual 77, 3) := by decide +kernel
theorem dX6_guilty_48 : decode cX6_guilty 48 = .ok (.ireturn, 1) := by decide +kernel
theorem dX6_guilty_49 : decode cX6_guilty 49 = .ok (.aload 4, 2) := by decide +kernel
theorem dX6_guilty_51 : decode cX6_guilty 51 = .ok (.invokestatic 288, 3) := by decide +kernel
theorem dX6_guilty_54 : decode cX6_guilty 54 = .ok (.istore 5, 2) := by decide +kernel
theorem dX6_guilty_56 : decode cX6_guilty 56 = .ok (.iload 5, 2) := by decide +kernel
theorem dX6_guilty_58 : decode cX6_guilty 58 = .ok (.ifCond .eq 10, 3) := by decide +kernel
theorem dX6_guilty_61 : decode cX6_guilty 61 = .ok (.aload_n 0, 1) := by decide +kernel
theorem dX6_guilty_62 : decode cX6_guilty 62 = .ok (.iload 5, 2) := by decide +kernel
theorem dX6_guilty_64 : decode cX6_guilty 64 = .ok (.invokevirtual 77, 3) := by decide +kernel
theorem dX6_guilty_67 : decode cX6_guilty 67 = .ok (.ireturn, 1) := by decide +kernel
theorem dX6_guilty_68 : decode cX6_guilty 68 = .ok (.iconst 0, 1) := by decide +kernel
theorem dX6_guilty_69 : decode cX6_guilty 69 = .ok (.istore 6, 2) := by decide +kernel
theorem dX6_guilty_71 : decode cX6_guilty 71 = .ok (.iconst 1, 1) := by decide +kernel
theorem dX6_guilty_72 : decode cX6_guilty 72 = .ok (.aload 4, 2) := by decide +kernel
theorem dX6_guilty_74 : decode cX6_guilty 74 = .ok (.getfield 114, 3) := by decide +kernel
theorem dX6_guilty_77 : decode cX6_guilty 77 = .ok (.ishl, 1) := by decide +kernel
theorem dX6_guilty_78 : decode cX6_guilty 78 = .ok (.iconst 1, 1) := by decide +kernel
theorem dX6_guilty_79 : decode cX6_guilty 79 = .ok (.isub, 1) := by decide +kernel
theorem dX6_guilty_80 : decode cX6_guilty 80 = .ok (.istore 7, 2) := by decide +kernel
theorem dX6_guilty_82 : decode cX6_guilty 82 = .ok (.iconst 1, 1) := by decide +kernel
theorem dX6_guilty_83 : decode cX6_guilty 83 = .ok (.istore 8, 2) := by decide +kernel
theorem dX6_guilty_85 : decode cX6_guilty 85 = .ok (.iload 8, 2) := by decide +kernel
theorem dX6_guilty_87 : decode cX6_guilty 87 = .ok (.iconst 1, 1) := by decide +kernel
theorem dX6_guilty_88 : decode cX6_guilty 88 = .ok (.aload 4, 2) := by decide +kernel
theorem dX6_guilty_90 : decode cX6_guilty 90 = .ok (.getfield 114, 3) := by decide +kernel
theorem dX6_guilty_93 : decode cX6_guilty 93 = .ok (.ishl, 1) := by decide +kernel
theorem dX6_guilty_94 : decode cX6_guilty 94 = .ok (.if_icmp .ge 39, 3) := by decide +kernel
theorem dX6_guilty_97 : decode cX6_guilty 97 = .ok (.iload 8, 2) := by decide +kernel
theorem dX6_guilty_99 : decode cX6_guilty 99 = .ok (.invokestatic 295, 3) := by decide +kernel
theorem dX6_guilty_102 : decode cX6_guilty 102 = .ok (.iload_n 2, 1) := by decide +kernel
theorem dX6_guilty_103 : decode cX6_guilty 103 = .ok (.if_icmp .gt 24, 3) := by decide +kernel
theorem dX6_guilty_106 : decode cX6_guilty 106 = .ok (.aload 4, 2) := by decide +kernel
theorem dX6_guilty_108 : decode cX6_guilty 108 = .ok (.iload 8, 2) := by decide +kernel
theorem dX6_guilty_110 : decode cX6_guilty 110 = .ok (.iload_n 3, 1) := by decide +kernel
theorem dX6_guilty_111 : decode cX6_guilty 111 = .ok (.invokestatic 291, 3) := by decide +kernel
theorem dX6_guilty_114 : decode cX6_guilty 114 = .ok (.ifCond .eq 13, 3) := by decide +kernel
theorem dX6_guilty_117 : decode cX6_guilty 117 = .ok (.iinc 6 1, 3) := by decide +kernel
theorem dX6_guilty_120 : decode cX6_guilty 120 = .ok (.iload 7, 2) := by decide +kernel
theorem dX6_guilty_122 : decode cX6_guilty 122 = .ok (.iload 8, 2) := by decide +kernel
theorem dX6_guilty_124 : decode cX6_guilty 124 = .ok (.iand, 1) := by decide +kernel
theorem dX6_guilty_125 : decode cX6_guilty 125 = .ok (.istore 7, 2) := by decide +kernel
theorem dX6_guilty_127 : decode cX6_guilty 127 = .ok (.iinc 8 1, 3) := by decide +kernel
theorem dX6_guilty_130 : decode cX6_guilty 130 = .ok (.goto (-45), 3) := by decide +kernel
theorem dX6_guilty_133 : decode cX6_guilty 133 = .ok (.aload_n 0, 1) := by decide +kernel
theorem dX6_guilty_134 : decode cX6_guilty 134 = .ok (.iload 6, 2) := by decide +kernel
theorem dX6_guilty_136 : decode cX6_guilty 136 = .ok (.ifCond .le 8, 3) := by decide +kernel
theorem dX6_guilty_139 : decode cX6_guilty 139 = .ok (.iload 7, 2) := by decide +kernel
theorem dX6_guilty_141 : decode cX6_guilty 141 = .ok (.goto 4, 3) := by decide +kernel
theorem dX6_guilty_144 : decode cX6_guilty 144 = .ok (.iconst 0, 1) := by decide +kernel
theorem dX6_guilty_145 : decode cX6_guilty 145 = .ok (.putfield 61, 3) := by decide +kernel
theorem dX6_guilty_148 : decode cX6_guilty 148 = .ok (.iload 6, 2) := by decide +kernel
theorem dX6_guilty_150 : decode cX6_guilty 150 = .ok (.ireturn, 1) := by decide +kernel
theorem dX6_apart_0 : decode cX6_apart 0 = .ok (.aload_n 0, 1) := by decide +kernel
theorem dX6_apart_1 : decode cX6_apart 1 = .ok (.iload_n 1, 1) := by decide +kernel
theorem dX6_apart_2 : decode cX6_apart 2 = .ok (.invokevirtual 73, 3) := by decide +kernel
theorem dX6_apart_5 : decode cX6_apart 5 = .ok (.ifCond .ne 5, 3) := by decide +kernel
theorem dX6_apart_8 : decode cX6_apart 8 = .ok (.iconst (-1), 1) := by decide +kernel
theorem dX6_apart_9 : decode cX6_apart 9 = .ok (.ireturn, 1) := by decide +kernel
theorem dX6_apart_10 : decode cX6_apart 10 = .ok (.aload_n 0, 1) := by decide +kernel
theorem dX6_apart_11 : decode cX6_apart 11 = .ok (.getfield 11, 3) := by decide +kernel
theorem dX6_apart_14 : decode cX6_apart 14 = .ok (.iload_n 1, 1) := by decide +kernel
theorem dX6_apart_15 : decode cX6_apart 15 = .ok (.aaload, 1) := by decide +kernel
theorem dX6_apart_16 : decode cX6_apart 16 = .ok (.astore_n 2, 1) := by decide +kernel
theorem dX6_apart_17 : decode cX6_apart 17 = .ok (.aload_n 2, 1) := by decide +kernel
theorem dX6_apart_18 : decode cX6_apart 18 = .ok (.invokevirtual 85, 3) := by decide +kernel
theorem dX6_apart_21 : decode cX6_apart 21 = .ok (.ifCond .eq 9, 3) := by decide +kernel
theorem dX6_apart_24 : decode cX6_apart 24 = .ok (.aload_n 0, 1) := by decide +kernel
theorem dX6_apart_25 : decode cX6_apart 25 = .ok (.iconst 1, 1) := by decide +kernel
theorem dX6_apart_26 : decode cX6_apart 26 = .ok (.invokevirtual 77, 3) := by decide +kernel
theorem dX6_apart_29 : decode cX6_apart 29 = .ok (.ireturn, 1) := by decide +kernel
theorem dX6_apart_30 : decode cX6_apart 30 = .ok (.aload_n 2, 1) := by decide +kernel
theorem dX6_apart_31 : decode cX6_apart 31 = .ok (.invokestatic 288, 3) := by decide +kernel
theorem dX6_apart_34 : decode cX6_apart 34 = .ok (.istore_n 3, 1) := by decide +kernel
theorem dX6_apart_35 : decode cX6_apart 35 = .ok (.iload_n 3, 1) := by decide +kernel
theorem dX6_apart_36 : decode cX6_apart 36 = .ok (.ifCond .eq 9, 3) := by decide +kernel
theorem dX6_apart_39 : decode cX6_apart 39 = .ok (.aload_n 0, 1) := by decide +kernel
theorem dX6_apart_40 : decode cX6_apart 40 = .ok (.iload_n 3, 1) := by decide +kernel
theorem dX6_apart_41 : decode cX6_apart 41 = .ok (.invokevirtual 77, 3) := by decide +kernel
theorem dX6_apart_44 : decode cX6_apart 44 = .ok (.ireturn, 1) := by decide +kernel
theorem dX6_apart_45 : decode cX6_apart 45 = .ok (.aload_n 2, 1) := by decide +kernel
theorem dX6_apart_46 : decode cX6_apart 46 = .ok (.getfield 114, 3) := by decide +kernel
theorem dX6_apart_49 : decode cX6_apart 49 = .ok (.iconst 2, 1) := by decide +kernel
theorem dX6_apart_50 : decode cX6_apart 50 = .ok (.if_icmp .ge 6, 3) := by decide +kernel
theorem dX6_apart_53 : decode cX6_apart 53 = .ok (.bipush (-9), 2) := by decide +kernel
theorem dX6_apart_55 : decode cX6_apart 55 = .ok (.ireturn, 1) := by decide +kernel
theorem dX6_apart_56 : decode cX6_apart 56 = .ok (.bipush 12, 2) := by decide +kernel
theorem dX6_apart_58 : decode cX6_apart 58 = .ok (.istore 4, 2) := by decide +kernel
theorem dX6_apart_60 : decode cX6_apart 60 = .ok (.iconst 0, 1) := by decide +kernel
theorem dX6_apart_61 : decode cX6_apart 61 = .ok (.istore 5, 2) := by decide +kernel
theorem dX6_apart_63 : decode cX6_apart 63 = .ok (.iload 5, 2) := by decide +kernel
theorem dX6_apart_65 : decode cX6_apart 65 = .ok (.aload_n 2, 1) := by decide +kernel
theorem dX6_apart_66 : decode cX6_apart 66 = .ok (.getfield 114, 3) := by decide +kernel
theorem dX6_apart_69 : decode cX6_apart 69 = .ok (.if_icmp .ge 53, 3) := by decide +kernel
theorem dX6_apart_72 : decode cX6_apart 72 = .ok (.iload 5, 2) := by decide +kernel
theorem dX6_apart_74 : decode cX6_apart 74 = .ok (.iconst 1, 1) := by decide +kernel
theorem dX6_apart_75 : decode cX6_apart 75 = .ok (.iadd, 1) := by decide +kernel
theorem dX6_apart_76 : decode cX6_apart 76 = .ok (.istore 6, 2) := by decide +kernel
theorem dX6_apart_78 : decode cX6_apart 78 = .ok (.iload 6, 2) := by decide +kernel
theorem dX6_apart_80 : decode cX6_apart 80 = .ok (.aload_n 2, 1) := by decide +kernel
theorem dX6_apart_81 : decode cX6_apart 81 = .ok (.getfield 114, 3) := by decide +kernel
theorem dX6_apart_84 : decode cX6_apart 84 = .ok (.if_icmp .ge 32, 3) := by decide +kernel
theorem dX6_apart_87 : decode cX6_apart 87 = .ok (.iload 4, 2) := by decide +kernel
theorem dX6_apart_89 : decode cX6_apart 89 = .ok (.aload_n 2, 1) := by decide +kernel
theorem dX6_apart_90 : decode cX6_apart 90 = .ok (.iload 5, 2) := by decide +kernel
theorem dX6_apart_92 : decode cX6_apart 92 = .ok (.invokevirtual 92, 3) := by decide +kernel
theorem dX6_apart_95 : decode cX6_apart 95 = .ok (.aload_n 2, 1) := by decide +kernel
theorem dX6_apart_96 : decode cX6_apart 96 = .ok (.iload 6, 2) := by decide +kernel
theorem dX6_apart_98 : decode cX6_apart 98 = .ok (.invokevirtual 92, 3) := by decide +kernel
theorem dX6_apart_101 : decode cX6_apart 101 = .ok (.ixor, 1) := by decide +kernel
theorem dX6_apart_102 : decode cX6_apart 102 = .ok (.invokestatic 295, 3) := by decide +kernel
theorem dX6_apart_105 : decode cX6_apart 105 = .ok (.invokestatic 262, 3) := by decide +kernel
theorem dX6_apart_108 : decode cX6_apart 108 = .ok (.istore 4, 2) := by decide +kernel
theorem dX6_apart_110 : decode cX6_apart 110 = .ok (.iinc 6 1, 3) := by decide +kernel
theorem dX6_apart_113 : decode cX6_apart 113 = .ok (.goto (-35), 3) := by decide +kernel
theorem dX6_apart_116 : decode cX6_apart 116 = .ok (.iinc 5 1, 3) := by decide +kernel
theorem dX6_apart_119 : decode cX6_apart 119 = .ok (.goto (-56), 3) := by decide +kernel
theorem dX6_apart_122 : decode cX6_apart 122 = .ok (.iload 4, 2) := by decide +kernel
theorem dX6_apart_124 : decode cX6_apart 124 = .ok (.ireturn, 1) := by decide +kernel
theorem dX6_howFar_0 : decode cX6_howFar 0 = .ok (.aload_n 0, 1) := by decide +kernel
theorem dX6_howFar_1 : decode cX6_howFar 1 = .ok (.iload_n 1, 1) := by decide +kernel
theorem dX6_howFar_2 : decode cX6_howFar 2 = .ok (.invokevirtual 124, 3) := by decide +kernel
theorem dX6_howFar_5 : decode cX6_howFar 5 = .ok (.ifCond .eq 11, 3) := by decide +kernel
theorem dX6_howFar_8 : decode cX6_howFar 8 = .ok (.aload_n 0, 1) := by decide +kernel
theorem dX6_howFar_9 : decode cX6_howFar 9 = .ok (.iload_n 2, 1) := by decide +kernel
theorem dX6_howFar_10 : decode cX6_howFar 10 = .ok (.invokevirtual 73, 3) := by decide +kernel
theorem dX6_howFar_13 : decode cX6_howFar 13 = .ok (.ifCond .ne 5, 3) := by decide +kernel
theorem dX6_howFar_16 : decode cX6_howFar 16 = .ok (.iconst (-1), 1) := by decide +kernel
theorem dX6_howFar_17 : decode cX6_howFar 17 = .ok (.ireturn, 1) := by decide +kernel
theorem dX6_howFar_18 : decode cX6_howFar 18 = .ok (.aload_n 0, 1) := by decide +kernel
theorem dX6_howFar_19 : decode cX6_howFar 19 = .ok (.getfield 20, 3) := by decide +kernel
theorem dX6_howFar_22 : decode cX6_howFar 22 = .ok (.iload_n 1, 1) := by decide +kernel
theorem dX6_howFar_23 : decode cX6_howFar 23 = .ok (.aaload, 1) := by decide +kernel
theorem dX6_howFar_24 : decode cX6_howFar 24 = .ok (.invokevirtual 142, 3) := by decide +kernel
theorem dX6_howFar_27 : decode cX6_howFar 27 = .ok (.ifCond .ne 15, 3) := by decide +kernel
theorem dX6_howFar_30 : decode cX6_howFar 30 = .ok (.aload_n 0, 1) := by decide +kernel
theorem dX6_howFar_31 : decode cX6_howFar 31 = .ok (.getfield 11, 3) := by decide +kernel
theorem dX6_howFar_34 : decode cX6_howFar 34 = .ok (.iload_n 2, 1) := by decide +kernel
theorem dX6_howFar_35 : decode cX6_howFar 35 = .ok (.aaload, 1) := by decide +kernel
theorem dX6_howFar_36 : decode cX6_howFar 36 = .ok (.invokevirtual 85, 3) := by decide +kernel
theorem dX6_howFar_39 : decode cX6_howFar 39 = .ok (.ifCond .eq 9, 3) := by decide +kernel
theorem dX6_howFar_42 : decode cX6_howFar 42 = .ok (.aload_n 0, 1) := by decide +kernel
theorem dX6_howFar_43 : decode cX6_howFar 43 = .ok (.iconst 1, 1) := by decide +kernel
theorem dX6_howFar_44 : decode cX6_howFar 44 = .ok (.invokevirtual 77, 3) := by decide +kernel
theorem dX6_howFar_47 : decode cX6_howFar 47 = .ok (.ireturn, 1) := by decide +kernel
theorem dX6_howFar_48 : decode cX6_howFar 48 = .ok (.aload_n 0, 1) := by decide +kernel
theorem dX6_howFar_49 : decode cX6_howFar 49 = .ok (.getfield 20, 3) := by decide +kernel
theorem dX6_howFar_52 : decode cX6_howFar 52 = .ok (.iload_n 1, 1) := by decide +kernel
theorem dX6_howFar_53 : decode cX6_howFar 53 = .ok (.aaload, 1) := by decide +kernel
theorem dX6_howFar_54 : decode cX6_howFar 54 = .ok (.aload_n 0, 1) := by decide +kernel
theorem dX6_howFar_55 : decode cX6_howFar 55 = .ok (.getfield 36, 3) := by decide +kernel
theorem dX6_howFar_58 : decode cX6_howFar 58 = .ok (.invokevirtual 300, 3) := by decide +kernel
theorem dX6_howFar_61 : decode cX6_howFar 61 = .ok (.aload_n 0, 1) := by decide +kernel
theorem dX6_howFar_62 : decode cX6_howFar 62 = .ok (.getfield 36, 3) := by decide +kernel
theorem dX6_howFar_65 : decode cX6_howFar 65 = .ok (.aload_n 0, 1) := by decide +kernel
theorem dX6_howFar_66 : decode cX6_howFar 66 = .ok (.getfield 11, 3) := by decide +kernel
theorem dX6_howFar_69 : decode cX6_howFar 69 = .ok (.iload_n 2, 1) := by decide +kernel
theorem dX6_howFar_70 : decode cX6_howFar 70 = .ok (.aaload, 1) := by decide +kernel
theorem dX6_howFar_71 : decode cX6_howFar 71 = .ok (.invokestatic 303, 3) := by decide +kernel
theorem dX6_howFar_74 : decode cX6_howFar 74 = .ok (.istore_n 3, 1) := by decide +kernel
theorem dX6_howFar_75 : decode cX6_howFar 75 = .ok (.iload_n 3, 1) := by decide +kernel
theorem dX6_howFar_76 : decode cX6_howFar 76 = .ok (.ifCond .eq 9, 3) := by decide +kernel
theorem dX6_howFar_79 : decode cX6_howFar 79 = .ok (.aload_n 0, 1) := by decide +kernel
theorem dX6_howFar_80 : decode cX6_howFar 80 = .ok (.iload_n 3, 1) := by decide +kernel
theorem dX6_howFar_81 : decode cX6_howFar 81 = .ok (.invokevirtual 77, 3) := by decide +kernel
theorem dX6_howFar_84 : decode cX6_howFar 84 = .ok (.ireturn, 1) := by decide +kernel
theorem dX6_howFar_85 : decode cX6_howFar 85 = .ok (.ldc2_w 307, 3) := by decide +kernel
theorem dX6_howFar_88 : decode cX6_howFar 88 = .ok (.aload_n 0, 1) := by decide +kernel
theorem dX6_howFar_89 : decode cX6_howFar 89 = .ok (.getfield 36, 3) := by decide +kernel
theorem dX6_howFar_92 : decode cX6_howFar 92 = .ok (.invokevirtual 117, 3) := by decide +kernel
theorem dX6_howFar_95 : decode cX6_howFar 95 = .ok (.lmul, 1) := by decide +kernel
theorem dX6_howFar_96 : decode cX6_howFar 96 = .ok (.aload_n 0, 1) := by decide +kernel
theorem dX6_howFar_97 : decode cX6_howFar 97 = .ok (.getfield 11, 3) := by decide +kernel
theorem dX6_howFar_100 : decode cX6_howFar 100 = .ok (.iload_n 2, 1) := by decide +kernel
theorem dX6_howFar_101 : decode cX6_howFar 101 = .ok (.aaload, 1) := by decide +kernel
theorem dX6_howFar_102 : decode cX6_howFar 102 = .ok (.invokevirtual 117, 3) := by decide +kernel
theorem dX6_howFar_105 : decode cX6_howFar 105 = .ok (.lmul, 1) := by decide +kernel
theorem dX6_howFar_106 : decode cX6_howFar 106 = .ok (.lstore 4, 2) := by decide +kernel
theorem dX6_howFar_108 : decode cX6_howFar 108 = .ok (.aload_n 0, 1) := by decide +kernel
theorem dX6_howFar_109 : decode cX6_howFar 109 = .ok (.getfield 57, 3) := by decide +kernel
theorem dX6_howFar_112 : decode cX6_howFar 112 = .ok (.aload_n 0, 1) := by decide +kernel
theorem dX6_howFar_113 : decode cX6_howFar 113 = .ok (.getfield 36, 3) := by decide +kernel
theorem dX6_howFar_116 : decode cX6_howFar 116 = .ok (.aload_n 0, 1) := by decide +kernel
theorem dX6_howFar_117 : decode cX6_howFar 117 = .ok (.getfield 11, 3) := by decide +kernel
theorem dX6_howFar_120 : decode cX6_howFar 120 = .ok (.iload_n 2, 1) := by decide +kernel
theorem dX6_howFar_121 : decode cX6_howFar 121 = .ok (.aaload, 1) := by decide +kernel
theorem dX6_howFar_122 : decode cX6_howFar 122 = .ok (.invokestatic 309, 3) := by decide +kernel
theorem dX6_howFar_125 : decode cX6_howFar 125 = .ok (.lload 4, 2) := by decide +kernel
theorem dX6_howFar_127 : decode cX6_howFar 127 = .ok (.invokevirtual 231, 3) := by decide +kernel
theorem dX6_howFar_130 : decode cX6_howFar 130 = .ok (.iconst 1, 1) := by decide +kernel
theorem dX6_howFar_131 : decode cX6_howFar 131 = .ok (.ireturn, 1) := by decide +kernel
theorem dX6_bestTest_0 : decode cX6_bestTest 0 = .ok (.aload_n 0, 1) := by decide +kernel
theorem dX6_bestTest_1 : decode cX6_bestTest 1 = .ok (.iload_n 1, 1) := by decide +kernel
theorem dX6_bestTest_2 : decode cX6_bestTest 2 = .ok (.invokevirtual 73, 3) := by decide +kernel
theorem dX6_bestTest_5 : decode cX6_bestTest 5 = .ok (.ifCond .eq 11, 3) := by decide +kernel
theorem dX6_bestTest_8 : decode cX6_bestTest 8 = .ok (.aload_n 0, 1) := by decide +kernel
theorem dX6_bestTest_9 : decode cX6_bestTest 9 = .ok (.iload_n 2, 1) := by decide +kernel
theorem dX6_bestTest_10 : decode cX6_bestTest 10 = .ok (.invokevirtual 73, 3) := by decide +kernel
theorem dX6_bestTest_13 : decode cX6_bestTest 13 = .ok (.ifCond .ne 5, 3) := by decide +kernel
theorem dX6_bestTest_16 : decode cX6_bestTest 16 = .ok (.iconst (-1), 1) := by decide +kernel
theorem dX6_bestTest_17 : decode cX6_bestTest 17 = .ok (.ireturn, 1) := by decide +kernel
theorem dX6_bestTest_18 : decode cX6_bestTest 18 = .ok (.aload_n 0, 1) := by decide +kernel
theorem dX6_bestTest_19 : decode cX6_bestTest 19 = .ok (.getfield 11, 3) := by decide +kernel
theorem dX6_bestTest_22 : decode cX6_bestTest 22 = .ok (.iload_n 1, 1) := by decide +kernel
theorem dX6_bestTest_23 : decode cX6_bestTest 23 = .ok (.aaload, 1) := by decide +kernel
theorem dX6_bestTest_24 : decode cX6_bestTest 24 = .ok (.astore_n 3, 1) := by decide +kernel
theorem dX6_bestTest_25 : decode cX6_bestTest 25 = .ok (.aload_n 0, 1) := by decide +kernel
theorem dX6_bestTest_26 : decode cX6_bestTest 26 = .ok (.getfield 11, 3) := by decide +kernel
theorem dX6_bestTest_29 : decode cX6_bestTest 29 = .ok (.iload_n 2, 1) := by decide +kernel
theorem dX6_bestTest_30 : decode cX6_bestTest 30 = .ok (.aaload, 1) := by decide +kernel
theorem dX6_bestTest_31 : decode cX6_bestTest 31 = .ok (.astore 4, 2) := by decide +kernel
theorem dX6_bestTest_33 : decode cX6_bestTest 33 = .ok (.aload_n 3, 1) := by decide +kernel
theorem dX6_bestTest_34 : decode cX6_bestTest 34 = .ok (.invokevirtual 85, 3) := by decide +kernel
theorem dX6_bestTest_37 : decode cX6_bestTest 37 = .ok (.ifCond .ne 11, 3) := by decide +kernel
theorem dX6_bestTest_40 : decode cX6_bestTest 40 = .ok (.aload 4, 2) := by decide +kernel
theorem dX6_bestTest_42 : decode cX6_bestTest 42 = .ok (.invokevirtual 85, 3) := by decide +kernel
theorem dX6_bestTest_45 : decode cX6_bestTest 45 = .ok (.ifCond .eq 9, 3) := by decide +kernel
theorem dX6_bestTest_48 : decode cX6_bestTest 48 = .ok (.aload_n 0, 1) := by decide +kernel
theorem dX6_bestTest_49 : decode cX6_bestTest 49 = .ok (.iconst 1, 1) := by decide +kernel
theorem dX6_bestTest_50 : decode cX6_bestTest 50 = .ok (.invokevirtual 77, 3) := by decide +kernel
theorem dX6_bestTest_53 : decode cX6_bestTest 53 = .ok (.ireturn, 1) := by decide +kernel
theorem dX6_bestTest_54 : decode cX6_bestTest 54 = .ok (.aload_n 3, 1) := by decide +kernel
theorem dX6_bestTest_55 : decode cX6_bestTest 55 = .ok (.aload 4, 2) := by decide +kernel
theorem dX6_bestTest_57 : decode cX6_bestTest 57 = .ok (.invokestatic 303, 3) := by decide +kernel
theorem dX6_bestTest_60 : decode cX6_bestTest 60 = .ok (.istore 5, 2) := by decide +kernel
theorem dX6_bestTest_62 : decode cX6_bestTest 62 = .ok (.iload 5, 2) := by decide +kernel
theorem dX6_bestTest_64 : decode cX6_bestTest 64 = .ok (.ifCond .eq 10, 3) := by decide +kernel
theorem dX6_bestTest_67 : decode cX6_bestTest 67 = .ok (.aload_n 0, 1) := by decide +kernel
theorem dX6_bestTest_68 : decode cX6_bestTest 68 = .ok (.iload 5, 2) := by decide +kernel
theorem dX6_bestTest_70 : decode cX6_bestTest 70 = .ok (.invokevirtual 77, 3) := by decide +kernel
theorem dX6_bestTest_73 : decode cX6_bestTest 73 = .ok (.ireturn, 1) := by decide +kernel
theorem dX6_bestTest_74 : decode cX6_bestTest 74 = .ok (.ldc2_w 307, 3) := by decide +kernel
theorem dX6_bestTest_77 : decode cX6_bestTest 77 = .ok (.aload_n 3, 1) := by decide +kernel
theorem dX6_bestTest_78 : decode cX6_bestTest 78 = .ok (.invokevirtual 117, 3) := by decide +kernel
theorem dX6_bestTest_81 : decode cX6_bestTest 81 = .ok (.lmul, 1) := by decide +kernel
theorem dX6_bestTest_82 : decode cX6_bestTest 82 = .ok (.aload 4, 2) := by decide +kernel
theorem dX6_bestTest_84 : decode cX6_bestTest 84 = .ok (.invokevirtual 117, 3) := by decide +kernel
theorem dX6_bestTest_87 : decode cX6_bestTest 87 = .ok (.lmul, 1) := by decide +kernel
theorem dX6_bestTest_88 : decode cX6_bestTest 88 = .ok (.lstore 6, 2) := by decide +kernel
theorem dX6_bestTest_90 : decode cX6_bestTest 90 = .ok (.aload_n 0, 1) := by decide +kernel
theorem dX6_bestTest_91 : decode cX6_bestTest 91 = .ok (.getfield 57, 3) := by decide +kernel
theorem dX6_bestTest_94 : decode cX6_bestTest 94 = .ok (.lload 6, 2) := by decide +kernel
theorem dX6_bestTest_96 : decode cX6_bestTest 96 = .ok (.aload_n 3, 1) := by decide +kernel
theorem dX6_bestTest_97 : decode cX6_bestTest 97 = .ok (.aload 4, 2) := by decide +kernel
theorem dX6_bestTest_99 : decode cX6_bestTest 99 = .ok (.invokestatic 309, 3) := by decide +kernel
theorem dX6_bestTest_102 : decode cX6_bestTest 102 = .ok (.lsub, 1) := by decide +kernel
theorem dX6_bestTest_103 : decode cX6_bestTest 103 = .ok (.lload 6, 2) := by decide +kernel
theorem dX6_bestTest_105 : decode cX6_bestTest 105 = .ok (.invokevirtual 231, 3) := by decide +kernel
theorem dX6_bestTest_108 : decode cX6_bestTest 108 = .ok (.aload_n 0, 1) := by decide +kernel
theorem dX6_bestTest_109 : decode cX6_bestTest 109 = .ok (.aload_n 3, 1) := by decide +kernel
theorem dX6_bestTest_110 : decode cX6_bestTest 110 = .ok (.aload 4, 2) := by decide +kernel
theorem dX6_bestTest_112 : decode cX6_bestTest 112 = .ok (.invokestatic 313, 3) := by decide +kernel
theorem dX6_bestTest_115 : decode cX6_bestTest 115 = .ok (.putfield 61, 3) := by decide +kernel
theorem dX6_bestTest_118 : decode cX6_bestTest 118 = .ok (.iconst 1, 1) := by decide +kernel
theorem dX6_bestTest_119 : decode cX6_bestTest 119 = .ok (.ireturn, 1) := by decide +kernel
theorem dX6_learn_0 : decode cX6_learn 0 = .ok (.aload_n 0, 1) := by decide +kernel
theorem dX6_learn_1 : decode cX6_learn 1 = .ok (.iload_n 1, 1) := by decide +kernel
theorem dX6_learn_2 : decode cX6_learn 2 = .ok (.invokevirtual 124, 3) := by decide +kernel
theorem dX6_learn_5 : decode cX6_learn 5 = .ok (.ifCond .eq 11, 3) := by decide +kernel
theorem dX6_learn_8 : decode cX6_learn 8 = .ok (.aload_n 0, 1) := by decide +kernel
theorem dX6_learn_9 : decode cX6_learn 9 = .ok (.iload_n 2, 1) := by decide +kernel
theorem dX6_learn_10 : decode cX6_learn 10 = .ok (.invokevirtual 73, 3) := by decide +kernel
theorem dX6_learn_13 : decode cX6_learn 13 = .ok (.ifCond .ne 5, 3) := by decide +kernel
theorem dX6_learn_16 : decode cX6_learn 16 = .ok (.iconst (-1), 1) := by decide +kernel
theorem dX6_learn_17 : decode cX6_learn 17 = .ok (.ireturn, 1) := by decide +kernel
theorem dX6_learn_18 : decode cX6_learn 18 = .ok (.aload_n 0, 1) := by decide +kernel
theorem dX6_learn_19 : decode cX6_learn 19 = .ok (.getfield 20, 3) := by decide +kernel
theorem dX6_learn_22 : decode cX6_learn 22 = .ok (.iload_n 1, 1) := by decide +kernel
theorem dX6_learn_23 : decode cX6_learn 23 = .ok (.aaload, 1) := by decide +kernel
theorem dX6_learn_24 : decode cX6_learn 24 = .ok (.invokevirtual 142, 3) := by decide +kernel
theorem dX6_learn_27 : decode cX6_learn 27 = .ok (.ifCond .eq 9, 3) := by decide +kernel
theorem dX6_learn_30 : decode cX6_learn 30 = .ok (.aload_n 0, 1) := by decide +kernel
theorem dX6_learn_31 : decode cX6_learn 31 = .ok (.iconst 1, 1) := by decide +kernel
theorem dX6_learn_32 : decode cX6_learn 32 = .ok (.invokevirtual 77, 3) := by decide +kernel
theorem dX6_learn_35 : decode cX6_learn 35 = .ok (.ireturn, 1) := by decide +kernel
theorem dX6_learn_36 : decode cX6_learn 36 = .ok (.aload_n 0, 1) := by decide +kernel
theorem dX6_learn_37 : decode cX6_learn 37 = .ok (.getfield 20, 3) := by decide +kernel
theorem dX6_learn_40 : decode cX6_learn 40 = .ok (.iload_n 1, 1) := by decide +kernel
theorem dX6_learn_41 : decode cX6_learn 41 = .ok (.aaload, 1) := by decide +kernel
theorem dX6_learn_42 : decode cX6_learn 42 = .ok (.aload_n 0, 1) := by decide +kernel
theorem dX6_learn_43 : decode cX6_learn 43 = .ok (.getfield 11, 3) := by decide +kernel
theorem dX6_learn_46 : decode cX6_learn 46 = .ok (.iload_n 2, 1) := by decide +kernel
theorem dX6_learn_47 : decode cX6_learn 47 = .ok (.aaload, 1) := by decide +kernel
theorem dX6_learn_48 : decode cX6_learn 48 = .ok (.invokevirtual 300, 3) := by decide +kernel
theorem dX6_learn_51 : decode cX6_learn 51 = .ok (.iconst 0, 1) := by decide +kernel
theorem dX6_learn_52 : decode cX6_learn 52 = .ok (.istore_n 3, 1) := by decide +kernel
theorem dX6_learn_53 : decode cX6_learn 53 = .ok (.iconst 0, 1) := by decide +kernel
theorem dX6_learn_54 : decode cX6_learn 54 = .ok (.istore 4, 2) := by decide +kernel
theorem dX6_learn_56 : decode cX6_learn 56 = .ok (.iload 4, 2) := by decide +kernel
theorem dX6_learn_58 : decode cX6_learn 58 = .ok (.bipush 8, 2) := by decide +kernel
theorem dX6_learn_60 : decode cX6_learn 60 = .ok (.if_icmp .ge 26, 3) := by decide +kernel
theorem dX6_learn_63 : decode cX6_learn 63 = .ok (.aload_n 0, 1) := by decide +kernel
theorem dX6_learn_64 : decode cX6_learn 64 = .ok (.getfield 11, 3) := by decide +kernel
theorem dX6_learn_67 : decode cX6_learn 67 = .ok (.iload_n 2, 1) := by decide +kernel
theorem dX6_learn_68 : decode cX6_learn 68 = .ok (.aaload, 1) := by decide +kernel
theorem dX6_learn_69 : decode cX6_learn 69 = .ok (.iload 4, 2) := by decide +kernel
theorem dX6_learn_71 : decode cX6_learn 71 = .ok (.invokevirtual 92, 3) := by decide +kernel
theorem dX6_learn_74 : decode cX6_learn 74 = .ok (.ifCond .le 6, 3) := by decide +kernel
theorem dX6_learn_77 : decode cX6_learn 77 = .ok (.iinc 3 1, 3) := by decide +kernel
theorem dX6_learn_80 : decode cX6_learn 80 = .ok (.iinc 4 1, 3) := by decide +kernel
theorem dX6_learn_83 : decode cX6_learn 83 = .ok (.goto (-27), 3) := by decide +kernel
theorem dX6_learn_86 : decode cX6_learn 86 = .ok (.iload_n 3, 1) := by decide +kernel
theorem dX6_learn_87 : decode cX6_learn 87 = .ok (.ireturn, 1) := by decide +kernel
theorem dX6_pairs_0 : decode cX6_pairs 0 = .ok (.aload_n 0, 1) := by decide +kernel
theorem dX6_pairs_1 : decode cX6_pairs 1 = .ok (.iload_n 1, 1) := by decide +kernel
theorem dX6_pairs_2 : decode cX6_pairs 2 = .ok (.invokevirtual 124, 3) := by decide +kernel
theorem dX6_pairs_5 : decode cX6_pairs 5 = .ok (.ifCond .ne 5, 3) := by decide +kernel
theorem dX6_pairs_8 : decode cX6_pairs 8 = .ok (.iconst (-1), 1) := by decide +kernel
theorem dX6_pairs_9 : decode cX6_pairs 9 = .ok (.ireturn, 1) := by decide +kernel
theorem dX6_pairs_10 : decode cX6_pairs 10 = .ok (.aload_n 0, 1) := by decide +kernel
theorem dX6_pairs_11 : decode cX6_pairs 11 = .ok (.getfield 20, 3) := by decide +kernel
theorem dX6_pairs_14 : decode cX6_pairs 14 = .ok (.iload_n 1, 1) := by decide +kernel
theorem dX6_pairs_15 : decode cX6_pairs 15 = .ok (.aaload, 1) := by decide +kernel
theorem dX6_pairs_16 : decode cX6_pairs 16 = .ok (.astore_n 2, 1) := by decide +kernel
theorem dX6_pairs_17 : decode cX6_pairs 17 = .ok (.aload_n 2, 1) := by decide +kernel
theorem dX6_pairs_18 : decode cX6_pairs 18 = .ok (.invokevirtual 142, 3) := by decide +kernel
theorem dX6_pairs_21 : decode cX6_pairs 21 = .ok (.ifCond .eq 9, 3) := by decide +kernel
theorem dX6_pairs_24 : decode cX6_pairs 24 = .ok (.aload_n 0, 1) := by decide +kernel
theorem dX6_pairs_25 : decode cX6_pairs 25 = .ok (.iconst 1, 1) := by decide +kernel
theorem dX6_pairs_26 : decode cX6_pairs 26 = .ok (.invokevirtual 77, 3) := by decide +kernel
theorem dX6_pairs_29 : decode cX6_pairs 29 = .ok (.ireturn, 1) := by decide +kernel
theorem dX6_pairs_30 : decode cX6_pairs 30 = .ok (.aload_n 0, 1) := by decide +kernel
theorem dX6_pairs_31 : decode cX6_pairs 31 = .ok (.getfield 57, 3) := by decide +kernel
theorem dX6_pairs_34 : decode cX6_pairs 34 = .ok (.lconst 0, 1) := by decide +kernel
theorem dX6_pairs_35 : decode cX6_pairs 35 = .ok (.lconst 1, 1) := by decide +kernel
theorem dX6_pairs_36 : decode cX6_pairs 36 = .ok (.invokevirtual 231, 3) := by decide +kernel
theorem dX6_pairs_39 : decode cX6_pairs 39 = .ok (.iconst 0, 1) := by decide +kernel
theorem dX6_pairs_40 : decode cX6_pairs 40 = .ok (.istore_n 3, 1) := by decide +kernel
theorem dX6_pairs_41 : decode cX6_pairs 41 = .ok (.iconst 0, 1) := by decide +kernel
theorem dX6_pairs_42 : decode cX6_pairs 42 = .ok (.istore 4, 2) := by decide +kernel
theorem dX6_pairs_44 : decode cX6_pairs 44 = .ok (.iload 4, 2) := by decide +kernel
theorem dX6_pairs_46 : decode cX6_pairs 46 = .ok (.aload_n 2, 1) := by decide +kernel
theorem dX6_pairs_47 : decode cX6_pairs 47 = .ok (.getfield 151, 3) := by decide +kernel
theorem dX6_pairs_50 : decode cX6_pairs 50 = .ok (.if_icmp .ge 78, 3) := by decide +kernel
theorem dX6_pairs_53 : decode cX6_pairs 53 = .ok (.aload_n 2, 1) := by decide +kernel
theorem dX6_pairs_54 : decode cX6_pairs 54 = .ok (.iload 4, 2) := by decide +kernel
theorem dX6_pairs_56 : decode cX6_pairs 56 = .ok (.invokevirtual 316, 3) := by decide +kernel
theorem dX6_pairs_59 : decode cX6_pairs 59 = .ok (.ifCond .ne 6, 3) := by decide +kernel
theorem dX6_pairs_62 : decode cX6_pairs 62 = .ok (.goto 60, 3) := by decide +kernel
theorem dX6_pairs_65 : decode cX6_pairs 65 = .ok (.aload_n 2, 1) := by decide +kernel
theorem dX6_pairs_66 : decode cX6_pairs 66 = .ok (.aload_n 2, 1) := by decide +kernel
theorem dX6_pairs_67 : decode cX6_pairs 67 = .ok (.iload 4, 2) := by decide +kernel
theorem dX6_pairs_69 : decode cX6_pairs 69 = .ok (.invokevirtual 152, 3) := by decide +kernel
theorem dX6_pairs_72 : decode cX6_pairs 72 = .ok (.bipush (-2), 2) := by decide +kernel
theorem dX6_pairs_74 : decode cX6_pairs 74 = .ok (.iand, 1) := by decide +kernel
theorem dX6_pairs_75 : decode cX6_pairs 75 = .ok (.invokevirtual 319, 3) := by decide +kernel
theorem dX6_pairs_78 : decode cX6_pairs 78 = .ok (.istore 5, 2) := by decide +kernel
theorem dX6_pairs_80 : decode cX6_pairs 80 = .ok (.aload_n 2, 1) := by decide +kernel
theorem dX6_pairs_81 : decode cX6_pairs 81 = .ok (.aload_n 2, 1) := by decide +kernel
theorem dX6_pairs_82 : decode cX6_pairs 82 = .ok (.iload 4, 2) := by decide +kernel
theorem dX6_pairs_84 : decode cX6_pairs 84 = .ok (.invokevirtual 152, 3) := by decide +kernel
theorem dX6_pairs_87 : decode cX6_pairs 87 = .ok (.iconst 1, 1) := by decide +kernel
theorem dX6_pairs_88 : decode cX6_pairs 88 = .ok (.ior, 1) := by decide +kernel
theorem dX6_pairs_89 : decode cX6_pairs 89 = .ok (.invokevirtual 319, 3) := by decide +kernel
theorem dX6_pairs_92 : decode cX6_pairs 92 = .ok (.istore 6, 2) := by decide +kernel
theorem dX6_pairs_94 : decode cX6_pairs 94 = .ok (.aload_n 0, 1) := by decide +kernel
theorem dX6_pairs_95 : decode cX6_pairs 95 = .ok (.getfield 57, 3) := by decide +kernel
theorem dX6_pairs_98 : decode cX6_pairs 98 = .ok (.iload 5, 2) := by decide +kernel
theorem dX6_pairs_100 : decode cX6_pairs 100 = .ok (.iload 6, 2) := by decide +kernel
theorem dX6_pairs_102 : decode cX6_pairs 102 = .ok (.isub, 1) := by decide +kernel
theorem dX6_pairs_103 : decode cX6_pairs 103 = .ok (.iload 5, 2) := by decide +kernel
theorem dX6_pairs_105 : decode cX6_pairs 105 = .ok (.iload 6, 2) := by decide +kernel
theorem dX6_pairs_107 : decode cX6_pairs 107 = .ok (.isub, 1) := by decide +kernel
theorem dX6_pairs_108 : decode cX6_pairs 108 = .ok (.imul, 1) := by decide +kernel
theorem dX6_pairs_109 : decode cX6_pairs 109 = .ok (.i2l, 1) := by decide +kernel
theorem dX6_pairs_110 : decode cX6_pairs 110 = .ok (.iload 5, 2) := by decide +kernel
theorem dX6_pairs_112 : decode cX6_pairs 112 = .ok (.iload 6, 2) := by decide +kernel
theorem dX6_pairs_114 : decode cX6_pairs 114 = .ok (.iadd, 1) := by decide +kernel
theorem dX6_pairs_115 : decode cX6_pairs 115 = .ok (.i2l, 1) := by decide +kernel
theorem dX6_pairs_116 : decode cX6_pairs 116 = .ok (.invokevirtual 322, 3) := by decide +kernel
theorem dX6_pairs_119 : decode cX6_pairs 119 = .ok (.iinc 3 1, 3) := by decide +kernel
theorem dX6_pairs_122 : decode cX6_pairs 122 = .ok (.iinc 4 1, 3) := by decide +kernel
theorem dX6_pairs_125 : decode cX6_pairs 125 = .ok (.goto (-81), 3) := by decide +kernel
theorem dX6_pairs_128 : decode cX6_pairs 128 = .ok (.iload_n 3, 1) := by decide +kernel
theorem dX6_pairs_129 : decode cX6_pairs 129 = .ok (.ireturn, 1) := by decide +kernel
theorem dX6_rank_0 : decode cX6_rank 0 = .ok (.aload_n 0, 1) := by decide +kernel
theorem dX6_rank_1 : decode cX6_rank 1 = .ok (.iload_n 1, 1) := by decide +kernel
theorem dX6_rank_2 : decode cX6_rank 2 = .ok (.invokevirtual 124, 3) := by decide +kernel
theorem dX6_rank_5 : decode cX6_rank 5 = .ok (.ifCond .ne 5, 3) := by decide +kernel
theorem dX6_rank_8 : decode cX6_rank 8 = .ok (.iconst (-1), 1) := by decide +kernel
theorem dX6_rank_9 : decode cX6_rank 9 = .ok (.ireturn, 1) := by decide +kernel
theorem dX6_rank_10 : decode cX6_rank 10 = .ok (.aload_n 0, 1) := by decide +kernel
theorem dX6_rank_11 : decode cX6_rank 11 = .ok (.getfield 20, 3) := by decide +kernel
theorem dX6_rank_14 : decode cX6_rank 14 = .ok (.iload_n 1, 1) := by decide +kernel
theorem dX6_rank_15 : decode cX6_rank 15 = .ok (.aaload, 1) := by decide +kernel
theorem dX6_rank_16 : decode cX6_rank 16 = .ok (.astore_n 2, 1) := by decide +kernel
theorem dX6_rank_17 : decode cX6_rank 17 = .ok (.aload_n 2, 1) := by decide +kernel
theorem dX6_rank_18 : decode cX6_rank 18 = .ok (.invokevirtual 142, 3) := by decide +kernel
theorem dX6_rank_21 : decode cX6_rank 21 = .ok (.ifCond .eq 9, 3) := by decide +kernel
theorem dX6_rank_24 : decode cX6_rank 24 = .ok (.aload_n 0, 1) := by decide +kernel
theorem dX6_rank_25 : decode cX6_rank 25 = .ok (.iconst 1, 1) := by decide +kernel
theorem dX6_rank_26 : decode cX6_rank 26 = .ok (.invokevirtual 77, 3) := by decide +kernel
theorem dX6_rank_29 : decode cX6_rank 29 = .ok (.ireturn, 1) := by decide +kernel
theorem dX6_rank_30 : decode cX6_rank 30 = .ok (.aload_n 2, 1) := by decide +kernel
theorem dX6_rank_31 : decode cX6_rank 31 = .ok (.getfield 160, 3) := by decide +kernel
theorem dX6_rank_34 : decode cX6_rank 34 = .ok (.iconst 4, 1) := by decide +kernel
theorem dX6_rank_35 : decode cX6_rank 35 = .ok (.if_icmp .eq 9, 3) := by decide +kernel
theorem dX6_rank_38 : decode cX6_rank 38 = .ok (.aload_n 0, 1) := by decide +kernel
theorem dX6_rank_39 : decode cX6_rank 39 = .ok (.iconst 3, 1) := by decide +kernel
theorem dX6_rank_40 : decode cX6_rank 40 = .ok (.invokevirtual 77, 3) := by decide +kernel
theorem dX6_rank_43 : decode cX6_rank 43 = .ok (.ireturn, 1) := by decide +kernel
theorem dX6_rank_44 : decode cX6_rank 44 = .ok (.lconst 0, 1) := by decide +kernel
theorem dX6_rank_45 : decode cX6_rank 45 = .ok (.lstore_n 3, 1) := by decide +kernel
theorem dX6_rank_46 : decode cX6_rank 46 = .ok (.iconst 0, 1) := by decide +kernel
theorem dX6_rank_47 : decode cX6_rank 47 = .ok (.istore 5, 2) := by decide +kernel
theorem dX6_rank_49 : decode cX6_rank 49 = .ok (.iload 5, 2) := by decide +kernel
theorem dX6_rank_51 : decode cX6_rank 51 = .ok (.aload_n 2, 1) := by decide +kernel
theorem dX6_rank_52 : decode cX6_rank 52 = .ok (.getfield 151, 3) := by decide +kernel
theorem dX6_rank_55 : decode cX6_rank 55 = .ok (.if_icmp .ge 32, 3) := by decide +kernel
theorem dX6_rank_58 : decode cX6_rank 58 = .ok (.lload_n 3, 1) := by decide +kernel
theorem dX6_rank_59 : decode cX6_rank 59 = .ok (.aload_n 2, 1) := by decide +kernel
theorem dX6_rank_60 : decode cX6_rank 60 = .ok (.getfield 151, 3) := by decide +kernel
theorem dX6_rank_63 : decode cX6_rank 63 = .ok (.iload 5, 2) := by decide +kernel
theorem dX6_rank_65 : decode cX6_rank 65 = .ok (.isub, 1) := by decide +kernel
theorem dX6_rank_66 : decode cX6_rank 66 = .ok (.i2l, 1) := by decide +kernel
theorem dX6_rank_67 : decode cX6_rank 67 = .ok (.lmul, 1) := by decide +kernel
theorem dX6_rank_68 : decode cX6_rank 68 = .ok (.aload_n 2, 1) := by decide +kernel
theorem dX6_rank_69 : decode cX6_rank 69 = .ok (.iload 5, 2) := by decide +kernel
theorem dX6_rank_71 : decode cX6_rank 71 = .ok (.invokevirtual 325, 3) := by decide +kernel
theorem dX6_rank_74 : decode cX6_rank 74 = .ok (.i2l, 1) := by decide +kernel
theorem dX6_rank_75 : decode cX6_rank 75 = .ok (.ladd, 1) := by decide +kernel
theorem dX6_rank_76 : decode cX6_rank 76 = .ok (.ldc2_w 328, 3) := by decide +kernel
theorem dX6_rank_79 : decode cX6_rank 79 = .ok (.lrem, 1) := by decide +kernel
theorem dX6_rank_80 : decode cX6_rank 80 = .ok (.lstore_n 3, 1) := by decide +kernel
theorem dX6_rank_81 : decode cX6_rank 81 = .ok (.iinc 5 1, 3) := by decide +kernel
theorem dX6_rank_84 : decode cX6_rank 84 = .ok (.goto (-35), 3) := by decide +kernel
theorem dX6_rank_87 : decode cX6_rank 87 = .ok (.lload_n 3, 1) := by decide +kernel
theorem dX6_rank_88 : decode cX6_rank 88 = .ok (.l2i, 1) := by decide +kernel
theorem dX6_rank_89 : decode cX6_rank 89 = .ok (.ireturn, 1) := by decide +kernel
theorem dX6_arrange_0 : decode cX6_arrange 0 = .ok (.aload_n 0, 1) := by decide +kernel
theorem dX6_arrange_1 : decode cX6_arrange 1 = .ok (.iload_n 1, 1) := by decide +kernel
theorem dX6_arrange_2 : decode cX6_arrange 2 = .ok (.invokevirtual 124, 3) := by decide +kernel
theorem dX6_arrange_5 : decode cX6_arrange 5 = .ok (.ifCond .eq 7, 3) := by decide +kernel
theorem dX6_arrange_8 : decode cX6_arrange 8 = .ok (.iload_n 2, 1) := by decide +kernel
theorem dX6_arrange_9 : decode cX6_arrange 9 = .ok (.ifCond .ge 5, 3) := by decide +kernel
theorem dX6_arrange_12 : decode cX6_arrange 12 = .ok (.iconst (-1), 1) := by decide +kernel
theorem dX6_arrange_13 : decode cX6_arrange 13 = .ok (.ireturn, 1) := by decide +kernel
theorem dX6_arrange_14 : decode cX6_arrange 14 = .ok (.aload_n 0, 1) := by decide +kernel
theorem dX6_arrange_15 : decode cX6_arrange 15 = .ok (.getfield 20, 3) := by decide +kernel
theorem dX6_arrange_18 : decode cX6_arrange 18 = .ok (.iload_n 1, 1) := by decide +kernel
theorem dX6_arrange_19 : decode cX6_arrange 19 = .ok (.aaload, 1) := by decide +kernel
theorem dX6_arrange_20 : decode cX6_arrange 20 = .ok (.astore_n 3, 1) := by decide +kernel
theorem dX6_arrange_21 : decode cX6_arrange 21 = .ok (.aload_n 3, 1) := by decide +kernel
theorem dX6_arrange_22 : decode cX6_arrange 22 = .ok (.invokevirtual 142, 3) := by decide +kernel
theorem dX6_arrange_25 : decode cX6_arrange 25 = .ok (.ifCond .eq 9, 3) := by decide +kernel
theorem dX6_arrange_28 : decode cX6_arrange 28 = .ok (.aload_n 0, 1) := by decide +kernel
theorem dX6_arrange_29 : decode cX6_arrange 29 = .ok (.iconst 1, 1) := by decide +kernel
theorem dX6_arrange_30 : decode cX6_arrange 30 = .ok (.invokevirtual 77, 3) := by decide +kernel
theorem dX6_arrange_33 : decode cX6_arrange 33 = .ok (.ireturn, 1) := by decide +kernel
theorem dX6_arrange_34 : decode cX6_arrange 34 = .ok (.aload_n 3, 1) := by decide +kernel
theorem dX6_arrange_35 : decode cX6_arrange 35 = .ok (.getfield 160, 3) := by decide +kernel
theorem dX6_arrange_38 : decode cX6_arrange 38 = .ok (.iconst 4, 1) := by decide +kernel
theorem dX6_arrange_39 : decode cX6_arrange 39 = .ok (.if_icmp .eq 9, 3) := by decide +kernel
theorem dX6_arrange_42 : decode cX6_arrange 42 = .ok (.aload_n 0, 1) := by decide +kernel
theorem dX6_arrange_43 : decode cX6_arrange 43 = .ok (.iconst 3, 1) := by decide +kernel
theorem dX6_arrange_44 : decode cX6_arrange 44 = .ok (.invokevirtual 77, 3) := by decide +kernel
theorem dX6_arrange_47 : decode cX6_arrange 47 = .ok (.ireturn, 1) := by decide +kernel
theorem dX6_arrange_48 : decode cX6_arrange 48 = .ok (.aload_n 3, 1) := by decide +kernel
theorem dX6_arrange_49 : decode cX6_arrange 49 = .ok (.getfield 151, 3) := by decide +kernel
theorem dX6_arrange_52 : decode cX6_arrange 52 = .ok (.bipush 10, 2) := by decide +kernel
theorem dX6_arrange_54 : decode cX6_arrange 54 = .ok (.if_icmp .le 6, 3) := by decide +kernel
theorem dX6_arrange_57 : decode cX6_arrange 57 = .ok (.bipush (-6), 2) := by decide +kernel
theorem dX6_arrange_59 : decode cX6_arrange 59 = .ok (.ireturn, 1) := by decide +kernel
theorem dX6_arrange_60 : decode cX6_arrange 60 = .ok (.iload_n 2, 1) := by decide +kernel
theorem dX6_arrange_61 : decode cX6_arrange 61 = .ok (.aload_n 3, 1) := by decide +kernel
theorem dX6_arrange_62 : decode cX6_arrange 62 = .ok (.getfield 151, 3) := by decide +kernel
theorem dX6_arrange_65 : decode cX6_arrange 65 = .ok (.invokestatic 330, 3) := by decide +kernel
theorem dX6_arrange_68 : decode cX6_arrange 68 = .ok (.if_icmp .lt 9, 3) := by decide +kernel
theorem dX6_arrange_71 : decode cX6_arrange 71 = .ok (.aload_n 0, 1) := by decide +kernel
theorem dX6_arrange_72 : decode cX6_arrange 72 = .ok (.iconst 2, 1) := by decide +kernel
theorem dX6_arrange_73 : decode cX6_arrange 73 = .ok (.invokevirtual 77, 3) := by decide +kernel
theorem dX6_arrange_76 : decode cX6_arrange 76 = .ok (.ireturn, 1) := by decide +kernel
theorem dX6_arrange_77 : decode cX6_arrange 77 = .ok (.aload_n 3, 1) := by decide +kernel
theorem dX6_arrange_78 : decode cX6_arrange 78 = .ok (.invokevirtual 333, 3) := by decide +kernel
theorem dX6_arrange_81 : decode cX6_arrange 81 = .ok (.iload_n 2, 1) := by decide +kernel
theorem dX6_arrange_82 : decode cX6_arrange 82 = .ok (.istore 4, 2) := by decide +kernel
theorem dX6_arrange_84 : decode cX6_arrange 84 = .ok (.iconst 0, 1) := by decide +kernel
theorem dX6_arrange_85 : decode cX6_arrange 85 = .ok (.istore 5, 2) := by decide +kernel
theorem dX6_arrange_87 : decode cX6_arrange 87 = .ok (.iload 5, 2) := by decide +kernel
theorem dX6_arrange_89 : decode cX6_arrange 89 = .ok (.aload_n 3, 1) := by decide +kernel
theorem dX6_arrange_90 : decode cX6_arrange 90 = .ok (.getfield 151, 3) := by decide +kernel
theorem dX6_arrange_93 : decode cX6_arrange 93 = .ok (.if_icmp .ge 48, 3) := by decide +kernel
theorem dX6_arrange_96 : decode cX6_arrange 96 = .ok (.iconst 1, 1) := by decide +kernel
theorem dX6_arrange_97 : decode cX6_arrange 97 = .ok (.aload_n 3, 1) := by decide +kernel
theorem dX6_arrange_98 : decode cX6_arrange 98 = .ok (.getfield 151, 3) := by decide +kernel
theorem dX6_arrange_101 : decode cX6_arrange 101 = .ok (.iconst 1, 1) := by decide +kernel
theorem dX6_arrange_102 : decode cX6_arrange 102 = .ok (.isub, 1) := by decide +kernel
theorem dX6_arrange_103 : decode cX6_arrange 103 = .ok (.iload 5, 2) := by decide +kernel
theorem dX6_arrange_105 : decode cX6_arrange 105 = .ok (.isub, 1) := by decide +kernel
theorem dX6_arrange_106 : decode cX6_arrange 106 = .ok (.invokestatic 330, 3) := by decide +kernel
theorem dX6_arrange_109 : decode cX6_arrange 109 = .ok (.invokestatic 267, 3) := by decide +kernel
theorem dX6_arrange_112 : decode cX6_arrange 112 = .ok (.istore 6, 2) := by decide +kernel
theorem dX6_arrange_114 : decode cX6_arrange 114 = .ok (.aload_n 3, 1) := by decide +kernel
theorem dX6_arrange_115 : decode cX6_arrange 115 = .ok (.iload 5, 2) := by decide +kernel
theorem dX6_arrange_117 : decode cX6_arrange 117 = .ok (.iload 4, 2) := by decide +kernel
theorem dX6_arrange_119 : decode cX6_arrange 119 = .ok (.iload 6, 2) := by decide +kernel
theorem dX6_arrange_121 : decode cX6_arrange 121 = .ok (.idiv, 1) := by decide +kernel
theorem dX6_arrange_122 : decode cX6_arrange 122 = .ok (.iadd, 1) := by decide +kernel
theorem dX6_arrange_123 : decode cX6_arrange 123 = .ok (.iload 5, 2) := by decide +kernel
theorem dX6_arrange_125 : decode cX6_arrange 125 = .ok (.invokevirtual 336, 3) := by decide +kernel
theorem dX6_arrange_128 : decode cX6_arrange 128 = .ok (.iload 4, 2) := by decide +kernel
theorem dX6_arrange_130 : decode cX6_arrange 130 = .ok (.iload 6, 2) := by decide +kernel
theorem dX6_arrange_132 : decode cX6_arrange 132 = .ok (.irem, 1) := by decide +kernel
theorem dX6_arrange_133 : decode cX6_arrange 133 = .ok (.istore 4, 2) := by decide +kernel
theorem dX6_arrange_135 : decode cX6_arrange 135 = .ok (.iinc 5 1, 3) := by decide +kernel
theorem dX6_arrange_138 : decode cX6_arrange 138 = .ok (.goto (-51), 3) := by decide +kernel
theorem dX6_arrange_141 : decode cX6_arrange 141 = .ok (.iconst 1, 1) := by decide +kernel
theorem dX6_arrange_142 : decode cX6_arrange 142 = .ok (.ireturn, 1) := by decide +kernel
theorem dX6_asked_0 : decode cX6_asked 0 = .ok (.aload_n 0, 1) := by decide +kernel
theorem dX6_asked_1 : decode cX6_asked 1 = .ok (.getfield 61, 3) := by decide +kernel
theorem dX6_asked_4 : decode cX6_asked 4 = .ok (.ireturn, 1) := by decide +kernel
theorem dX6_upper_0 : decode cX6_upper 0 = .ok (.aload_n 0, 1) := by decide +kernel
theorem dX6_upper_1 : decode cX6_upper 1 = .ok (.getfield 57, 3) := by decide +kernel
theorem dX6_upper_4 : decode cX6_upper 4 = .ok (.getfield 339, 3) := by decide +kernel
theorem dX6_upper_7 : decode cX6_upper 7 = .ok (.lreturn, 1) := by decide +kernel
theorem dX6_lower_0 : decode cX6_lower 0 = .ok (.aload_n 0, 1) := by decide +kernel
theorem dX6_lower_1 : decode cX6_lower 1 = .ok (.getfield 57, 3) := by decide +kernel
theorem dX6_lower_4 : decode cX6_lower 4 = .ok (.getfield 343, 3) := by decide +kernel
theorem dX6_lower_7 : decode cX6_lower 7 = .ok (.lreturn, 1) := by decide +kernel
theorem dX6_count_0 : decode cX6_count 0 = .ok (.iload_n 1, 1) := by decide +kernel
theorem dX6_count_1 : decode cX6_count 1 = .ok (.tableswitch 77 0 5 #[39, 47, 55, 61, 67, 72], 39) := by decide +kernel
theorem dX6_count_40 : decode cX6_count 40 = .ok (.aload_n 0, 1) := by decide +kernel
theorem dX6_count_41 : decode cX6_count 41 = .ok (.getfield 11, 3) := by decide +kernel
theorem dX6_count_44 : decode cX6_count 44 = .ok (.invokestatic 346, 3) := by decide +kernel
theorem dX6_count_47 : decode cX6_count 47 = .ok (.ireturn, 1) := by decide +kernel
theorem dX6_count_48 : decode cX6_count 48 = .ok (.aload_n 0, 1) := by decide +kernel
theorem dX6_count_49 : decode cX6_count 49 = .ok (.getfield 15, 3) := by decide +kernel
theorem dX6_count_52 : decode cX6_count 52 = .ok (.invokestatic 346, 3) := by decide +kernel
theorem dX6_count_55 : decode cX6_count 55 = .ok (.ireturn, 1) := by decide +kernel
theorem dX6_count_56 : decode cX6_count 56 = .ok (.aload_n 0, 1) := by decide +kernel
theorem dX6_count_57 : decode cX6_count 57 = .ok (.iconst 0, 1) := by decide +kernel
theorem dX6_count_58 : decode cX6_count 58 = .ok (.invokevirtual 350, 3) := by decide +kernel
theorem dX6_count_61 : decode cX6_count 61 = .ok (.ireturn, 1) := by decide +kernel
theorem dX6_count_62 : decode cX6_count 62 = .ok (.aload_n 0, 1) := by decide +kernel
theorem dX6_count_63 : decode cX6_count 63 = .ok (.iconst 1, 1) := by decide +kernel
theorem dX6_count_64 : decode cX6_count 64 = .ok (.invokevirtual 350, 3) := by decide +kernel
theorem dX6_count_67 : decode cX6_count 67 = .ok (.ireturn, 1) := by decide +kernel
theorem dX6_count_68 : decode cX6_count 68 = .ok (.aload_n 0, 1) := by decide +kernel
theorem dX6_count_69 : decode cX6_count 69 = .ok (.invokevirtual 354, 3) := by decide +kernel
theorem dX6_count_72 : decode cX6_count 72 = .ok (.ireturn, 1) := by decide +kernel
theorem dX6_count_73 : decode cX6_count 73 = .ok (.aload_n 0, 1) := by decide +kernel
theorem dX6_count_74 : decode cX6_count 74 = .ok (.invokevirtual 357, 3) := by decide +kernel
theorem dX6_count_77 : decode cX6_count 77 = .ok (.ireturn, 1) := by decide +kernel
theorem dX6_count_78 : decode cX6_count 78 = .ok (.iconst (-1), 1) := by decide +kernel
theorem dX6_count_79 : decode cX6_count 79 = .ok (.ireturn, 1) := by decide +kernel
theorem dX6_finding_0 : decode cX6_finding 0 = .ok (.aload_n 0, 1) := by decide +kernel
theorem dX6_finding_1 : decode cX6_finding 1 = .ok (.getfield 65, 3) := by decide +kernel
theorem dX6_finding_4 : decode cX6_finding 4 = .ok (.ireturn, 1) := by decide +kernel
theorem dX6_findings_0 : decode cX6_findings 0 = .ok (.iload_n 1, 1) := by decide +kernel
theorem dX6_findings_1 : decode cX6_findings 1 = .ok (.iconst 1, 1) := by decide +kernel
theorem dX6_findings_2 : decode cX6_findings 2 = .ok (.if_icmp .lt 8, 3) := by decide +kernel
theorem dX6_findings_5 : decode cX6_findings 5 = .ok (.iload_n 1, 1) := by decide +kernel
theorem dX6_findings_6 : decode cX6_findings 6 = .ok (.iconst 5, 1) := by decide +kernel
theorem dX6_findings_7 : decode cX6_findings 7 = .ok (.if_icmp .le 7, 3) := by decide +kernel
theorem dX6_findings_10 : decode cX6_findings 10 = .ok (.iconst (-1), 1) := by decide +kernel
theorem dX6_findings_11 : decode cX6_findings 11 = .ok (.goto 9, 3) := by decide +kernel
theorem dX6_findings_14 : decode cX6_findings 14 = .ok (.aload_n 0, 1) := by decide +kernel
theorem dX6_findings_15 : decode cX6_findings 15 = .ok (.getfield 68, 3) := by decide +kernel
theorem dX6_findings_18 : decode cX6_findings 18 = .ok (.iload_n 1, 1) := by decide +kernel
theorem dX6_findings_19 : decode cX6_findings 19 = .ok (.iaload, 1) := by decide +kernel
theorem dX6_findings_20 : decode cX6_findings 20 = .ok (.ireturn, 1) := by decide +kernel
theorem dX6_digest_0 : decode cX6_digest 0 = .ok (.ldc2_w 360, 3) := by decide +kernel
theorem dX6_digest_3 : decode cX6_digest 3 = .ok (.lstore_n 1, 1) := by decide +kernel
theorem dX6_digest_4 : decode cX6_digest 4 = .ok (.iconst 0, 1) := by decide +kernel
theorem dX6_digest_5 : decode cX6_digest 5 = .ok (.istore_n 3, 1) := by decide +kernel
theorem dX6_digest_6 : decode cX6_digest 6 = .ok (.iload_n 3, 1) := by decide +kernel
theorem dX6_digest_7 : decode cX6_digest 7 = .ok (.iconst 5, 1) := by decide +kernel
theorem dX6_digest_8 : decode cX6_digest 8 = .ok (.if_icmp .gt 22, 3) := by decide +kernel
theorem dX6_digest_11 : decode cX6_digest 11 = .ok (.ldc2_w 362, 3) := by decide +kernel
theorem dX6_digest_14 : decode cX6_digest 14 = .ok (.lload_n 1, 1) := by decide +kernel
theorem dX6_digest_15 : decode cX6_digest 15 = .ok (.lmul, 1) := by decide +kernel
theorem dX6_digest_16 : decode cX6_digest 16 = .ok (.aload_n 0, 1) := by decide +kernel
theorem dX6_digest_17 : decode cX6_digest 17 = .ok (.iload_n 3, 1) := by decide +kernel
theorem dX6_digest_18 : decode cX6_digest 18 = .ok (.invokevirtual 364, 3) := by decide +kernel
theorem dX6_digest_21 : decode cX6_digest 21 = .ok (.i2l, 1) := by decide +kernel
theorem dX6_digest_22 : decode cX6_digest 22 = .ok (.ladd, 1) := by decide +kernel
theorem dX6_digest_23 : decode cX6_digest 23 = .ok (.lstore_n 1, 1) := by decide +kernel
theorem dX6_digest_24 : decode cX6_digest 24 = .ok (.iinc 3 1, 3) := by decide +kernel
theorem dX6_digest_27 : decode cX6_digest 27 = .ok (.goto (-21), 3) := by decide +kernel
theorem dX6_digest_30 : decode cX6_digest 30 = .ok (.iconst 0, 1) := by decide +kernel
theorem dX6_digest_31 : decode cX6_digest 31 = .ok (.istore_n 3, 1) := by decide +kernel
theorem dX6_digest_32 : decode cX6_digest 32 = .ok (.iload_n 3, 1) := by decide +kernel
theorem dX6_digest_33 : decode cX6_digest 33 = .ok (.aload_n 0, 1) := by decide +kernel
theorem dX6_digest_34 : decode cX6_digest 34 = .ok (.getfield 20, 3) := by decide +kernel
theorem dX6_digest_37 : decode cX6_digest 37 = .ok (.arraylength, 1) := by decide +kernel
theorem dX6_digest_38 : decode cX6_digest 38 = .ok (.if_icmp .ge 20, 3) := by decide +kernel
theorem dX6_digest_41 : decode cX6_digest 41 = .ok (.aload_n 0, 1) := by decide +kernel
theorem dX6_digest_42 : decode cX6_digest 42 = .ok (.getfield 20, 3) := by decide +kernel
theorem dX6_digest_45 : decode cX6_digest 45 = .ok (.iload_n 3, 1) := by decide +kernel
theorem dX6_digest_46 : decode cX6_digest 46 = .ok (.aaload, 1) := by decide +kernel
theorem dX6_digest_47 : decode cX6_digest 47 = .ok (.lload_n 1, 1) := by decide +kernel
theorem dX6_digest_48 : decode cX6_digest 48 = .ok (.invokevirtual 367, 3) := by decide +kernel
theorem dX6_digest_51 : decode cX6_digest 51 = .ok (.lstore_n 1, 1) := by decide +kernel
theorem dX6_digest_52 : decode cX6_digest 52 = .ok (.iinc 3 1, 3) := by decide +kernel
theorem dX6_digest_55 : decode cX6_digest 55 = .ok (.goto (-23), 3) := by decide +kernel
theorem dX6_digest_58 : decode cX6_digest 58 = .ok (.iconst 0, 1) := by decide +kernel
theorem dX6_digest_59 : decode cX6_digest 59 = .ok (.istore_n 3, 1) := by decide +kernel
theorem dX6_digest_60 : decode cX6_digest 60 = .ok (.iload_n 3, 1) := by decide +kernel
theorem dX6_digest_61 : decode cX6_digest 61 = .ok (.aload_n 0, 1) := by decide +kernel
theorem dX6_digest_62 : decode cX6_digest 62 = .ok (.getfield 26, 3) := by decide +kernel
theorem dX6_digest_65 : decode cX6_digest 65 = .ok (.arraylength, 1) := by decide +kernel
theorem dX6_digest_66 : decode cX6_digest 66 = .ok (.if_icmp .ge 20, 3) := by decide +kernel
theorem dX6_digest_69 : decode cX6_digest 69 = .ok (.aload_n 0, 1) := by decide +kernel
theorem dX6_digest_70 : decode cX6_digest 70 = .ok (.getfield 26, 3) := by decide +kernel
theorem dX6_digest_73 : decode cX6_digest 73 = .ok (.iload_n 3, 1) := by decide +kernel
theorem dX6_digest_74 : decode cX6_digest 74 = .ok (.aaload, 1) := by decide +kernel
theorem dX6_digest_75 : decode cX6_digest 75 = .ok (.lload_n 1, 1) := by decide +kernel
theorem dX6_digest_76 : decode cX6_digest 76 = .ok (.invokevirtual 371, 3) := by decide +kernel
theorem dX6_digest_79 : decode cX6_digest 79 = .ok (.lstore_n 1, 1) := by decide +kernel
theorem dX6_digest_80 : decode cX6_digest 80 = .ok (.iinc 3 1, 3) := by decide +kernel
theorem dX6_digest_83 : decode cX6_digest 83 = .ok (.goto (-23), 3) := by decide +kernel
theorem dX6_digest_86 : decode cX6_digest 86 = .ok (.iconst 0, 1) := by decide +kernel
theorem dX6_digest_87 : decode cX6_digest 87 = .ok (.istore_n 3, 1) := by decide +kernel
theorem dX6_digest_88 : decode cX6_digest 88 = .ok (.iload_n 3, 1) := by decide +kernel
theorem dX6_digest_89 : decode cX6_digest 89 = .ok (.aload_n 0, 1) := by decide +kernel
theorem dX6_digest_90 : decode cX6_digest 90 = .ok (.getfield 11, 3) := by decide +kernel
theorem dX6_digest_93 : decode cX6_digest 93 = .ok (.arraylength, 1) := by decide +kernel
theorem dX6_digest_94 : decode cX6_digest 94 = .ok (.if_icmp .ge 20, 3) := by decide +kernel
theorem dX6_digest_97 : decode cX6_digest 97 = .ok (.aload_n 0, 1) := by decide +kernel
theorem dX6_digest_98 : decode cX6_digest 98 = .ok (.getfield 11, 3) := by decide +kernel
theorem dX6_digest_101 : decode cX6_digest 101 = .ok (.iload_n 3, 1) := by decide +kernel
theorem dX6_digest_102 : decode cX6_digest 102 = .ok (.aaload, 1) := by decide +kernel
theorem dX6_digest_103 : decode cX6_digest 103 = .ok (.lload_n 1, 1) := by decide +kernel
theorem dX6_digest_104 : decode cX6_digest 104 = .ok (.invokevirtual 372, 3) := by decide +kernel
theorem dX6_digest_107 : decode cX6_digest 107 = .ok (.lstore_n 1, 1) := by decide +kernel
theorem dX6_digest_108 : decode cX6_digest 108 = .ok (.iinc 3 1, 3) := by decide +kernel
theorem dX6_digest_111 : decode cX6_digest 111 = .ok (.goto (-23), 3) := by decide +kernel
theorem dX6_digest_114 : decode cX6_digest 114 = .ok (.iconst 0, 1) := by decide +kernel
theorem dX6_digest_115 : decode cX6_digest 115 = .ok (.istore_n 3, 1) := by decide +kernel
theorem dX6_digest_116 : decode cX6_digest 116 = .ok (.iload_n 3, 1) := by decide +kernel
theorem dX6_digest_117 : decode cX6_digest 117 = .ok (.aload_n 0, 1) := by decide +kernel
theorem dX6_digest_118 : decode cX6_digest 118 = .ok (.getfield 15, 3) := by decide +kernel
theorem dX6_digest_121 : decode cX6_digest 121 = .ok (.arraylength, 1) := by decide +kernel
theorem dX6_digest_122 : decode cX6_digest 122 = .ok (.if_icmp .ge 20, 3) := by decide +kernel
theorem dX6_digest_125 : decode cX6_digest 125 = .ok (.aload_n 0, 1) := by decide +kernel
theorem dX6_digest_126 : decode cX6_digest 126 = .ok (.getfield 15, 3) := by decide +kernel
theorem dX6_digest_129 : decode cX6_digest 129 = .ok (.iload_n 3, 1) := by decide +kernel
theorem dX6_digest_130 : decode cX6_digest 130 = .ok (.aaload, 1) := by decide +kernel
theorem dX6_digest_131 : decode cX6_digest 131 = .ok (.lload_n 1, 1) := by decide +kernel
theorem dX6_digest_132 : decode cX6_digest 132 = .ok (.invokevirtual 372, 3) := by decide +kernel
theorem dX6_digest_135 : decode cX6_digest 135 = .ok (.lstore_n 1, 1) := by decide +kernel
theorem dX6_digest_136 : decode cX6_digest 136 = .ok (.iinc 3 1, 3) := by decide +kernel
theorem dX6_digest_139 : decode cX6_digest 139 = .ok (.goto (-23), 3) := by decide +kernel
theorem dX6_digest_142 : decode cX6_digest 142 = .ok (.lload_n 1, 1) := by decide +kernel
theorem dX6_digest_143 : decode cX6_digest 143 = .ok (.lreturn, 1) := by decide +kernel
theorem dX6_isRow_0 : decode cX6_isRow 0 = .ok (.iload_n 1, 1) := by decide +kernel
theorem dX6_isRow_1 : decode cX6_isRow 1 = .ok (.ifCond .lt 16, 3) := by decide +kernel
theorem dX6_isRow_4 : decode cX6_isRow 4 = .ok (.iload_n 1, 1) := by decide +kernel
theorem dX6_isRow_5 : decode cX6_isRow 5 = .ok (.aload_n 0, 1) := by decide +kernel
theorem dX6_isRow_6 : decode cX6_isRow 6 = .ok (.getfield 11, 3) := by decide +kernel
theorem dX6_isRow_9 : decode cX6_isRow 9 = .ok (.arraylength, 1) := by decide +kernel
theorem dX6_isRow_10 : decode cX6_isRow 10 = .ok (.if_icmp .ge 7, 3) := by decide +kernel
theorem dX6_isRow_13 : decode cX6_isRow 13 = .ok (.iconst 1, 1) := by decide +kernel
theorem dX6_isRow_14 : decode cX6_isRow 14 = .ok (.goto 4, 3) := by decide +kernel
theorem dX6_isRow_17 : decode cX6_isRow 17 = .ok (.iconst 0, 1) := by decide +kernel
theorem dX6_isRow_18 : decode cX6_isRow 18 = .ok (.ireturn, 1) := by decide +kernel
theorem dX6_isText_0 : decode cX6_isText 0 = .ok (.iload_n 1, 1) := by decide +kernel
theorem dX6_isText_1 : decode cX6_isText 1 = .ok (.ifCond .lt 16, 3) := by decide +kernel
theorem dX6_isText_4 : decode cX6_isText 4 = .ok (.iload_n 1, 1) := by decide +kernel
theorem dX6_isText_5 : decode cX6_isText 5 = .ok (.aload_n 0, 1) := by decide +kernel
theorem dX6_isText_6 : decode cX6_isText 6 = .ok (.getfield 15, 3) := by decide +kernel
theorem dX6_isText_9 : decode cX6_isText 9 = .ok (.arraylength, 1) := by decide +kernel
theorem dX6_isText_10 : decode cX6_isText 10 = .ok (.if_icmp .ge 7, 3) := by decide +kernel
theorem dX6_isText_13 : decode cX6_isText 13 = .ok (.iconst 1, 1) := by decide +kernel
theorem dX6_isText_14 : decode cX6_isText 14 = .ok (.goto 4, 3) := by decide +kernel
theorem dX6_isText_17 : decode cX6_isText 17 = .ok (.iconst 0, 1) := by decide +kernel
theorem dX6_isText_18 : decode cX6_isText 18 = .ok (.ireturn, 1) := by decide +kernel
theorem dX6_isCover_0 : decode cX6_isCover 0 = .ok (.iload_n 1, 1) := by decide +kernel
theorem dX6_isCover_1 : decode cX6_isCover 1 = .ok (.ifCond .lt 16, 3) := by decide +kernel
theorem dX6_isCover_4 : decode cX6_isCover 4 = .ok (.iload_n 1, 1) := by decide +kernel
theorem dX6_isCover_5 : decode cX6_isCover 5 = .ok (.aload_n 0, 1) := by decide +kernel
theorem dX6_isCover_6 : decode cX6_isCover 6 = .ok (.getfield 20, 3) := by decide +kernel
theorem dX6_isCover_9 : decode cX6_isCover 9 = .ok (.arraylength, 1) := by decide +kernel
theorem dX6_isCover_10 : decode cX6_isCover 10 = .ok (.if_icmp .ge 7, 3) := by decide +kernel
theorem dX6_isCover_13 : decode cX6_isCover 13 = .ok (.iconst 1, 1) := by decide +kernel
theorem dX6_isCover_14 : decode cX6_isCover 14 = .ok (.goto 4, 3) := by decide +kernel
theorem dX6_isCover_17 : decode cX6_isCover 17 = .ok (.iconst 0, 1) := by decide +kernel
theorem dX6_isCover_18 : decode cX6_isCover 18 = .ok (.ireturn, 1) := by decide +kernel
theorem dX6_isCode_0 : decode cX6_isCode 0 = .ok (.iload_n 1, 1) := by decide +kernel
theorem dX6_isCode_1 : decode cX6_isCode 1 = .ok (.ifCond .lt 16, 3) := by decide +kernel
theorem dX6_isCode_4 : decode cX6_isCode 4 = .ok (.iload_n 1, 1) := by decide +kernel
theorem dX6_isCode_5 : decode cX6_isCode 5 = .ok (.aload_n 0, 1) := by decide +kernel
theorem dX6_isCode_6 : decode cX6_isCode 6 = .ok (.getfield 26, 3) := by decide +kernel
theorem dX6_isCode_9 : decode cX6_isCode 9 = .ok (.arraylength, 1) := by decide +kernel
theorem dX6_isCode_10 : decode cX6_isCode 10 = .ok (.if_icmp .ge 7, 3) := by decide +kernel
theorem dX6_isCode_13 : decode cX6_isCode 13 = .ok (.iconst 1, 1) := by decide +kernel
theorem dX6_isCode_14 : decode cX6_isCode 14 = .ok (.goto 4, 3) := by decide +kernel
theorem dX6_isCode_17 : decode cX6_isCode 17 = .ok (.iconst 0, 1) := by decide +kernel
theorem dX6_isCode_18 : decode cX6_isCode 18 = .ok (.ireturn, 1) := by decide +kernel
theorem dX6_isCopy_0 : decode cX6_isCopy 0 = .ok (.iload_n 0, 1) := by decide +kernel
theorem dX6_isCopy_1 : decode cX6_isCopy 1 = .ok (.ifCond .lt 14, 3) := by decide +kernel
theorem dX6_isCopy_4 : decode cX6_isCopy 4 = .ok (.iload_n 0, 1) := by decide +kernel
theorem dX6_isCopy_5 : decode cX6_isCopy 5 = .ok (.sipush 4095, 3) := by decide +kernel
theorem dX6_isCopy_8 : decode cX6_isCopy 8 = .ok (.if_icmp .gt 7, 3) := by decide +kernel
theorem dX6_isCopy_11 : decode cX6_isCopy 11 = .ok (.iconst 1, 1) := by decide +kernel
theorem dX6_isCopy_12 : decode cX6_isCopy 12 = .ok (.goto 4, 3) := by decide +kernel
theorem dX6_isCopy_15 : decode cX6_isCopy 15 = .ok (.iconst 0, 1) := by decide +kernel
theorem dX6_isCopy_16 : decode cX6_isCopy 16 = .ok (.ireturn, 1) := by decide +kernel
theorem dX6_found_0 : decode cX6_found 0 = .ok (.aload_n 0, 1) := by decide +kernel
theorem dX6_found_1 : decode cX6_found 1 = .ok (.iload_n 1, 1) := by decide +kernel
theorem dX6_found_2 : decode cX6_found 2 = .ok (.putfield 65, 3) := by decide +kernel
theorem dX6_found_5 : decode cX6_found 5 = .ok (.iload_n 1, 1) := by decide +kernel
theorem dX6_found_6 : decode cX6_found 6 = .ok (.iconst 1, 1) := by decide +kernel
theorem dX6_found_7 : decode cX6_found 7 = .ok (.if_icmp .lt 18, 3) := by decide +kernel
theorem dX6_found_10 : decode cX6_found 10 = .ok (.iload_n 1, 1) := by decide +kernel
theorem dX6_found_11 : decode cX6_found 11 = .ok (.iconst 5, 1) := by decide +kernel
theorem dX6_found_12 : decode cX6_found 12 = .ok (.if_icmp .gt 13, 3) := by decide +kernel
theorem dX6_found_15 : decode cX6_found 15 = .ok (.aload_n 0, 1) := by decide +kernel
theorem dX6_found_16 : decode cX6_found 16 = .ok (.getfield 68, 3) := by decide +kernel
theorem dX6_found_19 : decode cX6_found 19 = .ok (.iload_n 1, 1) := by decide +kernel
theorem dX6_found_20 : decode cX6_found 20 = .ok (.dup2, 1) := by decide +kernel
theorem dX6_found_21 : decode cX6_found 21 = .ok (.iaload, 1) := by decide +kernel
theorem dX6_found_22 : decode cX6_found 22 = .ok (.iconst 1, 1) := by decide +kernel
theorem dX6_found_23 : decode cX6_found 23 = .ok (.iadd, 1) := by decide +kernel
theorem dX6_found_24 : decode cX6_found 24 = .ok (.iastore, 1) := by decide +kernel
theorem dX6_found_25 : decode cX6_found 25 = .ok (.bipush (-3), 2) := by decide +kernel
theorem dX6_found_27 : decode cX6_found 27 = .ok (.ireturn, 1) := by decide +kernel
theorem dX6_drawn_0 : decode cX6_drawn 0 = .ok (.aload_n 2, 1) := by decide +kernel
theorem dX6_drawn_1 : decode cX6_drawn 1 = .ok (.invokevirtual 85, 3) := by decide +kernel
theorem dX6_drawn_4 : decode cX6_drawn 4 = .ok (.ifCond .eq 9, 3) := by decide +kernel
theorem dX6_drawn_7 : decode cX6_drawn 7 = .ok (.aload_n 0, 1) := by decide +kernel
theorem dX6_drawn_8 : decode cX6_drawn 8 = .ok (.iconst 1, 1) := by decide +kernel
theorem dX6_drawn_9 : decode cX6_drawn 9 = .ok (.invokevirtual 77, 3) := by decide +kernel
theorem dX6_drawn_12 : decode cX6_drawn 12 = .ok (.ireturn, 1) := by decide +kernel
theorem dX6_drawn_13 : decode cX6_drawn 13 = .ok (.aload_n 2, 1) := by decide +kernel
theorem dX6_drawn_14 : decode cX6_drawn 14 = .ok (.getfield 114, 3) := by decide +kernel
theorem dX6_drawn_17 : decode cX6_drawn 17 = .ok (.iconst 1, 1) := by decide +kernel
theorem dX6_drawn_18 : decode cX6_drawn 18 = .ok (.if_icmp .ge 9, 3) := by decide +kernel
theorem dX6_drawn_21 : decode cX6_drawn 21 = .ok (.aload_n 0, 1) := by decide +kernel
theorem dX6_drawn_22 : decode cX6_drawn 22 = .ok (.iconst 5, 1) := by decide +kernel
theorem dX6_drawn_23 : decode cX6_drawn 23 = .ok (.invokevirtual 77, 3) := by decide +kernel
theorem dX6_drawn_26 : decode cX6_drawn 26 = .ok (.ireturn, 1) := by decide +kernel
theorem dX6_drawn_27 : decode cX6_drawn 27 = .ok (.aload_n 2, 1) := by decide +kernel
theorem dX6_drawn_28 : decode cX6_drawn 28 = .ok (.iconst 0, 1) := by decide +kernel
theorem dX6_drawn_29 : decode cX6_drawn 29 = .ok (.sipush 255, 3) := by decide +kernel
theorem dX6_drawn_32 : decode cX6_drawn 32 = .ok (.invokevirtual 373, 3) := by decide +kernel
theorem dX6_drawn_35 : decode cX6_drawn 35 = .ok (.ifCond .ne 9, 3) := by decide +kernel
theorem dX6_drawn_38 : decode cX6_drawn 38 = .ok (.aload_n 0, 1) := by decide +kernel
theorem dX6_drawn_39 : decode cX6_drawn 39 = .ok (.iconst 3, 1) := by decide +kernel
theorem dX6_drawn_40 : decode cX6_drawn 40 = .ok (.invokevirtual 77, 3) := by decide +kernel
theorem dX6_drawn_43 : decode cX6_drawn 43 = .ok (.ireturn, 1) := by decide +kernel
theorem dX6_drawn_44 : decode cX6_drawn 44 = .ok (.iload_n 3, 1) := by decide +kernel
theorem dX6_drawn_45 : decode cX6_drawn 45 = .ok (.iconst 4, 1) := by decide +kernel
theorem dX6_drawn_46 : decode cX6_drawn 46 = .ok (.if_icmp .ne 16, 3) := by decide +kernel
theorem dX6_drawn_49 : decode cX6_drawn 49 = .ok (.aload_n 2, 1) := by decide +kernel
theorem dX6_drawn_50 : decode cX6_drawn 50 = .ok (.invokevirtual 376, 3) := by decide +kernel
theorem dX6_drawn_53 : decode cX6_drawn 53 = .ok (.ifCond .eq 9, 3) := by decide +kernel
theorem dX6_drawn_56 : decode cX6_drawn 56 = .ok (.aload_n 0, 1) := by decide +kernel
theorem dX6_drawn_57 : decode cX6_drawn 57 = .ok (.iconst 3, 1) := by decide +kernel
theorem dX6_drawn_58 : decode cX6_drawn 58 = .ok (.invokevirtual 77, 3) := by decide +kernel
theorem dX6_drawn_61 : decode cX6_drawn 61 = .ok (.ireturn, 1) := by decide +kernel
theorem dX6_drawn_62 : decode cX6_drawn 62 = .ok (.aload_n 1, 1) := by decide +kernel
theorem dX6_drawn_63 : decode cX6_drawn 63 = .ok (.aload_n 2, 1) := by decide +kernel
theorem dX6_drawn_64 : decode cX6_drawn 64 = .ok (.iload_n 3, 1) := by decide +kernel
theorem dX6_drawn_65 : decode cX6_drawn 65 = .ok (.iload 4, 2) := by decide +kernel
theorem dX6_drawn_67 : decode cX6_drawn 67 = .ok (.invokevirtual 135, 3) := by decide +kernel
theorem dX6_drawn_70 : decode cX6_drawn 70 = .ok (.aload_n 2, 1) := by decide +kernel
theorem dX6_drawn_71 : decode cX6_drawn 71 = .ok (.getfield 114, 3) := by decide +kernel
theorem dX6_drawn_74 : decode cX6_drawn 74 = .ok (.ireturn, 1) := by decide +kernel
theorem dX6_areChoices_0 : decode cX6_areChoices 0 = .ok (.aload_n 1, 1) := by decide +kernel
theorem dX6_areChoices_1 : decode cX6_areChoices 1 = .ok (.iconst 1, 1) := by decide +kernel
theorem dX6_areChoices_2 : decode cX6_areChoices 2 = .ok (.bipush 9, 2) := by decide +kernel
theorem dX6_areChoices_4 : decode cX6_areChoices 4 = .ok (.invokevirtual 373, 3) := by decide +kernel
theorem dX6_areChoices_7 : decode cX6_areChoices 7 = .ok (.ifCond .ne 5, 3) := by decide +kernel
theorem dX6_areChoices_10 : decode cX6_areChoices 10 = .ok (.iconst 0, 1) := by decide +kernel
theorem dX6_areChoices_11 : decode cX6_areChoices 11 = .ok (.ireturn, 1) := by decide +kernel
theorem dX6_areChoices_12 : decode cX6_areChoices 12 = .ok (.iconst 0, 1) := by decide +kernel
theorem dX6_areChoices_13 : decode cX6_areChoices 13 = .ok (.istore_n 2, 1) := by decide +kernel
theorem dX6_areChoices_14 : decode cX6_areChoices 14 = .ok (.iload_n 2, 1) := by decide +kernel
theorem dX6_areChoices_15 : decode cX6_areChoices 15 = .ok (.aload_n 0, 1) := by decide +kernel
theorem dX6_areChoices_16 : decode cX6_areChoices 16 = .ok (.getfield 114, 3) := by decide +kernel
theorem dX6_areChoices_19 : decode cX6_areChoices 19 = .ok (.if_icmp .ge 32, 3) := by decide +kernel
theorem dX6_areChoices_22 : decode cX6_areChoices 22 = .ok (.aload_n 0, 1) := by decide +kernel
theorem dX6_areChoices_23 : decode cX6_areChoices 23 = .ok (.iload_n 2, 1) := by decide +kernel
theorem dX6_areChoices_24 : decode cX6_areChoices 24 = .ok (.invokevirtual 92, 3) := by decide +kernel
theorem dX6_areChoices_27 : decode cX6_areChoices 27 = .ok (.ifCond .lt 16, 3) := by decide +kernel
theorem dX6_areChoices_30 : decode cX6_areChoices 30 = .ok (.aload_n 0, 1) := by decide +kernel
theorem dX6_areChoices_31 : decode cX6_areChoices 31 = .ok (.iload_n 2, 1) := by decide +kernel
theorem dX6_areChoices_32 : decode cX6_areChoices 32 = .ok (.invokevirtual 92, 3) := by decide +kernel
theorem dX6_areChoices_35 : decode cX6_areChoices 35 = .ok (.aload_n 1, 1) := by decide +kernel
theorem dX6_areChoices_36 : decode cX6_areChoices 36 = .ok (.iload_n 2, 1) := by decide +kernel
theorem dX6_areChoices_37 : decode cX6_areChoices 37 = .ok (.invokevirtual 92, 3) := by decide +kernel
theorem dX6_areChoices_40 : decode cX6_areChoices 40 = .ok (.if_icmp .lt 5, 3) := by decide +kernel
theorem dX6_areChoices_43 : decode cX6_areChoices 43 = .ok (.iconst 0, 1) := by decide +kernel
theorem dX6_areChoices_44 : decode cX6_areChoices 44 = .ok (.ireturn, 1) := by decide +kernel
theorem dX6_areChoices_45 : decode cX6_areChoices 45 = .ok (.iinc 2 1, 3) := by decide +kernel
theorem dX6_areChoices_48 : decode cX6_areChoices 48 = .ok (.goto (-34), 3) := by decide +kernel
theorem dX6_areChoices_51 : decode cX6_areChoices 51 = .ok (.iconst 1, 1) := by decide +kernel
theorem dX6_areChoices_52 : decode cX6_areChoices 52 = .ok (.ireturn, 1) := by decide +kernel
theorem dX6_countThere_0 : decode cX6_countThere 0 = .ok (.iconst 0, 1) := by decide +kernel
theorem dX6_countThere_1 : decode cX6_countThere 1 = .ok (.istore_n 1, 1) := by decide +kernel
theorem dX6_countThere_2 : decode cX6_countThere 2 = .ok (.aload_n 0, 1) := by decide +kernel
theorem dX6_countThere_3 : decode cX6_countThere 3 = .ok (.astore_n 2, 1) := by decide +kernel
theorem dX6_countThere_4 : decode cX6_countThere 4 = .ok (.aload_n 2, 1) := by decide +kernel
theorem dX6_countThere_5 : decode cX6_countThere 5 = .ok (.arraylength, 1) := by decide +kernel
theorem dX6_countThere_6 : decode cX6_countThere 6 = .ok (.istore_n 3, 1) := by decide +kernel
theorem dX6_countThere_7 : decode cX6_countThere 7 = .ok (.iconst 0, 1) := by decide +kernel
theorem dX6_countThere_8 : decode cX6_countThere 8 = .ok (.istore 4, 2) := by decide +kernel
theorem dX6_countThere_10 : decode cX6_countThere 10 = .ok (.iload 4, 2) := by decide +kernel
theorem dX6_countThere_12 : decode cX6_countThere 12 = .ok (.iload_n 3, 1) := by decide +kernel
theorem dX6_countThere_13 : decode cX6_countThere 13 = .ok (.if_icmp .ge 26, 3) := by decide +kernel
theorem dX6_countThere_16 : decode cX6_countThere 16 = .ok (.aload_n 2, 1) := by decide +kernel
theorem dX6_countThere_17 : decode cX6_countThere 17 = .ok (.iload 4, 2) := by decide +kernel
theorem dX6_countThere_19 : decode cX6_countThere 19 = .ok (.aaload, 1) := by decide +kernel
theorem dX6_countThere_20 : decode cX6_countThere 20 = .ok (.astore 5, 2) := by decide +kernel
theorem dX6_countThere_22 : decode cX6_countThere 22 = .ok (.aload 5, 2) := by decide +kernel
theorem dX6_countThere_24 : decode cX6_countThere 24 = .ok (.invokevirtual 85, 3) := by decide +kernel
theorem dX6_countThere_27 : decode cX6_countThere 27 = .ok (.ifCond .ne 6, 3) := by decide +kernel
theorem dX6_countThere_30 : decode cX6_countThere 30 = .ok (.iinc 1 1, 3) := by decide +kernel
theorem dX6_countThere_33 : decode cX6_countThere 33 = .ok (.iinc 4 1, 3) := by decide +kernel
theorem dX6_countThere_36 : decode cX6_countThere 36 = .ok (.goto (-26), 3) := by decide +kernel
theorem dX6_countThere_39 : decode cX6_countThere 39 = .ok (.iload_n 1, 1) := by decide +kernel
theorem dX6_countThere_40 : decode cX6_countThere 40 = .ok (.ireturn, 1) := by decide +kernel
theorem dX6_countCovers_0 : decode cX6_countCovers 0 = .ok (.iconst 0, 1) := by decide +kernel
theorem dX6_countCovers_1 : decode cX6_countCovers 1 = .ok (.istore_n 2, 1) := by decide +kernel
theorem dX6_countCovers_2 : decode cX6_countCovers 2 = .ok (.aload_n 0, 1) := by decide +kernel
theorem dX6_countCovers_3 : decode cX6_countCovers 3 = .ok (.getfield 20, 3) := by decide +kernel
theorem dX6_countCovers_6 : decode cX6_countCovers 6 = .ok (.astore_n 3, 1) := by decide +kernel
theorem dX6_countCovers_7 : decode cX6_countCovers 7 = .ok (.aload_n 3, 1) := by decide +kernel
theorem dX6_countCovers_8 : decode cX6_countCovers 8 = .ok (.arraylength, 1) := by decide +kernel
theorem dX6_countCovers_9 : decode cX6_countCovers 9 = .ok (.istore 4, 2) := by decide +kernel
theorem dX6_countCovers_11 : decode cX6_countCovers 11 = .ok (.iconst 0, 1) := by decide +kernel
theorem dX6_countCovers_12 : decode cX6_countCovers 12 = .ok (.istore 5, 2) := by decide +kernel
theorem dX6_countCovers_14 : decode cX6_countCovers 14 = .ok (.iload 5, 2) := by decide +kernel
theorem dX6_countCovers_16 : decode cX6_countCovers 16 = .ok (.iload 4, 2) := by decide +kernel
theorem dX6_countCovers_18 : decode cX6_countCovers 18 = .ok (.if_icmp .ge 39, 3) := by decide +kernel
theorem dX6_countCovers_21 : decode cX6_countCovers 21 = .ok (.aload_n 3, 1) := by decide +kernel
theorem dX6_countCovers_22 : decode cX6_countCovers 22 = .ok (.iload 5, 2) := by decide +kernel
theorem dX6_countCovers_24 : decode cX6_countCovers 24 = .ok (.aaload, 1) := by decide +kernel
theorem dX6_countCovers_25 : decode cX6_countCovers 25 = .ok (.astore 6, 2) := by decide +kernel
theorem dX6_countCovers_27 : decode cX6_countCovers 27 = .ok (.aload 6, 2) := by decide +kernel
theorem dX6_countCovers_29 : decode cX6_countCovers 29 = .ok (.invokevirtual 142, 3) := by decide +kernel
theorem dX6_countCovers_32 : decode cX6_countCovers 32 = .ok (.ifCond .ne 19, 3) := by decide +kernel
theorem dX6_countCovers_35 : decode cX6_countCovers 35 = .ok (.iload_n 1, 1) := by decide +kernel
theorem dX6_countCovers_36 : decode cX6_countCovers 36 = .ok (.ifCond .eq 12, 3) := by decide +kernel
theorem dX6_countCovers_39 : decode cX6_countCovers 39 = .ok (.aload 6, 2) := by decide +kernel
theorem dX6_countCovers_41 : decode cX6_countCovers 41 = .ok (.iconst 1, 1) := by decide +kernel
theorem dX6_countCovers_42 : decode cX6_countCovers 42 = .ok (.invokevirtual 163, 3) := by decide +kernel
theorem dX6_countCovers_45 : decode cX6_countCovers 45 = .ok (.ifCond .eq 6, 3) := by decide +kernel
theorem dX6_countCovers_48 : decode cX6_countCovers 48 = .ok (.iinc 2 1, 3) := by decide +kernel
theorem dX6_countCovers_51 : decode cX6_countCovers 51 = .ok (.iinc 5 1, 3) := by decide +kernel
theorem dX6_countCovers_54 : decode cX6_countCovers 54 = .ok (.goto (-40), 3) := by decide +kernel
theorem dX6_countCovers_57 : decode cX6_countCovers 57 = .ok (.iload_n 2, 1) := by decide +kernel
theorem dX6_countCovers_58 : decode cX6_countCovers 58 = .ok (.ireturn, 1) := by decide +kernel
theorem dX6_countCodes_0 : decode cX6_countCodes 0 = .ok (.iconst 0, 1) := by decide +kernel
theorem dX6_countCodes_1 : decode cX6_countCodes 1 = .ok (.istore_n 1, 1) := by decide +kernel
theorem dX6_countCodes_2 : decode cX6_countCodes 2 = .ok (.aload_n 0, 1) := by decide +kernel
theorem dX6_countCodes_3 : decode cX6_countCodes 3 = .ok (.getfield 26, 3) := by decide +kernel
theorem dX6_countCodes_6 : decode cX6_countCodes 6 = .ok (.astore_n 2, 1) := by decide +kernel
theorem dX6_countCodes_7 : decode cX6_countCodes 7 = .ok (.aload_n 2, 1) := by decide +kernel
theorem dX6_countCodes_8 : decode cX6_countCodes 8 = .ok (.arraylength, 1) := by decide +kernel
theorem dX6_countCodes_9 : decode cX6_countCodes 9 = .ok (.istore_n 3, 1) := by decide +kernel
theorem dX6_countCodes_10 : decode cX6_countCodes 10 = .ok (.iconst 0, 1) := by decide +kernel
theorem dX6_countCodes_11 : decode cX6_countCodes 11 = .ok (.istore 4, 2) := by decide +kernel
theorem dX6_countCodes_13 : decode cX6_countCodes 13 = .ok (.iload 4, 2) := by decide +kernel
theorem dX6_countCodes_15 : decode cX6_countCodes 15 = .ok (.iload_n 3, 1) := by decide +kernel
theorem dX6_countCodes_16 : decode cX6_countCodes 16 = .ok (.if_icmp .ge 26, 3) := by decide +kernel
theorem dX6_countCodes_19 : decode cX6_countCodes 19 = .ok (.aload_n 2, 1) := by decide +kernel
theorem dX6_countCodes_20 : decode cX6_countCodes 20 = .ok (.iload 4, 2) := by decide +kernel
theorem dX6_countCodes_22 : decode cX6_countCodes 22 = .ok (.aaload, 1) := by decide +kernel
theorem dX6_countCodes_23 : decode cX6_countCodes 23 = .ok (.astore 5, 2) := by decide +kernel
theorem dX6_countCodes_25 : decode cX6_countCodes 25 = .ok (.aload 5, 2) := by decide +kernel
theorem dX6_countCodes_27 : decode cX6_countCodes 27 = .ok (.invokevirtual 198, 3) := by decide +kernel
theorem dX6_countCodes_30 : decode cX6_countCodes 30 = .ok (.ifCond .ne 6, 3) := by decide +kernel
theorem dX6_countCodes_33 : decode cX6_countCodes 33 = .ok (.iinc 1 1, 3) := by decide +kernel
theorem dX6_countCodes_36 : decode cX6_countCodes 36 = .ok (.iinc 4 1, 3) := by decide +kernel
theorem dX6_countCodes_39 : decode cX6_countCodes 39 = .ok (.goto (-26), 3) := by decide +kernel
theorem dX6_countCodes_42 : decode cX6_countCodes 42 = .ok (.iload_n 1, 1) := by decide +kernel
theorem dX6_countCodes_43 : decode cX6_countCodes 43 = .ok (.ireturn, 1) := by decide +kernel
theorem dX6_countDots_0 : decode cX6_countDots 0 = .ok (.iconst 0, 1) := by decide +kernel
theorem dX6_countDots_1 : decode cX6_countDots 1 = .ok (.istore_n 1, 1) := by decide +kernel
theorem dX6_countDots_2 : decode cX6_countDots 2 = .ok (.aload_n 0, 1) := by decide +kernel
theorem dX6_countDots_3 : decode cX6_countDots 3 = .ok (.getfield 20, 3) := by decide +kernel
theorem dX6_countDots_6 : decode cX6_countDots 6 = .ok (.astore_n 2, 1) := by decide +kernel
theorem dX6_countDots_7 : decode cX6_countDots 7 = .ok (.aload_n 2, 1) := by decide +kernel
theorem dX6_countDots_8 : decode cX6_countDots 8 = .ok (.arraylength, 1) := by decide +kernel
theorem dX6_countDots_9 : decode cX6_countDots 9 = .ok (.istore_n 3, 1) := by decide +kernel
theorem dX6_countDots_10 : decode cX6_countDots 10 = .ok (.iconst 0, 1) := by decide +kernel
theorem dX6_countDots_11 : decode cX6_countDots 11 = .ok (.istore 4, 2) := by decide +kernel
theorem dX6_countDots_13 : decode cX6_countDots 13 = .ok (.iload 4, 2) := by decide +kernel
theorem dX6_countDots_15 : decode cX6_countDots 15 = .ok (.iload_n 3, 1) := by decide +kernel
theorem dX6_countDots_16 : decode cX6_countDots 16 = .ok (.if_icmp .ge 23, 3) := by decide +kernel
theorem dX6_countDots_19 : decode cX6_countDots 19 = .ok (.aload_n 2, 1) := by decide +kernel
theorem dX6_countDots_20 : decode cX6_countDots 20 = .ok (.iload 4, 2) := by decide +kernel
theorem dX6_countDots_22 : decode cX6_countDots 22 = .ok (.aaload, 1) := by decide +kernel
theorem dX6_countDots_23 : decode cX6_countDots 23 = .ok (.astore 5, 2) := by decide +kernel
theorem dX6_countDots_25 : decode cX6_countDots 25 = .ok (.iload_n 1, 1) := by decide +kernel
theorem dX6_countDots_26 : decode cX6_countDots 26 = .ok (.aload 5, 2) := by decide +kernel
theorem dX6_countDots_28 : decode cX6_countDots 28 = .ok (.getfield 151, 3) := by decide +kernel
theorem dX6_countDots_31 : decode cX6_countDots 31 = .ok (.iadd, 1) := by decide +kernel
theorem dX6_countDots_32 : decode cX6_countDots 32 = .ok (.istore_n 1, 1) := by decide +kernel
theorem dX6_countDots_33 : decode cX6_countDots 33 = .ok (.iinc 4 1, 3) := by decide +kernel
theorem dX6_countDots_36 : decode cX6_countDots 36 = .ok (.goto (-23), 3) := by decide +kernel
theorem dX6_countDots_39 : decode cX6_countDots 39 = .ok (.iload_n 1, 1) := by decide +kernel
theorem dX6_countDots_40 : decode cX6_countDots 40 = .ok (.ireturn, 1) := by decide +kernel
theorem dX6_nextOfKey_0 : decode cX6_nextOfKey 0 = .ok (.iload_n 0, 1) := by decide +kernel
theorem dX6_nextOfKey_1 : decode cX6_nextOfKey 1 = .ok (.ldc_w 379, 3) := by decide +kernel
theorem dX6_nextOfKey_4 : decode cX6_nextOfKey 4 = .ok (.imul, 1) := by decide +kernel
theorem dX6_nextOfKey_5 : decode cX6_nextOfKey 5 = .ok (.sipush 12345, 3) := by decide +kernel
theorem dX6_nextOfKey_8 : decode cX6_nextOfKey 8 = .ok (.iadd, 1) := by decide +kernel
theorem dX6_nextOfKey_9 : decode cX6_nextOfKey 9 = .ok (.ireturn, 1) := by decide +kernel
theorem dX6_bitsOfKey_0 : decode cX6_bitsOfKey 0 = .ok (.iload_n 0, 1) := by decide +kernel
theorem dX6_bitsOfKey_1 : decode cX6_bitsOfKey 1 = .ok (.bipush 16, 2) := by decide +kernel
theorem dX6_bitsOfKey_3 : decode cX6_bitsOfKey 3 = .ok (.iushr, 1) := by decide +kernel
theorem dX6_bitsOfKey_4 : decode cX6_bitsOfKey 4 = .ok (.sipush 32767, 3) := by decide +kernel
theorem dX6_bitsOfKey_7 : decode cX6_bitsOfKey 7 = .ok (.iand, 1) := by decide +kernel
theorem dX6_bitsOfKey_8 : decode cX6_bitsOfKey 8 = .ok (.ireturn, 1) := by decide +kernel
theorem dX6_plan_0 : decode cX6_plan 0 = .ok (.aload_n 0, 1) := by decide +kernel
theorem dX6_plan_1 : decode cX6_plan 1 = .ok (.iload_n 1, 1) := by decide +kernel
theorem dX6_plan_2 : decode cX6_plan 2 = .ok (.invokevirtual 124, 3) := by decide +kernel
theorem dX6_plan_5 : decode cX6_plan 5 = .ok (.ifCond .eq 20, 3) := by decide +kernel
theorem dX6_plan_8 : decode cX6_plan 8 = .ok (.aload_n 0, 1) := by decide +kernel
theorem dX6_plan_9 : decode cX6_plan 9 = .ok (.iload_n 3, 1) := by decide +kernel
theorem dX6_plan_10 : decode cX6_plan 10 = .ok (.invokevirtual 188, 3) := by decide +kernel
theorem dX6_plan_13 : decode cX6_plan 13 = .ok (.ifCond .eq 12, 3) := by decide +kernel
theorem dX6_plan_16 : decode cX6_plan 16 = .ok (.aload_n 0, 1) := by decide +kernel
theorem dX6_plan_17 : decode cX6_plan 17 = .ok (.iload 4, 2) := by decide +kernel
theorem dX6_plan_19 : decode cX6_plan 19 = .ok (.invokevirtual 73, 3) := by decide +kernel
theorem dX6_plan_22 : decode cX6_plan 22 = .ok (.ifCond .ne 5, 3) := by decide +kernel
theorem dX6_plan_25 : decode cX6_plan 25 = .ok (.iconst (-1), 1) := by decide +kernel
theorem dX6_plan_26 : decode cX6_plan 26 = .ok (.ireturn, 1) := by decide +kernel
theorem dX6_plan_27 : decode cX6_plan 27 = .ok (.aload_n 0, 1) := by decide +kernel
theorem dX6_plan_28 : decode cX6_plan 28 = .ok (.getfield 20, 3) := by decide +kernel
theorem dX6_plan_31 : decode cX6_plan 31 = .ok (.iload_n 1, 1) := by decide +kernel
theorem dX6_plan_32 : decode cX6_plan 32 = .ok (.aaload, 1) := by decide +kernel
theorem dX6_plan_33 : decode cX6_plan 33 = .ok (.astore 5, 2) := by decide +kernel
theorem dX6_plan_35 : decode cX6_plan 35 = .ok (.aload_n 0, 1) := by decide +kernel
theorem dX6_plan_36 : decode cX6_plan 36 = .ok (.getfield 26, 3) := by decide +kernel
theorem dX6_plan_39 : decode cX6_plan 39 = .ok (.iload_n 3, 1) := by decide +kernel
theorem dX6_plan_40 : decode cX6_plan 40 = .ok (.aaload, 1) := by decide +kernel
theorem dX6_plan_41 : decode cX6_plan 41 = .ok (.astore 6, 2) := by decide +kernel
theorem dX6_plan_43 : decode cX6_plan 43 = .ok (.aload_n 0, 1) := by decide +kernel
theorem dX6_plan_44 : decode cX6_plan 44 = .ok (.getfield 11, 3) := by decide +kernel
theorem dX6_plan_47 : decode cX6_plan 47 = .ok (.iload 4, 2) := by decide +kernel
theorem dX6_plan_49 : decode cX6_plan 49 = .ok (.aaload, 1) := by decide +kernel
theorem dX6_plan_50 : decode cX6_plan 50 = .ok (.astore 7, 2) := by decide +kernel
theorem dX6_plan_52 : decode cX6_plan 52 = .ok (.aload 5, 2) := by decide +kernel
theorem dX6_plan_54 : decode cX6_plan 54 = .ok (.invokevirtual 142, 3) := by decide +kernel
theorem dX6_plan_57 : decode cX6_plan 57 = .ok (.ifCond .ne 19, 3) := by decide +kernel
theorem dX6_plan_60 : decode cX6_plan 60 = .ok (.aload 6, 2) := by decide +kernel
theorem dX6_plan_62 : decode cX6_plan 62 = .ok (.invokevirtual 198, 3) := by decide +kernel
theorem dX6_plan_65 : decode cX6_plan 65 = .ok (.ifCond .ne 11, 3) := by decide +kernel
theorem dX6_plan_68 : decode cX6_plan 68 = .ok (.aload 7, 2) := by decide +kernel
theorem dX6_plan_70 : decode cX6_plan 70 = .ok (.invokevirtual 85, 3) := by decide +kernel
theorem dX6_plan_73 : decode cX6_plan 73 = .ok (.ifCond .eq 9, 3) := by decide +kernel
theorem dX6_plan_76 : decode cX6_plan 76 = .ok (.aload_n 0, 1) := by decide +kernel
theorem dX6_plan_77 : decode cX6_plan 77 = .ok (.iconst 1, 1) := by decide +kernel
theorem dX6_plan_78 : decode cX6_plan 78 = .ok (.invokevirtual 77, 3) := by decide +kernel
theorem dX6_plan_81 : decode cX6_plan 81 = .ok (.ireturn, 1) := by decide +kernel
theorem dX6_plan_82 : decode cX6_plan 82 = .ok (.aload 7, 2) := by decide +kernel
theorem dX6_plan_84 : decode cX6_plan 84 = .ok (.getfield 114, 3) := by decide +kernel
theorem dX6_plan_87 : decode cX6_plan 87 = .ok (.aload 6, 2) := by decide +kernel
theorem dX6_plan_89 : decode cX6_plan 89 = .ok (.getfield 195, 3) := by decide +kernel
theorem dX6_plan_92 : decode cX6_plan 92 = .ok (.irem, 1) := by decide +kernel
theorem dX6_plan_93 : decode cX6_plan 93 = .ok (.ifCond .eq 9, 3) := by decide +kernel
theorem dX6_plan_96 : decode cX6_plan 96 = .ok (.aload_n 0, 1) := by decide +kernel
theorem dX6_plan_97 : decode cX6_plan 97 = .ok (.iconst 5, 1) := by decide +kernel
theorem dX6_plan_98 : decode cX6_plan 98 = .ok (.invokevirtual 77, 3) := by decide +kernel
theorem dX6_plan_101 : decode cX6_plan 101 = .ok (.ireturn, 1) := by decide +kernel
theorem dX6_plan_102 : decode cX6_plan 102 = .ok (.aload 7, 2) := by decide +kernel
theorem dX6_plan_104 : decode cX6_plan 104 = .ok (.iconst 0, 1) := by decide +kernel
theorem dX6_plan_105 : decode cX6_plan 105 = .ok (.iconst 1, 1) := by decide +kernel
theorem dX6_plan_106 : decode cX6_plan 106 = .ok (.invokevirtual 373, 3) := by decide +kernel
theorem dX6_plan_109 : decode cX6_plan 109 = .ok (.ifCond .ne 9, 3) := by decide +kernel
theorem dX6_plan_112 : decode cX6_plan 112 = .ok (.aload_n 0, 1) := by decide +kernel
theorem dX6_plan_113 : decode cX6_plan 113 = .ok (.iconst 3, 1) := by decide +kernel
theorem dX6_plan_114 : decode cX6_plan 114 = .ok (.invokevirtual 77, 3) := by decide +kernel
theorem dX6_plan_117 : decode cX6_plan 117 = .ok (.ireturn, 1) := by decide +kernel
theorem dX6_plan_118 : decode cX6_plan 118 = .ok (.aload 7, 2) := by decide +kernel
theorem dX6_plan_120 : decode cX6_plan 120 = .ok (.getfield 114, 3) := by decide +kernel
theorem dX6_plan_123 : decode cX6_plan 123 = .ok (.aload 6, 2) := by decide +kernel
theorem dX6_plan_125 : decode cX6_plan 125 = .ok (.getfield 195, 3) := by decide +kernel
theorem dX6_plan_128 : decode cX6_plan 128 = .ok (.aload 6, 2) := by decide +kernel
theorem dX6_plan_130 : decode cX6_plan 130 = .ok (.aload 5, 2) := by decide +kernel
theorem dX6_plan_132 : decode cX6_plan 132 = .ok (.invokevirtual 203, 3) := by decide +kernel
theorem dX6_plan_135 : decode cX6_plan 135 = .ok (.imul, 1) := by decide +kernel
theorem dX6_plan_136 : decode cX6_plan 136 = .ok (.if_icmp .le 9, 3) := by decide +kernel
theorem dX6_plan_139 : decode cX6_plan 139 = .ok (.aload_n 0, 1) := by decide +kernel
theorem dX6_plan_140 : decode cX6_plan 140 = .ok (.iconst 2, 1) := by decide +kernel
theorem dX6_plan_141 : decode cX6_plan 141 = .ok (.invokevirtual 77, 3) := by decide +kernel
theorem dX6_plan_144 : decode cX6_plan 144 = .ok (.ireturn, 1) := by decide +kernel
theorem dX6_plan_145 : decode cX6_plan 145 = .ok (.aload_n 0, 1) := by decide +kernel
theorem dX6_plan_146 : decode cX6_plan 146 = .ok (.getfield 43, 3) := by decide +kernel
theorem dX6_plan_149 : decode cX6_plan 149 = .ok (.iload_n 2, 1) := by decide +kernel
theorem dX6_plan_150 : decode cX6_plan 150 = .ok (.aload 5, 2) := by decide +kernel
theorem dX6_plan_152 : decode cX6_plan 152 = .ok (.getfield 151, 3) := by decide +kernel
theorem dX6_plan_155 : decode cX6_plan 155 = .ok (.invokevirtual 178, 3) := by decide +kernel
theorem dX6_plan_158 : decode cX6_plan 158 = .ok (.aload_n 0, 1) := by decide +kernel
theorem dX6_plan_159 : decode cX6_plan 159 = .ok (.getfield 43, 3) := by decide +kernel
theorem dX6_plan_162 : decode cX6_plan 162 = .ok (.aload 5, 2) := by decide +kernel
theorem dX6_plan_164 : decode cX6_plan 164 = .ok (.aload 6, 2) := by decide +kernel
theorem dX6_plan_166 : decode cX6_plan 166 = .ok (.aload 7, 2) := by decide +kernel
theorem dX6_plan_168 : decode cX6_plan 168 = .ok (.invokevirtual 380, 3) := by decide +kernel
theorem dX6_plan_171 : decode cX6_plan 171 = .ok (.ireturn, 1) := by decide +kernel
theorem dX6_powerOf_0 : decode cX6_powerOf 0 = .ok (.iconst 1, 1) := by decide +kernel
theorem dX6_powerOf_1 : decode cX6_powerOf 1 = .ok (.istore_n 2, 1) := by decide +kernel
theorem dX6_powerOf_2 : decode cX6_powerOf 2 = .ok (.iconst 0, 1) := by decide +kernel
theorem dX6_powerOf_3 : decode cX6_powerOf 3 = .ok (.istore_n 3, 1) := by decide +kernel
theorem dX6_powerOf_4 : decode cX6_powerOf 4 = .ok (.iload_n 3, 1) := by decide +kernel
theorem dX6_powerOf_5 : decode cX6_powerOf 5 = .ok (.iload_n 1, 1) := by decide +kernel
theorem dX6_powerOf_6 : decode cX6_powerOf 6 = .ok (.if_icmp .ge 17, 3) := by decide +kernel
theorem dX6_powerOf_9 : decode cX6_powerOf 9 = .ok (.iload_n 2, 1) := by decide +kernel
theorem dX6_powerOf_10 : decode cX6_powerOf 10 = .ok (.iload_n 0, 1) := by decide +kernel
theorem dX6_powerOf_11 : decode cX6_powerOf 11 = .ok (.imul, 1) := by decide +kernel
theorem dX6_powerOf_12 : decode cX6_powerOf 12 = .ok (.sipush 251, 3) := by decide +kernel
theorem dX6_powerOf_15 : decode cX6_powerOf 15 = .ok (.irem, 1) := by decide +kernel
theorem dX6_powerOf_16 : decode cX6_powerOf 16 = .ok (.istore_n 2, 1) := by decide +kernel
theorem dX6_powerOf_17 : decode cX6_powerOf 17 = .ok (.iinc 3 1, 3) := by decide +kernel
theorem dX6_powerOf_20 : decode cX6_powerOf 20 = .ok (.goto (-16), 3) := by decide +kernel
theorem dX6_powerOf_23 : decode cX6_powerOf 23 = .ok (.iload_n 2, 1) := by decide +kernel
theorem dX6_powerOf_24 : decode cX6_powerOf 24 = .ok (.ireturn, 1) := by decide +kernel
theorem dX6_areParts_0 : decode cX6_areParts 0 = .ok (.iconst 0, 1) := by decide +kernel
theorem dX6_areParts_1 : decode cX6_areParts 1 = .ok (.istore_n 1, 1) := by decide +kernel
theorem dX6_areParts_2 : decode cX6_areParts 2 = .ok (.iload_n 1, 1) := by decide +kernel
theorem dX6_areParts_3 : decode cX6_areParts 3 = .ok (.aload_n 0, 1) := by decide +kernel
theorem dX6_areParts_4 : decode cX6_areParts 4 = .ok (.getfield 114, 3) := by decide +kernel
theorem dX6_areParts_7 : decode cX6_areParts 7 = .ok (.if_icmp .ge 74, 3) := by decide +kernel
theorem dX6_areParts_10 : decode cX6_areParts 10 = .ok (.aload_n 0, 1) := by decide +kernel
theorem dX6_areParts_11 : decode cX6_areParts 11 = .ok (.iload_n 1, 1) := by decide +kernel
theorem dX6_areParts_12 : decode cX6_areParts 12 = .ok (.invokevirtual 92, 3) := by decide +kernel
theorem dX6_areParts_15 : decode cX6_areParts 15 = .ok (.istore_n 2, 1) := by decide +kernel
theorem dX6_areParts_16 : decode cX6_areParts 16 = .ok (.aload_n 0, 1) := by decide +kernel
theorem dX6_areParts_17 : decode cX6_areParts 17 = .ok (.iload_n 1, 1) := by decide +kernel
theorem dX6_areParts_18 : decode cX6_areParts 18 = .ok (.iconst 1, 1) := by decide +kernel
theorem dX6_areParts_19 : decode cX6_areParts 19 = .ok (.iadd, 1) := by decide +kernel
theorem dX6_areParts_20 : decode cX6_areParts 20 = .ok (.invokevirtual 92, 3) := by decide +kernel
theorem dX6_areParts_23 : decode cX6_areParts 23 = .ok (.istore_n 3, 1) := by decide +kernel
theorem dX6_areParts_24 : decode cX6_areParts 24 = .ok (.iload_n 2, 1) := by decide +kernel
theorem dX6_areParts_25 : decode cX6_areParts 25 = .ok (.iconst 1, 1) := by decide +kernel
theorem dX6_areParts_26 : decode cX6_areParts 26 = .ok (.if_icmp .lt 20, 3) := by decide +kernel
theorem dX6_areParts_29 : decode cX6_areParts 29 = .ok (.iload_n 2, 1) := by decide +kernel
theorem dX6_areParts_30 : decode cX6_areParts 30 = .ok (.bipush 10, 2) := by decide +kernel
theorem dX6_areParts_32 : decode cX6_areParts 32 = .ok (.if_icmp .gt 14, 3) := by decide +kernel
theorem dX6_areParts_35 : decode cX6_areParts 35 = .ok (.iload_n 3, 1) := by decide +kernel
theorem dX6_areParts_36 : decode cX6_areParts 36 = .ok (.ifCond .lt 10, 3) := by decide +kernel
theorem dX6_areParts_39 : decode cX6_areParts 39 = .ok (.iload_n 3, 1) := by decide +kernel
theorem dX6_areParts_40 : decode cX6_areParts 40 = .ok (.sipush 251, 3) := by decide +kernel
theorem dX6_areParts_43 : decode cX6_areParts 43 = .ok (.if_icmp .lt 5, 3) := by decide +kernel
theorem dX6_areParts_46 : decode cX6_areParts 46 = .ok (.iconst 0, 1) := by decide +kernel
theorem dX6_areParts_47 : decode cX6_areParts 47 = .ok (.ireturn, 1) := by decide +kernel
theorem dX6_areParts_48 : decode cX6_areParts 48 = .ok (.iconst 0, 1) := by decide +kernel
theorem dX6_areParts_49 : decode cX6_areParts 49 = .ok (.istore 4, 2) := by decide +kernel
theorem dX6_areParts_51 : decode cX6_areParts 51 = .ok (.iload 4, 2) := by decide +kernel
theorem dX6_areParts_53 : decode cX6_areParts 53 = .ok (.iload_n 1, 1) := by decide +kernel
theorem dX6_areParts_54 : decode cX6_areParts 54 = .ok (.if_icmp .ge 21, 3) := by decide +kernel
theorem dX6_areParts_57 : decode cX6_areParts 57 = .ok (.aload_n 0, 1) := by decide +kernel
theorem dX6_areParts_58 : decode cX6_areParts 58 = .ok (.iload 4, 2) := by decide +kernel
theorem dX6_areParts_60 : decode cX6_areParts 60 = .ok (.invokevirtual 92, 3) := by decide +kernel
theorem dX6_areParts_63 : decode cX6_areParts 63 = .ok (.iload_n 2, 1) := by decide +kernel
theorem dX6_areParts_64 : decode cX6_areParts 64 = .ok (.if_icmp .ne 5, 3) := by decide +kernel
theorem dX6_areParts_67 : decode cX6_areParts 67 = .ok (.iconst 0, 1) := by decide +kernel
theorem dX6_areParts_68 : decode cX6_areParts 68 = .ok (.ireturn, 1) := by decide +kernel
theorem dX6_areParts_69 : decode cX6_areParts 69 = .ok (.iinc 4 2, 3) := by decide +kernel
theorem dX6_areParts_72 : decode cX6_areParts 72 = .ok (.goto (-21), 3) := by decide +kernel
theorem dX6_areParts_75 : decode cX6_areParts 75 = .ok (.iinc 1 2, 3) := by decide +kernel
theorem dX6_areParts_78 : decode cX6_areParts 78 = .ok (.goto (-76), 3) := by decide +kernel
theorem dX6_areParts_81 : decode cX6_areParts 81 = .ok (.iconst 1, 1) := by decide +kernel
theorem dX6_areParts_82 : decode cX6_areParts 82 = .ok (.ireturn, 1) := by decide +kernel
theorem dX6_weightOfPart_0 : decode cX6_weightOfPart 0 = .ok (.iconst 1, 1) := by decide +kernel
theorem dX6_weightOfPart_1 : decode cX6_weightOfPart 1 = .ok (.istore_n 2, 1) := by decide +kernel
theorem dX6_weightOfPart_2 : decode cX6_weightOfPart 2 = .ok (.iconst 1, 1) := by decide +kernel
theorem dX6_weightOfPart_3 : decode cX6_weightOfPart 3 = .ok (.istore_n 3, 1) := by decide +kernel
theorem dX6_weightOfPart_4 : decode cX6_weightOfPart 4 = .ok (.iconst 0, 1) := by decide +kernel
theorem dX6_weightOfPart_5 : decode cX6_weightOfPart 5 = .ok (.istore 4, 2) := by decide +kernel
theorem dX6_weightOfPart_7 : decode cX6_weightOfPart 7 = .ok (.iload 4, 2) := by decide +kernel
theorem dX6_weightOfPart_9 : decode cX6_weightOfPart 9 = .ok (.aload_n 0, 1) := by decide +kernel
theorem dX6_weightOfPart_10 : decode cX6_weightOfPart 10 = .ok (.getfield 114, 3) := by decide +kernel
theorem dX6_weightOfPart_13 : decode cX6_weightOfPart 13 = .ok (.if_icmp .ge 54, 3) := by decide +kernel
theorem dX6_weightOfPart_16 : decode cX6_weightOfPart 16 = .ok (.iload 4, 2) := by decide +kernel
theorem dX6_weightOfPart_18 : decode cX6_weightOfPart 18 = .ok (.iload_n 1, 1) := by decide +kernel
theorem dX6_weightOfPart_19 : decode cX6_weightOfPart 19 = .ok (.if_icmp .ne 6, 3) := by decide +kernel
theorem dX6_weightOfPart_22 : decode cX6_weightOfPart 22 = .ok (.goto 39, 3) := by decide +kernel
theorem dX6_weightOfPart_25 : decode cX6_weightOfPart 25 = .ok (.iload_n 2, 1) := by decide +kernel
theorem dX6_weightOfPart_26 : decode cX6_weightOfPart 26 = .ok (.aload_n 0, 1) := by decide +kernel
theorem dX6_weightOfPart_27 : decode cX6_weightOfPart 27 = .ok (.iload 4, 2) := by decide +kernel
theorem dX6_weightOfPart_29 : decode cX6_weightOfPart 29 = .ok (.invokevirtual 92, 3) := by decide +kernel
theorem dX6_weightOfPart_32 : decode cX6_weightOfPart 32 = .ok (.imul, 1) := by decide +kernel
theorem dX6_weightOfPart_33 : decode cX6_weightOfPart 33 = .ok (.sipush 251, 3) := by decide +kernel
theorem dX6_weightOfPart_36 : decode cX6_weightOfPart 36 = .ok (.irem, 1) := by decide +kernel
theorem dX6_weightOfPart_37 : decode cX6_weightOfPart 37 = .ok (.istore_n 2, 1) := by decide +kernel
theorem dX6_weightOfPart_38 : decode cX6_weightOfPart 38 = .ok (.iload_n 3, 1) := by decide +kernel
theorem dX6_weightOfPart_39 : decode cX6_weightOfPart 39 = .ok (.aload_n 0, 1) := by decide +kernel
theorem dX6_weightOfPart_40 : decode cX6_weightOfPart 40 = .ok (.iload 4, 2) := by decide +kernel
theorem dX6_weightOfPart_42 : decode cX6_weightOfPart 42 = .ok (.invokevirtual 92, 3) := by decide +kernel
theorem dX6_weightOfPart_45 : decode cX6_weightOfPart 45 = .ok (.aload_n 0, 1) := by decide +kernel
theorem dX6_weightOfPart_46 : decode cX6_weightOfPart 46 = .ok (.iload_n 1, 1) := by decide +kernel
theorem dX6_weightOfPart_47 : decode cX6_weightOfPart 47 = .ok (.invokevirtual 92, 3) := by decide +kernel
theorem dX6_weightOfPart_50 : decode cX6_weightOfPart 50 = .ok (.isub, 1) := by decide +kernel
theorem dX6_weightOfPart_51 : decode cX6_weightOfPart 51 = .ok (.sipush 251, 3) := by decide +kernel
theorem dX6_weightOfPart_54 : decode cX6_weightOfPart 54 = .ok (.iadd, 1) := by decide +kernel
theorem dX6_weightOfPart_55 : decode cX6_weightOfPart 55 = .ok (.imul, 1) := by decide +kernel
theorem dX6_weightOfPart_56 : decode cX6_weightOfPart 56 = .ok (.sipush 251, 3) := by decide +kernel
theorem dX6_weightOfPart_59 : decode cX6_weightOfPart 59 = .ok (.irem, 1) := by decide +kernel
theorem dX6_weightOfPart_60 : decode cX6_weightOfPart 60 = .ok (.istore_n 3, 1) := by decide +kernel
theorem dX6_weightOfPart_61 : decode cX6_weightOfPart 61 = .ok (.iinc 4 2, 3) := by decide +kernel
theorem dX6_weightOfPart_64 : decode cX6_weightOfPart 64 = .ok (.goto (-57), 3) := by decide +kernel
theorem dX6_weightOfPart_67 : decode cX6_weightOfPart 67 = .ok (.iload_n 2, 1) := by decide +kernel
theorem dX6_weightOfPart_68 : decode cX6_weightOfPart 68 = .ok (.iload_n 3, 1) := by decide +kernel
theorem dX6_weightOfPart_69 : decode cX6_weightOfPart 69 = .ok (.sipush 249, 3) := by decide +kernel
theorem dX6_weightOfPart_72 : decode cX6_weightOfPart 72 = .ok (.invokestatic 244, 3) := by decide +kernel
theorem dX6_weightOfPart_75 : decode cX6_weightOfPart 75 = .ok (.imul, 1) := by decide +kernel
theorem dX6_weightOfPart_76 : decode cX6_weightOfPart 76 = .ok (.sipush 251, 3) := by decide +kernel
theorem dX6_weightOfPart_79 : decode cX6_weightOfPart 79 = .ok (.irem, 1) := by decide +kernel
theorem dX6_weightOfPart_80 : decode cX6_weightOfPart 80 = .ok (.ireturn, 1) := by decide +kernel
theorem dX6_wrongInNames_0 : decode cX6_wrongInNames 0 = .ok (.aload_n 0, 1) := by decide +kernel
theorem dX6_wrongInNames_1 : decode cX6_wrongInNames 1 = .ok (.getfield 114, 3) := by decide +kernel
theorem dX6_wrongInNames_4 : decode cX6_wrongInNames 4 = .ok (.iconst 1, 1) := by decide +kernel
theorem dX6_wrongInNames_5 : decode cX6_wrongInNames 5 = .ok (.if_icmp .lt 12, 3) := by decide +kernel
theorem dX6_wrongInNames_8 : decode cX6_wrongInNames 8 = .ok (.aload_n 0, 1) := by decide +kernel
theorem dX6_wrongInNames_9 : decode cX6_wrongInNames 9 = .ok (.getfield 114, 3) := by decide +kernel
theorem dX6_wrongInNames_12 : decode cX6_wrongInNames 12 = .ok (.bipush 10, 2) := by decide +kernel
theorem dX6_wrongInNames_14 : decode cX6_wrongInNames 14 = .ok (.if_icmp .le 5, 3) := by decide +kernel
theorem dX6_wrongInNames_17 : decode cX6_wrongInNames 17 = .ok (.iconst 5, 1) := by decide +kernel
theorem dX6_wrongInNames_18 : decode cX6_wrongInNames 18 = .ok (.ireturn, 1) := by decide +kernel
theorem dX6_wrongInNames_19 : decode cX6_wrongInNames 19 = .ok (.aload_n 0, 1) := by decide +kernel
theorem dX6_wrongInNames_20 : decode cX6_wrongInNames 20 = .ok (.iconst 0, 1) := by decide +kernel
theorem dX6_wrongInNames_21 : decode cX6_wrongInNames 21 = .ok (.sipush 4095, 3) := by decide +kernel
theorem dX6_wrongInNames_24 : decode cX6_wrongInNames 24 = .ok (.invokevirtual 373, 3) := by decide +kernel
theorem dX6_wrongInNames_27 : decode cX6_wrongInNames 27 = .ok (.ifCond .eq 7, 3) := by decide +kernel
theorem dX6_wrongInNames_30 : decode cX6_wrongInNames 30 = .ok (.iconst 0, 1) := by decide +kernel
theorem dX6_wrongInNames_31 : decode cX6_wrongInNames 31 = .ok (.goto 4, 3) := by decide +kernel
theorem dX6_wrongInNames_34 : decode cX6_wrongInNames 34 = .ok (.iconst 3, 1) := by decide +kernel
theorem dX6_wrongInNames_35 : decode cX6_wrongInNames 35 = .ok (.ireturn, 1) := by decide +kernel
theorem dX6_canMake_0 : decode cX6_canMake 0 = .ok (.iconst 0, 1) := by decide +kernel
theorem dX6_canMake_1 : decode cX6_canMake 1 = .ok (.istore_n 3, 1) := by decide +kernel
theorem dX6_canMake_2 : decode cX6_canMake 2 = .ok (.sipush 4095, 3) := by decide +kernel
theorem dX6_canMake_5 : decode cX6_canMake 5 = .ok (.istore 4, 2) := by decide +kernel
theorem dX6_canMake_7 : decode cX6_canMake 7 = .ok (.iconst 0, 1) := by decide +kernel
theorem dX6_canMake_8 : decode cX6_canMake 8 = .ok (.istore 5, 2) := by decide +kernel
theorem dX6_canMake_10 : decode cX6_canMake 10 = .ok (.iload 5, 2) := by decide +kernel
theorem dX6_canMake_12 : decode cX6_canMake 12 = .ok (.aload_n 0, 1) := by decide +kernel
theorem dX6_canMake_13 : decode cX6_canMake 13 = .ok (.getfield 114, 3) := by decide +kernel
theorem dX6_canMake_16 : decode cX6_canMake 16 = .ok (.if_icmp .ge 41, 3) := by decide +kernel
theorem dX6_canMake_19 : decode cX6_canMake 19 = .ok (.iload_n 1, 1) := by decide +kernel
theorem dX6_canMake_20 : decode cX6_canMake 20 = .ok (.iload 5, 2) := by decide +kernel
theorem dX6_canMake_22 : decode cX6_canMake 22 = .ok (.ishr, 1) := by decide +kernel
theorem dX6_canMake_23 : decode cX6_canMake 23 = .ok (.iconst 1, 1) := by decide +kernel
theorem dX6_canMake_24 : decode cX6_canMake 24 = .ok (.iand, 1) := by decide +kernel
theorem dX6_canMake_25 : decode cX6_canMake 25 = .ok (.ifCond .ne 6, 3) := by decide +kernel
theorem dX6_canMake_28 : decode cX6_canMake 28 = .ok (.goto 23, 3) := by decide +kernel
theorem dX6_canMake_31 : decode cX6_canMake 31 = .ok (.iload_n 3, 1) := by decide +kernel
theorem dX6_canMake_32 : decode cX6_canMake 32 = .ok (.aload_n 0, 1) := by decide +kernel
theorem dX6_canMake_33 : decode cX6_canMake 33 = .ok (.iload 5, 2) := by decide +kernel
theorem dX6_canMake_35 : decode cX6_canMake 35 = .ok (.invokevirtual 92, 3) := by decide +kernel
theorem dX6_canMake_38 : decode cX6_canMake 38 = .ok (.ior, 1) := by decide +kernel
theorem dX6_canMake_39 : decode cX6_canMake 39 = .ok (.istore_n 3, 1) := by decide +kernel
theorem dX6_canMake_40 : decode cX6_canMake 40 = .ok (.iload 4, 2) := by decide +kernel
theorem dX6_canMake_42 : decode cX6_canMake 42 = .ok (.aload_n 0, 1) := by decide +kernel
theorem dX6_canMake_43 : decode cX6_canMake 43 = .ok (.iload 5, 2) := by decide +kernel
theorem dX6_canMake_45 : decode cX6_canMake 45 = .ok (.invokevirtual 92, 3) := by decide +kernel
theorem dX6_canMake_48 : decode cX6_canMake 48 = .ok (.iand, 1) := by decide +kernel
theorem dX6_canMake_49 : decode cX6_canMake 49 = .ok (.istore 4, 2) := by decide +kernel
theorem dX6_canMake_51 : decode cX6_canMake 51 = .ok (.iinc 5 1, 3) := by decide +kernel
theorem dX6_canMake_54 : decode cX6_canMake 54 = .ok (.goto (-44), 3) := by decide +kernel
theorem dX6_canMake_57 : decode cX6_canMake 57 = .ok (.iload_n 2, 1) := by decide +kernel
theorem dX6_canMake_58 : decode cX6_canMake 58 = .ok (.iload_n 3, 1) := by decide +kernel
theorem dX6_canMake_59 : decode cX6_canMake 59 = .ok (.iconst (-1), 1) := by decide +kernel
theorem dX6_canMake_60 : decode cX6_canMake 60 = .ok (.ixor, 1) := by decide +kernel
theorem dX6_canMake_61 : decode cX6_canMake 61 = .ok (.iand, 1) := by decide +kernel
theorem dX6_canMake_62 : decode cX6_canMake 62 = .ok (.ifCond .ne 16, 3) := by decide +kernel
theorem dX6_canMake_65 : decode cX6_canMake 65 = .ok (.iload 4, 2) := by decide +kernel
theorem dX6_canMake_67 : decode cX6_canMake 67 = .ok (.iload_n 2, 1) := by decide +kernel
theorem dX6_canMake_68 : decode cX6_canMake 68 = .ok (.iconst (-1), 1) := by decide +kernel
theorem dX6_canMake_69 : decode cX6_canMake 69 = .ok (.ixor, 1) := by decide +kernel
theorem dX6_canMake_70 : decode cX6_canMake 70 = .ok (.iand, 1) := by decide +kernel
theorem dX6_canMake_71 : decode cX6_canMake 71 = .ok (.ifCond .ne 7, 3) := by decide +kernel
theorem dX6_canMake_74 : decode cX6_canMake 74 = .ok (.iconst 1, 1) := by decide +kernel
theorem dX6_canMake_75 : decode cX6_canMake 75 = .ok (.goto 4, 3) := by decide +kernel
theorem dX6_canMake_78 : decode cX6_canMake 78 = .ok (.iconst 0, 1) := by decide +kernel
theorem dX6_canMake_79 : decode cX6_canMake 79 = .ok (.ireturn, 1) := by decide +kernel
theorem dX6_wrongInModels_0 : decode cX6_wrongInModels 0 = .ok (.aload_n 0, 1) := by decide +kernel
theorem dX6_wrongInModels_1 : decode cX6_wrongInModels 1 = .ok (.getfield 114, 3) := by decide +kernel
theorem dX6_wrongInModels_4 : decode cX6_wrongInModels 4 = .ok (.bipush 8, 2) := by decide +kernel
theorem dX6_wrongInModels_6 : decode cX6_wrongInModels 6 = .ok (.if_icmp .ne 12, 3) := by decide +kernel
theorem dX6_wrongInModels_9 : decode cX6_wrongInModels 9 = .ok (.aload_n 1, 1) := by decide +kernel
theorem dX6_wrongInModels_10 : decode cX6_wrongInModels 10 = .ok (.getfield 114, 3) := by decide +kernel
theorem dX6_wrongInModels_13 : decode cX6_wrongInModels 13 = .ok (.bipush 8, 2) := by decide +kernel
theorem dX6_wrongInModels_15 : decode cX6_wrongInModels 15 = .ok (.if_icmp .eq 5, 3) := by decide +kernel
theorem dX6_wrongInModels_18 : decode cX6_wrongInModels 18 = .ok (.iconst 5, 1) := by decide +kernel
theorem dX6_wrongInModels_19 : decode cX6_wrongInModels 19 = .ok (.ireturn, 1) := by decide +kernel
theorem dX6_wrongInModels_20 : decode cX6_wrongInModels 20 = .ok (.aload_n 0, 1) := by decide +kernel
theorem dX6_wrongInModels_21 : decode cX6_wrongInModels 21 = .ok (.iconst 0, 1) := by decide +kernel
theorem dX6_wrongInModels_22 : decode cX6_wrongInModels 22 = .ok (.sipush 999, 3) := by decide +kernel
theorem dX6_wrongInModels_25 : decode cX6_wrongInModels 25 = .ok (.invokevirtual 373, 3) := by decide +kernel
theorem dX6_wrongInModels_28 : decode cX6_wrongInModels 28 = .ok (.ifCond .eq 14, 3) := by decide +kernel
theorem dX6_wrongInModels_31 : decode cX6_wrongInModels 31 = .ok (.aload_n 1, 1) := by decide +kernel
theorem dX6_wrongInModels_32 : decode cX6_wrongInModels 32 = .ok (.iconst 0, 1) := by decide +kernel
theorem dX6_wrongInModels_33 : decode cX6_wrongInModels 33 = .ok (.sipush 999, 3) := by decide +kernel
theorem dX6_wrongInModels_36 : decode cX6_wrongInModels 36 = .ok (.invokevirtual 373, 3) := by decide +kernel
theorem dX6_wrongInModels_39 : decode cX6_wrongInModels 39 = .ok (.ifCond .ne 5, 3) := by decide +kernel
theorem dX6_wrongInModels_42 : decode cX6_wrongInModels 42 = .ok (.iconst 3, 1) := by decide +kernel
theorem dX6_wrongInModels_43 : decode cX6_wrongInModels 43 = .ok (.ireturn, 1) := by decide +kernel
theorem dX6_wrongInModels_44 : decode cX6_wrongInModels 44 = .ok (.aload_n 0, 1) := by decide +kernel
theorem dX6_wrongInModels_45 : decode cX6_wrongInModels 45 = .ok (.invokevirtual 117, 3) := by decide +kernel
theorem dX6_wrongInModels_48 : decode cX6_wrongInModels 48 = .ok (.lconst 0, 1) := by decide +kernel
theorem dX6_wrongInModels_49 : decode cX6_wrongInModels 49 = .ok (.lcmp, 1) := by decide +kernel
theorem dX6_wrongInModels_50 : decode cX6_wrongInModels 50 = .ok (.ifCond .eq 12, 3) := by decide +kernel
theorem dX6_wrongInModels_53 : decode cX6_wrongInModels 53 = .ok (.aload_n 1, 1) := by decide +kernel
theorem dX6_wrongInModels_54 : decode cX6_wrongInModels 54 = .ok (.invokevirtual 117, 3) := by decide +kernel
theorem dX6_wrongInModels_57 : decode cX6_wrongInModels 57 = .ok (.lconst 0, 1) := by decide +kernel
theorem dX6_wrongInModels_58 : decode cX6_wrongInModels 58 = .ok (.lcmp, 1) := by decide +kernel
theorem dX6_wrongInModels_59 : decode cX6_wrongInModels 59 = .ok (.ifCond .ne 7, 3) := by decide +kernel
theorem dX6_wrongInModels_62 : decode cX6_wrongInModels 62 = .ok (.iconst 4, 1) := by decide +kernel
theorem dX6_wrongInModels_63 : decode cX6_wrongInModels 63 = .ok (.goto 4, 3) := by decide +kernel
theorem dX6_wrongInModels_66 : decode cX6_wrongInModels 66 = .ok (.iconst 0, 1) := by decide +kernel
theorem dX6_wrongInModels_67 : decode cX6_wrongInModels 67 = .ok (.ireturn, 1) := by decide +kernel
theorem dX6_leadOf_0 : decode cX6_leadOf 0 = .ok (.aload_n 0, 1) := by decide +kernel
theorem dX6_leadOf_1 : decode cX6_leadOf 1 = .ok (.iload_n 2, 1) := by decide +kernel
theorem dX6_leadOf_2 : decode cX6_leadOf 2 = .ok (.invokevirtual 92, 3) := by decide +kernel
theorem dX6_leadOf_5 : decode cX6_leadOf 5 = .ok (.i2l, 1) := by decide +kernel
theorem dX6_leadOf_6 : decode cX6_leadOf 6 = .ok (.aload_n 1, 1) := by decide +kernel
theorem dX6_leadOf_7 : decode cX6_leadOf 7 = .ok (.invokevirtual 117, 3) := by decide +kernel
theorem dX6_leadOf_10 : decode cX6_leadOf 10 = .ok (.lmul, 1) := by decide +kernel
theorem dX6_leadOf_11 : decode cX6_leadOf 11 = .ok (.aload_n 1, 1) := by decide +kernel
theorem dX6_leadOf_12 : decode cX6_leadOf 12 = .ok (.iload_n 2, 1) := by decide +kernel
theorem dX6_leadOf_13 : decode cX6_leadOf 13 = .ok (.invokevirtual 92, 3) := by decide +kernel
theorem dX6_leadOf_16 : decode cX6_leadOf 16 = .ok (.i2l, 1) := by decide +kernel
theorem dX6_leadOf_17 : decode cX6_leadOf 17 = .ok (.aload_n 0, 1) := by decide +kernel
theorem dX6_leadOf_18 : decode cX6_leadOf 18 = .ok (.invokevirtual 117, 3) := by decide +kernel
theorem dX6_leadOf_21 : decode cX6_leadOf 21 = .ok (.lmul, 1) := by decide +kernel
theorem dX6_leadOf_22 : decode cX6_leadOf 22 = .ok (.lsub, 1) := by decide +kernel
theorem dX6_leadOf_23 : decode cX6_leadOf 23 = .ok (.lreturn, 1) := by decide +kernel
theorem dX6_gapOf_0 : decode cX6_gapOf 0 = .ok (.lconst 0, 1) := by decide +kernel
theorem dX6_gapOf_1 : decode cX6_gapOf 1 = .ok (.lstore_n 2, 1) := by decide +kernel
theorem dX6_gapOf_2 : decode cX6_gapOf 2 = .ok (.iconst 0, 1) := by decide +kernel
theorem dX6_gapOf_3 : decode cX6_gapOf 3 = .ok (.istore 4, 2) := by decide +kernel
theorem dX6_gapOf_5 : decode cX6_gapOf 5 = .ok (.iload 4, 2) := by decide +kernel
theorem dX6_gapOf_7 : decode cX6_gapOf 7 = .ok (.bipush 8, 2) := by decide +kernel
theorem dX6_gapOf_9 : decode cX6_gapOf 9 = .ok (.if_icmp .ge 22, 3) := by decide +kernel
theorem dX6_gapOf_12 : decode cX6_gapOf 12 = .ok (.lload_n 2, 1) := by decide +kernel
theorem dX6_gapOf_13 : decode cX6_gapOf 13 = .ok (.aload_n 0, 1) := by decide +kernel
theorem dX6_gapOf_14 : decode cX6_gapOf 14 = .ok (.aload_n 1, 1) := by decide +kernel
theorem dX6_gapOf_15 : decode cX6_gapOf 15 = .ok (.iload 4, 2) := by decide +kernel
theorem dX6_gapOf_17 : decode cX6_gapOf 17 = .ok (.invokestatic 384, 3) := by decide +kernel
theorem dX6_gapOf_20 : decode cX6_gapOf 20 = .ok (.invokestatic 388, 3) := by decide +kernel
theorem dX6_gapOf_23 : decode cX6_gapOf 23 = .ok (.ladd, 1) := by decide +kernel
theorem dX6_gapOf_24 : decode cX6_gapOf 24 = .ok (.lstore_n 2, 1) := by decide +kernel
theorem dX6_gapOf_25 : decode cX6_gapOf 25 = .ok (.iinc 4 1, 3) := by decide +kernel
theorem dX6_gapOf_28 : decode cX6_gapOf 28 = .ok (.goto (-23), 3) := by decide +kernel
theorem dX6_gapOf_31 : decode cX6_gapOf 31 = .ok (.lload_n 2, 1) := by decide +kernel
theorem dX6_gapOf_32 : decode cX6_gapOf 32 = .ok (.lreturn, 1) := by decide +kernel
theorem dX6_greaterShares_0 : decode cX6_greaterShares 0 = .ok (.iconst 0, 1) := by decide +kernel
theorem dX6_greaterShares_1 : decode cX6_greaterShares 1 = .ok (.istore_n 2, 1) := by decide +kernel
theorem dX6_greaterShares_2 : decode cX6_greaterShares 2 = .ok (.iconst 0, 1) := by decide +kernel
theorem dX6_greaterShares_3 : decode cX6_greaterShares 3 = .ok (.istore_n 3, 1) := by decide +kernel
theorem dX6_greaterShares_4 : decode cX6_greaterShares 4 = .ok (.iload_n 3, 1) := by decide +kernel
theorem dX6_greaterShares_5 : decode cX6_greaterShares 5 = .ok (.bipush 8, 2) := by decide +kernel
theorem dX6_greaterShares_7 : decode cX6_greaterShares 7 = .ok (.if_icmp .ge 26, 3) := by decide +kernel
theorem dX6_greaterShares_10 : decode cX6_greaterShares 10 = .ok (.aload_n 0, 1) := by decide +kernel
theorem dX6_greaterShares_11 : decode cX6_greaterShares 11 = .ok (.aload_n 1, 1) := by decide +kernel
theorem dX6_greaterShares_12 : decode cX6_greaterShares 12 = .ok (.iload_n 3, 1) := by decide +kernel
theorem dX6_greaterShares_13 : decode cX6_greaterShares 13 = .ok (.invokestatic 384, 3) := by decide +kernel
theorem dX6_greaterShares_16 : decode cX6_greaterShares 16 = .ok (.lconst 0, 1) := by decide +kernel
theorem dX6_greaterShares_17 : decode cX6_greaterShares 17 = .ok (.lcmp, 1) := by decide +kernel
theorem dX6_greaterShares_18 : decode cX6_greaterShares 18 = .ok (.ifCond .le 9, 3) := by decide +kernel
theorem dX6_greaterShares_21 : decode cX6_greaterShares 21 = .ok (.iload_n 2, 1) := by decide +kernel
theorem dX6_greaterShares_22 : decode cX6_greaterShares 22 = .ok (.iconst 1, 1) := by decide +kernel
theorem dX6_greaterShares_23 : decode cX6_greaterShares 23 = .ok (.iload_n 3, 1) := by decide +kernel
theorem dX6_greaterShares_24 : decode cX6_greaterShares 24 = .ok (.ishl, 1) := by decide +kernel
theorem dX6_greaterShares_25 : decode cX6_greaterShares 25 = .ok (.ior, 1) := by decide +kernel
theorem dX6_greaterShares_26 : decode cX6_greaterShares 26 = .ok (.istore_n 2, 1) := by decide +kernel
theorem dX6_greaterShares_27 : decode cX6_greaterShares 27 = .ok (.iinc 3 1, 3) := by decide +kernel
theorem dX6_greaterShares_30 : decode cX6_greaterShares 30 = .ok (.goto (-26), 3) := by decide +kernel
theorem dX6_greaterShares_33 : decode cX6_greaterShares 33 = .ok (.iload_n 2, 1) := by decide +kernel
theorem dX6_greaterShares_34 : decode cX6_greaterShares 34 = .ok (.ireturn, 1) := by decide +kernel
theorem dX6_countOrders_0 : decode cX6_countOrders 0 = .ok (.iconst 1, 1) := by decide +kernel
theorem dX6_countOrders_1 : decode cX6_countOrders 1 = .ok (.istore_n 1, 1) := by decide +kernel
theorem dX6_countOrders_2 : decode cX6_countOrders 2 = .ok (.iconst 2, 1) := by decide +kernel
theorem dX6_countOrders_3 : decode cX6_countOrders 3 = .ok (.istore_n 2, 1) := by decide +kernel
theorem dX6_countOrders_4 : decode cX6_countOrders 4 = .ok (.iload_n 2, 1) := by decide +kernel
theorem dX6_countOrders_5 : decode cX6_countOrders 5 = .ok (.iload_n 0, 1) := by decide +kernel
theorem dX6_countOrders_6 : decode cX6_countOrders 6 = .ok (.if_icmp .gt 19, 3) := by decide +kernel
theorem dX6_countOrders_9 : decode cX6_countOrders 9 = .ok (.iload_n 2, 1) := by decide +kernel
theorem dX6_countOrders_10 : decode cX6_countOrders 10 = .ok (.bipush 10, 2) := by decide +kernel
theorem dX6_countOrders_12 : decode cX6_countOrders 12 = .ok (.if_icmp .gt 13, 3) := by decide +kernel
theorem dX6_countOrders_15 : decode cX6_countOrders 15 = .ok (.iload_n 1, 1) := by decide +kernel
theorem dX6_countOrders_16 : decode cX6_countOrders 16 = .ok (.iload_n 2, 1) := by decide +kernel
theorem dX6_countOrders_17 : decode cX6_countOrders 17 = .ok (.imul, 1) := by decide +kernel
theorem dX6_countOrders_18 : decode cX6_countOrders 18 = .ok (.istore_n 1, 1) := by decide +kernel
theorem dX6_countOrders_19 : decode cX6_countOrders 19 = .ok (.iinc 2 1, 3) := by decide +kernel
theorem dX6_countOrders_22 : decode cX6_countOrders 22 = .ok (.goto (-18), 3) := by decide +kernel
theorem dX6_countOrders_25 : decode cX6_countOrders 25 = .ok (.iload_n 1, 1) := by decide +kernel
theorem dX6_countOrders_26 : decode cX6_countOrders 26 = .ok (.ireturn, 1) := by decide +kernel
theorem dX7_init_0 : decode cX7_init 0 = .ok (.aload_n 0, 1) := by decide +kernel
theorem dX7_init_1 : decode cX7_init 1 = .ok (.invokespecial 1, 3) := by decide +kernel
theorem dX7_init_4 : decode cX7_init 4 = .ok (.aload_n 0, 1) := by decide +kernel
theorem dX7_init_5 : decode cX7_init 5 = .ok (.bipush 6, 2) := by decide +kernel
theorem dX7_init_7 : decode cX7_init 7 = .ok (.newarray .int, 2) := by decide +kernel
theorem dX7_init_9 : decode cX7_init 9 = .ok (.putfield 7, 3) := by decide +kernel
theorem dX7_init_12 : decode cX7_init 12 = .ok (.aload_n 0, 1) := by decide +kernel
theorem dX7_init_13 : decode cX7_init 13 = .ok (.lconst 1, 1) := by decide +kernel
theorem dX7_init_14 : decode cX7_init 14 = .ok (.putfield 13, 3) := by decide +kernel
theorem dX7_init_17 : decode cX7_init 17 = .ok (.aload_n 0, 1) := by decide +kernel
theorem dX7_init_18 : decode cX7_init 18 = .ok (.bipush 6, 2) := by decide +kernel
theorem dX7_init_20 : decode cX7_init 20 = .ok (.newarray .int, 2) := by decide +kernel
theorem dX7_init_22 : decode cX7_init 22 = .ok (.putfield 17, 3) := by decide +kernel
theorem dX7_init_25 : decode cX7_init 25 = .ok (.aload_n 0, 1) := by decide +kernel
theorem dX7_init_26 : decode cX7_init 26 = .ok (.sipush 240, 3) := by decide +kernel
theorem dX7_init_29 : decode cX7_init 29 = .ok (.newarray .int, 2) := by decide +kernel
theorem dX7_init_31 : decode cX7_init 31 = .ok (.putfield 20, 3) := by decide +kernel
theorem dX7_init_34 : decode cX7_init 34 = .ok (.aload_n 0, 1) := by decide +kernel
theorem dX7_init_35 : decode cX7_init 35 = .ok (.bipush 40, 2) := by decide +kernel
theorem dX7_init_37 : decode cX7_init 37 = .ok (.newarray .int, 2) := by decide +kernel
theorem dX7_init_39 : decode cX7_init 39 = .ok (.putfield 23, 3) := by decide +kernel
theorem dX7_init_42 : decode cX7_init 42 = .ok (.aload_n 0, 1) := by decide +kernel
theorem dX7_init_43 : decode cX7_init 43 = .ok (.iconst 4, 1) := by decide +kernel
theorem dX7_init_44 : decode cX7_init 44 = .ok (.newarray .int, 2) := by decide +kernel
theorem dX7_init_46 : decode cX7_init 46 = .ok (.putfield 26, 3) := by decide +kernel
theorem dX7_init_49 : decode cX7_init 49 = .ok (.aload_n 0, 1) := by decide +kernel
theorem dX7_init_50 : decode cX7_init 50 = .ok (.sipush 240, 3) := by decide +kernel
theorem dX7_init_53 : decode cX7_init 53 = .ok (.newarray .int, 2) := by decide +kernel
theorem dX7_init_55 : decode cX7_init 55 = .ok (.putfield 29, 3) := by decide +kernel
theorem dX7_init_58 : decode cX7_init 58 = .ok (.aload_n 0, 1) := by decide +kernel
theorem dX7_init_59 : decode cX7_init 59 = .ok (.bipush 6, 2) := by decide +kernel
theorem dX7_init_61 : decode cX7_init 61 = .ok (.newarray .int, 2) := by decide +kernel
theorem dX7_init_63 : decode cX7_init 63 = .ok (.putfield 32, 3) := by decide +kernel
theorem dX7_init_66 : decode cX7_init 66 = .ok (.aload_n 0, 1) := by decide +kernel
theorem dX7_init_67 : decode cX7_init 67 = .ok (.bipush 6, 2) := by decide +kernel
theorem dX7_init_69 : decode cX7_init 69 = .ok (.newarray .int, 2) := by decide +kernel
theorem dX7_init_71 : decode cX7_init 71 = .ok (.putfield 35, 3) := by decide +kernel
theorem dX7_init_74 : decode cX7_init 74 = .ok (.aload_n 0, 1) := by decide +kernel
theorem dX7_init_75 : decode cX7_init 75 = .ok (.sipush 240, 3) := by decide +kernel
theorem dX7_init_78 : decode cX7_init 78 = .ok (.newarray .int, 2) := by decide +kernel
theorem dX7_init_80 : decode cX7_init 80 = .ok (.putfield 38, 3) := by decide +kernel
theorem dX7_init_83 : decode cX7_init 83 = .ok (.aload_n 0, 1) := by decide +kernel
theorem dX7_init_84 : decode cX7_init 84 = .ok (.sipush 240, 3) := by decide +kernel
theorem dX7_init_87 : decode cX7_init 87 = .ok (.newarray .int, 2) := by decide +kernel
theorem dX7_init_89 : decode cX7_init 89 = .ok (.putfield 41, 3) := by decide +kernel
theorem dX7_init_92 : decode cX7_init 92 = .ok (.aload_n 0, 1) := by decide +kernel
theorem dX7_init_93 : decode cX7_init 93 = .ok (.bipush 6, 2) := by decide +kernel
theorem dX7_init_95 : decode cX7_init 95 = .ok (.newarray .int, 2) := by decide +kernel
theorem dX7_init_97 : decode cX7_init 97 = .ok (.putfield 44, 3) := by decide +kernel
theorem dX7_init_100 : decode cX7_init 100 = .ok (.aload_n 0, 1) := by decide +kernel
theorem dX7_init_101 : decode cX7_init 101 = .ok (.bipush 6, 2) := by decide +kernel
theorem dX7_init_103 : decode cX7_init 103 = .ok (.newarray .int, 2) := by decide +kernel
theorem dX7_init_105 : decode cX7_init 105 = .ok (.putfield 47, 3) := by decide +kernel
theorem dX7_init_108 : decode cX7_init 108 = .ok (.aload_n 0, 1) := by decide +kernel
theorem dX7_init_109 : decode cX7_init 109 = .ok (.bipush 40, 2) := by decide +kernel
theorem dX7_init_111 : decode cX7_init 111 = .ok (.newarray .int, 2) := by decide +kernel
theorem dX7_init_113 : decode cX7_init 113 = .ok (.putfield 50, 3) := by decide +kernel
theorem dX7_init_116 : decode cX7_init 116 = .ok (.aload_n 0, 1) := by decide +kernel
theorem dX7_init_117 : decode cX7_init 117 = .ok (.iconst 4, 1) := by decide +kernel
theorem dX7_init_118 : decode cX7_init 118 = .ok (.newarray .int, 2) := by decide +kernel
theorem dX7_init_120 : decode cX7_init 120 = .ok (.putfield 53, 3) := by decide +kernel
theorem dX7_init_123 : decode cX7_init 123 = .ok (.aload_n 0, 1) := by decide +kernel
theorem dX7_init_124 : decode cX7_init 124 = .ok (.iconst 4, 1) := by decide +kernel
theorem dX7_init_125 : decode cX7_init 125 = .ok (.newarray .int, 2) := by decide +kernel
theorem dX7_init_127 : decode cX7_init 127 = .ok (.putfield 56, 3) := by decide +kernel
theorem dX7_init_130 : decode cX7_init 130 = .ok (.aload_n 0, 1) := by decide +kernel
theorem dX7_init_131 : decode cX7_init 131 = .ok (.bipush 24, 2) := by decide +kernel
theorem dX7_init_133 : decode cX7_init 133 = .ok (.newarray .int, 2) := by decide +kernel
theorem dX7_init_135 : decode cX7_init 135 = .ok (.putfield 59, 3) := by decide +kernel
theorem dX7_init_138 : decode cX7_init 138 = .ok (.aload_n 0, 1) := by decide +kernel
theorem dX7_init_139 : decode cX7_init 139 = .ok (.bipush 6, 2) := by decide +kernel
theorem dX7_init_141 : decode cX7_init 141 = .ok (.newarray .int, 2) := by decide +kernel
theorem dX7_init_143 : decode cX7_init 143 = .ok (.putfield 62, 3) := by decide +kernel
theorem dX7_init_146 : decode cX7_init 146 = .ok (.aload_n 0, 1) := by decide +kernel
theorem dX7_init_147 : decode cX7_init 147 = .ok (.bipush 40, 2) := by decide +kernel
theorem dX7_init_149 : decode cX7_init 149 = .ok (.newarray .boolean, 2) := by decide +kernel
theorem dX7_init_151 : decode cX7_init 151 = .ok (.putfield 65, 3) := by decide +kernel
theorem dX7_init_154 : decode cX7_init 154 = .ok (.aload_n 0, 1) := by decide +kernel
theorem dX7_init_155 : decode cX7_init 155 = .ok (.bipush 64, 2) := by decide +kernel
theorem dX7_init_157 : decode cX7_init 157 = .ok (.newarray .int, 2) := by decide +kernel
theorem dX7_init_159 : decode cX7_init 159 = .ok (.putfield 69, 3) := by decide +kernel
theorem dX7_init_162 : decode cX7_init 162 = .ok (.aload_n 0, 1) := by decide +kernel
theorem dX7_init_163 : decode cX7_init 163 = .ok (.bipush 40, 2) := by decide +kernel
theorem dX7_init_165 : decode cX7_init 165 = .ok (.newarray .int, 2) := by decide +kernel
theorem dX7_init_167 : decode cX7_init 167 = .ok (.putfield 72, 3) := by decide +kernel
theorem dX7_init_170 : decode cX7_init 170 = .ok (.aload_n 0, 1) := by decide +kernel
theorem dX7_init_171 : decode cX7_init 171 = .ok (.sipush 10201, 3) := by decide +kernel
theorem dX7_init_174 : decode cX7_init 174 = .ok (.newarray .long, 2) := by decide +kernel
theorem dX7_init_176 : decode cX7_init 176 = .ok (.putfield 75, 3) := by decide +kernel
theorem dX7_init_179 : decode cX7_init 179 = .ok (.aload_n 0, 1) := by decide +kernel
theorem dX7_init_180 : decode cX7_init 180 = .ok (.bipush 8, 2) := by decide +kernel
theorem dX7_init_182 : decode cX7_init 182 = .ok (.newarray .int, 2) := by decide +kernel
theorem dX7_init_184 : decode cX7_init 184 = .ok (.putfield 79, 3) := by decide +kernel
theorem dX7_init_187 : decode cX7_init 187 = .ok (.iconst 0, 1) := by decide +kernel
theorem dX7_init_188 : decode cX7_init 188 = .ok (.istore_n 1, 1) := by decide +kernel
theorem dX7_init_189 : decode cX7_init 189 = .ok (.iload_n 1, 1) := by decide +kernel
theorem dX7_init_190 : decode cX7_init 190 = .ok (.bipush 6, 2) := by decide +kernel
theorem dX7_init_192 : decode cX7_init 192 = .ok (.if_icmp .ge 17, 3) := by decide +kernel
theorem dX7_init_195 : decode cX7_init 195 = .ok (.aload_n 0, 1) := by decide +kernel
theorem dX7_init_196 : decode cX7_init 196 = .ok (.getfield 17, 3) := by decide +kernel
theorem dX7_init_199 : decode cX7_init 199 = .ok (.iload_n 1, 1) := by decide +kernel
theorem dX7_init_200 : decode cX7_init 200 = .ok (.bipush (-9), 2) := by decide +kernel
theorem dX7_init_202 : decode cX7_init 202 = .ok (.iastore, 1) := by decide +kernel
theorem dX7_init_203 : decode cX7_init 203 = .ok (.iinc 1 1, 3) := by decide +kernel
theorem dX7_init_206 : decode cX7_init 206 = .ok (.goto (-17), 3) := by decide +kernel
theorem dX7_init_209 : decode cX7_init 209 = .ok (.iconst 0, 1) := by decide +kernel
theorem dX7_init_210 : decode cX7_init 210 = .ok (.istore_n 1, 1) := by decide +kernel
theorem dX7_init_211 : decode cX7_init 211 = .ok (.iload_n 1, 1) := by decide +kernel
theorem dX7_init_212 : decode cX7_init 212 = .ok (.iconst 4, 1) := by decide +kernel
theorem dX7_init_213 : decode cX7_init 213 = .ok (.if_icmp .ge 17, 3) := by decide +kernel
theorem dX7_init_216 : decode cX7_init 216 = .ok (.aload_n 0, 1) := by decide +kernel
theorem dX7_init_217 : decode cX7_init 217 = .ok (.getfield 26, 3) := by decide +kernel
theorem dX7_init_220 : decode cX7_init 220 = .ok (.iload_n 1, 1) := by decide +kernel
theorem dX7_init_221 : decode cX7_init 221 = .ok (.bipush (-9), 2) := by decide +kernel
theorem dX7_init_223 : decode cX7_init 223 = .ok (.iastore, 1) := by decide +kernel
theorem dX7_init_224 : decode cX7_init 224 = .ok (.iinc 1 1, 3) := by decide +kernel
theorem dX7_init_227 : decode cX7_init 227 = .ok (.goto (-16), 3) := by decide +kernel
theorem dX7_init_230 : decode cX7_init 230 = .ok (.return_, 1) := by decide +kernel
theorem dX7_in_0 : decode cX7_in 0 = .ok (.iload_n 0, 1) := by decide +kernel
theorem dX7_in_1 : decode cX7_in 1 = .ok (.iload_n 1, 1) := by decide +kernel
theorem dX7_in_2 : decode cX7_in 2 = .ok (.if_icmp .lt 12, 3) := by decide +kernel
theorem dX7_in_5 : decode cX7_in 5 = .ok (.iload_n 0, 1) := by decide +kernel
theorem dX7_in_6 : decode cX7_in 6 = .ok (.iload_n 2, 1) := by decide +kernel
theorem dX7_in_7 : decode cX7_in 7 = .ok (.if_icmp .gt 7, 3) := by decide +kernel
theorem dX7_in_10 : decode cX7_in 10 = .ok (.iconst 1, 1) := by decide +kernel
theorem dX7_in_11 : decode cX7_in 11 = .ok (.goto 4, 3) := by decide +kernel
theorem dX7_in_14 : decode cX7_in 14 = .ok (.iconst 0, 1) := by decide +kernel
theorem dX7_in_15 : decode cX7_in 15 = .ok (.ireturn, 1) := by decide +kernel
theorem dX7_meets_0 : decode cX7_meets 0 = .ok (.aload_n 0, 1) := by decide +kernel
theorem dX7_meets_1 : decode cX7_meets 1 = .ok (.iload_n 1, 1) := by decide +kernel
theorem dX7_meets_2 : decode cX7_meets 2 = .ok (.putfield 82, 3) := by decide +kernel
theorem dX7_meets_5 : decode cX7_meets 5 = .ok (.aload_n 0, 1) := by decide +kernel
theorem dX7_meets_6 : decode cX7_meets 6 = .ok (.getfield 7, 3) := by decide +kernel
theorem dX7_meets_9 : decode cX7_meets 9 = .ok (.iload_n 1, 1) := by decide +kernel
theorem dX7_meets_10 : decode cX7_meets 10 = .ok (.dup2, 1) := by decide +kernel
theorem dX7_meets_11 : decode cX7_meets 11 = .ok (.iaload, 1) := by decide +kernel
theorem dX7_meets_12 : decode cX7_meets 12 = .ok (.iconst 1, 1) := by decide +kernel
theorem dX7_meets_13 : decode cX7_meets 13 = .ok (.iadd, 1) := by decide +kernel
theorem dX7_meets_14 : decode cX7_meets 14 = .ok (.iastore, 1) := by decide +kernel
theorem dX7_meets_15 : decode cX7_meets 15 = .ok (.bipush (-3), 2) := by decide +kernel
theorem dX7_meets_17 : decode cX7_meets 17 = .ok (.ireturn, 1) := by decide +kernel
theorem dX7_ask_0 : decode cX7_ask 0 = .ok (.aload_n 0, 1) := by decide +kernel
theorem dX7_ask_1 : decode cX7_ask 1 = .ok (.iload_n 1, 1) := by decide +kernel
theorem dX7_ask_2 : decode cX7_ask 2 = .ok (.putfield 86, 3) := by decide +kernel
theorem dX7_ask_5 : decode cX7_ask 5 = .ok (.iload_n 2, 1) := by decide +kernel
theorem dX7_ask_6 : decode cX7_ask 6 = .ok (.ireturn, 1) := by decide +kernel
theorem dX7_has_0 : decode cX7_has 0 = .ok (.iload_n 0, 1) := by decide +kernel
theorem dX7_has_1 : decode cX7_has 1 = .ok (.iload_n 1, 1) := by decide +kernel
theorem dX7_has_2 : decode cX7_has 2 = .ok (.ishr, 1) := by decide +kernel
theorem dX7_has_3 : decode cX7_has 3 = .ok (.iconst 1, 1) := by decide +kernel
theorem dX7_has_4 : decode cX7_has 4 = .ok (.iand, 1) := by decide +kernel
theorem dX7_has_5 : decode cX7_has 5 = .ok (.iconst 1, 1) := by decide +kernel
theorem dX7_has_6 : decode cX7_has 6 = .ok (.if_icmp .ne 7, 3) := by decide +kernel
theorem dX7_has_9 : decode cX7_has 9 = .ok (.iconst 1, 1) := by decide +kernel
theorem dX7_has_10 : decode cX7_has 10 = .ok (.goto 4, 3) := by decide +kernel
theorem dX7_has_13 : decode cX7_has 13 = .ok (.iconst 0, 1) := by decide +kernel
theorem dX7_has_14 : decode cX7_has 14 = .ok (.ireturn, 1) := by decide +kernel
theorem dX7_bits_0 : decode cX7_bits 0 = .ok (.iconst 0, 1) := by decide +kernel
theorem dX7_bits_1 : decode cX7_bits 1 = .ok (.istore_n 1, 1) := by decide +kernel
theorem dX7_bits_2 : decode cX7_bits 2 = .ok (.iconst 0, 1) := by decide +kernel
theorem dX7_bits_3 : decode cX7_bits 3 = .ok (.istore_n 2, 1) := by decide +kernel
theorem dX7_bits_4 : decode cX7_bits 4 = .ok (.iload_n 2, 1) := by decide +kernel
theorem dX7_bits_5 : decode cX7_bits 5 = .ok (.bipush 31, 2) := by decide +kernel
theorem dX7_bits_7 : decode cX7_bits 7 = .ok (.if_icmp .ge 17, 3) := by decide +kernel
theorem dX7_bits_10 : decode cX7_bits 10 = .ok (.iload_n 1, 1) := by decide +kernel
theorem dX7_bits_11 : decode cX7_bits 11 = .ok (.iload_n 0, 1) := by decide +kernel
theorem dX7_bits_12 : decode cX7_bits 12 = .ok (.iload_n 2, 1) := by decide +kernel
theorem dX7_bits_13 : decode cX7_bits 13 = .ok (.ishr, 1) := by decide +kernel
theorem dX7_bits_14 : decode cX7_bits 14 = .ok (.iconst 1, 1) := by decide +kernel
theorem dX7_bits_15 : decode cX7_bits 15 = .ok (.iand, 1) := by decide +kernel
theorem dX7_bits_16 : decode cX7_bits 16 = .ok (.iadd, 1) := by decide +kernel
theorem dX7_bits_17 : decode cX7_bits 17 = .ok (.istore_n 1, 1) := by decide +kernel
theorem dX7_bits_18 : decode cX7_bits 18 = .ok (.iinc 2 1, 3) := by decide +kernel
theorem dX7_bits_21 : decode cX7_bits 21 = .ok (.goto (-17), 3) := by decide +kernel
theorem dX7_bits_24 : decode cX7_bits 24 = .ok (.iload_n 1, 1) := by decide +kernel
theorem dX7_bits_25 : decode cX7_bits 25 = .ok (.ireturn, 1) := by decide +kernel
theorem dX7_abs_0 : decode cX7_abs 0 = .ok (.iload_n 0, 1) := by decide +kernel
theorem dX7_abs_1 : decode cX7_abs 1 = .ok (.ifCond .ge 8, 3) := by decide +kernel
theorem dX7_abs_4 : decode cX7_abs 4 = .ok (.iload_n 0, 1) := by decide +kernel
theorem dX7_abs_5 : decode cX7_abs 5 = .ok (.ineg, 1) := by decide +kernel
theorem dX7_abs_6 : decode cX7_abs 6 = .ok (.goto 4, 3) := by decide +kernel
theorem dX7_abs_9 : decode cX7_abs 9 = .ok (.iload_n 0, 1) := by decide +kernel
theorem dX7_abs_10 : decode cX7_abs 10 = .ok (.ireturn, 1) := by decide +kernel
theorem dX7_tell_0 : decode cX7_tell 0 = .ok (.lload_n 1, 1) := by decide +kernel
theorem dX7_tell_1 : decode cX7_tell 1 = .ok (.lstore 6, 2) := by decide +kernel
theorem dX7_tell_3 : decode cX7_tell 3 = .ok (.lload_n 3, 1) := by decide +kernel
theorem dX7_tell_4 : decode cX7_tell 4 = .ok (.lstore 8, 2) := by decide +kernel
theorem dX7_tell_6 : decode cX7_tell 6 = .ok (.lload 8, 2) := by decide +kernel
theorem dX7_tell_8 : decode cX7_tell 8 = .ok (.lconst 0, 1) := by decide +kernel
theorem dX7_tell_9 : decode cX7_tell 9 = .ok (.lcmp, 1) := by decide +kernel
theorem dX7_tell_10 : decode cX7_tell 10 = .ok (.ifCond .eq 21, 3) := by decide +kernel
theorem dX7_tell_13 : decode cX7_tell 13 = .ok (.lload 6, 2) := by decide +kernel
theorem dX7_tell_15 : decode cX7_tell 15 = .ok (.lload 8, 2) := by decide +kernel
theorem dX7_tell_17 : decode cX7_tell 17 = .ok (.lrem, 1) := by decide +kernel
theorem dX7_tell_18 : decode cX7_tell 18 = .ok (.lstore 10, 2) := by decide +kernel
theorem dX7_tell_20 : decode cX7_tell 20 = .ok (.lload 8, 2) := by decide +kernel
theorem dX7_tell_22 : decode cX7_tell 22 = .ok (.lstore 6, 2) := by decide +kernel
theorem dX7_tell_24 : decode cX7_tell 24 = .ok (.lload 10, 2) := by decide +kernel
theorem dX7_tell_26 : decode cX7_tell 26 = .ok (.lstore 8, 2) := by decide +kernel
theorem dX7_tell_28 : decode cX7_tell 28 = .ok (.goto (-22), 3) := by decide +kernel
theorem dX7_tell_31 : decode cX7_tell 31 = .ok (.aload_n 0, 1) := by decide +kernel
theorem dX7_tell_32 : decode cX7_tell 32 = .ok (.lload_n 1, 1) := by decide +kernel
theorem dX7_tell_33 : decode cX7_tell 33 = .ok (.lload 6, 2) := by decide +kernel
theorem dX7_tell_35 : decode cX7_tell 35 = .ok (.ldiv, 1) := by decide +kernel
theorem dX7_tell_36 : decode cX7_tell 36 = .ok (.putfield 89, 3) := by decide +kernel
theorem dX7_tell_39 : decode cX7_tell 39 = .ok (.aload_n 0, 1) := by decide +kernel
theorem dX7_tell_40 : decode cX7_tell 40 = .ok (.lload_n 3, 1) := by decide +kernel
theorem dX7_tell_41 : decode cX7_tell 41 = .ok (.lload 6, 2) := by decide +kernel
theorem dX7_tell_43 : decode cX7_tell 43 = .ok (.ldiv, 1) := by decide +kernel
theorem dX7_tell_44 : decode cX7_tell 44 = .ok (.putfield 13, 3) := by decide +kernel
theorem dX7_tell_47 : decode cX7_tell 47 = .ok (.iload 5, 2) := by decide +kernel
theorem dX7_tell_49 : decode cX7_tell 49 = .ok (.ireturn, 1) := by decide +kernel
theorem dX7_isRow_0 : decode cX7_isRow 0 = .ok (.iload_n 0, 1) := by decide +kernel
theorem dX7_isRow_1 : decode cX7_isRow 1 = .ok (.iconst 0, 1) := by decide +kernel
theorem dX7_isRow_2 : decode cX7_isRow 2 = .ok (.iconst 5, 1) := by decide +kernel
theorem dX7_isRow_3 : decode cX7_isRow 3 = .ok (.invokestatic 92, 3) := by decide +kernel
theorem dX7_isRow_6 : decode cX7_isRow 6 = .ok (.ireturn, 1) := by decide +kernel
theorem dX7_isText_0 : decode cX7_isText 0 = .ok (.iload_n 0, 1) := by decide +kernel
theorem dX7_isText_1 : decode cX7_isText 1 = .ok (.iconst 0, 1) := by decide +kernel
theorem dX7_isText_2 : decode cX7_isText 2 = .ok (.iconst 3, 1) := by decide +kernel
theorem dX7_isText_3 : decode cX7_isText 3 = .ok (.invokestatic 92, 3) := by decide +kernel
theorem dX7_isText_6 : decode cX7_isText 6 = .ok (.ireturn, 1) := by decide +kernel
theorem dX7_askedRow_0 : decode cX7_askedRow 0 = .ok (.iload_n 1, 1) := by decide +kernel
theorem dX7_askedRow_1 : decode cX7_askedRow 1 = .ok (.invokestatic 96, 3) := by decide +kernel
theorem dX7_askedRow_4 : decode cX7_askedRow 4 = .ok (.ifCond .ne 7, 3) := by decide +kernel
theorem dX7_askedRow_7 : decode cX7_askedRow 7 = .ok (.iconst (-1), 1) := by decide +kernel
theorem dX7_askedRow_8 : decode cX7_askedRow 8 = .ok (.goto 21, 3) := by decide +kernel
theorem dX7_askedRow_11 : decode cX7_askedRow 11 = .ok (.aload_n 0, 1) := by decide +kernel
theorem dX7_askedRow_12 : decode cX7_askedRow 12 = .ok (.getfield 17, 3) := by decide +kernel
theorem dX7_askedRow_15 : decode cX7_askedRow 15 = .ok (.iload_n 1, 1) := by decide +kernel
theorem dX7_askedRow_16 : decode cX7_askedRow 16 = .ok (.iaload, 1) := by decide +kernel
theorem dX7_askedRow_17 : decode cX7_askedRow 17 = .ok (.ifCond .ge 11, 3) := by decide +kernel
theorem dX7_askedRow_20 : decode cX7_askedRow 20 = .ok (.aload_n 0, 1) := by decide +kernel
theorem dX7_askedRow_21 : decode cX7_askedRow 21 = .ok (.iconst 1, 1) := by decide +kernel
theorem dX7_askedRow_22 : decode cX7_askedRow 22 = .ok (.invokevirtual 100, 3) := by decide +kernel
theorem dX7_askedRow_25 : decode cX7_askedRow 25 = .ok (.goto 4, 3) := by decide +kernel
theorem dX7_askedRow_28 : decode cX7_askedRow 28 = .ok (.iconst 0, 1) := by decide +kernel
theorem dX7_askedRow_29 : decode cX7_askedRow 29 = .ok (.ireturn, 1) := by decide +kernel
theorem dX7_askedText_0 : decode cX7_askedText 0 = .ok (.iload_n 1, 1) := by decide +kernel
theorem dX7_askedText_1 : decode cX7_askedText 1 = .ok (.invokestatic 104, 3) := by decide +kernel
theorem dX7_askedText_4 : decode cX7_askedText 4 = .ok (.ifCond .ne 7, 3) := by decide +kernel
theorem dX7_askedText_7 : decode cX7_askedText 7 = .ok (.iconst (-1), 1) := by decide +kernel
theorem dX7_askedText_8 : decode cX7_askedText 8 = .ok (.goto 21, 3) := by decide +kernel
theorem dX7_askedText_11 : decode cX7_askedText 11 = .ok (.aload_n 0, 1) := by decide +kernel
theorem dX7_askedText_12 : decode cX7_askedText 12 = .ok (.getfield 26, 3) := by decide +kernel
theorem dX7_askedText_15 : decode cX7_askedText 15 = .ok (.iload_n 1, 1) := by decide +kernel
theorem dX7_askedText_16 : decode cX7_askedText 16 = .ok (.iaload, 1) := by decide +kernel
theorem dX7_askedText_17 : decode cX7_askedText 17 = .ok (.ifCond .ge 11, 3) := by decide +kernel
theorem dX7_askedText_20 : decode cX7_askedText 20 = .ok (.aload_n 0, 1) := by decide +kernel
theorem dX7_askedText_21 : decode cX7_askedText 21 = .ok (.iconst 1, 1) := by decide +kernel
theorem dX7_askedText_22 : decode cX7_askedText 22 = .ok (.invokevirtual 100, 3) := by decide +kernel
theorem dX7_askedText_25 : decode cX7_askedText 25 = .ok (.goto 4, 3) := by decide +kernel
theorem dX7_askedText_28 : decode cX7_askedText 28 = .ok (.iconst 0, 1) := by decide +kernel
theorem dX7_askedText_29 : decode cX7_askedText 29 = .ok (.ireturn, 1) := by decide +kernel
theorem dX7_rowAt_0 : decode cX7_rowAt 0 = .ok (.aload_n 0, 1) := by decide +kernel
theorem dX7_rowAt_1 : decode cX7_rowAt 1 = .ok (.getfield 20, 3) := by decide +kernel
theorem dX7_rowAt_4 : decode cX7_rowAt 4 = .ok (.bipush 40, 2) := by decide +kernel
theorem dX7_rowAt_6 : decode cX7_rowAt 6 = .ok (.iload_n 1, 1) := by decide +kernel
theorem dX7_rowAt_7 : decode cX7_rowAt 7 = .ok (.imul, 1) := by decide +kernel
theorem dX7_rowAt_8 : decode cX7_rowAt 8 = .ok (.iload_n 2, 1) := by decide +kernel
theorem dX7_rowAt_9 : decode cX7_rowAt 9 = .ok (.iadd, 1) := by decide +kernel
theorem dX7_rowAt_10 : decode cX7_rowAt 10 = .ok (.iaload, 1) := by decide +kernel
theorem dX7_rowAt_11 : decode cX7_rowAt 11 = .ok (.ireturn, 1) := by decide +kernel
theorem dX7_row_0 : decode cX7_row 0 = .ok (.iload_n 1, 1) := by decide +kernel
theorem dX7_row_1 : decode cX7_row 1 = .ok (.invokestatic 96, 3) := by decide +kernel
theorem dX7_row_4 : decode cX7_row 4 = .ok (.ifCond .eq 9, 3) := by decide +kernel
theorem dX7_row_7 : decode cX7_row 7 = .ok (.iload_n 2, 1) := by decide +kernel
theorem dX7_row_8 : decode cX7_row 8 = .ok (.bipush 40, 2) := by decide +kernel
theorem dX7_row_10 : decode cX7_row 10 = .ok (.if_icmp .le 5, 3) := by decide +kernel
theorem dX7_row_13 : decode cX7_row 13 = .ok (.iconst (-1), 1) := by decide +kernel
theorem dX7_row_14 : decode cX7_row 14 = .ok (.ireturn, 1) := by decide +kernel
theorem dX7_row_15 : decode cX7_row 15 = .ok (.iload_n 2, 1) := by decide +kernel
theorem dX7_row_16 : decode cX7_row 16 = .ok (.ifCond .ge 9, 3) := by decide +kernel
theorem dX7_row_19 : decode cX7_row 19 = .ok (.aload_n 0, 1) := by decide +kernel
theorem dX7_row_20 : decode cX7_row 20 = .ok (.iconst 5, 1) := by decide +kernel
theorem dX7_row_21 : decode cX7_row 21 = .ok (.invokevirtual 100, 3) := by decide +kernel
theorem dX7_row_24 : decode cX7_row 24 = .ok (.ireturn, 1) := by decide +kernel
theorem dX7_row_25 : decode cX7_row 25 = .ok (.aload_n 0, 1) := by decide +kernel
theorem dX7_row_26 : decode cX7_row 26 = .ok (.getfield 17, 3) := by decide +kernel
theorem dX7_row_29 : decode cX7_row 29 = .ok (.iload_n 1, 1) := by decide +kernel
theorem dX7_row_30 : decode cX7_row 30 = .ok (.iload_n 2, 1) := by decide +kernel
theorem dX7_row_31 : decode cX7_row 31 = .ok (.iastore, 1) := by decide +kernel
theorem dX7_row_32 : decode cX7_row 32 = .ok (.iconst 0, 1) := by decide +kernel
theorem dX7_row_33 : decode cX7_row 33 = .ok (.istore_n 3, 1) := by decide +kernel
theorem dX7_row_34 : decode cX7_row 34 = .ok (.iload_n 3, 1) := by decide +kernel
theorem dX7_row_35 : decode cX7_row 35 = .ok (.bipush 40, 2) := by decide +kernel
theorem dX7_row_37 : decode cX7_row 37 = .ok (.if_icmp .ge 21, 3) := by decide +kernel
theorem dX7_row_40 : decode cX7_row 40 = .ok (.aload_n 0, 1) := by decide +kernel
theorem dX7_row_41 : decode cX7_row 41 = .ok (.getfield 20, 3) := by decide +kernel
theorem dX7_row_44 : decode cX7_row 44 = .ok (.bipush 40, 2) := by decide +kernel
theorem dX7_row_46 : decode cX7_row 46 = .ok (.iload_n 1, 1) := by decide +kernel
theorem dX7_row_47 : decode cX7_row 47 = .ok (.imul, 1) := by decide +kernel
theorem dX7_row_48 : decode cX7_row 48 = .ok (.iload_n 3, 1) := by decide +kernel
theorem dX7_row_49 : decode cX7_row 49 = .ok (.iadd, 1) := by decide +kernel
theorem dX7_row_50 : decode cX7_row 50 = .ok (.iconst 0, 1) := by decide +kernel
theorem dX7_row_51 : decode cX7_row 51 = .ok (.iastore, 1) := by decide +kernel
theorem dX7_row_52 : decode cX7_row 52 = .ok (.iinc 3 1, 3) := by decide +kernel
theorem dX7_row_55 : decode cX7_row 55 = .ok (.goto (-21), 3) := by decide +kernel
theorem dX7_row_58 : decode cX7_row 58 = .ok (.iload_n 2, 1) := by decide +kernel
theorem dX7_row_59 : decode cX7_row 59 = .ok (.ireturn, 1) := by decide +kernel
theorem dX7_at_0 : decode cX7_at 0 = .ok (.aload_n 0, 1) := by decide +kernel
theorem dX7_at_1 : decode cX7_at 1 = .ok (.iload_n 1, 1) := by decide +kernel
theorem dX7_at_2 : decode cX7_at 2 = .ok (.invokevirtual 107, 3) := by decide +kernel
theorem dX7_at_5 : decode cX7_at 5 = .ok (.istore_n 3, 1) := by decide +kernel
theorem dX7_at_6 : decode cX7_at 6 = .ok (.iload_n 3, 1) := by decide +kernel
theorem dX7_at_7 : decode cX7_at 7 = .ok (.ifCond .ge 5, 3) := by decide +kernel
theorem dX7_at_10 : decode cX7_at 10 = .ok (.iload_n 3, 1) := by decide +kernel
theorem dX7_at_11 : decode cX7_at 11 = .ok (.ireturn, 1) := by decide +kernel
theorem dX7_at_12 : decode cX7_at 12 = .ok (.iload_n 2, 1) := by decide +kernel
theorem dX7_at_13 : decode cX7_at 13 = .ok (.iconst 0, 1) := by decide +kernel
theorem dX7_at_14 : decode cX7_at 14 = .ok (.aload_n 0, 1) := by decide +kernel
theorem dX7_at_15 : decode cX7_at 15 = .ok (.getfield 17, 3) := by decide +kernel
theorem dX7_at_18 : decode cX7_at 18 = .ok (.iload_n 1, 1) := by decide +kernel
theorem dX7_at_19 : decode cX7_at 19 = .ok (.iaload, 1) := by decide +kernel
theorem dX7_at_20 : decode cX7_at 20 = .ok (.iconst 1, 1) := by decide +kernel
theorem dX7_at_21 : decode cX7_at 21 = .ok (.isub, 1) := by decide +kernel
theorem dX7_at_22 : decode cX7_at 22 = .ok (.invokestatic 92, 3) := by decide +kernel
theorem dX7_at_25 : decode cX7_at 25 = .ok (.ifCond .eq 17, 3) := by decide +kernel
theorem dX7_at_28 : decode cX7_at 28 = .ok (.aload_n 0, 1) := by decide +kernel
theorem dX7_at_29 : decode cX7_at 29 = .ok (.aload_n 0, 1) := by decide +kernel
theorem dX7_at_30 : decode cX7_at 30 = .ok (.iload_n 1, 1) := by decide +kernel
theorem dX7_at_31 : decode cX7_at 31 = .ok (.iload_n 2, 1) := by decide +kernel
theorem dX7_at_32 : decode cX7_at 32 = .ok (.invokevirtual 110, 3) := by decide +kernel
theorem dX7_at_35 : decode cX7_at 35 = .ok (.iconst 1, 1) := by decide +kernel
theorem dX7_at_36 : decode cX7_at 36 = .ok (.invokevirtual 114, 3) := by decide +kernel
theorem dX7_at_39 : decode cX7_at 39 = .ok (.goto 8, 3) := by decide +kernel
theorem dX7_at_42 : decode cX7_at 42 = .ok (.aload_n 0, 1) := by decide +kernel
theorem dX7_at_43 : decode cX7_at 43 = .ok (.iconst 2, 1) := by decide +kernel
theorem dX7_at_44 : decode cX7_at 44 = .ok (.invokevirtual 100, 3) := by decide +kernel
theorem dX7_at_47 : decode cX7_at 47 = .ok (.ireturn, 1) := by decide +kernel
theorem dX7_lay_0 : decode cX7_lay 0 = .ok (.aload_n 0, 1) := by decide +kernel
theorem dX7_lay_1 : decode cX7_lay 1 = .ok (.iload_n 1, 1) := by decide +kernel
theorem dX7_lay_2 : decode cX7_lay 2 = .ok (.iload_n 2, 1) := by decide +kernel
theorem dX7_lay_3 : decode cX7_lay 3 = .ok (.invokevirtual 117, 3) := by decide +kernel
theorem dX7_lay_6 : decode cX7_lay 6 = .ok (.istore 4, 2) := by decide +kernel
theorem dX7_lay_8 : decode cX7_lay 8 = .ok (.iload 4, 2) := by decide +kernel
theorem dX7_lay_10 : decode cX7_lay 10 = .ok (.ifCond .ge 6, 3) := by decide +kernel
theorem dX7_lay_13 : decode cX7_lay 13 = .ok (.iload 4, 2) := by decide +kernel
theorem dX7_lay_15 : decode cX7_lay 15 = .ok (.ireturn, 1) := by decide +kernel
theorem dX7_lay_16 : decode cX7_lay 16 = .ok (.aload_n 0, 1) := by decide +kernel
theorem dX7_lay_17 : decode cX7_lay 17 = .ok (.getfield 20, 3) := by decide +kernel
theorem dX7_lay_20 : decode cX7_lay 20 = .ok (.bipush 40, 2) := by decide +kernel
theorem dX7_lay_22 : decode cX7_lay 22 = .ok (.iload_n 1, 1) := by decide +kernel
theorem dX7_lay_23 : decode cX7_lay 23 = .ok (.imul, 1) := by decide +kernel
theorem dX7_lay_24 : decode cX7_lay 24 = .ok (.iload_n 2, 1) := by decide +kernel
theorem dX7_lay_25 : decode cX7_lay 25 = .ok (.iadd, 1) := by decide +kernel
theorem dX7_lay_26 : decode cX7_lay 26 = .ok (.iload_n 3, 1) := by decide +kernel
theorem dX7_lay_27 : decode cX7_lay 27 = .ok (.iastore, 1) := by decide +kernel
theorem dX7_lay_28 : decode cX7_lay 28 = .ok (.iconst 1, 1) := by decide +kernel
theorem dX7_lay_29 : decode cX7_lay 29 = .ok (.ireturn, 1) := by decide +kernel
theorem dX7_tear_0 : decode cX7_tear 0 = .ok (.aload_n 0, 1) := by decide +kernel
theorem dX7_tear_1 : decode cX7_tear 1 = .ok (.iload_n 1, 1) := by decide +kernel
theorem dX7_tear_2 : decode cX7_tear 2 = .ok (.invokevirtual 107, 3) := by decide +kernel
theorem dX7_tear_5 : decode cX7_tear 5 = .ok (.istore_n 2, 1) := by decide +kernel
theorem dX7_tear_6 : decode cX7_tear 6 = .ok (.iload_n 2, 1) := by decide +kernel
theorem dX7_tear_7 : decode cX7_tear 7 = .ok (.ifCond .ge 5, 3) := by decide +kernel
theorem dX7_tear_10 : decode cX7_tear 10 = .ok (.iload_n 2, 1) := by decide +kernel
theorem dX7_tear_11 : decode cX7_tear 11 = .ok (.ireturn, 1) := by decide +kernel
theorem dX7_tear_12 : decode cX7_tear 12 = .ok (.aload_n 0, 1) := by decide +kernel
theorem dX7_tear_13 : decode cX7_tear 13 = .ok (.getfield 17, 3) := by decide +kernel
theorem dX7_tear_16 : decode cX7_tear 16 = .ok (.iload_n 1, 1) := by decide +kernel
theorem dX7_tear_17 : decode cX7_tear 17 = .ok (.bipush (-9), 2) := by decide +kernel
theorem dX7_tear_19 : decode cX7_tear 19 = .ok (.iastore, 1) := by decide +kernel
theorem dX7_tear_20 : decode cX7_tear 20 = .ok (.iconst 1, 1) := by decide +kernel
theorem dX7_tear_21 : decode cX7_tear 21 = .ok (.ireturn, 1) := by decide +kernel
theorem dX7_copy_0 : decode cX7_copy 0 = .ok (.iload_n 1, 1) := by decide +kernel
theorem dX7_copy_1 : decode cX7_copy 1 = .ok (.invokestatic 96, 3) := by decide +kernel
theorem dX7_copy_4 : decode cX7_copy 4 = .ok (.ifCond .eq 10, 3) := by decide +kernel
theorem dX7_copy_7 : decode cX7_copy 7 = .ok (.iload_n 3, 1) := by decide +kernel
theorem dX7_copy_8 : decode cX7_copy 8 = .ok (.invokestatic 96, 3) := by decide +kernel
theorem dX7_copy_11 : decode cX7_copy 11 = .ok (.ifCond .ne 5, 3) := by decide +kernel
theorem dX7_copy_14 : decode cX7_copy 14 = .ok (.iconst (-1), 1) := by decide +kernel
theorem dX7_copy_15 : decode cX7_copy 15 = .ok (.ireturn, 1) := by decide +kernel
theorem dX7_copy_16 : decode cX7_copy 16 = .ok (.iload 5, 2) := by decide +kernel
theorem dX7_copy_18 : decode cX7_copy 18 = .ok (.ifCond .ge 9, 3) := by decide +kernel
theorem dX7_copy_21 : decode cX7_copy 21 = .ok (.aload_n 0, 1) := by decide +kernel
theorem dX7_copy_22 : decode cX7_copy 22 = .ok (.iconst 5, 1) := by decide +kernel
theorem dX7_copy_23 : decode cX7_copy 23 = .ok (.invokevirtual 100, 3) := by decide +kernel
theorem dX7_copy_26 : decode cX7_copy 26 = .ok (.ireturn, 1) := by decide +kernel
theorem dX7_copy_27 : decode cX7_copy 27 = .ok (.aload_n 0, 1) := by decide +kernel
theorem dX7_copy_28 : decode cX7_copy 28 = .ok (.getfield 17, 3) := by decide +kernel
theorem dX7_copy_31 : decode cX7_copy 31 = .ok (.iload_n 1, 1) := by decide +kernel
theorem dX7_copy_32 : decode cX7_copy 32 = .ok (.iaload, 1) := by decide +kernel
theorem dX7_copy_33 : decode cX7_copy 33 = .ok (.ifCond .lt 12, 3) := by decide +kernel
theorem dX7_copy_36 : decode cX7_copy 36 = .ok (.aload_n 0, 1) := by decide +kernel
theorem dX7_copy_37 : decode cX7_copy 37 = .ok (.getfield 17, 3) := by decide +kernel
theorem dX7_copy_40 : decode cX7_copy 40 = .ok (.iload_n 3, 1) := by decide +kernel
theorem dX7_copy_41 : decode cX7_copy 41 = .ok (.iaload, 1) := by decide +kernel
theorem dX7_copy_42 : decode cX7_copy 42 = .ok (.ifCond .ge 9, 3) := by decide +kernel
theorem dX7_copy_45 : decode cX7_copy 45 = .ok (.aload_n 0, 1) := by decide +kernel
theorem dX7_copy_46 : decode cX7_copy 46 = .ok (.iconst 1, 1) := by decide +kernel
theorem dX7_copy_47 : decode cX7_copy 47 = .ok (.invokevirtual 100, 3) := by decide +kernel
theorem dX7_copy_50 : decode cX7_copy 50 = .ok (.ireturn, 1) := by decide +kernel
theorem dX7_copy_51 : decode cX7_copy 51 = .ok (.iload_n 2, 1) := by decide +kernel
theorem dX7_copy_52 : decode cX7_copy 52 = .ok (.ifCond .lt 43, 3) := by decide +kernel
theorem dX7_copy_55 : decode cX7_copy 55 = .ok (.iload 4, 2) := by decide +kernel
theorem dX7_copy_57 : decode cX7_copy 57 = .ok (.ifCond .lt 38, 3) := by decide +kernel
theorem dX7_copy_60 : decode cX7_copy 60 = .ok (.iload_n 2, 1) := by decide +kernel
theorem dX7_copy_61 : decode cX7_copy 61 = .ok (.i2l, 1) := by decide +kernel
theorem dX7_copy_62 : decode cX7_copy 62 = .ok (.iload 5, 2) := by decide +kernel
theorem dX7_copy_64 : decode cX7_copy 64 = .ok (.i2l, 1) := by decide +kernel
theorem dX7_copy_65 : decode cX7_copy 65 = .ok (.ladd, 1) := by decide +kernel
theorem dX7_copy_66 : decode cX7_copy 66 = .ok (.aload_n 0, 1) := by decide +kernel
theorem dX7_copy_67 : decode cX7_copy 67 = .ok (.getfield 17, 3) := by decide +kernel
theorem dX7_copy_70 : decode cX7_copy 70 = .ok (.iload_n 1, 1) := by decide +kernel
theorem dX7_copy_71 : decode cX7_copy 71 = .ok (.iaload, 1) := by decide +kernel
theorem dX7_copy_72 : decode cX7_copy 72 = .ok (.i2l, 1) := by decide +kernel
theorem dX7_copy_73 : decode cX7_copy 73 = .ok (.lcmp, 1) := by decide +kernel
theorem dX7_copy_74 : decode cX7_copy 74 = .ok (.ifCond .gt 21, 3) := by decide +kernel
theorem dX7_copy_77 : decode cX7_copy 77 = .ok (.iload 4, 2) := by decide +kernel
theorem dX7_copy_79 : decode cX7_copy 79 = .ok (.i2l, 1) := by decide +kernel
theorem dX7_copy_80 : decode cX7_copy 80 = .ok (.iload 5, 2) := by decide +kernel
theorem dX7_copy_82 : decode cX7_copy 82 = .ok (.i2l, 1) := by decide +kernel
theorem dX7_copy_83 : decode cX7_copy 83 = .ok (.ladd, 1) := by decide +kernel
theorem dX7_copy_84 : decode cX7_copy 84 = .ok (.aload_n 0, 1) := by decide +kernel
theorem dX7_copy_85 : decode cX7_copy 85 = .ok (.getfield 17, 3) := by decide +kernel
theorem dX7_copy_88 : decode cX7_copy 88 = .ok (.iload_n 3, 1) := by decide +kernel
theorem dX7_copy_89 : decode cX7_copy 89 = .ok (.iaload, 1) := by decide +kernel
theorem dX7_copy_90 : decode cX7_copy 90 = .ok (.i2l, 1) := by decide +kernel
theorem dX7_copy_91 : decode cX7_copy 91 = .ok (.lcmp, 1) := by decide +kernel
theorem dX7_copy_92 : decode cX7_copy 92 = .ok (.ifCond .le 9, 3) := by decide +kernel
theorem dX7_copy_95 : decode cX7_copy 95 = .ok (.aload_n 0, 1) := by decide +kernel
theorem dX7_copy_96 : decode cX7_copy 96 = .ok (.iconst 2, 1) := by decide +kernel
theorem dX7_copy_97 : decode cX7_copy 97 = .ok (.invokevirtual 100, 3) := by decide +kernel
theorem dX7_copy_100 : decode cX7_copy 100 = .ok (.ireturn, 1) := by decide +kernel
theorem dX7_copy_101 : decode cX7_copy 101 = .ok (.iconst 0, 1) := by decide +kernel
theorem dX7_copy_102 : decode cX7_copy 102 = .ok (.istore 6, 2) := by decide +kernel
theorem dX7_copy_104 : decode cX7_copy 104 = .ok (.iload 6, 2) := by decide +kernel
theorem dX7_copy_106 : decode cX7_copy 106 = .ok (.iload 5, 2) := by decide +kernel
theorem dX7_copy_108 : decode cX7_copy 108 = .ok (.if_icmp .ge 25, 3) := by decide +kernel
theorem dX7_copy_111 : decode cX7_copy 111 = .ok (.aload_n 0, 1) := by decide +kernel
theorem dX7_copy_112 : decode cX7_copy 112 = .ok (.getfield 23, 3) := by decide +kernel
theorem dX7_copy_115 : decode cX7_copy 115 = .ok (.iload 6, 2) := by decide +kernel
theorem dX7_copy_117 : decode cX7_copy 117 = .ok (.aload_n 0, 1) := by decide +kernel
theorem dX7_copy_118 : decode cX7_copy 118 = .ok (.iload_n 1, 1) := by decide +kernel
theorem dX7_copy_119 : decode cX7_copy 119 = .ok (.iload_n 2, 1) := by decide +kernel
theorem dX7_copy_120 : decode cX7_copy 120 = .ok (.iload 6, 2) := by decide +kernel
theorem dX7_copy_122 : decode cX7_copy 122 = .ok (.iadd, 1) := by decide +kernel
theorem dX7_copy_123 : decode cX7_copy 123 = .ok (.invokevirtual 110, 3) := by decide +kernel
theorem dX7_copy_126 : decode cX7_copy 126 = .ok (.iastore, 1) := by decide +kernel
theorem dX7_copy_127 : decode cX7_copy 127 = .ok (.iinc 6 1, 3) := by decide +kernel
theorem dX7_copy_130 : decode cX7_copy 130 = .ok (.goto (-26), 3) := by decide +kernel
theorem dX7_copy_133 : decode cX7_copy 133 = .ok (.iconst 0, 1) := by decide +kernel
theorem dX7_copy_134 : decode cX7_copy 134 = .ok (.istore 6, 2) := by decide +kernel
theorem dX7_copy_136 : decode cX7_copy 136 = .ok (.iload 6, 2) := by decide +kernel
theorem dX7_copy_138 : decode cX7_copy 138 = .ok (.iload 5, 2) := by decide +kernel
theorem dX7_copy_140 : decode cX7_copy 140 = .ok (.if_icmp .ge 31, 3) := by decide +kernel
theorem dX7_copy_143 : decode cX7_copy 143 = .ok (.aload_n 0, 1) := by decide +kernel
theorem dX7_copy_144 : decode cX7_copy 144 = .ok (.getfield 20, 3) := by decide +kernel
theorem dX7_copy_147 : decode cX7_copy 147 = .ok (.bipush 40, 2) := by decide +kernel
theorem dX7_copy_149 : decode cX7_copy 149 = .ok (.iload_n 3, 1) := by decide +kernel
theorem dX7_copy_150 : decode cX7_copy 150 = .ok (.imul, 1) := by decide +kernel
theorem dX7_copy_151 : decode cX7_copy 151 = .ok (.iload 4, 2) := by decide +kernel
theorem dX7_copy_153 : decode cX7_copy 153 = .ok (.iadd, 1) := by decide +kernel
theorem dX7_copy_154 : decode cX7_copy 154 = .ok (.iload 6, 2) := by decide +kernel
theorem dX7_copy_156 : decode cX7_copy 156 = .ok (.iadd, 1) := by decide +kernel
theorem dX7_copy_157 : decode cX7_copy 157 = .ok (.aload_n 0, 1) := by decide +kernel
theorem dX7_copy_158 : decode cX7_copy 158 = .ok (.getfield 23, 3) := by decide +kernel
theorem dX7_copy_161 : decode cX7_copy 161 = .ok (.iload 6, 2) := by decide +kernel
theorem dX7_copy_163 : decode cX7_copy 163 = .ok (.iaload, 1) := by decide +kernel
theorem dX7_copy_164 : decode cX7_copy 164 = .ok (.iastore, 1) := by decide +kernel
theorem dX7_copy_165 : decode cX7_copy 165 = .ok (.iinc 6 1, 3) := by decide +kernel
theorem dX7_copy_168 : decode cX7_copy 168 = .ok (.goto (-32), 3) := by decide +kernel
theorem dX7_copy_171 : decode cX7_copy 171 = .ok (.iconst 1, 1) := by decide +kernel
theorem dX7_copy_172 : decode cX7_copy 172 = .ok (.ireturn, 1) := by decide +kernel
theorem dX7_mean_0 : decode cX7_mean 0 = .ok (.aload_n 0, 1) := by decide +kernel
theorem dX7_mean_1 : decode cX7_mean 1 = .ok (.iload_n 1, 1) := by decide +kernel
theorem dX7_mean_2 : decode cX7_mean 2 = .ok (.invokevirtual 107, 3) := by decide +kernel
theorem dX7_mean_5 : decode cX7_mean 5 = .ok (.istore_n 2, 1) := by decide +kernel
theorem dX7_mean_6 : decode cX7_mean 6 = .ok (.iload_n 2, 1) := by decide +kernel
theorem dX7_mean_7 : decode cX7_mean 7 = .ok (.ifCond .ge 5, 3) := by decide +kernel
theorem dX7_mean_10 : decode cX7_mean 10 = .ok (.iload_n 2, 1) := by decide +kernel
theorem dX7_mean_11 : decode cX7_mean 11 = .ok (.ireturn, 1) := by decide +kernel
theorem dX7_mean_12 : decode cX7_mean 12 = .ok (.lconst 0, 1) := by decide +kernel
theorem dX7_mean_13 : decode cX7_mean 13 = .ok (.lstore_n 3, 1) := by decide +kernel
theorem dX7_mean_14 : decode cX7_mean 14 = .ok (.iconst 0, 1) := by decide +kernel
theorem dX7_mean_15 : decode cX7_mean 15 = .ok (.istore 5, 2) := by decide +kernel
theorem dX7_mean_17 : decode cX7_mean 17 = .ok (.iload 5, 2) := by decide +kernel
theorem dX7_mean_19 : decode cX7_mean 19 = .ok (.aload_n 0, 1) := by decide +kernel
theorem dX7_mean_20 : decode cX7_mean 20 = .ok (.getfield 17, 3) := by decide +kernel
theorem dX7_mean_23 : decode cX7_mean 23 = .ok (.iload_n 1, 1) := by decide +kernel
theorem dX7_mean_24 : decode cX7_mean 24 = .ok (.iaload, 1) := by decide +kernel
theorem dX7_mean_25 : decode cX7_mean 25 = .ok (.if_icmp .ge 20, 3) := by decide +kernel
theorem dX7_mean_28 : decode cX7_mean 28 = .ok (.lload_n 3, 1) := by decide +kernel
theorem dX7_mean_29 : decode cX7_mean 29 = .ok (.aload_n 0, 1) := by decide +kernel
theorem dX7_mean_30 : decode cX7_mean 30 = .ok (.iload_n 1, 1) := by decide +kernel
theorem dX7_mean_31 : decode cX7_mean 31 = .ok (.iload 5, 2) := by decide +kernel
theorem dX7_mean_33 : decode cX7_mean 33 = .ok (.invokevirtual 110, 3) := by decide +kernel
theorem dX7_mean_36 : decode cX7_mean 36 = .ok (.i2l, 1) := by decide +kernel
theorem dX7_mean_37 : decode cX7_mean 37 = .ok (.ladd, 1) := by decide +kernel
theorem dX7_mean_38 : decode cX7_mean 38 = .ok (.lstore_n 3, 1) := by decide +kernel
theorem dX7_mean_39 : decode cX7_mean 39 = .ok (.iinc 5 1, 3) := by decide +kernel
theorem dX7_mean_42 : decode cX7_mean 42 = .ok (.goto (-25), 3) := by decide +kernel
theorem dX7_mean_45 : decode cX7_mean 45 = .ok (.aload_n 0, 1) := by decide +kernel
theorem dX7_mean_46 : decode cX7_mean 46 = .ok (.getfield 17, 3) := by decide +kernel
theorem dX7_mean_49 : decode cX7_mean 49 = .ok (.iload_n 1, 1) := by decide +kernel
theorem dX7_mean_50 : decode cX7_mean 50 = .ok (.iaload, 1) := by decide +kernel
theorem dX7_mean_51 : decode cX7_mean 51 = .ok (.ifCond .ne 11, 3) := by decide +kernel
theorem dX7_mean_54 : decode cX7_mean 54 = .ok (.aload_n 0, 1) := by decide +kernel
theorem dX7_mean_55 : decode cX7_mean 55 = .ok (.iconst 4, 1) := by decide +kernel
theorem dX7_mean_56 : decode cX7_mean 56 = .ok (.invokevirtual 100, 3) := by decide +kernel
theorem dX7_mean_59 : decode cX7_mean 59 = .ok (.goto 18, 3) := by decide +kernel
theorem dX7_mean_62 : decode cX7_mean 62 = .ok (.aload_n 0, 1) := by decide +kernel
theorem dX7_mean_63 : decode cX7_mean 63 = .ok (.lload_n 3, 1) := by decide +kernel
theorem dX7_mean_64 : decode cX7_mean 64 = .ok (.aload_n 0, 1) := by decide +kernel
theorem dX7_mean_65 : decode cX7_mean 65 = .ok (.getfield 17, 3) := by decide +kernel
theorem dX7_mean_68 : decode cX7_mean 68 = .ok (.iload_n 1, 1) := by decide +kernel
theorem dX7_mean_69 : decode cX7_mean 69 = .ok (.iaload, 1) := by decide +kernel
theorem dX7_mean_70 : decode cX7_mean 70 = .ok (.i2l, 1) := by decide +kernel
theorem dX7_mean_71 : decode cX7_mean 71 = .ok (.ldiv, 1) := by decide +kernel
theorem dX7_mean_72 : decode cX7_mean 72 = .ok (.l2i, 1) := by decide +kernel
theorem dX7_mean_73 : decode cX7_mean 73 = .ok (.iconst 1, 1) := by decide +kernel
theorem dX7_mean_74 : decode cX7_mean 74 = .ok (.invokevirtual 114, 3) := by decide +kernel
theorem dX7_mean_77 : decode cX7_mean 77 = .ok (.ireturn, 1) := by decide +kernel
theorem dX7_text_0 : decode cX7_text 0 = .ok (.iload_n 1, 1) := by decide +kernel
theorem dX7_text_1 : decode cX7_text 1 = .ok (.invokestatic 104, 3) := by decide +kernel
theorem dX7_text_4 : decode cX7_text 4 = .ok (.ifCond .eq 9, 3) := by decide +kernel
theorem dX7_text_7 : decode cX7_text 7 = .ok (.iload_n 2, 1) := by decide +kernel
theorem dX7_text_8 : decode cX7_text 8 = .ok (.bipush 60, 2) := by decide +kernel
theorem dX7_text_10 : decode cX7_text 10 = .ok (.if_icmp .le 5, 3) := by decide +kernel
theorem dX7_text_13 : decode cX7_text 13 = .ok (.iconst (-1), 1) := by decide +kernel
theorem dX7_text_14 : decode cX7_text 14 = .ok (.ireturn, 1) := by decide +kernel
theorem dX7_text_15 : decode cX7_text 15 = .ok (.iload_n 2, 1) := by decide +kernel
theorem dX7_text_16 : decode cX7_text 16 = .ok (.ifCond .ge 9, 3) := by decide +kernel
theorem dX7_text_19 : decode cX7_text 19 = .ok (.aload_n 0, 1) := by decide +kernel
theorem dX7_text_20 : decode cX7_text 20 = .ok (.iconst 5, 1) := by decide +kernel
theorem dX7_text_21 : decode cX7_text 21 = .ok (.invokevirtual 100, 3) := by decide +kernel
theorem dX7_text_24 : decode cX7_text 24 = .ok (.ireturn, 1) := by decide +kernel
theorem dX7_text_25 : decode cX7_text 25 = .ok (.aload_n 0, 1) := by decide +kernel
theorem dX7_text_26 : decode cX7_text 26 = .ok (.getfield 26, 3) := by decide +kernel
theorem dX7_text_29 : decode cX7_text 29 = .ok (.iload_n 1, 1) := by decide +kernel
theorem dX7_text_30 : decode cX7_text 30 = .ok (.iload_n 2, 1) := by decide +kernel
theorem dX7_text_31 : decode cX7_text 31 = .ok (.iastore, 1) := by decide +kernel
theorem dX7_text_32 : decode cX7_text 32 = .ok (.iconst 0, 1) := by decide +kernel
theorem dX7_text_33 : decode cX7_text 33 = .ok (.istore_n 3, 1) := by decide +kernel
theorem dX7_text_34 : decode cX7_text 34 = .ok (.iload_n 3, 1) := by decide +kernel
theorem dX7_text_35 : decode cX7_text 35 = .ok (.bipush 60, 2) := by decide +kernel
theorem dX7_text_37 : decode cX7_text 37 = .ok (.if_icmp .ge 22, 3) := by decide +kernel
theorem dX7_text_40 : decode cX7_text 40 = .ok (.aload_n 0, 1) := by decide +kernel
theorem dX7_text_41 : decode cX7_text 41 = .ok (.getfield 29, 3) := by decide +kernel
theorem dX7_text_44 : decode cX7_text 44 = .ok (.bipush 60, 2) := by decide +kernel
theorem dX7_text_46 : decode cX7_text 46 = .ok (.iload_n 1, 1) := by decide +kernel
theorem dX7_text_47 : decode cX7_text 47 = .ok (.imul, 1) := by decide +kernel
theorem dX7_text_48 : decode cX7_text 48 = .ok (.iload_n 3, 1) := by decide +kernel
theorem dX7_text_49 : decode cX7_text 49 = .ok (.iadd, 1) := by decide +kernel
theorem dX7_text_50 : decode cX7_text 50 = .ok (.bipush 32, 2) := by decide +kernel
theorem dX7_text_52 : decode cX7_text 52 = .ok (.iastore, 1) := by decide +kernel
theorem dX7_text_53 : decode cX7_text 53 = .ok (.iinc 3 1, 3) := by decide +kernel
theorem dX7_text_56 : decode cX7_text 56 = .ok (.goto (-22), 3) := by decide +kernel
theorem dX7_text_59 : decode cX7_text 59 = .ok (.iload_n 2, 1) := by decide +kernel
theorem dX7_text_60 : decode cX7_text 60 = .ok (.ireturn, 1) := by decide +kernel
theorem dX7_put_0 : decode cX7_put 0 = .ok (.aload_n 0, 1) := by decide +kernel
theorem dX7_put_1 : decode cX7_put 1 = .ok (.iload_n 1, 1) := by decide +kernel
theorem dX7_put_2 : decode cX7_put 2 = .ok (.invokevirtual 120, 3) := by decide +kernel
theorem dX7_put_5 : decode cX7_put 5 = .ok (.istore 4, 2) := by decide +kernel
theorem dX7_put_7 : decode cX7_put 7 = .ok (.iload 4, 2) := by decide +kernel
theorem dX7_put_9 : decode cX7_put 9 = .ok (.ifCond .ge 6, 3) := by decide +kernel
theorem dX7_put_12 : decode cX7_put 12 = .ok (.iload 4, 2) := by decide +kernel
theorem dX7_put_14 : decode cX7_put 14 = .ok (.ireturn, 1) := by decide +kernel
theorem dX7_put_15 : decode cX7_put 15 = .ok (.iload_n 2, 1) := by decide +kernel
theorem dX7_put_16 : decode cX7_put 16 = .ok (.iconst 0, 1) := by decide +kernel
theorem dX7_put_17 : decode cX7_put 17 = .ok (.aload_n 0, 1) := by decide +kernel
theorem dX7_put_18 : decode cX7_put 18 = .ok (.getfield 26, 3) := by decide +kernel
theorem dX7_put_21 : decode cX7_put 21 = .ok (.iload_n 1, 1) := by decide +kernel
theorem dX7_put_22 : decode cX7_put 22 = .ok (.iaload, 1) := by decide +kernel
theorem dX7_put_23 : decode cX7_put 23 = .ok (.iconst 1, 1) := by decide +kernel
theorem dX7_put_24 : decode cX7_put 24 = .ok (.isub, 1) := by decide +kernel
theorem dX7_put_25 : decode cX7_put 25 = .ok (.invokestatic 92, 3) := by decide +kernel
theorem dX7_put_28 : decode cX7_put 28 = .ok (.ifCond .ne 9, 3) := by decide +kernel
theorem dX7_put_31 : decode cX7_put 31 = .ok (.aload_n 0, 1) := by decide +kernel
theorem dX7_put_32 : decode cX7_put 32 = .ok (.iconst 2, 1) := by decide +kernel
theorem dX7_put_33 : decode cX7_put 33 = .ok (.invokevirtual 100, 3) := by decide +kernel
theorem dX7_put_36 : decode cX7_put 36 = .ok (.ireturn, 1) := by decide +kernel
theorem dX7_put_37 : decode cX7_put 37 = .ok (.aload_n 0, 1) := by decide +kernel
theorem dX7_put_38 : decode cX7_put 38 = .ok (.getfield 29, 3) := by decide +kernel
theorem dX7_put_41 : decode cX7_put 41 = .ok (.bipush 60, 2) := by decide +kernel
theorem dX7_put_43 : decode cX7_put 43 = .ok (.iload_n 1, 1) := by decide +kernel
theorem dX7_put_44 : decode cX7_put 44 = .ok (.imul, 1) := by decide +kernel
theorem dX7_put_45 : decode cX7_put 45 = .ok (.iload_n 2, 1) := by decide +kernel
theorem dX7_put_46 : decode cX7_put 46 = .ok (.iadd, 1) := by decide +kernel
theorem dX7_put_47 : decode cX7_put 47 = .ok (.iaload, 1) := by decide +kernel
theorem dX7_put_48 : decode cX7_put 48 = .ok (.istore 5, 2) := by decide +kernel
theorem dX7_put_50 : decode cX7_put 50 = .ok (.aload_n 0, 1) := by decide +kernel
theorem dX7_put_51 : decode cX7_put 51 = .ok (.getfield 29, 3) := by decide +kernel
theorem dX7_put_54 : decode cX7_put 54 = .ok (.bipush 60, 2) := by decide +kernel
theorem dX7_put_56 : decode cX7_put 56 = .ok (.iload_n 1, 1) := by decide +kernel
theorem dX7_put_57 : decode cX7_put 57 = .ok (.imul, 1) := by decide +kernel
theorem dX7_put_58 : decode cX7_put 58 = .ok (.iload_n 2, 1) := by decide +kernel
theorem dX7_put_59 : decode cX7_put 59 = .ok (.iadd, 1) := by decide +kernel
theorem dX7_put_60 : decode cX7_put 60 = .ok (.iload_n 3, 1) := by decide +kernel
theorem dX7_put_61 : decode cX7_put 61 = .ok (.i2b, 1) := by decide +kernel
theorem dX7_put_62 : decode cX7_put 62 = .ok (.iastore, 1) := by decide +kernel
theorem dX7_put_63 : decode cX7_put 63 = .ok (.iload 5, 2) := by decide +kernel
theorem dX7_put_65 : decode cX7_put 65 = .ok (.sipush 1000, 3) := by decide +kernel
theorem dX7_put_68 : decode cX7_put 68 = .ok (.iadd, 1) := by decide +kernel
theorem dX7_put_69 : decode cX7_put 69 = .ok (.ireturn, 1) := by decide +kernel
theorem dX7_isCover_0 : decode cX7_isCover 0 = .ok (.iload_n 0, 1) := by decide +kernel
theorem dX7_isCover_1 : decode cX7_isCover 1 = .ok (.iconst 0, 1) := by decide +kernel
theorem dX7_isCover_2 : decode cX7_isCover 2 = .ok (.iconst 5, 1) := by decide +kernel
theorem dX7_isCover_3 : decode cX7_isCover 3 = .ok (.invokestatic 92, 3) := by decide +kernel
theorem dX7_isCover_6 : decode cX7_isCover 6 = .ok (.ireturn, 1) := by decide +kernel
theorem dX7_askedCover_0 : decode cX7_askedCover 0 = .ok (.iload_n 1, 1) := by decide +kernel
theorem dX7_askedCover_1 : decode cX7_askedCover 1 = .ok (.invokestatic 123, 3) := by decide +kernel
theorem dX7_askedCover_4 : decode cX7_askedCover 4 = .ok (.ifCond .ne 7, 3) := by decide +kernel
theorem dX7_askedCover_7 : decode cX7_askedCover 7 = .ok (.iconst (-1), 1) := by decide +kernel
theorem dX7_askedCover_8 : decode cX7_askedCover 8 = .ok (.goto 21, 3) := by decide +kernel
theorem dX7_askedCover_11 : decode cX7_askedCover 11 = .ok (.aload_n 0, 1) := by decide +kernel
theorem dX7_askedCover_12 : decode cX7_askedCover 12 = .ok (.getfield 32, 3) := by decide +kernel
theorem dX7_askedCover_15 : decode cX7_askedCover 15 = .ok (.iload_n 1, 1) := by decide +kernel
theorem dX7_askedCover_16 : decode cX7_askedCover 16 = .ok (.iaload, 1) := by decide +kernel
theorem dX7_askedCover_17 : decode cX7_askedCover 17 = .ok (.ifCond .ne 11, 3) := by decide +kernel
theorem dX7_askedCover_20 : decode cX7_askedCover 20 = .ok (.aload_n 0, 1) := by decide +kernel
theorem dX7_askedCover_21 : decode cX7_askedCover 21 = .ok (.iconst 1, 1) := by decide +kernel
theorem dX7_askedCover_22 : decode cX7_askedCover 22 = .ok (.invokevirtual 100, 3) := by decide +kernel
theorem dX7_askedCover_25 : decode cX7_askedCover 25 = .ok (.goto 4, 3) := by decide +kernel
theorem dX7_askedCover_28 : decode cX7_askedCover 28 = .ok (.iconst 0, 1) := by decide +kernel
theorem dX7_askedCover_29 : decode cX7_askedCover 29 = .ok (.ireturn, 1) := by decide +kernel
theorem dX7_dotAt_0 : decode cX7_dotAt 0 = .ok (.aload_n 0, 1) := by decide +kernel
theorem dX7_dotAt_1 : decode cX7_dotAt 1 = .ok (.getfield 38, 3) := by decide +kernel
theorem dX7_dotAt_4 : decode cX7_dotAt 4 = .ok (.bipush 40, 2) := by decide +kernel
theorem dX7_dotAt_6 : decode cX7_dotAt 6 = .ok (.iload_n 1, 1) := by decide +kernel
theorem dX7_dotAt_7 : decode cX7_dotAt 7 = .ok (.imul, 1) := by decide +kernel
theorem dX7_dotAt_8 : decode cX7_dotAt 8 = .ok (.iload_n 2, 1) := by decide +kernel
theorem dX7_dotAt_9 : decode cX7_dotAt 9 = .ok (.iadd, 1) := by decide +kernel
theorem dX7_dotAt_10 : decode cX7_dotAt 10 = .ok (.iaload, 1) := by decide +kernel
theorem dX7_dotAt_11 : decode cX7_dotAt 11 = .ok (.ireturn, 1) := by decide +kernel
theorem dX7_askedDots_0 : decode cX7_askedDots 0 = .ok (.aload_n 0, 1) := by decide +kernel
theorem dX7_askedDots_1 : decode cX7_askedDots 1 = .ok (.getfield 17, 3) := by decide +kernel
theorem dX7_askedDots_4 : decode cX7_askedDots 4 = .ok (.iload_n 1, 1) := by decide +kernel
theorem dX7_askedDots_5 : decode cX7_askedDots 5 = .ok (.iaload, 1) := by decide +kernel
theorem dX7_askedDots_6 : decode cX7_askedDots 6 = .ok (.ifCond .ge 9, 3) := by decide +kernel
theorem dX7_askedDots_9 : decode cX7_askedDots 9 = .ok (.aload_n 0, 1) := by decide +kernel
theorem dX7_askedDots_10 : decode cX7_askedDots 10 = .ok (.iconst 1, 1) := by decide +kernel
theorem dX7_askedDots_11 : decode cX7_askedDots 11 = .ok (.invokevirtual 100, 3) := by decide +kernel
theorem dX7_askedDots_14 : decode cX7_askedDots 14 = .ok (.ireturn, 1) := by decide +kernel
theorem dX7_askedDots_15 : decode cX7_askedDots 15 = .ok (.aload_n 0, 1) := by decide +kernel
theorem dX7_askedDots_16 : decode cX7_askedDots 16 = .ok (.getfield 17, 3) := by decide +kernel
theorem dX7_askedDots_19 : decode cX7_askedDots 19 = .ok (.iload_n 1, 1) := by decide +kernel
theorem dX7_askedDots_20 : decode cX7_askedDots 20 = .ok (.iaload, 1) := by decide +kernel
theorem dX7_askedDots_21 : decode cX7_askedDots 21 = .ok (.ifCond .ne 9, 3) := by decide +kernel
theorem dX7_askedDots_24 : decode cX7_askedDots 24 = .ok (.aload_n 0, 1) := by decide +kernel
theorem dX7_askedDots_25 : decode cX7_askedDots 25 = .ok (.iconst 5, 1) := by decide +kernel
theorem dX7_askedDots_26 : decode cX7_askedDots 26 = .ok (.invokevirtual 100, 3) := by decide +kernel
theorem dX7_askedDots_29 : decode cX7_askedDots 29 = .ok (.ireturn, 1) := by decide +kernel
theorem dX7_askedDots_30 : decode cX7_askedDots 30 = .ok (.iconst 1, 1) := by decide +kernel
theorem dX7_askedDots_31 : decode cX7_askedDots 31 = .ok (.istore_n 3, 1) := by decide +kernel
theorem dX7_askedDots_32 : decode cX7_askedDots 32 = .ok (.iconst 0, 1) := by decide +kernel
theorem dX7_askedDots_33 : decode cX7_askedDots 33 = .ok (.istore 4, 2) := by decide +kernel
theorem dX7_askedDots_35 : decode cX7_askedDots 35 = .ok (.iload 4, 2) := by decide +kernel
theorem dX7_askedDots_37 : decode cX7_askedDots 37 = .ok (.aload_n 0, 1) := by decide +kernel
theorem dX7_askedDots_38 : decode cX7_askedDots 38 = .ok (.getfield 17, 3) := by decide +kernel
theorem dX7_askedDots_41 : decode cX7_askedDots 41 = .ok (.iload_n 1, 1) := by decide +kernel
theorem dX7_askedDots_42 : decode cX7_askedDots 42 = .ok (.iaload, 1) := by decide +kernel
theorem dX7_askedDots_43 : decode cX7_askedDots 43 = .ok (.if_icmp .ge 83, 3) := by decide +kernel
theorem dX7_askedDots_46 : decode cX7_askedDots 46 = .ok (.iload_n 3, 1) := by decide +kernel
theorem dX7_askedDots_47 : decode cX7_askedDots 47 = .ok (.ifCond .eq 24, 3) := by decide +kernel
theorem dX7_askedDots_50 : decode cX7_askedDots 50 = .ok (.aload_n 0, 1) := by decide +kernel
theorem dX7_askedDots_51 : decode cX7_askedDots 51 = .ok (.iload_n 1, 1) := by decide +kernel
theorem dX7_askedDots_52 : decode cX7_askedDots 52 = .ok (.iload 4, 2) := by decide +kernel
theorem dX7_askedDots_54 : decode cX7_askedDots 54 = .ok (.invokevirtual 110, 3) := by decide +kernel
theorem dX7_askedDots_57 : decode cX7_askedDots 57 = .ok (.iconst 0, 1) := by decide +kernel
theorem dX7_askedDots_58 : decode cX7_askedDots 58 = .ok (.sipush 255, 3) := by decide +kernel
theorem dX7_askedDots_61 : decode cX7_askedDots 61 = .ok (.invokestatic 92, 3) := by decide +kernel
theorem dX7_askedDots_64 : decode cX7_askedDots 64 = .ok (.ifCond .eq 7, 3) := by decide +kernel
theorem dX7_askedDots_67 : decode cX7_askedDots 67 = .ok (.iconst 1, 1) := by decide +kernel
theorem dX7_askedDots_68 : decode cX7_askedDots 68 = .ok (.goto 4, 3) := by decide +kernel
theorem dX7_askedDots_71 : decode cX7_askedDots 71 = .ok (.iconst 0, 1) := by decide +kernel
theorem dX7_askedDots_72 : decode cX7_askedDots 72 = .ok (.istore_n 3, 1) := by decide +kernel
theorem dX7_askedDots_73 : decode cX7_askedDots 73 = .ok (.iconst 0, 1) := by decide +kernel
theorem dX7_askedDots_74 : decode cX7_askedDots 74 = .ok (.istore 5, 2) := by decide +kernel
theorem dX7_askedDots_76 : decode cX7_askedDots 76 = .ok (.iload 5, 2) := by decide +kernel
theorem dX7_askedDots_78 : decode cX7_askedDots 78 = .ok (.iload 4, 2) := by decide +kernel
theorem dX7_askedDots_80 : decode cX7_askedDots 80 = .ok (.if_icmp .ge 40, 3) := by decide +kernel
theorem dX7_askedDots_83 : decode cX7_askedDots 83 = .ok (.iload_n 2, 1) := by decide +kernel
theorem dX7_askedDots_84 : decode cX7_askedDots 84 = .ok (.ifCond .eq 36, 3) := by decide +kernel
theorem dX7_askedDots_87 : decode cX7_askedDots 87 = .ok (.iload_n 3, 1) := by decide +kernel
theorem dX7_askedDots_88 : decode cX7_askedDots 88 = .ok (.ifCond .eq 24, 3) := by decide +kernel
theorem dX7_askedDots_91 : decode cX7_askedDots 91 = .ok (.aload_n 0, 1) := by decide +kernel
theorem dX7_askedDots_92 : decode cX7_askedDots 92 = .ok (.iload_n 1, 1) := by decide +kernel
theorem dX7_askedDots_93 : decode cX7_askedDots 93 = .ok (.iload 4, 2) := by decide +kernel
theorem dX7_askedDots_95 : decode cX7_askedDots 95 = .ok (.invokevirtual 110, 3) := by decide +kernel
theorem dX7_askedDots_98 : decode cX7_askedDots 98 = .ok (.aload_n 0, 1) := by decide +kernel
theorem dX7_askedDots_99 : decode cX7_askedDots 99 = .ok (.iload_n 1, 1) := by decide +kernel
theorem dX7_askedDots_100 : decode cX7_askedDots 100 = .ok (.iload 5, 2) := by decide +kernel
theorem dX7_askedDots_102 : decode cX7_askedDots 102 = .ok (.invokevirtual 110, 3) := by decide +kernel
theorem dX7_askedDots_105 : decode cX7_askedDots 105 = .ok (.if_icmp .eq 7, 3) := by decide +kernel
theorem dX7_askedDots_108 : decode cX7_askedDots 108 = .ok (.iconst 1, 1) := by decide +kernel
theorem dX7_askedDots_109 : decode cX7_askedDots 109 = .ok (.goto 4, 3) := by decide +kernel
theorem dX7_askedDots_112 : decode cX7_askedDots 112 = .ok (.iconst 0, 1) := by decide +kernel
theorem dX7_askedDots_113 : decode cX7_askedDots 113 = .ok (.istore_n 3, 1) := by decide +kernel
theorem dX7_askedDots_114 : decode cX7_askedDots 114 = .ok (.iinc 5 1, 3) := by decide +kernel
theorem dX7_askedDots_117 : decode cX7_askedDots 117 = .ok (.goto (-41), 3) := by decide +kernel
theorem dX7_askedDots_120 : decode cX7_askedDots 120 = .ok (.iinc 4 1, 3) := by decide +kernel
theorem dX7_askedDots_123 : decode cX7_askedDots 123 = .ok (.goto (-88), 3) := by decide +kernel
theorem dX7_askedDots_126 : decode cX7_askedDots 126 = .ok (.iload_n 3, 1) := by decide +kernel
theorem dX7_askedDots_127 : decode cX7_askedDots 127 = .ok (.ifCond .eq 7, 3) := by decide +kernel
theorem dX7_askedDots_130 : decode cX7_askedDots 130 = .ok (.iconst 0, 1) := by decide +kernel
