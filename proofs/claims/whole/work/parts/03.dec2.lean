theorem dX11_trace_11 : decode cX11_trace 11 = .ok (.aload_n 0, 1) := by decide +kernel
theorem dX11_trace_12 : decode cX11_trace 12 = .ok (.getfield 54, 3) := by decide +kernel
theorem dX11_trace_15 : decode cX11_trace 15 = .ok (.invokevirtual 245, 3) := by decide +kernel
theorem dX11_trace_18 : decode cX11_trace 18 = .ok (.if_icmp .ge 14, 3) := by decide +kernel
theorem dX11_trace_21 : decode cX11_trace 21 = .ok (.aload_n 0, 1) := by decide +kernel
theorem dX11_trace_22 : decode cX11_trace 22 = .ok (.getfield 54, 3) := by decide +kernel
theorem dX11_trace_25 : decode cX11_trace 25 = .ok (.iload_n 1, 1) := by decide +kernel
theorem dX11_trace_26 : decode cX11_trace 26 = .ok (.invokevirtual 248, 3) := by decide +kernel
theorem dX11_trace_29 : decode cX11_trace 29 = .ok (.goto 4, 3) := by decide +kernel
theorem dX11_trace_32 : decode cX11_trace 32 = .ok (.iconst (-1), 1) := by decide +kernel
theorem dX11_trace_33 : decode cX11_trace 33 = .ok (.ireturn, 1) := by decide +kernel
theorem dX11_taken_0 : decode cX11_taken 0 = .ok (.iload_n 2, 1) := by decide +kernel
theorem dX11_taken_1 : decode cX11_taken 1 = .ok (.ifCond .lt 9, 3) := by decide +kernel
theorem dX11_taken_4 : decode cX11_taken 4 = .ok (.iload_n 2, 1) := by decide +kernel
theorem dX11_taken_5 : decode cX11_taken 5 = .ok (.bipush 7, 2) := by decide +kernel
theorem dX11_taken_7 : decode cX11_taken 7 = .ok (.if_icmp .lt 6, 3) := by decide +kernel
theorem dX11_taken_10 : decode cX11_taken 10 = .ok (.bipush (-2), 2) := by decide +kernel
theorem dX11_taken_12 : decode cX11_taken 12 = .ok (.ireturn, 1) := by decide +kernel
theorem dX11_taken_13 : decode cX11_taken 13 = .ok (.aload_n 0, 1) := by decide +kernel
theorem dX11_taken_14 : decode cX11_taken 14 = .ok (.iload_n 1, 1) := by decide +kernel
theorem dX11_taken_15 : decode cX11_taken 15 = .ok (.invokevirtual 112, 3) := by decide +kernel
theorem dX11_taken_18 : decode cX11_taken 18 = .ok (.ifCond .ne 6, 3) := by decide +kernel
theorem dX11_taken_21 : decode cX11_taken 21 = .ok (.bipush (-11), 2) := by decide +kernel
theorem dX11_taken_23 : decode cX11_taken 23 = .ok (.ireturn, 1) := by decide +kernel
theorem dX11_taken_24 : decode cX11_taken 24 = .ok (.aload_n 0, 1) := by decide +kernel
theorem dX11_taken_25 : decode cX11_taken 25 = .ok (.getfield 14, 3) := by decide +kernel
theorem dX11_taken_28 : decode cX11_taken 28 = .ok (.getfield 115, 3) := by decide +kernel
theorem dX11_taken_31 : decode cX11_taken 31 = .ok (.iload_n 1, 1) := by decide +kernel
theorem dX11_taken_32 : decode cX11_taken 32 = .ok (.aaload, 1) := by decide +kernel
theorem dX11_taken_33 : decode cX11_taken 33 = .ok (.astore_n 3, 1) := by decide +kernel
theorem dX11_taken_34 : decode cX11_taken 34 = .ok (.aload_n 3, 1) := by decide +kernel
theorem dX11_taken_35 : decode cX11_taken 35 = .ok (.iload_n 2, 1) := by decide +kernel
theorem dX11_taken_36 : decode cX11_taken 36 = .ok (.invokestatic 252, 3) := by decide +kernel
theorem dX11_taken_39 : decode cX11_taken 39 = .ok (.ifCond .eq 10, 3) := by decide +kernel
theorem dX11_taken_42 : decode cX11_taken 42 = .ok (.aload_n 3, 1) := by decide +kernel
theorem dX11_taken_43 : decode cX11_taken 43 = .ok (.getfield 119, 3) := by decide +kernel
theorem dX11_taken_46 : decode cX11_taken 46 = .ok (.goto 5, 3) := by decide +kernel
theorem dX11_taken_49 : decode cX11_taken 49 = .ok (.bipush (-12), 2) := by decide +kernel
theorem dX11_taken_51 : decode cX11_taken 51 = .ok (.ireturn, 1) := by decide +kernel
theorem dX11_count_0 : decode cX11_count 0 = .ok (.iload_n 1, 1) := by decide +kernel
theorem dX11_count_1 : decode cX11_count 1 = .ok (.tableswitch 120 0 7 #[47, 55, 66, 71, 82, 93, 104, 112], 47) := by decide +kernel
theorem dX11_count_48 : decode cX11_count 48 = .ok (.aload_n 0, 1) := by decide +kernel
theorem dX11_count_49 : decode cX11_count 49 = .ok (.getfield 14, 3) := by decide +kernel
theorem dX11_count_52 : decode cX11_count 52 = .ok (.getfield 101, 3) := by decide +kernel
theorem dX11_count_55 : decode cX11_count 55 = .ok (.ireturn, 1) := by decide +kernel
theorem dX11_count_56 : decode cX11_count 56 = .ok (.aload_n 0, 1) := by decide +kernel
theorem dX11_count_57 : decode cX11_count 57 = .ok (.getfield 14, 3) := by decide +kernel
theorem dX11_count_60 : decode cX11_count 60 = .ok (.getfield 77, 3) := by decide +kernel
theorem dX11_count_63 : decode cX11_count 63 = .ok (.getfield 179, 3) := by decide +kernel
theorem dX11_count_66 : decode cX11_count 66 = .ok (.ireturn, 1) := by decide +kernel
theorem dX11_count_67 : decode cX11_count 67 = .ok (.aload_n 0, 1) := by decide +kernel
theorem dX11_count_68 : decode cX11_count 68 = .ok (.getfield 41, 3) := by decide +kernel
theorem dX11_count_71 : decode cX11_count 71 = .ok (.ireturn, 1) := by decide +kernel
theorem dX11_count_72 : decode cX11_count 72 = .ok (.aload_n 0, 1) := by decide +kernel
theorem dX11_count_73 : decode cX11_count 73 = .ok (.getfield 14, 3) := by decide +kernel
theorem dX11_count_76 : decode cX11_count 76 = .ok (.getfield 185, 3) := by decide +kernel
theorem dX11_count_79 : decode cX11_count 79 = .ok (.getfield 179, 3) := by decide +kernel
theorem dX11_count_82 : decode cX11_count 82 = .ok (.ireturn, 1) := by decide +kernel
theorem dX11_count_83 : decode cX11_count 83 = .ok (.aload_n 0, 1) := by decide +kernel
theorem dX11_count_84 : decode cX11_count 84 = .ok (.getfield 14, 3) := by decide +kernel
theorem dX11_count_87 : decode cX11_count 87 = .ok (.getfield 206, 3) := by decide +kernel
theorem dX11_count_90 : decode cX11_count 90 = .ok (.getfield 179, 3) := by decide +kernel
theorem dX11_count_93 : decode cX11_count 93 = .ok (.ireturn, 1) := by decide +kernel
theorem dX11_count_94 : decode cX11_count 94 = .ok (.aload_n 0, 1) := by decide +kernel
theorem dX11_count_95 : decode cX11_count 95 = .ok (.getfield 14, 3) := by decide +kernel
theorem dX11_count_98 : decode cX11_count 98 = .ok (.getfield 213, 3) := by decide +kernel
theorem dX11_count_101 : decode cX11_count 101 = .ok (.getfield 179, 3) := by decide +kernel
theorem dX11_count_104 : decode cX11_count 104 = .ok (.ireturn, 1) := by decide +kernel
theorem dX11_count_105 : decode cX11_count 105 = .ok (.aload_n 0, 1) := by decide +kernel
theorem dX11_count_106 : decode cX11_count 106 = .ok (.getfield 32, 3) := by decide +kernel
theorem dX11_count_109 : decode cX11_count 109 = .ok (.getfield 179, 3) := by decide +kernel
theorem dX11_count_112 : decode cX11_count 112 = .ok (.ireturn, 1) := by decide +kernel
theorem dX11_count_113 : decode cX11_count 113 = .ok (.aload_n 0, 1) := by decide +kernel
theorem dX11_count_114 : decode cX11_count 114 = .ok (.getfield 54, 3) := by decide +kernel
theorem dX11_count_117 : decode cX11_count 117 = .ok (.invokevirtual 245, 3) := by decide +kernel
theorem dX11_count_120 : decode cX11_count 120 = .ok (.ireturn, 1) := by decide +kernel
theorem dX11_count_121 : decode cX11_count 121 = .ok (.bipush (-2), 2) := by decide +kernel
theorem dX11_count_123 : decode cX11_count 123 = .ok (.ireturn, 1) := by decide +kernel
theorem dX11_tape_0 : decode cX11_tape 0 = .ok (.iload_n 1, 1) := by decide +kernel
theorem dX11_tape_1 : decode cX11_tape 1 = .ok (.invokestatic 216, 3) := by decide +kernel
theorem dX11_tape_4 : decode cX11_tape 4 = .ok (.ifCond .ne 5, 3) := by decide +kernel
theorem dX11_tape_7 : decode cX11_tape 7 = .ok (.iconst (-1), 1) := by decide +kernel
theorem dX11_tape_8 : decode cX11_tape 8 = .ok (.ireturn, 1) := by decide +kernel
theorem dX11_tape_9 : decode cX11_tape 9 = .ok (.iload_n 2, 1) := by decide +kernel
theorem dX11_tape_10 : decode cX11_tape 10 = .ok (.iconst (-1), 1) := by decide +kernel
theorem dX11_tape_11 : decode cX11_tape 11 = .ok (.if_icmp .lt 8, 3) := by decide +kernel
theorem dX11_tape_14 : decode cX11_tape 14 = .ok (.iload_n 2, 1) := by decide +kernel
theorem dX11_tape_15 : decode cX11_tape 15 = .ok (.iconst 4, 1) := by decide +kernel
theorem dX11_tape_16 : decode cX11_tape 16 = .ok (.if_icmp .le 6, 3) := by decide +kernel
theorem dX11_tape_19 : decode cX11_tape 19 = .ok (.bipush (-2), 2) := by decide +kernel
theorem dX11_tape_21 : decode cX11_tape 21 = .ok (.ireturn, 1) := by decide +kernel
theorem dX11_tape_22 : decode cX11_tape 22 = .ok (.iload_n 2, 1) := by decide +kernel
theorem dX11_tape_23 : decode cX11_tape 23 = .ok (.iconst (-1), 1) := by decide +kernel
theorem dX11_tape_24 : decode cX11_tape 24 = .ok (.if_icmp .ne 16, 3) := by decide +kernel
theorem dX11_tape_27 : decode cX11_tape 27 = .ok (.aload_n 0, 1) := by decide +kernel
theorem dX11_tape_28 : decode cX11_tape 28 = .ok (.getfield 47, 3) := by decide +kernel
theorem dX11_tape_31 : decode cX11_tape 31 = .ok (.iload_n 1, 1) := by decide +kernel
theorem dX11_tape_32 : decode cX11_tape 32 = .ok (.aaload, 1) := by decide +kernel
theorem dX11_tape_33 : decode cX11_tape 33 = .ok (.iconst (-1), 1) := by decide +kernel
theorem dX11_tape_34 : decode cX11_tape 34 = .ok (.iconst 0, 1) := by decide +kernel
theorem dX11_tape_35 : decode cX11_tape 35 = .ok (.invokevirtual 256, 3) := by decide +kernel
theorem dX11_tape_38 : decode cX11_tape 38 = .ok (.iconst 1, 1) := by decide +kernel
theorem dX11_tape_39 : decode cX11_tape 39 = .ok (.ireturn, 1) := by decide +kernel
theorem dX11_tape_40 : decode cX11_tape 40 = .ok (.iload_n 3, 1) := by decide +kernel
theorem dX11_tape_41 : decode cX11_tape 41 = .ok (.bipush 60, 2) := by decide +kernel
theorem dX11_tape_43 : decode cX11_tape 43 = .ok (.if_icmp .le 6, 3) := by decide +kernel
theorem dX11_tape_46 : decode cX11_tape 46 = .ok (.bipush (-2), 2) := by decide +kernel
theorem dX11_tape_48 : decode cX11_tape 48 = .ok (.ireturn, 1) := by decide +kernel
theorem dX11_tape_49 : decode cX11_tape 49 = .ok (.iload_n 3, 1) := by decide +kernel
theorem dX11_tape_50 : decode cX11_tape 50 = .ok (.ifCond .ge 6, 3) := by decide +kernel
theorem dX11_tape_53 : decode cX11_tape 53 = .ok (.bipush (-14), 2) := by decide +kernel
theorem dX11_tape_55 : decode cX11_tape 55 = .ok (.ireturn, 1) := by decide +kernel
theorem dX11_tape_56 : decode cX11_tape 56 = .ok (.aload_n 0, 1) := by decide +kernel
theorem dX11_tape_57 : decode cX11_tape 57 = .ok (.getfield 47, 3) := by decide +kernel
theorem dX11_tape_60 : decode cX11_tape 60 = .ok (.iload_n 1, 1) := by decide +kernel
theorem dX11_tape_61 : decode cX11_tape 61 = .ok (.aaload, 1) := by decide +kernel
theorem dX11_tape_62 : decode cX11_tape 62 = .ok (.iload_n 2, 1) := by decide +kernel
theorem dX11_tape_63 : decode cX11_tape 63 = .ok (.iload_n 3, 1) := by decide +kernel
theorem dX11_tape_64 : decode cX11_tape 64 = .ok (.invokevirtual 256, 3) := by decide +kernel
theorem dX11_tape_67 : decode cX11_tape 67 = .ok (.iconst 1, 1) := by decide +kernel
theorem dX11_tape_68 : decode cX11_tape 68 = .ok (.ireturn, 1) := by decide +kernel
theorem dX11_item_0 : decode cX11_item 0 = .ok (.iload_n 1, 1) := by decide +kernel
theorem dX11_item_1 : decode cX11_item 1 = .ok (.invokestatic 216, 3) := by decide +kernel
theorem dX11_item_4 : decode cX11_item 4 = .ok (.ifCond .ne 5, 3) := by decide +kernel
theorem dX11_item_7 : decode cX11_item 7 = .ok (.iconst (-1), 1) := by decide +kernel
theorem dX11_item_8 : decode cX11_item 8 = .ok (.ireturn, 1) := by decide +kernel
theorem dX11_item_9 : decode cX11_item 9 = .ok (.aload_n 0, 1) := by decide +kernel
theorem dX11_item_10 : decode cX11_item 10 = .ok (.getfield 47, 3) := by decide +kernel
theorem dX11_item_13 : decode cX11_item 13 = .ok (.iload_n 1, 1) := by decide +kernel
theorem dX11_item_14 : decode cX11_item 14 = .ok (.aaload, 1) := by decide +kernel
theorem dX11_item_15 : decode cX11_item 15 = .ok (.astore 5, 2) := by decide +kernel
theorem dX11_item_17 : decode cX11_item 17 = .ok (.aload 5, 2) := by decide +kernel
theorem dX11_item_19 : decode cX11_item 19 = .ok (.getfield 219, 3) := by decide +kernel
theorem dX11_item_22 : decode cX11_item 22 = .ok (.iconst (-1), 1) := by decide +kernel
theorem dX11_item_23 : decode cX11_item 23 = .ok (.if_icmp .ne 6, 3) := by decide +kernel
theorem dX11_item_26 : decode cX11_item 26 = .ok (.bipush (-11), 2) := by decide +kernel
theorem dX11_item_28 : decode cX11_item 28 = .ok (.ireturn, 1) := by decide +kernel
theorem dX11_item_29 : decode cX11_item 29 = .ok (.aload 5, 2) := by decide +kernel
theorem dX11_item_31 : decode cX11_item 31 = .ok (.iload_n 2, 1) := by decide +kernel
theorem dX11_item_32 : decode cX11_item 32 = .ok (.invokevirtual 222, 3) := by decide +kernel
theorem dX11_item_35 : decode cX11_item 35 = .ok (.ifCond .ne 6, 3) := by decide +kernel
theorem dX11_item_38 : decode cX11_item 38 = .ok (.bipush (-13), 2) := by decide +kernel
theorem dX11_item_40 : decode cX11_item 40 = .ok (.ireturn, 1) := by decide +kernel
theorem dX11_item_41 : decode cX11_item 41 = .ok (.aload 5, 2) := by decide +kernel
theorem dX11_item_43 : decode cX11_item 43 = .ok (.getfield 225, 3) := by decide +kernel
theorem dX11_item_46 : decode cX11_item 46 = .ok (.iload_n 2, 1) := by decide +kernel
theorem dX11_item_47 : decode cX11_item 47 = .ok (.aload 5, 2) := by decide +kernel
theorem dX11_item_49 : decode cX11_item 49 = .ok (.getfield 219, 3) := by decide +kernel
theorem dX11_item_52 : decode cX11_item 52 = .ok (.lload_n 3, 1) := by decide +kernel
theorem dX11_item_53 : decode cX11_item 53 = .ok (.invokestatic 259, 3) := by decide +kernel
theorem dX11_item_56 : decode cX11_item 56 = .ok (.lastore, 1) := by decide +kernel
theorem dX11_item_57 : decode cX11_item 57 = .ok (.iconst 1, 1) := by decide +kernel
theorem dX11_item_58 : decode cX11_item 58 = .ok (.ireturn, 1) := by decide +kernel
theorem dX11_read_0 : decode cX11_read 0 = .ok (.iload_n 1, 1) := by decide +kernel
theorem dX11_read_1 : decode cX11_read 1 = .ok (.invokestatic 216, 3) := by decide +kernel
theorem dX11_read_4 : decode cX11_read 4 = .ok (.ifCond .eq 30, 3) := by decide +kernel
theorem dX11_read_7 : decode cX11_read 7 = .ok (.aload_n 0, 1) := by decide +kernel
theorem dX11_read_8 : decode cX11_read 8 = .ok (.getfield 47, 3) := by decide +kernel
theorem dX11_read_11 : decode cX11_read 11 = .ok (.iload_n 1, 1) := by decide +kernel
theorem dX11_read_12 : decode cX11_read 12 = .ok (.aaload, 1) := by decide +kernel
theorem dX11_read_13 : decode cX11_read 13 = .ok (.iload_n 2, 1) := by decide +kernel
theorem dX11_read_14 : decode cX11_read 14 = .ok (.invokevirtual 222, 3) := by decide +kernel
theorem dX11_read_17 : decode cX11_read 17 = .ok (.ifCond .eq 17, 3) := by decide +kernel
theorem dX11_read_20 : decode cX11_read 20 = .ok (.aload_n 0, 1) := by decide +kernel
theorem dX11_read_21 : decode cX11_read 21 = .ok (.getfield 47, 3) := by decide +kernel
theorem dX11_read_24 : decode cX11_read 24 = .ok (.iload_n 1, 1) := by decide +kernel
theorem dX11_read_25 : decode cX11_read 25 = .ok (.aaload, 1) := by decide +kernel
theorem dX11_read_26 : decode cX11_read 26 = .ok (.getfield 225, 3) := by decide +kernel
theorem dX11_read_29 : decode cX11_read 29 = .ok (.iload_n 2, 1) := by decide +kernel
theorem dX11_read_30 : decode cX11_read 30 = .ok (.laload, 1) := by decide +kernel
theorem dX11_read_31 : decode cX11_read 31 = .ok (.goto 6, 3) := by decide +kernel
theorem dX11_read_34 : decode cX11_read 34 = .ok (.ldc2_w 195, 3) := by decide +kernel
theorem dX11_read_37 : decode cX11_read 37 = .ok (.lreturn, 1) := by decide +kernel
theorem dX11_shift_0 : decode cX11_shift 0 = .ok (.iload_n 1, 1) := by decide +kernel
theorem dX11_shift_1 : decode cX11_shift 1 = .ok (.invokestatic 216, 3) := by decide +kernel
theorem dX11_shift_4 : decode cX11_shift 4 = .ok (.ifCond .eq 10, 3) := by decide +kernel
theorem dX11_shift_7 : decode cX11_shift 7 = .ok (.iload_n 3, 1) := by decide +kernel
theorem dX11_shift_8 : decode cX11_shift 8 = .ok (.invokestatic 216, 3) := by decide +kernel
theorem dX11_shift_11 : decode cX11_shift 11 = .ok (.ifCond .ne 5, 3) := by decide +kernel
theorem dX11_shift_14 : decode cX11_shift 14 = .ok (.iconst (-1), 1) := by decide +kernel
theorem dX11_shift_15 : decode cX11_shift 15 = .ok (.ireturn, 1) := by decide +kernel
theorem dX11_shift_16 : decode cX11_shift 16 = .ok (.aload_n 0, 1) := by decide +kernel
theorem dX11_shift_17 : decode cX11_shift 17 = .ok (.getfield 47, 3) := by decide +kernel
theorem dX11_shift_20 : decode cX11_shift 20 = .ok (.iload_n 1, 1) := by decide +kernel
theorem dX11_shift_21 : decode cX11_shift 21 = .ok (.aaload, 1) := by decide +kernel
theorem dX11_shift_22 : decode cX11_shift 22 = .ok (.astore 6, 2) := by decide +kernel
theorem dX11_shift_24 : decode cX11_shift 24 = .ok (.aload_n 0, 1) := by decide +kernel
theorem dX11_shift_25 : decode cX11_shift 25 = .ok (.getfield 47, 3) := by decide +kernel
theorem dX11_shift_28 : decode cX11_shift 28 = .ok (.iload_n 3, 1) := by decide +kernel
theorem dX11_shift_29 : decode cX11_shift 29 = .ok (.aaload, 1) := by decide +kernel
theorem dX11_shift_30 : decode cX11_shift 30 = .ok (.astore 7, 2) := by decide +kernel
theorem dX11_shift_32 : decode cX11_shift 32 = .ok (.aload 6, 2) := by decide +kernel
theorem dX11_shift_34 : decode cX11_shift 34 = .ok (.getfield 219, 3) := by decide +kernel
theorem dX11_shift_37 : decode cX11_shift 37 = .ok (.iconst (-1), 1) := by decide +kernel
theorem dX11_shift_38 : decode cX11_shift 38 = .ok (.if_icmp .eq 12, 3) := by decide +kernel
theorem dX11_shift_41 : decode cX11_shift 41 = .ok (.aload 7, 2) := by decide +kernel
theorem dX11_shift_43 : decode cX11_shift 43 = .ok (.getfield 219, 3) := by decide +kernel
theorem dX11_shift_46 : decode cX11_shift 46 = .ok (.iconst (-1), 1) := by decide +kernel
theorem dX11_shift_47 : decode cX11_shift 47 = .ok (.if_icmp .ne 6, 3) := by decide +kernel
theorem dX11_shift_50 : decode cX11_shift 50 = .ok (.bipush (-11), 2) := by decide +kernel
theorem dX11_shift_52 : decode cX11_shift 52 = .ok (.ireturn, 1) := by decide +kernel
theorem dX11_shift_53 : decode cX11_shift 53 = .ok (.aload 6, 2) := by decide +kernel
theorem dX11_shift_55 : decode cX11_shift 55 = .ok (.getfield 219, 3) := by decide +kernel
theorem dX11_shift_58 : decode cX11_shift 58 = .ok (.aload 7, 2) := by decide +kernel
theorem dX11_shift_60 : decode cX11_shift 60 = .ok (.getfield 219, 3) := by decide +kernel
theorem dX11_shift_63 : decode cX11_shift 63 = .ok (.if_icmp .eq 6, 3) := by decide +kernel
theorem dX11_shift_66 : decode cX11_shift 66 = .ok (.bipush (-12), 2) := by decide +kernel
theorem dX11_shift_68 : decode cX11_shift 68 = .ok (.ireturn, 1) := by decide +kernel
theorem dX11_shift_69 : decode cX11_shift 69 = .ok (.aload 6, 2) := by decide +kernel
theorem dX11_shift_71 : decode cX11_shift 71 = .ok (.iload_n 2, 1) := by decide +kernel
theorem dX11_shift_72 : decode cX11_shift 72 = .ok (.iload 5, 2) := by decide +kernel
theorem dX11_shift_74 : decode cX11_shift 74 = .ok (.invokevirtual 263, 3) := by decide +kernel
theorem dX11_shift_77 : decode cX11_shift 77 = .ok (.ifCond .eq 15, 3) := by decide +kernel
theorem dX11_shift_80 : decode cX11_shift 80 = .ok (.aload 7, 2) := by decide +kernel
theorem dX11_shift_82 : decode cX11_shift 82 = .ok (.iload 4, 2) := by decide +kernel
theorem dX11_shift_84 : decode cX11_shift 84 = .ok (.iload 5, 2) := by decide +kernel
theorem dX11_shift_86 : decode cX11_shift 86 = .ok (.invokevirtual 263, 3) := by decide +kernel
theorem dX11_shift_89 : decode cX11_shift 89 = .ok (.ifCond .ne 6, 3) := by decide +kernel
theorem dX11_shift_92 : decode cX11_shift 92 = .ok (.bipush (-13), 2) := by decide +kernel
theorem dX11_shift_94 : decode cX11_shift 94 = .ok (.ireturn, 1) := by decide +kernel
theorem dX11_shift_95 : decode cX11_shift 95 = .ok (.aload 6, 2) := by decide +kernel
theorem dX11_shift_97 : decode cX11_shift 97 = .ok (.getfield 225, 3) := by decide +kernel
theorem dX11_shift_100 : decode cX11_shift 100 = .ok (.iload_n 2, 1) := by decide +kernel
theorem dX11_shift_101 : decode cX11_shift 101 = .ok (.aload 7, 2) := by decide +kernel
theorem dX11_shift_103 : decode cX11_shift 103 = .ok (.getfield 225, 3) := by decide +kernel
theorem dX11_shift_106 : decode cX11_shift 106 = .ok (.iload 4, 2) := by decide +kernel
theorem dX11_shift_108 : decode cX11_shift 108 = .ok (.iload 5, 2) := by decide +kernel
theorem dX11_shift_110 : decode cX11_shift 110 = .ok (.invokestatic 267, 3) := by decide +kernel
theorem dX11_shift_113 : decode cX11_shift 113 = .ok (.iload 5, 2) := by decide +kernel
theorem dX11_shift_115 : decode cX11_shift 115 = .ok (.ireturn, 1) := by decide +kernel
theorem dX11_isSign_0 : decode cX11_isSign 0 = .ok (.iload_n 0, 1) := by decide +kernel
theorem dX11_isSign_1 : decode cX11_isSign 1 = .ok (.ifCond .lt 14, 3) := by decide +kernel
theorem dX11_isSign_4 : decode cX11_isSign 4 = .ok (.iload_n 0, 1) := by decide +kernel
theorem dX11_isSign_5 : decode cX11_isSign 5 = .ok (.sipush 1024, 3) := by decide +kernel
theorem dX11_isSign_8 : decode cX11_isSign 8 = .ok (.if_icmp .ge 7, 3) := by decide +kernel
theorem dX11_isSign_11 : decode cX11_isSign 11 = .ok (.iconst 1, 1) := by decide +kernel
theorem dX11_isSign_12 : decode cX11_isSign 12 = .ok (.goto 4, 3) := by decide +kernel
theorem dX11_isSign_15 : decode cX11_isSign 15 = .ok (.iconst 0, 1) := by decide +kernel
theorem dX11_isSign_16 : decode cX11_isSign 16 = .ok (.ireturn, 1) := by decide +kernel
theorem dX11_isDigit_0 : decode cX11_isDigit 0 = .ok (.iload_n 0, 1) := by decide +kernel
theorem dX11_isDigit_1 : decode cX11_isDigit 1 = .ok (.ifCond .lt 13, 3) := by decide +kernel
theorem dX11_isDigit_4 : decode cX11_isDigit 4 = .ok (.iload_n 0, 1) := by decide +kernel
theorem dX11_isDigit_5 : decode cX11_isDigit 5 = .ok (.bipush 10, 2) := by decide +kernel
theorem dX11_isDigit_7 : decode cX11_isDigit 7 = .ok (.if_icmp .ge 7, 3) := by decide +kernel
theorem dX11_isDigit_10 : decode cX11_isDigit 10 = .ok (.iconst 1, 1) := by decide +kernel
theorem dX11_isDigit_11 : decode cX11_isDigit 11 = .ok (.goto 4, 3) := by decide +kernel
theorem dX11_isDigit_14 : decode cX11_isDigit 14 = .ok (.iconst 0, 1) := by decide +kernel
theorem dX11_isDigit_15 : decode cX11_isDigit 15 = .ok (.ireturn, 1) := by decide +kernel
theorem dX11_isPart_0 : decode cX11_isPart 0 = .ok (.iload_n 0, 1) := by decide +kernel
theorem dX11_isPart_1 : decode cX11_isPart 1 = .ok (.ifCond .eq 8, 3) := by decide +kernel
theorem dX11_isPart_4 : decode cX11_isPart 4 = .ok (.iload_n 0, 1) := by decide +kernel
theorem dX11_isPart_5 : decode cX11_isPart 5 = .ok (.iconst 1, 1) := by decide +kernel
theorem dX11_isPart_6 : decode cX11_isPart 6 = .ok (.if_icmp .ne 7, 3) := by decide +kernel
theorem dX11_isPart_9 : decode cX11_isPart 9 = .ok (.iconst 1, 1) := by decide +kernel
theorem dX11_isPart_10 : decode cX11_isPart 10 = .ok (.goto 4, 3) := by decide +kernel
theorem dX11_isPart_13 : decode cX11_isPart 13 = .ok (.iconst 0, 1) := by decide +kernel
theorem dX11_isPart_14 : decode cX11_isPart 14 = .ok (.ireturn, 1) := by decide +kernel
theorem dX11_isTape_0 : decode cX11_isTape 0 = .ok (.iload_n 0, 1) := by decide +kernel
theorem dX11_isTape_1 : decode cX11_isTape 1 = .ok (.ifCond .lt 13, 3) := by decide +kernel
theorem dX11_isTape_4 : decode cX11_isTape 4 = .ok (.iload_n 0, 1) := by decide +kernel
theorem dX11_isTape_5 : decode cX11_isTape 5 = .ok (.bipush 6, 2) := by decide +kernel
theorem dX11_isTape_7 : decode cX11_isTape 7 = .ok (.if_icmp .ge 7, 3) := by decide +kernel
theorem dX11_isTape_10 : decode cX11_isTape 10 = .ok (.iconst 1, 1) := by decide +kernel
theorem dX11_isTape_11 : decode cX11_isTape 11 = .ok (.goto 4, 3) := by decide +kernel
theorem dX11_isTape_14 : decode cX11_isTape 14 = .ok (.iconst 0, 1) := by decide +kernel
theorem dX11_isTape_15 : decode cX11_isTape 15 = .ok (.ireturn, 1) := by decide +kernel
theorem dX11_isWord_0 : decode cX11_isWord 0 = .ok (.iload_n 1, 1) := by decide +kernel
theorem dX11_isWord_1 : decode cX11_isWord 1 = .ok (.ifCond .lt 21, 3) := by decide +kernel
theorem dX11_isWord_4 : decode cX11_isWord 4 = .ok (.iload_n 1, 1) := by decide +kernel
theorem dX11_isWord_5 : decode cX11_isWord 5 = .ok (.aload_n 0, 1) := by decide +kernel
theorem dX11_isWord_6 : decode cX11_isWord 6 = .ok (.getfield 14, 3) := by decide +kernel
theorem dX11_isWord_9 : decode cX11_isWord 9 = .ok (.getfield 77, 3) := by decide +kernel
theorem dX11_isWord_12 : decode cX11_isWord 12 = .ok (.getfield 179, 3) := by decide +kernel
theorem dX11_isWord_15 : decode cX11_isWord 15 = .ok (.if_icmp .ge 7, 3) := by decide +kernel
theorem dX11_isWord_18 : decode cX11_isWord 18 = .ok (.iconst 1, 1) := by decide +kernel
theorem dX11_isWord_19 : decode cX11_isWord 19 = .ok (.goto 4, 3) := by decide +kernel
theorem dX11_isWord_22 : decode cX11_isWord 22 = .ok (.iconst 0, 1) := by decide +kernel
theorem dX11_isWord_23 : decode cX11_isWord 23 = .ok (.ireturn, 1) := by decide +kernel
theorem dX11_isSender_0 : decode cX11_isSender 0 = .ok (.iload_n 1, 1) := by decide +kernel
theorem dX11_isSender_1 : decode cX11_isSender 1 = .ok (.ifCond .lt 30, 3) := by decide +kernel
theorem dX11_isSender_4 : decode cX11_isSender 4 = .ok (.iload_n 1, 1) := by decide +kernel
theorem dX11_isSender_5 : decode cX11_isSender 5 = .ok (.aload_n 0, 1) := by decide +kernel
theorem dX11_isSender_6 : decode cX11_isSender 6 = .ok (.getfield 14, 3) := by decide +kernel
theorem dX11_isSender_9 : decode cX11_isSender 9 = .ok (.getfield 101, 3) := by decide +kernel
theorem dX11_isSender_12 : decode cX11_isSender 12 = .ok (.if_icmp .ge 19, 3) := by decide +kernel
theorem dX11_isSender_15 : decode cX11_isSender 15 = .ok (.aload_n 0, 1) := by decide +kernel
theorem dX11_isSender_16 : decode cX11_isSender 16 = .ok (.getfield 14, 3) := by decide +kernel
theorem dX11_isSender_19 : decode cX11_isSender 19 = .ok (.getfield 115, 3) := by decide +kernel
theorem dX11_isSender_22 : decode cX11_isSender 22 = .ok (.iload_n 1, 1) := by decide +kernel
theorem dX11_isSender_23 : decode cX11_isSender 23 = .ok (.aaload, 1) := by decide +kernel
theorem dX11_isSender_24 : decode cX11_isSender 24 = .ok (.ifnull 7, 3) := by decide +kernel
theorem dX11_isSender_27 : decode cX11_isSender 27 = .ok (.iconst 1, 1) := by decide +kernel
theorem dX11_isSender_28 : decode cX11_isSender 28 = .ok (.goto 4, 3) := by decide +kernel
theorem dX11_isSender_31 : decode cX11_isSender 31 = .ok (.iconst 0, 1) := by decide +kernel
theorem dX11_isSender_32 : decode cX11_isSender 32 = .ok (.ireturn, 1) := by decide +kernel
theorem dX11_apart_0 : decode cX11_apart 0 = .ok (.iload_n 0, 1) := by decide +kernel
theorem dX11_apart_1 : decode cX11_apart 1 = .ok (.iload_n 1, 1) := by decide +kernel
theorem dX11_apart_2 : decode cX11_apart 2 = .ok (.ixor, 1) := by decide +kernel
theorem dX11_apart_3 : decode cX11_apart 3 = .ok (.invokestatic 201, 3) := by decide +kernel
theorem dX11_apart_6 : decode cX11_apart 6 = .ok (.ireturn, 1) := by decide +kernel
theorem dX11_turned_0 : decode cX11_turned 0 = .ok (.iload_n 1, 1) := by decide +kernel
theorem dX11_turned_1 : decode cX11_turned 1 = .ok (.bipush 10, 2) := by decide +kernel
theorem dX11_turned_3 : decode cX11_turned 3 = .ok (.irem, 1) := by decide +kernel
theorem dX11_turned_4 : decode cX11_turned 4 = .ok (.istore_n 2, 1) := by decide +kernel
theorem dX11_turned_5 : decode cX11_turned 5 = .ok (.iload_n 0, 1) := by decide +kernel
theorem dX11_turned_6 : decode cX11_turned 6 = .ok (.iload_n 2, 1) := by decide +kernel
theorem dX11_turned_7 : decode cX11_turned 7 = .ok (.ishl, 1) := by decide +kernel
theorem dX11_turned_8 : decode cX11_turned 8 = .ok (.iload_n 0, 1) := by decide +kernel
theorem dX11_turned_9 : decode cX11_turned 9 = .ok (.bipush 10, 2) := by decide +kernel
theorem dX11_turned_11 : decode cX11_turned 11 = .ok (.iload_n 2, 1) := by decide +kernel
theorem dX11_turned_12 : decode cX11_turned 12 = .ok (.isub, 1) := by decide +kernel
theorem dX11_turned_13 : decode cX11_turned 13 = .ok (.ishr, 1) := by decide +kernel
theorem dX11_turned_14 : decode cX11_turned 14 = .ok (.ior, 1) := by decide +kernel
theorem dX11_turned_15 : decode cX11_turned 15 = .ok (.sipush 1023, 3) := by decide +kernel
theorem dX11_turned_18 : decode cX11_turned 18 = .ok (.iand, 1) := by decide +kernel
theorem dX11_turned_19 : decode cX11_turned 19 = .ok (.ireturn, 1) := by decide +kernel
theorem dX11_mirrored_0 : decode cX11_mirrored 0 = .ok (.iconst 0, 1) := by decide +kernel
theorem dX11_mirrored_1 : decode cX11_mirrored 1 = .ok (.istore_n 1, 1) := by decide +kernel
theorem dX11_mirrored_2 : decode cX11_mirrored 2 = .ok (.iconst 0, 1) := by decide +kernel
theorem dX11_mirrored_3 : decode cX11_mirrored 3 = .ok (.istore_n 2, 1) := by decide +kernel
theorem dX11_mirrored_4 : decode cX11_mirrored 4 = .ok (.iload_n 2, 1) := by decide +kernel
theorem dX11_mirrored_5 : decode cX11_mirrored 5 = .ok (.bipush 10, 2) := by decide +kernel
theorem dX11_mirrored_7 : decode cX11_mirrored 7 = .ok (.if_icmp .ge 26, 3) := by decide +kernel
theorem dX11_mirrored_10 : decode cX11_mirrored 10 = .ok (.iload_n 0, 1) := by decide +kernel
theorem dX11_mirrored_11 : decode cX11_mirrored 11 = .ok (.iconst 1, 1) := by decide +kernel
theorem dX11_mirrored_12 : decode cX11_mirrored 12 = .ok (.iload_n 2, 1) := by decide +kernel
theorem dX11_mirrored_13 : decode cX11_mirrored 13 = .ok (.ishl, 1) := by decide +kernel
theorem dX11_mirrored_14 : decode cX11_mirrored 14 = .ok (.iand, 1) := by decide +kernel
theorem dX11_mirrored_15 : decode cX11_mirrored 15 = .ok (.ifCond .eq 12, 3) := by decide +kernel
theorem dX11_mirrored_18 : decode cX11_mirrored 18 = .ok (.iload_n 1, 1) := by decide +kernel
theorem dX11_mirrored_19 : decode cX11_mirrored 19 = .ok (.iconst 1, 1) := by decide +kernel
theorem dX11_mirrored_20 : decode cX11_mirrored 20 = .ok (.bipush 9, 2) := by decide +kernel
theorem dX11_mirrored_22 : decode cX11_mirrored 22 = .ok (.iload_n 2, 1) := by decide +kernel
theorem dX11_mirrored_23 : decode cX11_mirrored 23 = .ok (.isub, 1) := by decide +kernel
theorem dX11_mirrored_24 : decode cX11_mirrored 24 = .ok (.ishl, 1) := by decide +kernel
theorem dX11_mirrored_25 : decode cX11_mirrored 25 = .ok (.ior, 1) := by decide +kernel
theorem dX11_mirrored_26 : decode cX11_mirrored 26 = .ok (.istore_n 1, 1) := by decide +kernel
theorem dX11_mirrored_27 : decode cX11_mirrored 27 = .ok (.iinc 2 1, 3) := by decide +kernel
theorem dX11_mirrored_30 : decode cX11_mirrored 30 = .ok (.goto (-26), 3) := by decide +kernel
theorem dX11_mirrored_33 : decode cX11_mirrored 33 = .ok (.iload_n 1, 1) := by decide +kernel
theorem dX11_mirrored_34 : decode cX11_mirrored 34 = .ok (.ireturn, 1) := by decide +kernel
theorem dX11_shownNow_0 : decode cX11_shownNow 0 = .ok (.aload_n 0, 1) := by decide +kernel
theorem dX11_shownNow_1 : decode cX11_shownNow 1 = .ok (.iload_n 1, 1) := by decide +kernel
theorem dX11_shownNow_2 : decode cX11_shownNow 2 = .ok (.aload_n 0, 1) := by decide +kernel
theorem dX11_shownNow_3 : decode cX11_shownNow 3 = .ok (.getfield 14, 3) := by decide +kernel
theorem dX11_shownNow_6 : decode cX11_shownNow 6 = .ok (.getfield 115, 3) := by decide +kernel
theorem dX11_shownNow_9 : decode cX11_shownNow 9 = .ok (.iload_n 1, 1) := by decide +kernel
theorem dX11_shownNow_10 : decode cX11_shownNow 10 = .ok (.aaload, 1) := by decide +kernel
theorem dX11_shownNow_11 : decode cX11_shownNow 11 = .ok (.getfield 124, 3) := by decide +kernel
theorem dX11_shownNow_14 : decode cX11_shownNow 14 = .ok (.aload_n 0, 1) := by decide +kernel
theorem dX11_shownNow_15 : decode cX11_shownNow 15 = .ok (.getfield 14, 3) := by decide +kernel
theorem dX11_shownNow_18 : decode cX11_shownNow 18 = .ok (.getfield 158, 3) := by decide +kernel
theorem dX11_shownNow_21 : decode cX11_shownNow 21 = .ok (.iload_n 2, 1) := by decide +kernel
theorem dX11_shownNow_22 : decode cX11_shownNow 22 = .ok (.invokevirtual 209, 3) := by decide +kernel
theorem dX11_shownNow_25 : decode cX11_shownNow 25 = .ok (.ireturn, 1) := by decide +kernel
theorem dX11_shown_0 : decode cX11_shown 0 = .ok (.aload_n 0, 1) := by decide +kernel
theorem dX11_shown_1 : decode cX11_shown 1 = .ok (.getfield 14, 3) := by decide +kernel
theorem dX11_shown_4 : decode cX11_shown 4 = .ok (.getfield 115, 3) := by decide +kernel
theorem dX11_shown_7 : decode cX11_shown 7 = .ok (.iload_n 1, 1) := by decide +kernel
theorem dX11_shown_8 : decode cX11_shown 8 = .ok (.aaload, 1) := by decide +kernel
theorem dX11_shown_9 : decode cX11_shown 9 = .ok (.astore 5, 2) := by decide +kernel
theorem dX11_shown_11 : decode cX11_shown 11 = .ok (.iload 4, 2) := by decide +kernel
theorem dX11_shown_13 : decode cX11_shown 13 = .ok (.istore 6, 2) := by decide +kernel
theorem dX11_shown_15 : decode cX11_shown 15 = .ok (.aload_n 0, 1) := by decide +kernel
theorem dX11_shown_16 : decode cX11_shown 16 = .ok (.getfield 14, 3) := by decide +kernel
theorem dX11_shown_19 : decode cX11_shown 19 = .ok (.getfield 155, 3) := by decide +kernel
theorem dX11_shown_22 : decode cX11_shown 22 = .ok (.ifnull 85, 3) := by decide +kernel
theorem dX11_shown_25 : decode cX11_shown 25 = .ok (.aload_n 0, 1) := by decide +kernel
theorem dX11_shown_26 : decode cX11_shown 26 = .ok (.getfield 58, 3) := by decide +kernel
theorem dX11_shown_29 : decode cX11_shown 29 = .ok (.iconst 0, 1) := by decide +kernel
theorem dX11_shown_30 : decode cX11_shown 30 = .ok (.iload_n 1, 1) := by decide +kernel
theorem dX11_shown_31 : decode cX11_shown 31 = .ok (.iastore, 1) := by decide +kernel
theorem dX11_shown_32 : decode cX11_shown 32 = .ok (.aload_n 0, 1) := by decide +kernel
theorem dX11_shown_33 : decode cX11_shown 33 = .ok (.getfield 58, 3) := by decide +kernel
theorem dX11_shown_36 : decode cX11_shown 36 = .ok (.iconst 1, 1) := by decide +kernel
theorem dX11_shown_37 : decode cX11_shown 37 = .ok (.aload 5, 2) := by decide +kernel
theorem dX11_shown_39 : decode cX11_shown 39 = .ok (.getfield 119, 3) := by decide +kernel
theorem dX11_shown_42 : decode cX11_shown 42 = .ok (.iastore, 1) := by decide +kernel
theorem dX11_shown_43 : decode cX11_shown 43 = .ok (.aload_n 0, 1) := by decide +kernel
theorem dX11_shown_44 : decode cX11_shown 44 = .ok (.getfield 58, 3) := by decide +kernel
theorem dX11_shown_47 : decode cX11_shown 47 = .ok (.iconst 2, 1) := by decide +kernel
theorem dX11_shown_48 : decode cX11_shown 48 = .ok (.iload_n 2, 1) := by decide +kernel
theorem dX11_shown_49 : decode cX11_shown 49 = .ok (.iastore, 1) := by decide +kernel
theorem dX11_shown_50 : decode cX11_shown 50 = .ok (.aload_n 0, 1) := by decide +kernel
theorem dX11_shown_51 : decode cX11_shown 51 = .ok (.getfield 58, 3) := by decide +kernel
theorem dX11_shown_54 : decode cX11_shown 54 = .ok (.iconst 3, 1) := by decide +kernel
theorem dX11_shown_55 : decode cX11_shown 55 = .ok (.iload 4, 2) := by decide +kernel
theorem dX11_shown_57 : decode cX11_shown 57 = .ok (.invokestatic 201, 3) := by decide +kernel
theorem dX11_shown_60 : decode cX11_shown 60 = .ok (.iastore, 1) := by decide +kernel
theorem dX11_shown_61 : decode cX11_shown 61 = .ok (.aload_n 0, 1) := by decide +kernel
theorem dX11_shown_62 : decode cX11_shown 62 = .ok (.getfield 58, 3) := by decide +kernel
theorem dX11_shown_65 : decode cX11_shown 65 = .ok (.iconst 4, 1) := by decide +kernel
theorem dX11_shown_66 : decode cX11_shown 66 = .ok (.aload_n 0, 1) := by decide +kernel
theorem dX11_shown_67 : decode cX11_shown 67 = .ok (.getfield 14, 3) := by decide +kernel
theorem dX11_shown_70 : decode cX11_shown 70 = .ok (.getfield 127, 3) := by decide +kernel
theorem dX11_shown_73 : decode cX11_shown 73 = .ok (.iload_n 1, 1) := by decide +kernel
theorem dX11_shown_74 : decode cX11_shown 74 = .ok (.iaload, 1) := by decide +kernel
theorem dX11_shown_75 : decode cX11_shown 75 = .ok (.bipush 10, 2) := by decide +kernel
theorem dX11_shown_77 : decode cX11_shown 77 = .ok (.irem, 1) := by decide +kernel
theorem dX11_shown_78 : decode cX11_shown 78 = .ok (.iastore, 1) := by decide +kernel
theorem dX11_shown_79 : decode cX11_shown 79 = .ok (.aload_n 0, 1) := by decide +kernel
theorem dX11_shown_80 : decode cX11_shown 80 = .ok (.getfield 58, 3) := by decide +kernel
theorem dX11_shown_83 : decode cX11_shown 83 = .ok (.iconst 5, 1) := by decide +kernel
theorem dX11_shown_84 : decode cX11_shown 84 = .ok (.iload_n 3, 1) := by decide +kernel
theorem dX11_shown_85 : decode cX11_shown 85 = .ok (.bipush 24, 2) := by decide +kernel
theorem dX11_shown_87 : decode cX11_shown 87 = .ok (.irem, 1) := by decide +kernel
theorem dX11_shown_88 : decode cX11_shown 88 = .ok (.iastore, 1) := by decide +kernel
theorem dX11_shown_89 : decode cX11_shown 89 = .ok (.aload_n 0, 1) := by decide +kernel
theorem dX11_shown_90 : decode cX11_shown 90 = .ok (.getfield 14, 3) := by decide +kernel
theorem dX11_shown_93 : decode cX11_shown 93 = .ok (.getfield 155, 3) := by decide +kernel
theorem dX11_shown_96 : decode cX11_shown 96 = .ok (.iload 4, 2) := by decide +kernel
theorem dX11_shown_98 : decode cX11_shown 98 = .ok (.aload_n 0, 1) := by decide +kernel
theorem dX11_shown_99 : decode cX11_shown 99 = .ok (.getfield 58, 3) := by decide +kernel
theorem dX11_shown_102 : decode cX11_shown 102 = .ok (.invokevirtual 273, 3) := by decide +kernel
theorem dX11_shown_105 : decode cX11_shown 105 = .ok (.istore 6, 2) := by decide +kernel
theorem dX11_shown_107 : decode cX11_shown 107 = .ok (.aload 5, 2) := by decide +kernel
theorem dX11_shown_109 : decode cX11_shown 109 = .ok (.iload 6, 2) := by decide +kernel
theorem dX11_shown_111 : decode cX11_shown 111 = .ok (.iload_n 2, 1) := by decide +kernel
theorem dX11_shown_112 : decode cX11_shown 112 = .ok (.iload_n 3, 1) := by decide +kernel
theorem dX11_shown_113 : decode cX11_shown 113 = .ok (.aload_n 0, 1) := by decide +kernel
theorem dX11_shown_114 : decode cX11_shown 114 = .ok (.getfield 14, 3) := by decide +kernel
theorem dX11_shown_117 : decode cX11_shown 117 = .ok (.getfield 145, 3) := by decide +kernel
theorem dX11_shown_120 : decode cX11_shown 120 = .ok (.iload_n 1, 1) := by decide +kernel
theorem dX11_shown_121 : decode cX11_shown 121 = .ok (.iconst 4, 1) := by decide +kernel
theorem dX11_shown_122 : decode cX11_shown 122 = .ok (.imul, 1) := by decide +kernel
theorem dX11_shown_123 : decode cX11_shown 123 = .ok (.iload_n 3, 1) := by decide +kernel
theorem dX11_shown_124 : decode cX11_shown 124 = .ok (.iconst 4, 1) := by decide +kernel
theorem dX11_shown_125 : decode cX11_shown 125 = .ok (.irem, 1) := by decide +kernel
theorem dX11_shown_126 : decode cX11_shown 126 = .ok (.iadd, 1) := by decide +kernel
theorem dX11_shown_127 : decode cX11_shown 127 = .ok (.iaload, 1) := by decide +kernel
theorem dX11_shown_128 : decode cX11_shown 128 = .ok (.invokevirtual 277, 3) := by decide +kernel
theorem dX11_shown_131 : decode cX11_shown 131 = .ok (.ireturn, 1) := by decide +kernel
theorem dX11_near_0 : decode cX11_near 0 = .ok (.aload_n 0, 1) := by decide +kernel
theorem dX11_near_1 : decode cX11_near 1 = .ok (.getfield 14, 3) := by decide +kernel
theorem dX11_near_4 : decode cX11_near 4 = .ok (.getfield 155, 3) := by decide +kernel
theorem dX11_near_7 : decode cX11_near 7 = .ok (.ifnonnull 7, 3) := by decide +kernel
theorem dX11_near_10 : decode cX11_near 10 = .ok (.iconst 2, 1) := by decide +kernel
theorem dX11_near_11 : decode cX11_near 11 = .ok (.goto 13, 3) := by decide +kernel
theorem dX11_near_14 : decode cX11_near 14 = .ok (.aload_n 0, 1) := by decide +kernel
theorem dX11_near_15 : decode cX11_near 15 = .ok (.getfield 14, 3) := by decide +kernel
theorem dX11_near_18 : decode cX11_near 18 = .ok (.getfield 155, 3) := by decide +kernel
theorem dX11_near_21 : decode cX11_near 21 = .ok (.getfield 280, 3) := by decide +kernel
theorem dX11_near_24 : decode cX11_near 24 = .ok (.ireturn, 1) := by decide +kernel
theorem dX11_readAs_0 : decode cX11_readAs 0 = .ok (.bipush (-5), 2) := by decide +kernel
theorem dX11_readAs_2 : decode cX11_readAs 2 = .ok (.istore_n 2, 1) := by decide +kernel
theorem dX11_readAs_3 : decode cX11_readAs 3 = .ok (.aload_n 0, 1) := by decide +kernel
theorem dX11_readAs_4 : decode cX11_readAs 4 = .ok (.invokevirtual 161, 3) := by decide +kernel
theorem dX11_readAs_7 : decode cX11_readAs 7 = .ok (.iconst 1, 1) := by decide +kernel
theorem dX11_readAs_8 : decode cX11_readAs 8 = .ok (.iadd, 1) := by decide +kernel
theorem dX11_readAs_9 : decode cX11_readAs 9 = .ok (.istore_n 3, 1) := by decide +kernel
theorem dX11_readAs_10 : decode cX11_readAs 10 = .ok (.iconst 0, 1) := by decide +kernel
theorem dX11_readAs_11 : decode cX11_readAs 11 = .ok (.istore 4, 2) := by decide +kernel
theorem dX11_readAs_13 : decode cX11_readAs 13 = .ok (.iload 4, 2) := by decide +kernel
theorem dX11_readAs_15 : decode cX11_readAs 15 = .ok (.aload_n 0, 1) := by decide +kernel
theorem dX11_readAs_16 : decode cX11_readAs 16 = .ok (.getfield 14, 3) := by decide +kernel
theorem dX11_readAs_19 : decode cX11_readAs 19 = .ok (.getfield 77, 3) := by decide +kernel
theorem dX11_readAs_22 : decode cX11_readAs 22 = .ok (.getfield 179, 3) := by decide +kernel
theorem dX11_readAs_25 : decode cX11_readAs 25 = .ok (.if_icmp .ge 39, 3) := by decide +kernel
theorem dX11_readAs_28 : decode cX11_readAs 28 = .ok (.iload_n 1, 1) := by decide +kernel
theorem dX11_readAs_29 : decode cX11_readAs 29 = .ok (.aload_n 0, 1) := by decide +kernel
theorem dX11_readAs_30 : decode cX11_readAs 30 = .ok (.getfield 14, 3) := by decide +kernel
theorem dX11_readAs_33 : decode cX11_readAs 33 = .ok (.getfield 77, 3) := by decide +kernel
theorem dX11_readAs_36 : decode cX11_readAs 36 = .ok (.iload 4, 2) := by decide +kernel
theorem dX11_readAs_38 : decode cX11_readAs 38 = .ok (.invokevirtual 91, 3) := by decide +kernel
theorem dX11_readAs_41 : decode cX11_readAs 41 = .ok (.invokestatic 282, 3) := by decide +kernel
theorem dX11_readAs_44 : decode cX11_readAs 44 = .ok (.istore 5, 2) := by decide +kernel
theorem dX11_readAs_46 : decode cX11_readAs 46 = .ok (.iload 5, 2) := by decide +kernel
theorem dX11_readAs_48 : decode cX11_readAs 48 = .ok (.iload_n 3, 1) := by decide +kernel
theorem dX11_readAs_49 : decode cX11_readAs 49 = .ok (.if_icmp .ge 9, 3) := by decide +kernel
theorem dX11_readAs_52 : decode cX11_readAs 52 = .ok (.iload 5, 2) := by decide +kernel
theorem dX11_readAs_54 : decode cX11_readAs 54 = .ok (.istore_n 3, 1) := by decide +kernel
theorem dX11_readAs_55 : decode cX11_readAs 55 = .ok (.iload 4, 2) := by decide +kernel
theorem dX11_readAs_57 : decode cX11_readAs 57 = .ok (.istore_n 2, 1) := by decide +kernel
theorem dX11_readAs_58 : decode cX11_readAs 58 = .ok (.iinc 4 1, 3) := by decide +kernel
theorem dX11_readAs_61 : decode cX11_readAs 61 = .ok (.goto (-48), 3) := by decide +kernel
theorem dX11_readAs_64 : decode cX11_readAs 64 = .ok (.iload_n 2, 1) := by decide +kernel
theorem dX11_readAs_65 : decode cX11_readAs 65 = .ok (.ireturn, 1) := by decide +kernel
theorem dX11_comes_0 : decode cX11_comes 0 = .ok (.aload_n 0, 1) := by decide +kernel
theorem dX11_comes_1 : decode cX11_comes 1 = .ok (.aload_n 0, 1) := by decide +kernel
theorem dX11_comes_2 : decode cX11_comes 2 = .ok (.iload_n 1, 1) := by decide +kernel
theorem dX11_comes_3 : decode cX11_comes 3 = .ok (.aload_n 0, 1) := by decide +kernel
theorem dX11_comes_4 : decode cX11_comes 4 = .ok (.getfield 14, 3) := by decide +kernel
theorem dX11_comes_7 : decode cX11_comes 7 = .ok (.getfield 115, 3) := by decide +kernel
theorem dX11_comes_10 : decode cX11_comes 10 = .ok (.iload_n 1, 1) := by decide +kernel
theorem dX11_comes_11 : decode cX11_comes 11 = .ok (.aaload, 1) := by decide +kernel
theorem dX11_comes_12 : decode cX11_comes 12 = .ok (.getfield 124, 3) := by decide +kernel
theorem dX11_comes_15 : decode cX11_comes 15 = .ok (.iload_n 3, 1) := by decide +kernel
theorem dX11_comes_16 : decode cX11_comes 16 = .ok (.aload_n 0, 1) := by decide +kernel
theorem dX11_comes_17 : decode cX11_comes 17 = .ok (.getfield 14, 3) := by decide +kernel
theorem dX11_comes_20 : decode cX11_comes 20 = .ok (.getfield 77, 3) := by decide +kernel
theorem dX11_comes_23 : decode cX11_comes 23 = .ok (.iload_n 2, 1) := by decide +kernel
theorem dX11_comes_24 : decode cX11_comes 24 = .ok (.invokevirtual 91, 3) := by decide +kernel
theorem dX11_comes_27 : decode cX11_comes 27 = .ok (.invokevirtual 209, 3) := by decide +kernel
theorem dX11_comes_30 : decode cX11_comes 30 = .ok (.invokevirtual 140, 3) := by decide +kernel
theorem dX11_comes_33 : decode cX11_comes 33 = .ok (.iload_n 2, 1) := by decide +kernel
theorem dX11_comes_34 : decode cX11_comes 34 = .ok (.if_icmp .ne 7, 3) := by decide +kernel
theorem dX11_comes_37 : decode cX11_comes 37 = .ok (.iconst 1, 1) := by decide +kernel
theorem dX11_comes_38 : decode cX11_comes 38 = .ok (.goto 4, 3) := by decide +kernel
theorem dX11_comes_41 : decode cX11_comes 41 = .ok (.iconst 0, 1) := by decide +kernel
theorem dX11_comes_42 : decode cX11_comes 42 = .ok (.ireturn, 1) := by decide +kernel
theorem dX11_wordsThrough_0 : decode cX11_wordsThrough 0 = .ok (.iconst 0, 1) := by decide +kernel
theorem dX11_wordsThrough_1 : decode cX11_wordsThrough 1 = .ok (.istore_n 2, 1) := by decide +kernel
theorem dX11_wordsThrough_2 : decode cX11_wordsThrough 2 = .ok (.iconst 0, 1) := by decide +kernel
theorem dX11_wordsThrough_3 : decode cX11_wordsThrough 3 = .ok (.istore_n 3, 1) := by decide +kernel
theorem dX11_wordsThrough_4 : decode cX11_wordsThrough 4 = .ok (.iload_n 3, 1) := by decide +kernel
theorem dX11_wordsThrough_5 : decode cX11_wordsThrough 5 = .ok (.aload_n 0, 1) := by decide +kernel
theorem dX11_wordsThrough_6 : decode cX11_wordsThrough 6 = .ok (.getfield 14, 3) := by decide +kernel
theorem dX11_wordsThrough_9 : decode cX11_wordsThrough 9 = .ok (.getfield 77, 3) := by decide +kernel
theorem dX11_wordsThrough_12 : decode cX11_wordsThrough 12 = .ok (.getfield 179, 3) := by decide +kernel
theorem dX11_wordsThrough_15 : decode cX11_wordsThrough 15 = .ok (.if_icmp .ge 31, 3) := by decide +kernel
theorem dX11_wordsThrough_18 : decode cX11_wordsThrough 18 = .ok (.aload_n 0, 1) := by decide +kernel
theorem dX11_wordsThrough_19 : decode cX11_wordsThrough 19 = .ok (.iload_n 1, 1) := by decide +kernel
theorem dX11_wordsThrough_20 : decode cX11_wordsThrough 20 = .ok (.iload_n 3, 1) := by decide +kernel
theorem dX11_wordsThrough_21 : decode cX11_wordsThrough 21 = .ok (.aload_n 0, 1) := by decide +kernel
theorem dX11_wordsThrough_22 : decode cX11_wordsThrough 22 = .ok (.getfield 14, 3) := by decide +kernel
theorem dX11_wordsThrough_25 : decode cX11_wordsThrough 25 = .ok (.getfield 158, 3) := by decide +kernel
theorem dX11_wordsThrough_28 : decode cX11_wordsThrough 28 = .ok (.invokevirtual 175, 3) := by decide +kernel
theorem dX11_wordsThrough_31 : decode cX11_wordsThrough 31 = .ok (.ifCond .eq 9, 3) := by decide +kernel
theorem dX11_wordsThrough_34 : decode cX11_wordsThrough 34 = .ok (.iload_n 2, 1) := by decide +kernel
theorem dX11_wordsThrough_35 : decode cX11_wordsThrough 35 = .ok (.iconst 1, 1) := by decide +kernel
theorem dX11_wordsThrough_36 : decode cX11_wordsThrough 36 = .ok (.iload_n 3, 1) := by decide +kernel
theorem dX11_wordsThrough_37 : decode cX11_wordsThrough 37 = .ok (.ishl, 1) := by decide +kernel
theorem dX11_wordsThrough_38 : decode cX11_wordsThrough 38 = .ok (.ior, 1) := by decide +kernel
theorem dX11_wordsThrough_39 : decode cX11_wordsThrough 39 = .ok (.istore_n 2, 1) := by decide +kernel
theorem dX11_wordsThrough_40 : decode cX11_wordsThrough 40 = .ok (.iinc 3 1, 3) := by decide +kernel
theorem dX11_wordsThrough_43 : decode cX11_wordsThrough 43 = .ok (.goto (-39), 3) := by decide +kernel
theorem dX11_wordsThrough_46 : decode cX11_wordsThrough 46 = .ok (.iload_n 2, 1) := by decide +kernel
theorem dX11_wordsThrough_47 : decode cX11_wordsThrough 47 = .ok (.ireturn, 1) := by decide +kernel
theorem dX11_unlikeSigns_0 : decode cX11_unlikeSigns 0 = .ok (.iconst 0, 1) := by decide +kernel
theorem dX11_unlikeSigns_1 : decode cX11_unlikeSigns 1 = .ok (.istore_n 2, 1) := by decide +kernel
theorem dX11_unlikeSigns_2 : decode cX11_unlikeSigns 2 = .ok (.iload_n 2, 1) := by decide +kernel
theorem dX11_unlikeSigns_3 : decode cX11_unlikeSigns 3 = .ok (.aload_n 0, 1) := by decide +kernel
theorem dX11_unlikeSigns_4 : decode cX11_unlikeSigns 4 = .ok (.getfield 62, 3) := by decide +kernel
theorem dX11_unlikeSigns_7 : decode cX11_unlikeSigns 7 = .ok (.arraylength, 1) := by decide +kernel
theorem dX11_unlikeSigns_8 : decode cX11_unlikeSigns 8 = .ok (.if_icmp .ge 16, 3) := by decide +kernel
theorem dX11_unlikeSigns_11 : decode cX11_unlikeSigns 11 = .ok (.aload_n 0, 1) := by decide +kernel
theorem dX11_unlikeSigns_12 : decode cX11_unlikeSigns 12 = .ok (.getfield 62, 3) := by decide +kernel
theorem dX11_unlikeSigns_15 : decode cX11_unlikeSigns 15 = .ok (.iload_n 2, 1) := by decide +kernel
theorem dX11_unlikeSigns_16 : decode cX11_unlikeSigns 16 = .ok (.lconst 0, 1) := by decide +kernel
theorem dX11_unlikeSigns_17 : decode cX11_unlikeSigns 17 = .ok (.lastore, 1) := by decide +kernel
theorem dX11_unlikeSigns_18 : decode cX11_unlikeSigns 18 = .ok (.iinc 2 1, 3) := by decide +kernel
theorem dX11_unlikeSigns_21 : decode cX11_unlikeSigns 21 = .ok (.goto (-19), 3) := by decide +kernel
theorem dX11_unlikeSigns_24 : decode cX11_unlikeSigns 24 = .ok (.iconst 0, 1) := by decide +kernel
theorem dX11_unlikeSigns_25 : decode cX11_unlikeSigns 25 = .ok (.istore_n 2, 1) := by decide +kernel
theorem dX11_unlikeSigns_26 : decode cX11_unlikeSigns 26 = .ok (.iload_n 2, 1) := by decide +kernel
theorem dX11_unlikeSigns_27 : decode cX11_unlikeSigns 27 = .ok (.sipush 1024, 3) := by decide +kernel
theorem dX11_unlikeSigns_30 : decode cX11_unlikeSigns 30 = .ok (.if_icmp .ge 34, 3) := by decide +kernel
theorem dX11_unlikeSigns_33 : decode cX11_unlikeSigns 33 = .ok (.aload_n 0, 1) := by decide +kernel
theorem dX11_unlikeSigns_34 : decode cX11_unlikeSigns 34 = .ok (.iload_n 1, 1) := by decide +kernel
theorem dX11_unlikeSigns_35 : decode cX11_unlikeSigns 35 = .ok (.iload_n 2, 1) := by decide +kernel
theorem dX11_unlikeSigns_36 : decode cX11_unlikeSigns 36 = .ok (.invokevirtual 136, 3) := by decide +kernel
theorem dX11_unlikeSigns_39 : decode cX11_unlikeSigns 39 = .ok (.istore_n 3, 1) := by decide +kernel
theorem dX11_unlikeSigns_40 : decode cX11_unlikeSigns 40 = .ok (.aload_n 0, 1) := by decide +kernel
theorem dX11_unlikeSigns_41 : decode cX11_unlikeSigns 41 = .ok (.getfield 62, 3) := by decide +kernel
theorem dX11_unlikeSigns_44 : decode cX11_unlikeSigns 44 = .ok (.iload_n 3, 1) := by decide +kernel
theorem dX11_unlikeSigns_45 : decode cX11_unlikeSigns 45 = .ok (.bipush 64, 2) := by decide +kernel
theorem dX11_unlikeSigns_47 : decode cX11_unlikeSigns 47 = .ok (.idiv, 1) := by decide +kernel
theorem dX11_unlikeSigns_48 : decode cX11_unlikeSigns 48 = .ok (.dup2, 1) := by decide +kernel
theorem dX11_unlikeSigns_49 : decode cX11_unlikeSigns 49 = .ok (.laload, 1) := by decide +kernel
theorem dX11_unlikeSigns_50 : decode cX11_unlikeSigns 50 = .ok (.lconst 1, 1) := by decide +kernel
theorem dX11_unlikeSigns_51 : decode cX11_unlikeSigns 51 = .ok (.iload_n 3, 1) := by decide +kernel
theorem dX11_unlikeSigns_52 : decode cX11_unlikeSigns 52 = .ok (.bipush 64, 2) := by decide +kernel
theorem dX11_unlikeSigns_54 : decode cX11_unlikeSigns 54 = .ok (.irem, 1) := by decide +kernel
theorem dX11_unlikeSigns_55 : decode cX11_unlikeSigns 55 = .ok (.lshl, 1) := by decide +kernel
theorem dX11_unlikeSigns_56 : decode cX11_unlikeSigns 56 = .ok (.lor, 1) := by decide +kernel
theorem dX11_unlikeSigns_57 : decode cX11_unlikeSigns 57 = .ok (.lastore, 1) := by decide +kernel
theorem dX11_unlikeSigns_58 : decode cX11_unlikeSigns 58 = .ok (.iinc 2 1, 3) := by decide +kernel
theorem dX11_unlikeSigns_61 : decode cX11_unlikeSigns 61 = .ok (.goto (-35), 3) := by decide +kernel
theorem dX11_unlikeSigns_64 : decode cX11_unlikeSigns 64 = .ok (.iconst 0, 1) := by decide +kernel
theorem dX11_unlikeSigns_65 : decode cX11_unlikeSigns 65 = .ok (.istore_n 2, 1) := by decide +kernel
theorem dX11_unlikeSigns_66 : decode cX11_unlikeSigns 66 = .ok (.iconst 0, 1) := by decide +kernel
theorem dX11_unlikeSigns_67 : decode cX11_unlikeSigns 67 = .ok (.istore_n 3, 1) := by decide +kernel
theorem dX11_unlikeSigns_68 : decode cX11_unlikeSigns 68 = .ok (.iload_n 3, 1) := by decide +kernel
theorem dX11_unlikeSigns_69 : decode cX11_unlikeSigns 69 = .ok (.aload_n 0, 1) := by decide +kernel
theorem dX11_unlikeSigns_70 : decode cX11_unlikeSigns 70 = .ok (.getfield 62, 3) := by decide +kernel
theorem dX11_unlikeSigns_73 : decode cX11_unlikeSigns 73 = .ok (.arraylength, 1) := by decide +kernel
theorem dX11_unlikeSigns_74 : decode cX11_unlikeSigns 74 = .ok (.if_icmp .ge 21, 3) := by decide +kernel
theorem dX11_unlikeSigns_77 : decode cX11_unlikeSigns 77 = .ok (.iload_n 2, 1) := by decide +kernel
theorem dX11_unlikeSigns_78 : decode cX11_unlikeSigns 78 = .ok (.aload_n 0, 1) := by decide +kernel
theorem dX11_unlikeSigns_79 : decode cX11_unlikeSigns 79 = .ok (.getfield 62, 3) := by decide +kernel
theorem dX11_unlikeSigns_82 : decode cX11_unlikeSigns 82 = .ok (.iload_n 3, 1) := by decide +kernel
theorem dX11_unlikeSigns_83 : decode cX11_unlikeSigns 83 = .ok (.laload, 1) := by decide +kernel
theorem dX11_unlikeSigns_84 : decode cX11_unlikeSigns 84 = .ok (.invokestatic 285, 3) := by decide +kernel
theorem dX11_unlikeSigns_87 : decode cX11_unlikeSigns 87 = .ok (.iadd, 1) := by decide +kernel
theorem dX11_unlikeSigns_88 : decode cX11_unlikeSigns 88 = .ok (.istore_n 2, 1) := by decide +kernel
theorem dX11_unlikeSigns_89 : decode cX11_unlikeSigns 89 = .ok (.iinc 3 1, 3) := by decide +kernel
theorem dX11_unlikeSigns_92 : decode cX11_unlikeSigns 92 = .ok (.goto (-24), 3) := by decide +kernel
theorem dX11_unlikeSigns_95 : decode cX11_unlikeSigns 95 = .ok (.iload_n 2, 1) := by decide +kernel
theorem dX11_unlikeSigns_96 : decode cX11_unlikeSigns 96 = .ok (.ireturn, 1) := by decide +kernel
theorem dX11_closestWords_0 : decode cX11_closestWords 0 = .ok (.bipush 11, 2) := by decide +kernel
theorem dX11_closestWords_2 : decode cX11_closestWords 2 = .ok (.istore_n 2, 1) := by decide +kernel
theorem dX11_closestWords_3 : decode cX11_closestWords 3 = .ok (.bipush (-5), 2) := by decide +kernel
theorem dX11_closestWords_5 : decode cX11_closestWords 5 = .ok (.istore_n 3, 1) := by decide +kernel
theorem dX11_closestWords_6 : decode cX11_closestWords 6 = .ok (.iconst 0, 1) := by decide +kernel
theorem dX11_closestWords_7 : decode cX11_closestWords 7 = .ok (.istore 4, 2) := by decide +kernel
theorem dX11_closestWords_9 : decode cX11_closestWords 9 = .ok (.iload 4, 2) := by decide +kernel
theorem dX11_closestWords_11 : decode cX11_closestWords 11 = .ok (.aload_n 0, 1) := by decide +kernel
theorem dX11_closestWords_12 : decode cX11_closestWords 12 = .ok (.getfield 14, 3) := by decide +kernel
theorem dX11_closestWords_15 : decode cX11_closestWords 15 = .ok (.getfield 77, 3) := by decide +kernel
theorem dX11_closestWords_18 : decode cX11_closestWords 18 = .ok (.getfield 179, 3) := by decide +kernel
theorem dX11_closestWords_21 : decode cX11_closestWords 21 = .ok (.if_icmp .ge 83, 3) := by decide +kernel
theorem dX11_closestWords_24 : decode cX11_closestWords 24 = .ok (.iload 4, 2) := by decide +kernel
theorem dX11_closestWords_26 : decode cX11_closestWords 26 = .ok (.iconst 1, 1) := by decide +kernel
theorem dX11_closestWords_27 : decode cX11_closestWords 27 = .ok (.iadd, 1) := by decide +kernel
theorem dX11_closestWords_28 : decode cX11_closestWords 28 = .ok (.istore 5, 2) := by decide +kernel
theorem dX11_closestWords_30 : decode cX11_closestWords 30 = .ok (.iload 5, 2) := by decide +kernel
theorem dX11_closestWords_32 : decode cX11_closestWords 32 = .ok (.aload_n 0, 1) := by decide +kernel
theorem dX11_closestWords_33 : decode cX11_closestWords 33 = .ok (.getfield 14, 3) := by decide +kernel
theorem dX11_closestWords_36 : decode cX11_closestWords 36 = .ok (.getfield 77, 3) := by decide +kernel
theorem dX11_closestWords_39 : decode cX11_closestWords 39 = .ok (.getfield 179, 3) := by decide +kernel
theorem dX11_closestWords_42 : decode cX11_closestWords 42 = .ok (.if_icmp .ge 56, 3) := by decide +kernel
theorem dX11_closestWords_45 : decode cX11_closestWords 45 = .ok (.aload_n 0, 1) := by decide +kernel
theorem dX11_closestWords_46 : decode cX11_closestWords 46 = .ok (.getfield 14, 3) := by decide +kernel
theorem dX11_closestWords_49 : decode cX11_closestWords 49 = .ok (.getfield 77, 3) := by decide +kernel
theorem dX11_closestWords_52 : decode cX11_closestWords 52 = .ok (.iload 4, 2) := by decide +kernel
theorem dX11_closestWords_54 : decode cX11_closestWords 54 = .ok (.invokevirtual 91, 3) := by decide +kernel
theorem dX11_closestWords_57 : decode cX11_closestWords 57 = .ok (.aload_n 0, 1) := by decide +kernel
theorem dX11_closestWords_58 : decode cX11_closestWords 58 = .ok (.getfield 14, 3) := by decide +kernel
theorem dX11_closestWords_61 : decode cX11_closestWords 61 = .ok (.getfield 77, 3) := by decide +kernel
theorem dX11_closestWords_64 : decode cX11_closestWords 64 = .ok (.iload 5, 2) := by decide +kernel
theorem dX11_closestWords_66 : decode cX11_closestWords 66 = .ok (.invokevirtual 91, 3) := by decide +kernel
theorem dX11_closestWords_69 : decode cX11_closestWords 69 = .ok (.invokestatic 282, 3) := by decide +kernel
theorem dX11_closestWords_72 : decode cX11_closestWords 72 = .ok (.istore 6, 2) := by decide +kernel
theorem dX11_closestWords_74 : decode cX11_closestWords 74 = .ok (.iload 6, 2) := by decide +kernel
theorem dX11_closestWords_76 : decode cX11_closestWords 76 = .ok (.iload_n 2, 1) := by decide +kernel
theorem dX11_closestWords_77 : decode cX11_closestWords 77 = .ok (.if_icmp .ge 15, 3) := by decide +kernel
theorem dX11_closestWords_80 : decode cX11_closestWords 80 = .ok (.iload 6, 2) := by decide +kernel
theorem dX11_closestWords_82 : decode cX11_closestWords 82 = .ok (.istore_n 2, 1) := by decide +kernel
theorem dX11_closestWords_83 : decode cX11_closestWords 83 = .ok (.bipush 10, 2) := by decide +kernel
theorem dX11_closestWords_85 : decode cX11_closestWords 85 = .ok (.iload 4, 2) := by decide +kernel
theorem dX11_closestWords_87 : decode cX11_closestWords 87 = .ok (.imul, 1) := by decide +kernel
theorem dX11_closestWords_88 : decode cX11_closestWords 88 = .ok (.iload 5, 2) := by decide +kernel
theorem dX11_closestWords_90 : decode cX11_closestWords 90 = .ok (.iadd, 1) := by decide +kernel
theorem dX11_closestWords_91 : decode cX11_closestWords 91 = .ok (.istore_n 3, 1) := by decide +kernel
theorem dX11_closestWords_92 : decode cX11_closestWords 92 = .ok (.iinc 5 1, 3) := by decide +kernel
theorem dX11_closestWords_95 : decode cX11_closestWords 95 = .ok (.goto (-65), 3) := by decide +kernel
theorem dX11_closestWords_98 : decode cX11_closestWords 98 = .ok (.iinc 4 1, 3) := by decide +kernel
theorem dX11_closestWords_101 : decode cX11_closestWords 101 = .ok (.goto (-92), 3) := by decide +kernel
theorem dX11_closestWords_104 : decode cX11_closestWords 104 = .ok (.iload_n 1, 1) := by decide +kernel
theorem dX11_closestWords_105 : decode cX11_closestWords 105 = .ok (.ifCond .ne 9, 3) := by decide +kernel
theorem dX11_closestWords_108 : decode cX11_closestWords 108 = .ok (.iload_n 3, 1) := by decide +kernel
theorem dX11_closestWords_109 : decode cX11_closestWords 109 = .ok (.bipush (-5), 2) := by decide +kernel
theorem dX11_closestWords_111 : decode cX11_closestWords 111 = .ok (.if_icmp .ne 7, 3) := by decide +kernel
theorem dX11_closestWords_114 : decode cX11_closestWords 114 = .ok (.iload_n 3, 1) := by decide +kernel
theorem dX11_closestWords_115 : decode cX11_closestWords 115 = .ok (.goto 4, 3) := by decide +kernel
theorem dX11_closestWords_118 : decode cX11_closestWords 118 = .ok (.iload_n 2, 1) := by decide +kernel
theorem dX11_closestWords_119 : decode cX11_closestWords 119 = .ok (.ireturn, 1) := by decide +kernel
theorem dX11_newSign_0 : decode cX11_newSign 0 = .ok (.aload_n 0, 1) := by decide +kernel
theorem dX11_newSign_1 : decode cX11_newSign 1 = .ok (.getfield 14, 3) := by decide +kernel
theorem dX11_newSign_4 : decode cX11_newSign 4 = .ok (.getfield 77, 3) := by decide +kernel
theorem dX11_newSign_7 : decode cX11_newSign 7 = .ok (.getfield 179, 3) := by decide +kernel
theorem dX11_newSign_10 : decode cX11_newSign 10 = .ok (.ifCond .ne 14, 3) := by decide +kernel
theorem dX11_newSign_13 : decode cX11_newSign 13 = .ok (.iload_n 1, 1) := by decide +kernel
theorem dX11_newSign_14 : decode cX11_newSign 14 = .ok (.ifCond .eq 8, 3) := by decide +kernel
theorem dX11_newSign_17 : decode cX11_newSign 17 = .ok (.bipush (-5), 2) := by decide +kernel
theorem dX11_newSign_19 : decode cX11_newSign 19 = .ok (.goto 4, 3) := by decide +kernel
theorem dX11_newSign_22 : decode cX11_newSign 22 = .ok (.iconst 0, 1) := by decide +kernel
theorem dX11_newSign_23 : decode cX11_newSign 23 = .ok (.ireturn, 1) := by decide +kernel
theorem dX11_newSign_24 : decode cX11_newSign 24 = .ok (.iconst (-1), 1) := by decide +kernel
theorem dX11_newSign_25 : decode cX11_newSign 25 = .ok (.istore_n 2, 1) := by decide +kernel
theorem dX11_newSign_26 : decode cX11_newSign 26 = .ok (.iconst 0, 1) := by decide +kernel
theorem dX11_newSign_27 : decode cX11_newSign 27 = .ok (.istore_n 3, 1) := by decide +kernel
theorem dX11_newSign_28 : decode cX11_newSign 28 = .ok (.iconst 0, 1) := by decide +kernel
theorem dX11_newSign_29 : decode cX11_newSign 29 = .ok (.istore 4, 2) := by decide +kernel
theorem dX11_newSign_31 : decode cX11_newSign 31 = .ok (.iload 4, 2) := by decide +kernel
theorem dX11_newSign_33 : decode cX11_newSign 33 = .ok (.sipush 1024, 3) := by decide +kernel
theorem dX11_newSign_36 : decode cX11_newSign 36 = .ok (.if_icmp .ge 29, 3) := by decide +kernel
theorem dX11_newSign_39 : decode cX11_newSign 39 = .ok (.aload_n 0, 1) := by decide +kernel
theorem dX11_newSign_40 : decode cX11_newSign 40 = .ok (.iload 4, 2) := by decide +kernel
theorem dX11_newSign_42 : decode cX11_newSign 42 = .ok (.invokevirtual 288, 3) := by decide +kernel
theorem dX11_newSign_45 : decode cX11_newSign 45 = .ok (.istore 5, 2) := by decide +kernel
theorem dX11_newSign_47 : decode cX11_newSign 47 = .ok (.iload 5, 2) := by decide +kernel
theorem dX11_newSign_49 : decode cX11_newSign 49 = .ok (.iload_n 2, 1) := by decide +kernel
theorem dX11_newSign_50 : decode cX11_newSign 50 = .ok (.if_icmp .le 9, 3) := by decide +kernel
theorem dX11_newSign_53 : decode cX11_newSign 53 = .ok (.iload 5, 2) := by decide +kernel
theorem dX11_newSign_55 : decode cX11_newSign 55 = .ok (.istore_n 2, 1) := by decide +kernel
theorem dX11_newSign_56 : decode cX11_newSign 56 = .ok (.iload 4, 2) := by decide +kernel
theorem dX11_newSign_58 : decode cX11_newSign 58 = .ok (.istore_n 3, 1) := by decide +kernel
theorem dX11_newSign_59 : decode cX11_newSign 59 = .ok (.iinc 4 1, 3) := by decide +kernel
theorem dX11_newSign_62 : decode cX11_newSign 62 = .ok (.goto (-31), 3) := by decide +kernel
theorem dX11_newSign_65 : decode cX11_newSign 65 = .ok (.iload_n 1, 1) := by decide +kernel
theorem dX11_newSign_66 : decode cX11_newSign 66 = .ok (.ifCond .eq 7, 3) := by decide +kernel
theorem dX11_newSign_69 : decode cX11_newSign 69 = .ok (.iload_n 2, 1) := by decide +kernel
theorem dX11_newSign_70 : decode cX11_newSign 70 = .ok (.goto 4, 3) := by decide +kernel
theorem dX11_newSign_73 : decode cX11_newSign 73 = .ok (.iload_n 3, 1) := by decide +kernel
theorem dX11_newSign_74 : decode cX11_newSign 74 = .ok (.ireturn, 1) := by decide +kernel
theorem dX11_leastApart_0 : decode cX11_leastApart 0 = .ok (.bipush 11, 2) := by decide +kernel
theorem dX11_leastApart_2 : decode cX11_leastApart 2 = .ok (.istore_n 2, 1) := by decide +kernel
theorem dX11_leastApart_3 : decode cX11_leastApart 3 = .ok (.iconst 0, 1) := by decide +kernel
theorem dX11_leastApart_4 : decode cX11_leastApart 4 = .ok (.istore_n 3, 1) := by decide +kernel
theorem dX11_leastApart_5 : decode cX11_leastApart 5 = .ok (.iload_n 3, 1) := by decide +kernel
theorem dX11_leastApart_6 : decode cX11_leastApart 6 = .ok (.aload_n 0, 1) := by decide +kernel
theorem dX11_leastApart_7 : decode cX11_leastApart 7 = .ok (.getfield 14, 3) := by decide +kernel
theorem dX11_leastApart_10 : decode cX11_leastApart 10 = .ok (.getfield 77, 3) := by decide +kernel
theorem dX11_leastApart_13 : decode cX11_leastApart 13 = .ok (.getfield 179, 3) := by decide +kernel
theorem dX11_leastApart_16 : decode cX11_leastApart 16 = .ok (.if_icmp .ge 29, 3) := by decide +kernel
theorem dX11_leastApart_19 : decode cX11_leastApart 19 = .ok (.iload_n 2, 1) := by decide +kernel
theorem dX11_leastApart_20 : decode cX11_leastApart 20 = .ok (.iload_n 1, 1) := by decide +kernel
theorem dX11_leastApart_21 : decode cX11_leastApart 21 = .ok (.aload_n 0, 1) := by decide +kernel
theorem dX11_leastApart_22 : decode cX11_leastApart 22 = .ok (.getfield 14, 3) := by decide +kernel
theorem dX11_leastApart_25 : decode cX11_leastApart 25 = .ok (.getfield 77, 3) := by decide +kernel
theorem dX11_leastApart_28 : decode cX11_leastApart 28 = .ok (.iload_n 3, 1) := by decide +kernel
theorem dX11_leastApart_29 : decode cX11_leastApart 29 = .ok (.invokevirtual 91, 3) := by decide +kernel
theorem dX11_leastApart_32 : decode cX11_leastApart 32 = .ok (.invokestatic 282, 3) := by decide +kernel
theorem dX11_leastApart_35 : decode cX11_leastApart 35 = .ok (.invokestatic 291, 3) := by decide +kernel
theorem dX11_leastApart_38 : decode cX11_leastApart 38 = .ok (.istore_n 2, 1) := by decide +kernel
theorem dX11_leastApart_39 : decode cX11_leastApart 39 = .ok (.iinc 3 1, 3) := by decide +kernel
theorem dX11_leastApart_42 : decode cX11_leastApart 42 = .ok (.goto (-37), 3) := by decide +kernel
theorem dX11_leastApart_45 : decode cX11_leastApart 45 = .ok (.iload_n 2, 1) := by decide +kernel
theorem dX11_leastApart_46 : decode cX11_leastApart 46 = .ok (.ireturn, 1) := by decide +kernel
theorem dX11_leastPassed_0 : decode cX11_leastPassed 0 = .ok (.iconst 0, 1) := by decide +kernel
theorem dX11_leastPassed_1 : decode cX11_leastPassed 1 = .ok (.istore_n 2, 1) := by decide +kernel
theorem dX11_leastPassed_2 : decode cX11_leastPassed 2 = .ok (.iload_n 2, 1) := by decide +kernel
theorem dX11_leastPassed_3 : decode cX11_leastPassed 3 = .ok (.iconst 5, 1) := by decide +kernel
theorem dX11_leastPassed_4 : decode cX11_leastPassed 4 = .ok (.if_icmp .ge 16, 3) := by decide +kernel
theorem dX11_leastPassed_7 : decode cX11_leastPassed 7 = .ok (.aload_n 0, 1) := by decide +kernel
theorem dX11_leastPassed_8 : decode cX11_leastPassed 8 = .ok (.getfield 66, 3) := by decide +kernel
theorem dX11_leastPassed_11 : decode cX11_leastPassed 11 = .ok (.iload_n 2, 1) := by decide +kernel
theorem dX11_leastPassed_12 : decode cX11_leastPassed 12 = .ok (.iload_n 2, 1) := by decide +kernel
theorem dX11_leastPassed_13 : decode cX11_leastPassed 13 = .ok (.iastore, 1) := by decide +kernel
theorem dX11_leastPassed_14 : decode cX11_leastPassed 14 = .ok (.iinc 2 1, 3) := by decide +kernel
theorem dX11_leastPassed_17 : decode cX11_leastPassed 17 = .ok (.goto (-15), 3) := by decide +kernel
theorem dX11_leastPassed_20 : decode cX11_leastPassed 20 = .ok (.bipush 11, 2) := by decide +kernel
theorem dX11_leastPassed_22 : decode cX11_leastPassed 22 = .ok (.istore_n 2, 1) := by decide +kernel
theorem dX11_leastPassed_23 : decode cX11_leastPassed 23 = .ok (.iconst 1, 1) := by decide +kernel
theorem dX11_leastPassed_24 : decode cX11_leastPassed 24 = .ok (.istore_n 3, 1) := by decide +kernel
theorem dX11_leastPassed_25 : decode cX11_leastPassed 25 = .ok (.iconst 0, 1) := by decide +kernel
theorem dX11_leastPassed_26 : decode cX11_leastPassed 26 = .ok (.istore 4, 2) := by decide +kernel
theorem dX11_leastPassed_28 : decode cX11_leastPassed 28 = .ok (.iload 4, 2) := by decide +kernel
theorem dX11_leastPassed_30 : decode cX11_leastPassed 30 = .ok (.bipush 120, 2) := by decide +kernel
theorem dX11_leastPassed_32 : decode cX11_leastPassed 32 = .ok (.if_icmp .ge 59, 3) := by decide +kernel
theorem dX11_leastPassed_35 : decode cX11_leastPassed 35 = .ok (.iload_n 3, 1) := by decide +kernel
theorem dX11_leastPassed_36 : decode cX11_leastPassed 36 = .ok (.ifCond .eq 55, 3) := by decide +kernel
theorem dX11_leastPassed_39 : decode cX11_leastPassed 39 = .ok (.iload_n 1, 1) := by decide +kernel
theorem dX11_leastPassed_40 : decode cX11_leastPassed 40 = .ok (.aload_n 0, 1) := by decide +kernel
theorem dX11_leastPassed_41 : decode cX11_leastPassed 41 = .ok (.iload_n 1, 1) := by decide +kernel
theorem dX11_leastPassed_42 : decode cX11_leastPassed 42 = .ok (.invokevirtual 296, 3) := by decide +kernel
theorem dX11_leastPassed_45 : decode cX11_leastPassed 45 = .ok (.invokestatic 282, 3) := by decide +kernel
theorem dX11_leastPassed_48 : decode cX11_leastPassed 48 = .ok (.istore 5, 2) := by decide +kernel
theorem dX11_leastPassed_50 : decode cX11_leastPassed 50 = .ok (.iload 5, 2) := by decide +kernel
theorem dX11_leastPassed_52 : decode cX11_leastPassed 52 = .ok (.iload_n 2, 1) := by decide +kernel
theorem dX11_leastPassed_53 : decode cX11_leastPassed 53 = .ok (.if_icmp .ge 20, 3) := by decide +kernel
theorem dX11_leastPassed_56 : decode cX11_leastPassed 56 = .ok (.iload 5, 2) := by decide +kernel
theorem dX11_leastPassed_58 : decode cX11_leastPassed 58 = .ok (.istore_n 2, 1) := by decide +kernel
theorem dX11_leastPassed_59 : decode cX11_leastPassed 59 = .ok (.aload_n 0, 1) := by decide +kernel
theorem dX11_leastPassed_60 : decode cX11_leastPassed 60 = .ok (.getfield 66, 3) := by decide +kernel
theorem dX11_leastPassed_63 : decode cX11_leastPassed 63 = .ok (.iconst 0, 1) := by decide +kernel
theorem dX11_leastPassed_64 : decode cX11_leastPassed 64 = .ok (.aload_n 0, 1) := by decide +kernel
theorem dX11_leastPassed_65 : decode cX11_leastPassed 65 = .ok (.getfield 69, 3) := by decide +kernel
theorem dX11_leastPassed_68 : decode cX11_leastPassed 68 = .ok (.iconst 0, 1) := by decide +kernel
theorem dX11_leastPassed_69 : decode cX11_leastPassed 69 = .ok (.iconst 5, 1) := by decide +kernel
theorem dX11_leastPassed_70 : decode cX11_leastPassed 70 = .ok (.invokestatic 267, 3) := by decide +kernel
theorem dX11_leastPassed_73 : decode cX11_leastPassed 73 = .ok (.aload_n 0, 1) := by decide +kernel
theorem dX11_leastPassed_74 : decode cX11_leastPassed 74 = .ok (.aload_n 0, 1) := by decide +kernel
theorem dX11_leastPassed_75 : decode cX11_leastPassed 75 = .ok (.getfield 14, 3) := by decide +kernel
theorem dX11_leastPassed_78 : decode cX11_leastPassed 78 = .ok (.getfield 101, 3) := by decide +kernel
theorem dX11_leastPassed_81 : decode cX11_leastPassed 81 = .ok (.invokevirtual 299, 3) := by decide +kernel
theorem dX11_leastPassed_84 : decode cX11_leastPassed 84 = .ok (.istore_n 3, 1) := by decide +kernel
theorem dX11_leastPassed_85 : decode cX11_leastPassed 85 = .ok (.iinc 4 1, 3) := by decide +kernel
theorem dX11_leastPassed_88 : decode cX11_leastPassed 88 = .ok (.goto (-60), 3) := by decide +kernel
theorem dX11_leastPassed_91 : decode cX11_leastPassed 91 = .ok (.iload_n 2, 1) := by decide +kernel
theorem dX11_leastPassed_92 : decode cX11_leastPassed 92 = .ok (.ireturn, 1) := by decide +kernel
theorem dX11_handedOn_0 : decode cX11_handedOn 0 = .ok (.iload_n 1, 1) := by decide +kernel
theorem dX11_handedOn_1 : decode cX11_handedOn 1 = .ok (.istore_n 2, 1) := by decide +kernel
theorem dX11_handedOn_2 : decode cX11_handedOn 2 = .ok (.iconst 0, 1) := by decide +kernel
theorem dX11_handedOn_3 : decode cX11_handedOn 3 = .ok (.istore_n 3, 1) := by decide +kernel
theorem dX11_handedOn_4 : decode cX11_handedOn 4 = .ok (.iload_n 3, 1) := by decide +kernel
theorem dX11_handedOn_5 : decode cX11_handedOn 5 = .ok (.aload_n 0, 1) := by decide +kernel
theorem dX11_handedOn_6 : decode cX11_handedOn 6 = .ok (.getfield 14, 3) := by decide +kernel
theorem dX11_handedOn_9 : decode cX11_handedOn 9 = .ok (.getfield 101, 3) := by decide +kernel
theorem dX11_handedOn_12 : decode cX11_handedOn 12 = .ok (.if_icmp .ge 21, 3) := by decide +kernel
theorem dX11_handedOn_15 : decode cX11_handedOn 15 = .ok (.aload_n 0, 1) := by decide +kernel
theorem dX11_handedOn_16 : decode cX11_handedOn 16 = .ok (.aload_n 0, 1) := by decide +kernel
theorem dX11_handedOn_17 : decode cX11_handedOn 17 = .ok (.getfield 66, 3) := by decide +kernel
theorem dX11_handedOn_20 : decode cX11_handedOn 20 = .ok (.iload_n 3, 1) := by decide +kernel
theorem dX11_handedOn_21 : decode cX11_handedOn 21 = .ok (.iaload, 1) := by decide +kernel
theorem dX11_handedOn_22 : decode cX11_handedOn 22 = .ok (.iload_n 2, 1) := by decide +kernel
theorem dX11_handedOn_23 : decode cX11_handedOn 23 = .ok (.invokevirtual 136, 3) := by decide +kernel
theorem dX11_handedOn_26 : decode cX11_handedOn 26 = .ok (.istore_n 2, 1) := by decide +kernel
theorem dX11_handedOn_27 : decode cX11_handedOn 27 = .ok (.iinc 3 1, 3) := by decide +kernel
theorem dX11_handedOn_30 : decode cX11_handedOn 30 = .ok (.goto (-26), 3) := by decide +kernel
theorem dX11_handedOn_33 : decode cX11_handedOn 33 = .ok (.iload_n 2, 1) := by decide +kernel
theorem dX11_handedOn_34 : decode cX11_handedOn 34 = .ok (.ireturn, 1) := by decide +kernel
theorem dX11_nextOrder_0 : decode cX11_nextOrder 0 = .ok (.iload_n 1, 1) := by decide +kernel
theorem dX11_nextOrder_1 : decode cX11_nextOrder 1 = .ok (.iconst 2, 1) := by decide +kernel
theorem dX11_nextOrder_2 : decode cX11_nextOrder 2 = .ok (.isub, 1) := by decide +kernel
theorem dX11_nextOrder_3 : decode cX11_nextOrder 3 = .ok (.istore_n 2, 1) := by decide +kernel
theorem dX11_nextOrder_4 : decode cX11_nextOrder 4 = .ok (.iload_n 2, 1) := by decide +kernel
theorem dX11_nextOrder_5 : decode cX11_nextOrder 5 = .ok (.ifCond .lt 26, 3) := by decide +kernel
theorem dX11_nextOrder_8 : decode cX11_nextOrder 8 = .ok (.aload_n 0, 1) := by decide +kernel
theorem dX11_nextOrder_9 : decode cX11_nextOrder 9 = .ok (.getfield 66, 3) := by decide +kernel
theorem dX11_nextOrder_12 : decode cX11_nextOrder 12 = .ok (.iload_n 2, 1) := by decide +kernel
theorem dX11_nextOrder_13 : decode cX11_nextOrder 13 = .ok (.iaload, 1) := by decide +kernel
theorem dX11_nextOrder_14 : decode cX11_nextOrder 14 = .ok (.aload_n 0, 1) := by decide +kernel
theorem dX11_nextOrder_15 : decode cX11_nextOrder 15 = .ok (.getfield 66, 3) := by decide +kernel
theorem dX11_nextOrder_18 : decode cX11_nextOrder 18 = .ok (.iload_n 2, 1) := by decide +kernel
theorem dX11_nextOrder_19 : decode cX11_nextOrder 19 = .ok (.iconst 1, 1) := by decide +kernel
theorem dX11_nextOrder_20 : decode cX11_nextOrder 20 = .ok (.iadd, 1) := by decide +kernel
theorem dX11_nextOrder_21 : decode cX11_nextOrder 21 = .ok (.iaload, 1) := by decide +kernel
theorem dX11_nextOrder_22 : decode cX11_nextOrder 22 = .ok (.if_icmp .le 9, 3) := by decide +kernel
theorem dX11_nextOrder_25 : decode cX11_nextOrder 25 = .ok (.iinc 2 (-1), 3) := by decide +kernel
theorem dX11_nextOrder_28 : decode cX11_nextOrder 28 = .ok (.goto (-24), 3) := by decide +kernel
theorem dX11_nextOrder_31 : decode cX11_nextOrder 31 = .ok (.iload_n 2, 1) := by decide +kernel
theorem dX11_nextOrder_32 : decode cX11_nextOrder 32 = .ok (.ifCond .ge 5, 3) := by decide +kernel
theorem dX11_nextOrder_35 : decode cX11_nextOrder 35 = .ok (.iconst 0, 1) := by decide +kernel
theorem dX11_nextOrder_36 : decode cX11_nextOrder 36 = .ok (.ireturn, 1) := by decide +kernel
theorem dX11_nextOrder_37 : decode cX11_nextOrder 37 = .ok (.iload_n 1, 1) := by decide +kernel
theorem dX11_nextOrder_38 : decode cX11_nextOrder 38 = .ok (.iconst 1, 1) := by decide +kernel
theorem dX11_nextOrder_39 : decode cX11_nextOrder 39 = .ok (.isub, 1) := by decide +kernel
theorem dX11_nextOrder_40 : decode cX11_nextOrder 40 = .ok (.istore_n 3, 1) := by decide +kernel
theorem dX11_nextOrder_41 : decode cX11_nextOrder 41 = .ok (.iload_n 3, 1) := by decide +kernel
theorem dX11_nextOrder_42 : decode cX11_nextOrder 42 = .ok (.iload_n 2, 1) := by decide +kernel
theorem dX11_nextOrder_43 : decode cX11_nextOrder 43 = .ok (.if_icmp .le 24, 3) := by decide +kernel
theorem dX11_nextOrder_46 : decode cX11_nextOrder 46 = .ok (.aload_n 0, 1) := by decide +kernel
theorem dX11_nextOrder_47 : decode cX11_nextOrder 47 = .ok (.getfield 66, 3) := by decide +kernel
theorem dX11_nextOrder_50 : decode cX11_nextOrder 50 = .ok (.iload_n 3, 1) := by decide +kernel
theorem dX11_nextOrder_51 : decode cX11_nextOrder 51 = .ok (.iaload, 1) := by decide +kernel
theorem dX11_nextOrder_52 : decode cX11_nextOrder 52 = .ok (.aload_n 0, 1) := by decide +kernel
theorem dX11_nextOrder_53 : decode cX11_nextOrder 53 = .ok (.getfield 66, 3) := by decide +kernel
theorem dX11_nextOrder_56 : decode cX11_nextOrder 56 = .ok (.iload_n 2, 1) := by decide +kernel
theorem dX11_nextOrder_57 : decode cX11_nextOrder 57 = .ok (.iaload, 1) := by decide +kernel
theorem dX11_nextOrder_58 : decode cX11_nextOrder 58 = .ok (.if_icmp .ge 9, 3) := by decide +kernel
theorem dX11_nextOrder_61 : decode cX11_nextOrder 61 = .ok (.iinc 3 (-1), 3) := by decide +kernel
theorem dX11_nextOrder_64 : decode cX11_nextOrder 64 = .ok (.goto (-23), 3) := by decide +kernel
theorem dX11_nextOrder_67 : decode cX11_nextOrder 67 = .ok (.aload_n 0, 1) := by decide +kernel
theorem dX11_nextOrder_68 : decode cX11_nextOrder 68 = .ok (.iload_n 2, 1) := by decide +kernel
theorem dX11_nextOrder_69 : decode cX11_nextOrder 69 = .ok (.iload_n 3, 1) := by decide +kernel
theorem dX11_nextOrder_70 : decode cX11_nextOrder 70 = .ok (.invokevirtual 302, 3) := by decide +kernel
theorem dX11_nextOrder_73 : decode cX11_nextOrder 73 = .ok (.iload_n 1, 1) := by decide +kernel
theorem dX11_nextOrder_74 : decode cX11_nextOrder 74 = .ok (.iconst 1, 1) := by decide +kernel
theorem dX11_nextOrder_75 : decode cX11_nextOrder 75 = .ok (.isub, 1) := by decide +kernel
theorem dX11_nextOrder_76 : decode cX11_nextOrder 76 = .ok (.istore 4, 2) := by decide +kernel
theorem dX11_nextOrder_78 : decode cX11_nextOrder 78 = .ok (.iload_n 2, 1) := by decide +kernel
theorem dX11_nextOrder_79 : decode cX11_nextOrder 79 = .ok (.iconst 1, 1) := by decide +kernel
theorem dX11_nextOrder_80 : decode cX11_nextOrder 80 = .ok (.iadd, 1) := by decide +kernel
theorem dX11_nextOrder_81 : decode cX11_nextOrder 81 = .ok (.istore 5, 2) := by decide +kernel
theorem dX11_nextOrder_83 : decode cX11_nextOrder 83 = .ok (.iload 5, 2) := by decide +kernel
theorem dX11_nextOrder_85 : decode cX11_nextOrder 85 = .ok (.iload 4, 2) := by decide +kernel
theorem dX11_nextOrder_87 : decode cX11_nextOrder 87 = .ok (.if_icmp .ge 20, 3) := by decide +kernel
theorem dX11_nextOrder_90 : decode cX11_nextOrder 90 = .ok (.aload_n 0, 1) := by decide +kernel
theorem dX11_nextOrder_91 : decode cX11_nextOrder 91 = .ok (.iload 5, 2) := by decide +kernel
theorem dX11_nextOrder_93 : decode cX11_nextOrder 93 = .ok (.iload 4, 2) := by decide +kernel
theorem dX11_nextOrder_95 : decode cX11_nextOrder 95 = .ok (.invokevirtual 302, 3) := by decide +kernel
theorem dX11_nextOrder_98 : decode cX11_nextOrder 98 = .ok (.iinc 4 (-1), 3) := by decide +kernel
theorem dX11_nextOrder_101 : decode cX11_nextOrder 101 = .ok (.iinc 5 1, 3) := by decide +kernel
theorem dX11_nextOrder_104 : decode cX11_nextOrder 104 = .ok (.goto (-21), 3) := by decide +kernel
theorem dX11_nextOrder_107 : decode cX11_nextOrder 107 = .ok (.iconst 1, 1) := by decide +kernel
theorem dX11_nextOrder_108 : decode cX11_nextOrder 108 = .ok (.ireturn, 1) := by decide +kernel
theorem dX11_swapInOrder_0 : decode cX11_swapInOrder 0 = .ok (.aload_n 0, 1) := by decide +kernel
theorem dX11_swapInOrder_1 : decode cX11_swapInOrder 1 = .ok (.getfield 66, 3) := by decide +kernel
theorem dX11_swapInOrder_4 : decode cX11_swapInOrder 4 = .ok (.iload_n 1, 1) := by decide +kernel
theorem dX11_swapInOrder_5 : decode cX11_swapInOrder 5 = .ok (.iaload, 1) := by decide +kernel
theorem dX11_swapInOrder_6 : decode cX11_swapInOrder 6 = .ok (.istore_n 3, 1) := by decide +kernel
theorem dX11_swapInOrder_7 : decode cX11_swapInOrder 7 = .ok (.aload_n 0, 1) := by decide +kernel
theorem dX11_swapInOrder_8 : decode cX11_swapInOrder 8 = .ok (.getfield 66, 3) := by decide +kernel
theorem dX11_swapInOrder_11 : decode cX11_swapInOrder 11 = .ok (.iload_n 1, 1) := by decide +kernel
theorem dX11_swapInOrder_12 : decode cX11_swapInOrder 12 = .ok (.aload_n 0, 1) := by decide +kernel
theorem dX11_swapInOrder_13 : decode cX11_swapInOrder 13 = .ok (.getfield 66, 3) := by decide +kernel
theorem dX11_swapInOrder_16 : decode cX11_swapInOrder 16 = .ok (.iload_n 2, 1) := by decide +kernel
theorem dX11_swapInOrder_17 : decode cX11_swapInOrder 17 = .ok (.iaload, 1) := by decide +kernel
theorem dX11_swapInOrder_18 : decode cX11_swapInOrder 18 = .ok (.iastore, 1) := by decide +kernel
theorem dX11_swapInOrder_19 : decode cX11_swapInOrder 19 = .ok (.aload_n 0, 1) := by decide +kernel
theorem dX11_swapInOrder_20 : decode cX11_swapInOrder 20 = .ok (.getfield 66, 3) := by decide +kernel
theorem dX11_swapInOrder_23 : decode cX11_swapInOrder 23 = .ok (.iload_n 2, 1) := by decide +kernel
theorem dX11_swapInOrder_24 : decode cX11_swapInOrder 24 = .ok (.iload_n 3, 1) := by decide +kernel
theorem dX11_swapInOrder_25 : decode cX11_swapInOrder 25 = .ok (.iastore, 1) := by decide +kernel
theorem dX11_swapInOrder_26 : decode cX11_swapInOrder 26 = .ok (.return_, 1) := by decide +kernel
theorem dX11_addPair_0 : decode cX11_addPair 0 = .ok (.iload_n 2, 1) := by decide +kernel
theorem dX11_addPair_1 : decode cX11_addPair 1 = .ok (.iconst (-1), 1) := by decide +kernel
theorem dX11_addPair_2 : decode cX11_addPair 2 = .ok (.if_icmp .ne 9, 3) := by decide +kernel
theorem dX11_addPair_5 : decode cX11_addPair 5 = .ok (.aload_n 1, 1) := by decide +kernel
theorem dX11_addPair_6 : decode cX11_addPair 6 = .ok (.invokevirtual 152, 3) := by decide +kernel
theorem dX11_addPair_9 : decode cX11_addPair 9 = .ok (.iconst 0, 1) := by decide +kernel
theorem dX11_addPair_10 : decode cX11_addPair 10 = .ok (.ireturn, 1) := by decide +kernel
theorem dX11_addPair_11 : decode cX11_addPair 11 = .ok (.aload_n 0, 1) := by decide +kernel
theorem dX11_addPair_12 : decode cX11_addPair 12 = .ok (.iload_n 2, 1) := by decide +kernel
theorem dX11_addPair_13 : decode cX11_addPair 13 = .ok (.invokevirtual 88, 3) := by decide +kernel
theorem dX11_addPair_16 : decode cX11_addPair 16 = .ok (.ifCond .ne 5, 3) := by decide +kernel
theorem dX11_addPair_19 : decode cX11_addPair 19 = .ok (.iconst (-1), 1) := by decide +kernel
theorem dX11_addPair_20 : decode cX11_addPair 20 = .ok (.ireturn, 1) := by decide +kernel
theorem dX11_addPair_21 : decode cX11_addPair 21 = .ok (.iload_n 3, 1) := by decide +kernel
theorem dX11_addPair_22 : decode cX11_addPair 22 = .ok (.invokestatic 73, 3) := by decide +kernel
theorem dX11_addPair_25 : decode cX11_addPair 25 = .ok (.ifCond .ne 6, 3) := by decide +kernel
theorem dX11_addPair_28 : decode cX11_addPair 28 = .ok (.bipush (-2), 2) := by decide +kernel
theorem dX11_addPair_30 : decode cX11_addPair 30 = .ok (.ireturn, 1) := by decide +kernel
theorem dX11_addPair_31 : decode cX11_addPair 31 = .ok (.aload_n 1, 1) := by decide +kernel
theorem dX11_addPair_32 : decode cX11_addPair 32 = .ok (.invokevirtual 80, 3) := by decide +kernel
theorem dX11_addPair_35 : decode cX11_addPair 35 = .ok (.ifCond .eq 8, 3) := by decide +kernel
theorem dX11_addPair_38 : decode cX11_addPair 38 = .ok (.bipush (-4), 2) := by decide +kernel
theorem dX11_addPair_40 : decode cX11_addPair 40 = .ok (.goto 14, 3) := by decide +kernel
theorem dX11_addPair_43 : decode cX11_addPair 43 = .ok (.aload_n 1, 1) := by decide +kernel
theorem dX11_addPair_44 : decode cX11_addPair 44 = .ok (.iload_n 2, 1) := by decide +kernel
theorem dX11_addPair_45 : decode cX11_addPair 45 = .ok (.sipush 1024, 3) := by decide +kernel
theorem dX11_addPair_48 : decode cX11_addPair 48 = .ok (.imul, 1) := by decide +kernel
theorem dX11_addPair_49 : decode cX11_addPair 49 = .ok (.iload_n 3, 1) := by decide +kernel
theorem dX11_addPair_50 : decode cX11_addPair 50 = .ok (.iadd, 1) := by decide +kernel
theorem dX11_addPair_51 : decode cX11_addPair 51 = .ok (.invokevirtual 84, 3) := by decide +kernel
theorem dX11_addPair_54 : decode cX11_addPair 54 = .ok (.ireturn, 1) := by decide +kernel
theorem dX11_fitsSeen_0 : decode cX11_fitsSeen 0 = .ok (.iconst 0, 1) := by decide +kernel
theorem dX11_fitsSeen_1 : decode cX11_fitsSeen 1 = .ok (.istore 4, 2) := by decide +kernel
theorem dX11_fitsSeen_3 : decode cX11_fitsSeen 3 = .ok (.iload 4, 2) := by decide +kernel
theorem dX11_fitsSeen_5 : decode cX11_fitsSeen 5 = .ok (.aload_n 0, 1) := by decide +kernel
theorem dX11_fitsSeen_6 : decode cX11_fitsSeen 6 = .ok (.getfield 14, 3) := by decide +kernel
theorem dX11_fitsSeen_9 : decode cX11_fitsSeen 9 = .ok (.getfield 185, 3) := by decide +kernel
theorem dX11_fitsSeen_12 : decode cX11_fitsSeen 12 = .ok (.getfield 179, 3) := by decide +kernel
theorem dX11_fitsSeen_15 : decode cX11_fitsSeen 15 = .ok (.if_icmp .ge 57, 3) := by decide +kernel
theorem dX11_fitsSeen_18 : decode cX11_fitsSeen 18 = .ok (.aload_n 0, 1) := by decide +kernel
theorem dX11_fitsSeen_19 : decode cX11_fitsSeen 19 = .ok (.getfield 14, 3) := by decide +kernel
theorem dX11_fitsSeen_22 : decode cX11_fitsSeen 22 = .ok (.getfield 185, 3) := by decide +kernel
theorem dX11_fitsSeen_25 : decode cX11_fitsSeen 25 = .ok (.iload 4, 2) := by decide +kernel
theorem dX11_fitsSeen_27 : decode cX11_fitsSeen 27 = .ok (.invokevirtual 91, 3) := by decide +kernel
theorem dX11_fitsSeen_30 : decode cX11_fitsSeen 30 = .ok (.istore 5, 2) := by decide +kernel
theorem dX11_fitsSeen_32 : decode cX11_fitsSeen 32 = .ok (.aload_n 0, 1) := by decide +kernel
theorem dX11_fitsSeen_33 : decode cX11_fitsSeen 33 = .ok (.iload_n 1, 1) := by decide +kernel
theorem dX11_fitsSeen_34 : decode cX11_fitsSeen 34 = .ok (.iload_n 2, 1) := by decide +kernel
theorem dX11_fitsSeen_35 : decode cX11_fitsSeen 35 = .ok (.iload_n 3, 1) := by decide +kernel
theorem dX11_fitsSeen_36 : decode cX11_fitsSeen 36 = .ok (.aload_n 0, 1) := by decide +kernel
theorem dX11_fitsSeen_37 : decode cX11_fitsSeen 37 = .ok (.getfield 14, 3) := by decide +kernel
theorem dX11_fitsSeen_40 : decode cX11_fitsSeen 40 = .ok (.getfield 77, 3) := by decide +kernel
theorem dX11_fitsSeen_43 : decode cX11_fitsSeen 43 = .ok (.iload 5, 2) := by decide +kernel
theorem dX11_fitsSeen_45 : decode cX11_fitsSeen 45 = .ok (.sipush 1024, 3) := by decide +kernel
theorem dX11_fitsSeen_48 : decode cX11_fitsSeen 48 = .ok (.idiv, 1) := by decide +kernel
theorem dX11_fitsSeen_49 : decode cX11_fitsSeen 49 = .ok (.invokevirtual 91, 3) := by decide +kernel
theorem dX11_fitsSeen_52 : decode cX11_fitsSeen 52 = .ok (.invokevirtual 209, 3) := by decide +kernel
theorem dX11_fitsSeen_55 : decode cX11_fitsSeen 55 = .ok (.iload 5, 2) := by decide +kernel
theorem dX11_fitsSeen_57 : decode cX11_fitsSeen 57 = .ok (.sipush 1024, 3) := by decide +kernel
theorem dX11_fitsSeen_60 : decode cX11_fitsSeen 60 = .ok (.irem, 1) := by decide +kernel
theorem dX11_fitsSeen_61 : decode cX11_fitsSeen 61 = .ok (.if_icmp .eq 5, 3) := by decide +kernel
theorem dX11_fitsSeen_64 : decode cX11_fitsSeen 64 = .ok (.iconst 0, 1) := by decide +kernel
theorem dX11_fitsSeen_65 : decode cX11_fitsSeen 65 = .ok (.ireturn, 1) := by decide +kernel
theorem dX11_fitsSeen_66 : decode cX11_fitsSeen 66 = .ok (.iinc 4 1, 3) := by decide +kernel
theorem dX11_fitsSeen_69 : decode cX11_fitsSeen 69 = .ok (.goto (-66), 3) := by decide +kernel
theorem dX11_fitsSeen_72 : decode cX11_fitsSeen 72 = .ok (.iconst 1, 1) := by decide +kernel
theorem dX11_fitsSeen_73 : decode cX11_fitsSeen 73 = .ok (.ireturn, 1) := by decide +kernel
theorem dX11_lowest_0 : decode cX11_lowest 0 = .ok (.iconst 1, 1) := by decide +kernel
theorem dX11_lowest_1 : decode cX11_lowest 1 = .ok (.istore_n 3, 1) := by decide +kernel
theorem dX11_lowest_2 : decode cX11_lowest 2 = .ok (.iconst 2, 1) := by decide +kernel
theorem dX11_lowest_3 : decode cX11_lowest 3 = .ok (.istore 4, 2) := by decide +kernel
theorem dX11_lowest_5 : decode cX11_lowest 5 = .ok (.iload 4, 2) := by decide +kernel
theorem dX11_lowest_7 : decode cX11_lowest 7 = .ok (.iload_n 1, 1) := by decide +kernel
theorem dX11_lowest_8 : decode cX11_lowest 8 = .ok (.if_icmp .gt 26, 3) := by decide +kernel
theorem dX11_lowest_11 : decode cX11_lowest 11 = .ok (.iload_n 0, 1) := by decide +kernel
theorem dX11_lowest_12 : decode cX11_lowest 12 = .ok (.iload 4, 2) := by decide +kernel
theorem dX11_lowest_14 : decode cX11_lowest 14 = .ok (.irem, 1) := by decide +kernel
theorem dX11_lowest_15 : decode cX11_lowest 15 = .ok (.ifCond .ne 13, 3) := by decide +kernel
theorem dX11_lowest_18 : decode cX11_lowest 18 = .ok (.iload_n 1, 1) := by decide +kernel
theorem dX11_lowest_19 : decode cX11_lowest 19 = .ok (.iload 4, 2) := by decide +kernel
theorem dX11_lowest_21 : decode cX11_lowest 21 = .ok (.irem, 1) := by decide +kernel
theorem dX11_lowest_22 : decode cX11_lowest 22 = .ok (.ifCond .ne 6, 3) := by decide +kernel
theorem dX11_lowest_25 : decode cX11_lowest 25 = .ok (.iload 4, 2) := by decide +kernel
theorem dX11_lowest_27 : decode cX11_lowest 27 = .ok (.istore_n 3, 1) := by decide +kernel
theorem dX11_lowest_28 : decode cX11_lowest 28 = .ok (.iinc 4 1, 3) := by decide +kernel
theorem dX11_lowest_31 : decode cX11_lowest 31 = .ok (.goto (-26), 3) := by decide +kernel
theorem dX11_lowest_34 : decode cX11_lowest 34 = .ok (.iload_n 2, 1) := by decide +kernel
theorem dX11_lowest_35 : decode cX11_lowest 35 = .ok (.ifCond .ne 7, 3) := by decide +kernel
theorem dX11_lowest_38 : decode cX11_lowest 38 = .ok (.iload_n 0, 1) := by decide +kernel
theorem dX11_lowest_39 : decode cX11_lowest 39 = .ok (.goto 4, 3) := by decide +kernel
theorem dX11_lowest_42 : decode cX11_lowest 42 = .ok (.iload_n 1, 1) := by decide +kernel
theorem dX11_lowest_43 : decode cX11_lowest 43 = .ok (.iload_n 3, 1) := by decide +kernel
theorem dX11_lowest_44 : decode cX11_lowest 44 = .ok (.idiv, 1) := by decide +kernel
theorem dX11_lowest_45 : decode cX11_lowest 45 = .ok (.i2l, 1) := by decide +kernel
theorem dX11_lowest_46 : decode cX11_lowest 46 = .ok (.lreturn, 1) := by decide +kernel
theorem dX11_newSender_0 : decode cX11_newSender 0 = .ok (.iload_n 1, 1) := by decide +kernel
theorem dX11_newSender_1 : decode cX11_newSender 1 = .ok (.tableswitch 105 1 6 #[39, 50, 61, 72, 83, 94], 39) := by decide +kernel
theorem dX11_newSender_40 : decode cX11_newSender 40 = .ok (.new 305, 3) := by decide +kernel
theorem dX11_newSender_43 : decode cX11_newSender 43 = .ok (.dup, 1) := by decide +kernel
theorem dX11_newSender_44 : decode cX11_newSender 44 = .ok (.iload_n 0, 1) := by decide +kernel
theorem dX11_newSender_45 : decode cX11_newSender 45 = .ok (.iload_n 1, 1) := by decide +kernel
theorem dX11_newSender_46 : decode cX11_newSender 46 = .ok (.iload_n 2, 1) := by decide +kernel
theorem dX11_newSender_47 : decode cX11_newSender 47 = .ok (.invokespecial 307, 3) := by decide +kernel
theorem dX11_newSender_50 : decode cX11_newSender 50 = .ok (.areturn, 1) := by decide +kernel
theorem dX11_newSender_51 : decode cX11_newSender 51 = .ok (.new 310, 3) := by decide +kernel
theorem dX11_newSender_54 : decode cX11_newSender 54 = .ok (.dup, 1) := by decide +kernel
theorem dX11_newSender_55 : decode cX11_newSender 55 = .ok (.iload_n 0, 1) := by decide +kernel
theorem dX11_newSender_56 : decode cX11_newSender 56 = .ok (.iload_n 1, 1) := by decide +kernel
theorem dX11_newSender_57 : decode cX11_newSender 57 = .ok (.iload_n 2, 1) := by decide +kernel
theorem dX11_newSender_58 : decode cX11_newSender 58 = .ok (.invokespecial 312, 3) := by decide +kernel
theorem dX11_newSender_61 : decode cX11_newSender 61 = .ok (.areturn, 1) := by decide +kernel
theorem dX11_newSender_62 : decode cX11_newSender 62 = .ok (.new 313, 3) := by decide +kernel
theorem dX11_newSender_65 : decode cX11_newSender 65 = .ok (.dup, 1) := by decide +kernel
theorem dX11_newSender_66 : decode cX11_newSender 66 = .ok (.iload_n 0, 1) := by decide +kernel
theorem dX11_newSender_67 : decode cX11_newSender 67 = .ok (.iload_n 1, 1) := by decide +kernel
theorem dX11_newSender_68 : decode cX11_newSender 68 = .ok (.iload_n 2, 1) := by decide +kernel
theorem dX11_newSender_69 : decode cX11_newSender 69 = .ok (.invokespecial 315, 3) := by decide +kernel
theorem dX11_newSender_72 : decode cX11_newSender 72 = .ok (.areturn, 1) := by decide +kernel
theorem dX11_newSender_73 : decode cX11_newSender 73 = .ok (.new 316, 3) := by decide +kernel
theorem dX11_newSender_76 : decode cX11_newSender 76 = .ok (.dup, 1) := by decide +kernel
theorem dX11_newSender_77 : decode cX11_newSender 77 = .ok (.iload_n 0, 1) := by decide +kernel
theorem dX11_newSender_78 : decode cX11_newSender 78 = .ok (.iload_n 1, 1) := by decide +kernel
theorem dX11_newSender_79 : decode cX11_newSender 79 = .ok (.iload_n 2, 1) := by decide +kernel
theorem dX11_newSender_80 : decode cX11_newSender 80 = .ok (.invokespecial 318, 3) := by decide +kernel
theorem dX11_newSender_83 : decode cX11_newSender 83 = .ok (.areturn, 1) := by decide +kernel
theorem dX11_newSender_84 : decode cX11_newSender 84 = .ok (.new 319, 3) := by decide +kernel
theorem dX11_newSender_87 : decode cX11_newSender 87 = .ok (.dup, 1) := by decide +kernel
theorem dX11_newSender_88 : decode cX11_newSender 88 = .ok (.iload_n 0, 1) := by decide +kernel
theorem dX11_newSender_89 : decode cX11_newSender 89 = .ok (.iload_n 1, 1) := by decide +kernel
theorem dX11_newSender_90 : decode cX11_newSender 90 = .ok (.iload_n 2, 1) := by decide +kernel
theorem dX11_newSender_91 : decode cX11_newSender 91 = .ok (.invokespecial 321, 3) := by decide +kernel
theorem dX11_newSender_94 : decode cX11_newSender 94 = .ok (.areturn, 1) := by decide +kernel
theorem dX11_newSender_95 : decode cX11_newSender 95 = .ok (.new 143, 3) := by decide +kernel
theorem dX11_newSender_98 : decode cX11_newSender 98 = .ok (.dup, 1) := by decide +kernel
theorem dX11_newSender_99 : decode cX11_newSender 99 = .ok (.iload_n 0, 1) := by decide +kernel
theorem dX11_newSender_100 : decode cX11_newSender 100 = .ok (.iload_n 1, 1) := by decide +kernel
theorem dX11_newSender_101 : decode cX11_newSender 101 = .ok (.iload_n 2, 1) := by decide +kernel
theorem dX11_newSender_102 : decode cX11_newSender 102 = .ok (.invokespecial 322, 3) := by decide +kernel
theorem dX11_newSender_105 : decode cX11_newSender 105 = .ok (.areturn, 1) := by decide +kernel
theorem dX11_newSender_106 : decode cX11_newSender 106 = .ok (.new 120, 3) := by decide +kernel
theorem dX11_newSender_109 : decode cX11_newSender 109 = .ok (.dup, 1) := by decide +kernel
theorem dX11_newSender_110 : decode cX11_newSender 110 = .ok (.iload_n 0, 1) := by decide +kernel
theorem dX11_newSender_111 : decode cX11_newSender 111 = .ok (.iconst 0, 1) := by decide +kernel
theorem dX11_newSender_112 : decode cX11_newSender 112 = .ok (.iload_n 2, 1) := by decide +kernel
theorem dX11_newSender_113 : decode cX11_newSender 113 = .ok (.invokespecial 323, 3) := by decide +kernel
theorem dX11_newSender_116 : decode cX11_newSender 116 = .ok (.areturn, 1) := by decide +kernel
theorem dX11_isOfKind_0 : decode cX11_isOfKind 0 = .ok (.iload_n 1, 1) := by decide +kernel
theorem dX11_isOfKind_1 : decode cX11_isOfKind 1 = .ok (.tableswitch 75 0 6 #[43, 45, 50, 55, 60, 65, 70], 43) := by decide +kernel
theorem dX11_isOfKind_44 : decode cX11_isOfKind 44 = .ok (.iconst 1, 1) := by decide +kernel
theorem dX11_isOfKind_45 : decode cX11_isOfKind 45 = .ok (.ireturn, 1) := by decide +kernel
theorem dX11_isOfKind_46 : decode cX11_isOfKind 46 = .ok (.aload_n 0, 1) := by decide +kernel
theorem dX11_isOfKind_47 : decode cX11_isOfKind 47 = .ok (.instanceof 305, 3) := by decide +kernel
theorem dX11_isOfKind_50 : decode cX11_isOfKind 50 = .ok (.ireturn, 1) := by decide +kernel
theorem dX11_isOfKind_51 : decode cX11_isOfKind 51 = .ok (.aload_n 0, 1) := by decide +kernel
theorem dX11_isOfKind_52 : decode cX11_isOfKind 52 = .ok (.instanceof 310, 3) := by decide +kernel
theorem dX11_isOfKind_55 : decode cX11_isOfKind 55 = .ok (.ireturn, 1) := by decide +kernel
theorem dX11_isOfKind_56 : decode cX11_isOfKind 56 = .ok (.aload_n 0, 1) := by decide +kernel
theorem dX11_isOfKind_57 : decode cX11_isOfKind 57 = .ok (.instanceof 313, 3) := by decide +kernel
theorem dX11_isOfKind_60 : decode cX11_isOfKind 60 = .ok (.ireturn, 1) := by decide +kernel
theorem dX11_isOfKind_61 : decode cX11_isOfKind 61 = .ok (.aload_n 0, 1) := by decide +kernel
theorem dX11_isOfKind_62 : decode cX11_isOfKind 62 = .ok (.instanceof 316, 3) := by decide +kernel
theorem dX11_isOfKind_65 : decode cX11_isOfKind 65 = .ok (.ireturn, 1) := by decide +kernel
theorem dX11_isOfKind_66 : decode cX11_isOfKind 66 = .ok (.aload_n 0, 1) := by decide +kernel
theorem dX11_isOfKind_67 : decode cX11_isOfKind 67 = .ok (.instanceof 319, 3) := by decide +kernel
theorem dX11_isOfKind_70 : decode cX11_isOfKind 70 = .ok (.ireturn, 1) := by decide +kernel
theorem dX11_isOfKind_71 : decode cX11_isOfKind 71 = .ok (.aload_n 0, 1) := by decide +kernel
theorem dX11_isOfKind_72 : decode cX11_isOfKind 72 = .ok (.instanceof 143, 3) := by decide +kernel
theorem dX11_isOfKind_75 : decode cX11_isOfKind 75 = .ok (.ireturn, 1) := by decide +kernel
theorem dX11_isOfKind_76 : decode cX11_isOfKind 76 = .ok (.iconst 0, 1) := by decide +kernel
theorem dX11_isOfKind_77 : decode cX11_isOfKind 77 = .ok (.ireturn, 1) := by decide +kernel
theorem dX12_init_0 : decode cX12_init 0 = .ok (.aload_n 0, 1) := by decide +kernel
theorem dX12_init_1 : decode cX12_init 1 = .ok (.invokespecial 1, 3) := by decide +kernel
theorem dX12_init_4 : decode cX12_init 4 = .ok (.aload_n 0, 1) := by decide +kernel
theorem dX12_init_5 : decode cX12_init 5 = .ok (.iconst 0, 1) := by decide +kernel
theorem dX12_init_6 : decode cX12_init 6 = .ok (.putfield 7, 3) := by decide +kernel
theorem dX12_init_9 : decode cX12_init 9 = .ok (.aload_n 0, 1) := by decide +kernel
theorem dX12_init_10 : decode cX12_init 10 = .ok (.iconst 0, 1) := by decide +kernel
theorem dX12_init_11 : decode cX12_init 11 = .ok (.putfield 13, 3) := by decide +kernel
theorem dX12_init_14 : decode cX12_init 14 = .ok (.aload_n 0, 1) := by decide +kernel
theorem dX12_init_15 : decode cX12_init 15 = .ok (.iconst 0, 1) := by decide +kernel
theorem dX12_init_16 : decode cX12_init 16 = .ok (.putfield 16, 3) := by decide +kernel
theorem dX12_init_19 : decode cX12_init 19 = .ok (.aload_n 0, 1) := by decide +kernel
theorem dX12_init_20 : decode cX12_init 20 = .ok (.bipush 8, 2) := by decide +kernel
theorem dX12_init_22 : decode cX12_init 22 = .ok (.newarray .int, 2) := by decide +kernel
theorem dX12_init_24 : decode cX12_init 24 = .ok (.putfield 19, 3) := by decide +kernel
theorem dX12_init_27 : decode cX12_init 27 = .ok (.aload_n 0, 1) := by decide +kernel
theorem dX12_init_28 : decode cX12_init 28 = .ok (.iconst 5, 1) := by decide +kernel
theorem dX12_init_29 : decode cX12_init 29 = .ok (.newarray .int, 2) := by decide +kernel
theorem dX12_init_31 : decode cX12_init 31 = .ok (.putfield 23, 3) := by decide +kernel
theorem dX12_init_34 : decode cX12_init 34 = .ok (.aload_n 0, 1) := by decide +kernel
theorem dX12_init_35 : decode cX12_init 35 = .ok (.iconst 5, 1) := by decide +kernel
theorem dX12_init_36 : decode cX12_init 36 = .ok (.newarray .int, 2) := by decide +kernel
theorem dX12_init_38 : decode cX12_init 38 = .ok (.putfield 26, 3) := by decide +kernel
theorem dX12_init_41 : decode cX12_init 41 = .ok (.aload_n 0, 1) := by decide +kernel
theorem dX12_init_42 : decode cX12_init 42 = .ok (.iconst 5, 1) := by decide +kernel
theorem dX12_init_43 : decode cX12_init 43 = .ok (.newarray .int, 2) := by decide +kernel
theorem dX12_init_45 : decode cX12_init 45 = .ok (.putfield 29, 3) := by decide +kernel
theorem dX12_init_48 : decode cX12_init 48 = .ok (.aload_n 0, 1) := by decide +kernel
theorem dX12_init_49 : decode cX12_init 49 = .ok (.bipush 20, 2) := by decide +kernel
theorem dX12_init_51 : decode cX12_init 51 = .ok (.newarray .int, 2) := by decide +kernel
theorem dX12_init_53 : decode cX12_init 53 = .ok (.putfield 32, 3) := by decide +kernel
theorem dX12_init_56 : decode cX12_init 56 = .ok (.aload_n 0, 1) := by decide +kernel
theorem dX12_init_57 : decode cX12_init 57 = .ok (.iconst 0, 1) := by decide +kernel
theorem dX12_init_58 : decode cX12_init 58 = .ok (.putfield 35, 3) := by decide +kernel
theorem dX12_init_61 : decode cX12_init 61 = .ok (.aload_n 0, 1) := by decide +kernel
theorem dX12_init_62 : decode cX12_init 62 = .ok (.iconst (-1), 1) := by decide +kernel
theorem dX12_init_63 : decode cX12_init 63 = .ok (.putfield 38, 3) := by decide +kernel
theorem dX12_init_66 : decode cX12_init 66 = .ok (.aload_n 0, 1) := by decide +kernel
theorem dX12_init_67 : decode cX12_init 67 = .ok (.iconst 0, 1) := by decide +kernel
theorem dX12_init_68 : decode cX12_init 68 = .ok (.putfield 41, 3) := by decide +kernel
theorem dX12_init_71 : decode cX12_init 71 = .ok (.aload_n 0, 1) := by decide +kernel
theorem dX12_init_72 : decode cX12_init 72 = .ok (.iconst 0, 1) := by decide +kernel
theorem dX12_init_73 : decode cX12_init 73 = .ok (.putfield 44, 3) := by decide +kernel
theorem dX12_init_76 : decode cX12_init 76 = .ok (.aload_n 0, 1) := by decide +kernel
theorem dX12_init_77 : decode cX12_init 77 = .ok (.iconst 0, 1) := by decide +kernel
theorem dX12_init_78 : decode cX12_init 78 = .ok (.putfield 47, 3) := by decide +kernel
theorem dX12_init_81 : decode cX12_init 81 = .ok (.aload_n 0, 1) := by decide +kernel
theorem dX12_init_82 : decode cX12_init 82 = .ok (.bipush 100, 2) := by decide +kernel
theorem dX12_init_84 : decode cX12_init 84 = .ok (.newarray .int, 2) := by decide +kernel
theorem dX12_init_86 : decode cX12_init 86 = .ok (.putfield 50, 3) := by decide +kernel
theorem dX12_init_89 : decode cX12_init 89 = .ok (.aload_n 0, 1) := by decide +kernel
theorem dX12_init_90 : decode cX12_init 90 = .ok (.bipush 6, 2) := by decide +kernel
theorem dX12_init_92 : decode cX12_init 92 = .ok (.newarray .int, 2) := by decide +kernel
theorem dX12_init_94 : decode cX12_init 94 = .ok (.putfield 53, 3) := by decide +kernel
theorem dX12_init_97 : decode cX12_init 97 = .ok (.aload_n 0, 1) := by decide +kernel
theorem dX12_init_98 : decode cX12_init 98 = .ok (.bipush 60, 2) := by decide +kernel
theorem dX12_init_100 : decode cX12_init 100 = .ok (.newarray .int, 2) := by decide +kernel
theorem dX12_init_102 : decode cX12_init 102 = .ok (.putfield 56, 3) := by decide +kernel
theorem dX12_init_105 : decode cX12_init 105 = .ok (.aload_n 0, 1) := by decide +kernel
theorem dX12_init_106 : decode cX12_init 106 = .ok (.bipush 60, 2) := by decide +kernel
theorem dX12_init_108 : decode cX12_init 108 = .ok (.newarray .int, 2) := by decide +kernel
theorem dX12_init_110 : decode cX12_init 110 = .ok (.putfield 59, 3) := by decide +kernel
theorem dX12_init_113 : decode cX12_init 113 = .ok (.aload_n 0, 1) := by decide +kernel
theorem dX12_init_114 : decode cX12_init 114 = .ok (.bipush 60, 2) := by decide +kernel
theorem dX12_init_116 : decode cX12_init 116 = .ok (.newarray .int, 2) := by decide +kernel
theorem dX12_init_118 : decode cX12_init 118 = .ok (.putfield 62, 3) := by decide +kernel
theorem dX12_init_121 : decode cX12_init 121 = .ok (.aload_n 0, 1) := by decide +kernel
theorem dX12_init_122 : decode cX12_init 122 = .ok (.bipush 60, 2) := by decide +kernel
theorem dX12_init_124 : decode cX12_init 124 = .ok (.newarray .int, 2) := by decide +kernel
theorem dX12_init_126 : decode cX12_init 126 = .ok (.putfield 65, 3) := by decide +kernel
theorem dX12_init_129 : decode cX12_init 129 = .ok (.aload_n 0, 1) := by decide +kernel
theorem dX12_init_130 : decode cX12_init 130 = .ok (.sipush 600, 3) := by decide +kernel
theorem dX12_init_133 : decode cX12_init 133 = .ok (.newarray .int, 2) := by decide +kernel
theorem dX12_init_135 : decode cX12_init 135 = .ok (.putfield 68, 3) := by decide +kernel
theorem dX12_init_138 : decode cX12_init 138 = .ok (.aload_n 0, 1) := by decide +kernel
theorem dX12_init_139 : decode cX12_init 139 = .ok (.bipush 101, 2) := by decide +kernel
theorem dX12_init_141 : decode cX12_init 141 = .ok (.newarray .int, 2) := by decide +kernel
theorem dX12_init_143 : decode cX12_init 143 = .ok (.putfield 71, 3) := by decide +kernel
theorem dX12_init_146 : decode cX12_init 146 = .ok (.aload_n 0, 1) := by decide +kernel
theorem dX12_init_147 : decode cX12_init 147 = .ok (.iconst 0, 1) := by decide +kernel
theorem dX12_init_148 : decode cX12_init 148 = .ok (.putfield 74, 3) := by decide +kernel
theorem dX12_init_151 : decode cX12_init 151 = .ok (.aload_n 0, 1) := by decide +kernel
theorem dX12_init_152 : decode cX12_init 152 = .ok (.iconst 0, 1) := by decide +kernel
theorem dX12_init_153 : decode cX12_init 153 = .ok (.putfield 77, 3) := by decide +kernel
theorem dX12_init_156 : decode cX12_init 156 = .ok (.aload_n 0, 1) := by decide +kernel
theorem dX12_init_157 : decode cX12_init 157 = .ok (.iconst 0, 1) := by decide +kernel
theorem dX12_init_158 : decode cX12_init 158 = .ok (.putfield 80, 3) := by decide +kernel
theorem dX12_init_161 : decode cX12_init 161 = .ok (.aload_n 0, 1) := by decide +kernel
theorem dX12_init_162 : decode cX12_init 162 = .ok (.bipush 16, 2) := by decide +kernel
theorem dX12_init_164 : decode cX12_init 164 = .ok (.newarray .int, 2) := by decide +kernel
theorem dX12_init_166 : decode cX12_init 166 = .ok (.dup, 1) := by decide +kernel
theorem dX12_init_167 : decode cX12_init 167 = .ok (.iconst 0, 1) := by decide +kernel
theorem dX12_init_168 : decode cX12_init 168 = .ok (.bipush 111, 2) := by decide +kernel
theorem dX12_init_170 : decode cX12_init 170 = .ok (.iastore, 1) := by decide +kernel
theorem dX12_init_171 : decode cX12_init 171 = .ok (.dup, 1) := by decide +kernel
theorem dX12_init_172 : decode cX12_init 172 = .ok (.iconst 1, 1) := by decide +kernel
theorem dX12_init_173 : decode cX12_init 173 = .ok (.bipush 112, 2) := by decide +kernel
theorem dX12_init_175 : decode cX12_init 175 = .ok (.iastore, 1) := by decide +kernel
theorem dX12_init_176 : decode cX12_init 176 = .ok (.dup, 1) := by decide +kernel
theorem dX12_init_177 : decode cX12_init 177 = .ok (.iconst 2, 1) := by decide +kernel
theorem dX12_init_178 : decode cX12_init 178 = .ok (.bipush 101, 2) := by decide +kernel
theorem dX12_init_180 : decode cX12_init 180 = .ok (.iastore, 1) := by decide +kernel
theorem dX12_init_181 : decode cX12_init 181 = .ok (.dup, 1) := by decide +kernel
theorem dX12_init_182 : decode cX12_init 182 = .ok (.iconst 3, 1) := by decide +kernel
theorem dX12_init_183 : decode cX12_init 183 = .ok (.bipush 110, 2) := by decide +kernel
theorem dX12_init_185 : decode cX12_init 185 = .ok (.iastore, 1) := by decide +kernel
theorem dX12_init_186 : decode cX12_init 186 = .ok (.dup, 1) := by decide +kernel
theorem dX12_init_187 : decode cX12_init 187 = .ok (.iconst 4, 1) := by decide +kernel
theorem dX12_init_188 : decode cX12_init 188 = .ok (.bipush 115, 2) := by decide +kernel
theorem dX12_init_190 : decode cX12_init 190 = .ok (.iastore, 1) := by decide +kernel
theorem dX12_init_191 : decode cX12_init 191 = .ok (.dup, 1) := by decide +kernel
theorem dX12_init_192 : decode cX12_init 192 = .ok (.iconst 5, 1) := by decide +kernel
theorem dX12_init_193 : decode cX12_init 193 = .ok (.bipush 104, 2) := by decide +kernel
theorem dX12_init_195 : decode cX12_init 195 = .ok (.iastore, 1) := by decide +kernel
theorem dX12_init_196 : decode cX12_init 196 = .ok (.dup, 1) := by decide +kernel
theorem dX12_init_197 : decode cX12_init 197 = .ok (.bipush 6, 2) := by decide +kernel
theorem dX12_init_199 : decode cX12_init 199 = .ok (.bipush 117, 2) := by decide +kernel
theorem dX12_init_201 : decode cX12_init 201 = .ok (.iastore, 1) := by decide +kernel
theorem dX12_init_202 : decode cX12_init 202 = .ok (.dup, 1) := by decide +kernel
theorem dX12_init_203 : decode cX12_init 203 = .ok (.bipush 7, 2) := by decide +kernel
theorem dX12_init_205 : decode cX12_init 205 = .ok (.bipush 116, 2) := by decide +kernel
theorem dX12_init_207 : decode cX12_init 207 = .ok (.iastore, 1) := by decide +kernel
theorem dX12_init_208 : decode cX12_init 208 = .ok (.dup, 1) := by decide +kernel
theorem dX12_init_209 : decode cX12_init 209 = .ok (.bipush 8, 2) := by decide +kernel
theorem dX12_init_211 : decode cX12_init 211 = .ok (.bipush 116, 2) := by decide +kernel
theorem dX12_init_213 : decode cX12_init 213 = .ok (.iastore, 1) := by decide +kernel
theorem dX12_init_214 : decode cX12_init 214 = .ok (.dup, 1) := by decide +kernel
theorem dX12_init_215 : decode cX12_init 215 = .ok (.bipush 9, 2) := by decide +kernel
theorem dX12_init_217 : decode cX12_init 217 = .ok (.bipush 117, 2) := by decide +kernel
theorem dX12_init_219 : decode cX12_init 219 = .ok (.iastore, 1) := by decide +kernel
theorem dX12_init_220 : decode cX12_init 220 = .ok (.dup, 1) := by decide +kernel
theorem dX12_init_221 : decode cX12_init 221 = .ok (.bipush 10, 2) := by decide +kernel
theorem dX12_init_223 : decode cX12_init 223 = .ok (.bipush 114, 2) := by decide +kernel
theorem dX12_init_225 : decode cX12_init 225 = .ok (.iastore, 1) := by decide +kernel
theorem dX12_init_226 : decode cX12_init 226 = .ok (.dup, 1) := by decide +kernel
theorem dX12_init_227 : decode cX12_init 227 = .ok (.bipush 11, 2) := by decide +kernel
theorem dX12_init_229 : decode cX12_init 229 = .ok (.bipush 110, 2) := by decide +kernel
theorem dX12_init_231 : decode cX12_init 231 = .ok (.iastore, 1) := by decide +kernel
theorem dX12_init_232 : decode cX12_init 232 = .ok (.dup, 1) := by decide +kernel
theorem dX12_init_233 : decode cX12_init 233 = .ok (.bipush 12, 2) := by decide +kernel
theorem dX12_init_235 : decode cX12_init 235 = .ok (.bipush 110, 2) := by decide +kernel
theorem dX12_init_237 : decode cX12_init 237 = .ok (.iastore, 1) := by decide +kernel
theorem dX12_init_238 : decode cX12_init 238 = .ok (.dup, 1) := by decide +kernel
theorem dX12_init_239 : decode cX12_init 239 = .ok (.bipush 13, 2) := by decide +kernel
theorem dX12_init_241 : decode cX12_init 241 = .ok (.bipush 101, 2) := by decide +kernel
theorem dX12_init_243 : decode cX12_init 243 = .ok (.iastore, 1) := by decide +kernel
theorem dX12_init_244 : decode cX12_init 244 = .ok (.dup, 1) := by decide +kernel
theorem dX12_init_245 : decode cX12_init 245 = .ok (.bipush 14, 2) := by decide +kernel
theorem dX12_init_247 : decode cX12_init 247 = .ok (.bipush 97, 2) := by decide +kernel
theorem dX12_init_249 : decode cX12_init 249 = .ok (.iastore, 1) := by decide +kernel
theorem dX12_init_250 : decode cX12_init 250 = .ok (.dup, 1) := by decide +kernel
theorem dX12_init_251 : decode cX12_init 251 = .ok (.bipush 15, 2) := by decide +kernel
theorem dX12_init_253 : decode cX12_init 253 = .ok (.bipush 114, 2) := by decide +kernel
theorem dX12_init_255 : decode cX12_init 255 = .ok (.iastore, 1) := by decide +kernel
theorem dX12_init_256 : decode cX12_init 256 = .ok (.putfield 83, 3) := by decide +kernel
theorem dX12_init_259 : decode cX12_init 259 = .ok (.aload_n 0, 1) := by decide +kernel
theorem dX12_init_260 : decode cX12_init 260 = .ok (.bipush 100, 2) := by decide +kernel
theorem dX12_init_262 : decode cX12_init 262 = .ok (.newarray .boolean, 2) := by decide +kernel
theorem dX12_init_264 : decode cX12_init 264 = .ok (.putfield 86, 3) := by decide +kernel
theorem dX12_init_267 : decode cX12_init 267 = .ok (.aload_n 0, 1) := by decide +kernel
theorem dX12_init_268 : decode cX12_init 268 = .ok (.sipush 1024, 3) := by decide +kernel
theorem dX12_init_271 : decode cX12_init 271 = .ok (.newarray .boolean, 2) := by decide +kernel
theorem dX12_init_273 : decode cX12_init 273 = .ok (.putfield 90, 3) := by decide +kernel
theorem dX12_init_276 : decode cX12_init 276 = .ok (.aload_n 0, 1) := by decide +kernel
theorem dX12_init_277 : decode cX12_init 277 = .ok (.iconst 5, 1) := by decide +kernel
theorem dX12_init_278 : decode cX12_init 278 = .ok (.newarray .int, 2) := by decide +kernel
theorem dX12_init_280 : decode cX12_init 280 = .ok (.putfield 93, 3) := by decide +kernel
theorem dX12_init_283 : decode cX12_init 283 = .ok (.aload_n 0, 1) := by decide +kernel
theorem dX12_init_284 : decode cX12_init 284 = .ok (.iconst 5, 1) := by decide +kernel
theorem dX12_init_285 : decode cX12_init 285 = .ok (.newarray .int, 2) := by decide +kernel
theorem dX12_init_287 : decode cX12_init 287 = .ok (.putfield 96, 3) := by decide +kernel
theorem dX12_init_290 : decode cX12_init 290 = .ok (.aload_n 0, 1) := by decide +kernel
theorem dX12_init_291 : decode cX12_init 291 = .ok (.iconst 0, 1) := by decide +kernel
theorem dX12_init_292 : decode cX12_init 292 = .ok (.putfield 99, 3) := by decide +kernel
theorem dX12_init_295 : decode cX12_init 295 = .ok (.aload_n 0, 1) := by decide +kernel
theorem dX12_init_296 : decode cX12_init 296 = .ok (.iconst 5, 1) := by decide +kernel
theorem dX12_init_297 : decode cX12_init 297 = .ok (.newarray .int, 2) := by decide +kernel
theorem dX12_init_299 : decode cX12_init 299 = .ok (.putfield 102, 3) := by decide +kernel
theorem dX12_init_302 : decode cX12_init 302 = .ok (.aload_n 0, 1) := by decide +kernel
theorem dX12_init_303 : decode cX12_init 303 = .ok (.iconst 5, 1) := by decide +kernel
theorem dX12_init_304 : decode cX12_init 304 = .ok (.newarray .int, 2) := by decide +kernel
theorem dX12_init_306 : decode cX12_init 306 = .ok (.putfield 105, 3) := by decide +kernel
theorem dX12_init_309 : decode cX12_init 309 = .ok (.aload_n 0, 1) := by decide +kernel
theorem dX12_init_310 : decode cX12_init 310 = .ok (.iconst 0, 1) := by decide +kernel
theorem dX12_init_311 : decode cX12_init 311 = .ok (.putfield 108, 3) := by decide +kernel
theorem dX12_init_314 : decode cX12_init 314 = .ok (.aload_n 0, 1) := by decide +kernel
theorem dX12_init_315 : decode cX12_init 315 = .ok (.iconst 0, 1) := by decide +kernel
theorem dX12_init_316 : decode cX12_init 316 = .ok (.putfield 111, 3) := by decide +kernel
theorem dX12_init_319 : decode cX12_init 319 = .ok (.aload_n 0, 1) := by decide +kernel
theorem dX12_init_320 : decode cX12_init 320 = .ok (.bipush 8, 2) := by decide +kernel
theorem dX12_init_322 : decode cX12_init 322 = .ok (.newarray .int, 2) := by decide +kernel
theorem dX12_init_324 : decode cX12_init 324 = .ok (.putfield 114, 3) := by decide +kernel
theorem dX12_init_327 : decode cX12_init 327 = .ok (.aload_n 0, 1) := by decide +kernel
theorem dX12_init_328 : decode cX12_init 328 = .ok (.bipush 8, 2) := by decide +kernel
theorem dX12_init_330 : decode cX12_init 330 = .ok (.newarray .int, 2) := by decide +kernel
theorem dX12_init_332 : decode cX12_init 332 = .ok (.putfield 117, 3) := by decide +kernel
theorem dX12_init_335 : decode cX12_init 335 = .ok (.aload_n 0, 1) := by decide +kernel
theorem dX12_init_336 : decode cX12_init 336 = .ok (.bipush 8, 2) := by decide +kernel
theorem dX12_init_338 : decode cX12_init 338 = .ok (.newarray .int, 2) := by decide +kernel
theorem dX12_init_340 : decode cX12_init 340 = .ok (.putfield 120, 3) := by decide +kernel
theorem dX12_init_343 : decode cX12_init 343 = .ok (.aload_n 0, 1) := by decide +kernel
theorem dX12_init_344 : decode cX12_init 344 = .ok (.iconst 0, 1) := by decide +kernel
theorem dX12_init_345 : decode cX12_init 345 = .ok (.putfield 123, 3) := by decide +kernel
theorem dX12_init_348 : decode cX12_init 348 = .ok (.aload_n 0, 1) := by decide +kernel
theorem dX12_init_349 : decode cX12_init 349 = .ok (.iconst (-1), 1) := by decide +kernel
theorem dX12_init_350 : decode cX12_init 350 = .ok (.putfield 127, 3) := by decide +kernel
theorem dX12_init_353 : decode cX12_init 353 = .ok (.aload_n 0, 1) := by decide +kernel
theorem dX12_init_354 : decode cX12_init 354 = .ok (.iconst 0, 1) := by decide +kernel
theorem dX12_init_355 : decode cX12_init 355 = .ok (.putfield 130, 3) := by decide +kernel
theorem dX12_init_358 : decode cX12_init 358 = .ok (.aload_n 0, 1) := by decide +kernel
theorem dX12_init_359 : decode cX12_init 359 = .ok (.iconst 0, 1) := by decide +kernel
theorem dX12_init_360 : decode cX12_init 360 = .ok (.putfield 133, 3) := by decide +kernel
theorem dX12_init_363 : decode cX12_init 363 = .ok (.aload_n 0, 1) := by decide +kernel
theorem dX12_init_364 : decode cX12_init 364 = .ok (.iconst 0, 1) := by decide +kernel
theorem dX12_init_365 : decode cX12_init 365 = .ok (.putfield 136, 3) := by decide +kernel
theorem dX12_init_368 : decode cX12_init 368 = .ok (.aload_n 0, 1) := by decide +kernel
theorem dX12_init_369 : decode cX12_init 369 = .ok (.iconst 0, 1) := by decide +kernel
theorem dX12_init_370 : decode cX12_init 370 = .ok (.putfield 139, 3) := by decide +kernel
theorem dX12_init_373 : decode cX12_init 373 = .ok (.aload_n 0, 1) := by decide +kernel
theorem dX12_init_374 : decode cX12_init 374 = .ok (.iconst 0, 1) := by decide +kernel
theorem dX12_init_375 : decode cX12_init 375 = .ok (.putfield 142, 3) := by decide +kernel
theorem dX12_init_378 : decode cX12_init 378 = .ok (.aload_n 0, 1) := by decide +kernel
theorem dX12_init_379 : decode cX12_init 379 = .ok (.iconst 0, 1) := by decide +kernel
theorem dX12_init_380 : decode cX12_init 380 = .ok (.putfield 145, 3) := by decide +kernel
theorem dX12_init_383 : decode cX12_init 383 = .ok (.aload_n 0, 1) := by decide +kernel
theorem dX12_init_384 : decode cX12_init 384 = .ok (.bipush 8, 2) := by decide +kernel
theorem dX12_init_386 : decode cX12_init 386 = .ok (.newarray .int, 2) := by decide +kernel
theorem dX12_init_388 : decode cX12_init 388 = .ok (.putfield 148, 3) := by decide +kernel
theorem dX12_init_391 : decode cX12_init 391 = .ok (.aload_n 0, 1) := by decide +kernel
theorem dX12_init_392 : decode cX12_init 392 = .ok (.iconst 5, 1) := by decide +kernel
theorem dX12_init_393 : decode cX12_init 393 = .ok (.newarray .int, 2) := by decide +kernel
theorem dX12_init_395 : decode cX12_init 395 = .ok (.putfield 151, 3) := by decide +kernel
theorem dX12_init_398 : decode cX12_init 398 = .ok (.aload_n 0, 1) := by decide +kernel
theorem dX12_init_399 : decode cX12_init 399 = .ok (.iconst 5, 1) := by decide +kernel
theorem dX12_init_400 : decode cX12_init 400 = .ok (.newarray .int, 2) := by decide +kernel
theorem dX12_init_402 : decode cX12_init 402 = .ok (.putfield 154, 3) := by decide +kernel
theorem dX12_init_405 : decode cX12_init 405 = .ok (.aload_n 0, 1) := by decide +kernel
theorem dX12_init_406 : decode cX12_init 406 = .ok (.iconst 5, 1) := by decide +kernel
theorem dX12_init_407 : decode cX12_init 407 = .ok (.newarray .int, 2) := by decide +kernel
theorem dX12_init_409 : decode cX12_init 409 = .ok (.putfield 157, 3) := by decide +kernel
theorem dX12_init_412 : decode cX12_init 412 = .ok (.aload_n 0, 1) := by decide +kernel
theorem dX12_init_413 : decode cX12_init 413 = .ok (.bipush 20, 2) := by decide +kernel
theorem dX12_init_415 : decode cX12_init 415 = .ok (.newarray .int, 2) := by decide +kernel
theorem dX12_init_417 : decode cX12_init 417 = .ok (.putfield 160, 3) := by decide +kernel
theorem dX12_init_420 : decode cX12_init 420 = .ok (.aload_n 0, 1) := by decide +kernel
theorem dX12_init_421 : decode cX12_init 421 = .ok (.iconst 5, 1) := by decide +kernel
theorem dX12_init_422 : decode cX12_init 422 = .ok (.newarray .int, 2) := by decide +kernel
theorem dX12_init_424 : decode cX12_init 424 = .ok (.putfield 163, 3) := by decide +kernel
theorem dX12_init_427 : decode cX12_init 427 = .ok (.aload_n 0, 1) := by decide +kernel
theorem dX12_init_428 : decode cX12_init 428 = .ok (.iconst 5, 1) := by decide +kernel
theorem dX12_init_429 : decode cX12_init 429 = .ok (.newarray .int, 2) := by decide +kernel
theorem dX12_init_431 : decode cX12_init 431 = .ok (.putfield 166, 3) := by decide +kernel
theorem dX12_init_434 : decode cX12_init 434 = .ok (.aload_n 0, 1) := by decide +kernel
theorem dX12_init_435 : decode cX12_init 435 = .ok (.bipush 8, 2) := by decide +kernel
theorem dX12_init_437 : decode cX12_init 437 = .ok (.newarray .int, 2) := by decide +kernel
theorem dX12_init_439 : decode cX12_init 439 = .ok (.putfield 169, 3) := by decide +kernel
theorem dX12_init_442 : decode cX12_init 442 = .ok (.aload_n 0, 1) := by decide +kernel
theorem dX12_init_443 : decode cX12_init 443 = .ok (.bipush 8, 2) := by decide +kernel
theorem dX12_init_445 : decode cX12_init 445 = .ok (.newarray .int, 2) := by decide +kernel
theorem dX12_init_447 : decode cX12_init 447 = .ok (.putfield 172, 3) := by decide +kernel
theorem dX12_init_450 : decode cX12_init 450 = .ok (.aload_n 0, 1) := by decide +kernel
theorem dX12_init_451 : decode cX12_init 451 = .ok (.bipush 8, 2) := by decide +kernel
theorem dX12_init_453 : decode cX12_init 453 = .ok (.newarray .int, 2) := by decide +kernel
theorem dX12_init_455 : decode cX12_init 455 = .ok (.putfield 175, 3) := by decide +kernel
theorem dX12_init_458 : decode cX12_init 458 = .ok (.aload_n 0, 1) := by decide +kernel
theorem dX12_init_459 : decode cX12_init 459 = .ok (.iconst 0, 1) := by decide +kernel
theorem dX12_init_460 : decode cX12_init 460 = .ok (.putfield 178, 3) := by decide +kernel
theorem dX12_init_463 : decode cX12_init 463 = .ok (.aload_n 0, 1) := by decide +kernel
theorem dX12_init_464 : decode cX12_init 464 = .ok (.bipush 20, 2) := by decide +kernel
theorem dX12_init_466 : decode cX12_init 466 = .ok (.newarray .int, 2) := by decide +kernel
theorem dX12_init_468 : decode cX12_init 468 = .ok (.putfield 181, 3) := by decide +kernel
theorem dX12_init_471 : decode cX12_init 471 = .ok (.aload_n 0, 1) := by decide +kernel
theorem dX12_init_472 : decode cX12_init 472 = .ok (.bipush 6, 2) := by decide +kernel
theorem dX12_init_474 : decode cX12_init 474 = .ok (.newarray .int, 2) := by decide +kernel
theorem dX12_init_476 : decode cX12_init 476 = .ok (.dup, 1) := by decide +kernel
theorem dX12_init_477 : decode cX12_init 477 = .ok (.iconst 0, 1) := by decide +kernel
theorem dX12_init_478 : decode cX12_init 478 = .ok (.iconst (-1), 1) := by decide +kernel
theorem dX12_init_479 : decode cX12_init 479 = .ok (.iastore, 1) := by decide +kernel
theorem dX12_init_480 : decode cX12_init 480 = .ok (.dup, 1) := by decide +kernel
theorem dX12_init_481 : decode cX12_init 481 = .ok (.iconst 1, 1) := by decide +kernel
theorem dX12_init_482 : decode cX12_init 482 = .ok (.iconst (-1), 1) := by decide +kernel
theorem dX12_init_483 : decode cX12_init 483 = .ok (.iastore, 1) := by decide +kernel
theorem dX12_init_484 : decode cX12_init 484 = .ok (.dup, 1) := by decide +kernel
theorem dX12_init_485 : decode cX12_init 485 = .ok (.iconst 2, 1) := by decide +kernel
theorem dX12_init_486 : decode cX12_init 486 = .ok (.iconst (-1), 1) := by decide +kernel
theorem dX12_init_487 : decode cX12_init 487 = .ok (.iastore, 1) := by decide +kernel
theorem dX12_init_488 : decode cX12_init 488 = .ok (.dup, 1) := by decide +kernel
theorem dX12_init_489 : decode cX12_init 489 = .ok (.iconst 3, 1) := by decide +kernel
theorem dX12_init_490 : decode cX12_init 490 = .ok (.iconst (-1), 1) := by decide +kernel
theorem dX12_init_491 : decode cX12_init 491 = .ok (.iastore, 1) := by decide +kernel
theorem dX12_init_492 : decode cX12_init 492 = .ok (.dup, 1) := by decide +kernel
theorem dX12_init_493 : decode cX12_init 493 = .ok (.iconst 4, 1) := by decide +kernel
theorem dX12_init_494 : decode cX12_init 494 = .ok (.iconst (-1), 1) := by decide +kernel
theorem dX12_init_495 : decode cX12_init 495 = .ok (.iastore, 1) := by decide +kernel
theorem dX12_init_496 : decode cX12_init 496 = .ok (.dup, 1) := by decide +kernel
theorem dX12_init_497 : decode cX12_init 497 = .ok (.iconst 5, 1) := by decide +kernel
theorem dX12_init_498 : decode cX12_init 498 = .ok (.iconst (-1), 1) := by decide +kernel
theorem dX12_init_499 : decode cX12_init 499 = .ok (.iastore, 1) := by decide +kernel
theorem dX12_init_500 : decode cX12_init 500 = .ok (.putfield 184, 3) := by decide +kernel
theorem dX12_init_503 : decode cX12_init 503 = .ok (.aload_n 0, 1) := by decide +kernel
theorem dX12_init_504 : decode cX12_init 504 = .ok (.bipush 6, 2) := by decide +kernel
theorem dX12_init_506 : decode cX12_init 506 = .ok (.newarray .int, 2) := by decide +kernel
theorem dX12_init_508 : decode cX12_init 508 = .ok (.putfield 187, 3) := by decide +kernel
theorem dX12_init_511 : decode cX12_init 511 = .ok (.aload_n 0, 1) := by decide +kernel
theorem dX12_init_512 : decode cX12_init 512 = .ok (.sipush 360, 3) := by decide +kernel
theorem dX12_init_515 : decode cX12_init 515 = .ok (.newarray .long, 2) := by decide +kernel
theorem dX12_init_517 : decode cX12_init 517 = .ok (.putfield 190, 3) := by decide +kernel
theorem dX12_init_520 : decode cX12_init 520 = .ok (.aload_n 0, 1) := by decide +kernel
theorem dX12_init_521 : decode cX12_init 521 = .ok (.bipush 60, 2) := by decide +kernel
theorem dX12_init_523 : decode cX12_init 523 = .ok (.newarray .long, 2) := by decide +kernel
theorem dX12_init_525 : decode cX12_init 525 = .ok (.putfield 194, 3) := by decide +kernel
theorem dX12_init_528 : decode cX12_init 528 = .ok (.return_, 1) := by decide +kernel
theorem dX12_in_0 : decode cX12_in 0 = .ok (.iload_n 1, 1) := by decide +kernel
theorem dX12_in_1 : decode cX12_in 1 = .ok (.iload_n 2, 1) := by decide +kernel
theorem dX12_in_2 : decode cX12_in 2 = .ok (.if_icmp .lt 12, 3) := by decide +kernel
theorem dX12_in_5 : decode cX12_in 5 = .ok (.iload_n 1, 1) := by decide +kernel
theorem dX12_in_6 : decode cX12_in 6 = .ok (.iload_n 3, 1) := by decide +kernel
theorem dX12_in_7 : decode cX12_in 7 = .ok (.if_icmp .gt 7, 3) := by decide +kernel
theorem dX12_in_10 : decode cX12_in 10 = .ok (.iconst 1, 1) := by decide +kernel
theorem dX12_in_11 : decode cX12_in 11 = .ok (.goto 4, 3) := by decide +kernel
theorem dX12_in_14 : decode cX12_in 14 = .ok (.iconst 0, 1) := by decide +kernel
theorem dX12_in_15 : decode cX12_in 15 = .ok (.ireturn, 1) := by decide +kernel
theorem dX12_has_0 : decode cX12_has 0 = .ok (.iload_n 1, 1) := by decide +kernel
theorem dX12_has_1 : decode cX12_has 1 = .ok (.iload_n 2, 1) := by decide +kernel
theorem dX12_has_2 : decode cX12_has 2 = .ok (.ishr, 1) := by decide +kernel
theorem dX12_has_3 : decode cX12_has 3 = .ok (.iconst 1, 1) := by decide +kernel
theorem dX12_has_4 : decode cX12_has 4 = .ok (.iand, 1) := by decide +kernel
theorem dX12_has_5 : decode cX12_has 5 = .ok (.iconst 1, 1) := by decide +kernel
theorem dX12_has_6 : decode cX12_has 6 = .ok (.if_icmp .ne 7, 3) := by decide +kernel
theorem dX12_has_9 : decode cX12_has 9 = .ok (.iconst 1, 1) := by decide +kernel
theorem dX12_has_10 : decode cX12_has 10 = .ok (.goto 4, 3) := by decide +kernel
theorem dX12_has_13 : decode cX12_has 13 = .ok (.iconst 0, 1) := by decide +kernel
theorem dX12_has_14 : decode cX12_has 14 = .ok (.ireturn, 1) := by decide +kernel
theorem dX12_bits_0 : decode cX12_bits 0 = .ok (.iconst 0, 1) := by decide +kernel
theorem dX12_bits_1 : decode cX12_bits 1 = .ok (.istore_n 2, 1) := by decide +kernel
theorem dX12_bits_2 : decode cX12_bits 2 = .ok (.iconst 0, 1) := by decide +kernel
theorem dX12_bits_3 : decode cX12_bits 3 = .ok (.istore_n 3, 1) := by decide +kernel
theorem dX12_bits_4 : decode cX12_bits 4 = .ok (.iload_n 3, 1) := by decide +kernel
theorem dX12_bits_5 : decode cX12_bits 5 = .ok (.bipush 10, 2) := by decide +kernel
theorem dX12_bits_7 : decode cX12_bits 7 = .ok (.if_icmp .ge 26, 3) := by decide +kernel
theorem dX12_bits_10 : decode cX12_bits 10 = .ok (.iload_n 2, 1) := by decide +kernel
theorem dX12_bits_11 : decode cX12_bits 11 = .ok (.aload_n 0, 1) := by decide +kernel
theorem dX12_bits_12 : decode cX12_bits 12 = .ok (.iload_n 1, 1) := by decide +kernel
theorem dX12_bits_13 : decode cX12_bits 13 = .ok (.iload_n 3, 1) := by decide +kernel
theorem dX12_bits_14 : decode cX12_bits 14 = .ok (.invokevirtual 197, 3) := by decide +kernel
theorem dX12_bits_17 : decode cX12_bits 17 = .ok (.ifCond .eq 7, 3) := by decide +kernel
theorem dX12_bits_20 : decode cX12_bits 20 = .ok (.iconst 1, 1) := by decide +kernel
theorem dX12_bits_21 : decode cX12_bits 21 = .ok (.goto 4, 3) := by decide +kernel
theorem dX12_bits_24 : decode cX12_bits 24 = .ok (.iconst 0, 1) := by decide +kernel
theorem dX12_bits_25 : decode cX12_bits 25 = .ok (.iadd, 1) := by decide +kernel
theorem dX12_bits_26 : decode cX12_bits 26 = .ok (.istore_n 2, 1) := by decide +kernel
theorem dX12_bits_27 : decode cX12_bits 27 = .ok (.iinc 3 1, 3) := by decide +kernel
theorem dX12_bits_30 : decode cX12_bits 30 = .ok (.goto (-26), 3) := by decide +kernel
theorem dX12_bits_33 : decode cX12_bits 33 = .ok (.iload_n 2, 1) := by decide +kernel
theorem dX12_bits_34 : decode cX12_bits 34 = .ok (.ireturn, 1) := by decide +kernel
theorem dX12_isSign_0 : decode cX12_isSign 0 = .ok (.aload_n 0, 1) := by decide +kernel
theorem dX12_isSign_1 : decode cX12_isSign 1 = .ok (.iload_n 1, 1) := by decide +kernel
theorem dX12_isSign_2 : decode cX12_isSign 2 = .ok (.iconst 0, 1) := by decide +kernel
theorem dX12_isSign_3 : decode cX12_isSign 3 = .ok (.sipush 1023, 3) := by decide +kernel
theorem dX12_isSign_6 : decode cX12_isSign 6 = .ok (.invokevirtual 201, 3) := by decide +kernel
theorem dX12_isSign_9 : decode cX12_isSign 9 = .ok (.ireturn, 1) := by decide +kernel
theorem dX12_isWord_0 : decode cX12_isWord 0 = .ok (.aload_n 0, 1) := by decide +kernel
theorem dX12_isWord_1 : decode cX12_isWord 1 = .ok (.iload_n 1, 1) := by decide +kernel
theorem dX12_isWord_2 : decode cX12_isWord 2 = .ok (.iconst 0, 1) := by decide +kernel
theorem dX12_isWord_3 : decode cX12_isWord 3 = .ok (.aload_n 0, 1) := by decide +kernel
theorem dX12_isWord_4 : decode cX12_isWord 4 = .ok (.getfield 7, 3) := by decide +kernel
theorem dX12_isWord_7 : decode cX12_isWord 7 = .ok (.iconst 1, 1) := by decide +kernel
theorem dX12_isWord_8 : decode cX12_isWord 8 = .ok (.isub, 1) := by decide +kernel
theorem dX12_isWord_9 : decode cX12_isWord 9 = .ok (.invokevirtual 201, 3) := by decide +kernel
theorem dX12_isWord_12 : decode cX12_isWord 12 = .ok (.ireturn, 1) := by decide +kernel
theorem dX12_isSender_0 : decode cX12_isSender 0 = .ok (.aload_n 0, 1) := by decide +kernel
theorem dX12_isSender_1 : decode cX12_isSender 1 = .ok (.iload_n 1, 1) := by decide +kernel
theorem dX12_isSender_2 : decode cX12_isSender 2 = .ok (.iconst 0, 1) := by decide +kernel
theorem dX12_isSender_3 : decode cX12_isSender 3 = .ok (.aload_n 0, 1) := by decide +kernel
theorem dX12_isSender_4 : decode cX12_isSender 4 = .ok (.getfield 13, 3) := by decide +kernel
theorem dX12_isSender_7 : decode cX12_isSender 7 = .ok (.iconst 1, 1) := by decide +kernel
theorem dX12_isSender_8 : decode cX12_isSender 8 = .ok (.isub, 1) := by decide +kernel
theorem dX12_isSender_9 : decode cX12_isSender 9 = .ok (.invokevirtual 201, 3) := by decide +kernel
theorem dX12_isSender_12 : decode cX12_isSender 12 = .ok (.ireturn, 1) := by decide +kernel
theorem dX12_word_0 : decode cX12_word 0 = .ok (.aload_n 0, 1) := by decide +kernel
theorem dX12_word_1 : decode cX12_word 1 = .ok (.iload_n 1, 1) := by decide +kernel
theorem dX12_word_2 : decode cX12_word 2 = .ok (.invokevirtual 205, 3) := by decide +kernel
theorem dX12_word_5 : decode cX12_word 5 = .ok (.ifCond .ne 6, 3) := by decide +kernel
theorem dX12_word_8 : decode cX12_word 8 = .ok (.bipush (-2), 2) := by decide +kernel
theorem dX12_word_10 : decode cX12_word 10 = .ok (.ireturn, 1) := by decide +kernel
theorem dX12_word_11 : decode cX12_word 11 = .ok (.aload_n 0, 1) := by decide +kernel
theorem dX12_word_12 : decode cX12_word 12 = .ok (.getfield 7, 3) := by decide +kernel
theorem dX12_word_15 : decode cX12_word 15 = .ok (.bipush 8, 2) := by decide +kernel
theorem dX12_word_17 : decode cX12_word 17 = .ok (.if_icmp .ne 6, 3) := by decide +kernel
theorem dX12_word_20 : decode cX12_word 20 = .ok (.bipush (-4), 2) := by decide +kernel
theorem dX12_word_22 : decode cX12_word 22 = .ok (.ireturn, 1) := by decide +kernel
theorem dX12_word_23 : decode cX12_word 23 = .ok (.aload_n 0, 1) := by decide +kernel
theorem dX12_word_24 : decode cX12_word 24 = .ok (.getfield 19, 3) := by decide +kernel
theorem dX12_word_27 : decode cX12_word 27 = .ok (.aload_n 0, 1) := by decide +kernel
theorem dX12_word_28 : decode cX12_word 28 = .ok (.getfield 7, 3) := by decide +kernel
theorem dX12_word_31 : decode cX12_word 31 = .ok (.iload_n 1, 1) := by decide +kernel
theorem dX12_word_32 : decode cX12_word 32 = .ok (.iastore, 1) := by decide +kernel
theorem dX12_word_33 : decode cX12_word 33 = .ok (.aload_n 0, 1) := by decide +kernel
theorem dX12_word_34 : decode cX12_word 34 = .ok (.dup, 1) := by decide +kernel
theorem dX12_word_35 : decode cX12_word 35 = .ok (.getfield 7, 3) := by decide +kernel
theorem dX12_word_38 : decode cX12_word 38 = .ok (.iconst 1, 1) := by decide +kernel
theorem dX12_word_39 : decode cX12_word 39 = .ok (.iadd, 1) := by decide +kernel
theorem dX12_word_40 : decode cX12_word 40 = .ok (.putfield 7, 3) := by decide +kernel
theorem dX12_word_43 : decode cX12_word 43 = .ok (.aload_n 0, 1) := by decide +kernel
theorem dX12_word_44 : decode cX12_word 44 = .ok (.getfield 7, 3) := by decide +kernel
theorem dX12_word_47 : decode cX12_word 47 = .ok (.iconst 1, 1) := by decide +kernel
theorem dX12_word_48 : decode cX12_word 48 = .ok (.isub, 1) := by decide +kernel
theorem dX12_word_49 : decode cX12_word 49 = .ok (.ireturn, 1) := by decide +kernel
theorem dX12_alter_0 : decode cX12_alter 0 = .ok (.aload_n 0, 1) := by decide +kernel
theorem dX12_alter_1 : decode cX12_alter 1 = .ok (.iload_n 1, 1) := by decide +kernel
theorem dX12_alter_2 : decode cX12_alter 2 = .ok (.invokevirtual 209, 3) := by decide +kernel
theorem dX12_alter_5 : decode cX12_alter 5 = .ok (.ifCond .ne 5, 3) := by decide +kernel
theorem dX12_alter_8 : decode cX12_alter 8 = .ok (.iconst (-1), 1) := by decide +kernel
theorem dX12_alter_9 : decode cX12_alter 9 = .ok (.ireturn, 1) := by decide +kernel
theorem dX12_alter_10 : decode cX12_alter 10 = .ok (.aload_n 0, 1) := by decide +kernel
theorem dX12_alter_11 : decode cX12_alter 11 = .ok (.iload_n 2, 1) := by decide +kernel
theorem dX12_alter_12 : decode cX12_alter 12 = .ok (.invokevirtual 205, 3) := by decide +kernel
theorem dX12_alter_15 : decode cX12_alter 15 = .ok (.ifCond .ne 6, 3) := by decide +kernel
theorem dX12_alter_18 : decode cX12_alter 18 = .ok (.bipush (-2), 2) := by decide +kernel
theorem dX12_alter_20 : decode cX12_alter 20 = .ok (.ireturn, 1) := by decide +kernel
theorem dX12_alter_21 : decode cX12_alter 21 = .ok (.aload_n 0, 1) := by decide +kernel
theorem dX12_alter_22 : decode cX12_alter 22 = .ok (.getfield 19, 3) := by decide +kernel
theorem dX12_alter_25 : decode cX12_alter 25 = .ok (.iload_n 1, 1) := by decide +kernel
theorem dX12_alter_26 : decode cX12_alter 26 = .ok (.iaload, 1) := by decide +kernel
theorem dX12_alter_27 : decode cX12_alter 27 = .ok (.istore_n 3, 1) := by decide +kernel
theorem dX12_alter_28 : decode cX12_alter 28 = .ok (.aload_n 0, 1) := by decide +kernel
theorem dX12_alter_29 : decode cX12_alter 29 = .ok (.getfield 19, 3) := by decide +kernel
theorem dX12_alter_32 : decode cX12_alter 32 = .ok (.iload_n 1, 1) := by decide +kernel
theorem dX12_alter_33 : decode cX12_alter 33 = .ok (.iload_n 2, 1) := by decide +kernel
theorem dX12_alter_34 : decode cX12_alter 34 = .ok (.iastore, 1) := by decide +kernel
theorem dX12_alter_35 : decode cX12_alter 35 = .ok (.iload_n 3, 1) := by decide +kernel
theorem dX12_alter_36 : decode cX12_alter 36 = .ok (.ireturn, 1) := by decide +kernel
theorem dX12_sender_0 : decode cX12_sender 0 = .ok (.aload_n 0, 1) := by decide +kernel
theorem dX12_sender_1 : decode cX12_sender 1 = .ok (.iload_n 1, 1) := by decide +kernel
theorem dX12_sender_2 : decode cX12_sender 2 = .ok (.iconst 0, 1) := by decide +kernel
theorem dX12_sender_3 : decode cX12_sender 3 = .ok (.bipush 6, 2) := by decide +kernel
theorem dX12_sender_5 : decode cX12_sender 5 = .ok (.invokevirtual 201, 3) := by decide +kernel
theorem dX12_sender_8 : decode cX12_sender 8 = .ok (.ifCond .ne 5, 3) := by decide +kernel
theorem dX12_sender_11 : decode cX12_sender 11 = .ok (.iconst (-1), 1) := by decide +kernel
theorem dX12_sender_12 : decode cX12_sender 12 = .ok (.ireturn, 1) := by decide +kernel
theorem dX12_sender_13 : decode cX12_sender 13 = .ok (.aload_n 0, 1) := by decide +kernel
theorem dX12_sender_14 : decode cX12_sender 14 = .ok (.iload_n 2, 1) := by decide +kernel
theorem dX12_sender_15 : decode cX12_sender 15 = .ok (.iconst 0, 1) := by decide +kernel
theorem dX12_sender_16 : decode cX12_sender 16 = .ok (.bipush 9, 2) := by decide +kernel
theorem dX12_sender_18 : decode cX12_sender 18 = .ok (.invokevirtual 201, 3) := by decide +kernel
theorem dX12_sender_21 : decode cX12_sender 21 = .ok (.ifCond .ne 6, 3) := by decide +kernel
theorem dX12_sender_24 : decode cX12_sender 24 = .ok (.bipush (-2), 2) := by decide +kernel
theorem dX12_sender_26 : decode cX12_sender 26 = .ok (.ireturn, 1) := by decide +kernel
theorem dX12_sender_27 : decode cX12_sender 27 = .ok (.aload_n 0, 1) := by decide +kernel
theorem dX12_sender_28 : decode cX12_sender 28 = .ok (.getfield 13, 3) := by decide +kernel
theorem dX12_sender_31 : decode cX12_sender 31 = .ok (.iconst 5, 1) := by decide +kernel
theorem dX12_sender_32 : decode cX12_sender 32 = .ok (.if_icmp .ne 6, 3) := by decide +kernel
theorem dX12_sender_35 : decode cX12_sender 35 = .ok (.bipush (-4), 2) := by decide +kernel
theorem dX12_sender_37 : decode cX12_sender 37 = .ok (.ireturn, 1) := by decide +kernel
theorem dX12_sender_38 : decode cX12_sender 38 = .ok (.aload_n 0, 1) := by decide +kernel
theorem dX12_sender_39 : decode cX12_sender 39 = .ok (.getfield 23, 3) := by decide +kernel
theorem dX12_sender_42 : decode cX12_sender 42 = .ok (.aload_n 0, 1) := by decide +kernel
theorem dX12_sender_43 : decode cX12_sender 43 = .ok (.getfield 13, 3) := by decide +kernel
theorem dX12_sender_46 : decode cX12_sender 46 = .ok (.iload_n 1, 1) := by decide +kernel
theorem dX12_sender_47 : decode cX12_sender 47 = .ok (.iastore, 1) := by decide +kernel
theorem dX12_sender_48 : decode cX12_sender 48 = .ok (.aload_n 0, 1) := by decide +kernel
theorem dX12_sender_49 : decode cX12_sender 49 = .ok (.getfield 26, 3) := by decide +kernel
theorem dX12_sender_52 : decode cX12_sender 52 = .ok (.aload_n 0, 1) := by decide +kernel
theorem dX12_sender_53 : decode cX12_sender 53 = .ok (.getfield 13, 3) := by decide +kernel
theorem dX12_sender_56 : decode cX12_sender 56 = .ok (.iload_n 2, 1) := by decide +kernel
theorem dX12_sender_57 : decode cX12_sender 57 = .ok (.iastore, 1) := by decide +kernel
theorem dX12_sender_58 : decode cX12_sender 58 = .ok (.aload_n 0, 1) := by decide +kernel
theorem dX12_sender_59 : decode cX12_sender 59 = .ok (.getfield 29, 3) := by decide +kernel
theorem dX12_sender_62 : decode cX12_sender 62 = .ok (.aload_n 0, 1) := by decide +kernel
theorem dX12_sender_63 : decode cX12_sender 63 = .ok (.getfield 13, 3) := by decide +kernel
theorem dX12_sender_66 : decode cX12_sender 66 = .ok (.iconst 0, 1) := by decide +kernel
theorem dX12_sender_67 : decode cX12_sender 67 = .ok (.iastore, 1) := by decide +kernel
theorem dX12_sender_68 : decode cX12_sender 68 = .ok (.iconst 0, 1) := by decide +kernel
theorem dX12_sender_69 : decode cX12_sender 69 = .ok (.istore_n 3, 1) := by decide +kernel
theorem dX12_sender_70 : decode cX12_sender 70 = .ok (.iload_n 3, 1) := by decide +kernel
theorem dX12_sender_71 : decode cX12_sender 71 = .ok (.iconst 4, 1) := by decide +kernel
theorem dX12_sender_72 : decode cX12_sender 72 = .ok (.if_icmp .ge 23, 3) := by decide +kernel
theorem dX12_sender_75 : decode cX12_sender 75 = .ok (.aload_n 0, 1) := by decide +kernel
theorem dX12_sender_76 : decode cX12_sender 76 = .ok (.getfield 32, 3) := by decide +kernel
theorem dX12_sender_79 : decode cX12_sender 79 = .ok (.iconst 4, 1) := by decide +kernel
theorem dX12_sender_80 : decode cX12_sender 80 = .ok (.aload_n 0, 1) := by decide +kernel
theorem dX12_sender_81 : decode cX12_sender 81 = .ok (.getfield 13, 3) := by decide +kernel
theorem dX12_sender_84 : decode cX12_sender 84 = .ok (.imul, 1) := by decide +kernel
theorem dX12_sender_85 : decode cX12_sender 85 = .ok (.iload_n 3, 1) := by decide +kernel
theorem dX12_sender_86 : decode cX12_sender 86 = .ok (.iadd, 1) := by decide +kernel
theorem dX12_sender_87 : decode cX12_sender 87 = .ok (.iconst 0, 1) := by decide +kernel
theorem dX12_sender_88 : decode cX12_sender 88 = .ok (.iastore, 1) := by decide +kernel
theorem dX12_sender_89 : decode cX12_sender 89 = .ok (.iinc 3 1, 3) := by decide +kernel
theorem dX12_sender_92 : decode cX12_sender 92 = .ok (.goto (-22), 3) := by decide +kernel
theorem dX12_sender_95 : decode cX12_sender 95 = .ok (.aload_n 0, 1) := by decide +kernel
theorem dX12_sender_96 : decode cX12_sender 96 = .ok (.dup, 1) := by decide +kernel
theorem dX12_sender_97 : decode cX12_sender 97 = .ok (.getfield 13, 3) := by decide +kernel
theorem dX12_sender_100 : decode cX12_sender 100 = .ok (.iconst 1, 1) := by decide +kernel
theorem dX12_sender_101 : decode cX12_sender 101 = .ok (.iadd, 1) := by decide +kernel
theorem dX12_sender_102 : decode cX12_sender 102 = .ok (.putfield 13, 3) := by decide +kernel
theorem dX12_sender_105 : decode cX12_sender 105 = .ok (.aload_n 0, 1) := by decide +kernel
theorem dX12_sender_106 : decode cX12_sender 106 = .ok (.getfield 13, 3) := by decide +kernel
theorem dX12_sender_109 : decode cX12_sender 109 = .ok (.iconst 1, 1) := by decide +kernel
theorem dX12_sender_110 : decode cX12_sender 110 = .ok (.isub, 1) := by decide +kernel
theorem dX12_sender_111 : decode cX12_sender 111 = .ok (.ireturn, 1) := by decide +kernel
theorem dX12_row_0 : decode cX12_row 0 = .ok (.aload_n 0, 1) := by decide +kernel
theorem dX12_row_1 : decode cX12_row 1 = .ok (.iload_n 1, 1) := by decide +kernel
theorem dX12_row_2 : decode cX12_row 2 = .ok (.invokevirtual 212, 3) := by decide +kernel
theorem dX12_row_5 : decode cX12_row 5 = .ok (.ifCond .eq 13, 3) := by decide +kernel
theorem dX12_row_8 : decode cX12_row 8 = .ok (.aload_n 0, 1) := by decide +kernel
theorem dX12_row_9 : decode cX12_row 9 = .ok (.iload_n 2, 1) := by decide +kernel
theorem dX12_row_10 : decode cX12_row 10 = .ok (.iconst 0, 1) := by decide +kernel
theorem dX12_row_11 : decode cX12_row 11 = .ok (.iconst 3, 1) := by decide +kernel
theorem dX12_row_12 : decode cX12_row 12 = .ok (.invokevirtual 201, 3) := by decide +kernel
theorem dX12_row_15 : decode cX12_row 15 = .ok (.ifCond .ne 5, 3) := by decide +kernel
theorem dX12_row_18 : decode cX12_row 18 = .ok (.iconst (-1), 1) := by decide +kernel
theorem dX12_row_19 : decode cX12_row 19 = .ok (.ireturn, 1) := by decide +kernel
theorem dX12_row_20 : decode cX12_row 20 = .ok (.aload_n 0, 1) := by decide +kernel
theorem dX12_row_21 : decode cX12_row 21 = .ok (.iload_n 3, 1) := by decide +kernel
theorem dX12_row_22 : decode cX12_row 22 = .ok (.iconst 0, 1) := by decide +kernel
theorem dX12_row_23 : decode cX12_row 23 = .ok (.bipush 9, 2) := by decide +kernel
theorem dX12_row_25 : decode cX12_row 25 = .ok (.invokevirtual 201, 3) := by decide +kernel
theorem dX12_row_28 : decode cX12_row 28 = .ok (.ifCond .ne 6, 3) := by decide +kernel
theorem dX12_row_31 : decode cX12_row 31 = .ok (.bipush (-2), 2) := by decide +kernel
theorem dX12_row_33 : decode cX12_row 33 = .ok (.ireturn, 1) := by decide +kernel
theorem dX12_row_34 : decode cX12_row 34 = .ok (.aload_n 0, 1) := by decide +kernel
theorem dX12_row_35 : decode cX12_row 35 = .ok (.getfield 23, 3) := by decide +kernel
theorem dX12_row_38 : decode cX12_row 38 = .ok (.iload_n 1, 1) := by decide +kernel
theorem dX12_row_39 : decode cX12_row 39 = .ok (.iaload, 1) := by decide +kernel
theorem dX12_row_40 : decode cX12_row 40 = .ok (.bipush 6, 2) := by decide +kernel
theorem dX12_row_42 : decode cX12_row 42 = .ok (.if_icmp .eq 6, 3) := by decide +kernel
theorem dX12_row_45 : decode cX12_row 45 = .ok (.bipush (-3), 2) := by decide +kernel
theorem dX12_row_47 : decode cX12_row 47 = .ok (.ireturn, 1) := by decide +kernel
theorem dX12_row_48 : decode cX12_row 48 = .ok (.aload_n 0, 1) := by decide +kernel
theorem dX12_row_49 : decode cX12_row 49 = .ok (.getfield 32, 3) := by decide +kernel
theorem dX12_row_52 : decode cX12_row 52 = .ok (.iconst 4, 1) := by decide +kernel
theorem dX12_row_53 : decode cX12_row 53 = .ok (.iload_n 1, 1) := by decide +kernel
theorem dX12_row_54 : decode cX12_row 54 = .ok (.imul, 1) := by decide +kernel
theorem dX12_row_55 : decode cX12_row 55 = .ok (.iload_n 2, 1) := by decide +kernel
theorem dX12_row_56 : decode cX12_row 56 = .ok (.iadd, 1) := by decide +kernel
theorem dX12_row_57 : decode cX12_row 57 = .ok (.iaload, 1) := by decide +kernel
theorem dX12_row_58 : decode cX12_row 58 = .ok (.istore 4, 2) := by decide +kernel
theorem dX12_row_60 : decode cX12_row 60 = .ok (.aload_n 0, 1) := by decide +kernel
theorem dX12_row_61 : decode cX12_row 61 = .ok (.getfield 32, 3) := by decide +kernel
theorem dX12_row_64 : decode cX12_row 64 = .ok (.iconst 4, 1) := by decide +kernel
theorem dX12_row_65 : decode cX12_row 65 = .ok (.iload_n 1, 1) := by decide +kernel
theorem dX12_row_66 : decode cX12_row 66 = .ok (.imul, 1) := by decide +kernel
theorem dX12_row_67 : decode cX12_row 67 = .ok (.iload_n 2, 1) := by decide +kernel
theorem dX12_row_68 : decode cX12_row 68 = .ok (.iadd, 1) := by decide +kernel
theorem dX12_row_69 : decode cX12_row 69 = .ok (.iload_n 3, 1) := by decide +kernel
theorem dX12_row_70 : decode cX12_row 70 = .ok (.iastore, 1) := by decide +kernel
theorem dX12_row_71 : decode cX12_row 71 = .ok (.iload 4, 2) := by decide +kernel
theorem dX12_row_73 : decode cX12_row 73 = .ok (.ireturn, 1) := by decide +kernel
theorem dX12_feed_0 : decode cX12_feed 0 = .ok (.aload_n 0, 1) := by decide +kernel
theorem dX12_feed_1 : decode cX12_feed 1 = .ok (.iload_n 1, 1) := by decide +kernel
theorem dX12_feed_2 : decode cX12_feed 2 = .ok (.iconst 0, 1) := by decide +kernel
theorem dX12_feed_3 : decode cX12_feed 3 = .ok (.bipush 127, 2) := by decide +kernel
theorem dX12_feed_5 : decode cX12_feed 5 = .ok (.invokevirtual 201, 3) := by decide +kernel
theorem dX12_feed_8 : decode cX12_feed 8 = .ok (.ifCond .ne 6, 3) := by decide +kernel
theorem dX12_feed_11 : decode cX12_feed 11 = .ok (.bipush (-2), 2) := by decide +kernel
theorem dX12_feed_13 : decode cX12_feed 13 = .ok (.ireturn, 1) := by decide +kernel
theorem dX12_feed_14 : decode cX12_feed 14 = .ok (.aload_n 0, 1) := by decide +kernel
theorem dX12_feed_15 : decode cX12_feed 15 = .ok (.getfield 41, 3) := by decide +kernel
theorem dX12_feed_18 : decode cX12_feed 18 = .ok (.bipush 100, 2) := by decide +kernel
theorem dX12_feed_20 : decode cX12_feed 20 = .ok (.if_icmp .ne 6, 3) := by decide +kernel
theorem dX12_feed_23 : decode cX12_feed 23 = .ok (.bipush (-4), 2) := by decide +kernel
theorem dX12_feed_25 : decode cX12_feed 25 = .ok (.ireturn, 1) := by decide +kernel
theorem dX12_feed_26 : decode cX12_feed 26 = .ok (.aload_n 0, 1) := by decide +kernel
theorem dX12_feed_27 : decode cX12_feed 27 = .ok (.getfield 50, 3) := by decide +kernel
theorem dX12_feed_30 : decode cX12_feed 30 = .ok (.aload_n 0, 1) := by decide +kernel
theorem dX12_feed_31 : decode cX12_feed 31 = .ok (.getfield 41, 3) := by decide +kernel
theorem dX12_feed_34 : decode cX12_feed 34 = .ok (.iload_n 1, 1) := by decide +kernel
theorem dX12_feed_35 : decode cX12_feed 35 = .ok (.iastore, 1) := by decide +kernel
theorem dX12_feed_36 : decode cX12_feed 36 = .ok (.aload_n 0, 1) := by decide +kernel
theorem dX12_feed_37 : decode cX12_feed 37 = .ok (.dup, 1) := by decide +kernel
theorem dX12_feed_38 : decode cX12_feed 38 = .ok (.getfield 41, 3) := by decide +kernel
theorem dX12_feed_41 : decode cX12_feed 41 = .ok (.iconst 1, 1) := by decide +kernel
theorem dX12_feed_42 : decode cX12_feed 42 = .ok (.iadd, 1) := by decide +kernel
theorem dX12_feed_43 : decode cX12_feed 43 = .ok (.putfield 41, 3) := by decide +kernel
theorem dX12_feed_46 : decode cX12_feed 46 = .ok (.aload_n 0, 1) := by decide +kernel
theorem dX12_feed_47 : decode cX12_feed 47 = .ok (.getfield 41, 3) := by decide +kernel
theorem dX12_feed_50 : decode cX12_feed 50 = .ok (.ireturn, 1) := by decide +kernel
theorem dX12_next_0 : decode cX12_next 0 = .ok (.aload_n 0, 1) := by decide +kernel
theorem dX12_next_1 : decode cX12_next 1 = .ok (.getfield 44, 3) := by decide +kernel
theorem dX12_next_4 : decode cX12_next 4 = .ok (.aload_n 0, 1) := by decide +kernel
theorem dX12_next_5 : decode cX12_next 5 = .ok (.getfield 41, 3) := by decide +kernel
theorem dX12_next_8 : decode cX12_next 8 = .ok (.if_icmp .ge 15, 3) := by decide +kernel
theorem dX12_next_11 : decode cX12_next 11 = .ok (.aload_n 0, 1) := by decide +kernel
theorem dX12_next_12 : decode cX12_next 12 = .ok (.getfield 50, 3) := by decide +kernel
theorem dX12_next_15 : decode cX12_next 15 = .ok (.aload_n 0, 1) := by decide +kernel
theorem dX12_next_16 : decode cX12_next 16 = .ok (.getfield 44, 3) := by decide +kernel
theorem dX12_next_19 : decode cX12_next 19 = .ok (.iaload, 1) := by decide +kernel
theorem dX12_next_20 : decode cX12_next 20 = .ok (.goto 4, 3) := by decide +kernel
theorem dX12_next_23 : decode cX12_next 23 = .ok (.iconst (-1), 1) := by decide +kernel
theorem dX12_next_24 : decode cX12_next 24 = .ok (.ireturn, 1) := by decide +kernel
theorem dX12_takes_0 : decode cX12_takes 0 = .ok (.aload_n 0, 1) := by decide +kernel
theorem dX12_takes_1 : decode cX12_takes 1 = .ok (.invokevirtual 215, 3) := by decide +kernel
theorem dX12_takes_4 : decode cX12_takes 4 = .ok (.iload_n 1, 1) := by decide +kernel
theorem dX12_takes_5 : decode cX12_takes 5 = .ok (.if_icmp .eq 5, 3) := by decide +kernel
theorem dX12_takes_8 : decode cX12_takes 8 = .ok (.iconst 0, 1) := by decide +kernel
theorem dX12_takes_9 : decode cX12_takes 9 = .ok (.ireturn, 1) := by decide +kernel
theorem dX12_takes_10 : decode cX12_takes 10 = .ok (.aload_n 0, 1) := by decide +kernel
theorem dX12_takes_11 : decode cX12_takes 11 = .ok (.dup, 1) := by decide +kernel
theorem dX12_takes_12 : decode cX12_takes 12 = .ok (.getfield 44, 3) := by decide +kernel
theorem dX12_takes_15 : decode cX12_takes 15 = .ok (.iconst 1, 1) := by decide +kernel
theorem dX12_takes_16 : decode cX12_takes 16 = .ok (.iadd, 1) := by decide +kernel
theorem dX12_takes_17 : decode cX12_takes 17 = .ok (.putfield 44, 3) := by decide +kernel
theorem dX12_takes_20 : decode cX12_takes 20 = .ok (.iconst 1, 1) := by decide +kernel
theorem dX12_takes_21 : decode cX12_takes 21 = .ok (.ireturn, 1) := by decide +kernel
theorem dX12_takesWord_0 : decode cX12_takesWord 0 = .ok (.iconst 0, 1) := by decide +kernel
theorem dX12_takesWord_1 : decode cX12_takesWord 1 = .ok (.istore_n 3, 1) := by decide +kernel
theorem dX12_takesWord_2 : decode cX12_takesWord 2 = .ok (.iload_n 3, 1) := by decide +kernel
theorem dX12_takesWord_3 : decode cX12_takesWord 3 = .ok (.iload_n 2, 1) := by decide +kernel
theorem dX12_takesWord_4 : decode cX12_takesWord 4 = .ok (.if_icmp .ge 26, 3) := by decide +kernel
theorem dX12_takesWord_7 : decode cX12_takesWord 7 = .ok (.aload_n 0, 1) := by decide +kernel
theorem dX12_takesWord_8 : decode cX12_takesWord 8 = .ok (.aload_n 0, 1) := by decide +kernel
theorem dX12_takesWord_9 : decode cX12_takesWord 9 = .ok (.getfield 83, 3) := by decide +kernel
theorem dX12_takesWord_12 : decode cX12_takesWord 12 = .ok (.iload_n 1, 1) := by decide +kernel
theorem dX12_takesWord_13 : decode cX12_takesWord 13 = .ok (.iload_n 3, 1) := by decide +kernel
theorem dX12_takesWord_14 : decode cX12_takesWord 14 = .ok (.iadd, 1) := by decide +kernel
theorem dX12_takesWord_15 : decode cX12_takesWord 15 = .ok (.iaload, 1) := by decide +kernel
theorem dX12_takesWord_16 : decode cX12_takesWord 16 = .ok (.invokevirtual 219, 3) := by decide +kernel
theorem dX12_takesWord_19 : decode cX12_takesWord 19 = .ok (.ifCond .ne 5, 3) := by decide +kernel
theorem dX12_takesWord_22 : decode cX12_takesWord 22 = .ok (.iconst 0, 1) := by decide +kernel
theorem dX12_takesWord_23 : decode cX12_takesWord 23 = .ok (.ireturn, 1) := by decide +kernel
theorem dX12_takesWord_24 : decode cX12_takesWord 24 = .ok (.iinc 3 1, 3) := by decide +kernel
theorem dX12_takesWord_27 : decode cX12_takesWord 27 = .ok (.goto (-25), 3) := by decide +kernel
theorem dX12_takesWord_30 : decode cX12_takesWord 30 = .ok (.aload_n 0, 1) := by decide +kernel
theorem dX12_takesWord_31 : decode cX12_takesWord 31 = .ok (.bipush 32, 2) := by decide +kernel
theorem dX12_takesWord_33 : decode cX12_takesWord 33 = .ok (.invokevirtual 219, 3) := by decide +kernel
theorem dX12_takesWord_36 : decode cX12_takesWord 36 = .ok (.ireturn, 1) := by decide +kernel
theorem dX12_isDigit_0 : decode cX12_isDigit 0 = .ok (.aload_n 0, 1) := by decide +kernel
theorem dX12_isDigit_1 : decode cX12_isDigit 1 = .ok (.aload_n 0, 1) := by decide +kernel
theorem dX12_isDigit_2 : decode cX12_isDigit 2 = .ok (.invokevirtual 215, 3) := by decide +kernel
theorem dX12_isDigit_5 : decode cX12_isDigit 5 = .ok (.bipush 48, 2) := by decide +kernel
theorem dX12_isDigit_7 : decode cX12_isDigit 7 = .ok (.bipush 57, 2) := by decide +kernel
theorem dX12_isDigit_9 : decode cX12_isDigit 9 = .ok (.invokevirtual 201, 3) := by decide +kernel
theorem dX12_isDigit_12 : decode cX12_isDigit 12 = .ok (.ireturn, 1) := by decide +kernel
theorem dX12_takesNumber_0 : decode cX12_takesNumber 0 = .ok (.aload_n 0, 1) := by decide +kernel
theorem dX12_takesNumber_1 : decode cX12_takesNumber 1 = .ok (.invokevirtual 222, 3) := by decide +kernel
theorem dX12_takesNumber_4 : decode cX12_takesNumber 4 = .ok (.ifCond .ne 5, 3) := by decide +kernel
theorem dX12_takesNumber_7 : decode cX12_takesNumber 7 = .ok (.iconst 0, 1) := by decide +kernel
theorem dX12_takesNumber_8 : decode cX12_takesNumber 8 = .ok (.ireturn, 1) := by decide +kernel
theorem dX12_takesNumber_9 : decode cX12_takesNumber 9 = .ok (.aload_n 0, 1) := by decide +kernel
theorem dX12_takesNumber_10 : decode cX12_takesNumber 10 = .ok (.iconst 0, 1) := by decide +kernel
theorem dX12_takesNumber_11 : decode cX12_takesNumber 11 = .ok (.putfield 47, 3) := by decide +kernel
theorem dX12_takesNumber_14 : decode cX12_takesNumber 14 = .ok (.iconst 0, 1) := by decide +kernel
theorem dX12_takesNumber_15 : decode cX12_takesNumber 15 = .ok (.istore_n 1, 1) := by decide +kernel
theorem dX12_takesNumber_16 : decode cX12_takesNumber 16 = .ok (.iload_n 1, 1) := by decide +kernel
theorem dX12_takesNumber_17 : decode cX12_takesNumber 17 = .ok (.iconst 2, 1) := by decide +kernel
theorem dX12_takesNumber_18 : decode cX12_takesNumber 18 = .ok (.if_icmp .ge 45, 3) := by decide +kernel
theorem dX12_takesNumber_21 : decode cX12_takesNumber 21 = .ok (.aload_n 0, 1) := by decide +kernel
theorem dX12_takesNumber_22 : decode cX12_takesNumber 22 = .ok (.invokevirtual 222, 3) := by decide +kernel
theorem dX12_takesNumber_25 : decode cX12_takesNumber 25 = .ok (.ifCond .eq 38, 3) := by decide +kernel
theorem dX12_takesNumber_28 : decode cX12_takesNumber 28 = .ok (.aload_n 0, 1) := by decide +kernel
theorem dX12_takesNumber_29 : decode cX12_takesNumber 29 = .ok (.bipush 10, 2) := by decide +kernel
theorem dX12_takesNumber_31 : decode cX12_takesNumber 31 = .ok (.aload_n 0, 1) := by decide +kernel
theorem dX12_takesNumber_32 : decode cX12_takesNumber 32 = .ok (.getfield 47, 3) := by decide +kernel
theorem dX12_takesNumber_35 : decode cX12_takesNumber 35 = .ok (.imul, 1) := by decide +kernel
theorem dX12_takesNumber_36 : decode cX12_takesNumber 36 = .ok (.aload_n 0, 1) := by decide +kernel
theorem dX12_takesNumber_37 : decode cX12_takesNumber 37 = .ok (.invokevirtual 215, 3) := by decide +kernel
theorem dX12_takesNumber_40 : decode cX12_takesNumber 40 = .ok (.iadd, 1) := by decide +kernel
theorem dX12_takesNumber_41 : decode cX12_takesNumber 41 = .ok (.bipush 48, 2) := by decide +kernel
theorem dX12_takesNumber_43 : decode cX12_takesNumber 43 = .ok (.isub, 1) := by decide +kernel
theorem dX12_takesNumber_44 : decode cX12_takesNumber 44 = .ok (.putfield 47, 3) := by decide +kernel
theorem dX12_takesNumber_47 : decode cX12_takesNumber 47 = .ok (.aload_n 0, 1) := by decide +kernel
theorem dX12_takesNumber_48 : decode cX12_takesNumber 48 = .ok (.dup, 1) := by decide +kernel
theorem dX12_takesNumber_49 : decode cX12_takesNumber 49 = .ok (.getfield 44, 3) := by decide +kernel
theorem dX12_takesNumber_52 : decode cX12_takesNumber 52 = .ok (.iconst 1, 1) := by decide +kernel
theorem dX12_takesNumber_53 : decode cX12_takesNumber 53 = .ok (.iadd, 1) := by decide +kernel
theorem dX12_takesNumber_54 : decode cX12_takesNumber 54 = .ok (.putfield 44, 3) := by decide +kernel
theorem dX12_takesNumber_57 : decode cX12_takesNumber 57 = .ok (.iinc 1 1, 3) := by decide +kernel
theorem dX12_takesNumber_60 : decode cX12_takesNumber 60 = .ok (.goto (-44), 3) := by decide +kernel
theorem dX12_takesNumber_63 : decode cX12_takesNumber 63 = .ok (.iconst 1, 1) := by decide +kernel
theorem dX12_takesNumber_64 : decode cX12_takesNumber 64 = .ok (.ireturn, 1) := by decide +kernel
theorem dX12_emits_0 : decode cX12_emits 0 = .ok (.aload_n 0, 1) := by decide +kernel
theorem dX12_emits_1 : decode cX12_emits 1 = .ok (.getfield 68, 3) := by decide +kernel
theorem dX12_emits_4 : decode cX12_emits 4 = .ok (.aload_n 0, 1) := by decide +kernel
theorem dX12_emits_5 : decode cX12_emits 5 = .ok (.getfield 74, 3) := by decide +kernel
theorem dX12_emits_8 : decode cX12_emits 8 = .ok (.iload_n 1, 1) := by decide +kernel
theorem dX12_emits_9 : decode cX12_emits 9 = .ok (.iastore, 1) := by decide +kernel
theorem dX12_emits_10 : decode cX12_emits 10 = .ok (.aload_n 0, 1) := by decide +kernel
theorem dX12_emits_11 : decode cX12_emits 11 = .ok (.dup, 1) := by decide +kernel
theorem dX12_emits_12 : decode cX12_emits 12 = .ok (.getfield 74, 3) := by decide +kernel
theorem dX12_emits_15 : decode cX12_emits 15 = .ok (.iconst 1, 1) := by decide +kernel
theorem dX12_emits_16 : decode cX12_emits 16 = .ok (.iadd, 1) := by decide +kernel
theorem dX12_emits_17 : decode cX12_emits 17 = .ok (.putfield 74, 3) := by decide +kernel
theorem dX12_emits_20 : decode cX12_emits 20 = .ok (.return_, 1) := by decide +kernel
theorem dX12_whole_0 : decode cX12_whole 0 = .ok (.aload_n 0, 1) := by decide +kernel
theorem dX12_whole_1 : decode cX12_whole 1 = .ok (.getfield 77, 3) := by decide +kernel
theorem dX12_whole_4 : decode cX12_whole 4 = .ok (.ifCond .le 48, 3) := by decide +kernel
theorem dX12_whole_7 : decode cX12_whole 7 = .ok (.aload_n 0, 1) := by decide +kernel
theorem dX12_whole_8 : decode cX12_whole 8 = .ok (.getfield 71, 3) := by decide +kernel
theorem dX12_whole_11 : decode cX12_whole 11 = .ok (.aload_n 0, 1) := by decide +kernel
theorem dX12_whole_12 : decode cX12_whole 12 = .ok (.getfield 77, 3) := by decide +kernel
theorem dX12_whole_15 : decode cX12_whole 15 = .ok (.iconst 1, 1) := by decide +kernel
theorem dX12_whole_16 : decode cX12_whole 16 = .ok (.isub, 1) := by decide +kernel
theorem dX12_whole_17 : decode cX12_whole 17 = .ok (.iaload, 1) := by decide +kernel
theorem dX12_whole_18 : decode cX12_whole 18 = .ok (.bipush 33, 2) := by decide +kernel
theorem dX12_whole_20 : decode cX12_whole 20 = .ok (.if_icmp .ne 32, 3) := by decide +kernel
theorem dX12_whole_23 : decode cX12_whole 23 = .ok (.aload_n 0, 1) := by decide +kernel
theorem dX12_whole_24 : decode cX12_whole 24 = .ok (.bipush (-33), 2) := by decide +kernel
theorem dX12_whole_26 : decode cX12_whole 26 = .ok (.invokevirtual 226, 3) := by decide +kernel
theorem dX12_whole_29 : decode cX12_whole 29 = .ok (.aload_n 0, 1) := by decide +kernel
theorem dX12_whole_30 : decode cX12_whole 30 = .ok (.dup, 1) := by decide +kernel
theorem dX12_whole_31 : decode cX12_whole 31 = .ok (.getfield 77, 3) := by decide +kernel
theorem dX12_whole_34 : decode cX12_whole 34 = .ok (.iconst 1, 1) := by decide +kernel
theorem dX12_whole_35 : decode cX12_whole 35 = .ok (.isub, 1) := by decide +kernel
theorem dX12_whole_36 : decode cX12_whole 36 = .ok (.putfield 77, 3) := by decide +kernel
theorem dX12_whole_39 : decode cX12_whole 39 = .ok (.aload_n 0, 1) := by decide +kernel
theorem dX12_whole_40 : decode cX12_whole 40 = .ok (.dup, 1) := by decide +kernel
theorem dX12_whole_41 : decode cX12_whole 41 = .ok (.getfield 80, 3) := by decide +kernel
theorem dX12_whole_44 : decode cX12_whole 44 = .ok (.iconst 1, 1) := by decide +kernel
theorem dX12_whole_45 : decode cX12_whole 45 = .ok (.isub, 1) := by decide +kernel
theorem dX12_whole_46 : decode cX12_whole 46 = .ok (.putfield 80, 3) := by decide +kernel
theorem dX12_whole_49 : decode cX12_whole 49 = .ok (.goto (-49), 3) := by decide +kernel
theorem dX12_whole_52 : decode cX12_whole 52 = .ok (.return_, 1) := by decide +kernel
theorem dX12_settle_0 : decode cX12_settle 0 = .ok (.aload_n 0, 1) := by decide +kernel
theorem dX12_settle_1 : decode cX12_settle 1 = .ok (.getfield 77, 3) := by decide +kernel
theorem dX12_settle_4 : decode cX12_settle 4 = .ok (.ifCond .le 68, 3) := by decide +kernel
theorem dX12_settle_7 : decode cX12_settle 7 = .ok (.aload_n 0, 1) := by decide +kernel
theorem dX12_settle_8 : decode cX12_settle 8 = .ok (.getfield 71, 3) := by decide +kernel
theorem dX12_settle_11 : decode cX12_settle 11 = .ok (.aload_n 0, 1) := by decide +kernel
theorem dX12_settle_12 : decode cX12_settle 12 = .ok (.getfield 77, 3) := by decide +kernel
theorem dX12_settle_15 : decode cX12_settle 15 = .ok (.iconst 1, 1) := by decide +kernel
theorem dX12_settle_16 : decode cX12_settle 16 = .ok (.isub, 1) := by decide +kernel
theorem dX12_settle_17 : decode cX12_settle 17 = .ok (.iaload, 1) := by decide +kernel
theorem dX12_settle_18 : decode cX12_settle 18 = .ok (.bipush 38, 2) := by decide +kernel
theorem dX12_settle_20 : decode cX12_settle 20 = .ok (.if_icmp .eq 25, 3) := by decide +kernel
theorem dX12_settle_23 : decode cX12_settle 23 = .ok (.aload_n 0, 1) := by decide +kernel
theorem dX12_settle_24 : decode cX12_settle 24 = .ok (.getfield 71, 3) := by decide +kernel
theorem dX12_settle_27 : decode cX12_settle 27 = .ok (.aload_n 0, 1) := by decide +kernel
theorem dX12_settle_28 : decode cX12_settle 28 = .ok (.getfield 77, 3) := by decide +kernel
theorem dX12_settle_31 : decode cX12_settle 31 = .ok (.iconst 1, 1) := by decide +kernel
theorem dX12_settle_32 : decode cX12_settle 32 = .ok (.isub, 1) := by decide +kernel
theorem dX12_settle_33 : decode cX12_settle 33 = .ok (.iaload, 1) := by decide +kernel
theorem dX12_settle_34 : decode cX12_settle 34 = .ok (.bipush 124, 2) := by decide +kernel
theorem dX12_settle_36 : decode cX12_settle 36 = .ok (.if_icmp .ne 36, 3) := by decide +kernel
theorem dX12_settle_39 : decode cX12_settle 39 = .ok (.iload_n 1, 1) := by decide +kernel
theorem dX12_settle_40 : decode cX12_settle 40 = .ok (.bipush 38, 2) := by decide +kernel
theorem dX12_settle_42 : decode cX12_settle 42 = .ok (.if_icmp .eq 30, 3) := by decide +kernel
theorem dX12_settle_45 : decode cX12_settle 45 = .ok (.aload_n 0, 1) := by decide +kernel
theorem dX12_settle_46 : decode cX12_settle 46 = .ok (.dup, 1) := by decide +kernel
theorem dX12_settle_47 : decode cX12_settle 47 = .ok (.getfield 77, 3) := by decide +kernel
theorem dX12_settle_50 : decode cX12_settle 50 = .ok (.iconst 1, 1) := by decide +kernel
theorem dX12_settle_51 : decode cX12_settle 51 = .ok (.isub, 1) := by decide +kernel
theorem dX12_settle_52 : decode cX12_settle 52 = .ok (.putfield 77, 3) := by decide +kernel
theorem dX12_settle_55 : decode cX12_settle 55 = .ok (.aload_n 0, 1) := by decide +kernel
theorem dX12_settle_56 : decode cX12_settle 56 = .ok (.aload_n 0, 1) := by decide +kernel
theorem dX12_settle_57 : decode cX12_settle 57 = .ok (.getfield 71, 3) := by decide +kernel
theorem dX12_settle_60 : decode cX12_settle 60 = .ok (.aload_n 0, 1) := by decide +kernel
theorem dX12_settle_61 : decode cX12_settle 61 = .ok (.getfield 77, 3) := by decide +kernel
theorem dX12_settle_64 : decode cX12_settle 64 = .ok (.iaload, 1) := by decide +kernel
theorem dX12_settle_65 : decode cX12_settle 65 = .ok (.ineg, 1) := by decide +kernel
theorem dX12_settle_66 : decode cX12_settle 66 = .ok (.invokevirtual 226, 3) := by decide +kernel
theorem dX12_settle_69 : decode cX12_settle 69 = .ok (.goto (-69), 3) := by decide +kernel
theorem dX12_settle_72 : decode cX12_settle 72 = .ok (.return_, 1) := by decide +kernel
theorem dX12_place_0 : decode cX12_place 0 = .ok (.iload_n 1, 1) := by decide +kernel
theorem dX12_place_1 : decode cX12_place 1 = .ok (.tableswitch 95 102 118 #[91, 95, 93, 95, 95, 85, 95, 95, 95, 89, 95, 95, 95, 83, 95, 95, 87], 83) := by decide +kernel
theorem dX12_place_84 : decode cX12_place 84 = .ok (.iconst 0, 1) := by decide +kernel
theorem dX12_place_85 : decode cX12_place 85 = .ok (.ireturn, 1) := by decide +kernel
theorem dX12_place_86 : decode cX12_place 86 = .ok (.iconst 1, 1) := by decide +kernel
theorem dX12_place_87 : decode cX12_place 87 = .ok (.ireturn, 1) := by decide +kernel
theorem dX12_place_88 : decode cX12_place 88 = .ok (.iconst 2, 1) := by decide +kernel
theorem dX12_place_89 : decode cX12_place 89 = .ok (.ireturn, 1) := by decide +kernel
theorem dX12_place_90 : decode cX12_place 90 = .ok (.iconst 3, 1) := by decide +kernel
theorem dX12_place_91 : decode cX12_place 91 = .ok (.ireturn, 1) := by decide +kernel
theorem dX12_place_92 : decode cX12_place 92 = .ok (.iconst 4, 1) := by decide +kernel
theorem dX12_place_93 : decode cX12_place 93 = .ok (.ireturn, 1) := by decide +kernel
theorem dX12_place_94 : decode cX12_place 94 = .ok (.iconst 5, 1) := by decide +kernel
theorem dX12_place_95 : decode cX12_place 95 = .ok (.ireturn, 1) := by decide +kernel
theorem dX12_place_96 : decode cX12_place 96 = .ok (.iconst (-1), 1) := by decide +kernel
theorem dX12_place_97 : decode cX12_place 97 = .ok (.ireturn, 1) := by decide +kernel
theorem dX12_takesTest_0 : decode cX12_takesTest 0 = .ok (.aload_n 0, 1) := by decide +kernel
theorem dX12_takesTest_1 : decode cX12_takesTest 1 = .ok (.aload_n 0, 1) := by decide +kernel
theorem dX12_takesTest_2 : decode cX12_takesTest 2 = .ok (.invokevirtual 215, 3) := by decide +kernel
theorem dX12_takesTest_5 : decode cX12_takesTest 5 = .ok (.invokevirtual 230, 3) := by decide +kernel
theorem dX12_takesTest_8 : decode cX12_takesTest 8 = .ok (.istore_n 1, 1) := by decide +kernel
theorem dX12_takesTest_9 : decode cX12_takesTest 9 = .ok (.iload_n 1, 1) := by decide +kernel
theorem dX12_takesTest_10 : decode cX12_takesTest 10 = .ok (.ifCond .ge 5, 3) := by decide +kernel
theorem dX12_takesTest_13 : decode cX12_takesTest 13 = .ok (.iconst 0, 1) := by decide +kernel
theorem dX12_takesTest_14 : decode cX12_takesTest 14 = .ok (.ireturn, 1) := by decide +kernel
theorem dX12_takesTest_15 : decode cX12_takesTest 15 = .ok (.aload_n 0, 1) := by decide +kernel
theorem dX12_takesTest_16 : decode cX12_takesTest 16 = .ok (.dup, 1) := by decide +kernel
theorem dX12_takesTest_17 : decode cX12_takesTest 17 = .ok (.getfield 44, 3) := by decide +kernel
theorem dX12_takesTest_20 : decode cX12_takesTest 20 = .ok (.iconst 1, 1) := by decide +kernel
theorem dX12_takesTest_21 : decode cX12_takesTest 21 = .ok (.iadd, 1) := by decide +kernel
theorem dX12_takesTest_22 : decode cX12_takesTest 22 = .ok (.putfield 44, 3) := by decide +kernel
theorem dX12_takesTest_25 : decode cX12_takesTest 25 = .ok (.aload_n 0, 1) := by decide +kernel
theorem dX12_takesTest_26 : decode cX12_takesTest 26 = .ok (.invokevirtual 215, 3) := by decide +kernel
theorem dX12_takesTest_29 : decode cX12_takesTest 29 = .ok (.istore_n 2, 1) := by decide +kernel
theorem dX12_takesTest_30 : decode cX12_takesTest 30 = .ok (.aload_n 0, 1) := by decide +kernel
theorem dX12_takesTest_31 : decode cX12_takesTest 31 = .ok (.iload_n 2, 1) := by decide +kernel
theorem dX12_takesTest_32 : decode cX12_takesTest 32 = .ok (.bipush 60, 2) := by decide +kernel
theorem dX12_takesTest_34 : decode cX12_takesTest 34 = .ok (.bipush 62, 2) := by decide +kernel
theorem dX12_takesTest_36 : decode cX12_takesTest 36 = .ok (.invokevirtual 201, 3) := by decide +kernel
theorem dX12_takesTest_39 : decode cX12_takesTest 39 = .ok (.ifCond .ne 5, 3) := by decide +kernel
theorem dX12_takesTest_42 : decode cX12_takesTest 42 = .ok (.iconst 0, 1) := by decide +kernel
theorem dX12_takesTest_43 : decode cX12_takesTest 43 = .ok (.ireturn, 1) := by decide +kernel
theorem dX12_takesTest_44 : decode cX12_takesTest 44 = .ok (.aload_n 0, 1) := by decide +kernel
theorem dX12_takesTest_45 : decode cX12_takesTest 45 = .ok (.dup, 1) := by decide +kernel
theorem dX12_takesTest_46 : decode cX12_takesTest 46 = .ok (.getfield 44, 3) := by decide +kernel
theorem dX12_takesTest_49 : decode cX12_takesTest 49 = .ok (.iconst 1, 1) := by decide +kernel
theorem dX12_takesTest_50 : decode cX12_takesTest 50 = .ok (.iadd, 1) := by decide +kernel
theorem dX12_takesTest_51 : decode cX12_takesTest 51 = .ok (.putfield 44, 3) := by decide +kernel
theorem dX12_takesTest_54 : decode cX12_takesTest 54 = .ok (.aload_n 0, 1) := by decide +kernel
theorem dX12_takesTest_55 : decode cX12_takesTest 55 = .ok (.invokevirtual 234, 3) := by decide +kernel
theorem dX12_takesTest_58 : decode cX12_takesTest 58 = .ok (.ifCond .ne 5, 3) := by decide +kernel
theorem dX12_takesTest_61 : decode cX12_takesTest 61 = .ok (.iconst 0, 1) := by decide +kernel
theorem dX12_takesTest_62 : decode cX12_takesTest 62 = .ok (.ireturn, 1) := by decide +kernel
theorem dX12_takesTest_63 : decode cX12_takesTest 63 = .ok (.aload_n 0, 1) := by decide +kernel
theorem dX12_takesTest_64 : decode cX12_takesTest 64 = .ok (.sipush 1000, 3) := by decide +kernel
theorem dX12_takesTest_67 : decode cX12_takesTest 67 = .ok (.iload_n 1, 1) := by decide +kernel
theorem dX12_takesTest_68 : decode cX12_takesTest 68 = .ok (.imul, 1) := by decide +kernel
theorem dX12_takesTest_69 : decode cX12_takesTest 69 = .ok (.bipush 100, 2) := by decide +kernel
theorem dX12_takesTest_71 : decode cX12_takesTest 71 = .ok (.iload_n 2, 1) := by decide +kernel
theorem dX12_takesTest_72 : decode cX12_takesTest 72 = .ok (.bipush 60, 2) := by decide +kernel
theorem dX12_takesTest_74 : decode cX12_takesTest 74 = .ok (.isub, 1) := by decide +kernel
theorem dX12_takesTest_75 : decode cX12_takesTest 75 = .ok (.imul, 1) := by decide +kernel
theorem dX12_takesTest_76 : decode cX12_takesTest 76 = .ok (.iadd, 1) := by decide +kernel
theorem dX12_takesTest_77 : decode cX12_takesTest 77 = .ok (.aload_n 0, 1) := by decide +kernel
theorem dX12_takesTest_78 : decode cX12_takesTest 78 = .ok (.getfield 47, 3) := by decide +kernel
theorem dX12_takesTest_81 : decode cX12_takesTest 81 = .ok (.iadd, 1) := by decide +kernel
theorem dX12_takesTest_82 : decode cX12_takesTest 82 = .ok (.invokevirtual 226, 3) := by decide +kernel
theorem dX12_takesTest_85 : decode cX12_takesTest 85 = .ok (.aload_n 0, 1) := by decide +kernel
theorem dX12_takesTest_86 : decode cX12_takesTest 86 = .ok (.invokevirtual 237, 3) := by decide +kernel
theorem dX12_takesTest_89 : decode cX12_takesTest 89 = .ok (.iconst 1, 1) := by decide +kernel
theorem dX12_takesTest_90 : decode cX12_takesTest 90 = .ok (.ireturn, 1) := by decide +kernel
theorem dX12_takesE_0 : decode cX12_takesE 0 = .ok (.aload_n 0, 1) := by decide +kernel
theorem dX12_takesE_1 : decode cX12_takesE 1 = .ok (.iconst 0, 1) := by decide +kernel
theorem dX12_takesE_2 : decode cX12_takesE 2 = .ok (.putfield 77, 3) := by decide +kernel
theorem dX12_takesE_5 : decode cX12_takesE 5 = .ok (.aload_n 0, 1) := by decide +kernel
theorem dX12_takesE_6 : decode cX12_takesE 6 = .ok (.iconst 0, 1) := by decide +kernel
theorem dX12_takesE_7 : decode cX12_takesE 7 = .ok (.putfield 80, 3) := by decide +kernel
theorem dX12_takesE_10 : decode cX12_takesE 10 = .ok (.aload_n 0, 1) := by decide +kernel
theorem dX12_takesE_11 : decode cX12_takesE 11 = .ok (.getfield 62, 3) := by decide +kernel
theorem dX12_takesE_14 : decode cX12_takesE 14 = .ok (.iload_n 1, 1) := by decide +kernel
theorem dX12_takesE_15 : decode cX12_takesE 15 = .ok (.aload_n 0, 1) := by decide +kernel
theorem dX12_takesE_16 : decode cX12_takesE 16 = .ok (.getfield 74, 3) := by decide +kernel
theorem dX12_takesE_19 : decode cX12_takesE 19 = .ok (.iastore, 1) := by decide +kernel
theorem dX12_takesE_20 : decode cX12_takesE 20 = .ok (.iconst 1, 1) := by decide +kernel
theorem dX12_takesE_21 : decode cX12_takesE 21 = .ok (.istore_n 2, 1) := by decide +kernel
theorem dX12_takesE_22 : decode cX12_takesE 22 = .ok (.aload_n 0, 1) := by decide +kernel
theorem dX12_takesE_23 : decode cX12_takesE 23 = .ok (.invokevirtual 215, 3) := by decide +kernel
theorem dX12_takesE_26 : decode cX12_takesE 26 = .ok (.istore_n 3, 1) := by decide +kernel
theorem dX12_takesE_27 : decode cX12_takesE 27 = .ok (.iload_n 2, 1) := by decide +kernel
theorem dX12_takesE_28 : decode cX12_takesE 28 = .ok (.ifCond .eq 82, 3) := by decide +kernel
theorem dX12_takesE_31 : decode cX12_takesE 31 = .ok (.iload_n 3, 1) := by decide +kernel
theorem dX12_takesE_32 : decode cX12_takesE 32 = .ok (.bipush 33, 2) := by decide +kernel
theorem dX12_takesE_34 : decode cX12_takesE 34 = .ok (.if_icmp .eq 9, 3) := by decide +kernel
theorem dX12_takesE_37 : decode cX12_takesE 37 = .ok (.iload_n 3, 1) := by decide +kernel
theorem dX12_takesE_38 : decode cX12_takesE 38 = .ok (.bipush 40, 2) := by decide +kernel
theorem dX12_takesE_40 : decode cX12_takesE 40 = .ok (.if_icmp .ne 56, 3) := by decide +kernel
theorem dX12_takesE_43 : decode cX12_takesE 43 = .ok (.aload_n 0, 1) := by decide +kernel
theorem dX12_takesE_44 : decode cX12_takesE 44 = .ok (.getfield 80, 3) := by decide +kernel
theorem dX12_takesE_47 : decode cX12_takesE 47 = .ok (.iconst 4, 1) := by decide +kernel
theorem dX12_takesE_48 : decode cX12_takesE 48 = .ok (.if_icmp .ne 5, 3) := by decide +kernel
theorem dX12_takesE_51 : decode cX12_takesE 51 = .ok (.iconst 0, 1) := by decide +kernel
theorem dX12_takesE_52 : decode cX12_takesE 52 = .ok (.ireturn, 1) := by decide +kernel
theorem dX12_takesE_53 : decode cX12_takesE 53 = .ok (.aload_n 0, 1) := by decide +kernel
theorem dX12_takesE_54 : decode cX12_takesE 54 = .ok (.dup, 1) := by decide +kernel
theorem dX12_takesE_55 : decode cX12_takesE 55 = .ok (.getfield 80, 3) := by decide +kernel
theorem dX12_takesE_58 : decode cX12_takesE 58 = .ok (.iconst 1, 1) := by decide +kernel
theorem dX12_takesE_59 : decode cX12_takesE 59 = .ok (.iadd, 1) := by decide +kernel
theorem dX12_takesE_60 : decode cX12_takesE 60 = .ok (.putfield 80, 3) := by decide +kernel
theorem dX12_takesE_63 : decode cX12_takesE 63 = .ok (.aload_n 0, 1) := by decide +kernel
theorem dX12_takesE_64 : decode cX12_takesE 64 = .ok (.getfield 71, 3) := by decide +kernel
theorem dX12_takesE_67 : decode cX12_takesE 67 = .ok (.aload_n 0, 1) := by decide +kernel
theorem dX12_takesE_68 : decode cX12_takesE 68 = .ok (.getfield 77, 3) := by decide +kernel
theorem dX12_takesE_71 : decode cX12_takesE 71 = .ok (.iload_n 3, 1) := by decide +kernel
theorem dX12_takesE_72 : decode cX12_takesE 72 = .ok (.iastore, 1) := by decide +kernel
theorem dX12_takesE_73 : decode cX12_takesE 73 = .ok (.aload_n 0, 1) := by decide +kernel
theorem dX12_takesE_74 : decode cX12_takesE 74 = .ok (.dup, 1) := by decide +kernel
theorem dX12_takesE_75 : decode cX12_takesE 75 = .ok (.getfield 77, 3) := by decide +kernel
theorem dX12_takesE_78 : decode cX12_takesE 78 = .ok (.iconst 1, 1) := by decide +kernel
theorem dX12_takesE_79 : decode cX12_takesE 79 = .ok (.iadd, 1) := by decide +kernel
theorem dX12_takesE_80 : decode cX12_takesE 80 = .ok (.putfield 77, 3) := by decide +kernel
theorem dX12_takesE_83 : decode cX12_takesE 83 = .ok (.aload_n 0, 1) := by decide +kernel
theorem dX12_takesE_84 : decode cX12_takesE 84 = .ok (.dup, 1) := by decide +kernel
theorem dX12_takesE_85 : decode cX12_takesE 85 = .ok (.getfield 44, 3) := by decide +kernel
theorem dX12_takesE_88 : decode cX12_takesE 88 = .ok (.iconst 1, 1) := by decide +kernel
theorem dX12_takesE_89 : decode cX12_takesE 89 = .ok (.iadd, 1) := by decide +kernel
theorem dX12_takesE_90 : decode cX12_takesE 90 = .ok (.putfield 44, 3) := by decide +kernel
theorem dX12_takesE_93 : decode cX12_takesE 93 = .ok (.goto (-71), 3) := by decide +kernel
theorem dX12_takesE_96 : decode cX12_takesE 96 = .ok (.aload_n 0, 1) := by decide +kernel
theorem dX12_takesE_97 : decode cX12_takesE 97 = .ok (.invokevirtual 240, 3) := by decide +kernel
theorem dX12_takesE_100 : decode cX12_takesE 100 = .ok (.ifCond .eq 8, 3) := by decide +kernel
theorem dX12_takesE_103 : decode cX12_takesE 103 = .ok (.iconst 0, 1) := by decide +kernel
theorem dX12_takesE_104 : decode cX12_takesE 104 = .ok (.istore_n 2, 1) := by decide +kernel
theorem dX12_takesE_105 : decode cX12_takesE 105 = .ok (.goto (-83), 3) := by decide +kernel
theorem dX12_takesE_108 : decode cX12_takesE 108 = .ok (.iconst 0, 1) := by decide +kernel
theorem dX12_takesE_109 : decode cX12_takesE 109 = .ok (.ireturn, 1) := by decide +kernel
theorem dX12_takesE_110 : decode cX12_takesE 110 = .ok (.iload_n 3, 1) := by decide +kernel
theorem dX12_takesE_111 : decode cX12_takesE 111 = .ok (.bipush 38, 2) := by decide +kernel
theorem dX12_takesE_113 : decode cX12_takesE 113 = .ok (.if_icmp .eq 9, 3) := by decide +kernel
theorem dX12_takesE_116 : decode cX12_takesE 116 = .ok (.iload_n 3, 1) := by decide +kernel
theorem dX12_takesE_117 : decode cX12_takesE 117 = .ok (.bipush 124, 2) := by decide +kernel
theorem dX12_takesE_119 : decode cX12_takesE 119 = .ok (.if_icmp .ne 43, 3) := by decide +kernel
theorem dX12_takesE_122 : decode cX12_takesE 122 = .ok (.aload_n 0, 1) := by decide +kernel
theorem dX12_takesE_123 : decode cX12_takesE 123 = .ok (.iload_n 3, 1) := by decide +kernel
theorem dX12_takesE_124 : decode cX12_takesE 124 = .ok (.invokevirtual 243, 3) := by decide +kernel
theorem dX12_takesE_127 : decode cX12_takesE 127 = .ok (.aload_n 0, 1) := by decide +kernel
theorem dX12_takesE_128 : decode cX12_takesE 128 = .ok (.getfield 71, 3) := by decide +kernel
theorem dX12_takesE_131 : decode cX12_takesE 131 = .ok (.aload_n 0, 1) := by decide +kernel
theorem dX12_takesE_132 : decode cX12_takesE 132 = .ok (.getfield 77, 3) := by decide +kernel
theorem dX12_takesE_135 : decode cX12_takesE 135 = .ok (.iload_n 3, 1) := by decide +kernel
theorem dX12_takesE_136 : decode cX12_takesE 136 = .ok (.iastore, 1) := by decide +kernel
theorem dX12_takesE_137 : decode cX12_takesE 137 = .ok (.aload_n 0, 1) := by decide +kernel
theorem dX12_takesE_138 : decode cX12_takesE 138 = .ok (.dup, 1) := by decide +kernel
theorem dX12_takesE_139 : decode cX12_takesE 139 = .ok (.getfield 77, 3) := by decide +kernel
theorem dX12_takesE_142 : decode cX12_takesE 142 = .ok (.iconst 1, 1) := by decide +kernel
theorem dX12_takesE_143 : decode cX12_takesE 143 = .ok (.iadd, 1) := by decide +kernel
theorem dX12_takesE_144 : decode cX12_takesE 144 = .ok (.putfield 77, 3) := by decide +kernel
theorem dX12_takesE_147 : decode cX12_takesE 147 = .ok (.iconst 1, 1) := by decide +kernel
theorem dX12_takesE_148 : decode cX12_takesE 148 = .ok (.istore_n 2, 1) := by decide +kernel
theorem dX12_takesE_149 : decode cX12_takesE 149 = .ok (.aload_n 0, 1) := by decide +kernel
theorem dX12_takesE_150 : decode cX12_takesE 150 = .ok (.dup, 1) := by decide +kernel
theorem dX12_takesE_151 : decode cX12_takesE 151 = .ok (.getfield 44, 3) := by decide +kernel
theorem dX12_takesE_154 : decode cX12_takesE 154 = .ok (.iconst 1, 1) := by decide +kernel
theorem dX12_takesE_155 : decode cX12_takesE 155 = .ok (.iadd, 1) := by decide +kernel
theorem dX12_takesE_156 : decode cX12_takesE 156 = .ok (.putfield 44, 3) := by decide +kernel
theorem dX12_takesE_159 : decode cX12_takesE 159 = .ok (.goto (-137), 3) := by decide +kernel
theorem dX12_takesE_162 : decode cX12_takesE 162 = .ok (.aload_n 0, 1) := by decide +kernel
theorem dX12_takesE_163 : decode cX12_takesE 163 = .ok (.bipush 124, 2) := by decide +kernel
theorem dX12_takesE_165 : decode cX12_takesE 165 = .ok (.invokevirtual 243, 3) := by decide +kernel
theorem dX12_takesE_168 : decode cX12_takesE 168 = .ok (.aload_n 0, 1) := by decide +kernel
theorem dX12_takesE_169 : decode cX12_takesE 169 = .ok (.getfield 65, 3) := by decide +kernel
theorem dX12_takesE_172 : decode cX12_takesE 172 = .ok (.iload_n 1, 1) := by decide +kernel
theorem dX12_takesE_173 : decode cX12_takesE 173 = .ok (.aload_n 0, 1) := by decide +kernel
theorem dX12_takesE_174 : decode cX12_takesE 174 = .ok (.getfield 74, 3) := by decide +kernel
theorem dX12_takesE_177 : decode cX12_takesE 177 = .ok (.iastore, 1) := by decide +kernel
theorem dX12_takesE_178 : decode cX12_takesE 178 = .ok (.aload_n 0, 1) := by decide +kernel
theorem dX12_takesE_179 : decode cX12_takesE 179 = .ok (.getfield 77, 3) := by decide +kernel
theorem dX12_takesE_182 : decode cX12_takesE 182 = .ok (.ifCond .ne 5, 3) := by decide +kernel
theorem dX12_takesE_185 : decode cX12_takesE 185 = .ok (.iconst 1, 1) := by decide +kernel
theorem dX12_takesE_186 : decode cX12_takesE 186 = .ok (.ireturn, 1) := by decide +kernel
theorem dX12_takesE_187 : decode cX12_takesE 187 = .ok (.iload_n 3, 1) := by decide +kernel
theorem dX12_takesE_188 : decode cX12_takesE 188 = .ok (.bipush 41, 2) := by decide +kernel
theorem dX12_takesE_190 : decode cX12_takesE 190 = .ok (.if_icmp .eq 5, 3) := by decide +kernel
theorem dX12_takesE_193 : decode cX12_takesE 193 = .ok (.iconst 0, 1) := by decide +kernel
theorem dX12_takesE_194 : decode cX12_takesE 194 = .ok (.ireturn, 1) := by decide +kernel
theorem dX12_takesE_195 : decode cX12_takesE 195 = .ok (.aload_n 0, 1) := by decide +kernel
theorem dX12_takesE_196 : decode cX12_takesE 196 = .ok (.dup, 1) := by decide +kernel
theorem dX12_takesE_197 : decode cX12_takesE 197 = .ok (.getfield 77, 3) := by decide +kernel
theorem dX12_takesE_200 : decode cX12_takesE 200 = .ok (.iconst 1, 1) := by decide +kernel
theorem dX12_takesE_201 : decode cX12_takesE 201 = .ok (.isub, 1) := by decide +kernel
theorem dX12_takesE_202 : decode cX12_takesE 202 = .ok (.putfield 77, 3) := by decide +kernel
theorem dX12_takesE_205 : decode cX12_takesE 205 = .ok (.aload_n 0, 1) := by decide +kernel
theorem dX12_takesE_206 : decode cX12_takesE 206 = .ok (.dup, 1) := by decide +kernel
theorem dX12_takesE_207 : decode cX12_takesE 207 = .ok (.getfield 80, 3) := by decide +kernel
theorem dX12_takesE_210 : decode cX12_takesE 210 = .ok (.iconst 1, 1) := by decide +kernel
theorem dX12_takesE_211 : decode cX12_takesE 211 = .ok (.isub, 1) := by decide +kernel
theorem dX12_takesE_212 : decode cX12_takesE 212 = .ok (.putfield 80, 3) := by decide +kernel
theorem dX12_takesE_215 : decode cX12_takesE 215 = .ok (.aload_n 0, 1) := by decide +kernel
theorem dX12_takesE_216 : decode cX12_takesE 216 = .ok (.dup, 1) := by decide +kernel
theorem dX12_takesE_217 : decode cX12_takesE 217 = .ok (.getfield 44, 3) := by decide +kernel
theorem dX12_takesE_220 : decode cX12_takesE 220 = .ok (.iconst 1, 1) := by decide +kernel
theorem dX12_takesE_221 : decode cX12_takesE 221 = .ok (.iadd, 1) := by decide +kernel
theorem dX12_takesE_222 : decode cX12_takesE 222 = .ok (.putfield 44, 3) := by decide +kernel
theorem dX12_takesE_225 : decode cX12_takesE 225 = .ok (.aload_n 0, 1) := by decide +kernel
theorem dX12_takesE_226 : decode cX12_takesE 226 = .ok (.invokevirtual 237, 3) := by decide +kernel
theorem dX12_takesE_229 : decode cX12_takesE 229 = .ok (.goto (-207), 3) := by decide +kernel
theorem dX12_takesHead_0 : decode cX12_takesHead 0 = .ok (.aload_n 0, 1) := by decide +kernel
theorem dX12_takesHead_1 : decode cX12_takesHead 1 = .ok (.invokevirtual 215, 3) := by decide +kernel
theorem dX12_takesHead_4 : decode cX12_takesHead 4 = .ok (.lookupswitch 79 #[(111, 36), (115, 50), (116, 64)], 36) := by decide +kernel
theorem dX12_takesHead_40 : decode cX12_takesHead 40 = .ok (.aload_n 0, 1) := by decide +kernel
theorem dX12_takesHead_41 : decode cX12_takesHead 41 = .ok (.getfield 56, 3) := by decide +kernel
theorem dX12_takesHead_44 : decode cX12_takesHead 44 = .ok (.iload_n 1, 1) := by decide +kernel
theorem dX12_takesHead_45 : decode cX12_takesHead 45 = .ok (.iconst 0, 1) := by decide +kernel
theorem dX12_takesHead_46 : decode cX12_takesHead 46 = .ok (.iastore, 1) := by decide +kernel
theorem dX12_takesHead_47 : decode cX12_takesHead 47 = .ok (.aload_n 0, 1) := by decide +kernel
theorem dX12_takesHead_48 : decode cX12_takesHead 48 = .ok (.iconst 0, 1) := by decide +kernel
theorem dX12_takesHead_49 : decode cX12_takesHead 49 = .ok (.iconst 4, 1) := by decide +kernel
theorem dX12_takesHead_50 : decode cX12_takesHead 50 = .ok (.invokevirtual 246, 3) := by decide +kernel
theorem dX12_takesHead_53 : decode cX12_takesHead 53 = .ok (.ireturn, 1) := by decide +kernel
theorem dX12_takesHead_54 : decode cX12_takesHead 54 = .ok (.aload_n 0, 1) := by decide +kernel
theorem dX12_takesHead_55 : decode cX12_takesHead 55 = .ok (.getfield 56, 3) := by decide +kernel
theorem dX12_takesHead_58 : decode cX12_takesHead 58 = .ok (.iload_n 1, 1) := by decide +kernel
theorem dX12_takesHead_59 : decode cX12_takesHead 59 = .ok (.iconst 1, 1) := by decide +kernel
theorem dX12_takesHead_60 : decode cX12_takesHead 60 = .ok (.iastore, 1) := by decide +kernel
theorem dX12_takesHead_61 : decode cX12_takesHead 61 = .ok (.aload_n 0, 1) := by decide +kernel
theorem dX12_takesHead_62 : decode cX12_takesHead 62 = .ok (.iconst 4, 1) := by decide +kernel
theorem dX12_takesHead_63 : decode cX12_takesHead 63 = .ok (.iconst 4, 1) := by decide +kernel
theorem dX12_takesHead_64 : decode cX12_takesHead 64 = .ok (.invokevirtual 246, 3) := by decide +kernel
theorem dX12_takesHead_67 : decode cX12_takesHead 67 = .ok (.ireturn, 1) := by decide +kernel
theorem dX12_takesHead_68 : decode cX12_takesHead 68 = .ok (.aload_n 0, 1) := by decide +kernel
theorem dX12_takesHead_69 : decode cX12_takesHead 69 = .ok (.getfield 56, 3) := by decide +kernel
theorem dX12_takesHead_72 : decode cX12_takesHead 72 = .ok (.iload_n 1, 1) := by decide +kernel
theorem dX12_takesHead_73 : decode cX12_takesHead 73 = .ok (.iconst 2, 1) := by decide +kernel
theorem dX12_takesHead_74 : decode cX12_takesHead 74 = .ok (.iastore, 1) := by decide +kernel
theorem dX12_takesHead_75 : decode cX12_takesHead 75 = .ok (.aload_n 0, 1) := by decide +kernel
theorem dX12_takesHead_76 : decode cX12_takesHead 76 = .ok (.bipush 8, 2) := by decide +kernel
theorem dX12_takesHead_78 : decode cX12_takesHead 78 = .ok (.iconst 4, 1) := by decide +kernel
theorem dX12_takesHead_79 : decode cX12_takesHead 79 = .ok (.invokevirtual 246, 3) := by decide +kernel
theorem dX12_takesHead_82 : decode cX12_takesHead 82 = .ok (.ireturn, 1) := by decide +kernel
theorem dX12_takesHead_83 : decode cX12_takesHead 83 = .ok (.aload_n 0, 1) := by decide +kernel
theorem dX12_takesHead_84 : decode cX12_takesHead 84 = .ok (.getfield 56, 3) := by decide +kernel
theorem dX12_takesHead_87 : decode cX12_takesHead 87 = .ok (.iload_n 1, 1) := by decide +kernel
theorem dX12_takesHead_88 : decode cX12_takesHead 88 = .ok (.iconst 3, 1) := by decide +kernel
theorem dX12_takesHead_89 : decode cX12_takesHead 89 = .ok (.iastore, 1) := by decide +kernel
theorem dX12_takesHead_90 : decode cX12_takesHead 90 = .ok (.aload_n 0, 1) := by decide +kernel
theorem dX12_takesHead_91 : decode cX12_takesHead 91 = .ok (.bipush 12, 2) := by decide +kernel
theorem dX12_takesHead_93 : decode cX12_takesHead 93 = .ok (.iconst 4, 1) := by decide +kernel
theorem dX12_takesHead_94 : decode cX12_takesHead 94 = .ok (.invokevirtual 246, 3) := by decide +kernel
theorem dX12_takesHead_97 : decode cX12_takesHead 97 = .ok (.ireturn, 1) := by decide +kernel
theorem dX12_takesClause_0 : decode cX12_takesClause 0 = .ok (.aload_n 0, 1) := by decide +kernel
theorem dX12_takesClause_1 : decode cX12_takesClause 1 = .ok (.iload_n 1, 1) := by decide +kernel
theorem dX12_takesClause_2 : decode cX12_takesClause 2 = .ok (.invokevirtual 249, 3) := by decide +kernel
theorem dX12_takesClause_5 : decode cX12_takesClause 5 = .ok (.ifCond .eq 10, 3) := by decide +kernel
theorem dX12_takesClause_8 : decode cX12_takesClause 8 = .ok (.aload_n 0, 1) := by decide +kernel
theorem dX12_takesClause_9 : decode cX12_takesClause 9 = .ok (.invokevirtual 234, 3) := by decide +kernel
theorem dX12_takesClause_12 : decode cX12_takesClause 12 = .ok (.ifCond .ne 5, 3) := by decide +kernel
theorem dX12_takesClause_15 : decode cX12_takesClause 15 = .ok (.iconst 0, 1) := by decide +kernel
theorem dX12_takesClause_16 : decode cX12_takesClause 16 = .ok (.ireturn, 1) := by decide +kernel
theorem dX12_takesClause_17 : decode cX12_takesClause 17 = .ok (.aload_n 0, 1) := by decide +kernel
theorem dX12_takesClause_18 : decode cX12_takesClause 18 = .ok (.getfield 59, 3) := by decide +kernel
theorem dX12_takesClause_21 : decode cX12_takesClause 21 = .ok (.iload_n 1, 1) := by decide +kernel
theorem dX12_takesClause_22 : decode cX12_takesClause 22 = .ok (.aload_n 0, 1) := by decide +kernel
theorem dX12_takesClause_23 : decode cX12_takesClause 23 = .ok (.getfield 47, 3) := by decide +kernel
theorem dX12_takesClause_26 : decode cX12_takesClause 26 = .ok (.iastore, 1) := by decide +kernel
theorem dX12_takesClause_27 : decode cX12_takesClause 27 = .ok (.aload_n 0, 1) := by decide +kernel
theorem dX12_takesClause_28 : decode cX12_takesClause 28 = .ok (.getfield 56, 3) := by decide +kernel
theorem dX12_takesClause_31 : decode cX12_takesClause 31 = .ok (.iload_n 1, 1) := by decide +kernel
theorem dX12_takesClause_32 : decode cX12_takesClause 32 = .ok (.iaload, 1) := by decide +kernel
theorem dX12_takesClause_33 : decode cX12_takesClause 33 = .ok (.iconst 3, 1) := by decide +kernel
theorem dX12_takesClause_34 : decode cX12_takesClause 34 = .ok (.if_icmp .eq 20, 3) := by decide +kernel
theorem dX12_takesClause_37 : decode cX12_takesClause 37 = .ok (.aload_n 0, 1) := by decide +kernel
theorem dX12_takesClause_38 : decode cX12_takesClause 38 = .ok (.bipush 32, 2) := by decide +kernel
theorem dX12_takesClause_40 : decode cX12_takesClause 40 = .ok (.invokevirtual 219, 3) := by decide +kernel
theorem dX12_takesClause_43 : decode cX12_takesClause 43 = .ok (.ifCond .eq 15, 3) := by decide +kernel
theorem dX12_takesClause_46 : decode cX12_takesClause 46 = .ok (.aload_n 0, 1) := by decide +kernel
theorem dX12_takesClause_47 : decode cX12_takesClause 47 = .ok (.iload_n 1, 1) := by decide +kernel
theorem dX12_takesClause_48 : decode cX12_takesClause 48 = .ok (.invokevirtual 252, 3) := by decide +kernel
theorem dX12_takesClause_51 : decode cX12_takesClause 51 = .ok (.ifCond .eq 7, 3) := by decide +kernel
theorem dX12_takesClause_54 : decode cX12_takesClause 54 = .ok (.iconst 1, 1) := by decide +kernel
theorem dX12_takesClause_55 : decode cX12_takesClause 55 = .ok (.goto 4, 3) := by decide +kernel
theorem dX12_takesClause_58 : decode cX12_takesClause 58 = .ok (.iconst 0, 1) := by decide +kernel
theorem dX12_takesClause_59 : decode cX12_takesClause 59 = .ok (.ireturn, 1) := by decide +kernel
theorem dX12_goesText_0 : decode cX12_goesText 0 = .ok (.aload_n 0, 1) := by decide +kernel
theorem dX12_goesText_1 : decode cX12_goesText 1 = .ok (.iconst 0, 1) := by decide +kernel
theorem dX12_goesText_2 : decode cX12_goesText 2 = .ok (.putfield 44, 3) := by decide +kernel
theorem dX12_goesText_5 : decode cX12_goesText 5 = .ok (.aload_n 0, 1) := by decide +kernel
theorem dX12_goesText_6 : decode cX12_goesText 6 = .ok (.bipush 100, 2) := by decide +kernel
theorem dX12_goesText_8 : decode cX12_goesText 8 = .ok (.iload_n 1, 1) := by decide +kernel
theorem dX12_goesText_9 : decode cX12_goesText 9 = .ok (.imul, 1) := by decide +kernel
theorem dX12_goesText_10 : decode cX12_goesText 10 = .ok (.putfield 74, 3) := by decide +kernel
theorem dX12_goesText_13 : decode cX12_goesText 13 = .ok (.iconst 0, 1) := by decide +kernel
theorem dX12_goesText_14 : decode cX12_goesText 14 = .ok (.istore_n 2, 1) := by decide +kernel
theorem dX12_goesText_15 : decode cX12_goesText 15 = .ok (.aload_n 0, 1) := by decide +kernel
theorem dX12_goesText_16 : decode cX12_goesText 16 = .ok (.bipush 10, 2) := by decide +kernel
theorem dX12_goesText_18 : decode cX12_goesText 18 = .ok (.iload_n 1, 1) := by decide +kernel
theorem dX12_goesText_19 : decode cX12_goesText 19 = .ok (.imul, 1) := by decide +kernel
theorem dX12_goesText_20 : decode cX12_goesText 20 = .ok (.iload_n 2, 1) := by decide +kernel
theorem dX12_goesText_21 : decode cX12_goesText 21 = .ok (.iadd, 1) := by decide +kernel
theorem dX12_goesText_22 : decode cX12_goesText 22 = .ok (.invokevirtual 255, 3) := by decide +kernel
theorem dX12_goesText_25 : decode cX12_goesText 25 = .ok (.ifCond .ne 5, 3) := by decide +kernel
theorem dX12_goesText_28 : decode cX12_goesText 28 = .ok (.iconst 0, 1) := by decide +kernel
theorem dX12_goesText_29 : decode cX12_goesText 29 = .ok (.ireturn, 1) := by decide +kernel
theorem dX12_goesText_30 : decode cX12_goesText 30 = .ok (.iinc 2 1, 3) := by decide +kernel
theorem dX12_goesText_33 : decode cX12_goesText 33 = .ok (.aload_n 0, 1) := by decide +kernel
theorem dX12_goesText_34 : decode cX12_goesText 34 = .ok (.getfield 53, 3) := by decide +kernel
theorem dX12_goesText_37 : decode cX12_goesText 37 = .ok (.iload_n 1, 1) := by decide +kernel
theorem dX12_goesText_38 : decode cX12_goesText 38 = .ok (.iload_n 2, 1) := by decide +kernel
theorem dX12_goesText_39 : decode cX12_goesText 39 = .ok (.iastore, 1) := by decide +kernel
theorem dX12_goesText_40 : decode cX12_goesText 40 = .ok (.aload_n 0, 1) := by decide +kernel
theorem dX12_goesText_41 : decode cX12_goesText 41 = .ok (.getfield 44, 3) := by decide +kernel
theorem dX12_goesText_44 : decode cX12_goesText 44 = .ok (.aload_n 0, 1) := by decide +kernel
theorem dX12_goesText_45 : decode cX12_goesText 45 = .ok (.getfield 41, 3) := by decide +kernel
theorem dX12_goesText_48 : decode cX12_goesText 48 = .ok (.if_icmp .ne 5, 3) := by decide +kernel
theorem dX12_goesText_51 : decode cX12_goesText 51 = .ok (.iconst 1, 1) := by decide +kernel
theorem dX12_goesText_52 : decode cX12_goesText 52 = .ok (.ireturn, 1) := by decide +kernel
theorem dX12_goesText_53 : decode cX12_goesText 53 = .ok (.iload_n 2, 1) := by decide +kernel
theorem dX12_goesText_54 : decode cX12_goesText 54 = .ok (.bipush 10, 2) := by decide +kernel
theorem dX12_goesText_56 : decode cX12_goesText 56 = .ok (.if_icmp .eq 12, 3) := by decide +kernel
theorem dX12_goesText_59 : decode cX12_goesText 59 = .ok (.aload_n 0, 1) := by decide +kernel
theorem dX12_goesText_60 : decode cX12_goesText 60 = .ok (.bipush 59, 2) := by decide +kernel
theorem dX12_goesText_62 : decode cX12_goesText 62 = .ok (.invokevirtual 219, 3) := by decide +kernel
theorem dX12_goesText_65 : decode cX12_goesText 65 = .ok (.ifCond .ne (-50), 3) := by decide +kernel
theorem dX12_goesText_68 : decode cX12_goesText 68 = .ok (.iconst 0, 1) := by decide +kernel
theorem dX12_goesText_69 : decode cX12_goesText 69 = .ok (.ireturn, 1) := by decide +kernel
theorem dX12_ward_0 : decode cX12_ward 0 = .ok (.aload_n 0, 1) := by decide +kernel
theorem dX12_ward_1 : decode cX12_ward 1 = .ok (.getfield 35, 3) := by decide +kernel
theorem dX12_ward_4 : decode cX12_ward 4 = .ok (.bipush 6, 2) := by decide +kernel
theorem dX12_ward_6 : decode cX12_ward 6 = .ok (.if_icmp .ne 6, 3) := by decide +kernel
theorem dX12_ward_9 : decode cX12_ward 9 = .ok (.bipush (-4), 2) := by decide +kernel
theorem dX12_ward_11 : decode cX12_ward 11 = .ok (.ireturn, 1) := by decide +kernel
theorem dX12_ward_12 : decode cX12_ward 12 = .ok (.aload_n 0, 1) := by decide +kernel
theorem dX12_ward_13 : decode cX12_ward 13 = .ok (.aload_n 0, 1) := by decide +kernel
theorem dX12_ward_14 : decode cX12_ward 14 = .ok (.getfield 35, 3) := by decide +kernel
theorem dX12_ward_17 : decode cX12_ward 17 = .ok (.invokevirtual 258, 3) := by decide +kernel
theorem dX12_ward_20 : decode cX12_ward 20 = .ok (.istore_n 1, 1) := by decide +kernel
theorem dX12_ward_21 : decode cX12_ward 21 = .ok (.aload_n 0, 1) := by decide +kernel
theorem dX12_ward_22 : decode cX12_ward 22 = .ok (.iconst 0, 1) := by decide +kernel
theorem dX12_ward_23 : decode cX12_ward 23 = .ok (.putfield 41, 3) := by decide +kernel
theorem dX12_ward_26 : decode cX12_ward 26 = .ok (.iload_n 1, 1) := by decide +kernel
theorem dX12_ward_27 : decode cX12_ward 27 = .ok (.ifCond .ne 11, 3) := by decide +kernel
theorem dX12_ward_30 : decode cX12_ward 30 = .ok (.bipush (-10), 2) := by decide +kernel
theorem dX12_ward_32 : decode cX12_ward 32 = .ok (.aload_n 0, 1) := by decide +kernel
theorem dX12_ward_33 : decode cX12_ward 33 = .ok (.getfield 44, 3) := by decide +kernel
theorem dX12_ward_36 : decode cX12_ward 36 = .ok (.isub, 1) := by decide +kernel
theorem dX12_ward_37 : decode cX12_ward 37 = .ok (.ireturn, 1) := by decide +kernel
theorem dX12_ward_38 : decode cX12_ward 38 = .ok (.aload_n 0, 1) := by decide +kernel
theorem dX12_ward_39 : decode cX12_ward 39 = .ok (.aload_n 0, 1) := by decide +kernel
theorem dX12_ward_40 : decode cX12_ward 40 = .ok (.getfield 35, 3) := by decide +kernel
theorem dX12_ward_43 : decode cX12_ward 43 = .ok (.putfield 38, 3) := by decide +kernel
theorem dX12_ward_46 : decode cX12_ward 46 = .ok (.aload_n 0, 1) := by decide +kernel
theorem dX12_ward_47 : decode cX12_ward 47 = .ok (.dup, 1) := by decide +kernel
theorem dX12_ward_48 : decode cX12_ward 48 = .ok (.getfield 35, 3) := by decide +kernel
theorem dX12_ward_51 : decode cX12_ward 51 = .ok (.iconst 1, 1) := by decide +kernel
theorem dX12_ward_52 : decode cX12_ward 52 = .ok (.iadd, 1) := by decide +kernel
theorem dX12_ward_53 : decode cX12_ward 53 = .ok (.putfield 35, 3) := by decide +kernel
theorem dX12_ward_56 : decode cX12_ward 56 = .ok (.aload_n 0, 1) := by decide +kernel
theorem dX12_ward_57 : decode cX12_ward 57 = .ok (.getfield 38, 3) := by decide +kernel
theorem dX12_ward_60 : decode cX12_ward 60 = .ok (.ireturn, 1) := by decide +kernel
theorem dX12_begin_0 : decode cX12_begin 0 = .ok (.aload_n 0, 1) := by decide +kernel
theorem dX12_begin_1 : decode cX12_begin 1 = .ok (.getfield 38, 3) := by decide +kernel
theorem dX12_begin_4 : decode cX12_begin 4 = .ok (.ifCond .ge 7, 3) := by decide +kernel
theorem dX12_begin_7 : decode cX12_begin 7 = .ok (.iconst 0, 1) := by decide +kernel
theorem dX12_begin_8 : decode cX12_begin 8 = .ok (.goto 10, 3) := by decide +kernel
theorem dX12_begin_11 : decode cX12_begin 11 = .ok (.bipush 10, 2) := by decide +kernel
theorem dX12_begin_13 : decode cX12_begin 13 = .ok (.aload_n 0, 1) := by decide +kernel
theorem dX12_begin_14 : decode cX12_begin 14 = .ok (.getfield 38, 3) := by decide +kernel
theorem dX12_begin_17 : decode cX12_begin 17 = .ok (.imul, 1) := by decide +kernel
theorem dX12_begin_18 : decode cX12_begin 18 = .ok (.ireturn, 1) := by decide +kernel
theorem dX12_behind_0 : decode cX12_behind 0 = .ok (.aload_n 0, 1) := by decide +kernel
theorem dX12_behind_1 : decode cX12_behind 1 = .ok (.getfield 38, 3) := by decide +kernel
theorem dX12_behind_4 : decode cX12_behind 4 = .ok (.ifCond .ge 7, 3) := by decide +kernel
theorem dX12_behind_7 : decode cX12_behind 7 = .ok (.iconst 0, 1) := by decide +kernel
theorem dX12_behind_8 : decode cX12_behind 8 = .ok (.goto 20, 3) := by decide +kernel
theorem dX12_behind_11 : decode cX12_behind 11 = .ok (.bipush 10, 2) := by decide +kernel
theorem dX12_behind_13 : decode cX12_behind 13 = .ok (.aload_n 0, 1) := by decide +kernel
theorem dX12_behind_14 : decode cX12_behind 14 = .ok (.getfield 38, 3) := by decide +kernel
theorem dX12_behind_17 : decode cX12_behind 17 = .ok (.imul, 1) := by decide +kernel
theorem dX12_behind_18 : decode cX12_behind 18 = .ok (.aload_n 0, 1) := by decide +kernel
theorem dX12_behind_19 : decode cX12_behind 19 = .ok (.getfield 53, 3) := by decide +kernel
theorem dX12_behind_22 : decode cX12_behind 22 = .ok (.aload_n 0, 1) := by decide +kernel
theorem dX12_behind_23 : decode cX12_behind 23 = .ok (.getfield 38, 3) := by decide +kernel
theorem dX12_behind_26 : decode cX12_behind 26 = .ok (.iaload, 1) := by decide +kernel
theorem dX12_behind_27 : decode cX12_behind 27 = .ok (.iadd, 1) := by decide +kernel
theorem dX12_behind_28 : decode cX12_behind 28 = .ok (.ireturn, 1) := by decide +kernel
theorem dX12_near_0 : decode cX12_near 0 = .ok (.iconst 2, 1) := by decide +kernel
theorem dX12_near_1 : decode cX12_near 1 = .ok (.istore_n 1, 1) := by decide +kernel
theorem dX12_near_2 : decode cX12_near 2 = .ok (.aload_n 0, 1) := by decide +kernel
theorem dX12_near_3 : decode cX12_near 3 = .ok (.invokevirtual 261, 3) := by decide +kernel
theorem dX12_near_6 : decode cX12_near 6 = .ok (.istore_n 2, 1) := by decide +kernel
theorem dX12_near_7 : decode cX12_near 7 = .ok (.iload_n 2, 1) := by decide +kernel
theorem dX12_near_8 : decode cX12_near 8 = .ok (.aload_n 0, 1) := by decide +kernel
theorem dX12_near_9 : decode cX12_near 9 = .ok (.invokevirtual 264, 3) := by decide +kernel
theorem dX12_near_12 : decode cX12_near 12 = .ok (.if_icmp .ge 30, 3) := by decide +kernel
theorem dX12_near_15 : decode cX12_near 15 = .ok (.aload_n 0, 1) := by decide +kernel
theorem dX12_near_16 : decode cX12_near 16 = .ok (.getfield 56, 3) := by decide +kernel
theorem dX12_near_19 : decode cX12_near 19 = .ok (.iload_n 2, 1) := by decide +kernel
theorem dX12_near_20 : decode cX12_near 20 = .ok (.iaload, 1) := by decide +kernel
theorem dX12_near_21 : decode cX12_near 21 = .ok (.iconst 3, 1) := by decide +kernel
theorem dX12_near_22 : decode cX12_near 22 = .ok (.if_icmp .ne 12, 3) := by decide +kernel
theorem dX12_near_25 : decode cX12_near 25 = .ok (.aload_n 0, 1) := by decide +kernel
theorem dX12_near_26 : decode cX12_near 26 = .ok (.getfield 59, 3) := by decide +kernel
theorem dX12_near_29 : decode cX12_near 29 = .ok (.iload_n 2, 1) := by decide +kernel
theorem dX12_near_30 : decode cX12_near 30 = .ok (.iaload, 1) := by decide +kernel
theorem dX12_near_31 : decode cX12_near 31 = .ok (.goto 4, 3) := by decide +kernel
theorem dX12_near_34 : decode cX12_near 34 = .ok (.iload_n 1, 1) := by decide +kernel
theorem dX12_near_35 : decode cX12_near 35 = .ok (.istore_n 1, 1) := by decide +kernel
theorem dX12_near_36 : decode cX12_near 36 = .ok (.iinc 2 1, 3) := by decide +kernel
theorem dX12_near_39 : decode cX12_near 39 = .ok (.goto (-32), 3) := by decide +kernel
theorem dX12_near_42 : decode cX12_near 42 = .ok (.iload_n 1, 1) := by decide +kernel
theorem dX12_near_43 : decode cX12_near 43 = .ok (.ireturn, 1) := by decide +kernel
theorem dX12_factOf_0 : decode cX12_factOf 0 = .ok (.iload_n 1, 1) := by decide +kernel
theorem dX12_factOf_1 : decode cX12_factOf 1 = .ok (.tableswitch 67 0 4 #[35, 37, 44, 51, 57], 35) := by decide +kernel
theorem dX12_factOf_36 : decode cX12_factOf 36 = .ok (.iload_n 2, 1) := by decide +kernel
theorem dX12_factOf_37 : decode cX12_factOf 37 = .ok (.ireturn, 1) := by decide +kernel
theorem dX12_factOf_38 : decode cX12_factOf 38 = .ok (.aload_n 0, 1) := by decide +kernel
theorem dX12_factOf_39 : decode cX12_factOf 39 = .ok (.getfield 23, 3) := by decide +kernel
