theorem dX0_init_0 : decode cX0_init 0 = .ok (.aload_n 0, 1) := by decide +kernel
theorem dX0_init_1 : decode cX0_init 1 = .ok (.iload_n 1, 1) := by decide +kernel
theorem dX0_init_2 : decode cX0_init 2 = .ok (.iload_n 2, 1) := by decide +kernel
theorem dX0_init_3 : decode cX0_init 3 = .ok (.iload_n 3, 1) := by decide +kernel
theorem dX0_init_4 : decode cX0_init 4 = .ok (.invokespecial 3, 3) := by decide +kernel
theorem dX0_init_7 : decode cX0_init 7 = .ok (.return_, 1) := by decide +kernel
theorem dX0_showing_0 : decode cX0_showing 0 = .ok (.iload_n 1, 1) := by decide +kernel
theorem dX0_showing_1 : decode cX0_showing 1 = .ok (.sipush 341, 3) := by decide +kernel
theorem dX0_showing_4 : decode cX0_showing 4 = .ok (.iand, 1) := by decide +kernel
theorem dX0_showing_5 : decode cX0_showing 5 = .ok (.ireturn, 1) := by decide +kernel
theorem dX0_tilts_0 : decode cX0_tilts 0 = .ok (.aload_n 2, 1) := by decide +kernel
theorem dX0_tilts_1 : decode cX0_tilts 1 = .ok (.bipush 30, 2) := by decide +kernel
theorem dX0_tilts_3 : decode cX0_tilts 3 = .ok (.invokevirtual 9, 3) := by decide +kernel
theorem dX0_tilts_6 : decode cX0_tilts 6 = .ok (.pop, 1) := by decide +kernel
theorem dX0_tilts_7 : decode cX0_tilts 7 = .ok (.aload_n 0, 1) := by decide +kernel
theorem dX0_tilts_8 : decode cX0_tilts 8 = .ok (.iload_n 1, 1) := by decide +kernel
theorem dX0_tilts_9 : decode cX0_tilts 9 = .ok (.iconst 3, 1) := by decide +kernel
theorem dX0_tilts_10 : decode cX0_tilts 10 = .ok (.imul, 1) := by decide +kernel
theorem dX0_tilts_11 : decode cX0_tilts 11 = .ok (.aload_n 2, 1) := by decide +kernel
theorem dX0_tilts_12 : decode cX0_tilts 12 = .ok (.invokespecial 15, 3) := by decide +kernel
theorem dX0_tilts_15 : decode cX0_tilts 15 = .ok (.ireturn, 1) := by decide +kernel
theorem dX1_init_0 : decode cX1_init 0 = .ok (.aload_n 0, 1) := by decide +kernel
theorem dX1_init_1 : decode cX1_init 1 = .ok (.iload_n 1, 1) := by decide +kernel
theorem dX1_init_2 : decode cX1_init 2 = .ok (.iload_n 2, 1) := by decide +kernel
theorem dX1_init_3 : decode cX1_init 3 = .ok (.iload_n 3, 1) := by decide +kernel
theorem dX1_init_4 : decode cX1_init 4 = .ok (.invokespecial 1, 3) := by decide +kernel
theorem dX1_init_7 : decode cX1_init 7 = .ok (.return_, 1) := by decide +kernel
theorem dX1_showing_0 : decode cX1_showing 0 = .ok (.iload_n 1, 1) := by decide +kernel
theorem dX1_showing_1 : decode cX1_showing 1 = .ok (.iconst 1, 1) := by decide +kernel
theorem dX1_showing_2 : decode cX1_showing 2 = .ok (.iload_n 2, 1) := by decide +kernel
theorem dX1_showing_3 : decode cX1_showing 3 = .ok (.ishl, 1) := by decide +kernel
theorem dX1_showing_4 : decode cX1_showing 4 = .ok (.ixor, 1) := by decide +kernel
theorem dX1_showing_5 : decode cX1_showing 5 = .ok (.ireturn, 1) := by decide +kernel
theorem dX1_tells_0 : decode cX1_tells 0 = .ok (.aload_n 2, 1) := by decide +kernel
theorem dX1_tells_1 : decode cX1_tells 1 = .ok (.bipush 40, 2) := by decide +kernel
theorem dX1_tells_3 : decode cX1_tells 3 = .ok (.invokevirtual 7, 3) := by decide +kernel
theorem dX1_tells_6 : decode cX1_tells 6 = .ok (.pop, 1) := by decide +kernel
theorem dX1_tells_7 : decode cX1_tells 7 = .ok (.aload_n 0, 1) := by decide +kernel
theorem dX1_tells_8 : decode cX1_tells 8 = .ok (.iload_n 1, 1) := by decide +kernel
theorem dX1_tells_9 : decode cX1_tells 9 = .ok (.aload_n 2, 1) := by decide +kernel
theorem dX1_tells_10 : decode cX1_tells 10 = .ok (.invokespecial 13, 3) := by decide +kernel
theorem dX1_tells_13 : decode cX1_tells 13 = .ok (.aload_n 0, 1) := by decide +kernel
theorem dX1_tells_14 : decode cX1_tells 14 = .ok (.iconst 1, 1) := by decide +kernel
theorem dX1_tells_15 : decode cX1_tells 15 = .ok (.aload_n 2, 1) := by decide +kernel
theorem dX1_tells_16 : decode cX1_tells 16 = .ok (.invokevirtual 17, 3) := by decide +kernel
theorem dX1_tells_19 : decode cX1_tells 19 = .ok (.iadd, 1) := by decide +kernel
theorem dX1_tells_20 : decode cX1_tells 20 = .ok (.ireturn, 1) := by decide +kernel
theorem dX2_init_0 : decode cX2_init 0 = .ok (.aload_n 0, 1) := by decide +kernel
theorem dX2_init_1 : decode cX2_init 1 = .ok (.invokespecial 1, 3) := by decide +kernel
theorem dX2_init_4 : decode cX2_init 4 = .ok (.aload_n 0, 1) := by decide +kernel
theorem dX2_init_5 : decode cX2_init 5 = .ok (.iconst 0, 1) := by decide +kernel
theorem dX2_init_6 : decode cX2_init 6 = .ok (.putfield 7, 3) := by decide +kernel
theorem dX2_init_9 : decode cX2_init 9 = .ok (.aload_n 0, 1) := by decide +kernel
theorem dX2_init_10 : decode cX2_init 10 = .ok (.iload_n 1, 1) := by decide +kernel
theorem dX2_init_11 : decode cX2_init 11 = .ok (.newarray .int, 2) := by decide +kernel
theorem dX2_init_13 : decode cX2_init 13 = .ok (.putfield 13, 3) := by decide +kernel
theorem dX2_init_16 : decode cX2_init 16 = .ok (.return_, 1) := by decide +kernel
theorem dX2_isFull_0 : decode cX2_isFull 0 = .ok (.aload_n 0, 1) := by decide +kernel
theorem dX2_isFull_1 : decode cX2_isFull 1 = .ok (.getfield 7, 3) := by decide +kernel
theorem dX2_isFull_4 : decode cX2_isFull 4 = .ok (.aload_n 0, 1) := by decide +kernel
theorem dX2_isFull_5 : decode cX2_isFull 5 = .ok (.getfield 13, 3) := by decide +kernel
theorem dX2_isFull_8 : decode cX2_isFull 8 = .ok (.arraylength, 1) := by decide +kernel
theorem dX2_isFull_9 : decode cX2_isFull 9 = .ok (.if_icmp .lt 7, 3) := by decide +kernel
theorem dX2_isFull_12 : decode cX2_isFull 12 = .ok (.iconst 1, 1) := by decide +kernel
theorem dX2_isFull_13 : decode cX2_isFull 13 = .ok (.goto 4, 3) := by decide +kernel
theorem dX2_isFull_16 : decode cX2_isFull 16 = .ok (.iconst 0, 1) := by decide +kernel
theorem dX2_isFull_17 : decode cX2_isFull 17 = .ok (.ireturn, 1) := by decide +kernel
theorem dX2_add_0 : decode cX2_add 0 = .ok (.aload_n 0, 1) := by decide +kernel
theorem dX2_add_1 : decode cX2_add 1 = .ok (.getfield 7, 3) := by decide +kernel
theorem dX2_add_4 : decode cX2_add 4 = .ok (.aload_n 0, 1) := by decide +kernel
theorem dX2_add_5 : decode cX2_add 5 = .ok (.getfield 13, 3) := by decide +kernel
theorem dX2_add_8 : decode cX2_add 8 = .ok (.arraylength, 1) := by decide +kernel
theorem dX2_add_9 : decode cX2_add 9 = .ok (.if_icmp .ge 23, 3) := by decide +kernel
theorem dX2_add_12 : decode cX2_add 12 = .ok (.aload_n 0, 1) := by decide +kernel
theorem dX2_add_13 : decode cX2_add 13 = .ok (.getfield 13, 3) := by decide +kernel
theorem dX2_add_16 : decode cX2_add 16 = .ok (.aload_n 0, 1) := by decide +kernel
theorem dX2_add_17 : decode cX2_add 17 = .ok (.getfield 7, 3) := by decide +kernel
theorem dX2_add_20 : decode cX2_add 20 = .ok (.iload_n 1, 1) := by decide +kernel
theorem dX2_add_21 : decode cX2_add 21 = .ok (.iastore, 1) := by decide +kernel
theorem dX2_add_22 : decode cX2_add 22 = .ok (.aload_n 0, 1) := by decide +kernel
theorem dX2_add_23 : decode cX2_add 23 = .ok (.dup, 1) := by decide +kernel
theorem dX2_add_24 : decode cX2_add 24 = .ok (.getfield 7, 3) := by decide +kernel
theorem dX2_add_27 : decode cX2_add 27 = .ok (.iconst 1, 1) := by decide +kernel
theorem dX2_add_28 : decode cX2_add 28 = .ok (.iadd, 1) := by decide +kernel
theorem dX2_add_29 : decode cX2_add 29 = .ok (.putfield 7, 3) := by decide +kernel
theorem dX2_add_32 : decode cX2_add 32 = .ok (.aload_n 0, 1) := by decide +kernel
theorem dX2_add_33 : decode cX2_add 33 = .ok (.getfield 7, 3) := by decide +kernel
theorem dX2_add_36 : decode cX2_add 36 = .ok (.ireturn, 1) := by decide +kernel
theorem dX2_get_0 : decode cX2_get 0 = .ok (.iload_n 1, 1) := by decide +kernel
theorem dX2_get_1 : decode cX2_get 1 = .ok (.ifCond .lt 20, 3) := by decide +kernel
theorem dX2_get_4 : decode cX2_get 4 = .ok (.iload_n 1, 1) := by decide +kernel
theorem dX2_get_5 : decode cX2_get 5 = .ok (.aload_n 0, 1) := by decide +kernel
theorem dX2_get_6 : decode cX2_get 6 = .ok (.getfield 7, 3) := by decide +kernel
theorem dX2_get_9 : decode cX2_get 9 = .ok (.if_icmp .ge 12, 3) := by decide +kernel
theorem dX2_get_12 : decode cX2_get 12 = .ok (.aload_n 0, 1) := by decide +kernel
theorem dX2_get_13 : decode cX2_get 13 = .ok (.getfield 13, 3) := by decide +kernel
theorem dX2_get_16 : decode cX2_get 16 = .ok (.iload_n 1, 1) := by decide +kernel
theorem dX2_get_17 : decode cX2_get 17 = .ok (.iaload, 1) := by decide +kernel
theorem dX2_get_18 : decode cX2_get 18 = .ok (.goto 4, 3) := by decide +kernel
theorem dX2_get_21 : decode cX2_get 21 = .ok (.iconst 0, 1) := by decide +kernel
theorem dX2_get_22 : decode cX2_get 22 = .ok (.ireturn, 1) := by decide +kernel
theorem dX2_set_0 : decode cX2_set 0 = .ok (.iload_n 1, 1) := by decide +kernel
theorem dX2_set_1 : decode cX2_set 1 = .ok (.ifCond .lt 18, 3) := by decide +kernel
theorem dX2_set_4 : decode cX2_set 4 = .ok (.iload_n 1, 1) := by decide +kernel
theorem dX2_set_5 : decode cX2_set 5 = .ok (.aload_n 0, 1) := by decide +kernel
theorem dX2_set_6 : decode cX2_set 6 = .ok (.getfield 7, 3) := by decide +kernel
theorem dX2_set_9 : decode cX2_set 9 = .ok (.if_icmp .ge 10, 3) := by decide +kernel
theorem dX2_set_12 : decode cX2_set 12 = .ok (.aload_n 0, 1) := by decide +kernel
theorem dX2_set_13 : decode cX2_set 13 = .ok (.getfield 13, 3) := by decide +kernel
theorem dX2_set_16 : decode cX2_set 16 = .ok (.iload_n 1, 1) := by decide +kernel
theorem dX2_set_17 : decode cX2_set 17 = .ok (.iload_n 2, 1) := by decide +kernel
theorem dX2_set_18 : decode cX2_set 18 = .ok (.iastore, 1) := by decide +kernel
theorem dX2_set_19 : decode cX2_set 19 = .ok (.return_, 1) := by decide +kernel
theorem dX2_clear_0 : decode cX2_clear 0 = .ok (.aload_n 0, 1) := by decide +kernel
theorem dX2_clear_1 : decode cX2_clear 1 = .ok (.iconst 0, 1) := by decide +kernel
theorem dX2_clear_2 : decode cX2_clear 2 = .ok (.putfield 7, 3) := by decide +kernel
theorem dX2_clear_5 : decode cX2_clear 5 = .ok (.return_, 1) := by decide +kernel
theorem dX2_become_0 : decode cX2_become 0 = .ok (.aload_n 0, 1) := by decide +kernel
theorem dX2_become_1 : decode cX2_become 1 = .ok (.iconst 0, 1) := by decide +kernel
theorem dX2_become_2 : decode cX2_become 2 = .ok (.putfield 7, 3) := by decide +kernel
theorem dX2_become_5 : decode cX2_become 5 = .ok (.iconst 0, 1) := by decide +kernel
theorem dX2_become_6 : decode cX2_become 6 = .ok (.istore_n 2, 1) := by decide +kernel
theorem dX2_become_7 : decode cX2_become 7 = .ok (.iload_n 2, 1) := by decide +kernel
theorem dX2_become_8 : decode cX2_become 8 = .ok (.aload_n 1, 1) := by decide +kernel
theorem dX2_become_9 : decode cX2_become 9 = .ok (.getfield 7, 3) := by decide +kernel
theorem dX2_become_12 : decode cX2_become 12 = .ok (.if_icmp .ge 20, 3) := by decide +kernel
theorem dX2_become_15 : decode cX2_become 15 = .ok (.aload_n 0, 1) := by decide +kernel
theorem dX2_become_16 : decode cX2_become 16 = .ok (.aload_n 1, 1) := by decide +kernel
theorem dX2_become_17 : decode cX2_become 17 = .ok (.getfield 13, 3) := by decide +kernel
theorem dX2_become_20 : decode cX2_become 20 = .ok (.iload_n 2, 1) := by decide +kernel
theorem dX2_become_21 : decode cX2_become 21 = .ok (.iaload, 1) := by decide +kernel
theorem dX2_become_22 : decode cX2_become 22 = .ok (.invokevirtual 17, 3) := by decide +kernel
theorem dX2_become_25 : decode cX2_become 25 = .ok (.pop, 1) := by decide +kernel
theorem dX2_become_26 : decode cX2_become 26 = .ok (.iinc 2 1, 3) := by decide +kernel
theorem dX2_become_29 : decode cX2_become 29 = .ok (.goto (-22), 3) := by decide +kernel
theorem dX2_become_32 : decode cX2_become 32 = .ok (.return_, 1) := by decide +kernel
theorem dX3_init_0 : decode cX3_init 0 = .ok (.aload_n 0, 1) := by decide +kernel
theorem dX3_init_1 : decode cX3_init 1 = .ok (.invokespecial 3, 3) := by decide +kernel
theorem dX3_init_4 : decode cX3_init 4 = .ok (.aload_n 0, 1) := by decide +kernel
theorem dX3_init_5 : decode cX3_init 5 = .ok (.new 9, 3) := by decide +kernel
theorem dX3_init_8 : decode cX3_init 8 = .ok (.dup, 1) := by decide +kernel
theorem dX3_init_9 : decode cX3_init 9 = .ok (.bipush 8, 2) := by decide +kernel
theorem dX3_init_11 : decode cX3_init 11 = .ok (.invokespecial 11, 3) := by decide +kernel
theorem dX3_init_14 : decode cX3_init 14 = .ok (.putfield 14, 3) := by decide +kernel
theorem dX3_init_17 : decode cX3_init 17 = .ok (.aload_n 0, 1) := by decide +kernel
theorem dX3_init_18 : decode cX3_init 18 = .ok (.iconst 5, 1) := by decide +kernel
theorem dX3_init_19 : decode cX3_init 19 = .ok (.anewarray 20, 3) := by decide +kernel
theorem dX3_init_22 : decode cX3_init 22 = .ok (.putfield 22, 3) := by decide +kernel
theorem dX3_init_25 : decode cX3_init 25 = .ok (.aload_n 0, 1) := by decide +kernel
theorem dX3_init_26 : decode cX3_init 26 = .ok (.iconst 0, 1) := by decide +kernel
theorem dX3_init_27 : decode cX3_init 27 = .ok (.putfield 26, 3) := by decide +kernel
theorem dX3_init_30 : decode cX3_init 30 = .ok (.aload_n 0, 1) := by decide +kernel
theorem dX3_init_31 : decode cX3_init 31 = .ok (.iconst 5, 1) := by decide +kernel
theorem dX3_init_32 : decode cX3_init 32 = .ok (.newarray .int, 2) := by decide +kernel
theorem dX3_init_34 : decode cX3_init 34 = .ok (.putfield 30, 3) := by decide +kernel
theorem dX3_init_37 : decode cX3_init 37 = .ok (.aload_n 0, 1) := by decide +kernel
theorem dX3_init_38 : decode cX3_init 38 = .ok (.bipush 20, 2) := by decide +kernel
theorem dX3_init_40 : decode cX3_init 40 = .ok (.newarray .int, 2) := by decide +kernel
theorem dX3_init_42 : decode cX3_init 42 = .ok (.putfield 34, 3) := by decide +kernel
theorem dX3_init_45 : decode cX3_init 45 = .ok (.aload_n 0, 1) := by decide +kernel
theorem dX3_init_46 : decode cX3_init 46 = .ok (.iconst 0, 1) := by decide +kernel
theorem dX3_init_47 : decode cX3_init 47 = .ok (.putfield 37, 3) := by decide +kernel
theorem dX3_init_50 : decode cX3_init 50 = .ok (.aload_n 0, 1) := by decide +kernel
theorem dX3_init_51 : decode cX3_init 51 = .ok (.new 9, 3) := by decide +kernel
theorem dX3_init_54 : decode cX3_init 54 = .ok (.dup, 1) := by decide +kernel
theorem dX3_init_55 : decode cX3_init 55 = .ok (.iconst 5, 1) := by decide +kernel
theorem dX3_init_56 : decode cX3_init 56 = .ok (.invokespecial 11, 3) := by decide +kernel
theorem dX3_init_59 : decode cX3_init 59 = .ok (.putfield 40, 3) := by decide +kernel
theorem dX3_init_62 : decode cX3_init 62 = .ok (.aload_n 0, 1) := by decide +kernel
theorem dX3_init_63 : decode cX3_init 63 = .ok (.new 9, 3) := by decide +kernel
theorem dX3_init_66 : decode cX3_init 66 = .ok (.dup, 1) := by decide +kernel
theorem dX3_init_67 : decode cX3_init 67 = .ok (.bipush 8, 2) := by decide +kernel
theorem dX3_init_69 : decode cX3_init 69 = .ok (.invokespecial 11, 3) := by decide +kernel
theorem dX3_init_72 : decode cX3_init 72 = .ok (.putfield 43, 3) := by decide +kernel
theorem dX3_init_75 : decode cX3_init 75 = .ok (.aload_n 0, 1) := by decide +kernel
theorem dX3_init_76 : decode cX3_init 76 = .ok (.new 9, 3) := by decide +kernel
theorem dX3_init_79 : decode cX3_init 79 = .ok (.dup, 1) := by decide +kernel
theorem dX3_init_80 : decode cX3_init 80 = .ok (.bipush 8, 2) := by decide +kernel
theorem dX3_init_82 : decode cX3_init 82 = .ok (.invokespecial 11, 3) := by decide +kernel
theorem dX3_init_85 : decode cX3_init 85 = .ok (.putfield 46, 3) := by decide +kernel
theorem dX3_init_88 : decode cX3_init 88 = .ok (.aload_n 0, 1) := by decide +kernel
theorem dX3_init_89 : decode cX3_init 89 = .ok (.aconst_null, 1) := by decide +kernel
theorem dX3_init_90 : decode cX3_init 90 = .ok (.putfield 49, 3) := by decide +kernel
theorem dX3_init_93 : decode cX3_init 93 = .ok (.return_, 1) := by decide +kernel
theorem dX3_join_0 : decode cX3_join 0 = .ok (.aload_n 0, 1) := by decide +kernel
theorem dX3_join_1 : decode cX3_join 1 = .ok (.getfield 26, 3) := by decide +kernel
theorem dX3_join_4 : decode cX3_join 4 = .ok (.istore_n 2, 1) := by decide +kernel
theorem dX3_join_5 : decode cX3_join 5 = .ok (.iload_n 2, 1) := by decide +kernel
theorem dX3_join_6 : decode cX3_join 6 = .ok (.iconst 5, 1) := by decide +kernel
theorem dX3_join_7 : decode cX3_join 7 = .ok (.if_icmp .ge 20, 3) := by decide +kernel
theorem dX3_join_10 : decode cX3_join 10 = .ok (.aload_n 0, 1) := by decide +kernel
theorem dX3_join_11 : decode cX3_join 11 = .ok (.getfield 22, 3) := by decide +kernel
theorem dX3_join_14 : decode cX3_join 14 = .ok (.iload_n 2, 1) := by decide +kernel
theorem dX3_join_15 : decode cX3_join 15 = .ok (.aload_n 1, 1) := by decide +kernel
theorem dX3_join_16 : decode cX3_join 16 = .ok (.aastore, 1) := by decide +kernel
theorem dX3_join_17 : decode cX3_join 17 = .ok (.aload_n 0, 1) := by decide +kernel
theorem dX3_join_18 : decode cX3_join 18 = .ok (.dup, 1) := by decide +kernel
theorem dX3_join_19 : decode cX3_join 19 = .ok (.getfield 26, 3) := by decide +kernel
theorem dX3_join_22 : decode cX3_join 22 = .ok (.iconst 1, 1) := by decide +kernel
theorem dX3_join_23 : decode cX3_join 23 = .ok (.iadd, 1) := by decide +kernel
theorem dX3_join_24 : decode cX3_join 24 = .ok (.putfield 26, 3) := by decide +kernel
theorem dX3_join_27 : decode cX3_join 27 = .ok (.iload_n 2, 1) := by decide +kernel
theorem dX3_join_28 : decode cX3_join 28 = .ok (.ireturn, 1) := by decide +kernel
theorem dX3_become_0 : decode cX3_become 0 = .ok (.aload_n 0, 1) := by decide +kernel
theorem dX3_become_1 : decode cX3_become 1 = .ok (.getfield 14, 3) := by decide +kernel
theorem dX3_become_4 : decode cX3_become 4 = .ok (.aload_n 1, 1) := by decide +kernel
theorem dX3_become_5 : decode cX3_become 5 = .ok (.getfield 14, 3) := by decide +kernel
theorem dX3_become_8 : decode cX3_become 8 = .ok (.invokevirtual 53, 3) := by decide +kernel
theorem dX3_become_11 : decode cX3_become 11 = .ok (.aload_n 0, 1) := by decide +kernel
theorem dX3_become_12 : decode cX3_become 12 = .ok (.getfield 40, 3) := by decide +kernel
theorem dX3_become_15 : decode cX3_become 15 = .ok (.aload_n 1, 1) := by decide +kernel
theorem dX3_become_16 : decode cX3_become 16 = .ok (.getfield 40, 3) := by decide +kernel
theorem dX3_become_19 : decode cX3_become 19 = .ok (.invokevirtual 53, 3) := by decide +kernel
theorem dX3_become_22 : decode cX3_become 22 = .ok (.aload_n 0, 1) := by decide +kernel
theorem dX3_become_23 : decode cX3_become 23 = .ok (.getfield 43, 3) := by decide +kernel
theorem dX3_become_26 : decode cX3_become 26 = .ok (.aload_n 1, 1) := by decide +kernel
theorem dX3_become_27 : decode cX3_become 27 = .ok (.getfield 43, 3) := by decide +kernel
theorem dX3_become_30 : decode cX3_become 30 = .ok (.invokevirtual 53, 3) := by decide +kernel
theorem dX3_become_33 : decode cX3_become 33 = .ok (.aload_n 0, 1) := by decide +kernel
theorem dX3_become_34 : decode cX3_become 34 = .ok (.getfield 46, 3) := by decide +kernel
theorem dX3_become_37 : decode cX3_become 37 = .ok (.aload_n 1, 1) := by decide +kernel
theorem dX3_become_38 : decode cX3_become 38 = .ok (.getfield 46, 3) := by decide +kernel
theorem dX3_become_41 : decode cX3_become 41 = .ok (.invokevirtual 53, 3) := by decide +kernel
theorem dX3_become_44 : decode cX3_become 44 = .ok (.iconst 0, 1) := by decide +kernel
theorem dX3_become_45 : decode cX3_become 45 = .ok (.istore_n 2, 1) := by decide +kernel
theorem dX3_become_46 : decode cX3_become 46 = .ok (.iload_n 2, 1) := by decide +kernel
theorem dX3_become_47 : decode cX3_become 47 = .ok (.iconst 5, 1) := by decide +kernel
theorem dX3_become_48 : decode cX3_become 48 = .ok (.if_icmp .ge 21, 3) := by decide +kernel
theorem dX3_become_51 : decode cX3_become 51 = .ok (.aload_n 0, 1) := by decide +kernel
theorem dX3_become_52 : decode cX3_become 52 = .ok (.getfield 22, 3) := by decide +kernel
theorem dX3_become_55 : decode cX3_become 55 = .ok (.iload_n 2, 1) := by decide +kernel
theorem dX3_become_56 : decode cX3_become 56 = .ok (.aload_n 1, 1) := by decide +kernel
theorem dX3_become_57 : decode cX3_become 57 = .ok (.getfield 22, 3) := by decide +kernel
theorem dX3_become_60 : decode cX3_become 60 = .ok (.iload_n 2, 1) := by decide +kernel
theorem dX3_become_61 : decode cX3_become 61 = .ok (.aaload, 1) := by decide +kernel
theorem dX3_become_62 : decode cX3_become 62 = .ok (.aastore, 1) := by decide +kernel
theorem dX3_become_63 : decode cX3_become 63 = .ok (.iinc 2 1, 3) := by decide +kernel
theorem dX3_become_66 : decode cX3_become 66 = .ok (.goto (-20), 3) := by decide +kernel
theorem dX3_become_69 : decode cX3_become 69 = .ok (.aload_n 0, 1) := by decide +kernel
theorem dX3_become_70 : decode cX3_become 70 = .ok (.aload_n 1, 1) := by decide +kernel
theorem dX3_become_71 : decode cX3_become 71 = .ok (.getfield 26, 3) := by decide +kernel
theorem dX3_become_74 : decode cX3_become 74 = .ok (.putfield 26, 3) := by decide +kernel
theorem dX3_become_77 : decode cX3_become 77 = .ok (.aload_n 1, 1) := by decide +kernel
theorem dX3_become_78 : decode cX3_become 78 = .ok (.getfield 30, 3) := by decide +kernel
theorem dX3_become_81 : decode cX3_become 81 = .ok (.iconst 0, 1) := by decide +kernel
theorem dX3_become_82 : decode cX3_become 82 = .ok (.aload_n 0, 1) := by decide +kernel
theorem dX3_become_83 : decode cX3_become 83 = .ok (.getfield 30, 3) := by decide +kernel
theorem dX3_become_86 : decode cX3_become 86 = .ok (.iconst 0, 1) := by decide +kernel
theorem dX3_become_87 : decode cX3_become 87 = .ok (.iconst 5, 1) := by decide +kernel
theorem dX3_become_88 : decode cX3_become 88 = .ok (.invokestatic 57, 3) := by decide +kernel
theorem dX3_become_91 : decode cX3_become 91 = .ok (.aload_n 1, 1) := by decide +kernel
theorem dX3_become_92 : decode cX3_become 92 = .ok (.getfield 34, 3) := by decide +kernel
theorem dX3_become_95 : decode cX3_become 95 = .ok (.iconst 0, 1) := by decide +kernel
theorem dX3_become_96 : decode cX3_become 96 = .ok (.aload_n 0, 1) := by decide +kernel
theorem dX3_become_97 : decode cX3_become 97 = .ok (.getfield 34, 3) := by decide +kernel
theorem dX3_become_100 : decode cX3_become 100 = .ok (.iconst 0, 1) := by decide +kernel
theorem dX3_become_101 : decode cX3_become 101 = .ok (.bipush 20, 2) := by decide +kernel
theorem dX3_become_103 : decode cX3_become 103 = .ok (.invokestatic 57, 3) := by decide +kernel
theorem dX3_become_106 : decode cX3_become 106 = .ok (.aload_n 0, 1) := by decide +kernel
theorem dX3_become_107 : decode cX3_become 107 = .ok (.aload_n 1, 1) := by decide +kernel
theorem dX3_become_108 : decode cX3_become 108 = .ok (.getfield 37, 3) := by decide +kernel
theorem dX3_become_111 : decode cX3_become 111 = .ok (.putfield 37, 3) := by decide +kernel
theorem dX3_become_114 : decode cX3_become 114 = .ok (.aload_n 0, 1) := by decide +kernel
theorem dX3_become_115 : decode cX3_become 115 = .ok (.aload_n 1, 1) := by decide +kernel
theorem dX3_become_116 : decode cX3_become 116 = .ok (.getfield 49, 3) := by decide +kernel
theorem dX3_become_119 : decode cX3_become 119 = .ok (.putfield 49, 3) := by decide +kernel
theorem dX3_become_122 : decode cX3_become 122 = .ok (.return_, 1) := by decide +kernel
theorem dX4_init_0 : decode cX4_init 0 = .ok (.aload_n 0, 1) := by decide +kernel
theorem dX4_init_1 : decode cX4_init 1 = .ok (.invokespecial 1, 3) := by decide +kernel
theorem dX4_init_4 : decode cX4_init 4 = .ok (.aload_n 0, 1) := by decide +kernel
theorem dX4_init_5 : decode cX4_init 5 = .ok (.iload_n 1, 1) := by decide +kernel
theorem dX4_init_6 : decode cX4_init 6 = .ok (.putfield 7, 3) := by decide +kernel
theorem dX4_init_9 : decode cX4_init 9 = .ok (.aload_n 0, 1) := by decide +kernel
theorem dX4_init_10 : decode cX4_init 10 = .ok (.iload_n 2, 1) := by decide +kernel
theorem dX4_init_11 : decode cX4_init 11 = .ok (.putfield 13, 3) := by decide +kernel
theorem dX4_init_14 : decode cX4_init 14 = .ok (.aload_n 0, 1) := by decide +kernel
theorem dX4_init_15 : decode cX4_init 15 = .ok (.iload_n 3, 1) := by decide +kernel
theorem dX4_init_16 : decode cX4_init 16 = .ok (.putfield 16, 3) := by decide +kernel
theorem dX4_init_19 : decode cX4_init 19 = .ok (.return_, 1) := by decide +kernel
theorem dX4_showing_0 : decode cX4_showing 0 = .ok (.iload_n 1, 1) := by decide +kernel
theorem dX4_showing_1 : decode cX4_showing 1 = .ok (.ireturn, 1) := by decide +kernel
theorem dX4_tilts_0 : decode cX4_tilts 0 = .ok (.aload_n 2, 1) := by decide +kernel
theorem dX4_tilts_1 : decode cX4_tilts 1 = .ok (.bipush 10, 2) := by decide +kernel
theorem dX4_tilts_3 : decode cX4_tilts 3 = .ok (.invokevirtual 19, 3) := by decide +kernel
theorem dX4_tilts_6 : decode cX4_tilts 6 = .ok (.pop, 1) := by decide +kernel
theorem dX4_tilts_7 : decode cX4_tilts 7 = .ok (.iload_n 1, 1) := by decide +kernel
theorem dX4_tilts_8 : decode cX4_tilts 8 = .ok (.aload_n 0, 1) := by decide +kernel
theorem dX4_tilts_9 : decode cX4_tilts 9 = .ok (.getfield 7, 3) := by decide +kernel
theorem dX4_tilts_12 : decode cX4_tilts 12 = .ok (.iadd, 1) := by decide +kernel
theorem dX4_tilts_13 : decode cX4_tilts 13 = .ok (.ireturn, 1) := by decide +kernel
theorem dX4_sends_0 : decode cX4_sends 0 = .ok (.aload_n 2, 1) := by decide +kernel
theorem dX4_sends_1 : decode cX4_sends 1 = .ok (.bipush 11, 2) := by decide +kernel
theorem dX4_sends_3 : decode cX4_sends 3 = .ok (.invokevirtual 19, 3) := by decide +kernel
theorem dX4_sends_6 : decode cX4_sends 6 = .ok (.pop, 1) := by decide +kernel
theorem dX4_sends_7 : decode cX4_sends 7 = .ok (.aload_n 0, 1) := by decide +kernel
theorem dX4_sends_8 : decode cX4_sends 8 = .ok (.iload_n 1, 1) := by decide +kernel
theorem dX4_sends_9 : decode cX4_sends 9 = .ok (.aload_n 2, 1) := by decide +kernel
theorem dX4_sends_10 : decode cX4_sends 10 = .ok (.invokevirtual 25, 3) := by decide +kernel
theorem dX4_sends_13 : decode cX4_sends 13 = .ok (.aload_n 0, 1) := by decide +kernel
theorem dX4_sends_14 : decode cX4_sends 14 = .ok (.getfield 16, 3) := by decide +kernel
theorem dX4_sends_17 : decode cX4_sends 17 = .ok (.isub, 1) := by decide +kernel
theorem dX4_sends_18 : decode cX4_sends 18 = .ok (.ireturn, 1) := by decide +kernel
theorem dX4_tells_0 : decode cX4_tells 0 = .ok (.aload_n 2, 1) := by decide +kernel
theorem dX4_tells_1 : decode cX4_tells 1 = .ok (.bipush 12, 2) := by decide +kernel
theorem dX4_tells_3 : decode cX4_tells 3 = .ok (.invokevirtual 19, 3) := by decide +kernel
theorem dX4_tells_6 : decode cX4_tells 6 = .ok (.pop, 1) := by decide +kernel
theorem dX4_tells_7 : decode cX4_tells 7 = .ok (.aload_n 0, 1) := by decide +kernel
theorem dX4_tells_8 : decode cX4_tells 8 = .ok (.iload_n 1, 1) := by decide +kernel
theorem dX4_tells_9 : decode cX4_tells 9 = .ok (.aload_n 2, 1) := by decide +kernel
theorem dX4_tells_10 : decode cX4_tells 10 = .ok (.invokevirtual 29, 3) := by decide +kernel
theorem dX4_tells_13 : decode cX4_tells 13 = .ok (.iconst 2, 1) := by decide +kernel
theorem dX4_tells_14 : decode cX4_tells 14 = .ok (.imul, 1) := by decide +kernel
theorem dX4_tells_15 : decode cX4_tells 15 = .ok (.ireturn, 1) := by decide +kernel
theorem dX5_init_0 : decode cX5_init 0 = .ok (.aload_n 0, 1) := by decide +kernel
theorem dX5_init_1 : decode cX5_init 1 = .ok (.iload_n 1, 1) := by decide +kernel
theorem dX5_init_2 : decode cX5_init 2 = .ok (.iload_n 2, 1) := by decide +kernel
theorem dX5_init_3 : decode cX5_init 3 = .ok (.iload_n 3, 1) := by decide +kernel
theorem dX5_init_4 : decode cX5_init 4 = .ok (.invokespecial 1, 3) := by decide +kernel
theorem dX5_init_7 : decode cX5_init 7 = .ok (.return_, 1) := by decide +kernel
theorem dX5_showing_0 : decode cX5_showing 0 = .ok (.aload_n 0, 1) := by decide +kernel
theorem dX5_showing_1 : decode cX5_showing 1 = .ok (.iload_n 1, 1) := by decide +kernel
theorem dX5_showing_2 : decode cX5_showing 2 = .ok (.iload_n 2, 1) := by decide +kernel
theorem dX5_showing_3 : decode cX5_showing 3 = .ok (.iload_n 3, 1) := by decide +kernel
theorem dX5_showing_4 : decode cX5_showing 4 = .ok (.iload 4, 2) := by decide +kernel
theorem dX5_showing_6 : decode cX5_showing 6 = .ok (.invokespecial 7, 3) := by decide +kernel
theorem dX5_showing_9 : decode cX5_showing 9 = .ok (.invokestatic 11, 3) := by decide +kernel
theorem dX5_showing_12 : decode cX5_showing 12 = .ok (.ireturn, 1) := by decide +kernel
theorem dX5_tilts_0 : decode cX5_tilts 0 = .ok (.aload_n 2, 1) := by decide +kernel
theorem dX5_tilts_1 : decode cX5_tilts 1 = .ok (.bipush 50, 2) := by decide +kernel
theorem dX5_tilts_3 : decode cX5_tilts 3 = .ok (.invokevirtual 17, 3) := by decide +kernel
theorem dX5_tilts_6 : decode cX5_tilts 6 = .ok (.pop, 1) := by decide +kernel
theorem dX5_tilts_7 : decode cX5_tilts 7 = .ok (.aload_n 0, 1) := by decide +kernel
theorem dX5_tilts_8 : decode cX5_tilts 8 = .ok (.iload_n 1, 1) := by decide +kernel
theorem dX5_tilts_9 : decode cX5_tilts 9 = .ok (.aload_n 2, 1) := by decide +kernel
theorem dX5_tilts_10 : decode cX5_tilts 10 = .ok (.invokespecial 23, 3) := by decide +kernel
theorem dX5_tilts_13 : decode cX5_tilts 13 = .ok (.ineg, 1) := by decide +kernel
theorem dX5_tilts_14 : decode cX5_tilts 14 = .ok (.ireturn, 1) := by decide +kernel
theorem dX5_sends_0 : decode cX5_sends 0 = .ok (.aload_n 2, 1) := by decide +kernel
theorem dX5_sends_1 : decode cX5_sends 1 = .ok (.bipush 51, 2) := by decide +kernel
theorem dX5_sends_3 : decode cX5_sends 3 = .ok (.invokevirtual 17, 3) := by decide +kernel
theorem dX5_sends_6 : decode cX5_sends 6 = .ok (.pop, 1) := by decide +kernel
theorem dX5_sends_7 : decode cX5_sends 7 = .ok (.aload_n 0, 1) := by decide +kernel
theorem dX5_sends_8 : decode cX5_sends 8 = .ok (.iload_n 1, 1) := by decide +kernel
theorem dX5_sends_9 : decode cX5_sends 9 = .ok (.iconst 1, 1) := by decide +kernel
theorem dX5_sends_10 : decode cX5_sends 10 = .ok (.iadd, 1) := by decide +kernel
theorem dX5_sends_11 : decode cX5_sends 11 = .ok (.aload_n 2, 1) := by decide +kernel
theorem dX5_sends_12 : decode cX5_sends 12 = .ok (.invokespecial 27, 3) := by decide +kernel
theorem dX5_sends_15 : decode cX5_sends 15 = .ok (.ireturn, 1) := by decide +kernel
theorem dX6_init_0 : decode cX6_init 0 = .ok (.aload_n 0, 1) := by decide +kernel
theorem dX6_init_1 : decode cX6_init 1 = .ok (.invokespecial 1, 3) := by decide +kernel
theorem dX6_init_4 : decode cX6_init 4 = .ok (.aload_n 0, 1) := by decide +kernel
theorem dX6_init_5 : decode cX6_init 5 = .ok (.bipush 60, 2) := by decide +kernel
theorem dX6_init_7 : decode cX6_init 7 = .ok (.newarray .long, 2) := by decide +kernel
theorem dX6_init_9 : decode cX6_init 9 = .ok (.putfield 9, 3) := by decide +kernel
theorem dX6_init_12 : decode cX6_init 12 = .ok (.aload_n 0, 1) := by decide +kernel
theorem dX6_init_13 : decode cX6_init 13 = .ok (.iconst (-1), 1) := by decide +kernel
theorem dX6_init_14 : decode cX6_init 14 = .ok (.putfield 13, 3) := by decide +kernel
theorem dX6_init_17 : decode cX6_init 17 = .ok (.aload_n 0, 1) := by decide +kernel
theorem dX6_init_18 : decode cX6_init 18 = .ok (.iconst 0, 1) := by decide +kernel
theorem dX6_init_19 : decode cX6_init 19 = .ok (.putfield 17, 3) := by decide +kernel
theorem dX6_init_22 : decode cX6_init 22 = .ok (.return_, 1) := by decide +kernel
theorem dX6_blank_0 : decode cX6_blank 0 = .ok (.aload_n 0, 1) := by decide +kernel
theorem dX6_blank_1 : decode cX6_blank 1 = .ok (.iload_n 1, 1) := by decide +kernel
theorem dX6_blank_2 : decode cX6_blank 2 = .ok (.putfield 13, 3) := by decide +kernel
theorem dX6_blank_5 : decode cX6_blank 5 = .ok (.aload_n 0, 1) := by decide +kernel
theorem dX6_blank_6 : decode cX6_blank 6 = .ok (.iload_n 2, 1) := by decide +kernel
theorem dX6_blank_7 : decode cX6_blank 7 = .ok (.putfield 17, 3) := by decide +kernel
theorem dX6_blank_10 : decode cX6_blank 10 = .ok (.iconst 0, 1) := by decide +kernel
theorem dX6_blank_11 : decode cX6_blank 11 = .ok (.istore_n 3, 1) := by decide +kernel
theorem dX6_blank_12 : decode cX6_blank 12 = .ok (.iload_n 3, 1) := by decide +kernel
theorem dX6_blank_13 : decode cX6_blank 13 = .ok (.bipush 60, 2) := by decide +kernel
theorem dX6_blank_15 : decode cX6_blank 15 = .ok (.if_icmp .ge 16, 3) := by decide +kernel
theorem dX6_blank_18 : decode cX6_blank 18 = .ok (.aload_n 0, 1) := by decide +kernel
theorem dX6_blank_19 : decode cX6_blank 19 = .ok (.getfield 9, 3) := by decide +kernel
theorem dX6_blank_22 : decode cX6_blank 22 = .ok (.iload_n 3, 1) := by decide +kernel
theorem dX6_blank_23 : decode cX6_blank 23 = .ok (.lconst 0, 1) := by decide +kernel
theorem dX6_blank_24 : decode cX6_blank 24 = .ok (.lastore, 1) := by decide +kernel
theorem dX6_blank_25 : decode cX6_blank 25 = .ok (.iinc 3 1, 3) := by decide +kernel
theorem dX6_blank_28 : decode cX6_blank 28 = .ok (.goto (-16), 3) := by decide +kernel
theorem dX6_blank_31 : decode cX6_blank 31 = .ok (.return_, 1) := by decide +kernel
theorem dX6_has_0 : decode cX6_has 0 = .ok (.iload_n 1, 1) := by decide +kernel
theorem dX6_has_1 : decode cX6_has 1 = .ok (.ifCond .lt 15, 3) := by decide +kernel
theorem dX6_has_4 : decode cX6_has 4 = .ok (.iload_n 1, 1) := by decide +kernel
theorem dX6_has_5 : decode cX6_has 5 = .ok (.aload_n 0, 1) := by decide +kernel
theorem dX6_has_6 : decode cX6_has 6 = .ok (.getfield 17, 3) := by decide +kernel
theorem dX6_has_9 : decode cX6_has 9 = .ok (.if_icmp .ge 7, 3) := by decide +kernel
theorem dX6_has_12 : decode cX6_has 12 = .ok (.iconst 1, 1) := by decide +kernel
theorem dX6_has_13 : decode cX6_has 13 = .ok (.goto 4, 3) := by decide +kernel
theorem dX6_has_16 : decode cX6_has 16 = .ok (.iconst 0, 1) := by decide +kernel
theorem dX6_has_17 : decode cX6_has 17 = .ok (.ireturn, 1) := by decide +kernel
theorem dX6_hasSpan_0 : decode cX6_hasSpan 0 = .ok (.iload_n 2, 1) := by decide +kernel
theorem dX6_hasSpan_1 : decode cX6_hasSpan 1 = .ok (.ifCond .lt 29, 3) := by decide +kernel
theorem dX6_hasSpan_4 : decode cX6_hasSpan 4 = .ok (.iload_n 2, 1) := by decide +kernel
theorem dX6_hasSpan_5 : decode cX6_hasSpan 5 = .ok (.aload_n 0, 1) := by decide +kernel
theorem dX6_hasSpan_6 : decode cX6_hasSpan 6 = .ok (.getfield 17, 3) := by decide +kernel
theorem dX6_hasSpan_9 : decode cX6_hasSpan 9 = .ok (.if_icmp .gt 21, 3) := by decide +kernel
theorem dX6_hasSpan_12 : decode cX6_hasSpan 12 = .ok (.iload_n 1, 1) := by decide +kernel
theorem dX6_hasSpan_13 : decode cX6_hasSpan 13 = .ok (.ifCond .lt 17, 3) := by decide +kernel
theorem dX6_hasSpan_16 : decode cX6_hasSpan 16 = .ok (.iload_n 1, 1) := by decide +kernel
theorem dX6_hasSpan_17 : decode cX6_hasSpan 17 = .ok (.aload_n 0, 1) := by decide +kernel
theorem dX6_hasSpan_18 : decode cX6_hasSpan 18 = .ok (.getfield 17, 3) := by decide +kernel
theorem dX6_hasSpan_21 : decode cX6_hasSpan 21 = .ok (.iload_n 2, 1) := by decide +kernel
theorem dX6_hasSpan_22 : decode cX6_hasSpan 22 = .ok (.isub, 1) := by decide +kernel
theorem dX6_hasSpan_23 : decode cX6_hasSpan 23 = .ok (.if_icmp .gt 7, 3) := by decide +kernel
theorem dX6_hasSpan_26 : decode cX6_hasSpan 26 = .ok (.iconst 1, 1) := by decide +kernel
theorem dX6_hasSpan_27 : decode cX6_hasSpan 27 = .ok (.goto 4, 3) := by decide +kernel
theorem dX6_hasSpan_30 : decode cX6_hasSpan 30 = .ok (.iconst 0, 1) := by decide +kernel
theorem dX6_hasSpan_31 : decode cX6_hasSpan 31 = .ok (.ireturn, 1) := by decide +kernel
theorem dX6_narrowed_0 : decode cX6_narrowed 0 = .ok (.iload_n 0, 1) := by decide +kernel
theorem dX6_narrowed_1 : decode cX6_narrowed 1 = .ok (.tableswitch 61 0 4 #[35, 40, 45, 61, 49], 35) := by decide +kernel
theorem dX6_narrowed_36 : decode cX6_narrowed 36 = .ok (.lload_n 1, 1) := by decide +kernel
theorem dX6_narrowed_37 : decode cX6_narrowed 37 = .ok (.l2i, 1) := by decide +kernel
theorem dX6_narrowed_38 : decode cX6_narrowed 38 = .ok (.i2b, 1) := by decide +kernel
theorem dX6_narrowed_39 : decode cX6_narrowed 39 = .ok (.i2l, 1) := by decide +kernel
theorem dX6_narrowed_40 : decode cX6_narrowed 40 = .ok (.lreturn, 1) := by decide +kernel
theorem dX6_narrowed_41 : decode cX6_narrowed 41 = .ok (.lload_n 1, 1) := by decide +kernel
theorem dX6_narrowed_42 : decode cX6_narrowed 42 = .ok (.l2i, 1) := by decide +kernel
theorem dX6_narrowed_43 : decode cX6_narrowed 43 = .ok (.i2s, 1) := by decide +kernel
theorem dX6_narrowed_44 : decode cX6_narrowed 44 = .ok (.i2l, 1) := by decide +kernel
theorem dX6_narrowed_45 : decode cX6_narrowed 45 = .ok (.lreturn, 1) := by decide +kernel
theorem dX6_narrowed_46 : decode cX6_narrowed 46 = .ok (.lload_n 1, 1) := by decide +kernel
theorem dX6_narrowed_47 : decode cX6_narrowed 47 = .ok (.l2i, 1) := by decide +kernel
theorem dX6_narrowed_48 : decode cX6_narrowed 48 = .ok (.i2l, 1) := by decide +kernel
theorem dX6_narrowed_49 : decode cX6_narrowed 49 = .ok (.lreturn, 1) := by decide +kernel
theorem dX6_narrowed_50 : decode cX6_narrowed 50 = .ok (.lload_n 1, 1) := by decide +kernel
theorem dX6_narrowed_51 : decode cX6_narrowed 51 = .ok (.lconst 0, 1) := by decide +kernel
theorem dX6_narrowed_52 : decode cX6_narrowed 52 = .ok (.lcmp, 1) := by decide +kernel
theorem dX6_narrowed_53 : decode cX6_narrowed 53 = .ok (.ifCond .eq 7, 3) := by decide +kernel
theorem dX6_narrowed_56 : decode cX6_narrowed 56 = .ok (.lconst 1, 1) := by decide +kernel
theorem dX6_narrowed_57 : decode cX6_narrowed 57 = .ok (.goto 4, 3) := by decide +kernel
theorem dX6_narrowed_60 : decode cX6_narrowed 60 = .ok (.lconst 0, 1) := by decide +kernel
theorem dX6_narrowed_61 : decode cX6_narrowed 61 = .ok (.lreturn, 1) := by decide +kernel
theorem dX6_narrowed_62 : decode cX6_narrowed 62 = .ok (.lload_n 1, 1) := by decide +kernel
theorem dX6_narrowed_63 : decode cX6_narrowed 63 = .ok (.lreturn, 1) := by decide +kernel
theorem dX7_init_0 : decode cX7_init 0 = .ok (.aload_n 0, 1) := by decide +kernel
theorem dX7_init_1 : decode cX7_init 1 = .ok (.iload_n 1, 1) := by decide +kernel
theorem dX7_init_2 : decode cX7_init 2 = .ok (.iload_n 2, 1) := by decide +kernel
theorem dX7_init_3 : decode cX7_init 3 = .ok (.iload_n 3, 1) := by decide +kernel
theorem dX7_init_4 : decode cX7_init 4 = .ok (.invokespecial 1, 3) := by decide +kernel
theorem dX7_init_7 : decode cX7_init 7 = .ok (.return_, 1) := by decide +kernel
theorem dX7_showing_0 : decode cX7_showing 0 = .ok (.iload_n 1, 1) := by decide +kernel
theorem dX7_showing_1 : decode cX7_showing 1 = .ok (.iconst 1, 1) := by decide +kernel
theorem dX7_showing_2 : decode cX7_showing 2 = .ok (.invokestatic 7, 3) := by decide +kernel
theorem dX7_showing_5 : decode cX7_showing 5 = .ok (.ireturn, 1) := by decide +kernel
theorem dX7_sends_0 : decode cX7_sends 0 = .ok (.aload_n 2, 1) := by decide +kernel
theorem dX7_sends_1 : decode cX7_sends 1 = .ok (.bipush 20, 2) := by decide +kernel
theorem dX7_sends_3 : decode cX7_sends 3 = .ok (.invokevirtual 13, 3) := by decide +kernel
theorem dX7_sends_6 : decode cX7_sends 6 = .ok (.pop, 1) := by decide +kernel
theorem dX7_sends_7 : decode cX7_sends 7 = .ok (.aload_n 0, 1) := by decide +kernel
theorem dX7_sends_8 : decode cX7_sends 8 = .ok (.iload_n 1, 1) := by decide +kernel
theorem dX7_sends_9 : decode cX7_sends 9 = .ok (.aload_n 2, 1) := by decide +kernel
theorem dX7_sends_10 : decode cX7_sends 10 = .ok (.invokespecial 19, 3) := by decide +kernel
theorem dX7_sends_13 : decode cX7_sends 13 = .ok (.bipush 6, 2) := by decide +kernel
theorem dX7_sends_15 : decode cX7_sends 15 = .ok (.ixor, 1) := by decide +kernel
theorem dX7_sends_16 : decode cX7_sends 16 = .ok (.ireturn, 1) := by decide +kernel
theorem dX8_init_0 : decode cX8_init 0 = .ok (.aload_n 0, 1) := by decide +kernel
theorem dX8_init_1 : decode cX8_init 1 = .ok (.iload_n 1, 1) := by decide +kernel
theorem dX8_init_2 : decode cX8_init 2 = .ok (.iload_n 2, 1) := by decide +kernel
theorem dX8_init_3 : decode cX8_init 3 = .ok (.iload_n 3, 1) := by decide +kernel
theorem dX8_init_4 : decode cX8_init 4 = .ok (.invokespecial 1, 3) := by decide +kernel
theorem dX8_init_7 : decode cX8_init 7 = .ok (.return_, 1) := by decide +kernel
theorem dX8_showing_0 : decode cX8_showing 0 = .ok (.aload_n 0, 1) := by decide +kernel
theorem dX8_showing_1 : decode cX8_showing 1 = .ok (.iload_n 1, 1) := by decide +kernel
theorem dX8_showing_2 : decode cX8_showing 2 = .ok (.iload_n 2, 1) := by decide +kernel
theorem dX8_showing_3 : decode cX8_showing 3 = .ok (.iload_n 3, 1) := by decide +kernel
theorem dX8_showing_4 : decode cX8_showing 4 = .ok (.iload 4, 2) := by decide +kernel
theorem dX8_showing_6 : decode cX8_showing 6 = .ok (.invokespecial 7, 3) := by decide +kernel
theorem dX8_showing_9 : decode cX8_showing 9 = .ok (.iload 4, 2) := by decide +kernel
theorem dX8_showing_11 : decode cX8_showing 11 = .ok (.ixor, 1) := by decide +kernel
theorem dX8_showing_12 : decode cX8_showing 12 = .ok (.ireturn, 1) := by decide +kernel
theorem dX8_sends_0 : decode cX8_sends 0 = .ok (.aload_n 2, 1) := by decide +kernel
theorem dX8_sends_1 : decode cX8_sends 1 = .ok (.bipush 70, 2) := by decide +kernel
theorem dX8_sends_3 : decode cX8_sends 3 = .ok (.invokevirtual 11, 3) := by decide +kernel
theorem dX8_sends_6 : decode cX8_sends 6 = .ok (.pop, 1) := by decide +kernel
theorem dX8_sends_7 : decode cX8_sends 7 = .ok (.aload_n 0, 1) := by decide +kernel
theorem dX8_sends_8 : decode cX8_sends 8 = .ok (.iload_n 1, 1) := by decide +kernel
theorem dX8_sends_9 : decode cX8_sends 9 = .ok (.aload_n 2, 1) := by decide +kernel
theorem dX8_sends_10 : decode cX8_sends 10 = .ok (.invokespecial 17, 3) := by decide +kernel
theorem dX8_sends_13 : decode cX8_sends 13 = .ok (.aload_n 0, 1) := by decide +kernel
theorem dX8_sends_14 : decode cX8_sends 14 = .ok (.iconst 2, 1) := by decide +kernel
theorem dX8_sends_15 : decode cX8_sends 15 = .ok (.aload_n 2, 1) := by decide +kernel
theorem dX8_sends_16 : decode cX8_sends 16 = .ok (.invokespecial 21, 3) := by decide +kernel
theorem dX8_sends_19 : decode cX8_sends 19 = .ok (.iadd, 1) := by decide +kernel
theorem dX8_sends_20 : decode cX8_sends 20 = .ok (.ireturn, 1) := by decide +kernel
theorem dX8_tilts_0 : decode cX8_tilts 0 = .ok (.aload_n 2, 1) := by decide +kernel
theorem dX8_tilts_1 : decode cX8_tilts 1 = .ok (.bipush 71, 2) := by decide +kernel
theorem dX8_tilts_3 : decode cX8_tilts 3 = .ok (.invokevirtual 11, 3) := by decide +kernel
theorem dX8_tilts_6 : decode cX8_tilts 6 = .ok (.pop, 1) := by decide +kernel
theorem dX8_tilts_7 : decode cX8_tilts 7 = .ok (.aload_n 0, 1) := by decide +kernel
theorem dX8_tilts_8 : decode cX8_tilts 8 = .ok (.iload_n 1, 1) := by decide +kernel
theorem dX8_tilts_9 : decode cX8_tilts 9 = .ok (.aload_n 2, 1) := by decide +kernel
theorem dX8_tilts_10 : decode cX8_tilts 10 = .ok (.invokespecial 21, 3) := by decide +kernel
theorem dX8_tilts_13 : decode cX8_tilts 13 = .ok (.aload_n 0, 1) := by decide +kernel
theorem dX8_tilts_14 : decode cX8_tilts 14 = .ok (.getfield 24, 3) := by decide +kernel
theorem dX8_tilts_17 : decode cX8_tilts 17 = .ok (.ixor, 1) := by decide +kernel
theorem dX8_tilts_18 : decode cX8_tilts 18 = .ok (.ireturn, 1) := by decide +kernel
theorem dX9_init_0 : decode cX9_init 0 = .ok (.aload_n 0, 1) := by decide +kernel
theorem dX9_init_1 : decode cX9_init 1 = .ok (.invokespecial 3, 3) := by decide +kernel
theorem dX9_init_4 : decode cX9_init 4 = .ok (.aload_n 0, 1) := by decide +kernel
theorem dX9_init_5 : decode cX9_init 5 = .ok (.bipush 10, 2) := by decide +kernel
theorem dX9_init_7 : decode cX9_init 7 = .ok (.newarray .int, 2) := by decide +kernel
theorem dX9_init_9 : decode cX9_init 9 = .ok (.putfield 11, 3) := by decide +kernel
theorem dX9_init_12 : decode cX9_init 12 = .ok (.aload_n 0, 1) := by decide +kernel
theorem dX9_init_13 : decode cX9_init 13 = .ok (.bipush 10, 2) := by decide +kernel
theorem dX9_init_15 : decode cX9_init 15 = .ok (.newarray .int, 2) := by decide +kernel
theorem dX9_init_17 : decode cX9_init 17 = .ok (.putfield 15, 3) := by decide +kernel
theorem dX9_init_20 : decode cX9_init 20 = .ok (.aload_n 0, 1) := by decide +kernel
theorem dX9_init_21 : decode cX9_init 21 = .ok (.bipush 10, 2) := by decide +kernel
theorem dX9_init_23 : decode cX9_init 23 = .ok (.newarray .int, 2) := by decide +kernel
theorem dX9_init_25 : decode cX9_init 25 = .ok (.putfield 18, 3) := by decide +kernel
theorem dX9_init_28 : decode cX9_init 28 = .ok (.aload_n 0, 1) := by decide +kernel
theorem dX9_init_29 : decode cX9_init 29 = .ok (.iconst 0, 1) := by decide +kernel
theorem dX9_init_30 : decode cX9_init 30 = .ok (.putfield 21, 3) := by decide +kernel
theorem dX9_init_33 : decode cX9_init 33 = .ok (.aload_n 0, 1) := by decide +kernel
theorem dX9_init_34 : decode cX9_init 34 = .ok (.bipush 100, 2) := by decide +kernel
theorem dX9_init_36 : decode cX9_init 36 = .ok (.newarray .int, 2) := by decide +kernel
theorem dX9_init_38 : decode cX9_init 38 = .ok (.putfield 25, 3) := by decide +kernel
theorem dX9_init_41 : decode cX9_init 41 = .ok (.aload_n 0, 1) := by decide +kernel
theorem dX9_init_42 : decode cX9_init 42 = .ok (.iconst 0, 1) := by decide +kernel
theorem dX9_init_43 : decode cX9_init 43 = .ok (.putfield 28, 3) := by decide +kernel
theorem dX9_init_46 : decode cX9_init 46 = .ok (.aload_n 0, 1) := by decide +kernel
theorem dX9_init_47 : decode cX9_init 47 = .ok (.iconst 2, 1) := by decide +kernel
theorem dX9_init_48 : decode cX9_init 48 = .ok (.putfield 31, 3) := by decide +kernel
theorem dX9_init_51 : decode cX9_init 51 = .ok (.aload_n 0, 1) := by decide +kernel
theorem dX9_init_52 : decode cX9_init 52 = .ok (.aconst_null, 1) := by decide +kernel
theorem dX9_init_53 : decode cX9_init 53 = .ok (.putfield 34, 3) := by decide +kernel
theorem dX9_init_56 : decode cX9_init 56 = .ok (.aload_n 0, 1) := by decide +kernel
theorem dX9_init_57 : decode cX9_init 57 = .ok (.iconst 0, 1) := by decide +kernel
theorem dX9_init_58 : decode cX9_init 58 = .ok (.putfield 38, 3) := by decide +kernel
theorem dX9_init_61 : decode cX9_init 61 = .ok (.return_, 1) := by decide +kernel
theorem dX9_parse_0 : decode cX9_parse 0 = .ok (.aload_n 0, 1) := by decide +kernel
theorem dX9_parse_1 : decode cX9_parse 1 = .ok (.aload_n 1, 1) := by decide +kernel
theorem dX9_parse_2 : decode cX9_parse 2 = .ok (.putfield 34, 3) := by decide +kernel
theorem dX9_parse_5 : decode cX9_parse 5 = .ok (.aload_n 0, 1) := by decide +kernel
theorem dX9_parse_6 : decode cX9_parse 6 = .ok (.iconst 0, 1) := by decide +kernel
theorem dX9_parse_7 : decode cX9_parse 7 = .ok (.putfield 38, 3) := by decide +kernel
theorem dX9_parse_10 : decode cX9_parse 10 = .ok (.aload_n 0, 1) := by decide +kernel
theorem dX9_parse_11 : decode cX9_parse 11 = .ok (.iconst 0, 1) := by decide +kernel
theorem dX9_parse_12 : decode cX9_parse 12 = .ok (.putfield 21, 3) := by decide +kernel
theorem dX9_parse_15 : decode cX9_parse 15 = .ok (.aload_n 0, 1) := by decide +kernel
theorem dX9_parse_16 : decode cX9_parse 16 = .ok (.iconst 0, 1) := by decide +kernel
theorem dX9_parse_17 : decode cX9_parse 17 = .ok (.putfield 28, 3) := by decide +kernel
theorem dX9_parse_20 : decode cX9_parse 20 = .ok (.aload_n 0, 1) := by decide +kernel
theorem dX9_parse_21 : decode cX9_parse 21 = .ok (.iconst 2, 1) := by decide +kernel
theorem dX9_parse_22 : decode cX9_parse 22 = .ok (.putfield 31, 3) := by decide +kernel
theorem dX9_parse_25 : decode cX9_parse 25 = .ok (.aload_n 0, 1) := by decide +kernel
theorem dX9_parse_26 : decode cX9_parse 26 = .ok (.invokevirtual 41, 3) := by decide +kernel
theorem dX9_parse_29 : decode cX9_parse 29 = .ok (.istore_n 2, 1) := by decide +kernel
theorem dX9_parse_30 : decode cX9_parse 30 = .ok (.iconst 1, 1) := by decide +kernel
theorem dX9_parse_31 : decode cX9_parse 31 = .ok (.istore_n 3, 1) := by decide +kernel
theorem dX9_parse_32 : decode cX9_parse 32 = .ok (.iload_n 3, 1) := by decide +kernel
theorem dX9_parse_33 : decode cX9_parse 33 = .ok (.bipush 10, 2) := by decide +kernel
theorem dX9_parse_35 : decode cX9_parse 35 = .ok (.if_icmp .ge 27, 3) := by decide +kernel
theorem dX9_parse_38 : decode cX9_parse 38 = .ok (.iload_n 2, 1) := by decide +kernel
theorem dX9_parse_39 : decode cX9_parse 39 = .ok (.ifCond .eq 23, 3) := by decide +kernel
theorem dX9_parse_42 : decode cX9_parse 42 = .ok (.aload_n 0, 1) := by decide +kernel
theorem dX9_parse_43 : decode cX9_parse 43 = .ok (.bipush 59, 2) := by decide +kernel
theorem dX9_parse_45 : decode cX9_parse 45 = .ok (.invokevirtual 45, 3) := by decide +kernel
theorem dX9_parse_48 : decode cX9_parse 48 = .ok (.ifCond .eq 14, 3) := by decide +kernel
theorem dX9_parse_51 : decode cX9_parse 51 = .ok (.aload_n 0, 1) := by decide +kernel
theorem dX9_parse_52 : decode cX9_parse 52 = .ok (.invokevirtual 41, 3) := by decide +kernel
theorem dX9_parse_55 : decode cX9_parse 55 = .ok (.istore_n 2, 1) := by decide +kernel
theorem dX9_parse_56 : decode cX9_parse 56 = .ok (.iinc 3 1, 3) := by decide +kernel
theorem dX9_parse_59 : decode cX9_parse 59 = .ok (.goto (-27), 3) := by decide +kernel
theorem dX9_parse_62 : decode cX9_parse 62 = .ok (.iload_n 2, 1) := by decide +kernel
theorem dX9_parse_63 : decode cX9_parse 63 = .ok (.ifCond .eq 21, 3) := by decide +kernel
theorem dX9_parse_66 : decode cX9_parse 66 = .ok (.aload_n 0, 1) := by decide +kernel
theorem dX9_parse_67 : decode cX9_parse 67 = .ok (.getfield 38, 3) := by decide +kernel
theorem dX9_parse_70 : decode cX9_parse 70 = .ok (.aload_n 0, 1) := by decide +kernel
theorem dX9_parse_71 : decode cX9_parse 71 = .ok (.getfield 34, 3) := by decide +kernel
theorem dX9_parse_74 : decode cX9_parse 74 = .ok (.getfield 49, 3) := by decide +kernel
theorem dX9_parse_77 : decode cX9_parse 77 = .ok (.if_icmp .lt 7, 3) := by decide +kernel
theorem dX9_parse_80 : decode cX9_parse 80 = .ok (.iconst (-1), 1) := by decide +kernel
theorem dX9_parse_81 : decode cX9_parse 81 = .ok (.goto 7, 3) := by decide +kernel
theorem dX9_parse_84 : decode cX9_parse 84 = .ok (.aload_n 0, 1) := by decide +kernel
theorem dX9_parse_85 : decode cX9_parse 85 = .ok (.getfield 38, 3) := by decide +kernel
theorem dX9_parse_88 : decode cX9_parse 88 = .ok (.ireturn, 1) := by decide +kernel
theorem dX9_clause_0 : decode cX9_clause 0 = .ok (.aload_n 0, 1) := by decide +kernel
theorem dX9_clause_1 : decode cX9_clause 1 = .ok (.ldc 54, 2) := by decide +kernel
theorem dX9_clause_3 : decode cX9_clause 3 = .ok (.invokevirtual 56, 3) := by decide +kernel
theorem dX9_clause_6 : decode cX9_clause 6 = .ok (.istore_n 1, 1) := by decide +kernel
theorem dX9_clause_7 : decode cX9_clause 7 = .ok (.iload_n 1, 1) := by decide +kernel
theorem dX9_clause_8 : decode cX9_clause 8 = .ok (.ifCond .lt 12, 3) := by decide +kernel
theorem dX9_clause_11 : decode cX9_clause 11 = .ok (.aload_n 0, 1) := by decide +kernel
theorem dX9_clause_12 : decode cX9_clause 12 = .ok (.getfield 21, 3) := by decide +kernel
theorem dX9_clause_15 : decode cX9_clause 15 = .ok (.bipush 10, 2) := by decide +kernel
theorem dX9_clause_17 : decode cX9_clause 17 = .ok (.if_icmp .lt 5, 3) := by decide +kernel
theorem dX9_clause_20 : decode cX9_clause 20 = .ok (.iconst 0, 1) := by decide +kernel
theorem dX9_clause_21 : decode cX9_clause 21 = .ok (.ireturn, 1) := by decide +kernel
theorem dX9_clause_22 : decode cX9_clause 22 = .ok (.iconst 1, 1) := by decide +kernel
theorem dX9_clause_23 : decode cX9_clause 23 = .ok (.istore_n 2, 1) := by decide +kernel
theorem dX9_clause_24 : decode cX9_clause 24 = .ok (.iload_n 2, 1) := by decide +kernel
theorem dX9_clause_25 : decode cX9_clause 25 = .ok (.iconst 4, 1) := by decide +kernel
theorem dX9_clause_26 : decode cX9_clause 26 = .ok (.if_icmp .ge 28, 3) := by decide +kernel
theorem dX9_clause_29 : decode cX9_clause 29 = .ok (.aload_n 0, 1) := by decide +kernel
theorem dX9_clause_30 : decode cX9_clause 30 = .ok (.ldc 60, 2) := by decide +kernel
theorem dX9_clause_32 : decode cX9_clause 32 = .ok (.iload_n 1, 1) := by decide +kernel
theorem dX9_clause_33 : decode cX9_clause 33 = .ok (.iconst 4, 1) := by decide +kernel
theorem dX9_clause_34 : decode cX9_clause 34 = .ok (.imul, 1) := by decide +kernel
theorem dX9_clause_35 : decode cX9_clause 35 = .ok (.iload_n 2, 1) := by decide +kernel
theorem dX9_clause_36 : decode cX9_clause 36 = .ok (.iadd, 1) := by decide +kernel
theorem dX9_clause_37 : decode cX9_clause 37 = .ok (.invokevirtual 62, 3) := by decide +kernel
theorem dX9_clause_40 : decode cX9_clause 40 = .ok (.invokevirtual 45, 3) := by decide +kernel
theorem dX9_clause_43 : decode cX9_clause 43 = .ok (.ifCond .ne 5, 3) := by decide +kernel
theorem dX9_clause_46 : decode cX9_clause 46 = .ok (.iconst 0, 1) := by decide +kernel
theorem dX9_clause_47 : decode cX9_clause 47 = .ok (.ireturn, 1) := by decide +kernel
theorem dX9_clause_48 : decode cX9_clause 48 = .ok (.iinc 2 1, 3) := by decide +kernel
theorem dX9_clause_51 : decode cX9_clause 51 = .ok (.goto (-27), 3) := by decide +kernel
theorem dX9_clause_54 : decode cX9_clause 54 = .ok (.aload_n 0, 1) := by decide +kernel
theorem dX9_clause_55 : decode cX9_clause 55 = .ok (.bipush 32, 2) := by decide +kernel
theorem dX9_clause_57 : decode cX9_clause 57 = .ok (.invokevirtual 45, 3) := by decide +kernel
theorem dX9_clause_60 : decode cX9_clause 60 = .ok (.ifCond .eq 10, 3) := by decide +kernel
theorem dX9_clause_63 : decode cX9_clause 63 = .ok (.aload_n 0, 1) := by decide +kernel
theorem dX9_clause_64 : decode cX9_clause 64 = .ok (.invokevirtual 68, 3) := by decide +kernel
theorem dX9_clause_67 : decode cX9_clause 67 = .ok (.goto 4, 3) := by decide +kernel
theorem dX9_clause_70 : decode cX9_clause 70 = .ok (.iconst (-1), 1) := by decide +kernel
theorem dX9_clause_71 : decode cX9_clause 71 = .ok (.istore_n 2, 1) := by decide +kernel
theorem dX9_clause_72 : decode cX9_clause 72 = .ok (.iload_n 2, 1) := by decide +kernel
theorem dX9_clause_73 : decode cX9_clause 73 = .ok (.ifCond .ge 5, 3) := by decide +kernel
theorem dX9_clause_76 : decode cX9_clause 76 = .ok (.iconst 0, 1) := by decide +kernel
theorem dX9_clause_77 : decode cX9_clause 77 = .ok (.ireturn, 1) := by decide +kernel
theorem dX9_clause_78 : decode cX9_clause 78 = .ok (.iload_n 1, 1) := by decide +kernel
theorem dX9_clause_79 : decode cX9_clause 79 = .ok (.iconst 3, 1) := by decide +kernel
theorem dX9_clause_80 : decode cX9_clause 80 = .ok (.if_icmp .ne 11, 3) := by decide +kernel
theorem dX9_clause_83 : decode cX9_clause 83 = .ok (.aload_n 0, 1) := by decide +kernel
theorem dX9_clause_84 : decode cX9_clause 84 = .ok (.iload_n 2, 1) := by decide +kernel
theorem dX9_clause_85 : decode cX9_clause 85 = .ok (.putfield 31, 3) := by decide +kernel
theorem dX9_clause_88 : decode cX9_clause 88 = .ok (.goto 22, 3) := by decide +kernel
theorem dX9_clause_91 : decode cX9_clause 91 = .ok (.aload_n 0, 1) := by decide +kernel
theorem dX9_clause_92 : decode cX9_clause 92 = .ok (.bipush 32, 2) := by decide +kernel
theorem dX9_clause_94 : decode cX9_clause 94 = .ok (.invokevirtual 45, 3) := by decide +kernel
theorem dX9_clause_97 : decode cX9_clause 97 = .ok (.ifCond .eq 11, 3) := by decide +kernel
theorem dX9_clause_100 : decode cX9_clause 100 = .ok (.aload_n 0, 1) := by decide +kernel
theorem dX9_clause_101 : decode cX9_clause 101 = .ok (.iconst 0, 1) := by decide +kernel
theorem dX9_clause_102 : decode cX9_clause 102 = .ok (.invokevirtual 72, 3) := by decide +kernel
theorem dX9_clause_105 : decode cX9_clause 105 = .ok (.ifCond .ne 5, 3) := by decide +kernel
theorem dX9_clause_108 : decode cX9_clause 108 = .ok (.iconst 0, 1) := by decide +kernel
theorem dX9_clause_109 : decode cX9_clause 109 = .ok (.ireturn, 1) := by decide +kernel
theorem dX9_clause_110 : decode cX9_clause 110 = .ok (.aload_n 0, 1) := by decide +kernel
theorem dX9_clause_111 : decode cX9_clause 111 = .ok (.getfield 11, 3) := by decide +kernel
theorem dX9_clause_114 : decode cX9_clause 114 = .ok (.aload_n 0, 1) := by decide +kernel
theorem dX9_clause_115 : decode cX9_clause 115 = .ok (.getfield 21, 3) := by decide +kernel
theorem dX9_clause_118 : decode cX9_clause 118 = .ok (.iload_n 1, 1) := by decide +kernel
theorem dX9_clause_119 : decode cX9_clause 119 = .ok (.iastore, 1) := by decide +kernel
theorem dX9_clause_120 : decode cX9_clause 120 = .ok (.aload_n 0, 1) := by decide +kernel
theorem dX9_clause_121 : decode cX9_clause 121 = .ok (.getfield 15, 3) := by decide +kernel
theorem dX9_clause_124 : decode cX9_clause 124 = .ok (.aload_n 0, 1) := by decide +kernel
theorem dX9_clause_125 : decode cX9_clause 125 = .ok (.getfield 21, 3) := by decide +kernel
theorem dX9_clause_128 : decode cX9_clause 128 = .ok (.iload_n 2, 1) := by decide +kernel
theorem dX9_clause_129 : decode cX9_clause 129 = .ok (.iastore, 1) := by decide +kernel
theorem dX9_clause_130 : decode cX9_clause 130 = .ok (.aload_n 0, 1) := by decide +kernel
theorem dX9_clause_131 : decode cX9_clause 131 = .ok (.getfield 18, 3) := by decide +kernel
theorem dX9_clause_134 : decode cX9_clause 134 = .ok (.aload_n 0, 1) := by decide +kernel
theorem dX9_clause_135 : decode cX9_clause 135 = .ok (.getfield 21, 3) := by decide +kernel
theorem dX9_clause_138 : decode cX9_clause 138 = .ok (.aload_n 0, 1) := by decide +kernel
theorem dX9_clause_139 : decode cX9_clause 139 = .ok (.getfield 28, 3) := by decide +kernel
theorem dX9_clause_142 : decode cX9_clause 142 = .ok (.iastore, 1) := by decide +kernel
theorem dX9_clause_143 : decode cX9_clause 143 = .ok (.aload_n 0, 1) := by decide +kernel
theorem dX9_clause_144 : decode cX9_clause 144 = .ok (.dup, 1) := by decide +kernel
theorem dX9_clause_145 : decode cX9_clause 145 = .ok (.getfield 21, 3) := by decide +kernel
theorem dX9_clause_148 : decode cX9_clause 148 = .ok (.iconst 1, 1) := by decide +kernel
theorem dX9_clause_149 : decode cX9_clause 149 = .ok (.iadd, 1) := by decide +kernel
theorem dX9_clause_150 : decode cX9_clause 150 = .ok (.putfield 21, 3) := by decide +kernel
theorem dX9_clause_153 : decode cX9_clause 153 = .ok (.iconst 1, 1) := by decide +kernel
theorem dX9_clause_154 : decode cX9_clause 154 = .ok (.ireturn, 1) := by decide +kernel
theorem dX9_either_0 : decode cX9_either 0 = .ok (.aload_n 0, 1) := by decide +kernel
theorem dX9_either_1 : decode cX9_either 1 = .ok (.iload_n 1, 1) := by decide +kernel
theorem dX9_either_2 : decode cX9_either 2 = .ok (.invokevirtual 76, 3) := by decide +kernel
theorem dX9_either_5 : decode cX9_either 5 = .ok (.istore_n 2, 1) := by decide +kernel
theorem dX9_either_6 : decode cX9_either 6 = .ok (.iconst 0, 1) := by decide +kernel
theorem dX9_either_7 : decode cX9_either 7 = .ok (.istore_n 3, 1) := by decide +kernel
theorem dX9_either_8 : decode cX9_either 8 = .ok (.iload_n 3, 1) := by decide +kernel
theorem dX9_either_9 : decode cX9_either 9 = .ok (.bipush 100, 2) := by decide +kernel
theorem dX9_either_11 : decode cX9_either 11 = .ok (.if_icmp .ge 45, 3) := by decide +kernel
theorem dX9_either_14 : decode cX9_either 14 = .ok (.iload_n 2, 1) := by decide +kernel
theorem dX9_either_15 : decode cX9_either 15 = .ok (.ifCond .eq 41, 3) := by decide +kernel
theorem dX9_either_18 : decode cX9_either 18 = .ok (.aload_n 0, 1) := by decide +kernel
theorem dX9_either_19 : decode cX9_either 19 = .ok (.bipush 124, 2) := by decide +kernel
theorem dX9_either_21 : decode cX9_either 21 = .ok (.invokevirtual 45, 3) := by decide +kernel
theorem dX9_either_24 : decode cX9_either 24 = .ok (.ifCond .eq 32, 3) := by decide +kernel
theorem dX9_either_27 : decode cX9_either 27 = .ok (.aload_n 0, 1) := by decide +kernel
theorem dX9_either_28 : decode cX9_either 28 = .ok (.iload_n 1, 1) := by decide +kernel
theorem dX9_either_29 : decode cX9_either 29 = .ok (.invokevirtual 76, 3) := by decide +kernel
theorem dX9_either_32 : decode cX9_either 32 = .ok (.ifCond .eq 16, 3) := by decide +kernel
theorem dX9_either_35 : decode cX9_either 35 = .ok (.aload_n 0, 1) := by decide +kernel
theorem dX9_either_36 : decode cX9_either 36 = .ok (.bipush (-3), 2) := by decide +kernel
theorem dX9_either_38 : decode cX9_either 38 = .ok (.invokevirtual 79, 3) := by decide +kernel
theorem dX9_either_41 : decode cX9_either 41 = .ok (.ifCond .eq 7, 3) := by decide +kernel
theorem dX9_either_44 : decode cX9_either 44 = .ok (.iconst 1, 1) := by decide +kernel
theorem dX9_either_45 : decode cX9_either 45 = .ok (.goto 4, 3) := by decide +kernel
theorem dX9_either_48 : decode cX9_either 48 = .ok (.iconst 0, 1) := by decide +kernel
theorem dX9_either_49 : decode cX9_either 49 = .ok (.istore_n 2, 1) := by decide +kernel
theorem dX9_either_50 : decode cX9_either 50 = .ok (.iinc 3 1, 3) := by decide +kernel
theorem dX9_either_53 : decode cX9_either 53 = .ok (.goto (-45), 3) := by decide +kernel
theorem dX9_either_56 : decode cX9_either 56 = .ok (.iload_n 2, 1) := by decide +kernel
theorem dX9_either_57 : decode cX9_either 57 = .ok (.ireturn, 1) := by decide +kernel
theorem dX9_both_0 : decode cX9_both 0 = .ok (.aload_n 0, 1) := by decide +kernel
theorem dX9_both_1 : decode cX9_both 1 = .ok (.iload_n 1, 1) := by decide +kernel
theorem dX9_both_2 : decode cX9_both 2 = .ok (.invokevirtual 82, 3) := by decide +kernel
theorem dX9_both_5 : decode cX9_both 5 = .ok (.istore_n 2, 1) := by decide +kernel
theorem dX9_both_6 : decode cX9_both 6 = .ok (.iconst 0, 1) := by decide +kernel
theorem dX9_both_7 : decode cX9_both 7 = .ok (.istore_n 3, 1) := by decide +kernel
theorem dX9_both_8 : decode cX9_both 8 = .ok (.iload_n 3, 1) := by decide +kernel
theorem dX9_both_9 : decode cX9_both 9 = .ok (.bipush 100, 2) := by decide +kernel
theorem dX9_both_11 : decode cX9_both 11 = .ok (.if_icmp .ge 45, 3) := by decide +kernel
theorem dX9_both_14 : decode cX9_both 14 = .ok (.iload_n 2, 1) := by decide +kernel
theorem dX9_both_15 : decode cX9_both 15 = .ok (.ifCond .eq 41, 3) := by decide +kernel
theorem dX9_both_18 : decode cX9_both 18 = .ok (.aload_n 0, 1) := by decide +kernel
theorem dX9_both_19 : decode cX9_both 19 = .ok (.bipush 38, 2) := by decide +kernel
theorem dX9_both_21 : decode cX9_both 21 = .ok (.invokevirtual 45, 3) := by decide +kernel
theorem dX9_both_24 : decode cX9_both 24 = .ok (.ifCond .eq 32, 3) := by decide +kernel
theorem dX9_both_27 : decode cX9_both 27 = .ok (.aload_n 0, 1) := by decide +kernel
theorem dX9_both_28 : decode cX9_both 28 = .ok (.iload_n 1, 1) := by decide +kernel
theorem dX9_both_29 : decode cX9_both 29 = .ok (.invokevirtual 82, 3) := by decide +kernel
theorem dX9_both_32 : decode cX9_both 32 = .ok (.ifCond .eq 16, 3) := by decide +kernel
theorem dX9_both_35 : decode cX9_both 35 = .ok (.aload_n 0, 1) := by decide +kernel
theorem dX9_both_36 : decode cX9_both 36 = .ok (.bipush (-2), 2) := by decide +kernel
theorem dX9_both_38 : decode cX9_both 38 = .ok (.invokevirtual 79, 3) := by decide +kernel
theorem dX9_both_41 : decode cX9_both 41 = .ok (.ifCond .eq 7, 3) := by decide +kernel
theorem dX9_both_44 : decode cX9_both 44 = .ok (.iconst 1, 1) := by decide +kernel
theorem dX9_both_45 : decode cX9_both 45 = .ok (.goto 4, 3) := by decide +kernel
theorem dX9_both_48 : decode cX9_both 48 = .ok (.iconst 0, 1) := by decide +kernel
theorem dX9_both_49 : decode cX9_both 49 = .ok (.istore_n 2, 1) := by decide +kernel
theorem dX9_both_50 : decode cX9_both 50 = .ok (.iinc 3 1, 3) := by decide +kernel
theorem dX9_both_53 : decode cX9_both 53 = .ok (.goto (-45), 3) := by decide +kernel
theorem dX9_both_56 : decode cX9_both 56 = .ok (.iload_n 2, 1) := by decide +kernel
theorem dX9_both_57 : decode cX9_both 57 = .ok (.ireturn, 1) := by decide +kernel
theorem dX9_single_0 : decode cX9_single 0 = .ok (.iload_n 1, 1) := by decide +kernel
theorem dX9_single_1 : decode cX9_single 1 = .ok (.iconst 4, 1) := by decide +kernel
theorem dX9_single_2 : decode cX9_single 2 = .ok (.if_icmp .ge 36, 3) := by decide +kernel
theorem dX9_single_5 : decode cX9_single 5 = .ok (.aload_n 0, 1) := by decide +kernel
theorem dX9_single_6 : decode cX9_single 6 = .ok (.bipush 33, 2) := by decide +kernel
theorem dX9_single_8 : decode cX9_single 8 = .ok (.invokevirtual 45, 3) := by decide +kernel
theorem dX9_single_11 : decode cX9_single 11 = .ok (.ifCond .eq 27, 3) := by decide +kernel
theorem dX9_single_14 : decode cX9_single 14 = .ok (.aload_n 0, 1) := by decide +kernel
theorem dX9_single_15 : decode cX9_single 15 = .ok (.iload_n 1, 1) := by decide +kernel
theorem dX9_single_16 : decode cX9_single 16 = .ok (.iconst 1, 1) := by decide +kernel
theorem dX9_single_17 : decode cX9_single 17 = .ok (.iadd, 1) := by decide +kernel
theorem dX9_single_18 : decode cX9_single 18 = .ok (.invokevirtual 82, 3) := by decide +kernel
theorem dX9_single_21 : decode cX9_single 21 = .ok (.ifCond .eq 15, 3) := by decide +kernel
theorem dX9_single_24 : decode cX9_single 24 = .ok (.aload_n 0, 1) := by decide +kernel
theorem dX9_single_25 : decode cX9_single 25 = .ok (.iconst (-1), 1) := by decide +kernel
theorem dX9_single_26 : decode cX9_single 26 = .ok (.invokevirtual 79, 3) := by decide +kernel
theorem dX9_single_29 : decode cX9_single 29 = .ok (.ifCond .eq 7, 3) := by decide +kernel
theorem dX9_single_32 : decode cX9_single 32 = .ok (.iconst 1, 1) := by decide +kernel
theorem dX9_single_33 : decode cX9_single 33 = .ok (.goto 4, 3) := by decide +kernel
theorem dX9_single_36 : decode cX9_single 36 = .ok (.iconst 0, 1) := by decide +kernel
theorem dX9_single_37 : decode cX9_single 37 = .ok (.ireturn, 1) := by decide +kernel
theorem dX9_single_38 : decode cX9_single 38 = .ok (.iload_n 1, 1) := by decide +kernel
theorem dX9_single_39 : decode cX9_single 39 = .ok (.iconst 4, 1) := by decide +kernel
theorem dX9_single_40 : decode cX9_single 40 = .ok (.if_icmp .ge 37, 3) := by decide +kernel
theorem dX9_single_43 : decode cX9_single 43 = .ok (.aload_n 0, 1) := by decide +kernel
theorem dX9_single_44 : decode cX9_single 44 = .ok (.bipush 40, 2) := by decide +kernel
theorem dX9_single_46 : decode cX9_single 46 = .ok (.invokevirtual 45, 3) := by decide +kernel
theorem dX9_single_49 : decode cX9_single 49 = .ok (.ifCond .eq 28, 3) := by decide +kernel
theorem dX9_single_52 : decode cX9_single 52 = .ok (.aload_n 0, 1) := by decide +kernel
theorem dX9_single_53 : decode cX9_single 53 = .ok (.iload_n 1, 1) := by decide +kernel
theorem dX9_single_54 : decode cX9_single 54 = .ok (.iconst 1, 1) := by decide +kernel
theorem dX9_single_55 : decode cX9_single 55 = .ok (.iadd, 1) := by decide +kernel
theorem dX9_single_56 : decode cX9_single 56 = .ok (.invokevirtual 72, 3) := by decide +kernel
theorem dX9_single_59 : decode cX9_single 59 = .ok (.ifCond .eq 16, 3) := by decide +kernel
theorem dX9_single_62 : decode cX9_single 62 = .ok (.aload_n 0, 1) := by decide +kernel
theorem dX9_single_63 : decode cX9_single 63 = .ok (.bipush 41, 2) := by decide +kernel
theorem dX9_single_65 : decode cX9_single 65 = .ok (.invokevirtual 45, 3) := by decide +kernel
theorem dX9_single_68 : decode cX9_single 68 = .ok (.ifCond .eq 7, 3) := by decide +kernel
theorem dX9_single_71 : decode cX9_single 71 = .ok (.iconst 1, 1) := by decide +kernel
theorem dX9_single_72 : decode cX9_single 72 = .ok (.goto 4, 3) := by decide +kernel
theorem dX9_single_75 : decode cX9_single 75 = .ok (.iconst 0, 1) := by decide +kernel
theorem dX9_single_76 : decode cX9_single 76 = .ok (.ireturn, 1) := by decide +kernel
theorem dX9_single_77 : decode cX9_single 77 = .ok (.aload_n 0, 1) := by decide +kernel
theorem dX9_single_78 : decode cX9_single 78 = .ok (.ldc 85, 2) := by decide +kernel
theorem dX9_single_80 : decode cX9_single 80 = .ok (.invokevirtual 56, 3) := by decide +kernel
theorem dX9_single_83 : decode cX9_single 83 = .ok (.istore_n 2, 1) := by decide +kernel
theorem dX9_single_84 : decode cX9_single 84 = .ok (.iload_n 2, 1) := by decide +kernel
theorem dX9_single_85 : decode cX9_single 85 = .ok (.ifCond .ge 7, 3) := by decide +kernel
theorem dX9_single_88 : decode cX9_single 88 = .ok (.iconst (-1), 1) := by decide +kernel
theorem dX9_single_89 : decode cX9_single 89 = .ok (.goto 9, 3) := by decide +kernel
theorem dX9_single_92 : decode cX9_single 92 = .ok (.aload_n 0, 1) := by decide +kernel
theorem dX9_single_93 : decode cX9_single 93 = .ok (.ldc 87, 2) := by decide +kernel
theorem dX9_single_95 : decode cX9_single 95 = .ok (.invokevirtual 56, 3) := by decide +kernel
theorem dX9_single_98 : decode cX9_single 98 = .ok (.istore_n 3, 1) := by decide +kernel
theorem dX9_single_99 : decode cX9_single 99 = .ok (.iload_n 3, 1) := by decide +kernel
theorem dX9_single_100 : decode cX9_single 100 = .ok (.ifCond .ge 7, 3) := by decide +kernel
theorem dX9_single_103 : decode cX9_single 103 = .ok (.iconst (-1), 1) := by decide +kernel
theorem dX9_single_104 : decode cX9_single 104 = .ok (.goto 7, 3) := by decide +kernel
theorem dX9_single_107 : decode cX9_single 107 = .ok (.aload_n 0, 1) := by decide +kernel
theorem dX9_single_108 : decode cX9_single 108 = .ok (.invokevirtual 68, 3) := by decide +kernel
theorem dX9_single_111 : decode cX9_single 111 = .ok (.istore 4, 2) := by decide +kernel
theorem dX9_single_113 : decode cX9_single 113 = .ok (.iload 4, 2) := by decide +kernel
theorem dX9_single_115 : decode cX9_single 115 = .ok (.ifCond .lt 25, 3) := by decide +kernel
theorem dX9_single_118 : decode cX9_single 118 = .ok (.aload_n 0, 1) := by decide +kernel
theorem dX9_single_119 : decode cX9_single 119 = .ok (.iload_n 2, 1) := by decide +kernel
theorem dX9_single_120 : decode cX9_single 120 = .ok (.iconst 3, 1) := by decide +kernel
theorem dX9_single_121 : decode cX9_single 121 = .ok (.imul, 1) := by decide +kernel
theorem dX9_single_122 : decode cX9_single 122 = .ok (.iload_n 3, 1) := by decide +kernel
theorem dX9_single_123 : decode cX9_single 123 = .ok (.iadd, 1) := by decide +kernel
theorem dX9_single_124 : decode cX9_single 124 = .ok (.bipush 100, 2) := by decide +kernel
theorem dX9_single_126 : decode cX9_single 126 = .ok (.imul, 1) := by decide +kernel
theorem dX9_single_127 : decode cX9_single 127 = .ok (.iload 4, 2) := by decide +kernel
theorem dX9_single_129 : decode cX9_single 129 = .ok (.iadd, 1) := by decide +kernel
theorem dX9_single_130 : decode cX9_single 130 = .ok (.invokevirtual 79, 3) := by decide +kernel
theorem dX9_single_133 : decode cX9_single 133 = .ok (.ifCond .eq 7, 3) := by decide +kernel
theorem dX9_single_136 : decode cX9_single 136 = .ok (.iconst 1, 1) := by decide +kernel
theorem dX9_single_137 : decode cX9_single 137 = .ok (.goto 4, 3) := by decide +kernel
theorem dX9_single_140 : decode cX9_single 140 = .ok (.iconst 0, 1) := by decide +kernel
theorem dX9_single_141 : decode cX9_single 141 = .ok (.ireturn, 1) := by decide +kernel
theorem dX9_number_0 : decode cX9_number 0 = .ok (.aload_n 0, 1) := by decide +kernel
theorem dX9_number_1 : decode cX9_number 1 = .ok (.ldc 89, 2) := by decide +kernel
theorem dX9_number_3 : decode cX9_number 3 = .ok (.invokevirtual 56, 3) := by decide +kernel
theorem dX9_number_6 : decode cX9_number 6 = .ok (.istore_n 1, 1) := by decide +kernel
theorem dX9_number_7 : decode cX9_number 7 = .ok (.iload_n 1, 1) := by decide +kernel
theorem dX9_number_8 : decode cX9_number 8 = .ok (.ifCond .ge 7, 3) := by decide +kernel
theorem dX9_number_11 : decode cX9_number 11 = .ok (.iconst (-1), 1) := by decide +kernel
theorem dX9_number_12 : decode cX9_number 12 = .ok (.goto 9, 3) := by decide +kernel
theorem dX9_number_15 : decode cX9_number 15 = .ok (.aload_n 0, 1) := by decide +kernel
theorem dX9_number_16 : decode cX9_number 16 = .ok (.ldc 89, 2) := by decide +kernel
theorem dX9_number_18 : decode cX9_number 18 = .ok (.invokevirtual 56, 3) := by decide +kernel
theorem dX9_number_21 : decode cX9_number 21 = .ok (.istore_n 2, 1) := by decide +kernel
theorem dX9_number_22 : decode cX9_number 22 = .ok (.iload_n 2, 1) := by decide +kernel
theorem dX9_number_23 : decode cX9_number 23 = .ok (.ifCond .ge 7, 3) := by decide +kernel
theorem dX9_number_26 : decode cX9_number 26 = .ok (.iload_n 1, 1) := by decide +kernel
theorem dX9_number_27 : decode cX9_number 27 = .ok (.goto 9, 3) := by decide +kernel
theorem dX9_number_30 : decode cX9_number 30 = .ok (.iload_n 1, 1) := by decide +kernel
theorem dX9_number_31 : decode cX9_number 31 = .ok (.bipush 10, 2) := by decide +kernel
theorem dX9_number_33 : decode cX9_number 33 = .ok (.imul, 1) := by decide +kernel
theorem dX9_number_34 : decode cX9_number 34 = .ok (.iload_n 2, 1) := by decide +kernel
theorem dX9_number_35 : decode cX9_number 35 = .ok (.iadd, 1) := by decide +kernel
theorem dX9_number_36 : decode cX9_number 36 = .ok (.ireturn, 1) := by decide +kernel
theorem dX9_accept_0 : decode cX9_accept 0 = .ok (.aload_n 0, 1) := by decide +kernel
theorem dX9_accept_1 : decode cX9_accept 1 = .ok (.getfield 38, 3) := by decide +kernel
theorem dX9_accept_4 : decode cX9_accept 4 = .ok (.aload_n 0, 1) := by decide +kernel
theorem dX9_accept_5 : decode cX9_accept 5 = .ok (.getfield 34, 3) := by decide +kernel
theorem dX9_accept_8 : decode cX9_accept 8 = .ok (.getfield 49, 3) := by decide +kernel
theorem dX9_accept_11 : decode cX9_accept 11 = .ok (.if_icmp .ge 23, 3) := by decide +kernel
theorem dX9_accept_14 : decode cX9_accept 14 = .ok (.aload_n 0, 1) := by decide +kernel
theorem dX9_accept_15 : decode cX9_accept 15 = .ok (.getfield 34, 3) := by decide +kernel
theorem dX9_accept_18 : decode cX9_accept 18 = .ok (.getfield 91, 3) := by decide +kernel
theorem dX9_accept_21 : decode cX9_accept 21 = .ok (.aload_n 0, 1) := by decide +kernel
theorem dX9_accept_22 : decode cX9_accept 22 = .ok (.getfield 38, 3) := by decide +kernel
theorem dX9_accept_25 : decode cX9_accept 25 = .ok (.iaload, 1) := by decide +kernel
theorem dX9_accept_26 : decode cX9_accept 26 = .ok (.iload_n 1, 1) := by decide +kernel
theorem dX9_accept_27 : decode cX9_accept 27 = .ok (.if_icmp .ne 7, 3) := by decide +kernel
theorem dX9_accept_30 : decode cX9_accept 30 = .ok (.iconst 1, 1) := by decide +kernel
theorem dX9_accept_31 : decode cX9_accept 31 = .ok (.goto 4, 3) := by decide +kernel
theorem dX9_accept_34 : decode cX9_accept 34 = .ok (.iconst 0, 1) := by decide +kernel
theorem dX9_accept_35 : decode cX9_accept 35 = .ok (.istore_n 2, 1) := by decide +kernel
theorem dX9_accept_36 : decode cX9_accept 36 = .ok (.iload_n 2, 1) := by decide +kernel
theorem dX9_accept_37 : decode cX9_accept 37 = .ok (.ifCond .eq 13, 3) := by decide +kernel
theorem dX9_accept_40 : decode cX9_accept 40 = .ok (.aload_n 0, 1) := by decide +kernel
theorem dX9_accept_41 : decode cX9_accept 41 = .ok (.dup, 1) := by decide +kernel
theorem dX9_accept_42 : decode cX9_accept 42 = .ok (.getfield 38, 3) := by decide +kernel
theorem dX9_accept_45 : decode cX9_accept 45 = .ok (.iconst 1, 1) := by decide +kernel
theorem dX9_accept_46 : decode cX9_accept 46 = .ok (.iadd, 1) := by decide +kernel
theorem dX9_accept_47 : decode cX9_accept 47 = .ok (.putfield 38, 3) := by decide +kernel
theorem dX9_accept_50 : decode cX9_accept 50 = .ok (.iload_n 2, 1) := by decide +kernel
theorem dX9_accept_51 : decode cX9_accept 51 = .ok (.ireturn, 1) := by decide +kernel
theorem dX9_acceptOneOf_0 : decode cX9_acceptOneOf 0 = .ok (.aload_n 0, 1) := by decide +kernel
theorem dX9_acceptOneOf_1 : decode cX9_acceptOneOf 1 = .ok (.getfield 38, 3) := by decide +kernel
theorem dX9_acceptOneOf_4 : decode cX9_acceptOneOf 4 = .ok (.aload_n 0, 1) := by decide +kernel
theorem dX9_acceptOneOf_5 : decode cX9_acceptOneOf 5 = .ok (.getfield 34, 3) := by decide +kernel
theorem dX9_acceptOneOf_8 : decode cX9_acceptOneOf 8 = .ok (.getfield 49, 3) := by decide +kernel
theorem dX9_acceptOneOf_11 : decode cX9_acceptOneOf 11 = .ok (.if_icmp .ge 23, 3) := by decide +kernel
theorem dX9_acceptOneOf_14 : decode cX9_acceptOneOf 14 = .ok (.aload_n 1, 1) := by decide +kernel
theorem dX9_acceptOneOf_15 : decode cX9_acceptOneOf 15 = .ok (.aload_n 0, 1) := by decide +kernel
theorem dX9_acceptOneOf_16 : decode cX9_acceptOneOf 16 = .ok (.getfield 34, 3) := by decide +kernel
theorem dX9_acceptOneOf_19 : decode cX9_acceptOneOf 19 = .ok (.getfield 91, 3) := by decide +kernel
theorem dX9_acceptOneOf_22 : decode cX9_acceptOneOf 22 = .ok (.aload_n 0, 1) := by decide +kernel
theorem dX9_acceptOneOf_23 : decode cX9_acceptOneOf 23 = .ok (.getfield 38, 3) := by decide +kernel
theorem dX9_acceptOneOf_26 : decode cX9_acceptOneOf 26 = .ok (.iaload, 1) := by decide +kernel
theorem dX9_acceptOneOf_27 : decode cX9_acceptOneOf 27 = .ok (.i2c, 1) := by decide +kernel
theorem dX9_acceptOneOf_28 : decode cX9_acceptOneOf 28 = .ok (.invokevirtual 94, 3) := by decide +kernel
theorem dX9_acceptOneOf_31 : decode cX9_acceptOneOf 31 = .ok (.goto 4, 3) := by decide +kernel
theorem dX9_acceptOneOf_34 : decode cX9_acceptOneOf 34 = .ok (.iconst (-1), 1) := by decide +kernel
theorem dX9_acceptOneOf_35 : decode cX9_acceptOneOf 35 = .ok (.istore_n 2, 1) := by decide +kernel
theorem dX9_acceptOneOf_36 : decode cX9_acceptOneOf 36 = .ok (.iload_n 2, 1) := by decide +kernel
theorem dX9_acceptOneOf_37 : decode cX9_acceptOneOf 37 = .ok (.ifCond .lt 13, 3) := by decide +kernel
theorem dX9_acceptOneOf_40 : decode cX9_acceptOneOf 40 = .ok (.aload_n 0, 1) := by decide +kernel
theorem dX9_acceptOneOf_41 : decode cX9_acceptOneOf 41 = .ok (.dup, 1) := by decide +kernel
theorem dX9_acceptOneOf_42 : decode cX9_acceptOneOf 42 = .ok (.getfield 38, 3) := by decide +kernel
theorem dX9_acceptOneOf_45 : decode cX9_acceptOneOf 45 = .ok (.iconst 1, 1) := by decide +kernel
theorem dX9_acceptOneOf_46 : decode cX9_acceptOneOf 46 = .ok (.iadd, 1) := by decide +kernel
theorem dX9_acceptOneOf_47 : decode cX9_acceptOneOf 47 = .ok (.putfield 38, 3) := by decide +kernel
theorem dX9_acceptOneOf_50 : decode cX9_acceptOneOf 50 = .ok (.iload_n 2, 1) := by decide +kernel
theorem dX9_acceptOneOf_51 : decode cX9_acceptOneOf 51 = .ok (.ireturn, 1) := by decide +kernel
theorem dX9_addStep_0 : decode cX9_addStep 0 = .ok (.aload_n 0, 1) := by decide +kernel
theorem dX9_addStep_1 : decode cX9_addStep 1 = .ok (.getfield 28, 3) := by decide +kernel
theorem dX9_addStep_4 : decode cX9_addStep 4 = .ok (.bipush 100, 2) := by decide +kernel
theorem dX9_addStep_6 : decode cX9_addStep 6 = .ok (.if_icmp .ge 7, 3) := by decide +kernel
theorem dX9_addStep_9 : decode cX9_addStep 9 = .ok (.iconst 1, 1) := by decide +kernel
theorem dX9_addStep_10 : decode cX9_addStep 10 = .ok (.goto 4, 3) := by decide +kernel
theorem dX9_addStep_13 : decode cX9_addStep 13 = .ok (.iconst 0, 1) := by decide +kernel
theorem dX9_addStep_14 : decode cX9_addStep 14 = .ok (.istore_n 2, 1) := by decide +kernel
theorem dX9_addStep_15 : decode cX9_addStep 15 = .ok (.iload_n 2, 1) := by decide +kernel
theorem dX9_addStep_16 : decode cX9_addStep 16 = .ok (.ifCond .eq 23, 3) := by decide +kernel
theorem dX9_addStep_19 : decode cX9_addStep 19 = .ok (.aload_n 0, 1) := by decide +kernel
theorem dX9_addStep_20 : decode cX9_addStep 20 = .ok (.getfield 25, 3) := by decide +kernel
theorem dX9_addStep_23 : decode cX9_addStep 23 = .ok (.aload_n 0, 1) := by decide +kernel
theorem dX9_addStep_24 : decode cX9_addStep 24 = .ok (.getfield 28, 3) := by decide +kernel
theorem dX9_addStep_27 : decode cX9_addStep 27 = .ok (.iload_n 1, 1) := by decide +kernel
theorem dX9_addStep_28 : decode cX9_addStep 28 = .ok (.iastore, 1) := by decide +kernel
theorem dX9_addStep_29 : decode cX9_addStep 29 = .ok (.aload_n 0, 1) := by decide +kernel
theorem dX9_addStep_30 : decode cX9_addStep 30 = .ok (.dup, 1) := by decide +kernel
theorem dX9_addStep_31 : decode cX9_addStep 31 = .ok (.getfield 28, 3) := by decide +kernel
theorem dX9_addStep_34 : decode cX9_addStep 34 = .ok (.iconst 1, 1) := by decide +kernel
theorem dX9_addStep_35 : decode cX9_addStep 35 = .ok (.iadd, 1) := by decide +kernel
theorem dX9_addStep_36 : decode cX9_addStep 36 = .ok (.putfield 28, 3) := by decide +kernel
theorem dX9_addStep_39 : decode cX9_addStep 39 = .ok (.iload_n 2, 1) := by decide +kernel
theorem dX9_addStep_40 : decode cX9_addStep 40 = .ok (.ireturn, 1) := by decide +kernel
theorem dX9_done_0 : decode cX9_done 0 = .ok (.iload_n 1, 1) := by decide +kernel
theorem dX9_done_1 : decode cX9_done 1 = .ok (.istore_n 3, 1) := by decide +kernel
theorem dX9_done_2 : decode cX9_done 2 = .ok (.iconst 0, 1) := by decide +kernel
theorem dX9_done_3 : decode cX9_done 3 = .ok (.istore 4, 2) := by decide +kernel
theorem dX9_done_5 : decode cX9_done 5 = .ok (.iconst 0, 1) := by decide +kernel
theorem dX9_done_6 : decode cX9_done 6 = .ok (.istore 5, 2) := by decide +kernel
theorem dX9_done_8 : decode cX9_done 8 = .ok (.iload 5, 2) := by decide +kernel
theorem dX9_done_10 : decode cX9_done 10 = .ok (.aload_n 0, 1) := by decide +kernel
theorem dX9_done_11 : decode cX9_done 11 = .ok (.getfield 21, 3) := by decide +kernel
theorem dX9_done_14 : decode cX9_done 14 = .ok (.if_icmp .ge 65, 3) := by decide +kernel
theorem dX9_done_17 : decode cX9_done 17 = .ok (.aload_n 0, 1) := by decide +kernel
theorem dX9_done_18 : decode cX9_done 18 = .ok (.getfield 11, 3) := by decide +kernel
theorem dX9_done_21 : decode cX9_done 21 = .ok (.iload 5, 2) := by decide +kernel
theorem dX9_done_23 : decode cX9_done 23 = .ok (.iaload, 1) := by decide +kernel
theorem dX9_done_24 : decode cX9_done 24 = .ok (.iconst 3, 1) := by decide +kernel
theorem dX9_done_25 : decode cX9_done 25 = .ok (.if_icmp .eq 39, 3) := by decide +kernel
theorem dX9_done_28 : decode cX9_done 28 = .ok (.aload_n 0, 1) := by decide +kernel
theorem dX9_done_29 : decode cX9_done 29 = .ok (.iload 4, 2) := by decide +kernel
theorem dX9_done_31 : decode cX9_done 31 = .ok (.aload_n 0, 1) := by decide +kernel
theorem dX9_done_32 : decode cX9_done 32 = .ok (.getfield 18, 3) := by decide +kernel
theorem dX9_done_35 : decode cX9_done 35 = .ok (.iload 5, 2) := by decide +kernel
theorem dX9_done_37 : decode cX9_done 37 = .ok (.iaload, 1) := by decide +kernel
theorem dX9_done_38 : decode cX9_done 38 = .ok (.aload_n 2, 1) := by decide +kernel
theorem dX9_done_39 : decode cX9_done 39 = .ok (.invokevirtual 98, 3) := by decide +kernel
theorem dX9_done_42 : decode cX9_done 42 = .ok (.ifCond .eq 22, 3) := by decide +kernel
theorem dX9_done_45 : decode cX9_done 45 = .ok (.aload_n 0, 1) := by decide +kernel
theorem dX9_done_46 : decode cX9_done 46 = .ok (.getfield 11, 3) := by decide +kernel
theorem dX9_done_49 : decode cX9_done 49 = .ok (.iload 5, 2) := by decide +kernel
theorem dX9_done_51 : decode cX9_done 51 = .ok (.iaload, 1) := by decide +kernel
theorem dX9_done_52 : decode cX9_done 52 = .ok (.aload_n 0, 1) := by decide +kernel
theorem dX9_done_53 : decode cX9_done 53 = .ok (.getfield 15, 3) := by decide +kernel
theorem dX9_done_56 : decode cX9_done 56 = .ok (.iload 5, 2) := by decide +kernel
theorem dX9_done_58 : decode cX9_done 58 = .ok (.iaload, 1) := by decide +kernel
theorem dX9_done_59 : decode cX9_done 59 = .ok (.iload_n 3, 1) := by decide +kernel
theorem dX9_done_60 : decode cX9_done 60 = .ok (.invokestatic 102, 3) := by decide +kernel
theorem dX9_done_63 : decode cX9_done 63 = .ok (.istore_n 3, 1) := by decide +kernel
theorem dX9_done_64 : decode cX9_done 64 = .ok (.aload_n 0, 1) := by decide +kernel
theorem dX9_done_65 : decode cX9_done 65 = .ok (.getfield 18, 3) := by decide +kernel
theorem dX9_done_68 : decode cX9_done 68 = .ok (.iload 5, 2) := by decide +kernel
theorem dX9_done_70 : decode cX9_done 70 = .ok (.iaload, 1) := by decide +kernel
theorem dX9_done_71 : decode cX9_done 71 = .ok (.istore 4, 2) := by decide +kernel
theorem dX9_done_73 : decode cX9_done 73 = .ok (.iinc 5 1, 3) := by decide +kernel
theorem dX9_done_76 : decode cX9_done 76 = .ok (.goto (-68), 3) := by decide +kernel
theorem dX9_done_79 : decode cX9_done 79 = .ok (.iload_n 3, 1) := by decide +kernel
theorem dX9_done_80 : decode cX9_done 80 = .ok (.ireturn, 1) := by decide +kernel
theorem dX9_moved_0 : decode cX9_moved 0 = .ok (.iconst 1, 1) := by decide +kernel
theorem dX9_moved_1 : decode cX9_moved 1 = .ok (.iload_n 1, 1) := by decide +kernel
theorem dX9_moved_2 : decode cX9_moved 2 = .ok (.bipush 10, 2) := by decide +kernel
theorem dX9_moved_4 : decode cX9_moved 4 = .ok (.irem, 1) := by decide +kernel
theorem dX9_moved_5 : decode cX9_moved 5 = .ok (.ishl, 1) := by decide +kernel
theorem dX9_moved_6 : decode cX9_moved 6 = .ok (.istore_n 3, 1) := by decide +kernel
theorem dX9_moved_7 : decode cX9_moved 7 = .ok (.iload_n 0, 1) := by decide +kernel
theorem dX9_moved_8 : decode cX9_moved 8 = .ok (.ifCond .ne 7, 3) := by decide +kernel
theorem dX9_moved_11 : decode cX9_moved 11 = .ok (.iload_n 2, 1) := by decide +kernel
theorem dX9_moved_12 : decode cX9_moved 12 = .ok (.iload_n 3, 1) := by decide +kernel
theorem dX9_moved_13 : decode cX9_moved 13 = .ok (.ior, 1) := by decide +kernel
theorem dX9_moved_14 : decode cX9_moved 14 = .ok (.ireturn, 1) := by decide +kernel
theorem dX9_moved_15 : decode cX9_moved 15 = .ok (.iload_n 0, 1) := by decide +kernel
theorem dX9_moved_16 : decode cX9_moved 16 = .ok (.iconst 1, 1) := by decide +kernel
theorem dX9_moved_17 : decode cX9_moved 17 = .ok (.if_icmp .ne 11, 3) := by decide +kernel
theorem dX9_moved_20 : decode cX9_moved 20 = .ok (.iload_n 2, 1) := by decide +kernel
theorem dX9_moved_21 : decode cX9_moved 21 = .ok (.iload_n 3, 1) := by decide +kernel
theorem dX9_moved_22 : decode cX9_moved 22 = .ok (.iconst (-1), 1) := by decide +kernel
theorem dX9_moved_23 : decode cX9_moved 23 = .ok (.ixor, 1) := by decide +kernel
theorem dX9_moved_24 : decode cX9_moved 24 = .ok (.iand, 1) := by decide +kernel
theorem dX9_moved_25 : decode cX9_moved 25 = .ok (.goto 8, 3) := by decide +kernel
theorem dX9_moved_28 : decode cX9_moved 28 = .ok (.iload_n 2, 1) := by decide +kernel
theorem dX9_moved_29 : decode cX9_moved 29 = .ok (.iload_n 1, 1) := by decide +kernel
theorem dX9_moved_30 : decode cX9_moved 30 = .ok (.invokestatic 106, 3) := by decide +kernel
theorem dX9_moved_33 : decode cX9_moved 33 = .ok (.ireturn, 1) := by decide +kernel
theorem dX9_holds_0 : decode cX9_holds 0 = .ok (.iconst 0, 1) := by decide +kernel
theorem dX9_holds_1 : decode cX9_holds 1 = .ok (.istore 4, 2) := by decide +kernel
theorem dX9_holds_3 : decode cX9_holds 3 = .ok (.iload_n 1, 1) := by decide +kernel
theorem dX9_holds_4 : decode cX9_holds 4 = .ok (.istore 5, 2) := by decide +kernel
theorem dX9_holds_6 : decode cX9_holds 6 = .ok (.iload 5, 2) := by decide +kernel
theorem dX9_holds_8 : decode cX9_holds 8 = .ok (.iload_n 2, 1) := by decide +kernel
theorem dX9_holds_9 : decode cX9_holds 9 = .ok (.if_icmp .ge 108, 3) := by decide +kernel
theorem dX9_holds_12 : decode cX9_holds 12 = .ok (.aload_n 0, 1) := by decide +kernel
theorem dX9_holds_13 : decode cX9_holds 13 = .ok (.getfield 25, 3) := by decide +kernel
theorem dX9_holds_16 : decode cX9_holds 16 = .ok (.iload 5, 2) := by decide +kernel
theorem dX9_holds_18 : decode cX9_holds 18 = .ok (.iaload, 1) := by decide +kernel
theorem dX9_holds_19 : decode cX9_holds 19 = .ok (.istore 6, 2) := by decide +kernel
theorem dX9_holds_21 : decode cX9_holds 21 = .ok (.iload 4, 2) := by decide +kernel
theorem dX9_holds_23 : decode cX9_holds 23 = .ok (.iconst 1, 1) := by decide +kernel
theorem dX9_holds_24 : decode cX9_holds 24 = .ok (.iand, 1) := by decide +kernel
theorem dX9_holds_25 : decode cX9_holds 25 = .ok (.istore 7, 2) := by decide +kernel
theorem dX9_holds_27 : decode cX9_holds 27 = .ok (.iload 6, 2) := by decide +kernel
theorem dX9_holds_29 : decode cX9_holds 29 = .ok (.iconst (-1), 1) := by decide +kernel
theorem dX9_holds_30 : decode cX9_holds 30 = .ok (.if_icmp .ne 12, 3) := by decide +kernel
theorem dX9_holds_33 : decode cX9_holds 33 = .ok (.iload 4, 2) := by decide +kernel
theorem dX9_holds_35 : decode cX9_holds 35 = .ok (.iconst 1, 1) := by decide +kernel
theorem dX9_holds_36 : decode cX9_holds 36 = .ok (.ixor, 1) := by decide +kernel
theorem dX9_holds_37 : decode cX9_holds 37 = .ok (.istore 4, 2) := by decide +kernel
theorem dX9_holds_39 : decode cX9_holds 39 = .ok (.goto 72, 3) := by decide +kernel
theorem dX9_holds_42 : decode cX9_holds 42 = .ok (.iload 6, 2) := by decide +kernel
theorem dX9_holds_44 : decode cX9_holds 44 = .ok (.bipush (-2), 2) := by decide +kernel
theorem dX9_holds_46 : decode cX9_holds 46 = .ok (.if_icmp .ne 25, 3) := by decide +kernel
theorem dX9_holds_49 : decode cX9_holds 49 = .ok (.iload 4, 2) := by decide +kernel
theorem dX9_holds_51 : decode cX9_holds 51 = .ok (.iconst 1, 1) := by decide +kernel
theorem dX9_holds_52 : decode cX9_holds 52 = .ok (.ishr, 1) := by decide +kernel
theorem dX9_holds_53 : decode cX9_holds 53 = .ok (.iload 7, 2) := by decide +kernel
theorem dX9_holds_55 : decode cX9_holds 55 = .ok (.iconst 1, 1) := by decide +kernel
theorem dX9_holds_56 : decode cX9_holds 56 = .ok (.if_icmp .ne 7, 3) := by decide +kernel
theorem dX9_holds_59 : decode cX9_holds 59 = .ok (.iconst (-1), 1) := by decide +kernel
theorem dX9_holds_60 : decode cX9_holds 60 = .ok (.goto 5, 3) := by decide +kernel
theorem dX9_holds_63 : decode cX9_holds 63 = .ok (.bipush (-2), 2) := by decide +kernel
theorem dX9_holds_65 : decode cX9_holds 65 = .ok (.iand, 1) := by decide +kernel
theorem dX9_holds_66 : decode cX9_holds 66 = .ok (.istore 4, 2) := by decide +kernel
theorem dX9_holds_68 : decode cX9_holds 68 = .ok (.goto 43, 3) := by decide +kernel
theorem dX9_holds_71 : decode cX9_holds 71 = .ok (.iload 6, 2) := by decide +kernel
theorem dX9_holds_73 : decode cX9_holds 73 = .ok (.bipush (-3), 2) := by decide +kernel
theorem dX9_holds_75 : decode cX9_holds 75 = .ok (.if_icmp .ne 15, 3) := by decide +kernel
theorem dX9_holds_78 : decode cX9_holds 78 = .ok (.iload 4, 2) := by decide +kernel
theorem dX9_holds_80 : decode cX9_holds 80 = .ok (.iconst 1, 1) := by decide +kernel
theorem dX9_holds_81 : decode cX9_holds 81 = .ok (.ishr, 1) := by decide +kernel
theorem dX9_holds_82 : decode cX9_holds 82 = .ok (.iload 7, 2) := by decide +kernel
theorem dX9_holds_84 : decode cX9_holds 84 = .ok (.ior, 1) := by decide +kernel
theorem dX9_holds_85 : decode cX9_holds 85 = .ok (.istore 4, 2) := by decide +kernel
theorem dX9_holds_87 : decode cX9_holds 87 = .ok (.goto 24, 3) := by decide +kernel
theorem dX9_holds_90 : decode cX9_holds 90 = .ok (.iload 4, 2) := by decide +kernel
theorem dX9_holds_92 : decode cX9_holds 92 = .ok (.iconst 1, 1) := by decide +kernel
theorem dX9_holds_93 : decode cX9_holds 93 = .ok (.ishl, 1) := by decide +kernel
theorem dX9_holds_94 : decode cX9_holds 94 = .ok (.iload 6, 2) := by decide +kernel
theorem dX9_holds_96 : decode cX9_holds 96 = .ok (.aload_n 3, 1) := by decide +kernel
theorem dX9_holds_97 : decode cX9_holds 97 = .ok (.invokestatic 110, 3) := by decide +kernel
theorem dX9_holds_100 : decode cX9_holds 100 = .ok (.ifCond .eq 7, 3) := by decide +kernel
theorem dX9_holds_103 : decode cX9_holds 103 = .ok (.iconst 1, 1) := by decide +kernel
theorem dX9_holds_104 : decode cX9_holds 104 = .ok (.goto 4, 3) := by decide +kernel
theorem dX9_holds_107 : decode cX9_holds 107 = .ok (.iconst 0, 1) := by decide +kernel
theorem dX9_holds_108 : decode cX9_holds 108 = .ok (.ior, 1) := by decide +kernel
theorem dX9_holds_109 : decode cX9_holds 109 = .ok (.istore 4, 2) := by decide +kernel
theorem dX9_holds_111 : decode cX9_holds 111 = .ok (.iinc 5 1, 3) := by decide +kernel
theorem dX9_holds_114 : decode cX9_holds 114 = .ok (.goto (-108), 3) := by decide +kernel
theorem dX9_holds_117 : decode cX9_holds 117 = .ok (.iload 4, 2) := by decide +kernel
theorem dX9_holds_119 : decode cX9_holds 119 = .ok (.iconst 1, 1) := by decide +kernel
theorem dX9_holds_120 : decode cX9_holds 120 = .ok (.iand, 1) := by decide +kernel
theorem dX9_holds_121 : decode cX9_holds 121 = .ok (.iconst 1, 1) := by decide +kernel
theorem dX9_holds_122 : decode cX9_holds 122 = .ok (.if_icmp .ne 7, 3) := by decide +kernel
theorem dX9_holds_125 : decode cX9_holds 125 = .ok (.iconst 1, 1) := by decide +kernel
theorem dX9_holds_126 : decode cX9_holds 126 = .ok (.goto 4, 3) := by decide +kernel
theorem dX9_holds_129 : decode cX9_holds 129 = .ok (.iconst 0, 1) := by decide +kernel
theorem dX9_holds_130 : decode cX9_holds 130 = .ok (.ireturn, 1) := by decide +kernel
theorem dX9_isSo_0 : decode cX9_isSo 0 = .ok (.iload_n 0, 1) := by decide +kernel
theorem dX9_isSo_1 : decode cX9_isSo 1 = .ok (.sipush 300, 3) := by decide +kernel
theorem dX9_isSo_4 : decode cX9_isSo 4 = .ok (.idiv, 1) := by decide +kernel
theorem dX9_isSo_5 : decode cX9_isSo 5 = .ok (.istore_n 2, 1) := by decide +kernel
theorem dX9_isSo_6 : decode cX9_isSo 6 = .ok (.iload_n 2, 1) := by decide +kernel
theorem dX9_isSo_7 : decode cX9_isSo 7 = .ok (.ifCond .lt 9, 3) := by decide +kernel
theorem dX9_isSo_10 : decode cX9_isSo 10 = .ok (.iload_n 2, 1) := by decide +kernel
theorem dX9_isSo_11 : decode cX9_isSo 11 = .ok (.aload_n 1, 1) := by decide +kernel
theorem dX9_isSo_12 : decode cX9_isSo 12 = .ok (.arraylength, 1) := by decide +kernel
theorem dX9_isSo_13 : decode cX9_isSo 13 = .ok (.if_icmp .lt 5, 3) := by decide +kernel
theorem dX9_isSo_16 : decode cX9_isSo 16 = .ok (.iconst 0, 1) := by decide +kernel
theorem dX9_isSo_17 : decode cX9_isSo 17 = .ok (.ireturn, 1) := by decide +kernel
theorem dX9_isSo_18 : decode cX9_isSo 18 = .ok (.aload_n 1, 1) := by decide +kernel
theorem dX9_isSo_19 : decode cX9_isSo 19 = .ok (.iload_n 2, 1) := by decide +kernel
theorem dX9_isSo_20 : decode cX9_isSo 20 = .ok (.iaload, 1) := by decide +kernel
theorem dX9_isSo_21 : decode cX9_isSo 21 = .ok (.istore_n 3, 1) := by decide +kernel
theorem dX9_isSo_22 : decode cX9_isSo 22 = .ok (.iload_n 0, 1) := by decide +kernel
theorem dX9_isSo_23 : decode cX9_isSo 23 = .ok (.bipush 100, 2) := by decide +kernel
theorem dX9_isSo_25 : decode cX9_isSo 25 = .ok (.irem, 1) := by decide +kernel
theorem dX9_isSo_26 : decode cX9_isSo 26 = .ok (.istore 4, 2) := by decide +kernel
theorem dX9_isSo_28 : decode cX9_isSo 28 = .ok (.iload_n 0, 1) := by decide +kernel
theorem dX9_isSo_29 : decode cX9_isSo 29 = .ok (.bipush 100, 2) := by decide +kernel
theorem dX9_isSo_31 : decode cX9_isSo 31 = .ok (.idiv, 1) := by decide +kernel
theorem dX9_isSo_32 : decode cX9_isSo 32 = .ok (.iconst 3, 1) := by decide +kernel
theorem dX9_isSo_33 : decode cX9_isSo 33 = .ok (.irem, 1) := by decide +kernel
theorem dX9_isSo_34 : decode cX9_isSo 34 = .ok (.lookupswitch 50 #[(0, 26), (1, 38)], 26) := by decide +kernel
theorem dX9_isSo_60 : decode cX9_isSo 60 = .ok (.iload_n 3, 1) := by decide +kernel
theorem dX9_isSo_61 : decode cX9_isSo 61 = .ok (.iload 4, 2) := by decide +kernel
theorem dX9_isSo_63 : decode cX9_isSo 63 = .ok (.if_icmp .ge 7, 3) := by decide +kernel
theorem dX9_isSo_66 : decode cX9_isSo 66 = .ok (.iconst 1, 1) := by decide +kernel
theorem dX9_isSo_67 : decode cX9_isSo 67 = .ok (.goto 4, 3) := by decide +kernel
theorem dX9_isSo_70 : decode cX9_isSo 70 = .ok (.iconst 0, 1) := by decide +kernel
theorem dX9_isSo_71 : decode cX9_isSo 71 = .ok (.ireturn, 1) := by decide +kernel
theorem dX9_isSo_72 : decode cX9_isSo 72 = .ok (.iload_n 3, 1) := by decide +kernel
theorem dX9_isSo_73 : decode cX9_isSo 73 = .ok (.iload 4, 2) := by decide +kernel
theorem dX9_isSo_75 : decode cX9_isSo 75 = .ok (.if_icmp .ne 7, 3) := by decide +kernel
theorem dX9_isSo_78 : decode cX9_isSo 78 = .ok (.iconst 1, 1) := by decide +kernel
theorem dX9_isSo_79 : decode cX9_isSo 79 = .ok (.goto 4, 3) := by decide +kernel
theorem dX9_isSo_82 : decode cX9_isSo 82 = .ok (.iconst 0, 1) := by decide +kernel
theorem dX9_isSo_83 : decode cX9_isSo 83 = .ok (.ireturn, 1) := by decide +kernel
theorem dX9_isSo_84 : decode cX9_isSo 84 = .ok (.iload_n 3, 1) := by decide +kernel
theorem dX9_isSo_85 : decode cX9_isSo 85 = .ok (.iload 4, 2) := by decide +kernel
theorem dX9_isSo_87 : decode cX9_isSo 87 = .ok (.if_icmp .le 7, 3) := by decide +kernel
theorem dX9_isSo_90 : decode cX9_isSo 90 = .ok (.iconst 1, 1) := by decide +kernel
theorem dX9_isSo_91 : decode cX9_isSo 91 = .ok (.goto 4, 3) := by decide +kernel
theorem dX9_isSo_94 : decode cX9_isSo 94 = .ok (.iconst 0, 1) := by decide +kernel
theorem dX9_isSo_95 : decode cX9_isSo 95 = .ok (.ireturn, 1) := by decide +kernel
theorem dX10_init_0 : decode cX10_init 0 = .ok (.aload_n 0, 1) := by decide +kernel
theorem dX10_init_1 : decode cX10_init 1 = .ok (.iload_n 1, 1) := by decide +kernel
theorem dX10_init_2 : decode cX10_init 2 = .ok (.iload_n 2, 1) := by decide +kernel
theorem dX10_init_3 : decode cX10_init 3 = .ok (.iload_n 3, 1) := by decide +kernel
theorem dX10_init_4 : decode cX10_init 4 = .ok (.invokespecial 1, 3) := by decide +kernel
theorem dX10_init_7 : decode cX10_init 7 = .ok (.return_, 1) := by decide +kernel
theorem dX10_showing_0 : decode cX10_showing 0 = .ok (.iload_n 3, 1) := by decide +kernel
theorem dX10_showing_1 : decode cX10_showing 1 = .ok (.iconst 2, 1) := by decide +kernel
theorem dX10_showing_2 : decode cX10_showing 2 = .ok (.irem, 1) := by decide +kernel
theorem dX10_showing_3 : decode cX10_showing 3 = .ok (.ifCond .ne 15, 3) := by decide +kernel
theorem dX10_showing_6 : decode cX10_showing 6 = .ok (.aload_n 0, 1) := by decide +kernel
theorem dX10_showing_7 : decode cX10_showing 7 = .ok (.iload_n 1, 1) := by decide +kernel
theorem dX10_showing_8 : decode cX10_showing 8 = .ok (.iload_n 2, 1) := by decide +kernel
theorem dX10_showing_9 : decode cX10_showing 9 = .ok (.iload_n 3, 1) := by decide +kernel
theorem dX10_showing_10 : decode cX10_showing 10 = .ok (.iload 4, 2) := by decide +kernel
theorem dX10_showing_12 : decode cX10_showing 12 = .ok (.invokespecial 7, 3) := by decide +kernel
theorem dX10_showing_15 : decode cX10_showing 15 = .ok (.goto 4, 3) := by decide +kernel
theorem dX10_showing_18 : decode cX10_showing 18 = .ok (.iload_n 1, 1) := by decide +kernel
theorem dX10_showing_19 : decode cX10_showing 19 = .ok (.ireturn, 1) := by decide +kernel
theorem dX10_tells_0 : decode cX10_tells 0 = .ok (.aload_n 2, 1) := by decide +kernel
theorem dX10_tells_1 : decode cX10_tells 1 = .ok (.bipush 60, 2) := by decide +kernel
theorem dX10_tells_3 : decode cX10_tells 3 = .ok (.invokevirtual 11, 3) := by decide +kernel
theorem dX10_tells_6 : decode cX10_tells 6 = .ok (.pop, 1) := by decide +kernel
theorem dX10_tells_7 : decode cX10_tells 7 = .ok (.aload_n 0, 1) := by decide +kernel
theorem dX10_tells_8 : decode cX10_tells 8 = .ok (.iload_n 1, 1) := by decide +kernel
theorem dX10_tells_9 : decode cX10_tells 9 = .ok (.aload_n 0, 1) := by decide +kernel
theorem dX10_tells_10 : decode cX10_tells 10 = .ok (.getfield 17, 3) := by decide +kernel
theorem dX10_tells_13 : decode cX10_tells 13 = .ok (.isub, 1) := by decide +kernel
theorem dX10_tells_14 : decode cX10_tells 14 = .ok (.aload_n 2, 1) := by decide +kernel
theorem dX10_tells_15 : decode cX10_tells 15 = .ok (.invokespecial 23, 3) := by decide +kernel
theorem dX10_tells_18 : decode cX10_tells 18 = .ok (.ireturn, 1) := by decide +kernel
theorem dX11_init_0 : decode cX11_init 0 = .ok (.aload_n 0, 1) := by decide +kernel
theorem dX11_init_1 : decode cX11_init 1 = .ok (.invokespecial 5, 3) := by decide +kernel
theorem dX11_init_4 : decode cX11_init 4 = .ok (.aload_n 0, 1) := by decide +kernel
theorem dX11_init_5 : decode cX11_init 5 = .ok (.new 11, 3) := by decide +kernel
theorem dX11_init_8 : decode cX11_init 8 = .ok (.dup, 1) := by decide +kernel
theorem dX11_init_9 : decode cX11_init 9 = .ok (.invokespecial 13, 3) := by decide +kernel
theorem dX11_init_12 : decode cX11_init 12 = .ok (.putfield 14, 3) := by decide +kernel
theorem dX11_init_15 : decode cX11_init 15 = .ok (.aload_n 0, 1) := by decide +kernel
theorem dX11_init_16 : decode cX11_init 16 = .ok (.new 11, 3) := by decide +kernel
theorem dX11_init_19 : decode cX11_init 19 = .ok (.dup, 1) := by decide +kernel
theorem dX11_init_20 : decode cX11_init 20 = .ok (.invokespecial 13, 3) := by decide +kernel
theorem dX11_init_23 : decode cX11_init 23 = .ok (.putfield 18, 3) := by decide +kernel
theorem dX11_init_26 : decode cX11_init 26 = .ok (.aload_n 0, 1) := by decide +kernel
theorem dX11_init_27 : decode cX11_init 27 = .ok (.iconst 0, 1) := by decide +kernel
theorem dX11_init_28 : decode cX11_init 28 = .ok (.putfield 21, 3) := by decide +kernel
theorem dX11_init_31 : decode cX11_init 31 = .ok (.aload_n 0, 1) := by decide +kernel
theorem dX11_init_32 : decode cX11_init 32 = .ok (.new 25, 3) := by decide +kernel
theorem dX11_init_35 : decode cX11_init 35 = .ok (.dup, 1) := by decide +kernel
theorem dX11_init_36 : decode cX11_init 36 = .ok (.bipush 100, 2) := by decide +kernel
theorem dX11_init_38 : decode cX11_init 38 = .ok (.invokespecial 29, 3) := by decide +kernel
theorem dX11_init_41 : decode cX11_init 41 = .ok (.putfield 32, 3) := by decide +kernel
theorem dX11_init_44 : decode cX11_init 44 = .ok (.aload_n 0, 1) := by decide +kernel
theorem dX11_init_45 : decode cX11_init 45 = .ok (.new 27, 3) := by decide +kernel
theorem dX11_init_48 : decode cX11_init 48 = .ok (.dup, 1) := by decide +kernel
theorem dX11_init_49 : decode cX11_init 49 = .ok (.invokespecial 36, 3) := by decide +kernel
theorem dX11_init_52 : decode cX11_init 52 = .ok (.putfield 37, 3) := by decide +kernel
theorem dX11_init_55 : decode cX11_init 55 = .ok (.aload_n 0, 1) := by decide +kernel
theorem dX11_init_56 : decode cX11_init 56 = .ok (.iconst 0, 1) := by decide +kernel
theorem dX11_init_57 : decode cX11_init 57 = .ok (.putfield 41, 3) := by decide +kernel
theorem dX11_init_60 : decode cX11_init 60 = .ok (.aload_n 0, 1) := by decide +kernel
theorem dX11_init_61 : decode cX11_init 61 = .ok (.bipush 6, 2) := by decide +kernel
theorem dX11_init_63 : decode cX11_init 63 = .ok (.anewarray 45, 3) := by decide +kernel
theorem dX11_init_66 : decode cX11_init 66 = .ok (.putfield 47, 3) := by decide +kernel
theorem dX11_init_69 : decode cX11_init 69 = .ok (.aload_n 0, 1) := by decide +kernel
theorem dX11_init_70 : decode cX11_init 70 = .ok (.new 51, 3) := by decide +kernel
theorem dX11_init_73 : decode cX11_init 73 = .ok (.dup, 1) := by decide +kernel
theorem dX11_init_74 : decode cX11_init 74 = .ok (.invokespecial 53, 3) := by decide +kernel
theorem dX11_init_77 : decode cX11_init 77 = .ok (.putfield 54, 3) := by decide +kernel
theorem dX11_init_80 : decode cX11_init 80 = .ok (.aload_n 0, 1) := by decide +kernel
theorem dX11_init_81 : decode cX11_init 81 = .ok (.bipush 6, 2) := by decide +kernel
theorem dX11_init_83 : decode cX11_init 83 = .ok (.newarray .int, 2) := by decide +kernel
theorem dX11_init_85 : decode cX11_init 85 = .ok (.putfield 58, 3) := by decide +kernel
theorem dX11_init_88 : decode cX11_init 88 = .ok (.aload_n 0, 1) := by decide +kernel
theorem dX11_init_89 : decode cX11_init 89 = .ok (.bipush 16, 2) := by decide +kernel
theorem dX11_init_91 : decode cX11_init 91 = .ok (.newarray .long, 2) := by decide +kernel
theorem dX11_init_93 : decode cX11_init 93 = .ok (.putfield 62, 3) := by decide +kernel
theorem dX11_init_96 : decode cX11_init 96 = .ok (.aload_n 0, 1) := by decide +kernel
theorem dX11_init_97 : decode cX11_init 97 = .ok (.iconst 5, 1) := by decide +kernel
theorem dX11_init_98 : decode cX11_init 98 = .ok (.newarray .int, 2) := by decide +kernel
theorem dX11_init_100 : decode cX11_init 100 = .ok (.putfield 66, 3) := by decide +kernel
theorem dX11_init_103 : decode cX11_init 103 = .ok (.aload_n 0, 1) := by decide +kernel
theorem dX11_init_104 : decode cX11_init 104 = .ok (.iconst 5, 1) := by decide +kernel
theorem dX11_init_105 : decode cX11_init 105 = .ok (.newarray .int, 2) := by decide +kernel
theorem dX11_init_107 : decode cX11_init 107 = .ok (.putfield 69, 3) := by decide +kernel
theorem dX11_init_110 : decode cX11_init 110 = .ok (.iconst 0, 1) := by decide +kernel
theorem dX11_init_111 : decode cX11_init 111 = .ok (.istore_n 1, 1) := by decide +kernel
theorem dX11_init_112 : decode cX11_init 112 = .ok (.iload_n 1, 1) := by decide +kernel
theorem dX11_init_113 : decode cX11_init 113 = .ok (.bipush 6, 2) := by decide +kernel
theorem dX11_init_115 : decode cX11_init 115 = .ok (.if_icmp .ge 22, 3) := by decide +kernel
theorem dX11_init_118 : decode cX11_init 118 = .ok (.aload_n 0, 1) := by decide +kernel
theorem dX11_init_119 : decode cX11_init 119 = .ok (.getfield 47, 3) := by decide +kernel
theorem dX11_init_122 : decode cX11_init 122 = .ok (.iload_n 1, 1) := by decide +kernel
theorem dX11_init_123 : decode cX11_init 123 = .ok (.new 45, 3) := by decide +kernel
theorem dX11_init_126 : decode cX11_init 126 = .ok (.dup, 1) := by decide +kernel
theorem dX11_init_127 : decode cX11_init 127 = .ok (.invokespecial 72, 3) := by decide +kernel
theorem dX11_init_130 : decode cX11_init 130 = .ok (.aastore, 1) := by decide +kernel
theorem dX11_init_131 : decode cX11_init 131 = .ok (.iinc 1 1, 3) := by decide +kernel
theorem dX11_init_134 : decode cX11_init 134 = .ok (.goto (-22), 3) := by decide +kernel
theorem dX11_init_137 : decode cX11_init 137 = .ok (.return_, 1) := by decide +kernel
theorem dX11_word_0 : decode cX11_word 0 = .ok (.iload_n 1, 1) := by decide +kernel
theorem dX11_word_1 : decode cX11_word 1 = .ok (.invokestatic 73, 3) := by decide +kernel
theorem dX11_word_4 : decode cX11_word 4 = .ok (.ifCond .ne 6, 3) := by decide +kernel
theorem dX11_word_7 : decode cX11_word 7 = .ok (.bipush (-2), 2) := by decide +kernel
theorem dX11_word_9 : decode cX11_word 9 = .ok (.ireturn, 1) := by decide +kernel
theorem dX11_word_10 : decode cX11_word 10 = .ok (.aload_n 0, 1) := by decide +kernel
theorem dX11_word_11 : decode cX11_word 11 = .ok (.getfield 14, 3) := by decide +kernel
theorem dX11_word_14 : decode cX11_word 14 = .ok (.getfield 77, 3) := by decide +kernel
theorem dX11_word_17 : decode cX11_word 17 = .ok (.invokevirtual 80, 3) := by decide +kernel
theorem dX11_word_20 : decode cX11_word 20 = .ok (.ifCond .eq 6, 3) := by decide +kernel
theorem dX11_word_23 : decode cX11_word 23 = .ok (.bipush (-4), 2) := by decide +kernel
theorem dX11_word_25 : decode cX11_word 25 = .ok (.ireturn, 1) := by decide +kernel
theorem dX11_word_26 : decode cX11_word 26 = .ok (.aload_n 0, 1) := by decide +kernel
theorem dX11_word_27 : decode cX11_word 27 = .ok (.getfield 14, 3) := by decide +kernel
theorem dX11_word_30 : decode cX11_word 30 = .ok (.getfield 77, 3) := by decide +kernel
theorem dX11_word_33 : decode cX11_word 33 = .ok (.iload_n 1, 1) := by decide +kernel
theorem dX11_word_34 : decode cX11_word 34 = .ok (.invokevirtual 84, 3) := by decide +kernel
theorem dX11_word_37 : decode cX11_word 37 = .ok (.iconst 1, 1) := by decide +kernel
theorem dX11_word_38 : decode cX11_word 38 = .ok (.isub, 1) := by decide +kernel
theorem dX11_word_39 : decode cX11_word 39 = .ok (.ireturn, 1) := by decide +kernel
theorem dX11_alter_0 : decode cX11_alter 0 = .ok (.aload_n 0, 1) := by decide +kernel
theorem dX11_alter_1 : decode cX11_alter 1 = .ok (.iload_n 1, 1) := by decide +kernel
theorem dX11_alter_2 : decode cX11_alter 2 = .ok (.invokevirtual 88, 3) := by decide +kernel
theorem dX11_alter_5 : decode cX11_alter 5 = .ok (.ifCond .ne 5, 3) := by decide +kernel
theorem dX11_alter_8 : decode cX11_alter 8 = .ok (.iconst (-1), 1) := by decide +kernel
theorem dX11_alter_9 : decode cX11_alter 9 = .ok (.ireturn, 1) := by decide +kernel
theorem dX11_alter_10 : decode cX11_alter 10 = .ok (.iload_n 2, 1) := by decide +kernel
theorem dX11_alter_11 : decode cX11_alter 11 = .ok (.invokestatic 73, 3) := by decide +kernel
theorem dX11_alter_14 : decode cX11_alter 14 = .ok (.ifCond .ne 6, 3) := by decide +kernel
theorem dX11_alter_17 : decode cX11_alter 17 = .ok (.bipush (-2), 2) := by decide +kernel
theorem dX11_alter_19 : decode cX11_alter 19 = .ok (.ireturn, 1) := by decide +kernel
theorem dX11_alter_20 : decode cX11_alter 20 = .ok (.aload_n 0, 1) := by decide +kernel
theorem dX11_alter_21 : decode cX11_alter 21 = .ok (.getfield 14, 3) := by decide +kernel
theorem dX11_alter_24 : decode cX11_alter 24 = .ok (.getfield 77, 3) := by decide +kernel
theorem dX11_alter_27 : decode cX11_alter 27 = .ok (.iload_n 1, 1) := by decide +kernel
theorem dX11_alter_28 : decode cX11_alter 28 = .ok (.invokevirtual 91, 3) := by decide +kernel
theorem dX11_alter_31 : decode cX11_alter 31 = .ok (.istore_n 3, 1) := by decide +kernel
theorem dX11_alter_32 : decode cX11_alter 32 = .ok (.aload_n 0, 1) := by decide +kernel
theorem dX11_alter_33 : decode cX11_alter 33 = .ok (.getfield 14, 3) := by decide +kernel
theorem dX11_alter_36 : decode cX11_alter 36 = .ok (.getfield 77, 3) := by decide +kernel
theorem dX11_alter_39 : decode cX11_alter 39 = .ok (.iload_n 1, 1) := by decide +kernel
theorem dX11_alter_40 : decode cX11_alter 40 = .ok (.iload_n 2, 1) := by decide +kernel
theorem dX11_alter_41 : decode cX11_alter 41 = .ok (.invokevirtual 94, 3) := by decide +kernel
theorem dX11_alter_44 : decode cX11_alter 44 = .ok (.iload_n 3, 1) := by decide +kernel
theorem dX11_alter_45 : decode cX11_alter 45 = .ok (.ireturn, 1) := by decide +kernel
theorem dX11_sender_0 : decode cX11_sender 0 = .ok (.iload_n 1, 1) := by decide +kernel
theorem dX11_sender_1 : decode cX11_sender 1 = .ok (.ifCond .lt 9, 3) := by decide +kernel
theorem dX11_sender_4 : decode cX11_sender 4 = .ok (.iload_n 1, 1) := by decide +kernel
theorem dX11_sender_5 : decode cX11_sender 5 = .ok (.bipush 7, 2) := by decide +kernel
theorem dX11_sender_7 : decode cX11_sender 7 = .ok (.if_icmp .lt 5, 3) := by decide +kernel
theorem dX11_sender_10 : decode cX11_sender 10 = .ok (.iconst (-1), 1) := by decide +kernel
theorem dX11_sender_11 : decode cX11_sender 11 = .ok (.ireturn, 1) := by decide +kernel
theorem dX11_sender_12 : decode cX11_sender 12 = .ok (.iload_n 2, 1) := by decide +kernel
theorem dX11_sender_13 : decode cX11_sender 13 = .ok (.invokestatic 98, 3) := by decide +kernel
theorem dX11_sender_16 : decode cX11_sender 16 = .ok (.ifCond .ne 6, 3) := by decide +kernel
theorem dX11_sender_19 : decode cX11_sender 19 = .ok (.bipush (-2), 2) := by decide +kernel
theorem dX11_sender_21 : decode cX11_sender 21 = .ok (.ireturn, 1) := by decide +kernel
theorem dX11_sender_22 : decode cX11_sender 22 = .ok (.aload_n 0, 1) := by decide +kernel
theorem dX11_sender_23 : decode cX11_sender 23 = .ok (.getfield 14, 3) := by decide +kernel
theorem dX11_sender_26 : decode cX11_sender 26 = .ok (.getfield 101, 3) := by decide +kernel
theorem dX11_sender_29 : decode cX11_sender 29 = .ok (.iconst 5, 1) := by decide +kernel
theorem dX11_sender_30 : decode cX11_sender 30 = .ok (.if_icmp .lt 6, 3) := by decide +kernel
theorem dX11_sender_33 : decode cX11_sender 33 = .ok (.bipush (-4), 2) := by decide +kernel
theorem dX11_sender_35 : decode cX11_sender 35 = .ok (.ireturn, 1) := by decide +kernel
theorem dX11_sender_36 : decode cX11_sender 36 = .ok (.aload_n 0, 1) := by decide +kernel
theorem dX11_sender_37 : decode cX11_sender 37 = .ok (.getfield 14, 3) := by decide +kernel
theorem dX11_sender_40 : decode cX11_sender 40 = .ok (.aload_n 0, 1) := by decide +kernel
theorem dX11_sender_41 : decode cX11_sender 41 = .ok (.getfield 14, 3) := by decide +kernel
theorem dX11_sender_44 : decode cX11_sender 44 = .ok (.getfield 101, 3) := by decide +kernel
theorem dX11_sender_47 : decode cX11_sender 47 = .ok (.iload_n 1, 1) := by decide +kernel
theorem dX11_sender_48 : decode cX11_sender 48 = .ok (.iload_n 2, 1) := by decide +kernel
theorem dX11_sender_49 : decode cX11_sender 49 = .ok (.invokestatic 104, 3) := by decide +kernel
theorem dX11_sender_52 : decode cX11_sender 52 = .ok (.invokevirtual 108, 3) := by decide +kernel
theorem dX11_sender_55 : decode cX11_sender 55 = .ok (.ireturn, 1) := by decide +kernel
theorem dX11_of_0 : decode cX11_of 0 = .ok (.aload_n 0, 1) := by decide +kernel
theorem dX11_of_1 : decode cX11_of 1 = .ok (.iload_n 1, 1) := by decide +kernel
theorem dX11_of_2 : decode cX11_of 2 = .ok (.invokevirtual 112, 3) := by decide +kernel
theorem dX11_of_5 : decode cX11_of 5 = .ok (.ifCond .ne 5, 3) := by decide +kernel
theorem dX11_of_8 : decode cX11_of 8 = .ok (.iconst (-1), 1) := by decide +kernel
theorem dX11_of_9 : decode cX11_of 9 = .ok (.ireturn, 1) := by decide +kernel
theorem dX11_of_10 : decode cX11_of 10 = .ok (.iload_n 2, 1) := by decide +kernel
theorem dX11_of_11 : decode cX11_of 11 = .ok (.tableswitch 81 0 4 #[33, 46, 59, 69, 75], 33) := by decide +kernel
theorem dX11_of_44 : decode cX11_of 44 = .ok (.aload_n 0, 1) := by decide +kernel
theorem dX11_of_45 : decode cX11_of 45 = .ok (.getfield 14, 3) := by decide +kernel
theorem dX11_of_48 : decode cX11_of 48 = .ok (.getfield 115, 3) := by decide +kernel
theorem dX11_of_51 : decode cX11_of 51 = .ok (.iload_n 1, 1) := by decide +kernel
theorem dX11_of_52 : decode cX11_of 52 = .ok (.aaload, 1) := by decide +kernel
theorem dX11_of_53 : decode cX11_of 53 = .ok (.getfield 119, 3) := by decide +kernel
theorem dX11_of_56 : decode cX11_of 56 = .ok (.ireturn, 1) := by decide +kernel
theorem dX11_of_57 : decode cX11_of 57 = .ok (.aload_n 0, 1) := by decide +kernel
theorem dX11_of_58 : decode cX11_of 58 = .ok (.getfield 14, 3) := by decide +kernel
theorem dX11_of_61 : decode cX11_of 61 = .ok (.getfield 115, 3) := by decide +kernel
theorem dX11_of_64 : decode cX11_of 64 = .ok (.iload_n 1, 1) := by decide +kernel
theorem dX11_of_65 : decode cX11_of 65 = .ok (.aaload, 1) := by decide +kernel
theorem dX11_of_66 : decode cX11_of 66 = .ok (.getfield 124, 3) := by decide +kernel
theorem dX11_of_69 : decode cX11_of 69 = .ok (.ireturn, 1) := by decide +kernel
theorem dX11_of_70 : decode cX11_of 70 = .ok (.aload_n 0, 1) := by decide +kernel
theorem dX11_of_71 : decode cX11_of 71 = .ok (.getfield 14, 3) := by decide +kernel
theorem dX11_of_74 : decode cX11_of 74 = .ok (.getfield 127, 3) := by decide +kernel
theorem dX11_of_77 : decode cX11_of 77 = .ok (.iload_n 1, 1) := by decide +kernel
theorem dX11_of_78 : decode cX11_of 78 = .ok (.iaload, 1) := by decide +kernel
theorem dX11_of_79 : decode cX11_of 79 = .ok (.ireturn, 1) := by decide +kernel
theorem dX11_of_80 : decode cX11_of 80 = .ok (.aload_n 0, 1) := by decide +kernel
theorem dX11_of_81 : decode cX11_of 81 = .ok (.iload_n 1, 1) := by decide +kernel
theorem dX11_of_82 : decode cX11_of 82 = .ok (.invokevirtual 130, 3) := by decide +kernel
theorem dX11_of_85 : decode cX11_of 85 = .ok (.ireturn, 1) := by decide +kernel
theorem dX11_of_86 : decode cX11_of 86 = .ok (.aload_n 0, 1) := by decide +kernel
theorem dX11_of_87 : decode cX11_of 87 = .ok (.iload_n 1, 1) := by decide +kernel
theorem dX11_of_88 : decode cX11_of 88 = .ok (.invokevirtual 133, 3) := by decide +kernel
theorem dX11_of_91 : decode cX11_of 91 = .ok (.ireturn, 1) := by decide +kernel
theorem dX11_of_92 : decode cX11_of 92 = .ok (.iconst (-1), 1) := by decide +kernel
theorem dX11_of_93 : decode cX11_of 93 = .ok (.ireturn, 1) := by decide +kernel
theorem dX11_shows_0 : decode cX11_shows 0 = .ok (.aload_n 0, 1) := by decide +kernel
theorem dX11_shows_1 : decode cX11_shows 1 = .ok (.iload_n 1, 1) := by decide +kernel
theorem dX11_shows_2 : decode cX11_shows 2 = .ok (.invokevirtual 112, 3) := by decide +kernel
theorem dX11_shows_5 : decode cX11_shows 5 = .ok (.ifCond .ne 5, 3) := by decide +kernel
theorem dX11_shows_8 : decode cX11_shows 8 = .ok (.iconst (-1), 1) := by decide +kernel
theorem dX11_shows_9 : decode cX11_shows 9 = .ok (.ireturn, 1) := by decide +kernel
theorem dX11_shows_10 : decode cX11_shows 10 = .ok (.iload_n 2, 1) := by decide +kernel
theorem dX11_shows_11 : decode cX11_shows 11 = .ok (.invokestatic 73, 3) := by decide +kernel
theorem dX11_shows_14 : decode cX11_shows 14 = .ok (.ifCond .eq 12, 3) := by decide +kernel
theorem dX11_shows_17 : decode cX11_shows 17 = .ok (.aload_n 0, 1) := by decide +kernel
theorem dX11_shows_18 : decode cX11_shows 18 = .ok (.iload_n 1, 1) := by decide +kernel
theorem dX11_shows_19 : decode cX11_shows 19 = .ok (.iload_n 2, 1) := by decide +kernel
theorem dX11_shows_20 : decode cX11_shows 20 = .ok (.invokevirtual 136, 3) := by decide +kernel
theorem dX11_shows_23 : decode cX11_shows 23 = .ok (.goto 5, 3) := by decide +kernel
theorem dX11_shows_26 : decode cX11_shows 26 = .ok (.bipush (-2), 2) := by decide +kernel
theorem dX11_shows_28 : decode cX11_shows 28 = .ok (.ireturn, 1) := by decide +kernel
theorem dX11_meaning_0 : decode cX11_meaning 0 = .ok (.iload_n 1, 1) := by decide +kernel
theorem dX11_meaning_1 : decode cX11_meaning 1 = .ok (.invokestatic 73, 3) := by decide +kernel
theorem dX11_meaning_4 : decode cX11_meaning 4 = .ok (.ifCond .eq 11, 3) := by decide +kernel
theorem dX11_meaning_7 : decode cX11_meaning 7 = .ok (.aload_n 0, 1) := by decide +kernel
theorem dX11_meaning_8 : decode cX11_meaning 8 = .ok (.iload_n 1, 1) := by decide +kernel
theorem dX11_meaning_9 : decode cX11_meaning 9 = .ok (.invokevirtual 140, 3) := by decide +kernel
theorem dX11_meaning_12 : decode cX11_meaning 12 = .ok (.goto 5, 3) := by decide +kernel
theorem dX11_meaning_15 : decode cX11_meaning 15 = .ok (.bipush (-2), 2) := by decide +kernel
theorem dX11_meaning_17 : decode cX11_meaning 17 = .ok (.ireturn, 1) := by decide +kernel
theorem dX11_say_0 : decode cX11_say 0 = .ok (.aload_n 0, 1) := by decide +kernel
theorem dX11_say_1 : decode cX11_say 1 = .ok (.iload_n 1, 1) := by decide +kernel
theorem dX11_say_2 : decode cX11_say 2 = .ok (.invokevirtual 112, 3) := by decide +kernel
theorem dX11_say_5 : decode cX11_say 5 = .ok (.ifCond .eq 11, 3) := by decide +kernel
theorem dX11_say_8 : decode cX11_say 8 = .ok (.aload_n 0, 1) := by decide +kernel
theorem dX11_say_9 : decode cX11_say 9 = .ok (.iload_n 2, 1) := by decide +kernel
theorem dX11_say_10 : decode cX11_say 10 = .ok (.invokevirtual 88, 3) := by decide +kernel
theorem dX11_say_13 : decode cX11_say 13 = .ok (.ifCond .ne 5, 3) := by decide +kernel
theorem dX11_say_16 : decode cX11_say 16 = .ok (.iconst (-1), 1) := by decide +kernel
theorem dX11_say_17 : decode cX11_say 17 = .ok (.ireturn, 1) := by decide +kernel
theorem dX11_say_18 : decode cX11_say 18 = .ok (.aload_n 0, 1) := by decide +kernel
theorem dX11_say_19 : decode cX11_say 19 = .ok (.getfield 14, 3) := by decide +kernel
theorem dX11_say_22 : decode cX11_say 22 = .ok (.getfield 127, 3) := by decide +kernel
theorem dX11_say_25 : decode cX11_say 25 = .ok (.iload_n 1, 1) := by decide +kernel
theorem dX11_say_26 : decode cX11_say 26 = .ok (.iaload, 1) := by decide +kernel
theorem dX11_say_27 : decode cX11_say 27 = .ok (.sipush 9999, 3) := by decide +kernel
theorem dX11_say_30 : decode cX11_say 30 = .ok (.if_icmp .lt 6, 3) := by decide +kernel
theorem dX11_say_33 : decode cX11_say 33 = .ok (.bipush (-3), 2) := by decide +kernel
theorem dX11_say_35 : decode cX11_say 35 = .ok (.ireturn, 1) := by decide +kernel
theorem dX11_say_36 : decode cX11_say 36 = .ok (.aload_n 0, 1) := by decide +kernel
theorem dX11_say_37 : decode cX11_say 37 = .ok (.aload_n 0, 1) := by decide +kernel
theorem dX11_say_38 : decode cX11_say 38 = .ok (.iload_n 1, 1) := by decide +kernel
theorem dX11_say_39 : decode cX11_say 39 = .ok (.aload_n 0, 1) := by decide +kernel
theorem dX11_say_40 : decode cX11_say 40 = .ok (.getfield 14, 3) := by decide +kernel
theorem dX11_say_43 : decode cX11_say 43 = .ok (.getfield 77, 3) := by decide +kernel
theorem dX11_say_46 : decode cX11_say 46 = .ok (.iload_n 2, 1) := by decide +kernel
theorem dX11_say_47 : decode cX11_say 47 = .ok (.invokevirtual 91, 3) := by decide +kernel
theorem dX11_say_50 : decode cX11_say 50 = .ok (.invokevirtual 136, 3) := by decide +kernel
theorem dX11_say_53 : decode cX11_say 53 = .ok (.invokevirtual 140, 3) := by decide +kernel
theorem dX11_say_56 : decode cX11_say 56 = .ok (.istore_n 3, 1) := by decide +kernel
theorem dX11_say_57 : decode cX11_say 57 = .ok (.aload_n 0, 1) := by decide +kernel
theorem dX11_say_58 : decode cX11_say 58 = .ok (.getfield 14, 3) := by decide +kernel
theorem dX11_say_61 : decode cX11_say 61 = .ok (.getfield 127, 3) := by decide +kernel
theorem dX11_say_64 : decode cX11_say 64 = .ok (.iload_n 1, 1) := by decide +kernel
theorem dX11_say_65 : decode cX11_say 65 = .ok (.dup2, 1) := by decide +kernel
theorem dX11_say_66 : decode cX11_say 66 = .ok (.iaload, 1) := by decide +kernel
theorem dX11_say_67 : decode cX11_say 67 = .ok (.iconst 1, 1) := by decide +kernel
theorem dX11_say_68 : decode cX11_say 68 = .ok (.iadd, 1) := by decide +kernel
theorem dX11_say_69 : decode cX11_say 69 = .ok (.iastore, 1) := by decide +kernel
theorem dX11_say_70 : decode cX11_say 70 = .ok (.iload_n 3, 1) := by decide +kernel
theorem dX11_say_71 : decode cX11_say 71 = .ok (.ireturn, 1) := by decide +kernel
theorem dX11_row_0 : decode cX11_row 0 = .ok (.aload_n 0, 1) := by decide +kernel
theorem dX11_row_1 : decode cX11_row 1 = .ok (.iload_n 1, 1) := by decide +kernel
theorem dX11_row_2 : decode cX11_row 2 = .ok (.invokevirtual 112, 3) := by decide +kernel
theorem dX11_row_5 : decode cX11_row 5 = .ok (.ifCond .eq 12, 3) := by decide +kernel
theorem dX11_row_8 : decode cX11_row 8 = .ok (.iload_n 2, 1) := by decide +kernel
theorem dX11_row_9 : decode cX11_row 9 = .ok (.ifCond .lt 8, 3) := by decide +kernel
theorem dX11_row_12 : decode cX11_row 12 = .ok (.iload_n 2, 1) := by decide +kernel
theorem dX11_row_13 : decode cX11_row 13 = .ok (.iconst 4, 1) := by decide +kernel
theorem dX11_row_14 : decode cX11_row 14 = .ok (.if_icmp .lt 5, 3) := by decide +kernel
theorem dX11_row_17 : decode cX11_row 17 = .ok (.iconst (-1), 1) := by decide +kernel
theorem dX11_row_18 : decode cX11_row 18 = .ok (.ireturn, 1) := by decide +kernel
theorem dX11_row_19 : decode cX11_row 19 = .ok (.iload_n 3, 1) := by decide +kernel
theorem dX11_row_20 : decode cX11_row 20 = .ok (.invokestatic 98, 3) := by decide +kernel
theorem dX11_row_23 : decode cX11_row 23 = .ok (.ifCond .ne 6, 3) := by decide +kernel
theorem dX11_row_26 : decode cX11_row 26 = .ok (.bipush (-2), 2) := by decide +kernel
theorem dX11_row_28 : decode cX11_row 28 = .ok (.ireturn, 1) := by decide +kernel
theorem dX11_row_29 : decode cX11_row 29 = .ok (.aload_n 0, 1) := by decide +kernel
theorem dX11_row_30 : decode cX11_row 30 = .ok (.getfield 14, 3) := by decide +kernel
theorem dX11_row_33 : decode cX11_row 33 = .ok (.getfield 115, 3) := by decide +kernel
theorem dX11_row_36 : decode cX11_row 36 = .ok (.iload_n 1, 1) := by decide +kernel
theorem dX11_row_37 : decode cX11_row 37 = .ok (.aaload, 1) := by decide +kernel
theorem dX11_row_38 : decode cX11_row 38 = .ok (.instanceof 143, 3) := by decide +kernel
theorem dX11_row_41 : decode cX11_row 41 = .ok (.ifCond .ne 6, 3) := by decide +kernel
theorem dX11_row_44 : decode cX11_row 44 = .ok (.bipush (-3), 2) := by decide +kernel
theorem dX11_row_46 : decode cX11_row 46 = .ok (.ireturn, 1) := by decide +kernel
theorem dX11_row_47 : decode cX11_row 47 = .ok (.iload_n 1, 1) := by decide +kernel
theorem dX11_row_48 : decode cX11_row 48 = .ok (.iconst 4, 1) := by decide +kernel
theorem dX11_row_49 : decode cX11_row 49 = .ok (.imul, 1) := by decide +kernel
theorem dX11_row_50 : decode cX11_row 50 = .ok (.iload_n 2, 1) := by decide +kernel
theorem dX11_row_51 : decode cX11_row 51 = .ok (.iadd, 1) := by decide +kernel
theorem dX11_row_52 : decode cX11_row 52 = .ok (.istore 4, 2) := by decide +kernel
theorem dX11_row_54 : decode cX11_row 54 = .ok (.aload_n 0, 1) := by decide +kernel
theorem dX11_row_55 : decode cX11_row 55 = .ok (.getfield 14, 3) := by decide +kernel
theorem dX11_row_58 : decode cX11_row 58 = .ok (.getfield 145, 3) := by decide +kernel
theorem dX11_row_61 : decode cX11_row 61 = .ok (.iload 4, 2) := by decide +kernel
theorem dX11_row_63 : decode cX11_row 63 = .ok (.iaload, 1) := by decide +kernel
theorem dX11_row_64 : decode cX11_row 64 = .ok (.istore 5, 2) := by decide +kernel
theorem dX11_row_66 : decode cX11_row 66 = .ok (.aload_n 0, 1) := by decide +kernel
theorem dX11_row_67 : decode cX11_row 67 = .ok (.getfield 14, 3) := by decide +kernel
theorem dX11_row_70 : decode cX11_row 70 = .ok (.getfield 145, 3) := by decide +kernel
theorem dX11_row_73 : decode cX11_row 73 = .ok (.iload 4, 2) := by decide +kernel
theorem dX11_row_75 : decode cX11_row 75 = .ok (.iload_n 3, 1) := by decide +kernel
theorem dX11_row_76 : decode cX11_row 76 = .ok (.iastore, 1) := by decide +kernel
theorem dX11_row_77 : decode cX11_row 77 = .ok (.iload 5, 2) := by decide +kernel
theorem dX11_row_79 : decode cX11_row 79 = .ok (.ireturn, 1) := by decide +kernel
theorem dX11_feed_0 : decode cX11_feed 0 = .ok (.iload_n 1, 1) := by decide +kernel
theorem dX11_feed_1 : decode cX11_feed 1 = .ok (.ifCond .lt 9, 3) := by decide +kernel
theorem dX11_feed_4 : decode cX11_feed 4 = .ok (.iload_n 1, 1) := by decide +kernel
theorem dX11_feed_5 : decode cX11_feed 5 = .ok (.bipush 127, 2) := by decide +kernel
theorem dX11_feed_7 : decode cX11_feed 7 = .ok (.if_icmp .le 6, 3) := by decide +kernel
theorem dX11_feed_10 : decode cX11_feed 10 = .ok (.bipush (-2), 2) := by decide +kernel
theorem dX11_feed_12 : decode cX11_feed 12 = .ok (.ireturn, 1) := by decide +kernel
theorem dX11_feed_13 : decode cX11_feed 13 = .ok (.aload_n 0, 1) := by decide +kernel
theorem dX11_feed_14 : decode cX11_feed 14 = .ok (.getfield 32, 3) := by decide +kernel
theorem dX11_feed_17 : decode cX11_feed 17 = .ok (.invokevirtual 80, 3) := by decide +kernel
theorem dX11_feed_20 : decode cX11_feed 20 = .ok (.ifCond .eq 8, 3) := by decide +kernel
theorem dX11_feed_23 : decode cX11_feed 23 = .ok (.bipush (-4), 2) := by decide +kernel
theorem dX11_feed_25 : decode cX11_feed 25 = .ok (.goto 11, 3) := by decide +kernel
theorem dX11_feed_28 : decode cX11_feed 28 = .ok (.aload_n 0, 1) := by decide +kernel
theorem dX11_feed_29 : decode cX11_feed 29 = .ok (.getfield 32, 3) := by decide +kernel
theorem dX11_feed_32 : decode cX11_feed 32 = .ok (.iload_n 1, 1) := by decide +kernel
theorem dX11_feed_33 : decode cX11_feed 33 = .ok (.invokevirtual 84, 3) := by decide +kernel
theorem dX11_feed_36 : decode cX11_feed 36 = .ok (.ireturn, 1) := by decide +kernel
theorem dX11_ward_0 : decode cX11_ward 0 = .ok (.aload_n 0, 1) := by decide +kernel
theorem dX11_ward_1 : decode cX11_ward 1 = .ok (.getfield 41, 3) := by decide +kernel
theorem dX11_ward_4 : decode cX11_ward 4 = .ok (.bipush 6, 2) := by decide +kernel
theorem dX11_ward_6 : decode cX11_ward 6 = .ok (.if_icmp .lt 6, 3) := by decide +kernel
theorem dX11_ward_9 : decode cX11_ward 9 = .ok (.bipush (-4), 2) := by decide +kernel
theorem dX11_ward_11 : decode cX11_ward 11 = .ok (.ireturn, 1) := by decide +kernel
theorem dX11_ward_12 : decode cX11_ward 12 = .ok (.aload_n 0, 1) := by decide +kernel
theorem dX11_ward_13 : decode cX11_ward 13 = .ok (.getfield 37, 3) := by decide +kernel
theorem dX11_ward_16 : decode cX11_ward 16 = .ok (.aload_n 0, 1) := by decide +kernel
theorem dX11_ward_17 : decode cX11_ward 17 = .ok (.getfield 32, 3) := by decide +kernel
theorem dX11_ward_20 : decode cX11_ward 20 = .ok (.invokevirtual 148, 3) := by decide +kernel
theorem dX11_ward_23 : decode cX11_ward 23 = .ok (.istore_n 1, 1) := by decide +kernel
theorem dX11_ward_24 : decode cX11_ward 24 = .ok (.aload_n 0, 1) := by decide +kernel
theorem dX11_ward_25 : decode cX11_ward 25 = .ok (.getfield 32, 3) := by decide +kernel
theorem dX11_ward_28 : decode cX11_ward 28 = .ok (.invokevirtual 152, 3) := by decide +kernel
theorem dX11_ward_31 : decode cX11_ward 31 = .ok (.iload_n 1, 1) := by decide +kernel
theorem dX11_ward_32 : decode cX11_ward 32 = .ok (.ifCond .lt 8, 3) := by decide +kernel
theorem dX11_ward_35 : decode cX11_ward 35 = .ok (.bipush (-10), 2) := by decide +kernel
theorem dX11_ward_37 : decode cX11_ward 37 = .ok (.iload_n 1, 1) := by decide +kernel
theorem dX11_ward_38 : decode cX11_ward 38 = .ok (.isub, 1) := by decide +kernel
theorem dX11_ward_39 : decode cX11_ward 39 = .ok (.ireturn, 1) := by decide +kernel
theorem dX11_ward_40 : decode cX11_ward 40 = .ok (.aload_n 0, 1) := by decide +kernel
theorem dX11_ward_41 : decode cX11_ward 41 = .ok (.getfield 14, 3) := by decide +kernel
theorem dX11_ward_44 : decode cX11_ward 44 = .ok (.aload_n 0, 1) := by decide +kernel
theorem dX11_ward_45 : decode cX11_ward 45 = .ok (.getfield 37, 3) := by decide +kernel
theorem dX11_ward_48 : decode cX11_ward 48 = .ok (.putfield 155, 3) := by decide +kernel
theorem dX11_ward_51 : decode cX11_ward 51 = .ok (.aload_n 0, 1) := by decide +kernel
theorem dX11_ward_52 : decode cX11_ward 52 = .ok (.new 27, 3) := by decide +kernel
theorem dX11_ward_55 : decode cX11_ward 55 = .ok (.dup, 1) := by decide +kernel
theorem dX11_ward_56 : decode cX11_ward 56 = .ok (.invokespecial 36, 3) := by decide +kernel
theorem dX11_ward_59 : decode cX11_ward 59 = .ok (.putfield 37, 3) := by decide +kernel
theorem dX11_ward_62 : decode cX11_ward 62 = .ok (.aload_n 0, 1) := by decide +kernel
theorem dX11_ward_63 : decode cX11_ward 63 = .ok (.dup, 1) := by decide +kernel
theorem dX11_ward_64 : decode cX11_ward 64 = .ok (.getfield 41, 3) := by decide +kernel
theorem dX11_ward_67 : decode cX11_ward 67 = .ok (.iconst 1, 1) := by decide +kernel
theorem dX11_ward_68 : decode cX11_ward 68 = .ok (.iadd, 1) := by decide +kernel
theorem dX11_ward_69 : decode cX11_ward 69 = .ok (.putfield 41, 3) := by decide +kernel
theorem dX11_ward_72 : decode cX11_ward 72 = .ok (.aload_n 0, 1) := by decide +kernel
theorem dX11_ward_73 : decode cX11_ward 73 = .ok (.getfield 41, 3) := by decide +kernel
theorem dX11_ward_76 : decode cX11_ward 76 = .ok (.iconst 1, 1) := by decide +kernel
theorem dX11_ward_77 : decode cX11_ward 77 = .ok (.isub, 1) := by decide +kernel
theorem dX11_ward_78 : decode cX11_ward 78 = .ok (.ireturn, 1) := by decide +kernel
theorem dX11_told_0 : decode cX11_told 0 = .ok (.iload_n 1, 1) := by decide +kernel
theorem dX11_told_1 : decode cX11_told 1 = .ok (.tableswitch 82 0 5 #[39, 47, 52, 52, 67, 67], 39) := by decide +kernel
theorem dX11_told_40 : decode cX11_told 40 = .ok (.aload_n 0, 1) := by decide +kernel
theorem dX11_told_41 : decode cX11_told 41 = .ok (.getfield 14, 3) := by decide +kernel
theorem dX11_told_44 : decode cX11_told 44 = .ok (.getfield 158, 3) := by decide +kernel
theorem dX11_told_47 : decode cX11_told 47 = .ok (.ireturn, 1) := by decide +kernel
theorem dX11_told_48 : decode cX11_told 48 = .ok (.aload_n 0, 1) := by decide +kernel
theorem dX11_told_49 : decode cX11_told 49 = .ok (.invokevirtual 161, 3) := by decide +kernel
theorem dX11_told_52 : decode cX11_told 52 = .ok (.ireturn, 1) := by decide +kernel
theorem dX11_told_53 : decode cX11_told 53 = .ok (.aload_n 0, 1) := by decide +kernel
theorem dX11_told_54 : decode cX11_told 54 = .ok (.iload_n 1, 1) := by decide +kernel
theorem dX11_told_55 : decode cX11_told 55 = .ok (.iconst 3, 1) := by decide +kernel
theorem dX11_told_56 : decode cX11_told 56 = .ok (.if_icmp .ne 7, 3) := by decide +kernel
theorem dX11_told_59 : decode cX11_told 59 = .ok (.iconst 1, 1) := by decide +kernel
theorem dX11_told_60 : decode cX11_told 60 = .ok (.goto 4, 3) := by decide +kernel
theorem dX11_told_63 : decode cX11_told 63 = .ok (.iconst 0, 1) := by decide +kernel
theorem dX11_told_64 : decode cX11_told 64 = .ok (.invokevirtual 165, 3) := by decide +kernel
theorem dX11_told_67 : decode cX11_told 67 = .ok (.ireturn, 1) := by decide +kernel
theorem dX11_told_68 : decode cX11_told 68 = .ok (.aload_n 0, 1) := by decide +kernel
theorem dX11_told_69 : decode cX11_told 69 = .ok (.iload_n 1, 1) := by decide +kernel
theorem dX11_told_70 : decode cX11_told 70 = .ok (.iconst 5, 1) := by decide +kernel
theorem dX11_told_71 : decode cX11_told 71 = .ok (.if_icmp .ne 7, 3) := by decide +kernel
theorem dX11_told_74 : decode cX11_told 74 = .ok (.iconst 1, 1) := by decide +kernel
theorem dX11_told_75 : decode cX11_told 75 = .ok (.goto 4, 3) := by decide +kernel
theorem dX11_told_78 : decode cX11_told 78 = .ok (.iconst 0, 1) := by decide +kernel
theorem dX11_told_79 : decode cX11_told 79 = .ok (.invokevirtual 169, 3) := by decide +kernel
theorem dX11_told_82 : decode cX11_told 82 = .ok (.ireturn, 1) := by decide +kernel
theorem dX11_told_83 : decode cX11_told 83 = .ok (.iload_n 1, 1) := by decide +kernel
theorem dX11_told_84 : decode cX11_told 84 = .ok (.bipush 10, 2) := by decide +kernel
theorem dX11_told_86 : decode cX11_told 86 = .ok (.if_icmp .lt 31, 3) := by decide +kernel
theorem dX11_told_89 : decode cX11_told 89 = .ok (.aload_n 0, 1) := by decide +kernel
theorem dX11_told_90 : decode cX11_told 90 = .ok (.iload_n 1, 1) := by decide +kernel
theorem dX11_told_91 : decode cX11_told 91 = .ok (.bipush 10, 2) := by decide +kernel
theorem dX11_told_93 : decode cX11_told 93 = .ok (.isub, 1) := by decide +kernel
theorem dX11_told_94 : decode cX11_told 94 = .ok (.invokevirtual 88, 3) := by decide +kernel
theorem dX11_told_97 : decode cX11_told 97 = .ok (.ifCond .eq 20, 3) := by decide +kernel
theorem dX11_told_100 : decode cX11_told 100 = .ok (.aload_n 0, 1) := by decide +kernel
theorem dX11_told_101 : decode cX11_told 101 = .ok (.getfield 14, 3) := by decide +kernel
theorem dX11_told_104 : decode cX11_told 104 = .ok (.getfield 77, 3) := by decide +kernel
theorem dX11_told_107 : decode cX11_told 107 = .ok (.iload_n 1, 1) := by decide +kernel
theorem dX11_told_108 : decode cX11_told 108 = .ok (.bipush 10, 2) := by decide +kernel
theorem dX11_told_110 : decode cX11_told 110 = .ok (.isub, 1) := by decide +kernel
theorem dX11_told_111 : decode cX11_told 111 = .ok (.invokevirtual 91, 3) := by decide +kernel
theorem dX11_told_114 : decode cX11_told 114 = .ok (.goto 4, 3) := by decide +kernel
theorem dX11_told_117 : decode cX11_told 117 = .ok (.iconst (-1), 1) := by decide +kernel
theorem dX11_told_118 : decode cX11_told 118 = .ok (.ireturn, 1) := by decide +kernel
theorem dX11_pass_0 : decode cX11_pass 0 = .ok (.iload_n 1, 1) := by decide +kernel
theorem dX11_pass_1 : decode cX11_pass 1 = .ok (.ifCond .lt 9, 3) := by decide +kernel
theorem dX11_pass_4 : decode cX11_pass 4 = .ok (.iload_n 1, 1) := by decide +kernel
theorem dX11_pass_5 : decode cX11_pass 5 = .ok (.bipush 60, 2) := by decide +kernel
theorem dX11_pass_7 : decode cX11_pass 7 = .ok (.if_icmp .le 6, 3) := by decide +kernel
theorem dX11_pass_10 : decode cX11_pass 10 = .ok (.bipush (-2), 2) := by decide +kernel
theorem dX11_pass_12 : decode cX11_pass 12 = .ok (.ireturn, 1) := by decide +kernel
theorem dX11_pass_13 : decode cX11_pass 13 = .ok (.aload_n 0, 1) := by decide +kernel
theorem dX11_pass_14 : decode cX11_pass 14 = .ok (.getfield 14, 3) := by decide +kernel
theorem dX11_pass_17 : decode cX11_pass 17 = .ok (.getfield 158, 3) := by decide +kernel
theorem dX11_pass_20 : decode cX11_pass 20 = .ok (.iload_n 1, 1) := by decide +kernel
theorem dX11_pass_21 : decode cX11_pass 21 = .ok (.iadd, 1) := by decide +kernel
theorem dX11_pass_22 : decode cX11_pass 22 = .ok (.sipush 9999, 3) := by decide +kernel
theorem dX11_pass_25 : decode cX11_pass 25 = .ok (.if_icmp .le 6, 3) := by decide +kernel
theorem dX11_pass_28 : decode cX11_pass 28 = .ok (.bipush (-3), 2) := by decide +kernel
theorem dX11_pass_30 : decode cX11_pass 30 = .ok (.ireturn, 1) := by decide +kernel
theorem dX11_pass_31 : decode cX11_pass 31 = .ok (.aload_n 0, 1) := by decide +kernel
theorem dX11_pass_32 : decode cX11_pass 32 = .ok (.getfield 14, 3) := by decide +kernel
theorem dX11_pass_35 : decode cX11_pass 35 = .ok (.dup, 1) := by decide +kernel
theorem dX11_pass_36 : decode cX11_pass 36 = .ok (.getfield 158, 3) := by decide +kernel
theorem dX11_pass_39 : decode cX11_pass 39 = .ok (.iload_n 1, 1) := by decide +kernel
theorem dX11_pass_40 : decode cX11_pass 40 = .ok (.iadd, 1) := by decide +kernel
theorem dX11_pass_41 : decode cX11_pass 41 = .ok (.putfield 158, 3) := by decide +kernel
theorem dX11_pass_44 : decode cX11_pass 44 = .ok (.aload_n 0, 1) := by decide +kernel
theorem dX11_pass_45 : decode cX11_pass 45 = .ok (.getfield 14, 3) := by decide +kernel
theorem dX11_pass_48 : decode cX11_pass 48 = .ok (.getfield 158, 3) := by decide +kernel
theorem dX11_pass_51 : decode cX11_pass 51 = .ok (.ireturn, 1) := by decide +kernel
theorem dX11_saying_0 : decode cX11_saying 0 = .ok (.aload_n 0, 1) := by decide +kernel
theorem dX11_saying_1 : decode cX11_saying 1 = .ok (.iload_n 1, 1) := by decide +kernel
theorem dX11_saying_2 : decode cX11_saying 2 = .ok (.invokevirtual 112, 3) := by decide +kernel
theorem dX11_saying_5 : decode cX11_saying 5 = .ok (.ifCond .eq 18, 3) := by decide +kernel
theorem dX11_saying_8 : decode cX11_saying 8 = .ok (.aload_n 0, 1) := by decide +kernel
theorem dX11_saying_9 : decode cX11_saying 9 = .ok (.iload_n 2, 1) := by decide +kernel
theorem dX11_saying_10 : decode cX11_saying 10 = .ok (.invokevirtual 88, 3) := by decide +kernel
theorem dX11_saying_13 : decode cX11_saying 13 = .ok (.ifCond .eq 10, 3) := by decide +kernel
theorem dX11_saying_16 : decode cX11_saying 16 = .ok (.iload_n 3, 1) := by decide +kernel
theorem dX11_saying_17 : decode cX11_saying 17 = .ok (.invokestatic 172, 3) := by decide +kernel
theorem dX11_saying_20 : decode cX11_saying 20 = .ok (.ifCond .ne 5, 3) := by decide +kernel
theorem dX11_saying_23 : decode cX11_saying 23 = .ok (.iconst (-1), 1) := by decide +kernel
theorem dX11_saying_24 : decode cX11_saying 24 = .ok (.ireturn, 1) := by decide +kernel
theorem dX11_saying_25 : decode cX11_saying 25 = .ok (.aload_n 0, 1) := by decide +kernel
theorem dX11_saying_26 : decode cX11_saying 26 = .ok (.getfield 14, 3) := by decide +kernel
theorem dX11_saying_29 : decode cX11_saying 29 = .ok (.getfield 77, 3) := by decide +kernel
theorem dX11_saying_32 : decode cX11_saying 32 = .ok (.iload_n 2, 1) := by decide +kernel
theorem dX11_saying_33 : decode cX11_saying 33 = .ok (.invokevirtual 91, 3) := by decide +kernel
theorem dX11_saying_36 : decode cX11_saying 36 = .ok (.istore 4, 2) := by decide +kernel
theorem dX11_saying_38 : decode cX11_saying 38 = .ok (.bipush (-5), 2) := by decide +kernel
theorem dX11_saying_40 : decode cX11_saying 40 = .ok (.istore 5, 2) := by decide +kernel
theorem dX11_saying_42 : decode cX11_saying 42 = .ok (.iconst 0, 1) := by decide +kernel
theorem dX11_saying_43 : decode cX11_saying 43 = .ok (.istore 6, 2) := by decide +kernel
theorem dX11_saying_45 : decode cX11_saying 45 = .ok (.iconst 0, 1) := by decide +kernel
theorem dX11_saying_46 : decode cX11_saying 46 = .ok (.istore 7, 2) := by decide +kernel
theorem dX11_saying_48 : decode cX11_saying 48 = .ok (.iload 7, 2) := by decide +kernel
theorem dX11_saying_50 : decode cX11_saying 50 = .ok (.sipush 1024, 3) := by decide +kernel
theorem dX11_saying_53 : decode cX11_saying 53 = .ok (.if_icmp .ge 38, 3) := by decide +kernel
theorem dX11_saying_56 : decode cX11_saying 56 = .ok (.aload_n 0, 1) := by decide +kernel
theorem dX11_saying_57 : decode cX11_saying 57 = .ok (.iload_n 1, 1) := by decide +kernel
theorem dX11_saying_58 : decode cX11_saying 58 = .ok (.iload 7, 2) := by decide +kernel
theorem dX11_saying_60 : decode cX11_saying 60 = .ok (.invokevirtual 136, 3) := by decide +kernel
theorem dX11_saying_63 : decode cX11_saying 63 = .ok (.iload 4, 2) := by decide +kernel
theorem dX11_saying_65 : decode cX11_saying 65 = .ok (.if_icmp .ne 20, 3) := by decide +kernel
theorem dX11_saying_68 : decode cX11_saying 68 = .ok (.iload 6, 2) := by decide +kernel
theorem dX11_saying_70 : decode cX11_saying 70 = .ok (.ifCond .ne 8, 3) := by decide +kernel
theorem dX11_saying_73 : decode cX11_saying 73 = .ok (.iload 7, 2) := by decide +kernel
theorem dX11_saying_75 : decode cX11_saying 75 = .ok (.goto 5, 3) := by decide +kernel
theorem dX11_saying_78 : decode cX11_saying 78 = .ok (.iload 5, 2) := by decide +kernel
theorem dX11_saying_80 : decode cX11_saying 80 = .ok (.istore 5, 2) := by decide +kernel
theorem dX11_saying_82 : decode cX11_saying 82 = .ok (.iinc 6 1, 3) := by decide +kernel
theorem dX11_saying_85 : decode cX11_saying 85 = .ok (.iinc 7 1, 3) := by decide +kernel
theorem dX11_saying_88 : decode cX11_saying 88 = .ok (.goto (-40), 3) := by decide +kernel
theorem dX11_saying_91 : decode cX11_saying 91 = .ok (.iload_n 3, 1) := by decide +kernel
theorem dX11_saying_92 : decode cX11_saying 92 = .ok (.ifCond .ne 8, 3) := by decide +kernel
theorem dX11_saying_95 : decode cX11_saying 95 = .ok (.iload 5, 2) := by decide +kernel
theorem dX11_saying_97 : decode cX11_saying 97 = .ok (.goto 5, 3) := by decide +kernel
theorem dX11_saying_100 : decode cX11_saying 100 = .ok (.iload 6, 2) := by decide +kernel
theorem dX11_saying_102 : decode cX11_saying 102 = .ok (.ireturn, 1) := by decide +kernel
theorem dX11_hours_0 : decode cX11_hours 0 = .ok (.aload_n 0, 1) := by decide +kernel
theorem dX11_hours_1 : decode cX11_hours 1 = .ok (.iload_n 1, 1) := by decide +kernel
theorem dX11_hours_2 : decode cX11_hours 2 = .ok (.invokevirtual 112, 3) := by decide +kernel
theorem dX11_hours_5 : decode cX11_hours 5 = .ok (.ifCond .eq 11, 3) := by decide +kernel
theorem dX11_hours_8 : decode cX11_hours 8 = .ok (.aload_n 0, 1) := by decide +kernel
theorem dX11_hours_9 : decode cX11_hours 9 = .ok (.iload_n 2, 1) := by decide +kernel
theorem dX11_hours_10 : decode cX11_hours 10 = .ok (.invokevirtual 88, 3) := by decide +kernel
theorem dX11_hours_13 : decode cX11_hours 13 = .ok (.ifCond .ne 5, 3) := by decide +kernel
theorem dX11_hours_16 : decode cX11_hours 16 = .ok (.iconst (-1), 1) := by decide +kernel
theorem dX11_hours_17 : decode cX11_hours 17 = .ok (.ireturn, 1) := by decide +kernel
theorem dX11_hours_18 : decode cX11_hours 18 = .ok (.iconst 0, 1) := by decide +kernel
theorem dX11_hours_19 : decode cX11_hours 19 = .ok (.istore_n 3, 1) := by decide +kernel
theorem dX11_hours_20 : decode cX11_hours 20 = .ok (.iconst 0, 1) := by decide +kernel
theorem dX11_hours_21 : decode cX11_hours 21 = .ok (.istore 4, 2) := by decide +kernel
theorem dX11_hours_23 : decode cX11_hours 23 = .ok (.iload 4, 2) := by decide +kernel
theorem dX11_hours_25 : decode cX11_hours 25 = .ok (.bipush 24, 2) := by decide +kernel
theorem dX11_hours_27 : decode cX11_hours 27 = .ok (.if_icmp .ge 35, 3) := by decide +kernel
theorem dX11_hours_30 : decode cX11_hours 30 = .ok (.aload_n 0, 1) := by decide +kernel
theorem dX11_hours_31 : decode cX11_hours 31 = .ok (.iload_n 1, 1) := by decide +kernel
theorem dX11_hours_32 : decode cX11_hours 32 = .ok (.iload_n 2, 1) := by decide +kernel
theorem dX11_hours_33 : decode cX11_hours 33 = .ok (.aload_n 0, 1) := by decide +kernel
theorem dX11_hours_34 : decode cX11_hours 34 = .ok (.getfield 14, 3) := by decide +kernel
theorem dX11_hours_37 : decode cX11_hours 37 = .ok (.getfield 158, 3) := by decide +kernel
theorem dX11_hours_40 : decode cX11_hours 40 = .ok (.iload 4, 2) := by decide +kernel
theorem dX11_hours_42 : decode cX11_hours 42 = .ok (.iadd, 1) := by decide +kernel
theorem dX11_hours_43 : decode cX11_hours 43 = .ok (.invokevirtual 175, 3) := by decide +kernel
theorem dX11_hours_46 : decode cX11_hours 46 = .ok (.ifCond .eq 10, 3) := by decide +kernel
theorem dX11_hours_49 : decode cX11_hours 49 = .ok (.iload_n 3, 1) := by decide +kernel
theorem dX11_hours_50 : decode cX11_hours 50 = .ok (.iconst 1, 1) := by decide +kernel
theorem dX11_hours_51 : decode cX11_hours 51 = .ok (.iload 4, 2) := by decide +kernel
theorem dX11_hours_53 : decode cX11_hours 53 = .ok (.ishl, 1) := by decide +kernel
theorem dX11_hours_54 : decode cX11_hours 54 = .ok (.ior, 1) := by decide +kernel
theorem dX11_hours_55 : decode cX11_hours 55 = .ok (.istore_n 3, 1) := by decide +kernel
theorem dX11_hours_56 : decode cX11_hours 56 = .ok (.iinc 4 1, 3) := by decide +kernel
theorem dX11_hours_59 : decode cX11_hours 59 = .ok (.goto (-36), 3) := by decide +kernel
theorem dX11_hours_62 : decode cX11_hours 62 = .ok (.iload_n 3, 1) := by decide +kernel
theorem dX11_hours_63 : decode cX11_hours 63 = .ok (.ireturn, 1) := by decide +kernel
theorem dX11_senders_0 : decode cX11_senders 0 = .ok (.aload_n 0, 1) := by decide +kernel
theorem dX11_senders_1 : decode cX11_senders 1 = .ok (.iload_n 1, 1) := by decide +kernel
theorem dX11_senders_2 : decode cX11_senders 2 = .ok (.invokevirtual 88, 3) := by decide +kernel
theorem dX11_senders_5 : decode cX11_senders 5 = .ok (.ifCond .ne 5, 3) := by decide +kernel
theorem dX11_senders_8 : decode cX11_senders 8 = .ok (.iconst (-1), 1) := by decide +kernel
theorem dX11_senders_9 : decode cX11_senders 9 = .ok (.ireturn, 1) := by decide +kernel
theorem dX11_senders_10 : decode cX11_senders 10 = .ok (.iload_n 2, 1) := by decide +kernel
theorem dX11_senders_11 : decode cX11_senders 11 = .ok (.invokestatic 73, 3) := by decide +kernel
theorem dX11_senders_14 : decode cX11_senders 14 = .ok (.ifCond .ne 6, 3) := by decide +kernel
theorem dX11_senders_17 : decode cX11_senders 17 = .ok (.bipush (-2), 2) := by decide +kernel
theorem dX11_senders_19 : decode cX11_senders 19 = .ok (.ireturn, 1) := by decide +kernel
theorem dX11_senders_20 : decode cX11_senders 20 = .ok (.iconst 0, 1) := by decide +kernel
theorem dX11_senders_21 : decode cX11_senders 21 = .ok (.istore_n 3, 1) := by decide +kernel
theorem dX11_senders_22 : decode cX11_senders 22 = .ok (.iconst 0, 1) := by decide +kernel
theorem dX11_senders_23 : decode cX11_senders 23 = .ok (.istore 4, 2) := by decide +kernel
theorem dX11_senders_25 : decode cX11_senders 25 = .ok (.iload 4, 2) := by decide +kernel
theorem dX11_senders_27 : decode cX11_senders 27 = .ok (.aload_n 0, 1) := by decide +kernel
theorem dX11_senders_28 : decode cX11_senders 28 = .ok (.getfield 14, 3) := by decide +kernel
theorem dX11_senders_31 : decode cX11_senders 31 = .ok (.getfield 101, 3) := by decide +kernel
theorem dX11_senders_34 : decode cX11_senders 34 = .ok (.if_icmp .ge 37, 3) := by decide +kernel
theorem dX11_senders_37 : decode cX11_senders 37 = .ok (.aload_n 0, 1) := by decide +kernel
theorem dX11_senders_38 : decode cX11_senders 38 = .ok (.iload 4, 2) := by decide +kernel
theorem dX11_senders_40 : decode cX11_senders 40 = .ok (.aload_n 0, 1) := by decide +kernel
theorem dX11_senders_41 : decode cX11_senders 41 = .ok (.getfield 14, 3) := by decide +kernel
theorem dX11_senders_44 : decode cX11_senders 44 = .ok (.getfield 77, 3) := by decide +kernel
theorem dX11_senders_47 : decode cX11_senders 47 = .ok (.iload_n 1, 1) := by decide +kernel
theorem dX11_senders_48 : decode cX11_senders 48 = .ok (.invokevirtual 91, 3) := by decide +kernel
theorem dX11_senders_51 : decode cX11_senders 51 = .ok (.invokevirtual 136, 3) := by decide +kernel
theorem dX11_senders_54 : decode cX11_senders 54 = .ok (.iload_n 2, 1) := by decide +kernel
theorem dX11_senders_55 : decode cX11_senders 55 = .ok (.if_icmp .ne 10, 3) := by decide +kernel
theorem dX11_senders_58 : decode cX11_senders 58 = .ok (.iload_n 3, 1) := by decide +kernel
theorem dX11_senders_59 : decode cX11_senders 59 = .ok (.iconst 1, 1) := by decide +kernel
theorem dX11_senders_60 : decode cX11_senders 60 = .ok (.iload 4, 2) := by decide +kernel
theorem dX11_senders_62 : decode cX11_senders 62 = .ok (.ishl, 1) := by decide +kernel
theorem dX11_senders_63 : decode cX11_senders 63 = .ok (.ior, 1) := by decide +kernel
theorem dX11_senders_64 : decode cX11_senders 64 = .ok (.istore_n 3, 1) := by decide +kernel
theorem dX11_senders_65 : decode cX11_senders 65 = .ok (.iinc 4 1, 3) := by decide +kernel
theorem dX11_senders_68 : decode cX11_senders 68 = .ok (.goto (-43), 3) := by decide +kernel
theorem dX11_senders_71 : decode cX11_senders 71 = .ok (.iload_n 3, 1) := by decide +kernel
theorem dX11_senders_72 : decode cX11_senders 72 = .ok (.ireturn, 1) := by decide +kernel
theorem dX11_meant_0 : decode cX11_meant 0 = .ok (.aload_n 0, 1) := by decide +kernel
theorem dX11_meant_1 : decode cX11_meant 1 = .ok (.iload_n 1, 1) := by decide +kernel
theorem dX11_meant_2 : decode cX11_meant 2 = .ok (.invokevirtual 112, 3) := by decide +kernel
theorem dX11_meant_5 : decode cX11_meant 5 = .ok (.ifCond .ne 5, 3) := by decide +kernel
theorem dX11_meant_8 : decode cX11_meant 8 = .ok (.iconst (-1), 1) := by decide +kernel
theorem dX11_meant_9 : decode cX11_meant 9 = .ok (.ireturn, 1) := by decide +kernel
theorem dX11_meant_10 : decode cX11_meant 10 = .ok (.iload_n 2, 1) := by decide +kernel
theorem dX11_meant_11 : decode cX11_meant 11 = .ok (.invokestatic 73, 3) := by decide +kernel
theorem dX11_meant_14 : decode cX11_meant 14 = .ok (.ifCond .ne 6, 3) := by decide +kernel
theorem dX11_meant_17 : decode cX11_meant 17 = .ok (.bipush (-2), 2) := by decide +kernel
theorem dX11_meant_19 : decode cX11_meant 19 = .ok (.ireturn, 1) := by decide +kernel
theorem dX11_meant_20 : decode cX11_meant 20 = .ok (.iconst 0, 1) := by decide +kernel
theorem dX11_meant_21 : decode cX11_meant 21 = .ok (.istore_n 3, 1) := by decide +kernel
theorem dX11_meant_22 : decode cX11_meant 22 = .ok (.iconst 0, 1) := by decide +kernel
theorem dX11_meant_23 : decode cX11_meant 23 = .ok (.istore 4, 2) := by decide +kernel
theorem dX11_meant_25 : decode cX11_meant 25 = .ok (.iload 4, 2) := by decide +kernel
theorem dX11_meant_27 : decode cX11_meant 27 = .ok (.aload_n 0, 1) := by decide +kernel
theorem dX11_meant_28 : decode cX11_meant 28 = .ok (.getfield 14, 3) := by decide +kernel
theorem dX11_meant_31 : decode cX11_meant 31 = .ok (.getfield 77, 3) := by decide +kernel
theorem dX11_meant_34 : decode cX11_meant 34 = .ok (.getfield 179, 3) := by decide +kernel
theorem dX11_meant_37 : decode cX11_meant 37 = .ok (.if_icmp .ge 37, 3) := by decide +kernel
theorem dX11_meant_40 : decode cX11_meant 40 = .ok (.aload_n 0, 1) := by decide +kernel
theorem dX11_meant_41 : decode cX11_meant 41 = .ok (.iload_n 1, 1) := by decide +kernel
theorem dX11_meant_42 : decode cX11_meant 42 = .ok (.aload_n 0, 1) := by decide +kernel
theorem dX11_meant_43 : decode cX11_meant 43 = .ok (.getfield 14, 3) := by decide +kernel
theorem dX11_meant_46 : decode cX11_meant 46 = .ok (.getfield 77, 3) := by decide +kernel
theorem dX11_meant_49 : decode cX11_meant 49 = .ok (.iload 4, 2) := by decide +kernel
theorem dX11_meant_51 : decode cX11_meant 51 = .ok (.invokevirtual 91, 3) := by decide +kernel
theorem dX11_meant_54 : decode cX11_meant 54 = .ok (.invokevirtual 136, 3) := by decide +kernel
theorem dX11_meant_57 : decode cX11_meant 57 = .ok (.iload_n 2, 1) := by decide +kernel
theorem dX11_meant_58 : decode cX11_meant 58 = .ok (.if_icmp .ne 10, 3) := by decide +kernel
theorem dX11_meant_61 : decode cX11_meant 61 = .ok (.iload_n 3, 1) := by decide +kernel
theorem dX11_meant_62 : decode cX11_meant 62 = .ok (.iconst 1, 1) := by decide +kernel
theorem dX11_meant_63 : decode cX11_meant 63 = .ok (.iload 4, 2) := by decide +kernel
theorem dX11_meant_65 : decode cX11_meant 65 = .ok (.ishl, 1) := by decide +kernel
theorem dX11_meant_66 : decode cX11_meant 66 = .ok (.ior, 1) := by decide +kernel
theorem dX11_meant_67 : decode cX11_meant 67 = .ok (.istore_n 3, 1) := by decide +kernel
theorem dX11_meant_68 : decode cX11_meant 68 = .ok (.iinc 4 1, 3) := by decide +kernel
theorem dX11_meant_71 : decode cX11_meant 71 = .ok (.goto (-46), 3) := by decide +kernel
theorem dX11_meant_74 : decode cX11_meant 74 = .ok (.iload_n 3, 1) := by decide +kernel
theorem dX11_meant_75 : decode cX11_meant 75 = .ok (.ireturn, 1) := by decide +kernel
theorem dX11_passed_0 : decode cX11_passed 0 = .ok (.aload_n 0, 1) := by decide +kernel
theorem dX11_passed_1 : decode cX11_passed 1 = .ok (.iload_n 1, 1) := by decide +kernel
theorem dX11_passed_2 : decode cX11_passed 2 = .ok (.invokevirtual 88, 3) := by decide +kernel
theorem dX11_passed_5 : decode cX11_passed 5 = .ok (.ifCond .eq 13, 3) := by decide +kernel
theorem dX11_passed_8 : decode cX11_passed 8 = .ok (.iload_n 2, 1) := by decide +kernel
theorem dX11_passed_9 : decode cX11_passed 9 = .ok (.iconst (-1), 1) := by decide +kernel
theorem dX11_passed_10 : decode cX11_passed 10 = .ok (.if_icmp .lt 8, 3) := by decide +kernel
theorem dX11_passed_13 : decode cX11_passed 13 = .ok (.iload_n 2, 1) := by decide +kernel
theorem dX11_passed_14 : decode cX11_passed 14 = .ok (.iconst 5, 1) := by decide +kernel
theorem dX11_passed_15 : decode cX11_passed 15 = .ok (.if_icmp .lt 5, 3) := by decide +kernel
theorem dX11_passed_18 : decode cX11_passed 18 = .ok (.iconst (-1), 1) := by decide +kernel
theorem dX11_passed_19 : decode cX11_passed 19 = .ok (.ireturn, 1) := by decide +kernel
theorem dX11_passed_20 : decode cX11_passed 20 = .ok (.iload_n 2, 1) := by decide +kernel
theorem dX11_passed_21 : decode cX11_passed 21 = .ok (.aload_n 0, 1) := by decide +kernel
theorem dX11_passed_22 : decode cX11_passed 22 = .ok (.getfield 14, 3) := by decide +kernel
theorem dX11_passed_25 : decode cX11_passed 25 = .ok (.getfield 101, 3) := by decide +kernel
theorem dX11_passed_28 : decode cX11_passed 28 = .ok (.if_icmp .lt 6, 3) := by decide +kernel
theorem dX11_passed_31 : decode cX11_passed 31 = .ok (.bipush (-5), 2) := by decide +kernel
theorem dX11_passed_33 : decode cX11_passed 33 = .ok (.ireturn, 1) := by decide +kernel
theorem dX11_passed_34 : decode cX11_passed 34 = .ok (.aload_n 0, 1) := by decide +kernel
theorem dX11_passed_35 : decode cX11_passed 35 = .ok (.aload_n 0, 1) := by decide +kernel
theorem dX11_passed_36 : decode cX11_passed 36 = .ok (.getfield 14, 3) := by decide +kernel
theorem dX11_passed_39 : decode cX11_passed 39 = .ok (.getfield 77, 3) := by decide +kernel
theorem dX11_passed_42 : decode cX11_passed 42 = .ok (.iload_n 1, 1) := by decide +kernel
theorem dX11_passed_43 : decode cX11_passed 43 = .ok (.invokevirtual 91, 3) := by decide +kernel
theorem dX11_passed_46 : decode cX11_passed 46 = .ok (.invokevirtual 182, 3) := by decide +kernel
theorem dX11_passed_49 : decode cX11_passed 49 = .ok (.istore_n 3, 1) := by decide +kernel
theorem dX11_passed_50 : decode cX11_passed 50 = .ok (.iload_n 2, 1) := by decide +kernel
theorem dX11_passed_51 : decode cX11_passed 51 = .ok (.ifCond .ge 7, 3) := by decide +kernel
theorem dX11_passed_54 : decode cX11_passed 54 = .ok (.iload_n 3, 1) := by decide +kernel
theorem dX11_passed_55 : decode cX11_passed 55 = .ok (.goto 9, 3) := by decide +kernel
theorem dX11_passed_58 : decode cX11_passed 58 = .ok (.aload_n 0, 1) := by decide +kernel
theorem dX11_passed_59 : decode cX11_passed 59 = .ok (.getfield 69, 3) := by decide +kernel
theorem dX11_passed_62 : decode cX11_passed 62 = .ok (.iload_n 2, 1) := by decide +kernel
theorem dX11_passed_63 : decode cX11_passed 63 = .ok (.iaload, 1) := by decide +kernel
theorem dX11_passed_64 : decode cX11_passed 64 = .ok (.ireturn, 1) := by decide +kernel
theorem dX11_see_0 : decode cX11_see 0 = .ok (.aload_n 0, 1) := by decide +kernel
theorem dX11_see_1 : decode cX11_see 1 = .ok (.aload_n 0, 1) := by decide +kernel
theorem dX11_see_2 : decode cX11_see 2 = .ok (.getfield 14, 3) := by decide +kernel
theorem dX11_see_5 : decode cX11_see 5 = .ok (.getfield 185, 3) := by decide +kernel
theorem dX11_see_8 : decode cX11_see 8 = .ok (.iload_n 1, 1) := by decide +kernel
theorem dX11_see_9 : decode cX11_see 9 = .ok (.iload_n 2, 1) := by decide +kernel
theorem dX11_see_10 : decode cX11_see 10 = .ok (.invokevirtual 188, 3) := by decide +kernel
theorem dX11_see_13 : decode cX11_see 13 = .ok (.ireturn, 1) := by decide +kernel
theorem dX11_can_0 : decode cX11_can 0 = .ok (.aload_n 0, 1) := by decide +kernel
theorem dX11_can_1 : decode cX11_can 1 = .ok (.iload_n 1, 1) := by decide +kernel
theorem dX11_can_2 : decode cX11_can 2 = .ok (.invokevirtual 112, 3) := by decide +kernel
theorem dX11_can_5 : decode cX11_can 5 = .ok (.ifCond .eq 10, 3) := by decide +kernel
theorem dX11_can_8 : decode cX11_can 8 = .ok (.iload_n 2, 1) := by decide +kernel
theorem dX11_can_9 : decode cX11_can 9 = .ok (.invokestatic 172, 3) := by decide +kernel
theorem dX11_can_12 : decode cX11_can 12 = .ok (.ifCond .ne 5, 3) := by decide +kernel
theorem dX11_can_15 : decode cX11_can 15 = .ok (.iconst (-1), 1) := by decide +kernel
theorem dX11_can_16 : decode cX11_can 16 = .ok (.ireturn, 1) := by decide +kernel
theorem dX11_can_17 : decode cX11_can 17 = .ok (.bipush (-5), 2) := by decide +kernel
theorem dX11_can_19 : decode cX11_can 19 = .ok (.istore_n 3, 1) := by decide +kernel
theorem dX11_can_20 : decode cX11_can 20 = .ok (.iconst 0, 1) := by decide +kernel
theorem dX11_can_21 : decode cX11_can 21 = .ok (.istore 4, 2) := by decide +kernel
theorem dX11_can_23 : decode cX11_can 23 = .ok (.iconst 0, 1) := by decide +kernel
theorem dX11_can_24 : decode cX11_can 24 = .ok (.istore 5, 2) := by decide +kernel
theorem dX11_can_26 : decode cX11_can 26 = .ok (.iload 5, 2) := by decide +kernel
theorem dX11_can_28 : decode cX11_can 28 = .ok (.bipush 10, 2) := by decide +kernel
theorem dX11_can_30 : decode cX11_can 30 = .ok (.if_icmp .ge 41, 3) := by decide +kernel
theorem dX11_can_33 : decode cX11_can 33 = .ok (.aload_n 0, 1) := by decide +kernel
theorem dX11_can_34 : decode cX11_can 34 = .ok (.iload_n 1, 1) := by decide +kernel
theorem dX11_can_35 : decode cX11_can 35 = .ok (.iload 5, 2) := by decide +kernel
theorem dX11_can_37 : decode cX11_can 37 = .ok (.aload_n 0, 1) := by decide +kernel
theorem dX11_can_38 : decode cX11_can 38 = .ok (.getfield 14, 3) := by decide +kernel
theorem dX11_can_41 : decode cX11_can 41 = .ok (.getfield 158, 3) := by decide +kernel
theorem dX11_can_44 : decode cX11_can 44 = .ok (.invokevirtual 192, 3) := by decide +kernel
theorem dX11_can_47 : decode cX11_can 47 = .ok (.ifCond .eq 18, 3) := by decide +kernel
theorem dX11_can_50 : decode cX11_can 50 = .ok (.iload 4, 2) := by decide +kernel
theorem dX11_can_52 : decode cX11_can 52 = .ok (.ifCond .ne 8, 3) := by decide +kernel
theorem dX11_can_55 : decode cX11_can 55 = .ok (.iload 5, 2) := by decide +kernel
theorem dX11_can_57 : decode cX11_can 57 = .ok (.goto 4, 3) := by decide +kernel
theorem dX11_can_60 : decode cX11_can 60 = .ok (.iload_n 3, 1) := by decide +kernel
theorem dX11_can_61 : decode cX11_can 61 = .ok (.istore_n 3, 1) := by decide +kernel
theorem dX11_can_62 : decode cX11_can 62 = .ok (.iinc 4 1, 3) := by decide +kernel
theorem dX11_can_65 : decode cX11_can 65 = .ok (.iinc 5 1, 3) := by decide +kernel
theorem dX11_can_68 : decode cX11_can 68 = .ok (.goto (-42), 3) := by decide +kernel
theorem dX11_can_71 : decode cX11_can 71 = .ok (.iload_n 2, 1) := by decide +kernel
theorem dX11_can_72 : decode cX11_can 72 = .ok (.ifCond .ne 8, 3) := by decide +kernel
theorem dX11_can_75 : decode cX11_can 75 = .ok (.iload 4, 2) := by decide +kernel
theorem dX11_can_77 : decode cX11_can 77 = .ok (.goto 4, 3) := by decide +kernel
theorem dX11_can_80 : decode cX11_can 80 = .ok (.iload_n 3, 1) := by decide +kernel
theorem dX11_can_81 : decode cX11_can 81 = .ok (.ireturn, 1) := by decide +kernel
theorem dX11_when_0 : decode cX11_when 0 = .ok (.aload_n 0, 1) := by decide +kernel
theorem dX11_when_1 : decode cX11_when 1 = .ok (.iload_n 1, 1) := by decide +kernel
theorem dX11_when_2 : decode cX11_when 2 = .ok (.invokevirtual 112, 3) := by decide +kernel
theorem dX11_when_5 : decode cX11_when 5 = .ok (.ifCond .eq 10, 3) := by decide +kernel
theorem dX11_when_8 : decode cX11_when 8 = .ok (.iload_n 2, 1) := by decide +kernel
theorem dX11_when_9 : decode cX11_when 9 = .ok (.invokestatic 172, 3) := by decide +kernel
theorem dX11_when_12 : decode cX11_when 12 = .ok (.ifCond .ne 5, 3) := by decide +kernel
theorem dX11_when_15 : decode cX11_when 15 = .ok (.iconst (-1), 1) := by decide +kernel
theorem dX11_when_16 : decode cX11_when 16 = .ok (.ireturn, 1) := by decide +kernel
theorem dX11_when_17 : decode cX11_when 17 = .ok (.bipush (-5), 2) := by decide +kernel
theorem dX11_when_19 : decode cX11_when 19 = .ok (.istore_n 3, 1) := by decide +kernel
theorem dX11_when_20 : decode cX11_when 20 = .ok (.iconst 0, 1) := by decide +kernel
theorem dX11_when_21 : decode cX11_when 21 = .ok (.istore 4, 2) := by decide +kernel
theorem dX11_when_23 : decode cX11_when 23 = .ok (.iconst 0, 1) := by decide +kernel
theorem dX11_when_24 : decode cX11_when 24 = .ok (.istore 5, 2) := by decide +kernel
theorem dX11_when_26 : decode cX11_when 26 = .ok (.iload 5, 2) := by decide +kernel
theorem dX11_when_28 : decode cX11_when 28 = .ok (.bipush 24, 2) := by decide +kernel
theorem dX11_when_30 : decode cX11_when 30 = .ok (.if_icmp .ge 54, 3) := by decide +kernel
theorem dX11_when_33 : decode cX11_when 33 = .ok (.aload_n 0, 1) := by decide +kernel
theorem dX11_when_34 : decode cX11_when 34 = .ok (.iload_n 1, 1) := by decide +kernel
theorem dX11_when_35 : decode cX11_when 35 = .ok (.aload_n 0, 1) := by decide +kernel
theorem dX11_when_36 : decode cX11_when 36 = .ok (.getfield 14, 3) := by decide +kernel
theorem dX11_when_39 : decode cX11_when 39 = .ok (.getfield 115, 3) := by decide +kernel
theorem dX11_when_42 : decode cX11_when 42 = .ok (.iload_n 1, 1) := by decide +kernel
theorem dX11_when_43 : decode cX11_when 43 = .ok (.aaload, 1) := by decide +kernel
theorem dX11_when_44 : decode cX11_when 44 = .ok (.getfield 124, 3) := by decide +kernel
theorem dX11_when_47 : decode cX11_when 47 = .ok (.aload_n 0, 1) := by decide +kernel
theorem dX11_when_48 : decode cX11_when 48 = .ok (.getfield 14, 3) := by decide +kernel
theorem dX11_when_51 : decode cX11_when 51 = .ok (.getfield 158, 3) := by decide +kernel
theorem dX11_when_54 : decode cX11_when 54 = .ok (.iload 5, 2) := by decide +kernel
theorem dX11_when_56 : decode cX11_when 56 = .ok (.iadd, 1) := by decide +kernel
theorem dX11_when_57 : decode cX11_when 57 = .ok (.invokevirtual 192, 3) := by decide +kernel
theorem dX11_when_60 : decode cX11_when 60 = .ok (.ifCond .eq 18, 3) := by decide +kernel
theorem dX11_when_63 : decode cX11_when 63 = .ok (.iload 4, 2) := by decide +kernel
theorem dX11_when_65 : decode cX11_when 65 = .ok (.ifCond .ne 8, 3) := by decide +kernel
theorem dX11_when_68 : decode cX11_when 68 = .ok (.iload 5, 2) := by decide +kernel
theorem dX11_when_70 : decode cX11_when 70 = .ok (.goto 4, 3) := by decide +kernel
theorem dX11_when_73 : decode cX11_when 73 = .ok (.iload_n 3, 1) := by decide +kernel
theorem dX11_when_74 : decode cX11_when 74 = .ok (.istore_n 3, 1) := by decide +kernel
theorem dX11_when_75 : decode cX11_when 75 = .ok (.iinc 4 1, 3) := by decide +kernel
theorem dX11_when_78 : decode cX11_when 78 = .ok (.iinc 5 1, 3) := by decide +kernel
theorem dX11_when_81 : decode cX11_when 81 = .ok (.goto (-55), 3) := by decide +kernel
theorem dX11_when_84 : decode cX11_when 84 = .ok (.iload_n 2, 1) := by decide +kernel
theorem dX11_when_85 : decode cX11_when 85 = .ok (.ifCond .ne 8, 3) := by decide +kernel
theorem dX11_when_88 : decode cX11_when 88 = .ok (.iload 4, 2) := by decide +kernel
theorem dX11_when_90 : decode cX11_when 90 = .ok (.goto 4, 3) := by decide +kernel
theorem dX11_when_93 : decode cX11_when 93 = .ok (.iload_n 3, 1) := by decide +kernel
theorem dX11_when_94 : decode cX11_when 94 = .ok (.ireturn, 1) := by decide +kernel
theorem dX11_odds_0 : decode cX11_odds 0 = .ok (.aload_n 0, 1) := by decide +kernel
theorem dX11_odds_1 : decode cX11_odds 1 = .ok (.iload_n 1, 1) := by decide +kernel
theorem dX11_odds_2 : decode cX11_odds 2 = .ok (.invokevirtual 112, 3) := by decide +kernel
theorem dX11_odds_5 : decode cX11_odds 5 = .ok (.ifCond .eq 18, 3) := by decide +kernel
theorem dX11_odds_8 : decode cX11_odds 8 = .ok (.aload_n 0, 1) := by decide +kernel
theorem dX11_odds_9 : decode cX11_odds 9 = .ok (.iload_n 2, 1) := by decide +kernel
theorem dX11_odds_10 : decode cX11_odds 10 = .ok (.invokevirtual 88, 3) := by decide +kernel
theorem dX11_odds_13 : decode cX11_odds 13 = .ok (.ifCond .eq 10, 3) := by decide +kernel
theorem dX11_odds_16 : decode cX11_odds 16 = .ok (.iload_n 3, 1) := by decide +kernel
theorem dX11_odds_17 : decode cX11_odds 17 = .ok (.invokestatic 172, 3) := by decide +kernel
theorem dX11_odds_20 : decode cX11_odds 20 = .ok (.ifCond .ne 7, 3) := by decide +kernel
theorem dX11_odds_23 : decode cX11_odds 23 = .ok (.ldc2_w 195, 3) := by decide +kernel
theorem dX11_odds_26 : decode cX11_odds 26 = .ok (.lreturn, 1) := by decide +kernel
theorem dX11_odds_27 : decode cX11_odds 27 = .ok (.aload_n 0, 1) := by decide +kernel
theorem dX11_odds_28 : decode cX11_odds 28 = .ok (.iload_n 1, 1) := by decide +kernel
theorem dX11_odds_29 : decode cX11_odds 29 = .ok (.aload_n 0, 1) := by decide +kernel
theorem dX11_odds_30 : decode cX11_odds 30 = .ok (.getfield 14, 3) := by decide +kernel
theorem dX11_odds_33 : decode cX11_odds 33 = .ok (.getfield 77, 3) := by decide +kernel
theorem dX11_odds_36 : decode cX11_odds 36 = .ok (.iload_n 2, 1) := by decide +kernel
theorem dX11_odds_37 : decode cX11_odds 37 = .ok (.invokevirtual 91, 3) := by decide +kernel
theorem dX11_odds_40 : decode cX11_odds 40 = .ok (.invokevirtual 136, 3) := by decide +kernel
theorem dX11_odds_43 : decode cX11_odds 43 = .ok (.istore 4, 2) := by decide +kernel
theorem dX11_odds_45 : decode cX11_odds 45 = .ok (.iconst 0, 1) := by decide +kernel
theorem dX11_odds_46 : decode cX11_odds 46 = .ok (.istore 5, 2) := by decide +kernel
theorem dX11_odds_48 : decode cX11_odds 48 = .ok (.iconst 0, 1) := by decide +kernel
theorem dX11_odds_49 : decode cX11_odds 49 = .ok (.istore 6, 2) := by decide +kernel
theorem dX11_odds_51 : decode cX11_odds 51 = .ok (.iload 6, 2) := by decide +kernel
theorem dX11_odds_53 : decode cX11_odds 53 = .ok (.bipush 10, 2) := by decide +kernel
theorem dX11_odds_55 : decode cX11_odds 55 = .ok (.if_icmp .ge 27, 3) := by decide +kernel
theorem dX11_odds_58 : decode cX11_odds 58 = .ok (.aload_n 0, 1) := by decide +kernel
theorem dX11_odds_59 : decode cX11_odds 59 = .ok (.iload 4, 2) := by decide +kernel
theorem dX11_odds_61 : decode cX11_odds 61 = .ok (.iconst 1, 1) := by decide +kernel
theorem dX11_odds_62 : decode cX11_odds 62 = .ok (.iload 6, 2) := by decide +kernel
theorem dX11_odds_64 : decode cX11_odds 64 = .ok (.ishl, 1) := by decide +kernel
theorem dX11_odds_65 : decode cX11_odds 65 = .ok (.ixor, 1) := by decide +kernel
theorem dX11_odds_66 : decode cX11_odds 66 = .ok (.invokevirtual 140, 3) := by decide +kernel
theorem dX11_odds_69 : decode cX11_odds 69 = .ok (.iload_n 2, 1) := by decide +kernel
theorem dX11_odds_70 : decode cX11_odds 70 = .ok (.if_icmp .ne 6, 3) := by decide +kernel
theorem dX11_odds_73 : decode cX11_odds 73 = .ok (.iinc 5 1, 3) := by decide +kernel
theorem dX11_odds_76 : decode cX11_odds 76 = .ok (.iinc 6 1, 3) := by decide +kernel
theorem dX11_odds_79 : decode cX11_odds 79 = .ok (.goto (-28), 3) := by decide +kernel
theorem dX11_odds_82 : decode cX11_odds 82 = .ok (.iload 5, 2) := by decide +kernel
theorem dX11_odds_84 : decode cX11_odds 84 = .ok (.bipush 10, 2) := by decide +kernel
theorem dX11_odds_86 : decode cX11_odds 86 = .ok (.iload_n 3, 1) := by decide +kernel
theorem dX11_odds_87 : decode cX11_odds 87 = .ok (.invokestatic 197, 3) := by decide +kernel
theorem dX11_odds_90 : decode cX11_odds 90 = .ok (.lreturn, 1) := by decide +kernel
theorem dX11_mean_0 : decode cX11_mean 0 = .ok (.iload_n 1, 1) := by decide +kernel
theorem dX11_mean_1 : decode cX11_mean 1 = .ok (.invokestatic 172, 3) := by decide +kernel
theorem dX11_mean_4 : decode cX11_mean 4 = .ok (.ifCond .eq 16, 3) := by decide +kernel
theorem dX11_mean_7 : decode cX11_mean 7 = .ok (.aload_n 0, 1) := by decide +kernel
theorem dX11_mean_8 : decode cX11_mean 8 = .ok (.getfield 14, 3) := by decide +kernel
theorem dX11_mean_11 : decode cX11_mean 11 = .ok (.getfield 77, 3) := by decide +kernel
theorem dX11_mean_14 : decode cX11_mean 14 = .ok (.getfield 179, 3) := by decide +kernel
theorem dX11_mean_17 : decode cX11_mean 17 = .ok (.ifCond .ne 7, 3) := by decide +kernel
theorem dX11_mean_20 : decode cX11_mean 20 = .ok (.ldc2_w 195, 3) := by decide +kernel
theorem dX11_mean_23 : decode cX11_mean 23 = .ok (.lreturn, 1) := by decide +kernel
theorem dX11_mean_24 : decode cX11_mean 24 = .ok (.iconst 0, 1) := by decide +kernel
theorem dX11_mean_25 : decode cX11_mean 25 = .ok (.istore_n 2, 1) := by decide +kernel
theorem dX11_mean_26 : decode cX11_mean 26 = .ok (.iconst 0, 1) := by decide +kernel
theorem dX11_mean_27 : decode cX11_mean 27 = .ok (.istore_n 3, 1) := by decide +kernel
theorem dX11_mean_28 : decode cX11_mean 28 = .ok (.iload_n 3, 1) := by decide +kernel
theorem dX11_mean_29 : decode cX11_mean 29 = .ok (.aload_n 0, 1) := by decide +kernel
theorem dX11_mean_30 : decode cX11_mean 30 = .ok (.getfield 14, 3) := by decide +kernel
theorem dX11_mean_33 : decode cX11_mean 33 = .ok (.getfield 77, 3) := by decide +kernel
theorem dX11_mean_36 : decode cX11_mean 36 = .ok (.getfield 179, 3) := by decide +kernel
theorem dX11_mean_39 : decode cX11_mean 39 = .ok (.if_icmp .ge 26, 3) := by decide +kernel
theorem dX11_mean_42 : decode cX11_mean 42 = .ok (.iload_n 2, 1) := by decide +kernel
theorem dX11_mean_43 : decode cX11_mean 43 = .ok (.aload_n 0, 1) := by decide +kernel
theorem dX11_mean_44 : decode cX11_mean 44 = .ok (.getfield 14, 3) := by decide +kernel
theorem dX11_mean_47 : decode cX11_mean 47 = .ok (.getfield 77, 3) := by decide +kernel
theorem dX11_mean_50 : decode cX11_mean 50 = .ok (.iload_n 3, 1) := by decide +kernel
theorem dX11_mean_51 : decode cX11_mean 51 = .ok (.invokevirtual 91, 3) := by decide +kernel
theorem dX11_mean_54 : decode cX11_mean 54 = .ok (.invokestatic 201, 3) := by decide +kernel
theorem dX11_mean_57 : decode cX11_mean 57 = .ok (.iadd, 1) := by decide +kernel
theorem dX11_mean_58 : decode cX11_mean 58 = .ok (.istore_n 2, 1) := by decide +kernel
theorem dX11_mean_59 : decode cX11_mean 59 = .ok (.iinc 3 1, 3) := by decide +kernel
theorem dX11_mean_62 : decode cX11_mean 62 = .ok (.goto (-34), 3) := by decide +kernel
theorem dX11_mean_65 : decode cX11_mean 65 = .ok (.iload_n 2, 1) := by decide +kernel
theorem dX11_mean_66 : decode cX11_mean 66 = .ok (.aload_n 0, 1) := by decide +kernel
theorem dX11_mean_67 : decode cX11_mean 67 = .ok (.getfield 14, 3) := by decide +kernel
theorem dX11_mean_70 : decode cX11_mean 70 = .ok (.getfield 77, 3) := by decide +kernel
theorem dX11_mean_73 : decode cX11_mean 73 = .ok (.getfield 179, 3) := by decide +kernel
theorem dX11_mean_76 : decode cX11_mean 76 = .ok (.iload_n 1, 1) := by decide +kernel
theorem dX11_mean_77 : decode cX11_mean 77 = .ok (.invokestatic 197, 3) := by decide +kernel
theorem dX11_mean_80 : decode cX11_mean 80 = .ok (.lreturn, 1) := by decide +kernel
theorem dX11_relay_0 : decode cX11_relay 0 = .ok (.iload_n 1, 1) := by decide +kernel
theorem dX11_relay_1 : decode cX11_relay 1 = .ok (.iconst (-1), 1) := by decide +kernel
theorem dX11_relay_2 : decode cX11_relay 2 = .ok (.if_icmp .ne 15, 3) := by decide +kernel
theorem dX11_relay_5 : decode cX11_relay 5 = .ok (.aload_n 0, 1) := by decide +kernel
theorem dX11_relay_6 : decode cX11_relay 6 = .ok (.getfield 14, 3) := by decide +kernel
theorem dX11_relay_9 : decode cX11_relay 9 = .ok (.getfield 206, 3) := by decide +kernel
theorem dX11_relay_12 : decode cX11_relay 12 = .ok (.invokevirtual 152, 3) := by decide +kernel
theorem dX11_relay_15 : decode cX11_relay 15 = .ok (.iconst 0, 1) := by decide +kernel
theorem dX11_relay_16 : decode cX11_relay 16 = .ok (.ireturn, 1) := by decide +kernel
theorem dX11_relay_17 : decode cX11_relay 17 = .ok (.iload_n 1, 1) := by decide +kernel
theorem dX11_relay_18 : decode cX11_relay 18 = .ok (.iconst 5, 1) := by decide +kernel
theorem dX11_relay_19 : decode cX11_relay 19 = .ok (.if_icmp .eq 13, 3) := by decide +kernel
theorem dX11_relay_22 : decode cX11_relay 22 = .ok (.aload_n 0, 1) := by decide +kernel
theorem dX11_relay_23 : decode cX11_relay 23 = .ok (.iload_n 1, 1) := by decide +kernel
theorem dX11_relay_24 : decode cX11_relay 24 = .ok (.invokevirtual 112, 3) := by decide +kernel
theorem dX11_relay_27 : decode cX11_relay 27 = .ok (.ifCond .ne 5, 3) := by decide +kernel
theorem dX11_relay_30 : decode cX11_relay 30 = .ok (.iconst (-1), 1) := by decide +kernel
theorem dX11_relay_31 : decode cX11_relay 31 = .ok (.ireturn, 1) := by decide +kernel
theorem dX11_relay_32 : decode cX11_relay 32 = .ok (.aload_n 0, 1) := by decide +kernel
theorem dX11_relay_33 : decode cX11_relay 33 = .ok (.getfield 14, 3) := by decide +kernel
theorem dX11_relay_36 : decode cX11_relay 36 = .ok (.getfield 206, 3) := by decide +kernel
theorem dX11_relay_39 : decode cX11_relay 39 = .ok (.invokevirtual 80, 3) := by decide +kernel
theorem dX11_relay_42 : decode cX11_relay 42 = .ok (.ifCond .eq 8, 3) := by decide +kernel
theorem dX11_relay_45 : decode cX11_relay 45 = .ok (.bipush (-4), 2) := by decide +kernel
theorem dX11_relay_47 : decode cX11_relay 47 = .ok (.goto 14, 3) := by decide +kernel
theorem dX11_relay_50 : decode cX11_relay 50 = .ok (.aload_n 0, 1) := by decide +kernel
theorem dX11_relay_51 : decode cX11_relay 51 = .ok (.getfield 14, 3) := by decide +kernel
theorem dX11_relay_54 : decode cX11_relay 54 = .ok (.getfield 206, 3) := by decide +kernel
theorem dX11_relay_57 : decode cX11_relay 57 = .ok (.iload_n 1, 1) := by decide +kernel
theorem dX11_relay_58 : decode cX11_relay 58 = .ok (.invokevirtual 84, 3) := by decide +kernel
theorem dX11_relay_61 : decode cX11_relay 61 = .ok (.ireturn, 1) := by decide +kernel
theorem dX11_ends_0 : decode cX11_ends 0 = .ok (.aload_n 0, 1) := by decide +kernel
theorem dX11_ends_1 : decode cX11_ends 1 = .ok (.iload_n 1, 1) := by decide +kernel
theorem dX11_ends_2 : decode cX11_ends 2 = .ok (.invokevirtual 88, 3) := by decide +kernel
theorem dX11_ends_5 : decode cX11_ends 5 = .ok (.ifCond .eq 10, 3) := by decide +kernel
theorem dX11_ends_8 : decode cX11_ends 8 = .ok (.iload_n 2, 1) := by decide +kernel
theorem dX11_ends_9 : decode cX11_ends 9 = .ok (.invokestatic 172, 3) := by decide +kernel
theorem dX11_ends_12 : decode cX11_ends 12 = .ok (.ifCond .ne 5, 3) := by decide +kernel
theorem dX11_ends_15 : decode cX11_ends 15 = .ok (.iconst (-1), 1) := by decide +kernel
theorem dX11_ends_16 : decode cX11_ends 16 = .ok (.ireturn, 1) := by decide +kernel
theorem dX11_ends_17 : decode cX11_ends 17 = .ok (.aload_n 0, 1) := by decide +kernel
theorem dX11_ends_18 : decode cX11_ends 18 = .ok (.getfield 14, 3) := by decide +kernel
theorem dX11_ends_21 : decode cX11_ends 21 = .ok (.getfield 77, 3) := by decide +kernel
theorem dX11_ends_24 : decode cX11_ends 24 = .ok (.iload_n 1, 1) := by decide +kernel
theorem dX11_ends_25 : decode cX11_ends 25 = .ok (.invokevirtual 91, 3) := by decide +kernel
theorem dX11_ends_28 : decode cX11_ends 28 = .ok (.istore_n 3, 1) := by decide +kernel
theorem dX11_ends_29 : decode cX11_ends 29 = .ok (.aload_n 0, 1) := by decide +kernel
theorem dX11_ends_30 : decode cX11_ends 30 = .ok (.getfield 14, 3) := by decide +kernel
theorem dX11_ends_33 : decode cX11_ends 33 = .ok (.getfield 158, 3) := by decide +kernel
theorem dX11_ends_36 : decode cX11_ends 36 = .ok (.istore 4, 2) := by decide +kernel
theorem dX11_ends_38 : decode cX11_ends 38 = .ok (.iconst 0, 1) := by decide +kernel
theorem dX11_ends_39 : decode cX11_ends 39 = .ok (.istore 5, 2) := by decide +kernel
theorem dX11_ends_41 : decode cX11_ends 41 = .ok (.iload 5, 2) := by decide +kernel
theorem dX11_ends_43 : decode cX11_ends 43 = .ok (.aload_n 0, 1) := by decide +kernel
theorem dX11_ends_44 : decode cX11_ends 44 = .ok (.getfield 14, 3) := by decide +kernel
theorem dX11_ends_47 : decode cX11_ends 47 = .ok (.getfield 206, 3) := by decide +kernel
theorem dX11_ends_50 : decode cX11_ends 50 = .ok (.getfield 179, 3) := by decide +kernel
theorem dX11_ends_53 : decode cX11_ends 53 = .ok (.if_icmp .ge 67, 3) := by decide +kernel
theorem dX11_ends_56 : decode cX11_ends 56 = .ok (.aload_n 0, 1) := by decide +kernel
theorem dX11_ends_57 : decode cX11_ends 57 = .ok (.getfield 14, 3) := by decide +kernel
theorem dX11_ends_60 : decode cX11_ends 60 = .ok (.getfield 206, 3) := by decide +kernel
theorem dX11_ends_63 : decode cX11_ends 63 = .ok (.iload 5, 2) := by decide +kernel
theorem dX11_ends_65 : decode cX11_ends 65 = .ok (.invokevirtual 91, 3) := by decide +kernel
theorem dX11_ends_68 : decode cX11_ends 68 = .ok (.istore 6, 2) := by decide +kernel
theorem dX11_ends_70 : decode cX11_ends 70 = .ok (.iload 6, 2) := by decide +kernel
theorem dX11_ends_72 : decode cX11_ends 72 = .ok (.iconst 5, 1) := by decide +kernel
theorem dX11_ends_73 : decode cX11_ends 73 = .ok (.if_icmp .ne 9, 3) := by decide +kernel
theorem dX11_ends_76 : decode cX11_ends 76 = .ok (.iinc 4 1, 3) := by decide +kernel
theorem dX11_ends_79 : decode cX11_ends 79 = .ok (.goto 35, 3) := by decide +kernel
theorem dX11_ends_82 : decode cX11_ends 82 = .ok (.aload_n 0, 1) := by decide +kernel
theorem dX11_ends_83 : decode cX11_ends 83 = .ok (.iload 6, 2) := by decide +kernel
theorem dX11_ends_85 : decode cX11_ends 85 = .ok (.invokevirtual 112, 3) := by decide +kernel
theorem dX11_ends_88 : decode cX11_ends 88 = .ok (.ifCond .eq 26, 3) := by decide +kernel
theorem dX11_ends_91 : decode cX11_ends 91 = .ok (.aload_n 0, 1) := by decide +kernel
theorem dX11_ends_92 : decode cX11_ends 92 = .ok (.iload 6, 2) := by decide +kernel
theorem dX11_ends_94 : decode cX11_ends 94 = .ok (.aload_n 0, 1) := by decide +kernel
theorem dX11_ends_95 : decode cX11_ends 95 = .ok (.getfield 14, 3) := by decide +kernel
theorem dX11_ends_98 : decode cX11_ends 98 = .ok (.getfield 115, 3) := by decide +kernel
theorem dX11_ends_101 : decode cX11_ends 101 = .ok (.iload 6, 2) := by decide +kernel
theorem dX11_ends_103 : decode cX11_ends 103 = .ok (.aaload, 1) := by decide +kernel
theorem dX11_ends_104 : decode cX11_ends 104 = .ok (.getfield 124, 3) := by decide +kernel
theorem dX11_ends_107 : decode cX11_ends 107 = .ok (.iload 4, 2) := by decide +kernel
theorem dX11_ends_109 : decode cX11_ends 109 = .ok (.iload_n 3, 1) := by decide +kernel
theorem dX11_ends_110 : decode cX11_ends 110 = .ok (.invokevirtual 209, 3) := by decide +kernel
theorem dX11_ends_113 : decode cX11_ends 113 = .ok (.istore_n 3, 1) := by decide +kernel
theorem dX11_ends_114 : decode cX11_ends 114 = .ok (.iinc 5 1, 3) := by decide +kernel
theorem dX11_ends_117 : decode cX11_ends 117 = .ok (.goto (-76), 3) := by decide +kernel
theorem dX11_ends_120 : decode cX11_ends 120 = .ok (.iload_n 2, 1) := by decide +kernel
theorem dX11_ends_121 : decode cX11_ends 121 = .ok (.ifCond .ne 7, 3) := by decide +kernel
theorem dX11_ends_124 : decode cX11_ends 124 = .ok (.iload_n 3, 1) := by decide +kernel
theorem dX11_ends_125 : decode cX11_ends 125 = .ok (.goto 8, 3) := by decide +kernel
theorem dX11_ends_128 : decode cX11_ends 128 = .ok (.aload_n 0, 1) := by decide +kernel
theorem dX11_ends_129 : decode cX11_ends 129 = .ok (.iload_n 3, 1) := by decide +kernel
theorem dX11_ends_130 : decode cX11_ends 130 = .ok (.invokevirtual 140, 3) := by decide +kernel
theorem dX11_ends_133 : decode cX11_ends 133 = .ok (.ireturn, 1) := by decide +kernel
theorem dX11_book_0 : decode cX11_book 0 = .ok (.aload_n 0, 1) := by decide +kernel
theorem dX11_book_1 : decode cX11_book 1 = .ok (.aload_n 0, 1) := by decide +kernel
theorem dX11_book_2 : decode cX11_book 2 = .ok (.getfield 14, 3) := by decide +kernel
theorem dX11_book_5 : decode cX11_book 5 = .ok (.getfield 213, 3) := by decide +kernel
theorem dX11_book_8 : decode cX11_book 8 = .ok (.iload_n 1, 1) := by decide +kernel
theorem dX11_book_9 : decode cX11_book 9 = .ok (.iload_n 2, 1) := by decide +kernel
theorem dX11_book_10 : decode cX11_book 10 = .ok (.invokevirtual 188, 3) := by decide +kernel
theorem dX11_book_13 : decode cX11_book 13 = .ok (.ireturn, 1) := by decide +kernel
theorem dX11_looked_0 : decode cX11_looked 0 = .ok (.iconst 0, 1) := by decide +kernel
theorem dX11_looked_1 : decode cX11_looked 1 = .ok (.istore_n 1, 1) := by decide +kernel
theorem dX11_looked_2 : decode cX11_looked 2 = .ok (.iload_n 1, 1) := by decide +kernel
theorem dX11_looked_3 : decode cX11_looked 3 = .ok (.aload_n 0, 1) := by decide +kernel
theorem dX11_looked_4 : decode cX11_looked 4 = .ok (.getfield 14, 3) := by decide +kernel
theorem dX11_looked_7 : decode cX11_looked 7 = .ok (.getfield 213, 3) := by decide +kernel
theorem dX11_looked_10 : decode cX11_looked 10 = .ok (.getfield 179, 3) := by decide +kernel
theorem dX11_looked_13 : decode cX11_looked 13 = .ok (.if_icmp .ge 46, 3) := by decide +kernel
theorem dX11_looked_16 : decode cX11_looked 16 = .ok (.aload_n 0, 1) := by decide +kernel
theorem dX11_looked_17 : decode cX11_looked 17 = .ok (.getfield 14, 3) := by decide +kernel
theorem dX11_looked_20 : decode cX11_looked 20 = .ok (.getfield 213, 3) := by decide +kernel
theorem dX11_looked_23 : decode cX11_looked 23 = .ok (.iload_n 1, 1) := by decide +kernel
theorem dX11_looked_24 : decode cX11_looked 24 = .ok (.invokevirtual 91, 3) := by decide +kernel
theorem dX11_looked_27 : decode cX11_looked 27 = .ok (.istore_n 2, 1) := by decide +kernel
theorem dX11_looked_28 : decode cX11_looked 28 = .ok (.aload_n 0, 1) := by decide +kernel
theorem dX11_looked_29 : decode cX11_looked 29 = .ok (.getfield 14, 3) := by decide +kernel
theorem dX11_looked_32 : decode cX11_looked 32 = .ok (.getfield 77, 3) := by decide +kernel
theorem dX11_looked_35 : decode cX11_looked 35 = .ok (.iload_n 2, 1) := by decide +kernel
theorem dX11_looked_36 : decode cX11_looked 36 = .ok (.sipush 1024, 3) := by decide +kernel
theorem dX11_looked_39 : decode cX11_looked 39 = .ok (.idiv, 1) := by decide +kernel
theorem dX11_looked_40 : decode cX11_looked 40 = .ok (.invokevirtual 91, 3) := by decide +kernel
theorem dX11_looked_43 : decode cX11_looked 43 = .ok (.iload_n 2, 1) := by decide +kernel
theorem dX11_looked_44 : decode cX11_looked 44 = .ok (.sipush 1024, 3) := by decide +kernel
theorem dX11_looked_47 : decode cX11_looked 47 = .ok (.irem, 1) := by decide +kernel
theorem dX11_looked_48 : decode cX11_looked 48 = .ok (.if_icmp .eq 5, 3) := by decide +kernel
theorem dX11_looked_51 : decode cX11_looked 51 = .ok (.iload_n 1, 1) := by decide +kernel
theorem dX11_looked_52 : decode cX11_looked 52 = .ok (.ireturn, 1) := by decide +kernel
theorem dX11_looked_53 : decode cX11_looked 53 = .ok (.iinc 1 1, 3) := by decide +kernel
theorem dX11_looked_56 : decode cX11_looked 56 = .ok (.goto (-54), 3) := by decide +kernel
theorem dX11_looked_59 : decode cX11_looked 59 = .ok (.bipush (-5), 2) := by decide +kernel
theorem dX11_looked_61 : decode cX11_looked 61 = .ok (.ireturn, 1) := by decide +kernel
theorem dX11_judge_0 : decode cX11_judge 0 = .ok (.iload_n 1, 1) := by decide +kernel
theorem dX11_judge_1 : decode cX11_judge 1 = .ok (.invokestatic 216, 3) := by decide +kernel
theorem dX11_judge_4 : decode cX11_judge 4 = .ok (.ifCond .ne 5, 3) := by decide +kernel
theorem dX11_judge_7 : decode cX11_judge 7 = .ok (.iconst (-1), 1) := by decide +kernel
theorem dX11_judge_8 : decode cX11_judge 8 = .ok (.ireturn, 1) := by decide +kernel
theorem dX11_judge_9 : decode cX11_judge 9 = .ok (.aload_n 0, 1) := by decide +kernel
theorem dX11_judge_10 : decode cX11_judge 10 = .ok (.getfield 47, 3) := by decide +kernel
theorem dX11_judge_13 : decode cX11_judge 13 = .ok (.iload_n 1, 1) := by decide +kernel
theorem dX11_judge_14 : decode cX11_judge 14 = .ok (.aaload, 1) := by decide +kernel
theorem dX11_judge_15 : decode cX11_judge 15 = .ok (.astore_n 3, 1) := by decide +kernel
theorem dX11_judge_16 : decode cX11_judge 16 = .ok (.aload_n 3, 1) := by decide +kernel
theorem dX11_judge_17 : decode cX11_judge 17 = .ok (.getfield 219, 3) := by decide +kernel
theorem dX11_judge_20 : decode cX11_judge 20 = .ok (.iconst (-1), 1) := by decide +kernel
theorem dX11_judge_21 : decode cX11_judge 21 = .ok (.if_icmp .eq 14, 3) := by decide +kernel
theorem dX11_judge_24 : decode cX11_judge 24 = .ok (.aload_n 3, 1) := by decide +kernel
theorem dX11_judge_25 : decode cX11_judge 25 = .ok (.getfield 219, 3) := by decide +kernel
theorem dX11_judge_28 : decode cX11_judge 28 = .ok (.iconst 1, 1) := by decide +kernel
theorem dX11_judge_29 : decode cX11_judge 29 = .ok (.if_icmp .eq 6, 3) := by decide +kernel
theorem dX11_judge_32 : decode cX11_judge 32 = .ok (.bipush (-12), 2) := by decide +kernel
theorem dX11_judge_34 : decode cX11_judge 34 = .ok (.ireturn, 1) := by decide +kernel
theorem dX11_judge_35 : decode cX11_judge 35 = .ok (.iconst 0, 1) := by decide +kernel
theorem dX11_judge_36 : decode cX11_judge 36 = .ok (.istore 4, 2) := by decide +kernel
theorem dX11_judge_38 : decode cX11_judge 38 = .ok (.iload 4, 2) := by decide +kernel
theorem dX11_judge_40 : decode cX11_judge 40 = .ok (.aload_n 0, 1) := by decide +kernel
theorem dX11_judge_41 : decode cX11_judge 41 = .ok (.getfield 14, 3) := by decide +kernel
theorem dX11_judge_44 : decode cX11_judge 44 = .ok (.getfield 77, 3) := by decide +kernel
theorem dX11_judge_47 : decode cX11_judge 47 = .ok (.getfield 179, 3) := by decide +kernel
theorem dX11_judge_50 : decode cX11_judge 50 = .ok (.if_icmp .ge 63, 3) := by decide +kernel
theorem dX11_judge_53 : decode cX11_judge 53 = .ok (.aload_n 3, 1) := by decide +kernel
theorem dX11_judge_54 : decode cX11_judge 54 = .ok (.iload_n 2, 1) := by decide +kernel
theorem dX11_judge_55 : decode cX11_judge 55 = .ok (.invokevirtual 222, 3) := by decide +kernel
theorem dX11_judge_58 : decode cX11_judge 58 = .ok (.ifCond .eq 14, 3) := by decide +kernel
theorem dX11_judge_61 : decode cX11_judge 61 = .ok (.aload_n 3, 1) := by decide +kernel
theorem dX11_judge_62 : decode cX11_judge 62 = .ok (.iload_n 2, 1) := by decide +kernel
theorem dX11_judge_63 : decode cX11_judge 63 = .ok (.iload 4, 2) := by decide +kernel
theorem dX11_judge_65 : decode cX11_judge 65 = .ok (.iadd, 1) := by decide +kernel
theorem dX11_judge_66 : decode cX11_judge 66 = .ok (.invokevirtual 222, 3) := by decide +kernel
theorem dX11_judge_69 : decode cX11_judge 69 = .ok (.ifCond .ne 9, 3) := by decide +kernel
theorem dX11_judge_72 : decode cX11_judge 72 = .ok (.bipush 100, 2) := by decide +kernel
theorem dX11_judge_74 : decode cX11_judge 74 = .ok (.iload 4, 2) := by decide +kernel
theorem dX11_judge_76 : decode cX11_judge 76 = .ok (.iadd, 1) := by decide +kernel
theorem dX11_judge_77 : decode cX11_judge 77 = .ok (.ireturn, 1) := by decide +kernel
theorem dX11_judge_78 : decode cX11_judge 78 = .ok (.aload_n 3, 1) := by decide +kernel
theorem dX11_judge_79 : decode cX11_judge 79 = .ok (.getfield 225, 3) := by decide +kernel
theorem dX11_judge_82 : decode cX11_judge 82 = .ok (.iload_n 2, 1) := by decide +kernel
theorem dX11_judge_83 : decode cX11_judge 83 = .ok (.iload 4, 2) := by decide +kernel
theorem dX11_judge_85 : decode cX11_judge 85 = .ok (.iadd, 1) := by decide +kernel
theorem dX11_judge_86 : decode cX11_judge 86 = .ok (.laload, 1) := by decide +kernel
theorem dX11_judge_87 : decode cX11_judge 87 = .ok (.aload_n 0, 1) := by decide +kernel
theorem dX11_judge_88 : decode cX11_judge 88 = .ok (.getfield 14, 3) := by decide +kernel
theorem dX11_judge_91 : decode cX11_judge 91 = .ok (.getfield 77, 3) := by decide +kernel
theorem dX11_judge_94 : decode cX11_judge 94 = .ok (.iload 4, 2) := by decide +kernel
theorem dX11_judge_96 : decode cX11_judge 96 = .ok (.invokevirtual 91, 3) := by decide +kernel
theorem dX11_judge_99 : decode cX11_judge 99 = .ok (.i2l, 1) := by decide +kernel
theorem dX11_judge_100 : decode cX11_judge 100 = .ok (.lcmp, 1) := by decide +kernel
theorem dX11_judge_101 : decode cX11_judge 101 = .ok (.ifCond .eq 6, 3) := by decide +kernel
theorem dX11_judge_104 : decode cX11_judge 104 = .ok (.iload 4, 2) := by decide +kernel
theorem dX11_judge_106 : decode cX11_judge 106 = .ok (.ireturn, 1) := by decide +kernel
theorem dX11_judge_107 : decode cX11_judge 107 = .ok (.iinc 4 1, 3) := by decide +kernel
theorem dX11_judge_110 : decode cX11_judge 110 = .ok (.goto (-72), 3) := by decide +kernel
theorem dX11_judge_113 : decode cX11_judge 113 = .ok (.bipush (-5), 2) := by decide +kernel
theorem dX11_judge_115 : decode cX11_judge 115 = .ok (.ireturn, 1) := by decide +kernel
theorem dX11_image_0 : decode cX11_image 0 = .ok (.aload_n 0, 1) := by decide +kernel
theorem dX11_image_1 : decode cX11_image 1 = .ok (.getfield 18, 3) := by decide +kernel
theorem dX11_image_4 : decode cX11_image 4 = .ok (.aload_n 0, 1) := by decide +kernel
theorem dX11_image_5 : decode cX11_image 5 = .ok (.getfield 14, 3) := by decide +kernel
theorem dX11_image_8 : decode cX11_image 8 = .ok (.invokevirtual 228, 3) := by decide +kernel
theorem dX11_image_11 : decode cX11_image 11 = .ok (.aload_n 0, 1) := by decide +kernel
theorem dX11_image_12 : decode cX11_image 12 = .ok (.iconst 1, 1) := by decide +kernel
theorem dX11_image_13 : decode cX11_image 13 = .ok (.putfield 21, 3) := by decide +kernel
theorem dX11_image_16 : decode cX11_image 16 = .ok (.aload_n 0, 1) := by decide +kernel
theorem dX11_image_17 : decode cX11_image 17 = .ok (.getfield 14, 3) := by decide +kernel
theorem dX11_image_20 : decode cX11_image 20 = .ok (.getfield 101, 3) := by decide +kernel
theorem dX11_image_23 : decode cX11_image 23 = .ok (.ireturn, 1) := by decide +kernel
theorem dX11_undo_0 : decode cX11_undo 0 = .ok (.aload_n 0, 1) := by decide +kernel
theorem dX11_undo_1 : decode cX11_undo 1 = .ok (.getfield 21, 3) := by decide +kernel
theorem dX11_undo_4 : decode cX11_undo 4 = .ok (.ifCond .ne 6, 3) := by decide +kernel
theorem dX11_undo_7 : decode cX11_undo 7 = .ok (.bipush (-3), 2) := by decide +kernel
theorem dX11_undo_9 : decode cX11_undo 9 = .ok (.ireturn, 1) := by decide +kernel
theorem dX11_undo_10 : decode cX11_undo 10 = .ok (.aload_n 0, 1) := by decide +kernel
theorem dX11_undo_11 : decode cX11_undo 11 = .ok (.getfield 14, 3) := by decide +kernel
theorem dX11_undo_14 : decode cX11_undo 14 = .ok (.aload_n 0, 1) := by decide +kernel
theorem dX11_undo_15 : decode cX11_undo 15 = .ok (.getfield 18, 3) := by decide +kernel
theorem dX11_undo_18 : decode cX11_undo 18 = .ok (.invokevirtual 228, 3) := by decide +kernel
theorem dX11_undo_21 : decode cX11_undo 21 = .ok (.aload_n 0, 1) := by decide +kernel
theorem dX11_undo_22 : decode cX11_undo 22 = .ok (.getfield 14, 3) := by decide +kernel
theorem dX11_undo_25 : decode cX11_undo 25 = .ok (.getfield 101, 3) := by decide +kernel
theorem dX11_undo_28 : decode cX11_undo 28 = .ok (.ireturn, 1) := by decide +kernel
theorem dX11_act_0 : decode cX11_act 0 = .ok (.aload_n 0, 1) := by decide +kernel
theorem dX11_act_1 : decode cX11_act 1 = .ok (.getfield 54, 3) := by decide +kernel
theorem dX11_act_4 : decode cX11_act 4 = .ok (.iconst 0, 1) := by decide +kernel
theorem dX11_act_5 : decode cX11_act 5 = .ok (.invokevirtual 232, 3) := by decide +kernel
theorem dX11_act_8 : decode cX11_act 8 = .ok (.aload_n 0, 1) := by decide +kernel
theorem dX11_act_9 : decode cX11_act 9 = .ok (.iload_n 1, 1) := by decide +kernel
theorem dX11_act_10 : decode cX11_act 10 = .ok (.invokevirtual 112, 3) := by decide +kernel
theorem dX11_act_13 : decode cX11_act 13 = .ok (.ifCond .ne 5, 3) := by decide +kernel
theorem dX11_act_16 : decode cX11_act 16 = .ok (.iconst 0, 1) := by decide +kernel
theorem dX11_act_17 : decode cX11_act 17 = .ok (.ireturn, 1) := by decide +kernel
theorem dX11_act_18 : decode cX11_act 18 = .ok (.aload_n 0, 1) := by decide +kernel
theorem dX11_act_19 : decode cX11_act 19 = .ok (.getfield 14, 3) := by decide +kernel
theorem dX11_act_22 : decode cX11_act 22 = .ok (.getfield 115, 3) := by decide +kernel
theorem dX11_act_25 : decode cX11_act 25 = .ok (.iload_n 1, 1) := by decide +kernel
theorem dX11_act_26 : decode cX11_act 26 = .ok (.aaload, 1) := by decide +kernel
theorem dX11_act_27 : decode cX11_act 27 = .ok (.astore 4, 2) := by decide +kernel
theorem dX11_act_29 : decode cX11_act 29 = .ok (.iload_n 2, 1) := by decide +kernel
theorem dX11_act_30 : decode cX11_act 30 = .ok (.tableswitch 59 0 2 #[26, 37, 48], 26) := by decide +kernel
theorem dX11_act_56 : decode cX11_act 56 = .ok (.aload 4, 2) := by decide +kernel
theorem dX11_act_58 : decode cX11_act 58 = .ok (.iload_n 3, 1) := by decide +kernel
theorem dX11_act_59 : decode cX11_act 59 = .ok (.aload_n 0, 1) := by decide +kernel
theorem dX11_act_60 : decode cX11_act 60 = .ok (.getfield 54, 3) := by decide +kernel
theorem dX11_act_63 : decode cX11_act 63 = .ok (.invokevirtual 235, 3) := by decide +kernel
theorem dX11_act_66 : decode cX11_act 66 = .ok (.ireturn, 1) := by decide +kernel
theorem dX11_act_67 : decode cX11_act 67 = .ok (.aload 4, 2) := by decide +kernel
theorem dX11_act_69 : decode cX11_act 69 = .ok (.iload_n 3, 1) := by decide +kernel
theorem dX11_act_70 : decode cX11_act 70 = .ok (.aload_n 0, 1) := by decide +kernel
theorem dX11_act_71 : decode cX11_act 71 = .ok (.getfield 54, 3) := by decide +kernel
theorem dX11_act_74 : decode cX11_act 74 = .ok (.invokevirtual 239, 3) := by decide +kernel
theorem dX11_act_77 : decode cX11_act 77 = .ok (.ireturn, 1) := by decide +kernel
theorem dX11_act_78 : decode cX11_act 78 = .ok (.aload 4, 2) := by decide +kernel
theorem dX11_act_80 : decode cX11_act 80 = .ok (.iload_n 3, 1) := by decide +kernel
theorem dX11_act_81 : decode cX11_act 81 = .ok (.aload_n 0, 1) := by decide +kernel
theorem dX11_act_82 : decode cX11_act 82 = .ok (.getfield 54, 3) := by decide +kernel
theorem dX11_act_85 : decode cX11_act 85 = .ok (.invokevirtual 242, 3) := by decide +kernel
theorem dX11_act_88 : decode cX11_act 88 = .ok (.ireturn, 1) := by decide +kernel
theorem dX11_act_89 : decode cX11_act 89 = .ok (.iconst 0, 1) := by decide +kernel
theorem dX11_act_90 : decode cX11_act 90 = .ok (.ireturn, 1) := by decide +kernel
theorem dX11_trace_0 : decode cX11_trace 0 = .ok (.iload_n 1, 1) := by decide +kernel
theorem dX11_trace_1 : decode cX11_trace 1 = .ok (.ifCond .lt 31, 3) := by decide +kernel
theorem dX11_trace_4 : decode cX11_trace 4 = .ok (.iload_n 1, 1) := by decide +kernel
theorem dX11_trace_5 : decode cX11_trace 5 = .ok (.bipush 20, 2) := by decide +kernel
theorem dX11_trace_7 : decode cX11_trace 7 = .ok (.if_icmp .ge 25, 3) := by decide +kernel
theorem dX11_trace_10 : decode cX11_trace 10 = .ok (.iload_n 1, 1) := by decide +kernel
