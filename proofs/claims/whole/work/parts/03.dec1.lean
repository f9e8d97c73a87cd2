theorem dX0_init_0 : decode cX0_init 0 = .ok (.aload_n 0, 1) := by decide +kernel
theorem dX0_init_1 : decode cX0_init 1 = .ok (.invokespecial 3, 3) := by decide +kernel
theorem dX0_init_4 : decode cX0_init 4 = .ok (.aload_n 0, 1) := by decide +kernel
theorem dX0_init_5 : decode cX0_init 5 = .ok (.bipush 41, 2) := by decide +kernel
theorem dX0_init_7 : decode cX0_init 7 = .ok (.newarray .int, 2) := by decide +kernel
theorem dX0_init_9 : decode cX0_init 9 = .ok (.putfield 9, 3) := by decide +kernel
theorem dX0_init_12 : decode cX0_init 12 = .ok (.return_, 1) := by decide +kernel
theorem dX0_clear_0 : decode cX0_clear 0 = .ok (.aload_n 0, 1) := by decide +kernel
theorem dX0_clear_1 : decode cX0_clear 1 = .ok (.iconst 0, 1) := by decide +kernel
theorem dX0_clear_2 : decode cX0_clear 2 = .ok (.putfield 15, 3) := by decide +kernel
theorem dX0_clear_5 : decode cX0_clear 5 = .ok (.return_, 1) := by decide +kernel
theorem dX0_begin_0 : decode cX0_begin 0 = .ok (.aload_n 0, 1) := by decide +kernel
theorem dX0_begin_1 : decode cX0_begin 1 = .ok (.iconst 0, 1) := by decide +kernel
theorem dX0_begin_2 : decode cX0_begin 2 = .ok (.putfield 15, 3) := by decide +kernel
theorem dX0_begin_5 : decode cX0_begin 5 = .ok (.aload_n 0, 1) := by decide +kernel
theorem dX0_begin_6 : decode cX0_begin 6 = .ok (.iload_n 1, 1) := by decide +kernel
theorem dX0_begin_7 : decode cX0_begin 7 = .ok (.invokevirtual 19, 3) := by decide +kernel
theorem dX0_begin_10 : decode cX0_begin 10 = .ok (.return_, 1) := by decide +kernel
theorem dX0_add_0 : decode cX0_add 0 = .ok (.aload_n 0, 1) := by decide +kernel
theorem dX0_add_1 : decode cX0_add 1 = .ok (.getfield 15, 3) := by decide +kernel
theorem dX0_add_4 : decode cX0_add 4 = .ok (.ifCond .lt 15, 3) := by decide +kernel
theorem dX0_add_7 : decode cX0_add 7 = .ok (.aload_n 0, 1) := by decide +kernel
theorem dX0_add_8 : decode cX0_add 8 = .ok (.getfield 15, 3) := by decide +kernel
theorem dX0_add_11 : decode cX0_add 11 = .ok (.aload_n 0, 1) := by decide +kernel
theorem dX0_add_12 : decode cX0_add 12 = .ok (.getfield 9, 3) := by decide +kernel
theorem dX0_add_15 : decode cX0_add 15 = .ok (.arraylength, 1) := by decide +kernel
theorem dX0_add_16 : decode cX0_add 16 = .ok (.if_icmp .lt 4, 3) := by decide +kernel
theorem dX0_add_19 : decode cX0_add 19 = .ok (.return_, 1) := by decide +kernel
theorem dX0_add_20 : decode cX0_add 20 = .ok (.aload_n 0, 1) := by decide +kernel
theorem dX0_add_21 : decode cX0_add 21 = .ok (.getfield 9, 3) := by decide +kernel
theorem dX0_add_24 : decode cX0_add 24 = .ok (.aload_n 0, 1) := by decide +kernel
theorem dX0_add_25 : decode cX0_add 25 = .ok (.getfield 15, 3) := by decide +kernel
theorem dX0_add_28 : decode cX0_add 28 = .ok (.iload_n 1, 1) := by decide +kernel
theorem dX0_add_29 : decode cX0_add 29 = .ok (.iastore, 1) := by decide +kernel
theorem dX0_add_30 : decode cX0_add 30 = .ok (.aload_n 0, 1) := by decide +kernel
theorem dX0_add_31 : decode cX0_add 31 = .ok (.dup, 1) := by decide +kernel
theorem dX0_add_32 : decode cX0_add 32 = .ok (.getfield 15, 3) := by decide +kernel
theorem dX0_add_35 : decode cX0_add 35 = .ok (.iconst 1, 1) := by decide +kernel
theorem dX0_add_36 : decode cX0_add 36 = .ok (.iadd, 1) := by decide +kernel
theorem dX0_add_37 : decode cX0_add 37 = .ok (.putfield 15, 3) := by decide +kernel
theorem dX0_add_40 : decode cX0_add 40 = .ok (.return_, 1) := by decide +kernel
theorem dX0_removeLast_0 : decode cX0_removeLast 0 = .ok (.aload_n 0, 1) := by decide +kernel
theorem dX0_removeLast_1 : decode cX0_removeLast 1 = .ok (.getfield 15, 3) := by decide +kernel
theorem dX0_removeLast_4 : decode cX0_removeLast 4 = .ok (.ifCond .le 13, 3) := by decide +kernel
theorem dX0_removeLast_7 : decode cX0_removeLast 7 = .ok (.aload_n 0, 1) := by decide +kernel
theorem dX0_removeLast_8 : decode cX0_removeLast 8 = .ok (.dup, 1) := by decide +kernel
theorem dX0_removeLast_9 : decode cX0_removeLast 9 = .ok (.getfield 15, 3) := by decide +kernel
theorem dX0_removeLast_12 : decode cX0_removeLast 12 = .ok (.iconst 1, 1) := by decide +kernel
theorem dX0_removeLast_13 : decode cX0_removeLast 13 = .ok (.isub, 1) := by decide +kernel
theorem dX0_removeLast_14 : decode cX0_removeLast 14 = .ok (.putfield 15, 3) := by decide +kernel
theorem dX0_removeLast_17 : decode cX0_removeLast 17 = .ok (.return_, 1) := by decide +kernel
theorem dX0_copy_0 : decode cX0_copy 0 = .ok (.aload_n 1, 1) := by decide +kernel
theorem dX0_copy_1 : decode cX0_copy 1 = .ok (.getfield 9, 3) := by decide +kernel
theorem dX0_copy_4 : decode cX0_copy 4 = .ok (.iconst 0, 1) := by decide +kernel
theorem dX0_copy_5 : decode cX0_copy 5 = .ok (.aload_n 0, 1) := by decide +kernel
theorem dX0_copy_6 : decode cX0_copy 6 = .ok (.getfield 9, 3) := by decide +kernel
theorem dX0_copy_9 : decode cX0_copy 9 = .ok (.iconst 0, 1) := by decide +kernel
theorem dX0_copy_10 : decode cX0_copy 10 = .ok (.aload_n 0, 1) := by decide +kernel
theorem dX0_copy_11 : decode cX0_copy 11 = .ok (.getfield 9, 3) := by decide +kernel
theorem dX0_copy_14 : decode cX0_copy 14 = .ok (.arraylength, 1) := by decide +kernel
theorem dX0_copy_15 : decode cX0_copy 15 = .ok (.invokestatic 23, 3) := by decide +kernel
theorem dX0_copy_18 : decode cX0_copy 18 = .ok (.aload_n 0, 1) := by decide +kernel
theorem dX0_copy_19 : decode cX0_copy 19 = .ok (.aload_n 1, 1) := by decide +kernel
theorem dX0_copy_20 : decode cX0_copy 20 = .ok (.getfield 15, 3) := by decide +kernel
theorem dX0_copy_23 : decode cX0_copy 23 = .ok (.putfield 15, 3) := by decide +kernel
theorem dX0_copy_26 : decode cX0_copy 26 = .ok (.return_, 1) := by decide +kernel
theorem dX0_hasPosition_0 : decode cX0_hasPosition 0 = .ok (.aload_n 0, 1) := by decide +kernel
theorem dX0_hasPosition_1 : decode cX0_hasPosition 1 = .ok (.getfield 15, 3) := by decide +kernel
theorem dX0_hasPosition_4 : decode cX0_hasPosition 4 = .ok (.ifCond .le 7, 3) := by decide +kernel
theorem dX0_hasPosition_7 : decode cX0_hasPosition 7 = .ok (.iconst 1, 1) := by decide +kernel
theorem dX0_hasPosition_8 : decode cX0_hasPosition 8 = .ok (.goto 4, 3) := by decide +kernel
theorem dX0_hasPosition_11 : decode cX0_hasPosition 11 = .ok (.iconst 0, 1) := by decide +kernel
theorem dX0_hasPosition_12 : decode cX0_hasPosition 12 = .ok (.ireturn, 1) := by decide +kernel
theorem dX0_made_0 : decode cX0_made 0 = .ok (.iconst 0, 1) := by decide +kernel
theorem dX0_made_1 : decode cX0_made 1 = .ok (.aload_n 0, 1) := by decide +kernel
theorem dX0_made_2 : decode cX0_made 2 = .ok (.getfield 15, 3) := by decide +kernel
theorem dX0_made_5 : decode cX0_made 5 = .ok (.iconst 1, 1) := by decide +kernel
theorem dX0_made_6 : decode cX0_made 6 = .ok (.isub, 1) := by decide +kernel
theorem dX0_made_7 : decode cX0_made 7 = .ok (.invokestatic 29, 3) := by decide +kernel
theorem dX0_made_10 : decode cX0_made 10 = .ok (.ireturn, 1) := by decide +kernel
theorem dX0_at_0 : decode cX0_at 0 = .ok (.iload_n 1, 1) := by decide +kernel
theorem dX0_at_1 : decode cX0_at 1 = .ok (.ifCond .lt 21, 3) := by decide +kernel
theorem dX0_at_4 : decode cX0_at 4 = .ok (.iload_n 1, 1) := by decide +kernel
theorem dX0_at_5 : decode cX0_at 5 = .ok (.aload_n 0, 1) := by decide +kernel
theorem dX0_at_6 : decode cX0_at 6 = .ok (.getfield 9, 3) := by decide +kernel
theorem dX0_at_9 : decode cX0_at 9 = .ok (.arraylength, 1) := by decide +kernel
theorem dX0_at_10 : decode cX0_at 10 = .ok (.if_icmp .ge 12, 3) := by decide +kernel
theorem dX0_at_13 : decode cX0_at 13 = .ok (.aload_n 0, 1) := by decide +kernel
theorem dX0_at_14 : decode cX0_at 14 = .ok (.getfield 9, 3) := by decide +kernel
theorem dX0_at_17 : decode cX0_at 17 = .ok (.iload_n 1, 1) := by decide +kernel
theorem dX0_at_18 : decode cX0_at 18 = .ok (.iaload, 1) := by decide +kernel
theorem dX0_at_19 : decode cX0_at 19 = .ok (.goto 4, 3) := by decide +kernel
theorem dX0_at_22 : decode cX0_at 22 = .ok (.iconst (-1), 1) := by decide +kernel
theorem dX0_at_23 : decode cX0_at 23 = .ok (.ireturn, 1) := by decide +kernel
theorem dX0_present_0 : decode cX0_present 0 = .ok (.aload_n 0, 1) := by decide +kernel
theorem dX0_present_1 : decode cX0_present 1 = .ok (.aload_n 0, 1) := by decide +kernel
theorem dX0_present_2 : decode cX0_present 2 = .ok (.getfield 15, 3) := by decide +kernel
theorem dX0_present_5 : decode cX0_present 5 = .ok (.iconst 1, 1) := by decide +kernel
theorem dX0_present_6 : decode cX0_present 6 = .ok (.isub, 1) := by decide +kernel
theorem dX0_present_7 : decode cX0_present 7 = .ok (.invokevirtual 35, 3) := by decide +kernel
theorem dX0_present_10 : decode cX0_present 10 = .ok (.ireturn, 1) := by decide +kernel
theorem dX0_occurrences_0 : decode cX0_occurrences 0 = .ok (.aload_n 0, 1) := by decide +kernel
theorem dX0_occurrences_1 : decode cX0_occurrences 1 = .ok (.getfield 15, 3) := by decide +kernel
theorem dX0_occurrences_4 : decode cX0_occurrences 4 = .ok (.ifCond .le 16, 3) := by decide +kernel
theorem dX0_occurrences_7 : decode cX0_occurrences 7 = .ok (.aload_n 0, 1) := by decide +kernel
theorem dX0_occurrences_8 : decode cX0_occurrences 8 = .ok (.aload_n 0, 1) := by decide +kernel
theorem dX0_occurrences_9 : decode cX0_occurrences 9 = .ok (.getfield 15, 3) := by decide +kernel
theorem dX0_occurrences_12 : decode cX0_occurrences 12 = .ok (.iconst 1, 1) := by decide +kernel
theorem dX0_occurrences_13 : decode cX0_occurrences 13 = .ok (.isub, 1) := by decide +kernel
theorem dX0_occurrences_14 : decode cX0_occurrences 14 = .ok (.invokevirtual 39, 3) := by decide +kernel
theorem dX0_occurrences_17 : decode cX0_occurrences 17 = .ok (.goto 4, 3) := by decide +kernel
theorem dX0_occurrences_20 : decode cX0_occurrences 20 = .ok (.iconst 0, 1) := by decide +kernel
theorem dX0_occurrences_21 : decode cX0_occurrences 21 = .ok (.ireturn, 1) := by decide +kernel
theorem dX0_occurrencesUpTo_0 : decode cX0_occurrencesUpTo 0 = .ok (.iconst 0, 1) := by decide +kernel
theorem dX0_occurrencesUpTo_1 : decode cX0_occurrencesUpTo 1 = .ok (.istore_n 2, 1) := by decide +kernel
theorem dX0_occurrencesUpTo_2 : decode cX0_occurrencesUpTo 2 = .ok (.iconst 0, 1) := by decide +kernel
theorem dX0_occurrencesUpTo_3 : decode cX0_occurrencesUpTo 3 = .ok (.istore_n 3, 1) := by decide +kernel
theorem dX0_occurrencesUpTo_4 : decode cX0_occurrencesUpTo 4 = .ok (.iload_n 3, 1) := by decide +kernel
theorem dX0_occurrencesUpTo_5 : decode cX0_occurrencesUpTo 5 = .ok (.iload_n 1, 1) := by decide +kernel
theorem dX0_occurrencesUpTo_6 : decode cX0_occurrencesUpTo 6 = .ok (.if_icmp .gt 25, 3) := by decide +kernel
theorem dX0_occurrencesUpTo_9 : decode cX0_occurrencesUpTo 9 = .ok (.aload_n 0, 1) := by decide +kernel
theorem dX0_occurrencesUpTo_10 : decode cX0_occurrencesUpTo 10 = .ok (.iload_n 3, 1) := by decide +kernel
theorem dX0_occurrencesUpTo_11 : decode cX0_occurrencesUpTo 11 = .ok (.invokevirtual 35, 3) := by decide +kernel
theorem dX0_occurrencesUpTo_14 : decode cX0_occurrencesUpTo 14 = .ok (.aload_n 0, 1) := by decide +kernel
theorem dX0_occurrencesUpTo_15 : decode cX0_occurrencesUpTo 15 = .ok (.iload_n 1, 1) := by decide +kernel
theorem dX0_occurrencesUpTo_16 : decode cX0_occurrencesUpTo 16 = .ok (.invokevirtual 35, 3) := by decide +kernel
theorem dX0_occurrencesUpTo_19 : decode cX0_occurrencesUpTo 19 = .ok (.if_icmp .ne 6, 3) := by decide +kernel
theorem dX0_occurrencesUpTo_22 : decode cX0_occurrencesUpTo 22 = .ok (.iinc 2 1, 3) := by decide +kernel
theorem dX0_occurrencesUpTo_25 : decode cX0_occurrencesUpTo 25 = .ok (.iinc 3 1, 3) := by decide +kernel
theorem dX0_occurrencesUpTo_28 : decode cX0_occurrencesUpTo 28 = .ok (.goto (-24), 3) := by decide +kernel
theorem dX0_occurrencesUpTo_31 : decode cX0_occurrencesUpTo 31 = .ok (.iload_n 2, 1) := by decide +kernel
theorem dX0_occurrencesUpTo_32 : decode cX0_occurrencesUpTo 32 = .ok (.ireturn, 1) := by decide +kernel
theorem dX0_different_0 : decode cX0_different 0 = .ok (.iconst 0, 1) := by decide +kernel
theorem dX0_different_1 : decode cX0_different 1 = .ok (.istore_n 1, 1) := by decide +kernel
theorem dX0_different_2 : decode cX0_different 2 = .ok (.iconst 0, 1) := by decide +kernel
theorem dX0_different_3 : decode cX0_different 3 = .ok (.istore_n 2, 1) := by decide +kernel
theorem dX0_different_4 : decode cX0_different 4 = .ok (.iload_n 2, 1) := by decide +kernel
theorem dX0_different_5 : decode cX0_different 5 = .ok (.aload_n 0, 1) := by decide +kernel
theorem dX0_different_6 : decode cX0_different 6 = .ok (.getfield 15, 3) := by decide +kernel
theorem dX0_different_9 : decode cX0_different 9 = .ok (.if_icmp .ge 21, 3) := by decide +kernel
theorem dX0_different_12 : decode cX0_different 12 = .ok (.aload_n 0, 1) := by decide +kernel
theorem dX0_different_13 : decode cX0_different 13 = .ok (.iload_n 2, 1) := by decide +kernel
theorem dX0_different_14 : decode cX0_different 14 = .ok (.invokevirtual 39, 3) := by decide +kernel
theorem dX0_different_17 : decode cX0_different 17 = .ok (.iconst 1, 1) := by decide +kernel
theorem dX0_different_18 : decode cX0_different 18 = .ok (.if_icmp .ne 6, 3) := by decide +kernel
theorem dX0_different_21 : decode cX0_different 21 = .ok (.iinc 1 1, 3) := by decide +kernel
theorem dX0_different_24 : decode cX0_different 24 = .ok (.iinc 2 1, 3) := by decide +kernel
theorem dX0_different_27 : decode cX0_different 27 = .ok (.goto (-23), 3) := by decide +kernel
theorem dX0_different_30 : decode cX0_different 30 = .ok (.iload_n 1, 1) := by decide +kernel
theorem dX0_different_31 : decode cX0_different 31 = .ok (.ireturn, 1) := by decide +kernel
theorem dX1_init_0 : decode cX1_init 0 = .ok (.aload_n 0, 1) := by decide +kernel
theorem dX1_init_1 : decode cX1_init 1 = .ok (.invokespecial 3, 3) := by decide +kernel
theorem dX1_init_4 : decode cX1_init 4 = .ok (.aload_n 0, 1) := by decide +kernel
theorem dX1_init_5 : decode cX1_init 5 = .ok (.iconst 3, 1) := by decide +kernel
theorem dX1_init_6 : decode cX1_init 6 = .ok (.newarray .int, 2) := by decide +kernel
theorem dX1_init_8 : decode cX1_init 8 = .ok (.putfield 9, 3) := by decide +kernel
theorem dX1_init_11 : decode cX1_init 11 = .ok (.aload_n 0, 1) := by decide +kernel
theorem dX1_init_12 : decode cX1_init 12 = .ok (.aload_n 1, 1) := by decide +kernel
theorem dX1_init_13 : decode cX1_init 13 = .ok (.putfield 15, 3) := by decide +kernel
theorem dX1_init_16 : decode cX1_init 16 = .ok (.aload_n 0, 1) := by decide +kernel
theorem dX1_init_17 : decode cX1_init 17 = .ok (.new 19, 3) := by decide +kernel
theorem dX1_init_20 : decode cX1_init 20 = .ok (.dup, 1) := by decide +kernel
theorem dX1_init_21 : decode cX1_init 21 = .ok (.aload_n 1, 1) := by decide +kernel
theorem dX1_init_22 : decode cX1_init 22 = .ok (.invokespecial 21, 3) := by decide +kernel
theorem dX1_init_25 : decode cX1_init 25 = .ok (.putfield 24, 3) := by decide +kernel
theorem dX1_init_28 : decode cX1_init 28 = .ok (.return_, 1) := by decide +kernel
theorem dX1_read_0 : decode cX1_read 0 = .ok (.aload_n 0, 1) := by decide +kernel
theorem dX1_read_1 : decode cX1_read 1 = .ok (.iload_n 1, 1) := by decide +kernel
theorem dX1_read_2 : decode cX1_read 2 = .ok (.iconst 1, 1) := by decide +kernel
theorem dX1_read_3 : decode cX1_read 3 = .ok (.iand, 1) := by decide +kernel
theorem dX1_read_4 : decode cX1_read 4 = .ok (.putfield 28, 3) := by decide +kernel
theorem dX1_read_7 : decode cX1_read 7 = .ok (.aload_n 0, 1) := by decide +kernel
theorem dX1_read_8 : decode cX1_read 8 = .ok (.iconst 0, 1) := by decide +kernel
theorem dX1_read_9 : decode cX1_read 9 = .ok (.putfield 32, 3) := by decide +kernel
theorem dX1_read_12 : decode cX1_read 12 = .ok (.iconst 0, 1) := by decide +kernel
theorem dX1_read_13 : decode cX1_read 13 = .ok (.istore_n 2, 1) := by decide +kernel
theorem dX1_read_14 : decode cX1_read 14 = .ok (.iload_n 2, 1) := by decide +kernel
theorem dX1_read_15 : decode cX1_read 15 = .ok (.aload_n 0, 1) := by decide +kernel
theorem dX1_read_16 : decode cX1_read 16 = .ok (.getfield 9, 3) := by decide +kernel
theorem dX1_read_19 : decode cX1_read 19 = .ok (.arraylength, 1) := by decide +kernel
theorem dX1_read_20 : decode cX1_read 20 = .ok (.if_icmp .ge 49, 3) := by decide +kernel
theorem dX1_read_23 : decode cX1_read 23 = .ok (.aload_n 0, 1) := by decide +kernel
theorem dX1_read_24 : decode cX1_read 24 = .ok (.getfield 15, 3) := by decide +kernel
theorem dX1_read_27 : decode cX1_read 27 = .ok (.iload_n 1, 1) := by decide +kernel
theorem dX1_read_28 : decode cX1_read 28 = .ok (.iload_n 2, 1) := by decide +kernel
theorem dX1_read_29 : decode cX1_read 29 = .ok (.invokevirtual 35, 3) := by decide +kernel
theorem dX1_read_32 : decode cX1_read 32 = .ok (.istore_n 3, 1) := by decide +kernel
theorem dX1_read_33 : decode cX1_read 33 = .ok (.aload_n 0, 1) := by decide +kernel
theorem dX1_read_34 : decode cX1_read 34 = .ok (.getfield 9, 3) := by decide +kernel
theorem dX1_read_37 : decode cX1_read 37 = .ok (.iload_n 2, 1) := by decide +kernel
theorem dX1_read_38 : decode cX1_read 38 = .ok (.iload_n 3, 1) := by decide +kernel
theorem dX1_read_39 : decode cX1_read 39 = .ok (.iastore, 1) := by decide +kernel
theorem dX1_read_40 : decode cX1_read 40 = .ok (.iload_n 3, 1) := by decide +kernel
theorem dX1_read_41 : decode cX1_read 41 = .ok (.aload_n 0, 1) := by decide +kernel
theorem dX1_read_42 : decode cX1_read 42 = .ok (.getfield 15, 3) := by decide +kernel
theorem dX1_read_45 : decode cX1_read 45 = .ok (.getfield 41, 3) := by decide +kernel
theorem dX1_read_48 : decode cX1_read 48 = .ok (.if_icmp .ge 15, 3) := by decide +kernel
theorem dX1_read_51 : decode cX1_read 51 = .ok (.aload_n 0, 1) := by decide +kernel
theorem dX1_read_52 : decode cX1_read 52 = .ok (.dup, 1) := by decide +kernel
theorem dX1_read_53 : decode cX1_read 53 = .ok (.getfield 32, 3) := by decide +kernel
theorem dX1_read_56 : decode cX1_read 56 = .ok (.iconst 1, 1) := by decide +kernel
theorem dX1_read_57 : decode cX1_read 57 = .ok (.iload_n 3, 1) := by decide +kernel
theorem dX1_read_58 : decode cX1_read 58 = .ok (.ishl, 1) := by decide +kernel
theorem dX1_read_59 : decode cX1_read 59 = .ok (.ior, 1) := by decide +kernel
theorem dX1_read_60 : decode cX1_read 60 = .ok (.putfield 32, 3) := by decide +kernel
theorem dX1_read_63 : decode cX1_read 63 = .ok (.iinc 2 1, 3) := by decide +kernel
theorem dX1_read_66 : decode cX1_read 66 = .ok (.goto (-52), 3) := by decide +kernel
theorem dX1_read_69 : decode cX1_read 69 = .ok (.return_, 1) := by decide +kernel
theorem dX1_placeOf_0 : decode cX1_placeOf 0 = .ok (.iload_n 1, 1) := by decide +kernel
theorem dX1_placeOf_1 : decode cX1_placeOf 1 = .ok (.ifCond .lt 21, 3) := by decide +kernel
theorem dX1_placeOf_4 : decode cX1_placeOf 4 = .ok (.iload_n 1, 1) := by decide +kernel
theorem dX1_placeOf_5 : decode cX1_placeOf 5 = .ok (.aload_n 0, 1) := by decide +kernel
theorem dX1_placeOf_6 : decode cX1_placeOf 6 = .ok (.getfield 9, 3) := by decide +kernel
theorem dX1_placeOf_9 : decode cX1_placeOf 9 = .ok (.arraylength, 1) := by decide +kernel
theorem dX1_placeOf_10 : decode cX1_placeOf 10 = .ok (.if_icmp .ge 12, 3) := by decide +kernel
theorem dX1_placeOf_13 : decode cX1_placeOf 13 = .ok (.aload_n 0, 1) := by decide +kernel
theorem dX1_placeOf_14 : decode cX1_placeOf 14 = .ok (.getfield 9, 3) := by decide +kernel
theorem dX1_placeOf_17 : decode cX1_placeOf 17 = .ok (.iload_n 1, 1) := by decide +kernel
theorem dX1_placeOf_18 : decode cX1_placeOf 18 = .ok (.iaload, 1) := by decide +kernel
theorem dX1_placeOf_19 : decode cX1_placeOf 19 = .ok (.goto 10, 3) := by decide +kernel
theorem dX1_placeOf_22 : decode cX1_placeOf 22 = .ok (.aload_n 0, 1) := by decide +kernel
theorem dX1_placeOf_23 : decode cX1_placeOf 23 = .ok (.getfield 15, 3) := by decide +kernel
theorem dX1_placeOf_26 : decode cX1_placeOf 26 = .ok (.getfield 41, 3) := by decide +kernel
theorem dX1_placeOf_29 : decode cX1_placeOf 29 = .ok (.ireturn, 1) := by decide +kernel
theorem dX1_isOnBoard_0 : decode cX1_isOnBoard 0 = .ok (.aload_n 0, 1) := by decide +kernel
theorem dX1_isOnBoard_1 : decode cX1_isOnBoard 1 = .ok (.iload_n 1, 1) := by decide +kernel
theorem dX1_isOnBoard_2 : decode cX1_isOnBoard 2 = .ok (.invokevirtual 44, 3) := by decide +kernel
theorem dX1_isOnBoard_5 : decode cX1_isOnBoard 5 = .ok (.aload_n 0, 1) := by decide +kernel
theorem dX1_isOnBoard_6 : decode cX1_isOnBoard 6 = .ok (.getfield 15, 3) := by decide +kernel
theorem dX1_isOnBoard_9 : decode cX1_isOnBoard 9 = .ok (.getfield 41, 3) := by decide +kernel
theorem dX1_isOnBoard_12 : decode cX1_isOnBoard 12 = .ok (.if_icmp .ge 7, 3) := by decide +kernel
theorem dX1_isOnBoard_15 : decode cX1_isOnBoard 15 = .ok (.iconst 1, 1) := by decide +kernel
theorem dX1_isOnBoard_16 : decode cX1_isOnBoard 16 = .ok (.goto 4, 3) := by decide +kernel
theorem dX1_isOnBoard_19 : decode cX1_isOnBoard 19 = .ok (.iconst 0, 1) := by decide +kernel
theorem dX1_isOnBoard_20 : decode cX1_isOnBoard 20 = .ok (.ireturn, 1) := by decide +kernel
theorem dX1_missing_0 : decode cX1_missing 0 = .ok (.iconst 0, 1) := by decide +kernel
theorem dX1_missing_1 : decode cX1_missing 1 = .ok (.istore_n 1, 1) := by decide +kernel
theorem dX1_missing_2 : decode cX1_missing 2 = .ok (.iconst 0, 1) := by decide +kernel
theorem dX1_missing_3 : decode cX1_missing 3 = .ok (.istore_n 2, 1) := by decide +kernel
theorem dX1_missing_4 : decode cX1_missing 4 = .ok (.iload_n 2, 1) := by decide +kernel
theorem dX1_missing_5 : decode cX1_missing 5 = .ok (.aload_n 0, 1) := by decide +kernel
theorem dX1_missing_6 : decode cX1_missing 6 = .ok (.getfield 15, 3) := by decide +kernel
theorem dX1_missing_9 : decode cX1_missing 9 = .ok (.getfield 48, 3) := by decide +kernel
theorem dX1_missing_12 : decode cX1_missing 12 = .ok (.if_icmp .ge 20, 3) := by decide +kernel
theorem dX1_missing_15 : decode cX1_missing 15 = .ok (.aload_n 0, 1) := by decide +kernel
theorem dX1_missing_16 : decode cX1_missing 16 = .ok (.iload_n 2, 1) := by decide +kernel
theorem dX1_missing_17 : decode cX1_missing 17 = .ok (.invokevirtual 51, 3) := by decide +kernel
theorem dX1_missing_20 : decode cX1_missing 20 = .ok (.ifCond .ne 6, 3) := by decide +kernel
theorem dX1_missing_23 : decode cX1_missing 23 = .ok (.iinc 1 1, 3) := by decide +kernel
theorem dX1_missing_26 : decode cX1_missing 26 = .ok (.iinc 2 1, 3) := by decide +kernel
theorem dX1_missing_29 : decode cX1_missing 29 = .ok (.goto (-25), 3) := by decide +kernel
theorem dX1_missing_32 : decode cX1_missing 32 = .ok (.iload_n 1, 1) := by decide +kernel
theorem dX1_missing_33 : decode cX1_missing 33 = .ok (.ireturn, 1) := by decide +kernel
theorem dX1_isPossible_0 : decode cX1_isPossible 0 = .ok (.iconst 0, 1) := by decide +kernel
theorem dX1_isPossible_1 : decode cX1_isPossible 1 = .ok (.istore_n 1, 1) := by decide +kernel
theorem dX1_isPossible_2 : decode cX1_isPossible 2 = .ok (.iconst 0, 1) := by decide +kernel
theorem dX1_isPossible_3 : decode cX1_isPossible 3 = .ok (.istore_n 2, 1) := by decide +kernel
theorem dX1_isPossible_4 : decode cX1_isPossible 4 = .ok (.iload_n 2, 1) := by decide +kernel
theorem dX1_isPossible_5 : decode cX1_isPossible 5 = .ok (.aload_n 0, 1) := by decide +kernel
theorem dX1_isPossible_6 : decode cX1_isPossible 6 = .ok (.getfield 9, 3) := by decide +kernel
theorem dX1_isPossible_9 : decode cX1_isPossible 9 = .ok (.arraylength, 1) := by decide +kernel
theorem dX1_isPossible_10 : decode cX1_isPossible 10 = .ok (.if_icmp .ge 36, 3) := by decide +kernel
theorem dX1_isPossible_13 : decode cX1_isPossible 13 = .ok (.aload_n 0, 1) := by decide +kernel
theorem dX1_isPossible_14 : decode cX1_isPossible 14 = .ok (.iload_n 2, 1) := by decide +kernel
theorem dX1_isPossible_15 : decode cX1_isPossible 15 = .ok (.invokevirtual 51, 3) := by decide +kernel
theorem dX1_isPossible_18 : decode cX1_isPossible 18 = .ok (.ifCond .ne 6, 3) := by decide +kernel
theorem dX1_isPossible_21 : decode cX1_isPossible 21 = .ok (.goto 19, 3) := by decide +kernel
theorem dX1_isPossible_24 : decode cX1_isPossible 24 = .ok (.aload_n 0, 1) := by decide +kernel
theorem dX1_isPossible_25 : decode cX1_isPossible 25 = .ok (.getfield 15, 3) := by decide +kernel
theorem dX1_isPossible_28 : decode cX1_isPossible 28 = .ok (.iload_n 2, 1) := by decide +kernel
theorem dX1_isPossible_29 : decode cX1_isPossible 29 = .ok (.invokevirtual 55, 3) := by decide +kernel
theorem dX1_isPossible_32 : decode cX1_isPossible 32 = .ok (.ifCond .ne 5, 3) := by decide +kernel
theorem dX1_isPossible_35 : decode cX1_isPossible 35 = .ok (.iconst 0, 1) := by decide +kernel
theorem dX1_isPossible_36 : decode cX1_isPossible 36 = .ok (.ireturn, 1) := by decide +kernel
theorem dX1_isPossible_37 : decode cX1_isPossible 37 = .ok (.iinc 1 1, 3) := by decide +kernel
theorem dX1_isPossible_40 : decode cX1_isPossible 40 = .ok (.iinc 2 1, 3) := by decide +kernel
theorem dX1_isPossible_43 : decode cX1_isPossible 43 = .ok (.goto (-39), 3) := by decide +kernel
theorem dX1_isPossible_46 : decode cX1_isPossible 46 = .ok (.aload_n 0, 1) := by decide +kernel
theorem dX1_isPossible_47 : decode cX1_isPossible 47 = .ok (.iconst 0, 1) := by decide +kernel
theorem dX1_isPossible_48 : decode cX1_isPossible 48 = .ok (.invokevirtual 51, 3) := by decide +kernel
theorem dX1_isPossible_51 : decode cX1_isPossible 51 = .ok (.ifCond .eq 17, 3) := by decide +kernel
theorem dX1_isPossible_54 : decode cX1_isPossible 54 = .ok (.aload_n 0, 1) := by decide +kernel
theorem dX1_isPossible_55 : decode cX1_isPossible 55 = .ok (.aload_n 0, 1) := by decide +kernel
theorem dX1_isPossible_56 : decode cX1_isPossible 56 = .ok (.getfield 15, 3) := by decide +kernel
theorem dX1_isPossible_59 : decode cX1_isPossible 59 = .ok (.getfield 58, 3) := by decide +kernel
theorem dX1_isPossible_62 : decode cX1_isPossible 62 = .ok (.invokevirtual 51, 3) := by decide +kernel
theorem dX1_isPossible_65 : decode cX1_isPossible 65 = .ok (.ifCond .ne 5, 3) := by decide +kernel
theorem dX1_isPossible_68 : decode cX1_isPossible 68 = .ok (.iconst 0, 1) := by decide +kernel
theorem dX1_isPossible_69 : decode cX1_isPossible 69 = .ok (.ireturn, 1) := by decide +kernel
theorem dX1_isPossible_70 : decode cX1_isPossible 70 = .ok (.aload_n 0, 1) := by decide +kernel
theorem dX1_isPossible_71 : decode cX1_isPossible 71 = .ok (.getfield 32, 3) := by decide +kernel
theorem dX1_isPossible_74 : decode cX1_isPossible 74 = .ok (.invokestatic 61, 3) := by decide +kernel
theorem dX1_isPossible_77 : decode cX1_isPossible 77 = .ok (.iload_n 1, 1) := by decide +kernel
theorem dX1_isPossible_78 : decode cX1_isPossible 78 = .ok (.if_icmp .ne 18, 3) := by decide +kernel
theorem dX1_isPossible_81 : decode cX1_isPossible 81 = .ok (.aload_n 0, 1) := by decide +kernel
theorem dX1_isPossible_82 : decode cX1_isPossible 82 = .ok (.getfield 32, 3) := by decide +kernel
theorem dX1_isPossible_85 : decode cX1_isPossible 85 = .ok (.aload_n 0, 1) := by decide +kernel
theorem dX1_isPossible_86 : decode cX1_isPossible 86 = .ok (.getfield 15, 3) := by decide +kernel
theorem dX1_isPossible_89 : decode cX1_isPossible 89 = .ok (.getfield 66, 3) := by decide +kernel
theorem dX1_isPossible_92 : decode cX1_isPossible 92 = .ok (.iand, 1) := by decide +kernel
theorem dX1_isPossible_93 : decode cX1_isPossible 93 = .ok (.ifCond .eq 5, 3) := by decide +kernel
theorem dX1_isPossible_96 : decode cX1_isPossible 96 = .ok (.iconst 0, 1) := by decide +kernel
theorem dX1_isPossible_97 : decode cX1_isPossible 97 = .ok (.ireturn, 1) := by decide +kernel
theorem dX1_isPossible_98 : decode cX1_isPossible 98 = .ok (.aload_n 0, 1) := by decide +kernel
theorem dX1_isPossible_99 : decode cX1_isPossible 99 = .ok (.iconst 1, 1) := by decide +kernel
theorem dX1_isPossible_100 : decode cX1_isPossible 100 = .ok (.aload_n 0, 1) := by decide +kernel
theorem dX1_isPossible_101 : decode cX1_isPossible 101 = .ok (.getfield 28, 3) := by decide +kernel
theorem dX1_isPossible_104 : decode cX1_isPossible 104 = .ok (.isub, 1) := by decide +kernel
theorem dX1_isPossible_105 : decode cX1_isPossible 105 = .ok (.invokevirtual 69, 3) := by decide +kernel
theorem dX1_isPossible_108 : decode cX1_isPossible 108 = .ok (.ifCond .ne 7, 3) := by decide +kernel
theorem dX1_isPossible_111 : decode cX1_isPossible 111 = .ok (.iconst 1, 1) := by decide +kernel
theorem dX1_isPossible_112 : decode cX1_isPossible 112 = .ok (.goto 4, 3) := by decide +kernel
theorem dX1_isPossible_115 : decode cX1_isPossible 115 = .ok (.iconst 0, 1) := by decide +kernel
theorem dX1_isPossible_116 : decode cX1_isPossible 116 = .ok (.ireturn, 1) := by decide +kernel
theorem dX1_isAttacked_0 : decode cX1_isAttacked 0 = .ok (.aload_n 0, 1) := by decide +kernel
theorem dX1_isAttacked_1 : decode cX1_isAttacked 1 = .ok (.aload_n 0, 1) := by decide +kernel
theorem dX1_isAttacked_2 : decode cX1_isAttacked 2 = .ok (.getfield 15, 3) := by decide +kernel
theorem dX1_isAttacked_5 : decode cX1_isAttacked 5 = .ok (.iload_n 1, 1) := by decide +kernel
theorem dX1_isAttacked_6 : decode cX1_isAttacked 6 = .ok (.invokevirtual 72, 3) := by decide +kernel
theorem dX1_isAttacked_9 : decode cX1_isAttacked 9 = .ok (.invokevirtual 44, 3) := by decide +kernel
theorem dX1_isAttacked_12 : decode cX1_isAttacked 12 = .ok (.istore_n 2, 1) := by decide +kernel
theorem dX1_isAttacked_13 : decode cX1_isAttacked 13 = .ok (.iconst 1, 1) := by decide +kernel
theorem dX1_isAttacked_14 : decode cX1_isAttacked 14 = .ok (.iload_n 1, 1) := by decide +kernel
theorem dX1_isAttacked_15 : decode cX1_isAttacked 15 = .ok (.isub, 1) := by decide +kernel
theorem dX1_isAttacked_16 : decode cX1_isAttacked 16 = .ok (.istore_n 3, 1) := by decide +kernel
theorem dX1_isAttacked_17 : decode cX1_isAttacked 17 = .ok (.aload_n 0, 1) := by decide +kernel
theorem dX1_isAttacked_18 : decode cX1_isAttacked 18 = .ok (.getfield 15, 3) := by decide +kernel
theorem dX1_isAttacked_21 : decode cX1_isAttacked 21 = .ok (.iload_n 3, 1) := by decide +kernel
theorem dX1_isAttacked_22 : decode cX1_isAttacked 22 = .ok (.invokevirtual 72, 3) := by decide +kernel
theorem dX1_isAttacked_25 : decode cX1_isAttacked 25 = .ok (.istore 4, 2) := by decide +kernel
theorem dX1_isAttacked_27 : decode cX1_isAttacked 27 = .ok (.iload 4, 2) := by decide +kernel
theorem dX1_isAttacked_29 : decode cX1_isAttacked 29 = .ok (.aload_n 0, 1) := by decide +kernel
theorem dX1_isAttacked_30 : decode cX1_isAttacked 30 = .ok (.getfield 15, 3) := by decide +kernel
theorem dX1_isAttacked_33 : decode cX1_isAttacked 33 = .ok (.iload_n 3, 1) := by decide +kernel
theorem dX1_isAttacked_34 : decode cX1_isAttacked 34 = .ok (.invokevirtual 75, 3) := by decide +kernel
theorem dX1_isAttacked_37 : decode cX1_isAttacked 37 = .ok (.if_icmp .ge 45, 3) := by decide +kernel
theorem dX1_isAttacked_40 : decode cX1_isAttacked 40 = .ok (.aload_n 0, 1) := by decide +kernel
theorem dX1_isAttacked_41 : decode cX1_isAttacked 41 = .ok (.getfield 24, 3) := by decide +kernel
theorem dX1_isAttacked_44 : decode cX1_isAttacked 44 = .ok (.iload 4, 2) := by decide +kernel
theorem dX1_isAttacked_46 : decode cX1_isAttacked 46 = .ok (.aload_n 0, 1) := by decide +kernel
theorem dX1_isAttacked_47 : decode cX1_isAttacked 47 = .ok (.iload 4, 2) := by decide +kernel
theorem dX1_isAttacked_49 : decode cX1_isAttacked 49 = .ok (.invokevirtual 44, 3) := by decide +kernel
theorem dX1_isAttacked_52 : decode cX1_isAttacked 52 = .ok (.iload_n 2, 1) := by decide +kernel
theorem dX1_isAttacked_53 : decode cX1_isAttacked 53 = .ok (.iconst 1, 1) := by decide +kernel
theorem dX1_isAttacked_54 : decode cX1_isAttacked 54 = .ok (.invokevirtual 78, 3) := by decide +kernel
theorem dX1_isAttacked_57 : decode cX1_isAttacked 57 = .ok (.istore 5, 2) := by decide +kernel
theorem dX1_isAttacked_59 : decode cX1_isAttacked 59 = .ok (.iload 5, 2) := by decide +kernel
theorem dX1_isAttacked_61 : decode cX1_isAttacked 61 = .ok (.ifCond .lt 15, 3) := by decide +kernel
theorem dX1_isAttacked_64 : decode cX1_isAttacked 64 = .ok (.iload 5, 2) := by decide +kernel
theorem dX1_isAttacked_66 : decode cX1_isAttacked 66 = .ok (.aload_n 0, 1) := by decide +kernel
theorem dX1_isAttacked_67 : decode cX1_isAttacked 67 = .ok (.getfield 32, 3) := by decide +kernel
theorem dX1_isAttacked_70 : decode cX1_isAttacked 70 = .ok (.iand, 1) := by decide +kernel
theorem dX1_isAttacked_71 : decode cX1_isAttacked 71 = .ok (.ifCond .ne 5, 3) := by decide +kernel
theorem dX1_isAttacked_74 : decode cX1_isAttacked 74 = .ok (.iconst 1, 1) := by decide +kernel
theorem dX1_isAttacked_75 : decode cX1_isAttacked 75 = .ok (.ireturn, 1) := by decide +kernel
theorem dX1_isAttacked_76 : decode cX1_isAttacked 76 = .ok (.iinc 4 1, 3) := by decide +kernel
theorem dX1_isAttacked_79 : decode cX1_isAttacked 79 = .ok (.goto (-52), 3) := by decide +kernel
theorem dX1_isAttacked_82 : decode cX1_isAttacked 82 = .ok (.iconst 0, 1) := by decide +kernel
theorem dX1_isAttacked_83 : decode cX1_isAttacked 83 = .ok (.ireturn, 1) := by decide +kernel
theorem dX1_manOn_0 : decode cX1_manOn 0 = .ok (.iconst 0, 1) := by decide +kernel
theorem dX1_manOn_1 : decode cX1_manOn 1 = .ok (.istore_n 2, 1) := by decide +kernel
theorem dX1_manOn_2 : decode cX1_manOn 2 = .ok (.iload_n 2, 1) := by decide +kernel
theorem dX1_manOn_3 : decode cX1_manOn 3 = .ok (.aload_n 0, 1) := by decide +kernel
theorem dX1_manOn_4 : decode cX1_manOn 4 = .ok (.getfield 15, 3) := by decide +kernel
theorem dX1_manOn_7 : decode cX1_manOn 7 = .ok (.getfield 48, 3) := by decide +kernel
theorem dX1_manOn_10 : decode cX1_manOn 10 = .ok (.if_icmp .ge 20, 3) := by decide +kernel
theorem dX1_manOn_13 : decode cX1_manOn 13 = .ok (.aload_n 0, 1) := by decide +kernel
theorem dX1_manOn_14 : decode cX1_manOn 14 = .ok (.iload_n 2, 1) := by decide +kernel
theorem dX1_manOn_15 : decode cX1_manOn 15 = .ok (.invokevirtual 44, 3) := by decide +kernel
theorem dX1_manOn_18 : decode cX1_manOn 18 = .ok (.iload_n 1, 1) := by decide +kernel
theorem dX1_manOn_19 : decode cX1_manOn 19 = .ok (.if_icmp .ne 5, 3) := by decide +kernel
theorem dX1_manOn_22 : decode cX1_manOn 22 = .ok (.iload_n 2, 1) := by decide +kernel
theorem dX1_manOn_23 : decode cX1_manOn 23 = .ok (.ireturn, 1) := by decide +kernel
theorem dX1_manOn_24 : decode cX1_manOn 24 = .ok (.iinc 2 1, 3) := by decide +kernel
theorem dX1_manOn_27 : decode cX1_manOn 27 = .ok (.goto (-25), 3) := by decide +kernel
theorem dX1_manOn_30 : decode cX1_manOn 30 = .ok (.iconst (-1), 1) := by decide +kernel
theorem dX1_manOn_31 : decode cX1_manOn 31 = .ok (.ireturn, 1) := by decide +kernel
theorem dX1_after_0 : decode cX1_after 0 = .ok (.aload_n 0, 1) := by decide +kernel
theorem dX1_after_1 : decode cX1_after 1 = .ok (.iload_n 1, 1) := by decide +kernel
theorem dX1_after_2 : decode cX1_after 2 = .ok (.invokevirtual 44, 3) := by decide +kernel
theorem dX1_after_5 : decode cX1_after 5 = .ok (.istore_n 3, 1) := by decide +kernel
theorem dX1_after_6 : decode cX1_after 6 = .ok (.aload_n 0, 1) := by decide +kernel
theorem dX1_after_7 : decode cX1_after 7 = .ok (.getfield 32, 3) := by decide +kernel
theorem dX1_after_10 : decode cX1_after 10 = .ok (.iload_n 2, 1) := by decide +kernel
theorem dX1_after_11 : decode cX1_after 11 = .ok (.ishr, 1) := by decide +kernel
theorem dX1_after_12 : decode cX1_after 12 = .ok (.iconst 1, 1) := by decide +kernel
theorem dX1_after_13 : decode cX1_after 13 = .ok (.iand, 1) := by decide +kernel
theorem dX1_after_14 : decode cX1_after 14 = .ok (.ifCond .eq 7, 3) := by decide +kernel
theorem dX1_after_17 : decode cX1_after 17 = .ok (.iconst 1, 1) := by decide +kernel
theorem dX1_after_18 : decode cX1_after 18 = .ok (.goto 4, 3) := by decide +kernel
theorem dX1_after_21 : decode cX1_after 21 = .ok (.iconst 0, 1) := by decide +kernel
theorem dX1_after_22 : decode cX1_after 22 = .ok (.istore 4, 2) := by decide +kernel
theorem dX1_after_24 : decode cX1_after 24 = .ok (.aload_n 0, 1) := by decide +kernel
theorem dX1_after_25 : decode cX1_after 25 = .ok (.getfield 24, 3) := by decide +kernel
theorem dX1_after_28 : decode cX1_after 28 = .ok (.iload_n 1, 1) := by decide +kernel
theorem dX1_after_29 : decode cX1_after 29 = .ok (.iload_n 3, 1) := by decide +kernel
theorem dX1_after_30 : decode cX1_after 30 = .ok (.iload_n 2, 1) := by decide +kernel
theorem dX1_after_31 : decode cX1_after 31 = .ok (.iload 4, 2) := by decide +kernel
theorem dX1_after_33 : decode cX1_after 33 = .ok (.invokevirtual 78, 3) := by decide +kernel
theorem dX1_after_36 : decode cX1_after 36 = .ok (.istore 5, 2) := by decide +kernel
theorem dX1_after_38 : decode cX1_after 38 = .ok (.iload 5, 2) := by decide +kernel
theorem dX1_after_40 : decode cX1_after 40 = .ok (.ifCond .lt 13, 3) := by decide +kernel
theorem dX1_after_43 : decode cX1_after 43 = .ok (.iload 5, 2) := by decide +kernel
theorem dX1_after_45 : decode cX1_after 45 = .ok (.aload_n 0, 1) := by decide +kernel
theorem dX1_after_46 : decode cX1_after 46 = .ok (.getfield 32, 3) := by decide +kernel
theorem dX1_after_49 : decode cX1_after 49 = .ok (.iand, 1) := by decide +kernel
theorem dX1_after_50 : decode cX1_after 50 = .ok (.ifCond .eq 5, 3) := by decide +kernel
theorem dX1_after_53 : decode cX1_after 53 = .ok (.iconst (-1), 1) := by decide +kernel
theorem dX1_after_54 : decode cX1_after 54 = .ok (.ireturn, 1) := by decide +kernel
theorem dX1_after_55 : decode cX1_after 55 = .ok (.iload 4, 2) := by decide +kernel
theorem dX1_after_57 : decode cX1_after 57 = .ok (.ifCond .eq 11, 3) := by decide +kernel
theorem dX1_after_60 : decode cX1_after 60 = .ok (.aload_n 0, 1) := by decide +kernel
theorem dX1_after_61 : decode cX1_after 61 = .ok (.iload_n 2, 1) := by decide +kernel
theorem dX1_after_62 : decode cX1_after 62 = .ok (.invokevirtual 82, 3) := by decide +kernel
theorem dX1_after_65 : decode cX1_after 65 = .ok (.goto 4, 3) := by decide +kernel
theorem dX1_after_68 : decode cX1_after 68 = .ok (.iconst (-1), 1) := by decide +kernel
theorem dX1_after_69 : decode cX1_after 69 = .ok (.istore 6, 2) := by decide +kernel
theorem dX1_after_71 : decode cX1_after 71 = .ok (.iload 6, 2) := by decide +kernel
theorem dX1_after_73 : decode cX1_after 73 = .ok (.ifCond .lt 21, 3) := by decide +kernel
theorem dX1_after_76 : decode cX1_after 76 = .ok (.aload_n 0, 1) := by decide +kernel
theorem dX1_after_77 : decode cX1_after 77 = .ok (.getfield 15, 3) := by decide +kernel
theorem dX1_after_80 : decode cX1_after 80 = .ok (.iload 6, 2) := by decide +kernel
theorem dX1_after_82 : decode cX1_after 82 = .ok (.invokevirtual 85, 3) := by decide +kernel
theorem dX1_after_85 : decode cX1_after 85 = .ok (.aload_n 0, 1) := by decide +kernel
theorem dX1_after_86 : decode cX1_after 86 = .ok (.getfield 28, 3) := by decide +kernel
theorem dX1_after_89 : decode cX1_after 89 = .ok (.if_icmp .ne 5, 3) := by decide +kernel
theorem dX1_after_92 : decode cX1_after 92 = .ok (.iconst (-1), 1) := by decide +kernel
theorem dX1_after_93 : decode cX1_after 93 = .ok (.ireturn, 1) := by decide +kernel
theorem dX1_after_94 : decode cX1_after 94 = .ok (.aload_n 0, 1) := by decide +kernel
theorem dX1_after_95 : decode cX1_after 95 = .ok (.getfield 32, 3) := by decide +kernel
theorem dX1_after_98 : decode cX1_after 98 = .ok (.istore 7, 2) := by decide +kernel
theorem dX1_after_100 : decode cX1_after 100 = .ok (.aload_n 0, 1) := by decide +kernel
theorem dX1_after_101 : decode cX1_after 101 = .ok (.aload_n 0, 1) := by decide +kernel
theorem dX1_after_102 : decode cX1_after 102 = .ok (.getfield 32, 3) := by decide +kernel
theorem dX1_after_105 : decode cX1_after 105 = .ok (.iconst 1, 1) := by decide +kernel
theorem dX1_after_106 : decode cX1_after 106 = .ok (.iload_n 3, 1) := by decide +kernel
theorem dX1_after_107 : decode cX1_after 107 = .ok (.ishl, 1) := by decide +kernel
theorem dX1_after_108 : decode cX1_after 108 = .ok (.iconst (-1), 1) := by decide +kernel
theorem dX1_after_109 : decode cX1_after 109 = .ok (.ixor, 1) := by decide +kernel
theorem dX1_after_110 : decode cX1_after 110 = .ok (.iand, 1) := by decide +kernel
theorem dX1_after_111 : decode cX1_after 111 = .ok (.iconst 1, 1) := by decide +kernel
theorem dX1_after_112 : decode cX1_after 112 = .ok (.iload_n 2, 1) := by decide +kernel
theorem dX1_after_113 : decode cX1_after 113 = .ok (.ishl, 1) := by decide +kernel
theorem dX1_after_114 : decode cX1_after 114 = .ok (.ior, 1) := by decide +kernel
theorem dX1_after_115 : decode cX1_after 115 = .ok (.putfield 32, 3) := by decide +kernel
theorem dX1_after_118 : decode cX1_after 118 = .ok (.aload_n 0, 1) := by decide +kernel
theorem dX1_after_119 : decode cX1_after 119 = .ok (.iload_n 1, 1) := by decide +kernel
theorem dX1_after_120 : decode cX1_after 120 = .ok (.iload_n 2, 1) := by decide +kernel
theorem dX1_after_121 : decode cX1_after 121 = .ok (.invokevirtual 88, 3) := by decide +kernel
theorem dX1_after_124 : decode cX1_after 124 = .ok (.aload_n 0, 1) := by decide +kernel
theorem dX1_after_125 : decode cX1_after 125 = .ok (.iload 6, 2) := by decide +kernel
theorem dX1_after_127 : decode cX1_after 127 = .ok (.aload_n 0, 1) := by decide +kernel
theorem dX1_after_128 : decode cX1_after 128 = .ok (.getfield 15, 3) := by decide +kernel
theorem dX1_after_131 : decode cX1_after 131 = .ok (.getfield 41, 3) := by decide +kernel
theorem dX1_after_134 : decode cX1_after 134 = .ok (.invokevirtual 88, 3) := by decide +kernel
theorem dX1_after_137 : decode cX1_after 137 = .ok (.aload_n 0, 1) := by decide +kernel
theorem dX1_after_138 : decode cX1_after 138 = .ok (.aload_n 0, 1) := by decide +kernel
theorem dX1_after_139 : decode cX1_after 139 = .ok (.getfield 28, 3) := by decide +kernel
theorem dX1_after_142 : decode cX1_after 142 = .ok (.invokevirtual 69, 3) := by decide +kernel
theorem dX1_after_145 : decode cX1_after 145 = .ok (.ifCond .eq 7, 3) := by decide +kernel
theorem dX1_after_148 : decode cX1_after 148 = .ok (.iconst (-1), 1) := by decide +kernel
theorem dX1_after_149 : decode cX1_after 149 = .ok (.goto 31, 3) := by decide +kernel
theorem dX1_after_152 : decode cX1_after 152 = .ok (.aload_n 0, 1) := by decide +kernel
theorem dX1_after_153 : decode cX1_after 153 = .ok (.getfield 15, 3) := by decide +kernel
theorem dX1_after_156 : decode cX1_after 156 = .ok (.aload_n 0, 1) := by decide +kernel
theorem dX1_after_157 : decode cX1_after 157 = .ok (.iconst 0, 1) := by decide +kernel
theorem dX1_after_158 : decode cX1_after 158 = .ok (.invokevirtual 44, 3) := by decide +kernel
theorem dX1_after_161 : decode cX1_after 161 = .ok (.aload_n 0, 1) := by decide +kernel
theorem dX1_after_162 : decode cX1_after 162 = .ok (.iconst 1, 1) := by decide +kernel
theorem dX1_after_163 : decode cX1_after 163 = .ok (.invokevirtual 44, 3) := by decide +kernel
theorem dX1_after_166 : decode cX1_after 166 = .ok (.aload_n 0, 1) := by decide +kernel
theorem dX1_after_167 : decode cX1_after 167 = .ok (.iconst 2, 1) := by decide +kernel
theorem dX1_after_168 : decode cX1_after 168 = .ok (.invokevirtual 44, 3) := by decide +kernel
theorem dX1_after_171 : decode cX1_after 171 = .ok (.iconst 1, 1) := by decide +kernel
theorem dX1_after_172 : decode cX1_after 172 = .ok (.aload_n 0, 1) := by decide +kernel
theorem dX1_after_173 : decode cX1_after 173 = .ok (.getfield 28, 3) := by decide +kernel
theorem dX1_after_176 : decode cX1_after 176 = .ok (.isub, 1) := by decide +kernel
theorem dX1_after_177 : decode cX1_after 177 = .ok (.invokevirtual 92, 3) := by decide +kernel
theorem dX1_after_180 : decode cX1_after 180 = .ok (.istore 8, 2) := by decide +kernel
theorem dX1_after_182 : decode cX1_after 182 = .ok (.aload_n 0, 1) := by decide +kernel
theorem dX1_after_183 : decode cX1_after 183 = .ok (.iload_n 1, 1) := by decide +kernel
theorem dX1_after_184 : decode cX1_after 184 = .ok (.iload_n 3, 1) := by decide +kernel
theorem dX1_after_185 : decode cX1_after 185 = .ok (.invokevirtual 88, 3) := by decide +kernel
theorem dX1_after_188 : decode cX1_after 188 = .ok (.aload_n 0, 1) := by decide +kernel
theorem dX1_after_189 : decode cX1_after 189 = .ok (.iload 6, 2) := by decide +kernel
theorem dX1_after_191 : decode cX1_after 191 = .ok (.iload_n 2, 1) := by decide +kernel
theorem dX1_after_192 : decode cX1_after 192 = .ok (.invokevirtual 88, 3) := by decide +kernel
theorem dX1_after_195 : decode cX1_after 195 = .ok (.aload_n 0, 1) := by decide +kernel
theorem dX1_after_196 : decode cX1_after 196 = .ok (.iload 7, 2) := by decide +kernel
theorem dX1_after_198 : decode cX1_after 198 = .ok (.putfield 32, 3) := by decide +kernel
theorem dX1_after_201 : decode cX1_after 201 = .ok (.iload 8, 2) := by decide +kernel
theorem dX1_after_203 : decode cX1_after 203 = .ok (.ireturn, 1) := by decide +kernel
theorem dX1_put_0 : decode cX1_put 0 = .ok (.iload_n 1, 1) := by decide +kernel
theorem dX1_put_1 : decode cX1_put 1 = .ok (.ifCond .lt 19, 3) := by decide +kernel
theorem dX1_put_4 : decode cX1_put 4 = .ok (.iload_n 1, 1) := by decide +kernel
theorem dX1_put_5 : decode cX1_put 5 = .ok (.aload_n 0, 1) := by decide +kernel
theorem dX1_put_6 : decode cX1_put 6 = .ok (.getfield 9, 3) := by decide +kernel
theorem dX1_put_9 : decode cX1_put 9 = .ok (.arraylength, 1) := by decide +kernel
theorem dX1_put_10 : decode cX1_put 10 = .ok (.if_icmp .ge 10, 3) := by decide +kernel
theorem dX1_put_13 : decode cX1_put 13 = .ok (.aload_n 0, 1) := by decide +kernel
theorem dX1_put_14 : decode cX1_put 14 = .ok (.getfield 9, 3) := by decide +kernel
theorem dX1_put_17 : decode cX1_put 17 = .ok (.iload_n 1, 1) := by decide +kernel
theorem dX1_put_18 : decode cX1_put 18 = .ok (.iload_n 2, 1) := by decide +kernel
theorem dX1_put_19 : decode cX1_put 19 = .ok (.iastore, 1) := by decide +kernel
theorem dX1_put_20 : decode cX1_put 20 = .ok (.return_, 1) := by decide +kernel
theorem dX2_init_0 : decode cX2_init 0 = .ok (.aload_n 0, 1) := by decide +kernel
theorem dX2_init_1 : decode cX2_init 1 = .ok (.invokespecial 3, 3) := by decide +kernel
theorem dX2_init_4 : decode cX2_init 4 = .ok (.aload_n 0, 1) := by decide +kernel
theorem dX2_init_5 : decode cX2_init 5 = .ok (.sipush 432, 3) := by decide +kernel
theorem dX2_init_8 : decode cX2_init 8 = .ok (.newarray .int, 2) := by decide +kernel
theorem dX2_init_10 : decode cX2_init 10 = .ok (.putfield 11, 3) := by decide +kernel
theorem dX2_init_13 : decode cX2_init 13 = .ok (.aload_n 0, 1) := by decide +kernel
theorem dX2_init_14 : decode cX2_init 14 = .ok (.sipush 432, 3) := by decide +kernel
theorem dX2_init_17 : decode cX2_init 17 = .ok (.newarray .int, 2) := by decide +kernel
theorem dX2_init_19 : decode cX2_init 19 = .ok (.putfield 15, 3) := by decide +kernel
theorem dX2_init_22 : decode cX2_init 22 = .ok (.aload_n 0, 1) := by decide +kernel
theorem dX2_init_23 : decode cX2_init 23 = .ok (.getfield 11, 3) := by decide +kernel
theorem dX2_init_26 : decode cX2_init 26 = .ok (.iconst (-1), 1) := by decide +kernel
theorem dX2_init_27 : decode cX2_init 27 = .ok (.invokestatic 18, 3) := by decide +kernel
theorem dX2_init_30 : decode cX2_init 30 = .ok (.aload_n 0, 1) := by decide +kernel
theorem dX2_init_31 : decode cX2_init 31 = .ok (.getfield 15, 3) := by decide +kernel
theorem dX2_init_34 : decode cX2_init 34 = .ok (.iconst (-1), 1) := by decide +kernel
theorem dX2_init_35 : decode cX2_init 35 = .ok (.invokestatic 18, 3) := by decide +kernel
theorem dX2_init_38 : decode cX2_init 38 = .ok (.iconst 0, 1) := by decide +kernel
theorem dX2_init_39 : decode cX2_init 39 = .ok (.istore_n 2, 1) := by decide +kernel
theorem dX2_init_40 : decode cX2_init 40 = .ok (.iload_n 2, 1) := by decide +kernel
theorem dX2_init_41 : decode cX2_init 41 = .ok (.aload_n 1, 1) := by decide +kernel
theorem dX2_init_42 : decode cX2_init 42 = .ok (.getfield 24, 3) := by decide +kernel
theorem dX2_init_45 : decode cX2_init 45 = .ok (.if_icmp .ge 108, 3) := by decide +kernel
theorem dX2_init_48 : decode cX2_init 48 = .ok (.iload_n 2, 1) := by decide +kernel
theorem dX2_init_49 : decode cX2_init 49 = .ok (.iconst 3, 1) := by decide +kernel
theorem dX2_init_50 : decode cX2_init 50 = .ok (.if_icmp .ge 103, 3) := by decide +kernel
theorem dX2_init_53 : decode cX2_init 53 = .ok (.iconst 0, 1) := by decide +kernel
theorem dX2_init_54 : decode cX2_init 54 = .ok (.istore_n 3, 1) := by decide +kernel
theorem dX2_init_55 : decode cX2_init 55 = .ok (.iload_n 3, 1) := by decide +kernel
theorem dX2_init_56 : decode cX2_init 56 = .ok (.aload_n 1, 1) := by decide +kernel
theorem dX2_init_57 : decode cX2_init 57 = .ok (.getfield 30, 3) := by decide +kernel
theorem dX2_init_60 : decode cX2_init 60 = .ok (.if_icmp .ge 87, 3) := by decide +kernel
theorem dX2_init_63 : decode cX2_init 63 = .ok (.iload_n 3, 1) := by decide +kernel
theorem dX2_init_64 : decode cX2_init 64 = .ok (.bipush 12, 2) := by decide +kernel
theorem dX2_init_66 : decode cX2_init 66 = .ok (.if_icmp .ge 81, 3) := by decide +kernel
theorem dX2_init_69 : decode cX2_init 69 = .ok (.iconst 0, 1) := by decide +kernel
theorem dX2_init_70 : decode cX2_init 70 = .ok (.istore 4, 2) := by decide +kernel
theorem dX2_init_72 : decode cX2_init 72 = .ok (.iload 4, 2) := by decide +kernel
theorem dX2_init_74 : decode cX2_init 74 = .ok (.aload_n 1, 1) := by decide +kernel
theorem dX2_init_75 : decode cX2_init 75 = .ok (.getfield 30, 3) := by decide +kernel
theorem dX2_init_78 : decode cX2_init 78 = .ok (.if_icmp .ge 63, 3) := by decide +kernel
theorem dX2_init_81 : decode cX2_init 81 = .ok (.iload 4, 2) := by decide +kernel
theorem dX2_init_83 : decode cX2_init 83 = .ok (.bipush 12, 2) := by decide +kernel
theorem dX2_init_85 : decode cX2_init 85 = .ok (.if_icmp .ge 56, 3) := by decide +kernel
theorem dX2_init_88 : decode cX2_init 88 = .ok (.iload_n 2, 1) := by decide +kernel
theorem dX2_init_89 : decode cX2_init 89 = .ok (.sipush 144, 3) := by decide +kernel
theorem dX2_init_92 : decode cX2_init 92 = .ok (.imul, 1) := by decide +kernel
theorem dX2_init_93 : decode cX2_init 93 = .ok (.iload_n 3, 1) := by decide +kernel
theorem dX2_init_94 : decode cX2_init 94 = .ok (.bipush 12, 2) := by decide +kernel
theorem dX2_init_96 : decode cX2_init 96 = .ok (.imul, 1) := by decide +kernel
theorem dX2_init_97 : decode cX2_init 97 = .ok (.iadd, 1) := by decide +kernel
theorem dX2_init_98 : decode cX2_init 98 = .ok (.iload 4, 2) := by decide +kernel
theorem dX2_init_100 : decode cX2_init 100 = .ok (.iadd, 1) := by decide +kernel
theorem dX2_init_101 : decode cX2_init 101 = .ok (.istore 5, 2) := by decide +kernel
theorem dX2_init_103 : decode cX2_init 103 = .ok (.aload_n 0, 1) := by decide +kernel
theorem dX2_init_104 : decode cX2_init 104 = .ok (.getfield 11, 3) := by decide +kernel
theorem dX2_init_107 : decode cX2_init 107 = .ok (.iload 5, 2) := by decide +kernel
theorem dX2_init_109 : decode cX2_init 109 = .ok (.aload_n 1, 1) := by decide +kernel
theorem dX2_init_110 : decode cX2_init 110 = .ok (.iload_n 2, 1) := by decide +kernel
theorem dX2_init_111 : decode cX2_init 111 = .ok (.iload_n 3, 1) := by decide +kernel
theorem dX2_init_112 : decode cX2_init 112 = .ok (.iload 4, 2) := by decide +kernel
theorem dX2_init_114 : decode cX2_init 114 = .ok (.iconst 0, 1) := by decide +kernel
theorem dX2_init_115 : decode cX2_init 115 = .ok (.invokestatic 33, 3) := by decide +kernel
theorem dX2_init_118 : decode cX2_init 118 = .ok (.iastore, 1) := by decide +kernel
theorem dX2_init_119 : decode cX2_init 119 = .ok (.aload_n 0, 1) := by decide +kernel
theorem dX2_init_120 : decode cX2_init 120 = .ok (.getfield 15, 3) := by decide +kernel
theorem dX2_init_123 : decode cX2_init 123 = .ok (.iload 5, 2) := by decide +kernel
theorem dX2_init_125 : decode cX2_init 125 = .ok (.aload_n 1, 1) := by decide +kernel
theorem dX2_init_126 : decode cX2_init 126 = .ok (.iload_n 2, 1) := by decide +kernel
theorem dX2_init_127 : decode cX2_init 127 = .ok (.iload_n 3, 1) := by decide +kernel
theorem dX2_init_128 : decode cX2_init 128 = .ok (.iload 4, 2) := by decide +kernel
theorem dX2_init_130 : decode cX2_init 130 = .ok (.iconst 1, 1) := by decide +kernel
theorem dX2_init_131 : decode cX2_init 131 = .ok (.invokestatic 33, 3) := by decide +kernel
theorem dX2_init_134 : decode cX2_init 134 = .ok (.iastore, 1) := by decide +kernel
theorem dX2_init_135 : decode cX2_init 135 = .ok (.iinc 4 1, 3) := by decide +kernel
theorem dX2_init_138 : decode cX2_init 138 = .ok (.goto (-66), 3) := by decide +kernel
theorem dX2_init_141 : decode cX2_init 141 = .ok (.iinc 3 1, 3) := by decide +kernel
theorem dX2_init_144 : decode cX2_init 144 = .ok (.goto (-89), 3) := by decide +kernel
theorem dX2_init_147 : decode cX2_init 147 = .ok (.iinc 2 1, 3) := by decide +kernel
theorem dX2_init_150 : decode cX2_init 150 = .ok (.goto (-110), 3) := by decide +kernel
theorem dX2_init_153 : decode cX2_init 153 = .ok (.return_, 1) := by decide +kernel
theorem dX2_wayOf_0 : decode cX2_wayOf 0 = .ok (.iload_n 2, 1) := by decide +kernel
theorem dX2_wayOf_1 : decode cX2_wayOf 1 = .ok (.ifCond .lt 19, 3) := by decide +kernel
theorem dX2_wayOf_4 : decode cX2_wayOf 4 = .ok (.iload_n 2, 1) := by decide +kernel
theorem dX2_wayOf_5 : decode cX2_wayOf 5 = .ok (.bipush 12, 2) := by decide +kernel
theorem dX2_wayOf_7 : decode cX2_wayOf 7 = .ok (.if_icmp .ge 13, 3) := by decide +kernel
theorem dX2_wayOf_10 : decode cX2_wayOf 10 = .ok (.iload_n 3, 1) := by decide +kernel
theorem dX2_wayOf_11 : decode cX2_wayOf 11 = .ok (.ifCond .lt 9, 3) := by decide +kernel
theorem dX2_wayOf_14 : decode cX2_wayOf 14 = .ok (.iload_n 3, 1) := by decide +kernel
theorem dX2_wayOf_15 : decode cX2_wayOf 15 = .ok (.bipush 12, 2) := by decide +kernel
theorem dX2_wayOf_17 : decode cX2_wayOf 17 = .ok (.if_icmp .lt 5, 3) := by decide +kernel
theorem dX2_wayOf_20 : decode cX2_wayOf 20 = .ok (.iconst (-1), 1) := by decide +kernel
theorem dX2_wayOf_21 : decode cX2_wayOf 21 = .ok (.ireturn, 1) := by decide +kernel
theorem dX2_wayOf_22 : decode cX2_wayOf 22 = .ok (.iload 4, 2) := by decide +kernel
theorem dX2_wayOf_24 : decode cX2_wayOf 24 = .ok (.ifCond .eq 10, 3) := by decide +kernel
theorem dX2_wayOf_27 : decode cX2_wayOf 27 = .ok (.aload_n 0, 1) := by decide +kernel
theorem dX2_wayOf_28 : decode cX2_wayOf 28 = .ok (.getfield 15, 3) := by decide +kernel
theorem dX2_wayOf_31 : decode cX2_wayOf 31 = .ok (.goto 7, 3) := by decide +kernel
theorem dX2_wayOf_34 : decode cX2_wayOf 34 = .ok (.aload_n 0, 1) := by decide +kernel
theorem dX2_wayOf_35 : decode cX2_wayOf 35 = .ok (.getfield 11, 3) := by decide +kernel
theorem dX2_wayOf_38 : decode cX2_wayOf 38 = .ok (.astore 5, 2) := by decide +kernel
theorem dX2_wayOf_40 : decode cX2_wayOf 40 = .ok (.iload_n 1, 1) := by decide +kernel
theorem dX2_wayOf_41 : decode cX2_wayOf 41 = .ok (.sipush 144, 3) := by decide +kernel
theorem dX2_wayOf_44 : decode cX2_wayOf 44 = .ok (.imul, 1) := by decide +kernel
theorem dX2_wayOf_45 : decode cX2_wayOf 45 = .ok (.iload_n 2, 1) := by decide +kernel
theorem dX2_wayOf_46 : decode cX2_wayOf 46 = .ok (.bipush 12, 2) := by decide +kernel
theorem dX2_wayOf_48 : decode cX2_wayOf 48 = .ok (.imul, 1) := by decide +kernel
theorem dX2_wayOf_49 : decode cX2_wayOf 49 = .ok (.iadd, 1) := by decide +kernel
theorem dX2_wayOf_50 : decode cX2_wayOf 50 = .ok (.iload_n 3, 1) := by decide +kernel
theorem dX2_wayOf_51 : decode cX2_wayOf 51 = .ok (.iadd, 1) := by decide +kernel
theorem dX2_wayOf_52 : decode cX2_wayOf 52 = .ok (.istore 6, 2) := by decide +kernel
theorem dX2_wayOf_54 : decode cX2_wayOf 54 = .ok (.iload 6, 2) := by decide +kernel
theorem dX2_wayOf_56 : decode cX2_wayOf 56 = .ok (.ifCond .lt 19, 3) := by decide +kernel
theorem dX2_wayOf_59 : decode cX2_wayOf 59 = .ok (.iload 6, 2) := by decide +kernel
theorem dX2_wayOf_61 : decode cX2_wayOf 61 = .ok (.aload 5, 2) := by decide +kernel
theorem dX2_wayOf_63 : decode cX2_wayOf 63 = .ok (.arraylength, 1) := by decide +kernel
theorem dX2_wayOf_64 : decode cX2_wayOf 64 = .ok (.if_icmp .ge 11, 3) := by decide +kernel
theorem dX2_wayOf_67 : decode cX2_wayOf 67 = .ok (.aload 5, 2) := by decide +kernel
theorem dX2_wayOf_69 : decode cX2_wayOf 69 = .ok (.iload 6, 2) := by decide +kernel
theorem dX2_wayOf_71 : decode cX2_wayOf 71 = .ok (.iaload, 1) := by decide +kernel
theorem dX2_wayOf_72 : decode cX2_wayOf 72 = .ok (.goto 4, 3) := by decide +kernel
theorem dX2_wayOf_75 : decode cX2_wayOf 75 = .ok (.iconst (-1), 1) := by decide +kernel
theorem dX2_wayOf_76 : decode cX2_wayOf 76 = .ok (.ireturn, 1) := by decide +kernel
theorem dX2_way_0 : decode cX2_way 0 = .ok (.aload_n 0, 1) := by decide +kernel
theorem dX2_way_1 : decode cX2_way 1 = .ok (.getfield 37, 3) := by decide +kernel
theorem dX2_way_4 : decode cX2_way 4 = .ok (.iconst 1, 1) := by decide +kernel
theorem dX2_way_5 : decode cX2_way 5 = .ok (.if_icmp .lt 19, 3) := by decide +kernel
theorem dX2_way_8 : decode cX2_way 8 = .ok (.iload_n 2, 1) := by decide +kernel
theorem dX2_way_9 : decode cX2_way 9 = .ok (.iload_n 3, 1) := by decide +kernel
theorem dX2_way_10 : decode cX2_way 10 = .ok (.if_icmp .eq 14, 3) := by decide +kernel
theorem dX2_way_13 : decode cX2_way 13 = .ok (.aload_n 0, 1) := by decide +kernel
theorem dX2_way_14 : decode cX2_way 14 = .ok (.getfield 40, 3) := by decide +kernel
theorem dX2_way_17 : decode cX2_way 17 = .ok (.iload_n 3, 1) := by decide +kernel
theorem dX2_way_18 : decode cX2_way 18 = .ok (.ishr, 1) := by decide +kernel
theorem dX2_way_19 : decode cX2_way 19 = .ok (.iconst 1, 1) := by decide +kernel
theorem dX2_way_20 : decode cX2_way 20 = .ok (.iand, 1) := by decide +kernel
theorem dX2_way_21 : decode cX2_way 21 = .ok (.ifCond .ne 5, 3) := by decide +kernel
theorem dX2_way_24 : decode cX2_way 24 = .ok (.iconst (-1), 1) := by decide +kernel
theorem dX2_way_25 : decode cX2_way 25 = .ok (.ireturn, 1) := by decide +kernel
theorem dX2_way_26 : decode cX2_way 26 = .ok (.iload_n 3, 1) := by decide +kernel
theorem dX2_way_27 : decode cX2_way 27 = .ok (.aload_n 0, 1) := by decide +kernel
theorem dX2_way_28 : decode cX2_way 28 = .ok (.getfield 37, 3) := by decide +kernel
theorem dX2_way_31 : decode cX2_way 31 = .ok (.irem, 1) := by decide +kernel
theorem dX2_way_32 : decode cX2_way 32 = .ok (.iload_n 2, 1) := by decide +kernel
theorem dX2_way_33 : decode cX2_way 33 = .ok (.aload_n 0, 1) := by decide +kernel
theorem dX2_way_34 : decode cX2_way 34 = .ok (.getfield 37, 3) := by decide +kernel
theorem dX2_way_37 : decode cX2_way 37 = .ok (.irem, 1) := by decide +kernel
theorem dX2_way_38 : decode cX2_way 38 = .ok (.isub, 1) := by decide +kernel
theorem dX2_way_39 : decode cX2_way 39 = .ok (.istore 5, 2) := by decide +kernel
theorem dX2_way_41 : decode cX2_way 41 = .ok (.iload_n 3, 1) := by decide +kernel
theorem dX2_way_42 : decode cX2_way 42 = .ok (.aload_n 0, 1) := by decide +kernel
theorem dX2_way_43 : decode cX2_way 43 = .ok (.getfield 37, 3) := by decide +kernel
theorem dX2_way_46 : decode cX2_way 46 = .ok (.idiv, 1) := by decide +kernel
theorem dX2_way_47 : decode cX2_way 47 = .ok (.iload_n 2, 1) := by decide +kernel
theorem dX2_way_48 : decode cX2_way 48 = .ok (.aload_n 0, 1) := by decide +kernel
theorem dX2_way_49 : decode cX2_way 49 = .ok (.getfield 37, 3) := by decide +kernel
theorem dX2_way_52 : decode cX2_way 52 = .ok (.idiv, 1) := by decide +kernel
theorem dX2_way_53 : decode cX2_way 53 = .ok (.isub, 1) := by decide +kernel
theorem dX2_way_54 : decode cX2_way 54 = .ok (.istore 6, 2) := by decide +kernel
theorem dX2_way_56 : decode cX2_way 56 = .ok (.aload_n 0, 1) := by decide +kernel
theorem dX2_way_57 : decode cX2_way 57 = .ok (.iload_n 1, 1) := by decide +kernel
theorem dX2_way_58 : decode cX2_way 58 = .ok (.invokevirtual 43, 3) := by decide +kernel
theorem dX2_way_61 : decode cX2_way 61 = .ok (.istore 7, 2) := by decide +kernel
theorem dX2_way_63 : decode cX2_way 63 = .ok (.iload 7, 2) := by decide +kernel
theorem dX2_way_65 : decode cX2_way 65 = .ok (.bipush 9, 2) := by decide +kernel
theorem dX2_way_67 : decode cX2_way 67 = .ok (.if_icmp .ne 49, 3) := by decide +kernel
theorem dX2_way_70 : decode cX2_way 70 = .ok (.aload_n 0, 1) := by decide +kernel
theorem dX2_way_71 : decode cX2_way 71 = .ok (.iload_n 1, 1) := by decide +kernel
theorem dX2_way_72 : decode cX2_way 72 = .ok (.invokevirtual 47, 3) := by decide +kernel
theorem dX2_way_75 : decode cX2_way 75 = .ok (.ifCond .ne 7, 3) := by decide +kernel
theorem dX2_way_78 : decode cX2_way 78 = .ok (.iconst 1, 1) := by decide +kernel
theorem dX2_way_79 : decode cX2_way 79 = .ok (.goto 4, 3) := by decide +kernel
theorem dX2_way_82 : decode cX2_way 82 = .ok (.iconst (-1), 1) := by decide +kernel
theorem dX2_way_83 : decode cX2_way 83 = .ok (.istore 8, 2) := by decide +kernel
theorem dX2_way_85 : decode cX2_way 85 = .ok (.iload 6, 2) := by decide +kernel
theorem dX2_way_87 : decode cX2_way 87 = .ok (.iload 8, 2) := by decide +kernel
theorem dX2_way_89 : decode cX2_way 89 = .ok (.if_icmp .ne 25, 3) := by decide +kernel
theorem dX2_way_92 : decode cX2_way 92 = .ok (.iload 5, 2) := by decide +kernel
theorem dX2_way_94 : decode cX2_way 94 = .ok (.invokestatic 50, 3) := by decide +kernel
theorem dX2_way_97 : decode cX2_way 97 = .ok (.iload 4, 2) := by decide +kernel
theorem dX2_way_99 : decode cX2_way 99 = .ok (.ifCond .eq 7, 3) := by decide +kernel
theorem dX2_way_102 : decode cX2_way 102 = .ok (.iconst 1, 1) := by decide +kernel
theorem dX2_way_103 : decode cX2_way 103 = .ok (.goto 4, 3) := by decide +kernel
theorem dX2_way_106 : decode cX2_way 106 = .ok (.iconst 0, 1) := by decide +kernel
theorem dX2_way_107 : decode cX2_way 107 = .ok (.if_icmp .ne 7, 3) := by decide +kernel
theorem dX2_way_110 : decode cX2_way 110 = .ok (.iconst 0, 1) := by decide +kernel
theorem dX2_way_111 : decode cX2_way 111 = .ok (.goto 4, 3) := by decide +kernel
theorem dX2_way_114 : decode cX2_way 114 = .ok (.iconst (-1), 1) := by decide +kernel
theorem dX2_way_115 : decode cX2_way 115 = .ok (.ireturn, 1) := by decide +kernel
theorem dX2_way_116 : decode cX2_way 116 = .ok (.iload 7, 2) := by decide +kernel
theorem dX2_way_118 : decode cX2_way 118 = .ok (.iload 5, 2) := by decide +kernel
theorem dX2_way_120 : decode cX2_way 120 = .ok (.invokestatic 50, 3) := by decide +kernel
theorem dX2_way_123 : decode cX2_way 123 = .ok (.iload 6, 2) := by decide +kernel
theorem dX2_way_125 : decode cX2_way 125 = .ok (.invokestatic 50, 3) := by decide +kernel
theorem dX2_way_128 : decode cX2_way 128 = .ok (.invokestatic 55, 3) := by decide +kernel
theorem dX2_way_131 : decode cX2_way 131 = .ok (.ifCond .eq 5, 3) := by decide +kernel
theorem dX2_way_134 : decode cX2_way 134 = .ok (.iconst 0, 1) := by decide +kernel
theorem dX2_way_135 : decode cX2_way 135 = .ok (.ireturn, 1) := by decide +kernel
theorem dX2_way_136 : decode cX2_way 136 = .ok (.iload 7, 2) := by decide +kernel
theorem dX2_way_138 : decode cX2_way 138 = .ok (.iload 5, 2) := by decide +kernel
theorem dX2_way_140 : decode cX2_way 140 = .ok (.invokestatic 50, 3) := by decide +kernel
theorem dX2_way_143 : decode cX2_way 143 = .ok (.iload 6, 2) := by decide +kernel
theorem dX2_way_145 : decode cX2_way 145 = .ok (.invokestatic 50, 3) := by decide +kernel
theorem dX2_way_148 : decode cX2_way 148 = .ok (.invokestatic 59, 3) := by decide +kernel
theorem dX2_way_151 : decode cX2_way 151 = .ok (.ifCond .eq 15, 3) := by decide +kernel
theorem dX2_way_154 : decode cX2_way 154 = .ok (.aload_n 0, 1) := by decide +kernel
theorem dX2_way_155 : decode cX2_way 155 = .ok (.iload_n 2, 1) := by decide +kernel
theorem dX2_way_156 : decode cX2_way 156 = .ok (.iload 5, 2) := by decide +kernel
theorem dX2_way_158 : decode cX2_way 158 = .ok (.iload 6, 2) := by decide +kernel
theorem dX2_way_160 : decode cX2_way 160 = .ok (.invokestatic 62, 3) := by decide +kernel
theorem dX2_way_163 : decode cX2_way 163 = .ok (.goto 4, 3) := by decide +kernel
theorem dX2_way_166 : decode cX2_way 166 = .ok (.iconst (-1), 1) := by decide +kernel
theorem dX2_way_167 : decode cX2_way 167 = .ok (.ireturn, 1) := by decide +kernel
theorem dX2_isStep_0 : decode cX2_isStep 0 = .ok (.iload_n 0, 1) := by decide +kernel
theorem dX2_isStep_1 : decode cX2_isStep 1 = .ok (.tableswitch 143 0 8 #[51, 64, 80, 96, 109, 143, 143, 143, 125], 51) := by decide +kernel
theorem dX2_isStep_52 : decode cX2_isStep 52 = .ok (.iload_n 1, 1) := by decide +kernel
theorem dX2_isStep_53 : decode cX2_isStep 53 = .ok (.iload_n 2, 1) := by decide +kernel
theorem dX2_isStep_54 : decode cX2_isStep 54 = .ok (.iadd, 1) := by decide +kernel
theorem dX2_isStep_55 : decode cX2_isStep 55 = .ok (.iconst 1, 1) := by decide +kernel
theorem dX2_isStep_56 : decode cX2_isStep 56 = .ok (.if_icmp .ne 7, 3) := by decide +kernel
theorem dX2_isStep_59 : decode cX2_isStep 59 = .ok (.iconst 1, 1) := by decide +kernel
theorem dX2_isStep_60 : decode cX2_isStep 60 = .ok (.goto 4, 3) := by decide +kernel
theorem dX2_isStep_63 : decode cX2_isStep 63 = .ok (.iconst 0, 1) := by decide +kernel
theorem dX2_isStep_64 : decode cX2_isStep 64 = .ok (.ireturn, 1) := by decide +kernel
theorem dX2_isStep_65 : decode cX2_isStep 65 = .ok (.iload_n 1, 1) := by decide +kernel
theorem dX2_isStep_66 : decode cX2_isStep 66 = .ok (.iconst 1, 1) := by decide +kernel
theorem dX2_isStep_67 : decode cX2_isStep 67 = .ok (.if_icmp .ne 12, 3) := by decide +kernel
theorem dX2_isStep_70 : decode cX2_isStep 70 = .ok (.iload_n 2, 1) := by decide +kernel
theorem dX2_isStep_71 : decode cX2_isStep 71 = .ok (.iconst 1, 1) := by decide +kernel
theorem dX2_isStep_72 : decode cX2_isStep 72 = .ok (.if_icmp .ne 7, 3) := by decide +kernel
theorem dX2_isStep_75 : decode cX2_isStep 75 = .ok (.iconst 1, 1) := by decide +kernel
theorem dX2_isStep_76 : decode cX2_isStep 76 = .ok (.goto 4, 3) := by decide +kernel
theorem dX2_isStep_79 : decode cX2_isStep 79 = .ok (.iconst 0, 1) := by decide +kernel
theorem dX2_isStep_80 : decode cX2_isStep 80 = .ok (.ireturn, 1) := by decide +kernel
theorem dX2_isStep_81 : decode cX2_isStep 81 = .ok (.iload_n 1, 1) := by decide +kernel
theorem dX2_isStep_82 : decode cX2_isStep 82 = .ok (.iconst 1, 1) := by decide +kernel
theorem dX2_isStep_83 : decode cX2_isStep 83 = .ok (.if_icmp .gt 12, 3) := by decide +kernel
theorem dX2_isStep_86 : decode cX2_isStep 86 = .ok (.iload_n 2, 1) := by decide +kernel
theorem dX2_isStep_87 : decode cX2_isStep 87 = .ok (.iconst 1, 1) := by decide +kernel
theorem dX2_isStep_88 : decode cX2_isStep 88 = .ok (.if_icmp .gt 7, 3) := by decide +kernel
theorem dX2_isStep_91 : decode cX2_isStep 91 = .ok (.iconst 1, 1) := by decide +kernel
theorem dX2_isStep_92 : decode cX2_isStep 92 = .ok (.goto 4, 3) := by decide +kernel
theorem dX2_isStep_95 : decode cX2_isStep 95 = .ok (.iconst 0, 1) := by decide +kernel
theorem dX2_isStep_96 : decode cX2_isStep 96 = .ok (.ireturn, 1) := by decide +kernel
theorem dX2_isStep_97 : decode cX2_isStep 97 = .ok (.iload_n 1, 1) := by decide +kernel
theorem dX2_isStep_98 : decode cX2_isStep 98 = .ok (.iload_n 2, 1) := by decide +kernel
theorem dX2_isStep_99 : decode cX2_isStep 99 = .ok (.imul, 1) := by decide +kernel
theorem dX2_isStep_100 : decode cX2_isStep 100 = .ok (.iconst 2, 1) := by decide +kernel
theorem dX2_isStep_101 : decode cX2_isStep 101 = .ok (.if_icmp .ne 7, 3) := by decide +kernel
theorem dX2_isStep_104 : decode cX2_isStep 104 = .ok (.iconst 1, 1) := by decide +kernel
theorem dX2_isStep_105 : decode cX2_isStep 105 = .ok (.goto 4, 3) := by decide +kernel
theorem dX2_isStep_108 : decode cX2_isStep 108 = .ok (.iconst 0, 1) := by decide +kernel
theorem dX2_isStep_109 : decode cX2_isStep 109 = .ok (.ireturn, 1) := by decide +kernel
theorem dX2_isStep_110 : decode cX2_isStep 110 = .ok (.iload_n 1, 1) := by decide +kernel
theorem dX2_isStep_111 : decode cX2_isStep 111 = .ok (.iconst 2, 1) := by decide +kernel
theorem dX2_isStep_112 : decode cX2_isStep 112 = .ok (.if_icmp .ne 12, 3) := by decide +kernel
theorem dX2_isStep_115 : decode cX2_isStep 115 = .ok (.iload_n 2, 1) := by decide +kernel
theorem dX2_isStep_116 : decode cX2_isStep 116 = .ok (.iconst 2, 1) := by decide +kernel
theorem dX2_isStep_117 : decode cX2_isStep 117 = .ok (.if_icmp .ne 7, 3) := by decide +kernel
theorem dX2_isStep_120 : decode cX2_isStep 120 = .ok (.iconst 1, 1) := by decide +kernel
theorem dX2_isStep_121 : decode cX2_isStep 121 = .ok (.goto 4, 3) := by decide +kernel
theorem dX2_isStep_124 : decode cX2_isStep 124 = .ok (.iconst 0, 1) := by decide +kernel
theorem dX2_isStep_125 : decode cX2_isStep 125 = .ok (.ireturn, 1) := by decide +kernel
theorem dX2_isStep_126 : decode cX2_isStep 126 = .ok (.iload_n 1, 1) := by decide +kernel
theorem dX2_isStep_127 : decode cX2_isStep 127 = .ok (.iload_n 2, 1) := by decide +kernel
theorem dX2_isStep_128 : decode cX2_isStep 128 = .ok (.iadd, 1) := by decide +kernel
theorem dX2_isStep_129 : decode cX2_isStep 129 = .ok (.iconst 2, 1) := by decide +kernel
theorem dX2_isStep_130 : decode cX2_isStep 130 = .ok (.if_icmp .ne 12, 3) := by decide +kernel
theorem dX2_isStep_133 : decode cX2_isStep 133 = .ok (.iload_n 1, 1) := by decide +kernel
theorem dX2_isStep_134 : decode cX2_isStep 134 = .ok (.iload_n 2, 1) := by decide +kernel
theorem dX2_isStep_135 : decode cX2_isStep 135 = .ok (.if_icmp .eq 7, 3) := by decide +kernel
theorem dX2_isStep_138 : decode cX2_isStep 138 = .ok (.iconst 1, 1) := by decide +kernel
theorem dX2_isStep_139 : decode cX2_isStep 139 = .ok (.goto 4, 3) := by decide +kernel
theorem dX2_isStep_142 : decode cX2_isStep 142 = .ok (.iconst 0, 1) := by decide +kernel
theorem dX2_isStep_143 : decode cX2_isStep 143 = .ok (.ireturn, 1) := by decide +kernel
theorem dX2_isStep_144 : decode cX2_isStep 144 = .ok (.iconst 0, 1) := by decide +kernel
theorem dX2_isStep_145 : decode cX2_isStep 145 = .ok (.ireturn, 1) := by decide +kernel
theorem dX2_isRide_0 : decode cX2_isRide 0 = .ok (.iload_n 1, 1) := by decide +kernel
theorem dX2_isRide_1 : decode cX2_isRide 1 = .ok (.ifCond .eq 7, 3) := by decide +kernel
theorem dX2_isRide_4 : decode cX2_isRide 4 = .ok (.iload_n 2, 1) := by decide +kernel
theorem dX2_isRide_5 : decode cX2_isRide 5 = .ok (.ifCond .ne 7, 3) := by decide +kernel
theorem dX2_isRide_8 : decode cX2_isRide 8 = .ok (.iconst 1, 1) := by decide +kernel
theorem dX2_isRide_9 : decode cX2_isRide 9 = .ok (.goto 4, 3) := by decide +kernel
theorem dX2_isRide_12 : decode cX2_isRide 12 = .ok (.iconst 0, 1) := by decide +kernel
theorem dX2_isRide_13 : decode cX2_isRide 13 = .ok (.istore_n 3, 1) := by decide +kernel
theorem dX2_isRide_14 : decode cX2_isRide 14 = .ok (.iload_n 1, 1) := by decide +kernel
theorem dX2_isRide_15 : decode cX2_isRide 15 = .ok (.iload_n 2, 1) := by decide +kernel
theorem dX2_isRide_16 : decode cX2_isRide 16 = .ok (.if_icmp .ne 7, 3) := by decide +kernel
theorem dX2_isRide_19 : decode cX2_isRide 19 = .ok (.iconst 1, 1) := by decide +kernel
theorem dX2_isRide_20 : decode cX2_isRide 20 = .ok (.goto 4, 3) := by decide +kernel
theorem dX2_isRide_23 : decode cX2_isRide 23 = .ok (.iconst 0, 1) := by decide +kernel
theorem dX2_isRide_24 : decode cX2_isRide 24 = .ok (.istore 4, 2) := by decide +kernel
theorem dX2_isRide_26 : decode cX2_isRide 26 = .ok (.iload_n 0, 1) := by decide +kernel
theorem dX2_isRide_27 : decode cX2_isRide 27 = .ok (.tableswitch 45 5 7 #[25, 27, 30], 25) := by decide +kernel
theorem dX2_isRide_52 : decode cX2_isRide 52 = .ok (.iload_n 3, 1) := by decide +kernel
theorem dX2_isRide_53 : decode cX2_isRide 53 = .ok (.ireturn, 1) := by decide +kernel
theorem dX2_isRide_54 : decode cX2_isRide 54 = .ok (.iload 4, 2) := by decide +kernel
theorem dX2_isRide_56 : decode cX2_isRide 56 = .ok (.ireturn, 1) := by decide +kernel
theorem dX2_isRide_57 : decode cX2_isRide 57 = .ok (.iload_n 3, 1) := by decide +kernel
theorem dX2_isRide_58 : decode cX2_isRide 58 = .ok (.ifCond .ne 8, 3) := by decide +kernel
theorem dX2_isRide_61 : decode cX2_isRide 61 = .ok (.iload 4, 2) := by decide +kernel
theorem dX2_isRide_63 : decode cX2_isRide 63 = .ok (.ifCond .eq 7, 3) := by decide +kernel
theorem dX2_isRide_66 : decode cX2_isRide 66 = .ok (.iconst 1, 1) := by decide +kernel
theorem dX2_isRide_67 : decode cX2_isRide 67 = .ok (.goto 4, 3) := by decide +kernel
theorem dX2_isRide_70 : decode cX2_isRide 70 = .ok (.iconst 0, 1) := by decide +kernel
theorem dX2_isRide_71 : decode cX2_isRide 71 = .ok (.ireturn, 1) := by decide +kernel
theorem dX2_isRide_72 : decode cX2_isRide 72 = .ok (.iconst 0, 1) := by decide +kernel
theorem dX2_isRide_73 : decode cX2_isRide 73 = .ok (.ireturn, 1) := by decide +kernel
theorem dX2_between_0 : decode cX2_between 0 = .ok (.iload_n 2, 1) := by decide +kernel
theorem dX2_between_1 : decode cX2_between 1 = .ok (.invokestatic 66, 3) := by decide +kernel
theorem dX2_between_4 : decode cX2_between 4 = .ok (.iload_n 3, 1) := by decide +kernel
theorem dX2_between_5 : decode cX2_between 5 = .ok (.invokestatic 66, 3) := by decide +kernel
theorem dX2_between_8 : decode cX2_between 8 = .ok (.aload_n 0, 1) := by decide +kernel
theorem dX2_between_9 : decode cX2_between 9 = .ok (.getfield 37, 3) := by decide +kernel
theorem dX2_between_12 : decode cX2_between 12 = .ok (.imul, 1) := by decide +kernel
theorem dX2_between_13 : decode cX2_between 13 = .ok (.iadd, 1) := by decide +kernel
theorem dX2_between_14 : decode cX2_between 14 = .ok (.istore 4, 2) := by decide +kernel
theorem dX2_between_16 : decode cX2_between 16 = .ok (.iload_n 2, 1) := by decide +kernel
theorem dX2_between_17 : decode cX2_between 17 = .ok (.invokestatic 50, 3) := by decide +kernel
theorem dX2_between_20 : decode cX2_between 20 = .ok (.iload_n 3, 1) := by decide +kernel
theorem dX2_between_21 : decode cX2_between 21 = .ok (.invokestatic 50, 3) := by decide +kernel
theorem dX2_between_24 : decode cX2_between 24 = .ok (.invokestatic 69, 3) := by decide +kernel
theorem dX2_between_27 : decode cX2_between 27 = .ok (.istore 5, 2) := by decide +kernel
theorem dX2_between_29 : decode cX2_between 29 = .ok (.iconst 0, 1) := by decide +kernel
theorem dX2_between_30 : decode cX2_between 30 = .ok (.istore 6, 2) := by decide +kernel
theorem dX2_between_32 : decode cX2_between 32 = .ok (.iconst 1, 1) := by decide +kernel
theorem dX2_between_33 : decode cX2_between 33 = .ok (.istore 7, 2) := by decide +kernel
theorem dX2_between_35 : decode cX2_between 35 = .ok (.iload 7, 2) := by decide +kernel
theorem dX2_between_37 : decode cX2_between 37 = .ok (.iload 5, 2) := by decide +kernel
theorem dX2_between_39 : decode cX2_between 39 = .ok (.if_icmp .ge 23, 3) := by decide +kernel
theorem dX2_between_42 : decode cX2_between 42 = .ok (.iload 6, 2) := by decide +kernel
theorem dX2_between_44 : decode cX2_between 44 = .ok (.iconst 1, 1) := by decide +kernel
theorem dX2_between_45 : decode cX2_between 45 = .ok (.iload_n 1, 1) := by decide +kernel
theorem dX2_between_46 : decode cX2_between 46 = .ok (.iload 7, 2) := by decide +kernel
theorem dX2_between_48 : decode cX2_between 48 = .ok (.iload 4, 2) := by decide +kernel
theorem dX2_between_50 : decode cX2_between 50 = .ok (.imul, 1) := by decide +kernel
theorem dX2_between_51 : decode cX2_between 51 = .ok (.iadd, 1) := by decide +kernel
theorem dX2_between_52 : decode cX2_between 52 = .ok (.ishl, 1) := by decide +kernel
theorem dX2_between_53 : decode cX2_between 53 = .ok (.ior, 1) := by decide +kernel
theorem dX2_between_54 : decode cX2_between 54 = .ok (.istore 6, 2) := by decide +kernel
theorem dX2_between_56 : decode cX2_between 56 = .ok (.iinc 7 1, 3) := by decide +kernel
theorem dX2_between_59 : decode cX2_between 59 = .ok (.goto (-24), 3) := by decide +kernel
theorem dX2_between_62 : decode cX2_between 62 = .ok (.iload 6, 2) := by decide +kernel
theorem dX2_between_64 : decode cX2_between 64 = .ok (.aload_n 0, 1) := by decide +kernel
theorem dX2_between_65 : decode cX2_between 65 = .ok (.getfield 40, 3) := by decide +kernel
theorem dX2_between_68 : decode cX2_between 68 = .ok (.iconst (-1), 1) := by decide +kernel
theorem dX2_between_69 : decode cX2_between 69 = .ok (.ixor, 1) := by decide +kernel
theorem dX2_between_70 : decode cX2_between 70 = .ok (.iand, 1) := by decide +kernel
theorem dX2_between_71 : decode cX2_between 71 = .ok (.ifCond .ne 8, 3) := by decide +kernel
theorem dX2_between_74 : decode cX2_between 74 = .ok (.iload 6, 2) := by decide +kernel
theorem dX2_between_76 : decode cX2_between 76 = .ok (.goto 4, 3) := by decide +kernel
theorem dX2_between_79 : decode cX2_between 79 = .ok (.iconst (-1), 1) := by decide +kernel
theorem dX2_between_80 : decode cX2_between 80 = .ok (.ireturn, 1) := by decide +kernel
theorem dX2_direction_0 : decode cX2_direction 0 = .ok (.iload_n 0, 1) := by decide +kernel
theorem dX2_direction_1 : decode cX2_direction 1 = .ok (.ifCond .le 7, 3) := by decide +kernel
theorem dX2_direction_4 : decode cX2_direction 4 = .ok (.iconst 1, 1) := by decide +kernel
theorem dX2_direction_5 : decode cX2_direction 5 = .ok (.goto 12, 3) := by decide +kernel
theorem dX2_direction_8 : decode cX2_direction 8 = .ok (.iload_n 0, 1) := by decide +kernel
theorem dX2_direction_9 : decode cX2_direction 9 = .ok (.ifCond .ge 7, 3) := by decide +kernel
theorem dX2_direction_12 : decode cX2_direction 12 = .ok (.iconst (-1), 1) := by decide +kernel
theorem dX2_direction_13 : decode cX2_direction 13 = .ok (.goto 4, 3) := by decide +kernel
theorem dX2_direction_16 : decode cX2_direction 16 = .ok (.iconst 0, 1) := by decide +kernel
theorem dX2_direction_17 : decode cX2_direction 17 = .ok (.ireturn, 1) := by decide +kernel
theorem dX3_init_0 : decode cX3_init 0 = .ok (.aload_n 0, 1) := by decide +kernel
theorem dX3_init_1 : decode cX3_init 1 = .ok (.invokespecial 3, 3) := by decide +kernel
theorem dX3_init_4 : decode cX3_init 4 = .ok (.aload_n 0, 1) := by decide +kernel
theorem dX3_init_5 : decode cX3_init 5 = .ok (.bipush (-5), 2) := by decide +kernel
theorem dX3_init_7 : decode cX3_init 7 = .ok (.putfield 9, 3) := by decide +kernel
theorem dX3_init_10 : decode cX3_init 10 = .ok (.aload_n 0, 1) := by decide +kernel
theorem dX3_init_11 : decode cX3_init 11 = .ok (.iconst 3, 1) := by decide +kernel
theorem dX3_init_12 : decode cX3_init 12 = .ok (.newarray .int, 2) := by decide +kernel
theorem dX3_init_14 : decode cX3_init 14 = .ok (.putfield 15, 3) := by decide +kernel
theorem dX3_init_17 : decode cX3_init 17 = .ok (.aload_n 0, 1) := by decide +kernel
theorem dX3_init_18 : decode cX3_init 18 = .ok (.aload_n 1, 1) := by decide +kernel
theorem dX3_init_19 : decode cX3_init 19 = .ok (.putfield 19, 3) := by decide +kernel
theorem dX3_init_22 : decode cX3_init 22 = .ok (.aload_n 0, 1) := by decide +kernel
theorem dX3_init_23 : decode cX3_init 23 = .ok (.iload_n 2, 1) := by decide +kernel
theorem dX3_init_24 : decode cX3_init 24 = .ok (.aload_n 1, 1) := by decide +kernel
theorem dX3_init_25 : decode cX3_init 25 = .ok (.arraylength, 1) := by decide +kernel
theorem dX3_init_26 : decode cX3_init 26 = .ok (.invokestatic 22, 3) := by decide +kernel
theorem dX3_init_29 : decode cX3_init 29 = .ok (.putfield 28, 3) := by decide +kernel
theorem dX3_init_32 : decode cX3_init 32 = .ok (.return_, 1) := by decide +kernel
theorem dX3_isGame_0 : decode cX3_isGame 0 = .ok (.aload_n 0, 1) := by decide +kernel
theorem dX3_isGame_1 : decode cX3_isGame 1 = .ok (.invokevirtual 31, 3) := by decide +kernel
theorem dX3_isGame_4 : decode cX3_isGame 4 = .ok (.ifCond .eq 19, 3) := by decide +kernel
theorem dX3_isGame_7 : decode cX3_isGame 7 = .ok (.aload_n 0, 1) := by decide +kernel
theorem dX3_isGame_8 : decode cX3_isGame 8 = .ok (.bipush 59, 2) := by decide +kernel
theorem dX3_isGame_10 : decode cX3_isGame 10 = .ok (.invokevirtual 35, 3) := by decide +kernel
theorem dX3_isGame_13 : decode cX3_isGame 13 = .ok (.ifCond .eq 10, 3) := by decide +kernel
theorem dX3_isGame_16 : decode cX3_isGame 16 = .ok (.aload_n 0, 1) := by decide +kernel
theorem dX3_isGame_17 : decode cX3_isGame 17 = .ok (.invokevirtual 39, 3) := by decide +kernel
theorem dX3_isGame_20 : decode cX3_isGame 20 = .ok (.ifCond .ne 5, 3) := by decide +kernel
theorem dX3_isGame_23 : decode cX3_isGame 23 = .ok (.iconst 0, 1) := by decide +kernel
theorem dX3_isGame_24 : decode cX3_isGame 24 = .ok (.ireturn, 1) := by decide +kernel
theorem dX3_isGame_25 : decode cX3_isGame 25 = .ok (.aload_n 0, 1) := by decide +kernel
theorem dX3_isGame_26 : decode cX3_isGame 26 = .ok (.aload_n 0, 1) := by decide +kernel
theorem dX3_isGame_27 : decode cX3_isGame 27 = .ok (.getfield 42, 3) := by decide +kernel
theorem dX3_isGame_30 : decode cX3_isGame 30 = .ok (.putfield 45, 3) := by decide +kernel
theorem dX3_isGame_33 : decode cX3_isGame 33 = .ok (.aload_n 0, 1) := by decide +kernel
theorem dX3_isGame_34 : decode cX3_isGame 34 = .ok (.bipush 45, 2) := by decide +kernel
theorem dX3_isGame_36 : decode cX3_isGame 36 = .ok (.invokevirtual 35, 3) := by decide +kernel
theorem dX3_isGame_39 : decode cX3_isGame 39 = .ok (.ifCond .eq 10, 3) := by decide +kernel
theorem dX3_isGame_42 : decode cX3_isGame 42 = .ok (.aload_n 0, 1) := by decide +kernel
theorem dX3_isGame_43 : decode cX3_isGame 43 = .ok (.invokevirtual 39, 3) := by decide +kernel
theorem dX3_isGame_46 : decode cX3_isGame 46 = .ok (.ifCond .ne 5, 3) := by decide +kernel
theorem dX3_isGame_49 : decode cX3_isGame 49 = .ok (.iconst 0, 1) := by decide +kernel
theorem dX3_isGame_50 : decode cX3_isGame 50 = .ok (.ireturn, 1) := by decide +kernel
theorem dX3_isGame_51 : decode cX3_isGame 51 = .ok (.iconst 0, 1) := by decide +kernel
theorem dX3_isGame_52 : decode cX3_isGame 52 = .ok (.istore_n 1, 1) := by decide +kernel
theorem dX3_isGame_53 : decode cX3_isGame 53 = .ok (.iload_n 1, 1) := by decide +kernel
theorem dX3_isGame_54 : decode cX3_isGame 54 = .ok (.bipush 40, 2) := by decide +kernel
theorem dX3_isGame_56 : decode cX3_isGame 56 = .ok (.if_icmp .ge 38, 3) := by decide +kernel
theorem dX3_isGame_59 : decode cX3_isGame 59 = .ok (.aload_n 0, 1) := by decide +kernel
theorem dX3_isGame_60 : decode cX3_isGame 60 = .ok (.getfield 48, 3) := by decide +kernel
theorem dX3_isGame_63 : decode cX3_isGame 63 = .ok (.aload_n 0, 1) := by decide +kernel
theorem dX3_isGame_64 : decode cX3_isGame 64 = .ok (.getfield 28, 3) := by decide +kernel
theorem dX3_isGame_67 : decode cX3_isGame 67 = .ok (.if_icmp .ge 27, 3) := by decide +kernel
theorem dX3_isGame_70 : decode cX3_isGame 70 = .ok (.aload_n 0, 1) := by decide +kernel
theorem dX3_isGame_71 : decode cX3_isGame 71 = .ok (.bipush 59, 2) := by decide +kernel
theorem dX3_isGame_73 : decode cX3_isGame 73 = .ok (.invokevirtual 35, 3) := by decide +kernel
theorem dX3_isGame_76 : decode cX3_isGame 76 = .ok (.ifCond .eq 10, 3) := by decide +kernel
theorem dX3_isGame_79 : decode cX3_isGame 79 = .ok (.aload_n 0, 1) := by decide +kernel
theorem dX3_isGame_80 : decode cX3_isGame 80 = .ok (.invokevirtual 51, 3) := by decide +kernel
theorem dX3_isGame_83 : decode cX3_isGame 83 = .ok (.ifCond .ne 5, 3) := by decide +kernel
theorem dX3_isGame_86 : decode cX3_isGame 86 = .ok (.iconst 0, 1) := by decide +kernel
theorem dX3_isGame_87 : decode cX3_isGame 87 = .ok (.ireturn, 1) := by decide +kernel
theorem dX3_isGame_88 : decode cX3_isGame 88 = .ok (.iinc 1 1, 3) := by decide +kernel
theorem dX3_isGame_91 : decode cX3_isGame 91 = .ok (.goto (-38), 3) := by decide +kernel
theorem dX3_isGame_94 : decode cX3_isGame 94 = .ok (.aload_n 0, 1) := by decide +kernel
theorem dX3_isGame_95 : decode cX3_isGame 95 = .ok (.getfield 48, 3) := by decide +kernel
theorem dX3_isGame_98 : decode cX3_isGame 98 = .ok (.aload_n 0, 1) := by decide +kernel
theorem dX3_isGame_99 : decode cX3_isGame 99 = .ok (.getfield 28, 3) := by decide +kernel
theorem dX3_isGame_102 : decode cX3_isGame 102 = .ok (.if_icmp .lt 7, 3) := by decide +kernel
theorem dX3_isGame_105 : decode cX3_isGame 105 = .ok (.iconst 1, 1) := by decide +kernel
theorem dX3_isGame_106 : decode cX3_isGame 106 = .ok (.goto 4, 3) := by decide +kernel
theorem dX3_isGame_109 : decode cX3_isGame 109 = .ok (.iconst 0, 1) := by decide +kernel
theorem dX3_isGame_110 : decode cX3_isGame 110 = .ok (.ireturn, 1) := by decide +kernel
theorem dX3_ahead_0 : decode cX3_ahead 0 = .ok (.aload_n 0, 1) := by decide +kernel
theorem dX3_ahead_1 : decode cX3_ahead 1 = .ok (.getfield 48, 3) := by decide +kernel
theorem dX3_ahead_4 : decode cX3_ahead 4 = .ok (.ifCond .lt 38, 3) := by decide +kernel
theorem dX3_ahead_7 : decode cX3_ahead 7 = .ok (.aload_n 0, 1) := by decide +kernel
theorem dX3_ahead_8 : decode cX3_ahead 8 = .ok (.getfield 48, 3) := by decide +kernel
theorem dX3_ahead_11 : decode cX3_ahead 11 = .ok (.aload_n 0, 1) := by decide +kernel
theorem dX3_ahead_12 : decode cX3_ahead 12 = .ok (.getfield 28, 3) := by decide +kernel
theorem dX3_ahead_15 : decode cX3_ahead 15 = .ok (.if_icmp .ge 27, 3) := by decide +kernel
theorem dX3_ahead_18 : decode cX3_ahead 18 = .ok (.aload_n 0, 1) := by decide +kernel
theorem dX3_ahead_19 : decode cX3_ahead 19 = .ok (.getfield 48, 3) := by decide +kernel
theorem dX3_ahead_22 : decode cX3_ahead 22 = .ok (.aload_n 0, 1) := by decide +kernel
theorem dX3_ahead_23 : decode cX3_ahead 23 = .ok (.getfield 19, 3) := by decide +kernel
theorem dX3_ahead_26 : decode cX3_ahead 26 = .ok (.arraylength, 1) := by decide +kernel
theorem dX3_ahead_27 : decode cX3_ahead 27 = .ok (.if_icmp .ge 15, 3) := by decide +kernel
theorem dX3_ahead_30 : decode cX3_ahead 30 = .ok (.aload_n 0, 1) := by decide +kernel
theorem dX3_ahead_31 : decode cX3_ahead 31 = .ok (.getfield 19, 3) := by decide +kernel
theorem dX3_ahead_34 : decode cX3_ahead 34 = .ok (.aload_n 0, 1) := by decide +kernel
theorem dX3_ahead_35 : decode cX3_ahead 35 = .ok (.getfield 48, 3) := by decide +kernel
theorem dX3_ahead_38 : decode cX3_ahead 38 = .ok (.iaload, 1) := by decide +kernel
theorem dX3_ahead_39 : decode cX3_ahead 39 = .ok (.goto 4, 3) := by decide +kernel
theorem dX3_ahead_42 : decode cX3_ahead 42 = .ok (.iconst (-1), 1) := by decide +kernel
theorem dX3_ahead_43 : decode cX3_ahead 43 = .ok (.ireturn, 1) := by decide +kernel
theorem dX3_take_0 : decode cX3_take 0 = .ok (.aload_n 0, 1) := by decide +kernel
theorem dX3_take_1 : decode cX3_take 1 = .ok (.invokevirtual 54, 3) := by decide +kernel
theorem dX3_take_4 : decode cX3_take 4 = .ok (.iload_n 1, 1) := by decide +kernel
theorem dX3_take_5 : decode cX3_take 5 = .ok (.if_icmp .eq 5, 3) := by decide +kernel
theorem dX3_take_8 : decode cX3_take 8 = .ok (.iconst 0, 1) := by decide +kernel
theorem dX3_take_9 : decode cX3_take 9 = .ok (.ireturn, 1) := by decide +kernel
theorem dX3_take_10 : decode cX3_take 10 = .ok (.aload_n 0, 1) := by decide +kernel
theorem dX3_take_11 : decode cX3_take 11 = .ok (.dup, 1) := by decide +kernel
theorem dX3_take_12 : decode cX3_take 12 = .ok (.getfield 48, 3) := by decide +kernel
theorem dX3_take_15 : decode cX3_take 15 = .ok (.iconst 1, 1) := by decide +kernel
theorem dX3_take_16 : decode cX3_take 16 = .ok (.iadd, 1) := by decide +kernel
theorem dX3_take_17 : decode cX3_take 17 = .ok (.putfield 48, 3) := by decide +kernel
theorem dX3_take_20 : decode cX3_take 20 = .ok (.iconst 1, 1) := by decide +kernel
theorem dX3_take_21 : decode cX3_take 21 = .ok (.ireturn, 1) := by decide +kernel
theorem dX3_digitAhead_0 : decode cX3_digitAhead 0 = .ok (.aload_n 0, 1) := by decide +kernel
theorem dX3_digitAhead_1 : decode cX3_digitAhead 1 = .ok (.invokevirtual 54, 3) := by decide +kernel
theorem dX3_digitAhead_4 : decode cX3_digitAhead 4 = .ok (.istore_n 1, 1) := by decide +kernel
theorem dX3_digitAhead_5 : decode cX3_digitAhead 5 = .ok (.iload_n 1, 1) := by decide +kernel
theorem dX3_digitAhead_6 : decode cX3_digitAhead 6 = .ok (.bipush 48, 2) := by decide +kernel
theorem dX3_digitAhead_8 : decode cX3_digitAhead 8 = .ok (.if_icmp .lt 16, 3) := by decide +kernel
theorem dX3_digitAhead_11 : decode cX3_digitAhead 11 = .ok (.iload_n 1, 1) := by decide +kernel
theorem dX3_digitAhead_12 : decode cX3_digitAhead 12 = .ok (.bipush 57, 2) := by decide +kernel
theorem dX3_digitAhead_14 : decode cX3_digitAhead 14 = .ok (.if_icmp .gt 10, 3) := by decide +kernel
theorem dX3_digitAhead_17 : decode cX3_digitAhead 17 = .ok (.iload_n 1, 1) := by decide +kernel
theorem dX3_digitAhead_18 : decode cX3_digitAhead 18 = .ok (.bipush 48, 2) := by decide +kernel
theorem dX3_digitAhead_20 : decode cX3_digitAhead 20 = .ok (.isub, 1) := by decide +kernel
theorem dX3_digitAhead_21 : decode cX3_digitAhead 21 = .ok (.goto 4, 3) := by decide +kernel
theorem dX3_digitAhead_24 : decode cX3_digitAhead 24 = .ok (.iconst (-1), 1) := by decide +kernel
theorem dX3_digitAhead_25 : decode cX3_digitAhead 25 = .ok (.ireturn, 1) := by decide +kernel
theorem dX3_readSize_0 : decode cX3_readSize 0 = .ok (.aload_n 0, 1) := by decide +kernel
theorem dX3_readSize_1 : decode cX3_readSize 1 = .ok (.aload_n 0, 1) := by decide +kernel
theorem dX3_readSize_2 : decode cX3_readSize 2 = .ok (.invokevirtual 58, 3) := by decide +kernel
theorem dX3_readSize_5 : decode cX3_readSize 5 = .ok (.putfield 61, 3) := by decide +kernel
theorem dX3_readSize_8 : decode cX3_readSize 8 = .ok (.aload_n 0, 1) := by decide +kernel
theorem dX3_readSize_9 : decode cX3_readSize 9 = .ok (.getfield 61, 3) := by decide +kernel
theorem dX3_readSize_12 : decode cX3_readSize 12 = .ok (.iconst 2, 1) := by decide +kernel
theorem dX3_readSize_13 : decode cX3_readSize 13 = .ok (.if_icmp .lt 12, 3) := by decide +kernel
theorem dX3_readSize_16 : decode cX3_readSize 16 = .ok (.aload_n 0, 1) := by decide +kernel
theorem dX3_readSize_17 : decode cX3_readSize 17 = .ok (.getfield 61, 3) := by decide +kernel
theorem dX3_readSize_20 : decode cX3_readSize 20 = .ok (.bipush 6, 2) := by decide +kernel
theorem dX3_readSize_22 : decode cX3_readSize 22 = .ok (.if_icmp .le 5, 3) := by decide +kernel
theorem dX3_readSize_25 : decode cX3_readSize 25 = .ok (.iconst 0, 1) := by decide +kernel
theorem dX3_readSize_26 : decode cX3_readSize 26 = .ok (.ireturn, 1) := by decide +kernel
theorem dX3_readSize_27 : decode cX3_readSize 27 = .ok (.aload_n 0, 1) := by decide +kernel
theorem dX3_readSize_28 : decode cX3_readSize 28 = .ok (.dup, 1) := by decide +kernel
theorem dX3_readSize_29 : decode cX3_readSize 29 = .ok (.getfield 48, 3) := by decide +kernel
theorem dX3_readSize_32 : decode cX3_readSize 32 = .ok (.iconst 1, 1) := by decide +kernel
theorem dX3_readSize_33 : decode cX3_readSize 33 = .ok (.iadd, 1) := by decide +kernel
theorem dX3_readSize_34 : decode cX3_readSize 34 = .ok (.putfield 48, 3) := by decide +kernel
theorem dX3_readSize_37 : decode cX3_readSize 37 = .ok (.aload_n 0, 1) := by decide +kernel
theorem dX3_readSize_38 : decode cX3_readSize 38 = .ok (.aload_n 0, 1) := by decide +kernel
theorem dX3_readSize_39 : decode cX3_readSize 39 = .ok (.invokevirtual 58, 3) := by decide +kernel
theorem dX3_readSize_42 : decode cX3_readSize 42 = .ok (.putfield 64, 3) := by decide +kernel
theorem dX3_readSize_45 : decode cX3_readSize 45 = .ok (.aload_n 0, 1) := by decide +kernel
theorem dX3_readSize_46 : decode cX3_readSize 46 = .ok (.getfield 64, 3) := by decide +kernel
theorem dX3_readSize_49 : decode cX3_readSize 49 = .ok (.iconst 2, 1) := by decide +kernel
theorem dX3_readSize_50 : decode cX3_readSize 50 = .ok (.if_icmp .lt 12, 3) := by decide +kernel
theorem dX3_readSize_53 : decode cX3_readSize 53 = .ok (.aload_n 0, 1) := by decide +kernel
theorem dX3_readSize_54 : decode cX3_readSize 54 = .ok (.getfield 64, 3) := by decide +kernel
theorem dX3_readSize_57 : decode cX3_readSize 57 = .ok (.bipush 6, 2) := by decide +kernel
theorem dX3_readSize_59 : decode cX3_readSize 59 = .ok (.if_icmp .le 5, 3) := by decide +kernel
theorem dX3_readSize_62 : decode cX3_readSize 62 = .ok (.iconst 0, 1) := by decide +kernel
theorem dX3_readSize_63 : decode cX3_readSize 63 = .ok (.ireturn, 1) := by decide +kernel
theorem dX3_readSize_64 : decode cX3_readSize 64 = .ok (.aload_n 0, 1) := by decide +kernel
theorem dX3_readSize_65 : decode cX3_readSize 65 = .ok (.getfield 61, 3) := by decide +kernel
theorem dX3_readSize_68 : decode cX3_readSize 68 = .ok (.aload_n 0, 1) := by decide +kernel
theorem dX3_readSize_69 : decode cX3_readSize 69 = .ok (.getfield 64, 3) := by decide +kernel
theorem dX3_readSize_72 : decode cX3_readSize 72 = .ok (.imul, 1) := by decide +kernel
theorem dX3_readSize_73 : decode cX3_readSize 73 = .ok (.bipush 12, 2) := by decide +kernel
theorem dX3_readSize_75 : decode cX3_readSize 75 = .ok (.if_icmp .le 5, 3) := by decide +kernel
theorem dX3_readSize_78 : decode cX3_readSize 78 = .ok (.iconst 0, 1) := by decide +kernel
theorem dX3_readSize_79 : decode cX3_readSize 79 = .ok (.ireturn, 1) := by decide +kernel
theorem dX3_readSize_80 : decode cX3_readSize 80 = .ok (.aload_n 0, 1) := by decide +kernel
theorem dX3_readSize_81 : decode cX3_readSize 81 = .ok (.dup, 1) := by decide +kernel
theorem dX3_readSize_82 : decode cX3_readSize 82 = .ok (.getfield 48, 3) := by decide +kernel
theorem dX3_readSize_85 : decode cX3_readSize 85 = .ok (.iconst 1, 1) := by decide +kernel
theorem dX3_readSize_86 : decode cX3_readSize 86 = .ok (.iadd, 1) := by decide +kernel
theorem dX3_readSize_87 : decode cX3_readSize 87 = .ok (.putfield 48, 3) := by decide +kernel
theorem dX3_readSize_90 : decode cX3_readSize 90 = .ok (.iconst 1, 1) := by decide +kernel
theorem dX3_readSize_91 : decode cX3_readSize 91 = .ok (.ireturn, 1) := by decide +kernel
theorem dX3_readMen_0 : decode cX3_readMen 0 = .ok (.aload_n 0, 1) := by decide +kernel
theorem dX3_readMen_1 : decode cX3_readMen 1 = .ok (.invokevirtual 67, 3) := by decide +kernel
theorem dX3_readMen_4 : decode cX3_readMen 4 = .ok (.ifCond .ne 5, 3) := by decide +kernel
theorem dX3_readMen_7 : decode cX3_readMen 7 = .ok (.iconst 0, 1) := by decide +kernel
theorem dX3_readMen_8 : decode cX3_readMen 8 = .ok (.ireturn, 1) := by decide +kernel
theorem dX3_readMen_9 : decode cX3_readMen 9 = .ok (.iconst 0, 1) := by decide +kernel
theorem dX3_readMen_10 : decode cX3_readMen 10 = .ok (.istore_n 1, 1) := by decide +kernel
theorem dX3_readMen_11 : decode cX3_readMen 11 = .ok (.iload_n 1, 1) := by decide +kernel
theorem dX3_readMen_12 : decode cX3_readMen 12 = .ok (.iconst 3, 1) := by decide +kernel
theorem dX3_readMen_13 : decode cX3_readMen 13 = .ok (.if_icmp .ge 25, 3) := by decide +kernel
theorem dX3_readMen_16 : decode cX3_readMen 16 = .ok (.aload_n 0, 1) := by decide +kernel
theorem dX3_readMen_17 : decode cX3_readMen 17 = .ok (.invokevirtual 70, 3) := by decide +kernel
theorem dX3_readMen_20 : decode cX3_readMen 20 = .ok (.ifCond .lt 18, 3) := by decide +kernel
theorem dX3_readMen_23 : decode cX3_readMen 23 = .ok (.aload_n 0, 1) := by decide +kernel
theorem dX3_readMen_24 : decode cX3_readMen 24 = .ok (.invokevirtual 67, 3) := by decide +kernel
theorem dX3_readMen_27 : decode cX3_readMen 27 = .ok (.ifCond .ne 5, 3) := by decide +kernel
theorem dX3_readMen_30 : decode cX3_readMen 30 = .ok (.iconst 0, 1) := by decide +kernel
theorem dX3_readMen_31 : decode cX3_readMen 31 = .ok (.ireturn, 1) := by decide +kernel
theorem dX3_readMen_32 : decode cX3_readMen 32 = .ok (.iinc 1 1, 3) := by decide +kernel
theorem dX3_readMen_35 : decode cX3_readMen 35 = .ok (.goto (-24), 3) := by decide +kernel
theorem dX3_readMen_38 : decode cX3_readMen 38 = .ok (.iconst 1, 1) := by decide +kernel
theorem dX3_readMen_39 : decode cX3_readMen 39 = .ok (.ireturn, 1) := by decide +kernel
theorem dX3_kindAhead_0 : decode cX3_kindAhead 0 = .ok (.aload_n 0, 1) := by decide +kernel
theorem dX3_kindAhead_1 : decode cX3_kindAhead 1 = .ok (.invokevirtual 54, 3) := by decide +kernel
theorem dX3_kindAhead_4 : decode cX3_kindAhead 4 = .ok (.istore_n 1, 1) := by decide +kernel
theorem dX3_kindAhead_5 : decode cX3_kindAhead 5 = .ok (.iload_n 1, 1) := by decide +kernel
theorem dX3_kindAhead_6 : decode cX3_kindAhead 6 = .ok (.ifCond .ge 7, 3) := by decide +kernel
theorem dX3_kindAhead_9 : decode cX3_kindAhead 9 = .ok (.iconst (-1), 1) := by decide +kernel
theorem dX3_kindAhead_10 : decode cX3_kindAhead 10 = .ok (.goto 10, 3) := by decide +kernel
theorem dX3_kindAhead_13 : decode cX3_kindAhead 13 = .ok (.ldc 73, 2) := by decide +kernel
theorem dX3_kindAhead_15 : decode cX3_kindAhead 15 = .ok (.iload_n 1, 1) := by decide +kernel
theorem dX3_kindAhead_16 : decode cX3_kindAhead 16 = .ok (.i2c, 1) := by decide +kernel
theorem dX3_kindAhead_17 : decode cX3_kindAhead 17 = .ok (.invokevirtual 75, 3) := by decide +kernel
theorem dX3_kindAhead_20 : decode cX3_kindAhead 20 = .ok (.ireturn, 1) := by decide +kernel
theorem dX3_readMan_0 : decode cX3_readMan 0 = .ok (.aload_n 0, 1) := by decide +kernel
theorem dX3_readMan_1 : decode cX3_readMan 1 = .ok (.invokevirtual 70, 3) := by decide +kernel
theorem dX3_readMan_4 : decode cX3_readMan 4 = .ok (.istore_n 1, 1) := by decide +kernel
theorem dX3_readMan_5 : decode cX3_readMan 5 = .ok (.iload_n 1, 1) := by decide +kernel
theorem dX3_readMan_6 : decode cX3_readMan 6 = .ok (.ifCond .lt 22, 3) := by decide +kernel
theorem dX3_readMan_9 : decode cX3_readMan 9 = .ok (.aload_n 0, 1) := by decide +kernel
theorem dX3_readMan_10 : decode cX3_readMan 10 = .ok (.getfield 42, 3) := by decide +kernel
theorem dX3_readMan_13 : decode cX3_readMan 13 = .ok (.ifCond .lt 15, 3) := by decide +kernel
theorem dX3_readMan_16 : decode cX3_readMan 16 = .ok (.aload_n 0, 1) := by decide +kernel
theorem dX3_readMan_17 : decode cX3_readMan 17 = .ok (.getfield 42, 3) := by decide +kernel
theorem dX3_readMan_20 : decode cX3_readMan 20 = .ok (.aload_n 0, 1) := by decide +kernel
theorem dX3_readMan_21 : decode cX3_readMan 21 = .ok (.getfield 15, 3) := by decide +kernel
theorem dX3_readMan_24 : decode cX3_readMan 24 = .ok (.arraylength, 1) := by decide +kernel
theorem dX3_readMan_25 : decode cX3_readMan 25 = .ok (.if_icmp .lt 5, 3) := by decide +kernel
theorem dX3_readMan_28 : decode cX3_readMan 28 = .ok (.iconst 0, 1) := by decide +kernel
theorem dX3_readMan_29 : decode cX3_readMan 29 = .ok (.ireturn, 1) := by decide +kernel
theorem dX3_readMan_30 : decode cX3_readMan 30 = .ok (.aload_n 0, 1) := by decide +kernel
theorem dX3_readMan_31 : decode cX3_readMan 31 = .ok (.getfield 15, 3) := by decide +kernel
theorem dX3_readMan_34 : decode cX3_readMan 34 = .ok (.aload_n 0, 1) := by decide +kernel
theorem dX3_readMan_35 : decode cX3_readMan 35 = .ok (.getfield 42, 3) := by decide +kernel
theorem dX3_readMan_38 : decode cX3_readMan 38 = .ok (.iload_n 1, 1) := by decide +kernel
theorem dX3_readMan_39 : decode cX3_readMan 39 = .ok (.iastore, 1) := by decide +kernel
theorem dX3_readMan_40 : decode cX3_readMan 40 = .ok (.aload_n 0, 1) := by decide +kernel
theorem dX3_readMan_41 : decode cX3_readMan 41 = .ok (.dup, 1) := by decide +kernel
theorem dX3_readMan_42 : decode cX3_readMan 42 = .ok (.getfield 42, 3) := by decide +kernel
theorem dX3_readMan_45 : decode cX3_readMan 45 = .ok (.iconst 1, 1) := by decide +kernel
theorem dX3_readMan_46 : decode cX3_readMan 46 = .ok (.iadd, 1) := by decide +kernel
theorem dX3_readMan_47 : decode cX3_readMan 47 = .ok (.putfield 42, 3) := by decide +kernel
theorem dX3_readMan_50 : decode cX3_readMan 50 = .ok (.aload_n 0, 1) := by decide +kernel
theorem dX3_readMan_51 : decode cX3_readMan 51 = .ok (.dup, 1) := by decide +kernel
theorem dX3_readMan_52 : decode cX3_readMan 52 = .ok (.getfield 48, 3) := by decide +kernel
theorem dX3_readMan_55 : decode cX3_readMan 55 = .ok (.iconst 1, 1) := by decide +kernel
theorem dX3_readMan_56 : decode cX3_readMan 56 = .ok (.iadd, 1) := by decide +kernel
theorem dX3_readMan_57 : decode cX3_readMan 57 = .ok (.putfield 48, 3) := by decide +kernel
theorem dX3_readMan_60 : decode cX3_readMan 60 = .ok (.iconst 1, 1) := by decide +kernel
theorem dX3_readMan_61 : decode cX3_readMan 61 = .ok (.ireturn, 1) := by decide +kernel
theorem dX3_readClause_0 : decode cX3_readClause 0 = .ok (.aload_n 0, 1) := by decide +kernel
theorem dX3_readClause_1 : decode cX3_readClause 1 = .ok (.bipush 120, 2) := by decide +kernel
theorem dX3_readClause_3 : decode cX3_readClause 3 = .ok (.invokevirtual 35, 3) := by decide +kernel
theorem dX3_readClause_6 : decode cX3_readClause 6 = .ok (.ifCond .eq 8, 3) := by decide +kernel
theorem dX3_readClause_9 : decode cX3_readClause 9 = .ok (.aload_n 0, 1) := by decide +kernel
theorem dX3_readClause_10 : decode cX3_readClause 10 = .ok (.invokevirtual 81, 3) := by decide +kernel
theorem dX3_readClause_13 : decode cX3_readClause 13 = .ok (.ireturn, 1) := by decide +kernel
theorem dX3_readClause_14 : decode cX3_readClause 14 = .ok (.aload_n 0, 1) := by decide +kernel
theorem dX3_readClause_15 : decode cX3_readClause 15 = .ok (.bipush 109, 2) := by decide +kernel
theorem dX3_readClause_17 : decode cX3_readClause 17 = .ok (.invokevirtual 35, 3) := by decide +kernel
theorem dX3_readClause_20 : decode cX3_readClause 20 = .ok (.ifCond .eq 8, 3) := by decide +kernel
theorem dX3_readClause_23 : decode cX3_readClause 23 = .ok (.aload_n 0, 1) := by decide +kernel
theorem dX3_readClause_24 : decode cX3_readClause 24 = .ok (.invokevirtual 84, 3) := by decide +kernel
theorem dX3_readClause_27 : decode cX3_readClause 27 = .ok (.ireturn, 1) := by decide +kernel
theorem dX3_readClause_28 : decode cX3_readClause 28 = .ok (.aload_n 0, 1) := by decide +kernel
theorem dX3_readClause_29 : decode cX3_readClause 29 = .ok (.bipush 100, 2) := by decide +kernel
theorem dX3_readClause_31 : decode cX3_readClause 31 = .ok (.invokevirtual 35, 3) := by decide +kernel
theorem dX3_readClause_34 : decode cX3_readClause 34 = .ok (.ifCond .eq 11, 3) := by decide +kernel
theorem dX3_readClause_37 : decode cX3_readClause 37 = .ok (.aload_n 0, 1) := by decide +kernel
theorem dX3_readClause_38 : decode cX3_readClause 38 = .ok (.iconst 0, 1) := by decide +kernel
theorem dX3_readClause_39 : decode cX3_readClause 39 = .ok (.putfield 87, 3) := by decide +kernel
theorem dX3_readClause_42 : decode cX3_readClause 42 = .ok (.goto 39, 3) := by decide +kernel
theorem dX3_readClause_45 : decode cX3_readClause 45 = .ok (.aload_n 0, 1) := by decide +kernel
theorem dX3_readClause_46 : decode cX3_readClause 46 = .ok (.bipush 108, 2) := by decide +kernel
theorem dX3_readClause_48 : decode cX3_readClause 48 = .ok (.invokevirtual 35, 3) := by decide +kernel
theorem dX3_readClause_51 : decode cX3_readClause 51 = .ok (.ifCond .eq 11, 3) := by decide +kernel
theorem dX3_readClause_54 : decode cX3_readClause 54 = .ok (.aload_n 0, 1) := by decide +kernel
theorem dX3_readClause_55 : decode cX3_readClause 55 = .ok (.iconst (-1), 1) := by decide +kernel
theorem dX3_readClause_56 : decode cX3_readClause 56 = .ok (.putfield 87, 3) := by decide +kernel
theorem dX3_readClause_59 : decode cX3_readClause 59 = .ok (.goto 22, 3) := by decide +kernel
theorem dX3_readClause_62 : decode cX3_readClause 62 = .ok (.aload_n 0, 1) := by decide +kernel
theorem dX3_readClause_63 : decode cX3_readClause 63 = .ok (.bipush 119, 2) := by decide +kernel
theorem dX3_readClause_65 : decode cX3_readClause 65 = .ok (.invokevirtual 35, 3) := by decide +kernel
theorem dX3_readClause_68 : decode cX3_readClause 68 = .ok (.ifCond .eq 11, 3) := by decide +kernel
theorem dX3_readClause_71 : decode cX3_readClause 71 = .ok (.aload_n 0, 1) := by decide +kernel
theorem dX3_readClause_72 : decode cX3_readClause 72 = .ok (.iconst 1, 1) := by decide +kernel
theorem dX3_readClause_73 : decode cX3_readClause 73 = .ok (.putfield 87, 3) := by decide +kernel
theorem dX3_readClause_76 : decode cX3_readClause 76 = .ok (.goto 5, 3) := by decide +kernel
theorem dX3_readClause_79 : decode cX3_readClause 79 = .ok (.iconst 0, 1) := by decide +kernel
theorem dX3_readClause_80 : decode cX3_readClause 80 = .ok (.ireturn, 1) := by decide +kernel
theorem dX3_readClause_81 : decode cX3_readClause 81 = .ok (.iconst 1, 1) := by decide +kernel
theorem dX3_readClause_82 : decode cX3_readClause 82 = .ok (.ireturn, 1) := by decide +kernel
theorem dX3_readLimit_0 : decode cX3_readLimit 0 = .ok (.aload_n 0, 1) := by decide +kernel
theorem dX3_readLimit_1 : decode cX3_readLimit 1 = .ok (.invokevirtual 90, 3) := by decide +kernel
theorem dX3_readLimit_4 : decode cX3_readLimit 4 = .ok (.istore_n 1, 1) := by decide +kernel
theorem dX3_readLimit_5 : decode cX3_readLimit 5 = .ok (.iload_n 1, 1) := by decide +kernel
theorem dX3_readLimit_6 : decode cX3_readLimit 6 = .ok (.ifCond .ge 5, 3) := by decide +kernel
theorem dX3_readLimit_9 : decode cX3_readLimit 9 = .ok (.iconst 0, 1) := by decide +kernel
theorem dX3_readLimit_10 : decode cX3_readLimit 10 = .ok (.ireturn, 1) := by decide +kernel
theorem dX3_readLimit_11 : decode cX3_readLimit 11 = .ok (.aload_n 0, 1) := by decide +kernel
theorem dX3_readLimit_12 : decode cX3_readLimit 12 = .ok (.iload_n 1, 1) := by decide +kernel
theorem dX3_readLimit_13 : decode cX3_readLimit 13 = .ok (.putfield 9, 3) := by decide +kernel
theorem dX3_readLimit_16 : decode cX3_readLimit 16 = .ok (.iconst 1, 1) := by decide +kernel
theorem dX3_readLimit_17 : decode cX3_readLimit 17 = .ok (.ireturn, 1) := by decide +kernel
theorem dX3_readHoles_0 : decode cX3_readHoles 0 = .ok (.iconst 0, 1) := by decide +kernel
theorem dX3_readHoles_1 : decode cX3_readHoles 1 = .ok (.istore_n 1, 1) := by decide +kernel
theorem dX3_readHoles_2 : decode cX3_readHoles 2 = .ok (.iload_n 1, 1) := by decide +kernel
theorem dX3_readHoles_3 : decode cX3_readHoles 3 = .ok (.bipush 40, 2) := by decide +kernel
theorem dX3_readHoles_5 : decode cX3_readHoles 5 = .ok (.if_icmp .ge 68, 3) := by decide +kernel
theorem dX3_readHoles_8 : decode cX3_readHoles 8 = .ok (.aload_n 0, 1) := by decide +kernel
theorem dX3_readHoles_9 : decode cX3_readHoles 9 = .ok (.getfield 48, 3) := by decide +kernel
theorem dX3_readHoles_12 : decode cX3_readHoles 12 = .ok (.istore_n 2, 1) := by decide +kernel
theorem dX3_readHoles_13 : decode cX3_readHoles 13 = .ok (.aload_n 0, 1) := by decide +kernel
theorem dX3_readHoles_14 : decode cX3_readHoles 14 = .ok (.invokevirtual 90, 3) := by decide +kernel
theorem dX3_readHoles_17 : decode cX3_readHoles 17 = .ok (.istore_n 3, 1) := by decide +kernel
theorem dX3_readHoles_18 : decode cX3_readHoles 18 = .ok (.iload_n 3, 1) := by decide +kernel
theorem dX3_readHoles_19 : decode cX3_readHoles 19 = .ok (.ifCond .ge 5, 3) := by decide +kernel
theorem dX3_readHoles_22 : decode cX3_readHoles 22 = .ok (.iconst 0, 1) := by decide +kernel
theorem dX3_readHoles_23 : decode cX3_readHoles 23 = .ok (.ireturn, 1) := by decide +kernel
theorem dX3_readHoles_24 : decode cX3_readHoles 24 = .ok (.iload_n 3, 1) := by decide +kernel
theorem dX3_readHoles_25 : decode cX3_readHoles 25 = .ok (.aload_n 0, 1) := by decide +kernel
theorem dX3_readHoles_26 : decode cX3_readHoles 26 = .ok (.getfield 61, 3) := by decide +kernel
theorem dX3_readHoles_29 : decode cX3_readHoles 29 = .ok (.aload_n 0, 1) := by decide +kernel
theorem dX3_readHoles_30 : decode cX3_readHoles 30 = .ok (.getfield 64, 3) := by decide +kernel
theorem dX3_readHoles_33 : decode cX3_readHoles 33 = .ok (.imul, 1) := by decide +kernel
theorem dX3_readHoles_34 : decode cX3_readHoles 34 = .ok (.if_icmp .lt 10, 3) := by decide +kernel
theorem dX3_readHoles_37 : decode cX3_readHoles 37 = .ok (.aload_n 0, 1) := by decide +kernel
theorem dX3_readHoles_38 : decode cX3_readHoles 38 = .ok (.iload_n 2, 1) := by decide +kernel
theorem dX3_readHoles_39 : decode cX3_readHoles 39 = .ok (.putfield 48, 3) := by decide +kernel
theorem dX3_readHoles_42 : decode cX3_readHoles 42 = .ok (.iconst 0, 1) := by decide +kernel
theorem dX3_readHoles_43 : decode cX3_readHoles 43 = .ok (.ireturn, 1) := by decide +kernel
theorem dX3_readHoles_44 : decode cX3_readHoles 44 = .ok (.aload_n 0, 1) := by decide +kernel
theorem dX3_readHoles_45 : decode cX3_readHoles 45 = .ok (.dup, 1) := by decide +kernel
theorem dX3_readHoles_46 : decode cX3_readHoles 46 = .ok (.getfield 93, 3) := by decide +kernel
theorem dX3_readHoles_49 : decode cX3_readHoles 49 = .ok (.iconst 1, 1) := by decide +kernel
theorem dX3_readHoles_50 : decode cX3_readHoles 50 = .ok (.iload_n 3, 1) := by decide +kernel
theorem dX3_readHoles_51 : decode cX3_readHoles 51 = .ok (.ishl, 1) := by decide +kernel
theorem dX3_readHoles_52 : decode cX3_readHoles 52 = .ok (.ior, 1) := by decide +kernel
theorem dX3_readHoles_53 : decode cX3_readHoles 53 = .ok (.putfield 93, 3) := by decide +kernel
theorem dX3_readHoles_56 : decode cX3_readHoles 56 = .ok (.aload_n 0, 1) := by decide +kernel
theorem dX3_readHoles_57 : decode cX3_readHoles 57 = .ok (.bipush 44, 2) := by decide +kernel
theorem dX3_readHoles_59 : decode cX3_readHoles 59 = .ok (.invokevirtual 35, 3) := by decide +kernel
theorem dX3_readHoles_62 : decode cX3_readHoles 62 = .ok (.ifCond .ne 5, 3) := by decide +kernel
theorem dX3_readHoles_65 : decode cX3_readHoles 65 = .ok (.iconst 1, 1) := by decide +kernel
theorem dX3_readHoles_66 : decode cX3_readHoles 66 = .ok (.ireturn, 1) := by decide +kernel
theorem dX3_readHoles_67 : decode cX3_readHoles 67 = .ok (.iinc 1 1, 3) := by decide +kernel
theorem dX3_readHoles_70 : decode cX3_readHoles 70 = .ok (.goto (-68), 3) := by decide +kernel
theorem dX3_readHoles_73 : decode cX3_readHoles 73 = .ok (.iconst 0, 1) := by decide +kernel
theorem dX3_readHoles_74 : decode cX3_readHoles 74 = .ok (.ireturn, 1) := by decide +kernel
theorem dX3_readNumber_0 : decode cX3_readNumber 0 = .ok (.aload_n 0, 1) := by decide +kernel
theorem dX3_readNumber_1 : decode cX3_readNumber 1 = .ok (.invokevirtual 58, 3) := by decide +kernel
theorem dX3_readNumber_4 : decode cX3_readNumber 4 = .ok (.istore_n 1, 1) := by decide +kernel
theorem dX3_readNumber_5 : decode cX3_readNumber 5 = .ok (.iload_n 1, 1) := by decide +kernel
theorem dX3_readNumber_6 : decode cX3_readNumber 6 = .ok (.ifCond .ge 5, 3) := by decide +kernel
theorem dX3_readNumber_9 : decode cX3_readNumber 9 = .ok (.iconst (-1), 1) := by decide +kernel
theorem dX3_readNumber_10 : decode cX3_readNumber 10 = .ok (.ireturn, 1) := by decide +kernel
theorem dX3_readNumber_11 : decode cX3_readNumber 11 = .ok (.aload_n 0, 1) := by decide +kernel
theorem dX3_readNumber_12 : decode cX3_readNumber 12 = .ok (.dup, 1) := by decide +kernel
theorem dX3_readNumber_13 : decode cX3_readNumber 13 = .ok (.getfield 48, 3) := by decide +kernel
theorem dX3_readNumber_16 : decode cX3_readNumber 16 = .ok (.iconst 1, 1) := by decide +kernel
theorem dX3_readNumber_17 : decode cX3_readNumber 17 = .ok (.iadd, 1) := by decide +kernel
theorem dX3_readNumber_18 : decode cX3_readNumber 18 = .ok (.putfield 48, 3) := by decide +kernel
theorem dX3_readNumber_21 : decode cX3_readNumber 21 = .ok (.aload_n 0, 1) := by decide +kernel
theorem dX3_readNumber_22 : decode cX3_readNumber 22 = .ok (.invokevirtual 58, 3) := by decide +kernel
theorem dX3_readNumber_25 : decode cX3_readNumber 25 = .ok (.istore_n 2, 1) := by decide +kernel
theorem dX3_readNumber_26 : decode cX3_readNumber 26 = .ok (.iload_n 1, 1) := by decide +kernel
theorem dX3_readNumber_27 : decode cX3_readNumber 27 = .ok (.ifCond .eq 7, 3) := by decide +kernel
theorem dX3_readNumber_30 : decode cX3_readNumber 30 = .ok (.iload_n 2, 1) := by decide +kernel
theorem dX3_readNumber_31 : decode cX3_readNumber 31 = .ok (.ifCond .ge 5, 3) := by decide +kernel
theorem dX3_readNumber_34 : decode cX3_readNumber 34 = .ok (.iload_n 1, 1) := by decide +kernel
theorem dX3_readNumber_35 : decode cX3_readNumber 35 = .ok (.ireturn, 1) := by decide +kernel
theorem dX3_readNumber_36 : decode cX3_readNumber 36 = .ok (.aload_n 0, 1) := by decide +kernel
theorem dX3_readNumber_37 : decode cX3_readNumber 37 = .ok (.dup, 1) := by decide +kernel
theorem dX3_readNumber_38 : decode cX3_readNumber 38 = .ok (.getfield 48, 3) := by decide +kernel
theorem dX3_readNumber_41 : decode cX3_readNumber 41 = .ok (.iconst 1, 1) := by decide +kernel
theorem dX3_readNumber_42 : decode cX3_readNumber 42 = .ok (.iadd, 1) := by decide +kernel
theorem dX3_readNumber_43 : decode cX3_readNumber 43 = .ok (.putfield 48, 3) := by decide +kernel
theorem dX3_readNumber_46 : decode cX3_readNumber 46 = .ok (.iload_n 1, 1) := by decide +kernel
theorem dX3_readNumber_47 : decode cX3_readNumber 47 = .ok (.bipush 10, 2) := by decide +kernel
theorem dX3_readNumber_49 : decode cX3_readNumber 49 = .ok (.imul, 1) := by decide +kernel
theorem dX3_readNumber_50 : decode cX3_readNumber 50 = .ok (.iload_n 2, 1) := by decide +kernel
theorem dX3_readNumber_51 : decode cX3_readNumber 51 = .ok (.iadd, 1) := by decide +kernel
theorem dX3_readNumber_52 : decode cX3_readNumber 52 = .ok (.ireturn, 1) := by decide +kernel
theorem dX4_init_0 : decode cX4_init 0 = .ok (.aload_n 0, 1) := by decide +kernel
theorem dX4_init_1 : decode cX4_init 1 = .ok (.invokespecial 3, 3) := by decide +kernel
theorem dX4_init_4 : decode cX4_init 4 = .ok (.aload_n 0, 1) := by decide +kernel
theorem dX4_init_5 : decode cX4_init 5 = .ok (.iconst 3, 1) := by decide +kernel
theorem dX4_init_6 : decode cX4_init 6 = .ok (.newarray .int, 2) := by decide +kernel
theorem dX4_init_8 : decode cX4_init 8 = .ok (.putfield 9, 3) := by decide +kernel
theorem dX4_init_11 : decode cX4_init 11 = .ok (.aload_n 0, 1) := by decide +kernel
theorem dX4_init_12 : decode cX4_init 12 = .ok (.iconst 3, 1) := by decide +kernel
theorem dX4_init_13 : decode cX4_init 13 = .ok (.newarray .int, 2) := by decide +kernel
theorem dX4_init_15 : decode cX4_init 15 = .ok (.putfield 15, 3) := by decide +kernel
theorem dX4_init_18 : decode cX4_init 18 = .ok (.aload_n 0, 1) := by decide +kernel
theorem dX4_init_19 : decode cX4_init 19 = .ok (.aload_n 1, 1) := by decide +kernel
theorem dX4_init_20 : decode cX4_init 20 = .ok (.getfield 18, 3) := by decide +kernel
theorem dX4_init_23 : decode cX4_init 23 = .ok (.putfield 24, 3) := by decide +kernel
theorem dX4_init_26 : decode cX4_init 26 = .ok (.aload_n 0, 1) := by decide +kernel
theorem dX4_init_27 : decode cX4_init 27 = .ok (.aload_n 1, 1) := by decide +kernel
theorem dX4_init_28 : decode cX4_init 28 = .ok (.getfield 25, 3) := by decide +kernel
theorem dX4_init_31 : decode cX4_init 31 = .ok (.putfield 28, 3) := by decide +kernel
theorem dX4_init_34 : decode cX4_init 34 = .ok (.aload_n 0, 1) := by decide +kernel
theorem dX4_init_35 : decode cX4_init 35 = .ok (.aload_n 0, 1) := by decide +kernel
theorem dX4_init_36 : decode cX4_init 36 = .ok (.getfield 24, 3) := by decide +kernel
theorem dX4_init_39 : decode cX4_init 39 = .ok (.aload_n 0, 1) := by decide +kernel
theorem dX4_init_40 : decode cX4_init 40 = .ok (.getfield 28, 3) := by decide +kernel
theorem dX4_init_43 : decode cX4_init 43 = .ok (.imul, 1) := by decide +kernel
theorem dX4_init_44 : decode cX4_init 44 = .ok (.putfield 29, 3) := by decide +kernel
theorem dX4_init_47 : decode cX4_init 47 = .ok (.aload_n 0, 1) := by decide +kernel
theorem dX4_init_48 : decode cX4_init 48 = .ok (.aload_n 1, 1) := by decide +kernel
theorem dX4_init_49 : decode cX4_init 49 = .ok (.getfield 32, 3) := by decide +kernel
theorem dX4_init_52 : decode cX4_init 52 = .ok (.putfield 35, 3) := by decide +kernel
theorem dX4_init_55 : decode cX4_init 55 = .ok (.aload_n 0, 1) := by decide +kernel
theorem dX4_init_56 : decode cX4_init 56 = .ok (.iconst 1, 1) := by decide +kernel
theorem dX4_init_57 : decode cX4_init 57 = .ok (.aload_n 0, 1) := by decide +kernel
theorem dX4_init_58 : decode cX4_init 58 = .ok (.getfield 29, 3) := by decide +kernel
theorem dX4_init_61 : decode cX4_init 61 = .ok (.ishl, 1) := by decide +kernel
theorem dX4_init_62 : decode cX4_init 62 = .ok (.iconst 1, 1) := by decide +kernel
theorem dX4_init_63 : decode cX4_init 63 = .ok (.isub, 1) := by decide +kernel
theorem dX4_init_64 : decode cX4_init 64 = .ok (.aload_n 0, 1) := by decide +kernel
theorem dX4_init_65 : decode cX4_init 65 = .ok (.getfield 35, 3) := by decide +kernel
theorem dX4_init_68 : decode cX4_init 68 = .ok (.iconst (-1), 1) := by decide +kernel
theorem dX4_init_69 : decode cX4_init 69 = .ok (.ixor, 1) := by decide +kernel
theorem dX4_init_70 : decode cX4_init 70 = .ok (.iand, 1) := by decide +kernel
theorem dX4_init_71 : decode cX4_init 71 = .ok (.putfield 36, 3) := by decide +kernel
theorem dX4_init_74 : decode cX4_init 74 = .ok (.aload_n 0, 1) := by decide +kernel
theorem dX4_init_75 : decode cX4_init 75 = .ok (.aload_n 1, 1) := by decide +kernel
theorem dX4_init_76 : decode cX4_init 76 = .ok (.getfield 39, 3) := by decide +kernel
theorem dX4_init_79 : decode cX4_init 79 = .ok (.putfield 42, 3) := by decide +kernel
theorem dX4_init_82 : decode cX4_init 82 = .ok (.aload_n 0, 1) := by decide +kernel
theorem dX4_init_83 : decode cX4_init 83 = .ok (.aload_n 1, 1) := by decide +kernel
theorem dX4_init_84 : decode cX4_init 84 = .ok (.getfield 43, 3) := by decide +kernel
theorem dX4_init_87 : decode cX4_init 87 = .ok (.putfield 46, 3) := by decide +kernel
theorem dX4_init_90 : decode cX4_init 90 = .ok (.aload_n 0, 1) := by decide +kernel
theorem dX4_init_91 : decode cX4_init 91 = .ok (.aload_n 1, 1) := by decide +kernel
theorem dX4_init_92 : decode cX4_init 92 = .ok (.getfield 47, 3) := by decide +kernel
theorem dX4_init_95 : decode cX4_init 95 = .ok (.putfield 50, 3) := by decide +kernel
theorem dX4_init_98 : decode cX4_init 98 = .ok (.aload_n 0, 1) := by decide +kernel
theorem dX4_init_99 : decode cX4_init 99 = .ok (.aload_n 1, 1) := by decide +kernel
theorem dX4_init_100 : decode cX4_init 100 = .ok (.getfield 51, 3) := by decide +kernel
theorem dX4_init_103 : decode cX4_init 103 = .ok (.putfield 54, 3) := by decide +kernel
theorem dX4_init_106 : decode cX4_init 106 = .ok (.aload_n 0, 1) := by decide +kernel
theorem dX4_init_107 : decode cX4_init 107 = .ok (.aload_n 0, 1) := by decide +kernel
theorem dX4_init_108 : decode cX4_init 108 = .ok (.getfield 29, 3) := by decide +kernel
theorem dX4_init_111 : decode cX4_init 111 = .ok (.iconst 1, 1) := by decide +kernel
theorem dX4_init_112 : decode cX4_init 112 = .ok (.iadd, 1) := by decide +kernel
theorem dX4_init_113 : decode cX4_init 113 = .ok (.putfield 55, 3) := by decide +kernel
theorem dX4_init_116 : decode cX4_init 116 = .ok (.iconst 2, 1) := by decide +kernel
theorem dX4_init_117 : decode cX4_init 117 = .ok (.istore_n 2, 1) := by decide +kernel
theorem dX4_init_118 : decode cX4_init 118 = .ok (.iconst 2, 1) := by decide +kernel
theorem dX4_init_119 : decode cX4_init 119 = .ok (.istore_n 3, 1) := by decide +kernel
theorem dX4_init_120 : decode cX4_init 120 = .ok (.iload_n 3, 1) := by decide +kernel
theorem dX4_init_121 : decode cX4_init 121 = .ok (.ifCond .lt 47, 3) := by decide +kernel
theorem dX4_init_124 : decode cX4_init 124 = .ok (.aload_n 0, 1) := by decide +kernel
theorem dX4_init_125 : decode cX4_init 125 = .ok (.getfield 9, 3) := by decide +kernel
theorem dX4_init_128 : decode cX4_init 128 = .ok (.iload_n 3, 1) := by decide +kernel
theorem dX4_init_129 : decode cX4_init 129 = .ok (.iload_n 3, 1) := by decide +kernel
theorem dX4_init_130 : decode cX4_init 130 = .ok (.aload_n 0, 1) := by decide +kernel
theorem dX4_init_131 : decode cX4_init 131 = .ok (.getfield 42, 3) := by decide +kernel
theorem dX4_init_134 : decode cX4_init 134 = .ok (.if_icmp .ge 12, 3) := by decide +kernel
theorem dX4_init_137 : decode cX4_init 137 = .ok (.aload_n 1, 1) := by decide +kernel
theorem dX4_init_138 : decode cX4_init 138 = .ok (.getfield 58, 3) := by decide +kernel
theorem dX4_init_141 : decode cX4_init 141 = .ok (.iload_n 3, 1) := by decide +kernel
theorem dX4_init_142 : decode cX4_init 142 = .ok (.iaload, 1) := by decide +kernel
theorem dX4_init_143 : decode cX4_init 143 = .ok (.goto 4, 3) := by decide +kernel
theorem dX4_init_146 : decode cX4_init 146 = .ok (.iconst (-1), 1) := by decide +kernel
theorem dX4_init_147 : decode cX4_init 147 = .ok (.iastore, 1) := by decide +kernel
theorem dX4_init_148 : decode cX4_init 148 = .ok (.aload_n 0, 1) := by decide +kernel
theorem dX4_init_149 : decode cX4_init 149 = .ok (.getfield 15, 3) := by decide +kernel
theorem dX4_init_152 : decode cX4_init 152 = .ok (.iload_n 3, 1) := by decide +kernel
theorem dX4_init_153 : decode cX4_init 153 = .ok (.iload_n 2, 1) := by decide +kernel
theorem dX4_init_154 : decode cX4_init 154 = .ok (.iastore, 1) := by decide +kernel
theorem dX4_init_155 : decode cX4_init 155 = .ok (.iload_n 2, 1) := by decide +kernel
theorem dX4_init_156 : decode cX4_init 156 = .ok (.aload_n 0, 1) := by decide +kernel
theorem dX4_init_157 : decode cX4_init 157 = .ok (.getfield 55, 3) := by decide +kernel
theorem dX4_init_160 : decode cX4_init 160 = .ok (.imul, 1) := by decide +kernel
theorem dX4_init_161 : decode cX4_init 161 = .ok (.istore_n 2, 1) := by decide +kernel
theorem dX4_init_162 : decode cX4_init 162 = .ok (.iinc 3 (-1), 3) := by decide +kernel
theorem dX4_init_165 : decode cX4_init 165 = .ok (.goto (-45), 3) := by decide +kernel
theorem dX4_init_168 : decode cX4_init 168 = .ok (.aload_n 0, 1) := by decide +kernel
theorem dX4_init_169 : decode cX4_init 169 = .ok (.iload_n 2, 1) := by decide +kernel
theorem dX4_init_170 : decode cX4_init 170 = .ok (.sipush 4394, 3) := by decide +kernel
theorem dX4_init_173 : decode cX4_init 173 = .ok (.invokestatic 59, 3) := by decide +kernel
theorem dX4_init_176 : decode cX4_init 176 = .ok (.putfield 65, 3) := by decide +kernel
theorem dX4_init_179 : decode cX4_init 179 = .ok (.return_, 1) := by decide +kernel
theorem dX4_isMan_0 : decode cX4_isMan 0 = .ok (.iload_n 1, 1) := by decide +kernel
theorem dX4_isMan_1 : decode cX4_isMan 1 = .ok (.ifCond .lt 20, 3) := by decide +kernel
theorem dX4_isMan_4 : decode cX4_isMan 4 = .ok (.iload_n 1, 1) := by decide +kernel
theorem dX4_isMan_5 : decode cX4_isMan 5 = .ok (.aload_n 0, 1) := by decide +kernel
theorem dX4_isMan_6 : decode cX4_isMan 6 = .ok (.getfield 42, 3) := by decide +kernel
theorem dX4_isMan_9 : decode cX4_isMan 9 = .ok (.if_icmp .ge 12, 3) := by decide +kernel
theorem dX4_isMan_12 : decode cX4_isMan 12 = .ok (.iload_n 1, 1) := by decide +kernel
theorem dX4_isMan_13 : decode cX4_isMan 13 = .ok (.iconst 3, 1) := by decide +kernel
theorem dX4_isMan_14 : decode cX4_isMan 14 = .ok (.if_icmp .ge 7, 3) := by decide +kernel
theorem dX4_isMan_17 : decode cX4_isMan 17 = .ok (.iconst 1, 1) := by decide +kernel
theorem dX4_isMan_18 : decode cX4_isMan 18 = .ok (.goto 4, 3) := by decide +kernel
theorem dX4_isMan_21 : decode cX4_isMan 21 = .ok (.iconst 0, 1) := by decide +kernel
theorem dX4_isMan_22 : decode cX4_isMan 22 = .ok (.ireturn, 1) := by decide +kernel
theorem dX4_kindOf_0 : decode cX4_kindOf 0 = .ok (.aload_n 0, 1) := by decide +kernel
theorem dX4_kindOf_1 : decode cX4_kindOf 1 = .ok (.iload_n 1, 1) := by decide +kernel
theorem dX4_kindOf_2 : decode cX4_kindOf 2 = .ok (.invokevirtual 68, 3) := by decide +kernel
theorem dX4_kindOf_5 : decode cX4_kindOf 5 = .ok (.ifCond .eq 12, 3) := by decide +kernel
theorem dX4_kindOf_8 : decode cX4_kindOf 8 = .ok (.aload_n 0, 1) := by decide +kernel
theorem dX4_kindOf_9 : decode cX4_kindOf 9 = .ok (.getfield 9, 3) := by decide +kernel
theorem dX4_kindOf_12 : decode cX4_kindOf 12 = .ok (.iload_n 1, 1) := by decide +kernel
theorem dX4_kindOf_13 : decode cX4_kindOf 13 = .ok (.iaload, 1) := by decide +kernel
theorem dX4_kindOf_14 : decode cX4_kindOf 14 = .ok (.goto 4, 3) := by decide +kernel
theorem dX4_kindOf_17 : decode cX4_kindOf 17 = .ok (.iconst (-1), 1) := by decide +kernel
theorem dX4_kindOf_18 : decode cX4_kindOf 18 = .ok (.ireturn, 1) := by decide +kernel
theorem dX4_sideOf_0 : decode cX4_sideOf 0 = .ok (.iload_n 1, 1) := by decide +kernel
theorem dX4_sideOf_1 : decode cX4_sideOf 1 = .ok (.aload_n 0, 1) := by decide +kernel
theorem dX4_sideOf_2 : decode cX4_sideOf 2 = .ok (.getfield 46, 3) := by decide +kernel
theorem dX4_sideOf_5 : decode cX4_sideOf 5 = .ok (.if_icmp .ge 7, 3) := by decide +kernel
theorem dX4_sideOf_8 : decode cX4_sideOf 8 = .ok (.iconst 0, 1) := by decide +kernel
theorem dX4_sideOf_9 : decode cX4_sideOf 9 = .ok (.goto 4, 3) := by decide +kernel
theorem dX4_sideOf_12 : decode cX4_sideOf 12 = .ok (.iconst 1, 1) := by decide +kernel
theorem dX4_sideOf_13 : decode cX4_sideOf 13 = .ok (.ireturn, 1) := by decide +kernel
theorem dX4_firstMan_0 : decode cX4_firstMan 0 = .ok (.iload_n 1, 1) := by decide +kernel
theorem dX4_firstMan_1 : decode cX4_firstMan 1 = .ok (.ifCond .ne 7, 3) := by decide +kernel
theorem dX4_firstMan_4 : decode cX4_firstMan 4 = .ok (.iconst 0, 1) := by decide +kernel
theorem dX4_firstMan_5 : decode cX4_firstMan 5 = .ok (.goto 7, 3) := by decide +kernel
theorem dX4_firstMan_8 : decode cX4_firstMan 8 = .ok (.aload_n 0, 1) := by decide +kernel
theorem dX4_firstMan_9 : decode cX4_firstMan 9 = .ok (.getfield 46, 3) := by decide +kernel
theorem dX4_firstMan_12 : decode cX4_firstMan 12 = .ok (.ireturn, 1) := by decide +kernel
theorem dX4_endOfMen_0 : decode cX4_endOfMen 0 = .ok (.iload_n 1, 1) := by decide +kernel
theorem dX4_endOfMen_1 : decode cX4_endOfMen 1 = .ok (.ifCond .ne 10, 3) := by decide +kernel
theorem dX4_endOfMen_4 : decode cX4_endOfMen 4 = .ok (.aload_n 0, 1) := by decide +kernel
theorem dX4_endOfMen_5 : decode cX4_endOfMen 5 = .ok (.getfield 46, 3) := by decide +kernel
theorem dX4_endOfMen_8 : decode cX4_endOfMen 8 = .ok (.goto 7, 3) := by decide +kernel
theorem dX4_endOfMen_11 : decode cX4_endOfMen 11 = .ok (.aload_n 0, 1) := by decide +kernel
theorem dX4_endOfMen_12 : decode cX4_endOfMen 12 = .ok (.getfield 42, 3) := by decide +kernel
theorem dX4_endOfMen_15 : decode cX4_endOfMen 15 = .ok (.ireturn, 1) := by decide +kernel
theorem dX4_canTell_0 : decode cX4_canTell 0 = .ok (.iload_n 2, 1) := by decide +kernel
theorem dX4_canTell_1 : decode cX4_canTell 1 = .ok (.iconst (-1), 1) := by decide +kernel
theorem dX4_canTell_2 : decode cX4_canTell 2 = .ok (.if_icmp .eq 23, 3) := by decide +kernel
theorem dX4_canTell_5 : decode cX4_canTell 5 = .ok (.aload_n 0, 1) := by decide +kernel
theorem dX4_canTell_6 : decode cX4_canTell 6 = .ok (.iload_n 1, 1) := by decide +kernel
theorem dX4_canTell_7 : decode cX4_canTell 7 = .ok (.invokevirtual 68, 3) := by decide +kernel
theorem dX4_canTell_10 : decode cX4_canTell 10 = .ok (.ifCond .eq 19, 3) := by decide +kernel
theorem dX4_canTell_13 : decode cX4_canTell 13 = .ok (.iload_n 2, 1) := by decide +kernel
theorem dX4_canTell_14 : decode cX4_canTell 14 = .ok (.ifCond .lt 15, 3) := by decide +kernel
theorem dX4_canTell_17 : decode cX4_canTell 17 = .ok (.iload_n 2, 1) := by decide +kernel
theorem dX4_canTell_18 : decode cX4_canTell 18 = .ok (.aload_n 0, 1) := by decide +kernel
theorem dX4_canTell_19 : decode cX4_canTell 19 = .ok (.getfield 29, 3) := by decide +kernel
theorem dX4_canTell_22 : decode cX4_canTell 22 = .ok (.if_icmp .ge 7, 3) := by decide +kernel
theorem dX4_canTell_25 : decode cX4_canTell 25 = .ok (.iconst 1, 1) := by decide +kernel
theorem dX4_canTell_26 : decode cX4_canTell 26 = .ok (.goto 4, 3) := by decide +kernel
theorem dX4_canTell_29 : decode cX4_canTell 29 = .ok (.iconst 0, 1) := by decide +kernel
theorem dX4_canTell_30 : decode cX4_canTell 30 = .ok (.ireturn, 1) := by decide +kernel
theorem dX4_indexOf_0 : decode cX4_indexOf 0 = .ok (.aload_n 0, 1) := by decide +kernel
theorem dX4_indexOf_1 : decode cX4_indexOf 1 = .ok (.iconst 0, 1) := by decide +kernel
theorem dX4_indexOf_2 : decode cX4_indexOf 2 = .ok (.iload_n 1, 1) := by decide +kernel
theorem dX4_indexOf_3 : decode cX4_indexOf 3 = .ok (.invokevirtual 72, 3) := by decide +kernel
theorem dX4_indexOf_6 : decode cX4_indexOf 6 = .ok (.aload_n 0, 1) := by decide +kernel
theorem dX4_indexOf_7 : decode cX4_indexOf 7 = .ok (.iconst 1, 1) := by decide +kernel
theorem dX4_indexOf_8 : decode cX4_indexOf 8 = .ok (.iload_n 2, 1) := by decide +kernel
theorem dX4_indexOf_9 : decode cX4_indexOf 9 = .ok (.invokevirtual 72, 3) := by decide +kernel
theorem dX4_indexOf_12 : decode cX4_indexOf 12 = .ok (.iadd, 1) := by decide +kernel
theorem dX4_indexOf_13 : decode cX4_indexOf 13 = .ok (.aload_n 0, 1) := by decide +kernel
theorem dX4_indexOf_14 : decode cX4_indexOf 14 = .ok (.iconst 2, 1) := by decide +kernel
theorem dX4_indexOf_15 : decode cX4_indexOf 15 = .ok (.iload_n 3, 1) := by decide +kernel
theorem dX4_indexOf_16 : decode cX4_indexOf 16 = .ok (.invokevirtual 72, 3) := by decide +kernel
theorem dX4_indexOf_19 : decode cX4_indexOf 19 = .ok (.iadd, 1) := by decide +kernel
theorem dX4_indexOf_20 : decode cX4_indexOf 20 = .ok (.iload 4, 2) := by decide +kernel
theorem dX4_indexOf_22 : decode cX4_indexOf 22 = .ok (.iadd, 1) := by decide +kernel
theorem dX4_indexOf_23 : decode cX4_indexOf 23 = .ok (.ireturn, 1) := by decide +kernel
theorem dX4_weighed_0 : decode cX4_weighed 0 = .ok (.iload_n 1, 1) := by decide +kernel
theorem dX4_weighed_1 : decode cX4_weighed 1 = .ok (.ifCond .lt 12, 3) := by decide +kernel
theorem dX4_weighed_4 : decode cX4_weighed 4 = .ok (.iload_n 1, 1) := by decide +kernel
theorem dX4_weighed_5 : decode cX4_weighed 5 = .ok (.aload_n 0, 1) := by decide +kernel
theorem dX4_weighed_6 : decode cX4_weighed 6 = .ok (.getfield 15, 3) := by decide +kernel
theorem dX4_weighed_9 : decode cX4_weighed 9 = .ok (.arraylength, 1) := by decide +kernel
theorem dX4_weighed_10 : decode cX4_weighed 10 = .ok (.if_icmp .lt 5, 3) := by decide +kernel
theorem dX4_weighed_13 : decode cX4_weighed 13 = .ok (.iconst 0, 1) := by decide +kernel
theorem dX4_weighed_14 : decode cX4_weighed 14 = .ok (.ireturn, 1) := by decide +kernel
theorem dX4_weighed_15 : decode cX4_weighed 15 = .ok (.aload_n 0, 1) := by decide +kernel
theorem dX4_weighed_16 : decode cX4_weighed 16 = .ok (.getfield 15, 3) := by decide +kernel
theorem dX4_weighed_19 : decode cX4_weighed 19 = .ok (.iload_n 1, 1) := by decide +kernel
theorem dX4_weighed_20 : decode cX4_weighed 20 = .ok (.iaload, 1) := by decide +kernel
theorem dX4_weighed_21 : decode cX4_weighed 21 = .ok (.iload_n 2, 1) := by decide +kernel
theorem dX4_weighed_22 : decode cX4_weighed 22 = .ok (.ifCond .ge 10, 3) := by decide +kernel
theorem dX4_weighed_25 : decode cX4_weighed 25 = .ok (.aload_n 0, 1) := by decide +kernel
theorem dX4_weighed_26 : decode cX4_weighed 26 = .ok (.getfield 29, 3) := by decide +kernel
theorem dX4_weighed_29 : decode cX4_weighed 29 = .ok (.goto 4, 3) := by decide +kernel
theorem dX4_weighed_32 : decode cX4_weighed 32 = .ok (.iload_n 2, 1) := by decide +kernel
theorem dX4_weighed_33 : decode cX4_weighed 33 = .ok (.imul, 1) := by decide +kernel
theorem dX4_weighed_34 : decode cX4_weighed 34 = .ok (.ireturn, 1) := by decide +kernel
theorem dX4_squareOf_0 : decode cX4_squareOf 0 = .ok (.iload_n 2, 1) := by decide +kernel
theorem dX4_squareOf_1 : decode cX4_squareOf 1 = .ok (.ifCond .lt 12, 3) := by decide +kernel
theorem dX4_squareOf_4 : decode cX4_squareOf 4 = .ok (.iload_n 2, 1) := by decide +kernel
theorem dX4_squareOf_5 : decode cX4_squareOf 5 = .ok (.aload_n 0, 1) := by decide +kernel
theorem dX4_squareOf_6 : decode cX4_squareOf 6 = .ok (.getfield 15, 3) := by decide +kernel
theorem dX4_squareOf_9 : decode cX4_squareOf 9 = .ok (.arraylength, 1) := by decide +kernel
theorem dX4_squareOf_10 : decode cX4_squareOf 10 = .ok (.if_icmp .lt 8, 3) := by decide +kernel
theorem dX4_squareOf_13 : decode cX4_squareOf 13 = .ok (.aload_n 0, 1) := by decide +kernel
theorem dX4_squareOf_14 : decode cX4_squareOf 14 = .ok (.getfield 29, 3) := by decide +kernel
theorem dX4_squareOf_17 : decode cX4_squareOf 17 = .ok (.ireturn, 1) := by decide +kernel
theorem dX4_squareOf_18 : decode cX4_squareOf 18 = .ok (.aload_n 0, 1) := by decide +kernel
theorem dX4_squareOf_19 : decode cX4_squareOf 19 = .ok (.getfield 15, 3) := by decide +kernel
theorem dX4_squareOf_22 : decode cX4_squareOf 22 = .ok (.iload_n 2, 1) := by decide +kernel
theorem dX4_squareOf_23 : decode cX4_squareOf 23 = .ok (.iaload, 1) := by decide +kernel
theorem dX4_squareOf_24 : decode cX4_squareOf 24 = .ok (.istore_n 3, 1) := by decide +kernel
theorem dX4_squareOf_25 : decode cX4_squareOf 25 = .ok (.iload_n 3, 1) := by decide +kernel
theorem dX4_squareOf_26 : decode cX4_squareOf 26 = .ok (.ifCond .le 21, 3) := by decide +kernel
theorem dX4_squareOf_29 : decode cX4_squareOf 29 = .ok (.aload_n 0, 1) := by decide +kernel
theorem dX4_squareOf_30 : decode cX4_squareOf 30 = .ok (.getfield 55, 3) := by decide +kernel
theorem dX4_squareOf_33 : decode cX4_squareOf 33 = .ok (.ifCond .le 14, 3) := by decide +kernel
theorem dX4_squareOf_36 : decode cX4_squareOf 36 = .ok (.iload_n 1, 1) := by decide +kernel
theorem dX4_squareOf_37 : decode cX4_squareOf 37 = .ok (.iload_n 3, 1) := by decide +kernel
theorem dX4_squareOf_38 : decode cX4_squareOf 38 = .ok (.idiv, 1) := by decide +kernel
theorem dX4_squareOf_39 : decode cX4_squareOf 39 = .ok (.aload_n 0, 1) := by decide +kernel
theorem dX4_squareOf_40 : decode cX4_squareOf 40 = .ok (.getfield 55, 3) := by decide +kernel
theorem dX4_squareOf_43 : decode cX4_squareOf 43 = .ok (.irem, 1) := by decide +kernel
theorem dX4_squareOf_44 : decode cX4_squareOf 44 = .ok (.goto 7, 3) := by decide +kernel
theorem dX4_squareOf_47 : decode cX4_squareOf 47 = .ok (.aload_n 0, 1) := by decide +kernel
theorem dX4_squareOf_48 : decode cX4_squareOf 48 = .ok (.getfield 29, 3) := by decide +kernel
theorem dX4_squareOf_51 : decode cX4_squareOf 51 = .ok (.ireturn, 1) := by decide +kernel
theorem dX4_changedMan_0 : decode cX4_changedMan 0 = .ok (.aload_n 0, 1) := by decide +kernel
theorem dX4_changedMan_1 : decode cX4_changedMan 1 = .ok (.iload_n 3, 1) := by decide +kernel
theorem dX4_changedMan_2 : decode cX4_changedMan 2 = .ok (.invokevirtual 75, 3) := by decide +kernel
theorem dX4_changedMan_5 : decode cX4_changedMan 5 = .ok (.istore 4, 2) := by decide +kernel
theorem dX4_changedMan_7 : decode cX4_changedMan 7 = .ok (.iload 4, 2) := by decide +kernel
theorem dX4_changedMan_9 : decode cX4_changedMan 9 = .ok (.aload_n 0, 1) := by decide +kernel
theorem dX4_changedMan_10 : decode cX4_changedMan 10 = .ok (.iload_n 3, 1) := by decide +kernel
theorem dX4_changedMan_11 : decode cX4_changedMan 11 = .ok (.invokevirtual 79, 3) := by decide +kernel
theorem dX4_changedMan_14 : decode cX4_changedMan 14 = .ok (.if_icmp .ge 29, 3) := by decide +kernel
theorem dX4_changedMan_17 : decode cX4_changedMan 17 = .ok (.aload_n 0, 1) := by decide +kernel
theorem dX4_changedMan_18 : decode cX4_changedMan 18 = .ok (.iload_n 1, 1) := by decide +kernel
theorem dX4_changedMan_19 : decode cX4_changedMan 19 = .ok (.iload 4, 2) := by decide +kernel
theorem dX4_changedMan_21 : decode cX4_changedMan 21 = .ok (.invokevirtual 82, 3) := by decide +kernel
theorem dX4_changedMan_24 : decode cX4_changedMan 24 = .ok (.aload_n 0, 1) := by decide +kernel
theorem dX4_changedMan_25 : decode cX4_changedMan 25 = .ok (.iload_n 2, 1) := by decide +kernel
theorem dX4_changedMan_26 : decode cX4_changedMan 26 = .ok (.iload 4, 2) := by decide +kernel
theorem dX4_changedMan_28 : decode cX4_changedMan 28 = .ok (.invokevirtual 82, 3) := by decide +kernel
theorem dX4_changedMan_31 : decode cX4_changedMan 31 = .ok (.if_icmp .eq 6, 3) := by decide +kernel
theorem dX4_changedMan_34 : decode cX4_changedMan 34 = .ok (.iload 4, 2) := by decide +kernel
theorem dX4_changedMan_36 : decode cX4_changedMan 36 = .ok (.ireturn, 1) := by decide +kernel
theorem dX4_changedMan_37 : decode cX4_changedMan 37 = .ok (.iinc 4 1, 3) := by decide +kernel
theorem dX4_changedMan_40 : decode cX4_changedMan 40 = .ok (.goto (-33), 3) := by decide +kernel
theorem dX4_changedMan_43 : decode cX4_changedMan 43 = .ok (.iconst (-1), 1) := by decide +kernel
theorem dX4_changedMan_44 : decode cX4_changedMan 44 = .ok (.ireturn, 1) := by decide +kernel
theorem dX4_hasPawns_0 : decode cX4_hasPawns 0 = .ok (.iconst 0, 1) := by decide +kernel
theorem dX4_hasPawns_1 : decode cX4_hasPawns 1 = .ok (.istore_n 1, 1) := by decide +kernel
theorem dX4_hasPawns_2 : decode cX4_hasPawns 2 = .ok (.iload_n 1, 1) := by decide +kernel
theorem dX4_hasPawns_3 : decode cX4_hasPawns 3 = .ok (.aload_n 0, 1) := by decide +kernel
theorem dX4_hasPawns_4 : decode cX4_hasPawns 4 = .ok (.getfield 42, 3) := by decide +kernel
theorem dX4_hasPawns_7 : decode cX4_hasPawns 7 = .ok (.if_icmp .ge 21, 3) := by decide +kernel
theorem dX4_hasPawns_10 : decode cX4_hasPawns 10 = .ok (.aload_n 0, 1) := by decide +kernel
theorem dX4_hasPawns_11 : decode cX4_hasPawns 11 = .ok (.iload_n 1, 1) := by decide +kernel
theorem dX4_hasPawns_12 : decode cX4_hasPawns 12 = .ok (.invokevirtual 85, 3) := by decide +kernel
theorem dX4_hasPawns_15 : decode cX4_hasPawns 15 = .ok (.bipush 9, 2) := by decide +kernel
theorem dX4_hasPawns_17 : decode cX4_hasPawns 17 = .ok (.if_icmp .ne 5, 3) := by decide +kernel
theorem dX4_hasPawns_20 : decode cX4_hasPawns 20 = .ok (.iconst 1, 1) := by decide +kernel
theorem dX4_hasPawns_21 : decode cX4_hasPawns 21 = .ok (.ireturn, 1) := by decide +kernel
theorem dX4_hasPawns_22 : decode cX4_hasPawns 22 = .ok (.iinc 1 1, 3) := by decide +kernel
theorem dX4_hasPawns_25 : decode cX4_hasPawns 25 = .ok (.goto (-23), 3) := by decide +kernel
theorem dX4_hasPawns_28 : decode cX4_hasPawns 28 = .ok (.iconst 0, 1) := by decide +kernel
theorem dX4_hasPawns_29 : decode cX4_hasPawns 29 = .ok (.ireturn, 1) := by decide +kernel
theorem dX5_init_0 : decode cX5_init 0 = .ok (.aload_n 0, 1) := by decide +kernel
theorem dX5_init_1 : decode cX5_init 1 = .ok (.invokespecial 3, 3) := by decide +kernel
theorem dX5_init_4 : decode cX5_init 4 = .ok (.aload_n 0, 1) := by decide +kernel
theorem dX5_init_5 : decode cX5_init 5 = .ok (.bipush 104, 2) := by decide +kernel
theorem dX5_init_7 : decode cX5_init 7 = .ok (.newarray .int, 2) := by decide +kernel
theorem dX5_init_9 : decode cX5_init 9 = .ok (.putfield 11, 3) := by decide +kernel
theorem dX5_init_12 : decode cX5_init 12 = .ok (.aload_n 0, 1) := by decide +kernel
theorem dX5_init_13 : decode cX5_init 13 = .ok (.aload_n 1, 1) := by decide +kernel
theorem dX5_init_14 : decode cX5_init 14 = .ok (.putfield 15, 3) := by decide +kernel
theorem dX5_init_17 : decode cX5_init 17 = .ok (.aload_n 1, 1) := by decide +kernel
theorem dX5_init_18 : decode cX5_init 18 = .ok (.invokevirtual 19, 3) := by decide +kernel
theorem dX5_init_21 : decode cX5_init 21 = .ok (.ifCond .eq 7, 3) := by decide +kernel
theorem dX5_init_24 : decode cX5_init 24 = .ok (.iconst 2, 1) := by decide +kernel
theorem dX5_init_25 : decode cX5_init 25 = .ok (.goto 20, 3) := by decide +kernel
theorem dX5_init_28 : decode cX5_init 28 = .ok (.aload_n 1, 1) := by decide +kernel
theorem dX5_init_29 : decode cX5_init 29 = .ok (.getfield 25, 3) := by decide +kernel
theorem dX5_init_32 : decode cX5_init 32 = .ok (.aload_n 1, 1) := by decide +kernel
theorem dX5_init_33 : decode cX5_init 33 = .ok (.getfield 29, 3) := by decide +kernel
theorem dX5_init_36 : decode cX5_init 36 = .ok (.if_icmp .ne 8, 3) := by decide +kernel
theorem dX5_init_39 : decode cX5_init 39 = .ok (.bipush 8, 2) := by decide +kernel
theorem dX5_init_41 : decode cX5_init 41 = .ok (.goto 4, 3) := by decide +kernel
theorem dX5_init_44 : decode cX5_init 44 = .ok (.iconst 4, 1) := by decide +kernel
theorem dX5_init_45 : decode cX5_init 45 = .ok (.istore_n 2, 1) := by decide +kernel
theorem dX5_init_46 : decode cX5_init 46 = .ok (.iconst 0, 1) := by decide +kernel
theorem dX5_init_47 : decode cX5_init 47 = .ok (.istore_n 3, 1) := by decide +kernel
theorem dX5_init_48 : decode cX5_init 48 = .ok (.iload_n 3, 1) := by decide +kernel
theorem dX5_init_49 : decode cX5_init 49 = .ok (.iload_n 2, 1) := by decide +kernel
theorem dX5_init_50 : decode cX5_init 50 = .ok (.if_icmp .ge 38, 3) := by decide +kernel
theorem dX5_init_53 : decode cX5_init 53 = .ok (.aload_n 1, 1) := by decide +kernel
theorem dX5_init_54 : decode cX5_init 54 = .ok (.iload_n 3, 1) := by decide +kernel
theorem dX5_init_55 : decode cX5_init 55 = .ok (.aload_n 0, 1) := by decide +kernel
theorem dX5_init_56 : decode cX5_init 56 = .ok (.getfield 11, 3) := by decide +kernel
theorem dX5_init_59 : decode cX5_init 59 = .ok (.aload_n 0, 1) := by decide +kernel
theorem dX5_init_60 : decode cX5_init 60 = .ok (.getfield 32, 3) := by decide +kernel
theorem dX5_init_63 : decode cX5_init 63 = .ok (.bipush 13, 2) := by decide +kernel
theorem dX5_init_65 : decode cX5_init 65 = .ok (.imul, 1) := by decide +kernel
theorem dX5_init_66 : decode cX5_init 66 = .ok (.invokestatic 35, 3) := by decide +kernel
theorem dX5_init_69 : decode cX5_init 69 = .ok (.ifCond .eq 13, 3) := by decide +kernel
theorem dX5_init_72 : decode cX5_init 72 = .ok (.aload_n 0, 1) := by decide +kernel
theorem dX5_init_73 : decode cX5_init 73 = .ok (.dup, 1) := by decide +kernel
theorem dX5_init_74 : decode cX5_init 74 = .ok (.getfield 32, 3) := by decide +kernel
theorem dX5_init_77 : decode cX5_init 77 = .ok (.iconst 1, 1) := by decide +kernel
theorem dX5_init_78 : decode cX5_init 78 = .ok (.iadd, 1) := by decide +kernel
theorem dX5_init_79 : decode cX5_init 79 = .ok (.putfield 32, 3) := by decide +kernel
theorem dX5_init_82 : decode cX5_init 82 = .ok (.iinc 3 1, 3) := by decide +kernel
theorem dX5_init_85 : decode cX5_init 85 = .ok (.goto (-37), 3) := by decide +kernel
theorem dX5_init_88 : decode cX5_init 88 = .ok (.return_, 1) := by decide +kernel
theorem dX5_writeMap_0 : decode cX5_writeMap 0 = .ok (.iconst 0, 1) := by decide +kernel
theorem dX5_writeMap_1 : decode cX5_writeMap 1 = .ok (.istore 4, 2) := by decide +kernel
theorem dX5_writeMap_3 : decode cX5_writeMap 3 = .ok (.iload_n 3, 1) := by decide +kernel
theorem dX5_writeMap_4 : decode cX5_writeMap 4 = .ok (.ifCond .lt 20, 3) := by decide +kernel
theorem dX5_writeMap_7 : decode cX5_writeMap 7 = .ok (.iload_n 3, 1) := by decide +kernel
theorem dX5_writeMap_8 : decode cX5_writeMap 8 = .ok (.bipush 13, 2) := by decide +kernel
theorem dX5_writeMap_10 : decode cX5_writeMap 10 = .ok (.iadd, 1) := by decide +kernel
theorem dX5_writeMap_11 : decode cX5_writeMap 11 = .ok (.aload_n 2, 1) := by decide +kernel
theorem dX5_writeMap_12 : decode cX5_writeMap 12 = .ok (.arraylength, 1) := by decide +kernel
theorem dX5_writeMap_13 : decode cX5_writeMap 13 = .ok (.if_icmp .gt 11, 3) := by decide +kernel
theorem dX5_writeMap_16 : decode cX5_writeMap 16 = .ok (.aload_n 0, 1) := by decide +kernel
theorem dX5_writeMap_17 : decode cX5_writeMap 17 = .ok (.getfield 25, 3) := by decide +kernel
theorem dX5_writeMap_20 : decode cX5_writeMap 20 = .ok (.iconst 1, 1) := by decide +kernel
theorem dX5_writeMap_21 : decode cX5_writeMap 21 = .ok (.if_icmp .ge 5, 3) := by decide +kernel
theorem dX5_writeMap_24 : decode cX5_writeMap 24 = .ok (.iconst 0, 1) := by decide +kernel
theorem dX5_writeMap_25 : decode cX5_writeMap 25 = .ok (.ireturn, 1) := by decide +kernel
theorem dX5_writeMap_26 : decode cX5_writeMap 26 = .ok (.iconst 0, 1) := by decide +kernel
theorem dX5_writeMap_27 : decode cX5_writeMap 27 = .ok (.istore 5, 2) := by decide +kernel
theorem dX5_writeMap_29 : decode cX5_writeMap 29 = .ok (.iload 5, 2) := by decide +kernel
theorem dX5_writeMap_31 : decode cX5_writeMap 31 = .ok (.aload_n 0, 1) := by decide +kernel
theorem dX5_writeMap_32 : decode cX5_writeMap 32 = .ok (.getfield 39, 3) := by decide +kernel
theorem dX5_writeMap_35 : decode cX5_writeMap 35 = .ok (.if_icmp .ge 128, 3) := by decide +kernel
theorem dX5_writeMap_38 : decode cX5_writeMap 38 = .ok (.iload 5, 2) := by decide +kernel
theorem dX5_writeMap_40 : decode cX5_writeMap 40 = .ok (.bipush 13, 2) := by decide +kernel
theorem dX5_writeMap_42 : decode cX5_writeMap 42 = .ok (.if_icmp .ge 121, 3) := by decide +kernel
theorem dX5_writeMap_45 : decode cX5_writeMap 45 = .ok (.iload 5, 2) := by decide +kernel
theorem dX5_writeMap_47 : decode cX5_writeMap 47 = .ok (.aload_n 0, 1) := by decide +kernel
theorem dX5_writeMap_48 : decode cX5_writeMap 48 = .ok (.getfield 25, 3) := by decide +kernel
theorem dX5_writeMap_51 : decode cX5_writeMap 51 = .ok (.irem, 1) := by decide +kernel
theorem dX5_writeMap_52 : decode cX5_writeMap 52 = .ok (.istore 6, 2) := by decide +kernel
theorem dX5_writeMap_54 : decode cX5_writeMap 54 = .ok (.iload 5, 2) := by decide +kernel
theorem dX5_writeMap_56 : decode cX5_writeMap 56 = .ok (.aload_n 0, 1) := by decide +kernel
theorem dX5_writeMap_57 : decode cX5_writeMap 57 = .ok (.getfield 25, 3) := by decide +kernel
theorem dX5_writeMap_60 : decode cX5_writeMap 60 = .ok (.idiv, 1) := by decide +kernel
theorem dX5_writeMap_61 : decode cX5_writeMap 61 = .ok (.istore 7, 2) := by decide +kernel
theorem dX5_writeMap_63 : decode cX5_writeMap 63 = .ok (.iload_n 1, 1) := by decide +kernel
theorem dX5_writeMap_64 : decode cX5_writeMap 64 = .ok (.iconst 1, 1) := by decide +kernel
theorem dX5_writeMap_65 : decode cX5_writeMap 65 = .ok (.iand, 1) := by decide +kernel
theorem dX5_writeMap_66 : decode cX5_writeMap 66 = .ok (.ifCond .eq 14, 3) := by decide +kernel
theorem dX5_writeMap_69 : decode cX5_writeMap 69 = .ok (.aload_n 0, 1) := by decide +kernel
theorem dX5_writeMap_70 : decode cX5_writeMap 70 = .ok (.getfield 25, 3) := by decide +kernel
theorem dX5_writeMap_73 : decode cX5_writeMap 73 = .ok (.iconst 1, 1) := by decide +kernel
theorem dX5_writeMap_74 : decode cX5_writeMap 74 = .ok (.isub, 1) := by decide +kernel
theorem dX5_writeMap_75 : decode cX5_writeMap 75 = .ok (.iload 6, 2) := by decide +kernel
theorem dX5_writeMap_77 : decode cX5_writeMap 77 = .ok (.isub, 1) := by decide +kernel
theorem dX5_writeMap_78 : decode cX5_writeMap 78 = .ok (.istore 6, 2) := by decide +kernel
theorem dX5_writeMap_80 : decode cX5_writeMap 80 = .ok (.iload_n 1, 1) := by decide +kernel
theorem dX5_writeMap_81 : decode cX5_writeMap 81 = .ok (.iconst 2, 1) := by decide +kernel
theorem dX5_writeMap_82 : decode cX5_writeMap 82 = .ok (.iand, 1) := by decide +kernel
theorem dX5_writeMap_83 : decode cX5_writeMap 83 = .ok (.ifCond .eq 14, 3) := by decide +kernel
theorem dX5_writeMap_86 : decode cX5_writeMap 86 = .ok (.aload_n 0, 1) := by decide +kernel
theorem dX5_writeMap_87 : decode cX5_writeMap 87 = .ok (.getfield 29, 3) := by decide +kernel
theorem dX5_writeMap_90 : decode cX5_writeMap 90 = .ok (.iconst 1, 1) := by decide +kernel
theorem dX5_writeMap_91 : decode cX5_writeMap 91 = .ok (.isub, 1) := by decide +kernel
theorem dX5_writeMap_92 : decode cX5_writeMap 92 = .ok (.iload 7, 2) := by decide +kernel
theorem dX5_writeMap_94 : decode cX5_writeMap 94 = .ok (.isub, 1) := by decide +kernel
theorem dX5_writeMap_95 : decode cX5_writeMap 95 = .ok (.istore 7, 2) := by decide +kernel
theorem dX5_writeMap_97 : decode cX5_writeMap 97 = .ok (.iload_n 1, 1) := by decide +kernel
theorem dX5_writeMap_98 : decode cX5_writeMap 98 = .ok (.iconst 4, 1) := by decide +kernel
theorem dX5_writeMap_99 : decode cX5_writeMap 99 = .ok (.iand, 1) := by decide +kernel
theorem dX5_writeMap_100 : decode cX5_writeMap 100 = .ok (.ifCond .eq 16, 3) := by decide +kernel
theorem dX5_writeMap_103 : decode cX5_writeMap 103 = .ok (.iload 6, 2) := by decide +kernel
theorem dX5_writeMap_105 : decode cX5_writeMap 105 = .ok (.aload_n 0, 1) := by decide +kernel
theorem dX5_writeMap_106 : decode cX5_writeMap 106 = .ok (.getfield 25, 3) := by decide +kernel
theorem dX5_writeMap_109 : decode cX5_writeMap 109 = .ok (.imul, 1) := by decide +kernel
theorem dX5_writeMap_110 : decode cX5_writeMap 110 = .ok (.iload 7, 2) := by decide +kernel
theorem dX5_writeMap_112 : decode cX5_writeMap 112 = .ok (.iadd, 1) := by decide +kernel
theorem dX5_writeMap_113 : decode cX5_writeMap 113 = .ok (.goto 13, 3) := by decide +kernel
theorem dX5_writeMap_116 : decode cX5_writeMap 116 = .ok (.iload 7, 2) := by decide +kernel
theorem dX5_writeMap_118 : decode cX5_writeMap 118 = .ok (.aload_n 0, 1) := by decide +kernel
theorem dX5_writeMap_119 : decode cX5_writeMap 119 = .ok (.getfield 25, 3) := by decide +kernel
theorem dX5_writeMap_122 : decode cX5_writeMap 122 = .ok (.imul, 1) := by decide +kernel
theorem dX5_writeMap_123 : decode cX5_writeMap 123 = .ok (.iload 6, 2) := by decide +kernel
theorem dX5_writeMap_125 : decode cX5_writeMap 125 = .ok (.iadd, 1) := by decide +kernel
theorem dX5_writeMap_126 : decode cX5_writeMap 126 = .ok (.istore 8, 2) := by decide +kernel
theorem dX5_writeMap_128 : decode cX5_writeMap 128 = .ok (.aload_n 2, 1) := by decide +kernel
theorem dX5_writeMap_129 : decode cX5_writeMap 129 = .ok (.iload_n 3, 1) := by decide +kernel
theorem dX5_writeMap_130 : decode cX5_writeMap 130 = .ok (.iload 5, 2) := by decide +kernel
theorem dX5_writeMap_132 : decode cX5_writeMap 132 = .ok (.iadd, 1) := by decide +kernel
theorem dX5_writeMap_133 : decode cX5_writeMap 133 = .ok (.iload 8, 2) := by decide +kernel
theorem dX5_writeMap_135 : decode cX5_writeMap 135 = .ok (.iastore, 1) := by decide +kernel
theorem dX5_writeMap_136 : decode cX5_writeMap 136 = .ok (.aload_n 0, 1) := by decide +kernel
theorem dX5_writeMap_137 : decode cX5_writeMap 137 = .ok (.getfield 42, 3) := by decide +kernel
theorem dX5_writeMap_140 : decode cX5_writeMap 140 = .ok (.iload 5, 2) := by decide +kernel
theorem dX5_writeMap_142 : decode cX5_writeMap 142 = .ok (.ishr, 1) := by decide +kernel
theorem dX5_writeMap_143 : decode cX5_writeMap 143 = .ok (.iconst 1, 1) := by decide +kernel
theorem dX5_writeMap_144 : decode cX5_writeMap 144 = .ok (.iand, 1) := by decide +kernel
theorem dX5_writeMap_145 : decode cX5_writeMap 145 = .ok (.ifCond .eq 12, 3) := by decide +kernel
theorem dX5_writeMap_148 : decode cX5_writeMap 148 = .ok (.iload 4, 2) := by decide +kernel
theorem dX5_writeMap_150 : decode cX5_writeMap 150 = .ok (.iconst 1, 1) := by decide +kernel
theorem dX5_writeMap_151 : decode cX5_writeMap 151 = .ok (.iload 8, 2) := by decide +kernel
theorem dX5_writeMap_153 : decode cX5_writeMap 153 = .ok (.ishl, 1) := by decide +kernel
theorem dX5_writeMap_154 : decode cX5_writeMap 154 = .ok (.ior, 1) := by decide +kernel
theorem dX5_writeMap_155 : decode cX5_writeMap 155 = .ok (.istore 4, 2) := by decide +kernel
theorem dX5_writeMap_157 : decode cX5_writeMap 157 = .ok (.iinc 5 1, 3) := by decide +kernel
theorem dX5_writeMap_160 : decode cX5_writeMap 160 = .ok (.goto (-131), 3) := by decide +kernel
theorem dX5_writeMap_163 : decode cX5_writeMap 163 = .ok (.aload_n 0, 1) := by decide +kernel
theorem dX5_writeMap_164 : decode cX5_writeMap 164 = .ok (.getfield 39, 3) := by decide +kernel
theorem dX5_writeMap_167 : decode cX5_writeMap 167 = .ok (.bipush 13, 2) := by decide +kernel
theorem dX5_writeMap_169 : decode cX5_writeMap 169 = .ok (.if_icmp .ge 15, 3) := by decide +kernel
theorem dX5_writeMap_172 : decode cX5_writeMap 172 = .ok (.aload_n 2, 1) := by decide +kernel
theorem dX5_writeMap_173 : decode cX5_writeMap 173 = .ok (.iload_n 3, 1) := by decide +kernel
theorem dX5_writeMap_174 : decode cX5_writeMap 174 = .ok (.aload_n 0, 1) := by decide +kernel
theorem dX5_writeMap_175 : decode cX5_writeMap 175 = .ok (.getfield 39, 3) := by decide +kernel
theorem dX5_writeMap_178 : decode cX5_writeMap 178 = .ok (.iadd, 1) := by decide +kernel
theorem dX5_writeMap_179 : decode cX5_writeMap 179 = .ok (.aload_n 0, 1) := by decide +kernel
theorem dX5_writeMap_180 : decode cX5_writeMap 180 = .ok (.getfield 39, 3) := by decide +kernel
theorem dX5_writeMap_183 : decode cX5_writeMap 183 = .ok (.iastore, 1) := by decide +kernel
theorem dX5_writeMap_184 : decode cX5_writeMap 184 = .ok (.iload 4, 2) := by decide +kernel
theorem dX5_writeMap_186 : decode cX5_writeMap 186 = .ok (.aload_n 0, 1) := by decide +kernel
theorem dX5_writeMap_187 : decode cX5_writeMap 187 = .ok (.getfield 42, 3) := by decide +kernel
theorem dX5_writeMap_190 : decode cX5_writeMap 190 = .ok (.if_icmp .ne 7, 3) := by decide +kernel
theorem dX5_writeMap_193 : decode cX5_writeMap 193 = .ok (.iconst 1, 1) := by decide +kernel
theorem dX5_writeMap_194 : decode cX5_writeMap 194 = .ok (.goto 4, 3) := by decide +kernel
theorem dX5_writeMap_197 : decode cX5_writeMap 197 = .ok (.iconst 0, 1) := by decide +kernel
theorem dX5_writeMap_198 : decode cX5_writeMap 198 = .ok (.ireturn, 1) := by decide +kernel
theorem dX5_imageOf_0 : decode cX5_imageOf 0 = .ok (.iload_n 1, 1) := by decide +kernel
theorem dX5_imageOf_1 : decode cX5_imageOf 1 = .ok (.iconst 1, 1) := by decide +kernel
theorem dX5_imageOf_2 : decode cX5_imageOf 2 = .ok (.iand, 1) := by decide +kernel
theorem dX5_imageOf_3 : decode cX5_imageOf 3 = .ok (.istore_n 3, 1) := by decide +kernel
theorem dX5_imageOf_4 : decode cX5_imageOf 4 = .ok (.iconst 0, 1) := by decide +kernel
theorem dX5_imageOf_5 : decode cX5_imageOf 5 = .ok (.istore 4, 2) := by decide +kernel
theorem dX5_imageOf_7 : decode cX5_imageOf 7 = .ok (.iload 4, 2) := by decide +kernel
theorem dX5_imageOf_9 : decode cX5_imageOf 9 = .ok (.iconst 3, 1) := by decide +kernel
theorem dX5_imageOf_10 : decode cX5_imageOf 10 = .ok (.if_icmp .ge 60, 3) := by decide +kernel
theorem dX5_imageOf_13 : decode cX5_imageOf 13 = .ok (.iload_n 2, 1) := by decide +kernel
theorem dX5_imageOf_14 : decode cX5_imageOf 14 = .ok (.bipush 13, 2) := by decide +kernel
theorem dX5_imageOf_16 : decode cX5_imageOf 16 = .ok (.imul, 1) := by decide +kernel
theorem dX5_imageOf_17 : decode cX5_imageOf 17 = .ok (.aload_n 0, 1) := by decide +kernel
theorem dX5_imageOf_18 : decode cX5_imageOf 18 = .ok (.getfield 15, 3) := by decide +kernel
theorem dX5_imageOf_21 : decode cX5_imageOf 21 = .ok (.iload_n 1, 1) := by decide +kernel
theorem dX5_imageOf_22 : decode cX5_imageOf 22 = .ok (.iload 4, 2) := by decide +kernel
theorem dX5_imageOf_24 : decode cX5_imageOf 24 = .ok (.invokevirtual 45, 3) := by decide +kernel
theorem dX5_imageOf_27 : decode cX5_imageOf 27 = .ok (.iadd, 1) := by decide +kernel
theorem dX5_imageOf_28 : decode cX5_imageOf 28 = .ok (.istore 5, 2) := by decide +kernel
theorem dX5_imageOf_30 : decode cX5_imageOf 30 = .ok (.iload 5, 2) := by decide +kernel
theorem dX5_imageOf_32 : decode cX5_imageOf 32 = .ok (.ifCond .lt 32, 3) := by decide +kernel
theorem dX5_imageOf_35 : decode cX5_imageOf 35 = .ok (.iload 5, 2) := by decide +kernel
theorem dX5_imageOf_37 : decode cX5_imageOf 37 = .ok (.aload_n 0, 1) := by decide +kernel
theorem dX5_imageOf_38 : decode cX5_imageOf 38 = .ok (.getfield 11, 3) := by decide +kernel
theorem dX5_imageOf_41 : decode cX5_imageOf 41 = .ok (.arraylength, 1) := by decide +kernel
theorem dX5_imageOf_42 : decode cX5_imageOf 42 = .ok (.if_icmp .ge 22, 3) := by decide +kernel
theorem dX5_imageOf_45 : decode cX5_imageOf 45 = .ok (.iload_n 3, 1) := by decide +kernel
theorem dX5_imageOf_46 : decode cX5_imageOf 46 = .ok (.aload_n 0, 1) := by decide +kernel
theorem dX5_imageOf_47 : decode cX5_imageOf 47 = .ok (.getfield 15, 3) := by decide +kernel
theorem dX5_imageOf_50 : decode cX5_imageOf 50 = .ok (.iload 4, 2) := by decide +kernel
theorem dX5_imageOf_52 : decode cX5_imageOf 52 = .ok (.aload_n 0, 1) := by decide +kernel
theorem dX5_imageOf_53 : decode cX5_imageOf 53 = .ok (.getfield 11, 3) := by decide +kernel
theorem dX5_imageOf_56 : decode cX5_imageOf 56 = .ok (.iload 5, 2) := by decide +kernel
theorem dX5_imageOf_58 : decode cX5_imageOf 58 = .ok (.iaload, 1) := by decide +kernel
theorem dX5_imageOf_59 : decode cX5_imageOf 59 = .ok (.invokevirtual 49, 3) := by decide +kernel
theorem dX5_imageOf_62 : decode cX5_imageOf 62 = .ok (.iadd, 1) := by decide +kernel
theorem dX5_imageOf_63 : decode cX5_imageOf 63 = .ok (.istore_n 3, 1) := by decide +kernel
theorem dX5_imageOf_64 : decode cX5_imageOf 64 = .ok (.iinc 4 1, 3) := by decide +kernel
theorem dX5_imageOf_67 : decode cX5_imageOf 67 = .ok (.goto (-60), 3) := by decide +kernel
theorem dX5_imageOf_70 : decode cX5_imageOf 70 = .ok (.iload_n 3, 1) := by decide +kernel
theorem dX5_imageOf_71 : decode cX5_imageOf 71 = .ok (.ireturn, 1) := by decide +kernel
theorem dX5_leastImage_0 : decode cX5_leastImage 0 = .ok (.iload_n 1, 1) := by decide +kernel
theorem dX5_leastImage_1 : decode cX5_leastImage 1 = .ok (.istore_n 2, 1) := by decide +kernel
theorem dX5_leastImage_2 : decode cX5_leastImage 2 = .ok (.iconst 0, 1) := by decide +kernel
theorem dX5_leastImage_3 : decode cX5_leastImage 3 = .ok (.istore_n 3, 1) := by decide +kernel
theorem dX5_leastImage_4 : decode cX5_leastImage 4 = .ok (.iload_n 3, 1) := by decide +kernel
theorem dX5_leastImage_5 : decode cX5_leastImage 5 = .ok (.aload_n 0, 1) := by decide +kernel
theorem dX5_leastImage_6 : decode cX5_leastImage 6 = .ok (.getfield 32, 3) := by decide +kernel
theorem dX5_leastImage_9 : decode cX5_leastImage 9 = .ok (.if_icmp .ge 20, 3) := by decide +kernel
theorem dX5_leastImage_12 : decode cX5_leastImage 12 = .ok (.iload_n 2, 1) := by decide +kernel
theorem dX5_leastImage_13 : decode cX5_leastImage 13 = .ok (.aload_n 0, 1) := by decide +kernel
theorem dX5_leastImage_14 : decode cX5_leastImage 14 = .ok (.iload_n 1, 1) := by decide +kernel
theorem dX5_leastImage_15 : decode cX5_leastImage 15 = .ok (.iload_n 3, 1) := by decide +kernel
theorem dX5_leastImage_16 : decode cX5_leastImage 16 = .ok (.invokevirtual 52, 3) := by decide +kernel
theorem dX5_leastImage_19 : decode cX5_leastImage 19 = .ok (.invokestatic 55, 3) := by decide +kernel
theorem dX5_leastImage_22 : decode cX5_leastImage 22 = .ok (.istore_n 2, 1) := by decide +kernel
theorem dX5_leastImage_23 : decode cX5_leastImage 23 = .ok (.iinc 3 1, 3) := by decide +kernel
theorem dX5_leastImage_26 : decode cX5_leastImage 26 = .ok (.goto (-22), 3) := by decide +kernel
theorem dX5_leastImage_29 : decode cX5_leastImage 29 = .ok (.iload_n 2, 1) := by decide +kernel
theorem dX5_leastImage_30 : decode cX5_leastImage 30 = .ok (.ireturn, 1) := by decide +kernel
theorem dX5_isRepeated_0 : decode cX5_isRepeated 0 = .ok (.aload_n 0, 1) := by decide +kernel
theorem dX5_isRepeated_1 : decode cX5_isRepeated 1 = .ok (.iload_n 1, 1) := by decide +kernel
theorem dX5_isRepeated_2 : decode cX5_isRepeated 2 = .ok (.iload_n 2, 1) := by decide +kernel
theorem dX5_isRepeated_3 : decode cX5_isRepeated 3 = .ok (.invokevirtual 52, 3) := by decide +kernel
theorem dX5_isRepeated_6 : decode cX5_isRepeated 6 = .ok (.istore_n 3, 1) := by decide +kernel
theorem dX5_isRepeated_7 : decode cX5_isRepeated 7 = .ok (.iconst 0, 1) := by decide +kernel
theorem dX5_isRepeated_8 : decode cX5_isRepeated 8 = .ok (.istore 4, 2) := by decide +kernel
theorem dX5_isRepeated_10 : decode cX5_isRepeated 10 = .ok (.iload 4, 2) := by decide +kernel
theorem dX5_isRepeated_12 : decode cX5_isRepeated 12 = .ok (.iload_n 2, 1) := by decide +kernel
theorem dX5_isRepeated_13 : decode cX5_isRepeated 13 = .ok (.if_icmp .ge 22, 3) := by decide +kernel
theorem dX5_isRepeated_16 : decode cX5_isRepeated 16 = .ok (.aload_n 0, 1) := by decide +kernel
theorem dX5_isRepeated_17 : decode cX5_isRepeated 17 = .ok (.iload_n 1, 1) := by decide +kernel
theorem dX5_isRepeated_18 : decode cX5_isRepeated 18 = .ok (.iload 4, 2) := by decide +kernel
theorem dX5_isRepeated_20 : decode cX5_isRepeated 20 = .ok (.invokevirtual 52, 3) := by decide +kernel
theorem dX5_isRepeated_23 : decode cX5_isRepeated 23 = .ok (.iload_n 3, 1) := by decide +kernel
theorem dX5_isRepeated_24 : decode cX5_isRepeated 24 = .ok (.if_icmp .ne 5, 3) := by decide +kernel
theorem dX5_isRepeated_27 : decode cX5_isRepeated 27 = .ok (.iconst 1, 1) := by decide +kernel
theorem dX5_isRepeated_28 : decode cX5_isRepeated 28 = .ok (.ireturn, 1) := by decide +kernel
theorem dX5_isRepeated_29 : decode cX5_isRepeated 29 = .ok (.iinc 4 1, 3) := by decide +kernel
theorem dX5_isRepeated_32 : decode cX5_isRepeated 32 = .ok (.goto (-22), 3) := by decide +kernel
theorem dX5_isRepeated_35 : decode cX5_isRepeated 35 = .ok (.iconst 0, 1) := by decide +kernel
theorem dX5_isRepeated_36 : decode cX5_isRepeated 36 = .ok (.ireturn, 1) := by decide +kernel
theorem dX5_differentImages_0 : decode cX5_differentImages 0 = .ok (.iconst 0, 1) := by decide +kernel
theorem dX5_differentImages_1 : decode cX5_differentImages 1 = .ok (.istore_n 2, 1) := by decide +kernel
theorem dX5_differentImages_2 : decode cX5_differentImages 2 = .ok (.iconst 0, 1) := by decide +kernel
theorem dX5_differentImages_3 : decode cX5_differentImages 3 = .ok (.istore_n 3, 1) := by decide +kernel
theorem dX5_differentImages_4 : decode cX5_differentImages 4 = .ok (.iload_n 3, 1) := by decide +kernel
theorem dX5_differentImages_5 : decode cX5_differentImages 5 = .ok (.aload_n 0, 1) := by decide +kernel
theorem dX5_differentImages_6 : decode cX5_differentImages 6 = .ok (.getfield 32, 3) := by decide +kernel
theorem dX5_differentImages_9 : decode cX5_differentImages 9 = .ok (.if_icmp .ge 21, 3) := by decide +kernel
theorem dX5_differentImages_12 : decode cX5_differentImages 12 = .ok (.aload_n 0, 1) := by decide +kernel
theorem dX5_differentImages_13 : decode cX5_differentImages 13 = .ok (.iload_n 1, 1) := by decide +kernel
theorem dX5_differentImages_14 : decode cX5_differentImages 14 = .ok (.iload_n 3, 1) := by decide +kernel
theorem dX5_differentImages_15 : decode cX5_differentImages 15 = .ok (.invokevirtual 60, 3) := by decide +kernel
theorem dX5_differentImages_18 : decode cX5_differentImages 18 = .ok (.ifCond .ne 6, 3) := by decide +kernel
theorem dX5_differentImages_21 : decode cX5_differentImages 21 = .ok (.iinc 2 1, 3) := by decide +kernel
theorem dX5_differentImages_24 : decode cX5_differentImages 24 = .ok (.iinc 3 1, 3) := by decide +kernel
theorem dX5_differentImages_27 : decode cX5_differentImages 27 = .ok (.goto (-23), 3) := by decide +kernel
theorem dX5_differentImages_30 : decode cX5_differentImages 30 = .ok (.iload_n 2, 1) := by decide +kernel
theorem dX5_differentImages_31 : decode cX5_differentImages 31 = .ok (.ireturn, 1) := by decide +kernel
theorem dX6_init_0 : decode cX6_init 0 = .ok (.aload_n 0, 1) := by decide +kernel
theorem dX6_init_1 : decode cX6_init 1 = .ok (.invokespecial 3, 3) := by decide +kernel
theorem dX6_init_4 : decode cX6_init 4 = .ok (.aload_n 0, 1) := by decide +kernel
theorem dX6_init_5 : decode cX6_init 5 = .ok (.sipush 4394, 3) := by decide +kernel
theorem dX6_init_8 : decode cX6_init 8 = .ok (.newarray .int, 2) := by decide +kernel
theorem dX6_init_10 : decode cX6_init 10 = .ok (.putfield 9, 3) := by decide +kernel
theorem dX6_init_13 : decode cX6_init 13 = .ok (.aload_n 0, 1) := by decide +kernel
theorem dX6_init_14 : decode cX6_init 14 = .ok (.sipush 4394, 3) := by decide +kernel
theorem dX6_init_17 : decode cX6_init 17 = .ok (.newarray .int, 2) := by decide +kernel
theorem dX6_init_19 : decode cX6_init 19 = .ok (.putfield 15, 3) := by decide +kernel
theorem dX6_init_22 : decode cX6_init 22 = .ok (.aload_n 0, 1) := by decide +kernel
theorem dX6_init_23 : decode cX6_init 23 = .ok (.sipush 4394, 3) := by decide +kernel
theorem dX6_init_26 : decode cX6_init 26 = .ok (.newarray .int, 2) := by decide +kernel
theorem dX6_init_28 : decode cX6_init 28 = .ok (.putfield 18, 3) := by decide +kernel
theorem dX6_init_31 : decode cX6_init 31 = .ok (.aload_n 0, 1) := by decide +kernel
theorem dX6_init_32 : decode cX6_init 32 = .ok (.sipush 4394, 3) := by decide +kernel
theorem dX6_init_35 : decode cX6_init 35 = .ok (.newarray .int, 2) := by decide +kernel
theorem dX6_init_37 : decode cX6_init 37 = .ok (.putfield 21, 3) := by decide +kernel
theorem dX6_init_40 : decode cX6_init 40 = .ok (.aload_n 0, 1) := by decide +kernel
theorem dX6_init_41 : decode cX6_init 41 = .ok (.sipush 4394, 3) := by decide +kernel
theorem dX6_init_44 : decode cX6_init 44 = .ok (.newarray .int, 2) := by decide +kernel
theorem dX6_init_46 : decode cX6_init 46 = .ok (.putfield 24, 3) := by decide +kernel
theorem dX6_init_49 : decode cX6_init 49 = .ok (.aload_n 0, 1) := by decide +kernel
theorem dX6_init_50 : decode cX6_init 50 = .ok (.sipush 4395, 3) := by decide +kernel
theorem dX6_init_53 : decode cX6_init 53 = .ok (.newarray .int, 2) := by decide +kernel
theorem dX6_init_55 : decode cX6_init 55 = .ok (.putfield 27, 3) := by decide +kernel
theorem dX6_init_58 : decode cX6_init 58 = .ok (.aload_n 0, 1) := by decide +kernel
theorem dX6_init_59 : decode cX6_init 59 = .ok (.sipush 7200, 3) := by decide +kernel
theorem dX6_init_62 : decode cX6_init 62 = .ok (.newarray .int, 2) := by decide +kernel
theorem dX6_init_64 : decode cX6_init 64 = .ok (.putfield 30, 3) := by decide +kernel
theorem dX6_init_67 : decode cX6_init 67 = .ok (.aload_n 0, 1) := by decide +kernel
theorem dX6_init_68 : decode cX6_init 68 = .ok (.bipush 61, 2) := by decide +kernel
theorem dX6_init_70 : decode cX6_init 70 = .ok (.newarray .int, 2) := by decide +kernel
theorem dX6_init_72 : decode cX6_init 72 = .ok (.putfield 33, 3) := by decide +kernel
theorem dX6_init_75 : decode cX6_init 75 = .ok (.return_, 1) := by decide +kernel
theorem dX6_build_0 : decode cX6_build 0 = .ok (.aload_n 0, 1) := by decide +kernel
theorem dX6_build_1 : decode cX6_build 1 = .ok (.aload_n 1, 1) := by decide +kernel
theorem dX6_build_2 : decode cX6_build 2 = .ok (.putfield 36, 3) := by decide +kernel
theorem dX6_build_5 : decode cX6_build 5 = .ok (.aload_n 0, 1) := by decide +kernel
theorem dX6_build_6 : decode cX6_build 6 = .ok (.new 40, 3) := by decide +kernel
theorem dX6_build_9 : decode cX6_build 9 = .ok (.dup, 1) := by decide +kernel
theorem dX6_build_10 : decode cX6_build 10 = .ok (.aload_n 1, 1) := by decide +kernel
theorem dX6_build_11 : decode cX6_build 11 = .ok (.invokespecial 42, 3) := by decide +kernel
theorem dX6_build_14 : decode cX6_build 14 = .ok (.putfield 45, 3) := by decide +kernel
theorem dX6_build_17 : decode cX6_build 17 = .ok (.aload_n 0, 1) := by decide +kernel
theorem dX6_build_18 : decode cX6_build 18 = .ok (.new 49, 3) := by decide +kernel
theorem dX6_build_21 : decode cX6_build 21 = .ok (.dup, 1) := by decide +kernel
theorem dX6_build_22 : decode cX6_build 22 = .ok (.aload_n 1, 1) := by decide +kernel
theorem dX6_build_23 : decode cX6_build 23 = .ok (.invokespecial 51, 3) := by decide +kernel
theorem dX6_build_26 : decode cX6_build 26 = .ok (.putfield 52, 3) := by decide +kernel
theorem dX6_build_29 : decode cX6_build 29 = .ok (.aload_n 0, 1) := by decide +kernel
theorem dX6_build_30 : decode cX6_build 30 = .ok (.aload_n 1, 1) := by decide +kernel
theorem dX6_build_31 : decode cX6_build 31 = .ok (.getfield 56, 3) := by decide +kernel
theorem dX6_build_34 : decode cX6_build 34 = .ok (.putfield 62, 3) := by decide +kernel
theorem dX6_build_37 : decode cX6_build 37 = .ok (.aload_n 0, 1) := by decide +kernel
theorem dX6_build_38 : decode cX6_build 38 = .ok (.invokevirtual 63, 3) := by decide +kernel
theorem dX6_build_41 : decode cX6_build 41 = .ok (.aload_n 0, 1) := by decide +kernel
theorem dX6_build_42 : decode cX6_build 42 = .ok (.invokevirtual 66, 3) := by decide +kernel
theorem dX6_build_45 : decode cX6_build 45 = .ok (.aload_n 0, 1) := by decide +kernel
theorem dX6_build_46 : decode cX6_build 46 = .ok (.invokevirtual 69, 3) := by decide +kernel
theorem dX6_build_49 : decode cX6_build 49 = .ok (.iconst 1, 1) := by decide +kernel
theorem dX6_build_50 : decode cX6_build 50 = .ok (.istore_n 2, 1) := by decide +kernel
theorem dX6_build_51 : decode cX6_build 51 = .ok (.iconst 1, 1) := by decide +kernel
theorem dX6_build_52 : decode cX6_build 52 = .ok (.istore_n 3, 1) := by decide +kernel
theorem dX6_build_53 : decode cX6_build 53 = .ok (.iload_n 2, 1) := by decide +kernel
theorem dX6_build_54 : decode cX6_build 54 = .ok (.ifCond .eq 22, 3) := by decide +kernel
theorem dX6_build_57 : decode cX6_build 57 = .ok (.iload_n 3, 1) := by decide +kernel
theorem dX6_build_58 : decode cX6_build 58 = .ok (.sipush 4394, 3) := by decide +kernel
theorem dX6_build_61 : decode cX6_build 61 = .ok (.if_icmp .ge 15, 3) := by decide +kernel
theorem dX6_build_64 : decode cX6_build 64 = .ok (.aload_n 0, 1) := by decide +kernel
theorem dX6_build_65 : decode cX6_build 65 = .ok (.iload_n 3, 1) := by decide +kernel
theorem dX6_build_66 : decode cX6_build 66 = .ok (.invokevirtual 72, 3) := by decide +kernel
theorem dX6_build_69 : decode cX6_build 69 = .ok (.istore_n 2, 1) := by decide +kernel
theorem dX6_build_70 : decode cX6_build 70 = .ok (.iinc 3 1, 3) := by decide +kernel
theorem dX6_build_73 : decode cX6_build 73 = .ok (.goto (-20), 3) := by decide +kernel
theorem dX6_build_76 : decode cX6_build 76 = .ok (.iconst 1, 1) := by decide +kernel
theorem dX6_build_77 : decode cX6_build 77 = .ok (.istore_n 2, 1) := by decide +kernel
theorem dX6_build_78 : decode cX6_build 78 = .ok (.iconst 1, 1) := by decide +kernel
theorem dX6_build_79 : decode cX6_build 79 = .ok (.istore_n 3, 1) := by decide +kernel
theorem dX6_build_80 : decode cX6_build 80 = .ok (.iload_n 2, 1) := by decide +kernel
theorem dX6_build_81 : decode cX6_build 81 = .ok (.ifCond .eq 22, 3) := by decide +kernel
theorem dX6_build_84 : decode cX6_build 84 = .ok (.iload_n 3, 1) := by decide +kernel
theorem dX6_build_85 : decode cX6_build 85 = .ok (.sipush 4394, 3) := by decide +kernel
theorem dX6_build_88 : decode cX6_build 88 = .ok (.if_icmp .ge 15, 3) := by decide +kernel
theorem dX6_build_91 : decode cX6_build 91 = .ok (.aload_n 0, 1) := by decide +kernel
theorem dX6_build_92 : decode cX6_build 92 = .ok (.iload_n 3, 1) := by decide +kernel
theorem dX6_build_93 : decode cX6_build 93 = .ok (.invokevirtual 76, 3) := by decide +kernel
theorem dX6_build_96 : decode cX6_build 96 = .ok (.istore_n 2, 1) := by decide +kernel
theorem dX6_build_97 : decode cX6_build 97 = .ok (.iinc 3 1, 3) := by decide +kernel
theorem dX6_build_100 : decode cX6_build 100 = .ok (.goto (-20), 3) := by decide +kernel
theorem dX6_build_103 : decode cX6_build 103 = .ok (.aload_n 0, 1) := by decide +kernel
theorem dX6_build_104 : decode cX6_build 104 = .ok (.invokevirtual 79, 3) := by decide +kernel
theorem dX6_build_107 : decode cX6_build 107 = .ok (.return_, 1) := by decide +kernel
theorem dX6_findPositions_0 : decode cX6_findPositions 0 = .ok (.aload_n 0, 1) := by decide +kernel
theorem dX6_findPositions_1 : decode cX6_findPositions 1 = .ok (.iconst 0, 1) := by decide +kernel
theorem dX6_findPositions_2 : decode cX6_findPositions 2 = .ok (.putfield 82, 3) := by decide +kernel
theorem dX6_findPositions_5 : decode cX6_findPositions 5 = .ok (.iconst 0, 1) := by decide +kernel
theorem dX6_findPositions_6 : decode cX6_findPositions 6 = .ok (.istore_n 1, 1) := by decide +kernel
theorem dX6_findPositions_7 : decode cX6_findPositions 7 = .ok (.iload_n 1, 1) := by decide +kernel
theorem dX6_findPositions_8 : decode cX6_findPositions 8 = .ok (.aload_n 0, 1) := by decide +kernel
theorem dX6_findPositions_9 : decode cX6_findPositions 9 = .ok (.getfield 62, 3) := by decide +kernel
theorem dX6_findPositions_12 : decode cX6_findPositions 12 = .ok (.if_icmp .ge 74, 3) := by decide +kernel
theorem dX6_findPositions_15 : decode cX6_findPositions 15 = .ok (.aload_n 0, 1) := by decide +kernel
theorem dX6_findPositions_16 : decode cX6_findPositions 16 = .ok (.getfield 52, 3) := by decide +kernel
theorem dX6_findPositions_19 : decode cX6_findPositions 19 = .ok (.iload_n 1, 1) := by decide +kernel
theorem dX6_findPositions_20 : decode cX6_findPositions 20 = .ok (.invokevirtual 85, 3) := by decide +kernel
theorem dX6_findPositions_23 : decode cX6_findPositions 23 = .ok (.aload_n 0, 1) := by decide +kernel
theorem dX6_findPositions_24 : decode cX6_findPositions 24 = .ok (.getfield 15, 3) := by decide +kernel
theorem dX6_findPositions_27 : decode cX6_findPositions 27 = .ok (.iload_n 1, 1) := by decide +kernel
theorem dX6_findPositions_28 : decode cX6_findPositions 28 = .ok (.aload_n 0, 1) := by decide +kernel
theorem dX6_findPositions_29 : decode cX6_findPositions 29 = .ok (.getfield 52, 3) := by decide +kernel
theorem dX6_findPositions_32 : decode cX6_findPositions 32 = .ok (.invokevirtual 89, 3) := by decide +kernel
theorem dX6_findPositions_35 : decode cX6_findPositions 35 = .ok (.iastore, 1) := by decide +kernel
theorem dX6_findPositions_36 : decode cX6_findPositions 36 = .ok (.aload_n 0, 1) := by decide +kernel
theorem dX6_findPositions_37 : decode cX6_findPositions 37 = .ok (.getfield 9, 3) := by decide +kernel
theorem dX6_findPositions_40 : decode cX6_findPositions 40 = .ok (.iload_n 1, 1) := by decide +kernel
theorem dX6_findPositions_41 : decode cX6_findPositions 41 = .ok (.iconst (-1), 1) := by decide +kernel
theorem dX6_findPositions_42 : decode cX6_findPositions 42 = .ok (.iastore, 1) := by decide +kernel
theorem dX6_findPositions_43 : decode cX6_findPositions 43 = .ok (.aload_n 0, 1) := by decide +kernel
theorem dX6_findPositions_44 : decode cX6_findPositions 44 = .ok (.getfield 52, 3) := by decide +kernel
theorem dX6_findPositions_47 : decode cX6_findPositions 47 = .ok (.invokevirtual 93, 3) := by decide +kernel
theorem dX6_findPositions_50 : decode cX6_findPositions 50 = .ok (.ifCond .ne 6, 3) := by decide +kernel
theorem dX6_findPositions_53 : decode cX6_findPositions 53 = .ok (.goto 27, 3) := by decide +kernel
theorem dX6_findPositions_56 : decode cX6_findPositions 56 = .ok (.aload_n 0, 1) := by decide +kernel
theorem dX6_findPositions_57 : decode cX6_findPositions 57 = .ok (.getfield 9, 3) := by decide +kernel
theorem dX6_findPositions_60 : decode cX6_findPositions 60 = .ok (.iload_n 1, 1) := by decide +kernel
theorem dX6_findPositions_61 : decode cX6_findPositions 61 = .ok (.aload_n 0, 1) := by decide +kernel
theorem dX6_findPositions_62 : decode cX6_findPositions 62 = .ok (.getfield 45, 3) := by decide +kernel
theorem dX6_findPositions_65 : decode cX6_findPositions 65 = .ok (.iload_n 1, 1) := by decide +kernel
theorem dX6_findPositions_66 : decode cX6_findPositions 66 = .ok (.invokevirtual 97, 3) := by decide +kernel
theorem dX6_findPositions_69 : decode cX6_findPositions 69 = .ok (.iastore, 1) := by decide +kernel
theorem dX6_findPositions_70 : decode cX6_findPositions 70 = .ok (.aload_n 0, 1) := by decide +kernel
theorem dX6_findPositions_71 : decode cX6_findPositions 71 = .ok (.dup, 1) := by decide +kernel
theorem dX6_findPositions_72 : decode cX6_findPositions 72 = .ok (.getfield 82, 3) := by decide +kernel
theorem dX6_findPositions_75 : decode cX6_findPositions 75 = .ok (.iconst 1, 1) := by decide +kernel
theorem dX6_findPositions_76 : decode cX6_findPositions 76 = .ok (.iadd, 1) := by decide +kernel
theorem dX6_findPositions_77 : decode cX6_findPositions 77 = .ok (.putfield 82, 3) := by decide +kernel
theorem dX6_findPositions_80 : decode cX6_findPositions 80 = .ok (.iinc 1 1, 3) := by decide +kernel
theorem dX6_findPositions_83 : decode cX6_findPositions 83 = .ok (.goto (-76), 3) := by decide +kernel
theorem dX6_findPositions_86 : decode cX6_findPositions 86 = .ok (.return_, 1) := by decide +kernel
theorem dX6_findSteps_0 : decode cX6_findSteps 0 = .ok (.aload_n 0, 1) := by decide +kernel
theorem dX6_findSteps_1 : decode cX6_findSteps 1 = .ok (.iconst 0, 1) := by decide +kernel
theorem dX6_findSteps_2 : decode cX6_findSteps 2 = .ok (.putfield 101, 3) := by decide +kernel
theorem dX6_findSteps_5 : decode cX6_findSteps 5 = .ok (.iconst 0, 1) := by decide +kernel
theorem dX6_findSteps_6 : decode cX6_findSteps 6 = .ok (.istore_n 1, 1) := by decide +kernel
theorem dX6_findSteps_7 : decode cX6_findSteps 7 = .ok (.iload_n 1, 1) := by decide +kernel
theorem dX6_findSteps_8 : decode cX6_findSteps 8 = .ok (.aload_n 0, 1) := by decide +kernel
theorem dX6_findSteps_9 : decode cX6_findSteps 9 = .ok (.getfield 62, 3) := by decide +kernel
theorem dX6_findSteps_12 : decode cX6_findSteps 12 = .ok (.if_icmp .ge 33, 3) := by decide +kernel
theorem dX6_findSteps_15 : decode cX6_findSteps 15 = .ok (.aload_n 0, 1) := by decide +kernel
theorem dX6_findSteps_16 : decode cX6_findSteps 16 = .ok (.getfield 27, 3) := by decide +kernel
theorem dX6_findSteps_19 : decode cX6_findSteps 19 = .ok (.iload_n 1, 1) := by decide +kernel
theorem dX6_findSteps_20 : decode cX6_findSteps 20 = .ok (.aload_n 0, 1) := by decide +kernel
theorem dX6_findSteps_21 : decode cX6_findSteps 21 = .ok (.getfield 101, 3) := by decide +kernel
theorem dX6_findSteps_24 : decode cX6_findSteps 24 = .ok (.iastore, 1) := by decide +kernel
theorem dX6_findSteps_25 : decode cX6_findSteps 25 = .ok (.aload_n 0, 1) := by decide +kernel
theorem dX6_findSteps_26 : decode cX6_findSteps 26 = .ok (.getfield 9, 3) := by decide +kernel
theorem dX6_findSteps_29 : decode cX6_findSteps 29 = .ok (.iload_n 1, 1) := by decide +kernel
theorem dX6_findSteps_30 : decode cX6_findSteps 30 = .ok (.iaload, 1) := by decide +kernel
theorem dX6_findSteps_31 : decode cX6_findSteps 31 = .ok (.ifCond .lt 8, 3) := by decide +kernel
theorem dX6_findSteps_34 : decode cX6_findSteps 34 = .ok (.aload_n 0, 1) := by decide +kernel
theorem dX6_findSteps_35 : decode cX6_findSteps 35 = .ok (.iload_n 1, 1) := by decide +kernel
theorem dX6_findSteps_36 : decode cX6_findSteps 36 = .ok (.invokevirtual 104, 3) := by decide +kernel
theorem dX6_findSteps_39 : decode cX6_findSteps 39 = .ok (.iinc 1 1, 3) := by decide +kernel
theorem dX6_findSteps_42 : decode cX6_findSteps 42 = .ok (.goto (-35), 3) := by decide +kernel
theorem dX6_findSteps_45 : decode cX6_findSteps 45 = .ok (.aload_n 0, 1) := by decide +kernel
theorem dX6_findSteps_46 : decode cX6_findSteps 46 = .ok (.getfield 27, 3) := by decide +kernel
theorem dX6_findSteps_49 : decode cX6_findSteps 49 = .ok (.aload_n 0, 1) := by decide +kernel
theorem dX6_findSteps_50 : decode cX6_findSteps 50 = .ok (.getfield 62, 3) := by decide +kernel
theorem dX6_findSteps_53 : decode cX6_findSteps 53 = .ok (.aload_n 0, 1) := by decide +kernel
theorem dX6_findSteps_54 : decode cX6_findSteps 54 = .ok (.getfield 101, 3) := by decide +kernel
theorem dX6_findSteps_57 : decode cX6_findSteps 57 = .ok (.iastore, 1) := by decide +kernel
theorem dX6_findSteps_58 : decode cX6_findSteps 58 = .ok (.return_, 1) := by decide +kernel
theorem dX6_writeSteps_0 : decode cX6_writeSteps 0 = .ok (.aload_n 0, 1) := by decide +kernel
theorem dX6_writeSteps_1 : decode cX6_writeSteps 1 = .ok (.getfield 52, 3) := by decide +kernel
theorem dX6_writeSteps_4 : decode cX6_writeSteps 4 = .ok (.iload_n 1, 1) := by decide +kernel
theorem dX6_writeSteps_5 : decode cX6_writeSteps 5 = .ok (.invokevirtual 85, 3) := by decide +kernel
theorem dX6_writeSteps_8 : decode cX6_writeSteps 8 = .ok (.iload_n 1, 1) := by decide +kernel
theorem dX6_writeSteps_9 : decode cX6_writeSteps 9 = .ok (.iconst 1, 1) := by decide +kernel
theorem dX6_writeSteps_10 : decode cX6_writeSteps 10 = .ok (.iand, 1) := by decide +kernel
theorem dX6_writeSteps_11 : decode cX6_writeSteps 11 = .ok (.istore_n 2, 1) := by decide +kernel
theorem dX6_writeSteps_12 : decode cX6_writeSteps 12 = .ok (.aload_n 0, 1) := by decide +kernel
theorem dX6_writeSteps_13 : decode cX6_writeSteps 13 = .ok (.getfield 36, 3) := by decide +kernel
theorem dX6_writeSteps_16 : decode cX6_writeSteps 16 = .ok (.iload_n 2, 1) := by decide +kernel
theorem dX6_writeSteps_17 : decode cX6_writeSteps 17 = .ok (.invokevirtual 107, 3) := by decide +kernel
theorem dX6_writeSteps_20 : decode cX6_writeSteps 20 = .ok (.istore_n 3, 1) := by decide +kernel
theorem dX6_writeSteps_21 : decode cX6_writeSteps 21 = .ok (.iload_n 3, 1) := by decide +kernel
theorem dX6_writeSteps_22 : decode cX6_writeSteps 22 = .ok (.aload_n 0, 1) := by decide +kernel
theorem dX6_writeSteps_23 : decode cX6_writeSteps 23 = .ok (.getfield 36, 3) := by decide +kernel
theorem dX6_writeSteps_26 : decode cX6_writeSteps 26 = .ok (.iload_n 2, 1) := by decide +kernel
theorem dX6_writeSteps_27 : decode cX6_writeSteps 27 = .ok (.invokevirtual 110, 3) := by decide +kernel
theorem dX6_writeSteps_30 : decode cX6_writeSteps 30 = .ok (.if_icmp .ge 97, 3) := by decide +kernel
theorem dX6_writeSteps_33 : decode cX6_writeSteps 33 = .ok (.aload_n 0, 1) := by decide +kernel
theorem dX6_writeSteps_34 : decode cX6_writeSteps 34 = .ok (.getfield 52, 3) := by decide +kernel
theorem dX6_writeSteps_37 : decode cX6_writeSteps 37 = .ok (.iload_n 3, 1) := by decide +kernel
theorem dX6_writeSteps_38 : decode cX6_writeSteps 38 = .ok (.invokevirtual 113, 3) := by decide +kernel
theorem dX6_writeSteps_41 : decode cX6_writeSteps 41 = .ok (.ifCond .ne 6, 3) := by decide +kernel
theorem dX6_writeSteps_44 : decode cX6_writeSteps 44 = .ok (.goto 77, 3) := by decide +kernel
theorem dX6_writeSteps_47 : decode cX6_writeSteps 47 = .ok (.iconst 0, 1) := by decide +kernel
theorem dX6_writeSteps_48 : decode cX6_writeSteps 48 = .ok (.istore 4, 2) := by decide +kernel
theorem dX6_writeSteps_50 : decode cX6_writeSteps 50 = .ok (.iload 4, 2) := by decide +kernel
theorem dX6_writeSteps_52 : decode cX6_writeSteps 52 = .ok (.aload_n 0, 1) := by decide +kernel
theorem dX6_writeSteps_53 : decode cX6_writeSteps 53 = .ok (.getfield 36, 3) := by decide +kernel
theorem dX6_writeSteps_56 : decode cX6_writeSteps 56 = .ok (.getfield 116, 3) := by decide +kernel
theorem dX6_writeSteps_59 : decode cX6_writeSteps 59 = .ok (.if_icmp .ge 62, 3) := by decide +kernel
theorem dX6_writeSteps_62 : decode cX6_writeSteps 62 = .ok (.aload_n 0, 1) := by decide +kernel
theorem dX6_writeSteps_63 : decode cX6_writeSteps 63 = .ok (.getfield 52, 3) := by decide +kernel
theorem dX6_writeSteps_66 : decode cX6_writeSteps 66 = .ok (.iload_n 3, 1) := by decide +kernel
theorem dX6_writeSteps_67 : decode cX6_writeSteps 67 = .ok (.iload 4, 2) := by decide +kernel
theorem dX6_writeSteps_69 : decode cX6_writeSteps 69 = .ok (.invokevirtual 119, 3) := by decide +kernel
theorem dX6_writeSteps_72 : decode cX6_writeSteps 72 = .ok (.istore 5, 2) := by decide +kernel
theorem dX6_writeSteps_74 : decode cX6_writeSteps 74 = .ok (.iload 5, 2) := by decide +kernel
theorem dX6_writeSteps_76 : decode cX6_writeSteps 76 = .ok (.ifCond .lt 39, 3) := by decide +kernel
theorem dX6_writeSteps_79 : decode cX6_writeSteps 79 = .ok (.aload_n 0, 1) := by decide +kernel
theorem dX6_writeSteps_80 : decode cX6_writeSteps 80 = .ok (.getfield 101, 3) := by decide +kernel
theorem dX6_writeSteps_83 : decode cX6_writeSteps 83 = .ok (.aload_n 0, 1) := by decide +kernel
theorem dX6_writeSteps_84 : decode cX6_writeSteps 84 = .ok (.getfield 30, 3) := by decide +kernel
theorem dX6_writeSteps_87 : decode cX6_writeSteps 87 = .ok (.arraylength, 1) := by decide +kernel
theorem dX6_writeSteps_88 : decode cX6_writeSteps 88 = .ok (.if_icmp .lt 6, 3) := by decide +kernel
theorem dX6_writeSteps_91 : decode cX6_writeSteps 91 = .ok (.goto 24, 3) := by decide +kernel
theorem dX6_writeSteps_94 : decode cX6_writeSteps 94 = .ok (.aload_n 0, 1) := by decide +kernel
theorem dX6_writeSteps_95 : decode cX6_writeSteps 95 = .ok (.getfield 30, 3) := by decide +kernel
theorem dX6_writeSteps_98 : decode cX6_writeSteps 98 = .ok (.aload_n 0, 1) := by decide +kernel
theorem dX6_writeSteps_99 : decode cX6_writeSteps 99 = .ok (.getfield 101, 3) := by decide +kernel
theorem dX6_writeSteps_102 : decode cX6_writeSteps 102 = .ok (.iload 5, 2) := by decide +kernel
theorem dX6_writeSteps_104 : decode cX6_writeSteps 104 = .ok (.iastore, 1) := by decide +kernel
theorem dX6_writeSteps_105 : decode cX6_writeSteps 105 = .ok (.aload_n 0, 1) := by decide +kernel
theorem dX6_writeSteps_106 : decode cX6_writeSteps 106 = .ok (.dup, 1) := by decide +kernel
theorem dX6_writeSteps_107 : decode cX6_writeSteps 107 = .ok (.getfield 101, 3) := by decide +kernel
theorem dX6_writeSteps_110 : decode cX6_writeSteps 110 = .ok (.iconst 1, 1) := by decide +kernel
theorem dX6_writeSteps_111 : decode cX6_writeSteps 111 = .ok (.iadd, 1) := by decide +kernel
theorem dX6_writeSteps_112 : decode cX6_writeSteps 112 = .ok (.putfield 101, 3) := by decide +kernel
theorem dX6_writeSteps_115 : decode cX6_writeSteps 115 = .ok (.iinc 4 1, 3) := by decide +kernel
theorem dX6_writeSteps_118 : decode cX6_writeSteps 118 = .ok (.goto (-68), 3) := by decide +kernel
theorem dX6_writeSteps_121 : decode cX6_writeSteps 121 = .ok (.iinc 3 1, 3) := by decide +kernel
theorem dX6_writeSteps_124 : decode cX6_writeSteps 124 = .ok (.goto (-103), 3) := by decide +kernel
theorem dX6_writeSteps_127 : decode cX6_writeSteps 127 = .ok (.return_, 1) := by decide +kernel
theorem dX6_findEnds_0 : decode cX6_findEnds 0 = .ok (.iconst 0, 1) := by decide +kernel
theorem dX6_findEnds_1 : decode cX6_findEnds 1 = .ok (.istore_n 1, 1) := by decide +kernel
theorem dX6_findEnds_2 : decode cX6_findEnds 2 = .ok (.iload_n 1, 1) := by decide +kernel
theorem dX6_findEnds_3 : decode cX6_findEnds 3 = .ok (.aload_n 0, 1) := by decide +kernel
theorem dX6_findEnds_4 : decode cX6_findEnds 4 = .ok (.getfield 62, 3) := by decide +kernel
theorem dX6_findEnds_7 : decode cX6_findEnds 7 = .ok (.if_icmp .ge 74, 3) := by decide +kernel
theorem dX6_findEnds_10 : decode cX6_findEnds 10 = .ok (.aload_n 0, 1) := by decide +kernel
theorem dX6_findEnds_11 : decode cX6_findEnds 11 = .ok (.getfield 18, 3) := by decide +kernel
theorem dX6_findEnds_14 : decode cX6_findEnds 14 = .ok (.iload_n 1, 1) := by decide +kernel
theorem dX6_findEnds_15 : decode cX6_findEnds 15 = .ok (.aload_n 0, 1) := by decide +kernel
theorem dX6_findEnds_16 : decode cX6_findEnds 16 = .ok (.getfield 9, 3) := by decide +kernel
theorem dX6_findEnds_19 : decode cX6_findEnds 19 = .ok (.iload_n 1, 1) := by decide +kernel
theorem dX6_findEnds_20 : decode cX6_findEnds 20 = .ok (.iaload, 1) := by decide +kernel
theorem dX6_findEnds_21 : decode cX6_findEnds 21 = .ok (.ifCond .lt 19, 3) := by decide +kernel
theorem dX6_findEnds_24 : decode cX6_findEnds 24 = .ok (.aload_n 0, 1) := by decide +kernel
theorem dX6_findEnds_25 : decode cX6_findEnds 25 = .ok (.iload_n 1, 1) := by decide +kernel
theorem dX6_findEnds_26 : decode cX6_findEnds 26 = .ok (.invokevirtual 123, 3) := by decide +kernel
theorem dX6_findEnds_29 : decode cX6_findEnds 29 = .ok (.ifCond .eq 11, 3) := by decide +kernel
theorem dX6_findEnds_32 : decode cX6_findEnds 32 = .ok (.aload_n 0, 1) := by decide +kernel
theorem dX6_findEnds_33 : decode cX6_findEnds 33 = .ok (.iload_n 1, 1) := by decide +kernel
theorem dX6_findEnds_34 : decode cX6_findEnds 34 = .ok (.invokevirtual 126, 3) := by decide +kernel
theorem dX6_findEnds_37 : decode cX6_findEnds 37 = .ok (.goto 4, 3) := by decide +kernel
theorem dX6_findEnds_40 : decode cX6_findEnds 40 = .ok (.iconst 0, 1) := by decide +kernel
theorem dX6_findEnds_41 : decode cX6_findEnds 41 = .ok (.iastore, 1) := by decide +kernel
theorem dX6_findEnds_42 : decode cX6_findEnds 42 = .ok (.aload_n 0, 1) := by decide +kernel
theorem dX6_findEnds_43 : decode cX6_findEnds 43 = .ok (.getfield 21, 3) := by decide +kernel
theorem dX6_findEnds_46 : decode cX6_findEnds 46 = .ok (.iload_n 1, 1) := by decide +kernel
theorem dX6_findEnds_47 : decode cX6_findEnds 47 = .ok (.aload_n 0, 1) := by decide +kernel
theorem dX6_findEnds_48 : decode cX6_findEnds 48 = .ok (.getfield 18, 3) := by decide +kernel
theorem dX6_findEnds_51 : decode cX6_findEnds 51 = .ok (.iload_n 1, 1) := by decide +kernel
theorem dX6_findEnds_52 : decode cX6_findEnds 52 = .ok (.iaload, 1) := by decide +kernel
theorem dX6_findEnds_53 : decode cX6_findEnds 53 = .ok (.ifCond .ne 8, 3) := by decide +kernel
theorem dX6_findEnds_56 : decode cX6_findEnds 56 = .ok (.bipush (-5), 2) := by decide +kernel
theorem dX6_findEnds_58 : decode cX6_findEnds 58 = .ok (.goto 4, 3) := by decide +kernel
theorem dX6_findEnds_61 : decode cX6_findEnds 61 = .ok (.iconst 0, 1) := by decide +kernel
theorem dX6_findEnds_62 : decode cX6_findEnds 62 = .ok (.iastore, 1) := by decide +kernel
theorem dX6_findEnds_63 : decode cX6_findEnds 63 = .ok (.aload_n 0, 1) := by decide +kernel
theorem dX6_findEnds_64 : decode cX6_findEnds 64 = .ok (.getfield 24, 3) := by decide +kernel
theorem dX6_findEnds_67 : decode cX6_findEnds 67 = .ok (.iload_n 1, 1) := by decide +kernel
theorem dX6_findEnds_68 : decode cX6_findEnds 68 = .ok (.aload_n 0, 1) := by decide +kernel
theorem dX6_findEnds_69 : decode cX6_findEnds 69 = .ok (.getfield 21, 3) := by decide +kernel
theorem dX6_findEnds_72 : decode cX6_findEnds 72 = .ok (.iload_n 1, 1) := by decide +kernel
theorem dX6_findEnds_73 : decode cX6_findEnds 73 = .ok (.iaload, 1) := by decide +kernel
theorem dX6_findEnds_74 : decode cX6_findEnds 74 = .ok (.iastore, 1) := by decide +kernel
theorem dX6_findEnds_75 : decode cX6_findEnds 75 = .ok (.iinc 1 1, 3) := by decide +kernel
theorem dX6_findEnds_78 : decode cX6_findEnds 78 = .ok (.goto (-76), 3) := by decide +kernel
theorem dX6_findEnds_81 : decode cX6_findEnds 81 = .ok (.return_, 1) := by decide +kernel
theorem dX6_endValue_0 : decode cX6_endValue 0 = .ok (.aload_n 0, 1) := by decide +kernel
theorem dX6_endValue_1 : decode cX6_endValue 1 = .ok (.iload_n 1, 1) := by decide +kernel
theorem dX6_endValue_2 : decode cX6_endValue 2 = .ok (.invokevirtual 129, 3) := by decide +kernel
theorem dX6_endValue_5 : decode cX6_endValue 5 = .ok (.ifCond .eq 7, 3) := by decide +kernel
theorem dX6_endValue_8 : decode cX6_endValue 8 = .ok (.iconst (-1), 1) := by decide +kernel
theorem dX6_endValue_9 : decode cX6_endValue 9 = .ok (.goto 10, 3) := by decide +kernel
theorem dX6_endValue_12 : decode cX6_endValue 12 = .ok (.aload_n 0, 1) := by decide +kernel
theorem dX6_endValue_13 : decode cX6_endValue 13 = .ok (.getfield 36, 3) := by decide +kernel
theorem dX6_endValue_16 : decode cX6_endValue 16 = .ok (.getfield 132, 3) := by decide +kernel
theorem dX6_endValue_19 : decode cX6_endValue 19 = .ok (.ireturn, 1) := by decide +kernel
theorem dX6_findValues_0 : decode cX6_findValues 0 = .ok (.iconst 0, 1) := by decide +kernel
theorem dX6_findValues_1 : decode cX6_findValues 1 = .ok (.istore_n 2, 1) := by decide +kernel
theorem dX6_findValues_2 : decode cX6_findValues 2 = .ok (.iconst 0, 1) := by decide +kernel
theorem dX6_findValues_3 : decode cX6_findValues 3 = .ok (.istore_n 3, 1) := by decide +kernel
theorem dX6_findValues_4 : decode cX6_findValues 4 = .ok (.iload_n 3, 1) := by decide +kernel
theorem dX6_findValues_5 : decode cX6_findValues 5 = .ok (.aload_n 0, 1) := by decide +kernel
theorem dX6_findValues_6 : decode cX6_findValues 6 = .ok (.getfield 62, 3) := by decide +kernel
theorem dX6_findValues_9 : decode cX6_findValues 9 = .ok (.if_icmp .ge 72, 3) := by decide +kernel
theorem dX6_findValues_12 : decode cX6_findValues 12 = .ok (.aload_n 0, 1) := by decide +kernel
theorem dX6_findValues_13 : decode cX6_findValues 13 = .ok (.getfield 9, 3) := by decide +kernel
theorem dX6_findValues_16 : decode cX6_findValues 16 = .ok (.iload_n 3, 1) := by decide +kernel
theorem dX6_findValues_17 : decode cX6_findValues 17 = .ok (.iaload, 1) := by decide +kernel
theorem dX6_findValues_18 : decode cX6_findValues 18 = .ok (.iload_n 3, 1) := by decide +kernel
theorem dX6_findValues_19 : decode cX6_findValues 19 = .ok (.if_icmp .ne 56, 3) := by decide +kernel
theorem dX6_findValues_22 : decode cX6_findValues 22 = .ok (.aload_n 0, 1) := by decide +kernel
theorem dX6_findValues_23 : decode cX6_findValues 23 = .ok (.getfield 18, 3) := by decide +kernel
theorem dX6_findValues_26 : decode cX6_findValues 26 = .ok (.iload_n 3, 1) := by decide +kernel
theorem dX6_findValues_27 : decode cX6_findValues 27 = .ok (.iaload, 1) := by decide +kernel
theorem dX6_findValues_28 : decode cX6_findValues 28 = .ok (.ifCond .ne 47, 3) := by decide +kernel
theorem dX6_findValues_31 : decode cX6_findValues 31 = .ok (.aload_n 0, 1) := by decide +kernel
theorem dX6_findValues_32 : decode cX6_findValues 32 = .ok (.iload_n 3, 1) := by decide +kernel
theorem dX6_findValues_33 : decode cX6_findValues 33 = .ok (.invokevirtual 123, 3) := by decide +kernel
theorem dX6_findValues_36 : decode cX6_findValues 36 = .ok (.ifCond .eq 6, 3) := by decide +kernel
theorem dX6_findValues_39 : decode cX6_findValues 39 = .ok (.goto 36, 3) := by decide +kernel
theorem dX6_findValues_42 : decode cX6_findValues 42 = .ok (.aload_n 0, 1) := by decide +kernel
theorem dX6_findValues_43 : decode cX6_findValues 43 = .ok (.iload_n 3, 1) := by decide +kernel
theorem dX6_findValues_44 : decode cX6_findValues 44 = .ok (.iload_n 1, 1) := by decide +kernel
theorem dX6_findValues_45 : decode cX6_findValues 45 = .ok (.invokevirtual 135, 3) := by decide +kernel
theorem dX6_findValues_48 : decode cX6_findValues 48 = .ok (.istore 4, 2) := by decide +kernel
theorem dX6_findValues_50 : decode cX6_findValues 50 = .ok (.iload 4, 2) := by decide +kernel
theorem dX6_findValues_52 : decode cX6_findValues 52 = .ok (.ifCond .ne 6, 3) := by decide +kernel
theorem dX6_findValues_55 : decode cX6_findValues 55 = .ok (.goto 20, 3) := by decide +kernel
theorem dX6_findValues_58 : decode cX6_findValues 58 = .ok (.aload_n 0, 1) := by decide +kernel
theorem dX6_findValues_59 : decode cX6_findValues 59 = .ok (.getfield 18, 3) := by decide +kernel
theorem dX6_findValues_62 : decode cX6_findValues 62 = .ok (.iload_n 3, 1) := by decide +kernel
theorem dX6_findValues_63 : decode cX6_findValues 63 = .ok (.iload 4, 2) := by decide +kernel
theorem dX6_findValues_65 : decode cX6_findValues 65 = .ok (.iastore, 1) := by decide +kernel
theorem dX6_findValues_66 : decode cX6_findValues 66 = .ok (.aload_n 0, 1) := by decide +kernel
theorem dX6_findValues_67 : decode cX6_findValues 67 = .ok (.getfield 21, 3) := by decide +kernel
theorem dX6_findValues_70 : decode cX6_findValues 70 = .ok (.iload_n 3, 1) := by decide +kernel
theorem dX6_findValues_71 : decode cX6_findValues 71 = .ok (.iload_n 1, 1) := by decide +kernel
theorem dX6_findValues_72 : decode cX6_findValues 72 = .ok (.iastore, 1) := by decide +kernel
theorem dX6_findValues_73 : decode cX6_findValues 73 = .ok (.iconst 1, 1) := by decide +kernel
theorem dX6_findValues_74 : decode cX6_findValues 74 = .ok (.istore_n 2, 1) := by decide +kernel
theorem dX6_findValues_75 : decode cX6_findValues 75 = .ok (.iinc 3 1, 3) := by decide +kernel
theorem dX6_findValues_78 : decode cX6_findValues 78 = .ok (.goto (-74), 3) := by decide +kernel
theorem dX6_findValues_81 : decode cX6_findValues 81 = .ok (.iload_n 2, 1) := by decide +kernel
theorem dX6_findValues_82 : decode cX6_findValues 82 = .ok (.ireturn, 1) := by decide +kernel
theorem dX6_valueFromSteps_0 : decode cX6_valueFromSteps 0 = .ok (.iconst 1, 1) := by decide +kernel
theorem dX6_valueFromSteps_1 : decode cX6_valueFromSteps 1 = .ok (.istore_n 3, 1) := by decide +kernel
theorem dX6_valueFromSteps_2 : decode cX6_valueFromSteps 2 = .ok (.aload_n 0, 1) := by decide +kernel
theorem dX6_valueFromSteps_3 : decode cX6_valueFromSteps 3 = .ok (.getfield 27, 3) := by decide +kernel
theorem dX6_valueFromSteps_6 : decode cX6_valueFromSteps 6 = .ok (.iload_n 1, 1) := by decide +kernel
theorem dX6_valueFromSteps_7 : decode cX6_valueFromSteps 7 = .ok (.iaload, 1) := by decide +kernel
theorem dX6_valueFromSteps_8 : decode cX6_valueFromSteps 8 = .ok (.istore 4, 2) := by decide +kernel
theorem dX6_valueFromSteps_10 : decode cX6_valueFromSteps 10 = .ok (.iload 4, 2) := by decide +kernel
theorem dX6_valueFromSteps_12 : decode cX6_valueFromSteps 12 = .ok (.aload_n 0, 1) := by decide +kernel
theorem dX6_valueFromSteps_13 : decode cX6_valueFromSteps 13 = .ok (.getfield 27, 3) := by decide +kernel
theorem dX6_valueFromSteps_16 : decode cX6_valueFromSteps 16 = .ok (.iload_n 1, 1) := by decide +kernel
theorem dX6_valueFromSteps_17 : decode cX6_valueFromSteps 17 = .ok (.iconst 1, 1) := by decide +kernel
theorem dX6_valueFromSteps_18 : decode cX6_valueFromSteps 18 = .ok (.iadd, 1) := by decide +kernel
theorem dX6_valueFromSteps_19 : decode cX6_valueFromSteps 19 = .ok (.iaload, 1) := by decide +kernel
theorem dX6_valueFromSteps_20 : decode cX6_valueFromSteps 20 = .ok (.if_icmp .ge 58, 3) := by decide +kernel
theorem dX6_valueFromSteps_23 : decode cX6_valueFromSteps 23 = .ok (.aload_n 0, 1) := by decide +kernel
theorem dX6_valueFromSteps_24 : decode cX6_valueFromSteps 24 = .ok (.aload_n 0, 1) := by decide +kernel
theorem dX6_valueFromSteps_25 : decode cX6_valueFromSteps 25 = .ok (.getfield 30, 3) := by decide +kernel
theorem dX6_valueFromSteps_28 : decode cX6_valueFromSteps 28 = .ok (.iload 4, 2) := by decide +kernel
theorem dX6_valueFromSteps_30 : decode cX6_valueFromSteps 30 = .ok (.iaload, 1) := by decide +kernel
theorem dX6_valueFromSteps_31 : decode cX6_valueFromSteps 31 = .ok (.invokevirtual 138, 3) := by decide +kernel
theorem dX6_valueFromSteps_34 : decode cX6_valueFromSteps 34 = .ok (.istore 5, 2) := by decide +kernel
theorem dX6_valueFromSteps_36 : decode cX6_valueFromSteps 36 = .ok (.aload_n 0, 1) := by decide +kernel
theorem dX6_valueFromSteps_37 : decode cX6_valueFromSteps 37 = .ok (.iload 5, 2) := by decide +kernel
theorem dX6_valueFromSteps_39 : decode cX6_valueFromSteps 39 = .ok (.invokevirtual 141, 3) := by decide +kernel
theorem dX6_valueFromSteps_42 : decode cX6_valueFromSteps 42 = .ok (.iload_n 2, 1) := by decide +kernel
theorem dX6_valueFromSteps_43 : decode cX6_valueFromSteps 43 = .ok (.if_icmp .ge 12, 3) := by decide +kernel
theorem dX6_valueFromSteps_46 : decode cX6_valueFromSteps 46 = .ok (.aload_n 0, 1) := by decide +kernel
theorem dX6_valueFromSteps_47 : decode cX6_valueFromSteps 47 = .ok (.iload 5, 2) := by decide +kernel
theorem dX6_valueFromSteps_49 : decode cX6_valueFromSteps 49 = .ok (.invokevirtual 144, 3) := by decide +kernel
theorem dX6_valueFromSteps_52 : decode cX6_valueFromSteps 52 = .ok (.goto 4, 3) := by decide +kernel
theorem dX6_valueFromSteps_55 : decode cX6_valueFromSteps 55 = .ok (.iconst 0, 1) := by decide +kernel
theorem dX6_valueFromSteps_56 : decode cX6_valueFromSteps 56 = .ok (.istore 6, 2) := by decide +kernel
theorem dX6_valueFromSteps_58 : decode cX6_valueFromSteps 58 = .ok (.iload 6, 2) := by decide +kernel
theorem dX6_valueFromSteps_60 : decode cX6_valueFromSteps 60 = .ok (.ifCond .ge 5, 3) := by decide +kernel
theorem dX6_valueFromSteps_63 : decode cX6_valueFromSteps 63 = .ok (.iconst 1, 1) := by decide +kernel
theorem dX6_valueFromSteps_64 : decode cX6_valueFromSteps 64 = .ok (.ireturn, 1) := by decide +kernel
theorem dX6_valueFromSteps_65 : decode cX6_valueFromSteps 65 = .ok (.iload 6, 2) := by decide +kernel
theorem dX6_valueFromSteps_67 : decode cX6_valueFromSteps 67 = .ok (.ifCond .ne 5, 3) := by decide +kernel
theorem dX6_valueFromSteps_70 : decode cX6_valueFromSteps 70 = .ok (.iconst 0, 1) := by decide +kernel
theorem dX6_valueFromSteps_71 : decode cX6_valueFromSteps 71 = .ok (.istore_n 3, 1) := by decide +kernel
theorem dX6_valueFromSteps_72 : decode cX6_valueFromSteps 72 = .ok (.iinc 4 1, 3) := by decide +kernel
theorem dX6_valueFromSteps_75 : decode cX6_valueFromSteps 75 = .ok (.goto (-65), 3) := by decide +kernel
theorem dX6_valueFromSteps_78 : decode cX6_valueFromSteps 78 = .ok (.iload_n 3, 1) := by decide +kernel
theorem dX6_valueFromSteps_79 : decode cX6_valueFromSteps 79 = .ok (.ifCond .eq 7, 3) := by decide +kernel
theorem dX6_valueFromSteps_82 : decode cX6_valueFromSteps 82 = .ok (.iconst (-1), 1) := by decide +kernel
theorem dX6_valueFromSteps_83 : decode cX6_valueFromSteps 83 = .ok (.goto 4, 3) := by decide +kernel
theorem dX6_valueFromSteps_86 : decode cX6_valueFromSteps 86 = .ok (.iconst 0, 1) := by decide +kernel
theorem dX6_valueFromSteps_87 : decode cX6_valueFromSteps 87 = .ok (.ireturn, 1) := by decide +kernel
theorem dX6_findConversions_0 : decode cX6_findConversions 0 = .ok (.iconst 0, 1) := by decide +kernel
theorem dX6_findConversions_1 : decode cX6_findConversions 1 = .ok (.istore_n 2, 1) := by decide +kernel
theorem dX6_findConversions_2 : decode cX6_findConversions 2 = .ok (.iconst 0, 1) := by decide +kernel
theorem dX6_findConversions_3 : decode cX6_findConversions 3 = .ok (.istore_n 3, 1) := by decide +kernel
theorem dX6_findConversions_4 : decode cX6_findConversions 4 = .ok (.iload_n 3, 1) := by decide +kernel
theorem dX6_findConversions_5 : decode cX6_findConversions 5 = .ok (.aload_n 0, 1) := by decide +kernel
theorem dX6_findConversions_6 : decode cX6_findConversions 6 = .ok (.getfield 62, 3) := by decide +kernel
theorem dX6_findConversions_9 : decode cX6_findConversions 9 = .ok (.if_icmp .ge 61, 3) := by decide +kernel
theorem dX6_findConversions_12 : decode cX6_findConversions 12 = .ok (.aload_n 0, 1) := by decide +kernel
theorem dX6_findConversions_13 : decode cX6_findConversions 13 = .ok (.getfield 9, 3) := by decide +kernel
theorem dX6_findConversions_16 : decode cX6_findConversions 16 = .ok (.iload_n 3, 1) := by decide +kernel
theorem dX6_findConversions_17 : decode cX6_findConversions 17 = .ok (.iaload, 1) := by decide +kernel
theorem dX6_findConversions_18 : decode cX6_findConversions 18 = .ok (.iload_n 3, 1) := by decide +kernel
theorem dX6_findConversions_19 : decode cX6_findConversions 19 = .ok (.if_icmp .ne 45, 3) := by decide +kernel
theorem dX6_findConversions_22 : decode cX6_findConversions 22 = .ok (.aload_n 0, 1) := by decide +kernel
theorem dX6_findConversions_23 : decode cX6_findConversions 23 = .ok (.getfield 18, 3) := by decide +kernel
theorem dX6_findConversions_26 : decode cX6_findConversions 26 = .ok (.iload_n 3, 1) := by decide +kernel
theorem dX6_findConversions_27 : decode cX6_findConversions 27 = .ok (.iaload, 1) := by decide +kernel
theorem dX6_findConversions_28 : decode cX6_findConversions 28 = .ok (.ifCond .eq 36, 3) := by decide +kernel
theorem dX6_findConversions_31 : decode cX6_findConversions 31 = .ok (.aload_n 0, 1) := by decide +kernel
theorem dX6_findConversions_32 : decode cX6_findConversions 32 = .ok (.getfield 24, 3) := by decide +kernel
theorem dX6_findConversions_35 : decode cX6_findConversions 35 = .ok (.iload_n 3, 1) := by decide +kernel
theorem dX6_findConversions_36 : decode cX6_findConversions 36 = .ok (.iaload, 1) := by decide +kernel
theorem dX6_findConversions_37 : decode cX6_findConversions 37 = .ok (.ifCond .lt 6, 3) := by decide +kernel
theorem dX6_findConversions_40 : decode cX6_findConversions 40 = .ok (.goto 24, 3) := by decide +kernel
theorem dX6_findConversions_43 : decode cX6_findConversions 43 = .ok (.aload_n 0, 1) := by decide +kernel
theorem dX6_findConversions_44 : decode cX6_findConversions 44 = .ok (.iload_n 3, 1) := by decide +kernel
theorem dX6_findConversions_45 : decode cX6_findConversions 45 = .ok (.iload_n 1, 1) := by decide +kernel
theorem dX6_findConversions_46 : decode cX6_findConversions 46 = .ok (.invokevirtual 147, 3) := by decide +kernel
theorem dX6_findConversions_49 : decode cX6_findConversions 49 = .ok (.ifCond .ne 6, 3) := by decide +kernel
theorem dX6_findConversions_52 : decode cX6_findConversions 52 = .ok (.goto 12, 3) := by decide +kernel
theorem dX6_findConversions_55 : decode cX6_findConversions 55 = .ok (.aload_n 0, 1) := by decide +kernel
theorem dX6_findConversions_56 : decode cX6_findConversions 56 = .ok (.getfield 24, 3) := by decide +kernel
theorem dX6_findConversions_59 : decode cX6_findConversions 59 = .ok (.iload_n 3, 1) := by decide +kernel
theorem dX6_findConversions_60 : decode cX6_findConversions 60 = .ok (.iload_n 1, 1) := by decide +kernel
theorem dX6_findConversions_61 : decode cX6_findConversions 61 = .ok (.iastore, 1) := by decide +kernel
theorem dX6_findConversions_62 : decode cX6_findConversions 62 = .ok (.iconst 1, 1) := by decide +kernel
theorem dX6_findConversions_63 : decode cX6_findConversions 63 = .ok (.istore_n 2, 1) := by decide +kernel
theorem dX6_findConversions_64 : decode cX6_findConversions 64 = .ok (.iinc 3 1, 3) := by decide +kernel
theorem dX6_findConversions_67 : decode cX6_findConversions 67 = .ok (.goto (-63), 3) := by decide +kernel
theorem dX6_findConversions_70 : decode cX6_findConversions 70 = .ok (.iload_n 2, 1) := by decide +kernel
theorem dX6_findConversions_71 : decode cX6_findConversions 71 = .ok (.ireturn, 1) := by decide +kernel
theorem dX6_isConverted_0 : decode cX6_isConverted 0 = .ok (.aload_n 0, 1) := by decide +kernel
theorem dX6_isConverted_1 : decode cX6_isConverted 1 = .ok (.getfield 18, 3) := by decide +kernel
theorem dX6_isConverted_4 : decode cX6_isConverted 4 = .ok (.iload_n 1, 1) := by decide +kernel
theorem dX6_isConverted_5 : decode cX6_isConverted 5 = .ok (.iaload, 1) := by decide +kernel
theorem dX6_isConverted_6 : decode cX6_isConverted 6 = .ok (.ifCond .le 7, 3) := by decide +kernel
theorem dX6_isConverted_9 : decode cX6_isConverted 9 = .ok (.iconst 1, 1) := by decide +kernel
theorem dX6_isConverted_10 : decode cX6_isConverted 10 = .ok (.goto 4, 3) := by decide +kernel
theorem dX6_isConverted_13 : decode cX6_isConverted 13 = .ok (.iconst 0, 1) := by decide +kernel
theorem dX6_isConverted_14 : decode cX6_isConverted 14 = .ok (.istore_n 3, 1) := by decide +kernel
theorem dX6_isConverted_15 : decode cX6_isConverted 15 = .ok (.aload_n 0, 1) := by decide +kernel
theorem dX6_isConverted_16 : decode cX6_isConverted 16 = .ok (.getfield 27, 3) := by decide +kernel
theorem dX6_isConverted_19 : decode cX6_isConverted 19 = .ok (.iload_n 1, 1) := by decide +kernel
theorem dX6_isConverted_20 : decode cX6_isConverted 20 = .ok (.iaload, 1) := by decide +kernel
theorem dX6_isConverted_21 : decode cX6_isConverted 21 = .ok (.istore 4, 2) := by decide +kernel
theorem dX6_isConverted_23 : decode cX6_isConverted 23 = .ok (.iload 4, 2) := by decide +kernel
theorem dX6_isConverted_25 : decode cX6_isConverted 25 = .ok (.aload_n 0, 1) := by decide +kernel
theorem dX6_isConverted_26 : decode cX6_isConverted 26 = .ok (.getfield 27, 3) := by decide +kernel
theorem dX6_isConverted_29 : decode cX6_isConverted 29 = .ok (.iload_n 1, 1) := by decide +kernel
theorem dX6_isConverted_30 : decode cX6_isConverted 30 = .ok (.iconst 1, 1) := by decide +kernel
theorem dX6_isConverted_31 : decode cX6_isConverted 31 = .ok (.iadd, 1) := by decide +kernel
theorem dX6_isConverted_32 : decode cX6_isConverted 32 = .ok (.iaload, 1) := by decide +kernel
theorem dX6_isConverted_33 : decode cX6_isConverted 33 = .ok (.if_icmp .ge 95, 3) := by decide +kernel
theorem dX6_isConverted_36 : decode cX6_isConverted 36 = .ok (.aload_n 0, 1) := by decide +kernel
theorem dX6_isConverted_37 : decode cX6_isConverted 37 = .ok (.aload_n 0, 1) := by decide +kernel
theorem dX6_isConverted_38 : decode cX6_isConverted 38 = .ok (.getfield 30, 3) := by decide +kernel
theorem dX6_isConverted_41 : decode cX6_isConverted 41 = .ok (.iload 4, 2) := by decide +kernel
theorem dX6_isConverted_43 : decode cX6_isConverted 43 = .ok (.iaload, 1) := by decide +kernel
theorem dX6_isConverted_44 : decode cX6_isConverted 44 = .ok (.invokevirtual 138, 3) := by decide +kernel
theorem dX6_isConverted_47 : decode cX6_isConverted 47 = .ok (.istore 5, 2) := by decide +kernel
theorem dX6_isConverted_49 : decode cX6_isConverted 49 = .ok (.iload_n 3, 1) := by decide +kernel
theorem dX6_isConverted_50 : decode cX6_isConverted 50 = .ok (.ifCond .eq 15, 3) := by decide +kernel
theorem dX6_isConverted_53 : decode cX6_isConverted 53 = .ok (.aload_n 0, 1) := by decide +kernel
theorem dX6_isConverted_54 : decode cX6_isConverted 54 = .ok (.iload 5, 2) := by decide +kernel
theorem dX6_isConverted_56 : decode cX6_isConverted 56 = .ok (.invokevirtual 144, 3) := by decide +kernel
theorem dX6_isConverted_59 : decode cX6_isConverted 59 = .ok (.ifCond .lt 6, 3) := by decide +kernel
theorem dX6_isConverted_62 : decode cX6_isConverted 62 = .ok (.goto 60, 3) := by decide +kernel
theorem dX6_isConverted_65 : decode cX6_isConverted 65 = .ok (.aload_n 0, 1) := by decide +kernel
theorem dX6_isConverted_66 : decode cX6_isConverted 66 = .ok (.iload_n 1, 1) := by decide +kernel
theorem dX6_isConverted_67 : decode cX6_isConverted 67 = .ok (.iload 5, 2) := by decide +kernel
theorem dX6_isConverted_69 : decode cX6_isConverted 69 = .ok (.invokevirtual 151, 3) := by decide +kernel
theorem dX6_isConverted_72 : decode cX6_isConverted 72 = .ok (.ifCond .ne 12, 3) := by decide +kernel
theorem dX6_isConverted_75 : decode cX6_isConverted 75 = .ok (.aload_n 0, 1) := by decide +kernel
theorem dX6_isConverted_76 : decode cX6_isConverted 76 = .ok (.iload 5, 2) := by decide +kernel
theorem dX6_isConverted_78 : decode cX6_isConverted 78 = .ok (.invokevirtual 123, 3) := by decide +kernel
theorem dX6_isConverted_81 : decode cX6_isConverted 81 = .ok (.ifCond .eq 7, 3) := by decide +kernel
theorem dX6_isConverted_84 : decode cX6_isConverted 84 = .ok (.iconst 0, 1) := by decide +kernel
theorem dX6_isConverted_85 : decode cX6_isConverted 85 = .ok (.goto 9, 3) := by decide +kernel
theorem dX6_isConverted_88 : decode cX6_isConverted 88 = .ok (.aload_n 0, 1) := by decide +kernel
theorem dX6_isConverted_89 : decode cX6_isConverted 89 = .ok (.iload 5, 2) := by decide +kernel
theorem dX6_isConverted_91 : decode cX6_isConverted 91 = .ok (.invokevirtual 154, 3) := by decide +kernel
theorem dX6_isConverted_94 : decode cX6_isConverted 94 = .ok (.istore 6, 2) := by decide +kernel
theorem dX6_isConverted_96 : decode cX6_isConverted 96 = .ok (.iload 6, 2) := by decide +kernel
theorem dX6_isConverted_98 : decode cX6_isConverted 98 = .ok (.ifCond .lt 13, 3) := by decide +kernel
theorem dX6_isConverted_101 : decode cX6_isConverted 101 = .ok (.iload 6, 2) := by decide +kernel
theorem dX6_isConverted_103 : decode cX6_isConverted 103 = .ok (.iload_n 2, 1) := by decide +kernel
theorem dX6_isConverted_104 : decode cX6_isConverted 104 = .ok (.if_icmp .ge 7, 3) := by decide +kernel
theorem dX6_isConverted_107 : decode cX6_isConverted 107 = .ok (.iconst 1, 1) := by decide +kernel
theorem dX6_isConverted_108 : decode cX6_isConverted 108 = .ok (.goto 4, 3) := by decide +kernel
theorem dX6_isConverted_111 : decode cX6_isConverted 111 = .ok (.iconst 0, 1) := by decide +kernel
theorem dX6_isConverted_112 : decode cX6_isConverted 112 = .ok (.istore 7, 2) := by decide +kernel
theorem dX6_isConverted_114 : decode cX6_isConverted 114 = .ok (.iload 7, 2) := by decide +kernel
theorem dX6_isConverted_116 : decode cX6_isConverted 116 = .ok (.iload_n 3, 1) := by decide +kernel
theorem dX6_isConverted_117 : decode cX6_isConverted 117 = .ok (.if_icmp .ne 5, 3) := by decide +kernel
theorem dX6_isConverted_120 : decode cX6_isConverted 120 = .ok (.iload_n 3, 1) := by decide +kernel
theorem dX6_isConverted_121 : decode cX6_isConverted 121 = .ok (.ireturn, 1) := by decide +kernel
theorem dX6_isConverted_122 : decode cX6_isConverted 122 = .ok (.iinc 4 1, 3) := by decide +kernel
theorem dX6_isConverted_125 : decode cX6_isConverted 125 = .ok (.goto (-102), 3) := by decide +kernel
theorem dX6_isConverted_128 : decode cX6_isConverted 128 = .ok (.iload_n 3, 1) := by decide +kernel
theorem dX6_isConverted_129 : decode cX6_isConverted 129 = .ok (.ifCond .ne 7, 3) := by decide +kernel
theorem dX6_isConverted_132 : decode cX6_isConverted 132 = .ok (.iconst 1, 1) := by decide +kernel
theorem dX6_isConverted_133 : decode cX6_isConverted 133 = .ok (.goto 4, 3) := by decide +kernel
theorem dX6_isConverted_136 : decode cX6_isConverted 136 = .ok (.iconst 0, 1) := by decide +kernel
theorem dX6_isConverted_137 : decode cX6_isConverted 137 = .ok (.ireturn, 1) := by decide +kernel
theorem dX6_shareWithImages_0 : decode cX6_shareWithImages 0 = .ok (.iconst 0, 1) := by decide +kernel
theorem dX6_shareWithImages_1 : decode cX6_shareWithImages 1 = .ok (.istore_n 1, 1) := by decide +kernel
theorem dX6_shareWithImages_2 : decode cX6_shareWithImages 2 = .ok (.iload_n 1, 1) := by decide +kernel
theorem dX6_shareWithImages_3 : decode cX6_shareWithImages 3 = .ok (.aload_n 0, 1) := by decide +kernel
theorem dX6_shareWithImages_4 : decode cX6_shareWithImages 4 = .ok (.getfield 62, 3) := by decide +kernel
theorem dX6_shareWithImages_7 : decode cX6_shareWithImages 7 = .ok (.if_icmp .ge 56, 3) := by decide +kernel
theorem dX6_shareWithImages_10 : decode cX6_shareWithImages 10 = .ok (.aload_n 0, 1) := by decide +kernel
theorem dX6_shareWithImages_11 : decode cX6_shareWithImages 11 = .ok (.getfield 9, 3) := by decide +kernel
theorem dX6_shareWithImages_14 : decode cX6_shareWithImages 14 = .ok (.iload_n 1, 1) := by decide +kernel
theorem dX6_shareWithImages_15 : decode cX6_shareWithImages 15 = .ok (.iaload, 1) := by decide +kernel
theorem dX6_shareWithImages_16 : decode cX6_shareWithImages 16 = .ok (.istore_n 2, 1) := by decide +kernel
theorem dX6_shareWithImages_17 : decode cX6_shareWithImages 17 = .ok (.iload_n 2, 1) := by decide +kernel
theorem dX6_shareWithImages_18 : decode cX6_shareWithImages 18 = .ok (.ifCond .ge 6, 3) := by decide +kernel
theorem dX6_shareWithImages_21 : decode cX6_shareWithImages 21 = .ok (.goto 36, 3) := by decide +kernel
theorem dX6_shareWithImages_24 : decode cX6_shareWithImages 24 = .ok (.aload_n 0, 1) := by decide +kernel
theorem dX6_shareWithImages_25 : decode cX6_shareWithImages 25 = .ok (.getfield 18, 3) := by decide +kernel
theorem dX6_shareWithImages_28 : decode cX6_shareWithImages 28 = .ok (.iload_n 1, 1) := by decide +kernel
theorem dX6_shareWithImages_29 : decode cX6_shareWithImages 29 = .ok (.aload_n 0, 1) := by decide +kernel
theorem dX6_shareWithImages_30 : decode cX6_shareWithImages 30 = .ok (.iload_n 2, 1) := by decide +kernel
theorem dX6_shareWithImages_31 : decode cX6_shareWithImages 31 = .ok (.invokevirtual 144, 3) := by decide +kernel
theorem dX6_shareWithImages_34 : decode cX6_shareWithImages 34 = .ok (.iastore, 1) := by decide +kernel
theorem dX6_shareWithImages_35 : decode cX6_shareWithImages 35 = .ok (.aload_n 0, 1) := by decide +kernel
theorem dX6_shareWithImages_36 : decode cX6_shareWithImages 36 = .ok (.getfield 21, 3) := by decide +kernel
theorem dX6_shareWithImages_39 : decode cX6_shareWithImages 39 = .ok (.iload_n 1, 1) := by decide +kernel
theorem dX6_shareWithImages_40 : decode cX6_shareWithImages 40 = .ok (.aload_n 0, 1) := by decide +kernel
theorem dX6_shareWithImages_41 : decode cX6_shareWithImages 41 = .ok (.iload_n 2, 1) := by decide +kernel
theorem dX6_shareWithImages_42 : decode cX6_shareWithImages 42 = .ok (.invokevirtual 141, 3) := by decide +kernel
theorem dX6_shareWithImages_45 : decode cX6_shareWithImages 45 = .ok (.iastore, 1) := by decide +kernel
theorem dX6_shareWithImages_46 : decode cX6_shareWithImages 46 = .ok (.aload_n 0, 1) := by decide +kernel
theorem dX6_shareWithImages_47 : decode cX6_shareWithImages 47 = .ok (.getfield 24, 3) := by decide +kernel
theorem dX6_shareWithImages_50 : decode cX6_shareWithImages 50 = .ok (.iload_n 1, 1) := by decide +kernel
theorem dX6_shareWithImages_51 : decode cX6_shareWithImages 51 = .ok (.aload_n 0, 1) := by decide +kernel
theorem dX6_shareWithImages_52 : decode cX6_shareWithImages 52 = .ok (.iload_n 2, 1) := by decide +kernel
theorem dX6_shareWithImages_53 : decode cX6_shareWithImages 53 = .ok (.invokevirtual 154, 3) := by decide +kernel
theorem dX6_shareWithImages_56 : decode cX6_shareWithImages 56 = .ok (.iastore, 1) := by decide +kernel
theorem dX6_shareWithImages_57 : decode cX6_shareWithImages 57 = .ok (.iinc 1 1, 3) := by decide +kernel
theorem dX6_shareWithImages_60 : decode cX6_shareWithImages 60 = .ok (.goto (-58), 3) := by decide +kernel
theorem dX6_shareWithImages_63 : decode cX6_shareWithImages 63 = .ok (.return_, 1) := by decide +kernel
theorem dX6_isIndex_0 : decode cX6_isIndex 0 = .ok (.iload_n 1, 1) := by decide +kernel
theorem dX6_isIndex_1 : decode cX6_isIndex 1 = .ok (.ifCond .lt 22, 3) := by decide +kernel
theorem dX6_isIndex_4 : decode cX6_isIndex 4 = .ok (.iload_n 1, 1) := by decide +kernel
theorem dX6_isIndex_5 : decode cX6_isIndex 5 = .ok (.aload_n 0, 1) := by decide +kernel
theorem dX6_isIndex_6 : decode cX6_isIndex 6 = .ok (.getfield 62, 3) := by decide +kernel
theorem dX6_isIndex_9 : decode cX6_isIndex 9 = .ok (.if_icmp .ge 14, 3) := by decide +kernel
theorem dX6_isIndex_12 : decode cX6_isIndex 12 = .ok (.iload_n 1, 1) := by decide +kernel
theorem dX6_isIndex_13 : decode cX6_isIndex 13 = .ok (.sipush 4394, 3) := by decide +kernel
theorem dX6_isIndex_16 : decode cX6_isIndex 16 = .ok (.if_icmp .ge 7, 3) := by decide +kernel
theorem dX6_isIndex_19 : decode cX6_isIndex 19 = .ok (.iconst 1, 1) := by decide +kernel
theorem dX6_isIndex_20 : decode cX6_isIndex 20 = .ok (.goto 4, 3) := by decide +kernel
theorem dX6_isIndex_23 : decode cX6_isIndex 23 = .ok (.iconst 0, 1) := by decide +kernel
theorem dX6_isIndex_24 : decode cX6_isIndex 24 = .ok (.ireturn, 1) := by decide +kernel
theorem dX6_isPossible_0 : decode cX6_isPossible 0 = .ok (.aload_n 0, 1) := by decide +kernel
theorem dX6_isPossible_1 : decode cX6_isPossible 1 = .ok (.iload_n 1, 1) := by decide +kernel
theorem dX6_isPossible_2 : decode cX6_isPossible 2 = .ok (.invokevirtual 157, 3) := by decide +kernel
theorem dX6_isPossible_5 : decode cX6_isPossible 5 = .ok (.ifCond .eq 16, 3) := by decide +kernel
theorem dX6_isPossible_8 : decode cX6_isPossible 8 = .ok (.aload_n 0, 1) := by decide +kernel
theorem dX6_isPossible_9 : decode cX6_isPossible 9 = .ok (.getfield 9, 3) := by decide +kernel
theorem dX6_isPossible_12 : decode cX6_isPossible 12 = .ok (.iload_n 1, 1) := by decide +kernel
theorem dX6_isPossible_13 : decode cX6_isPossible 13 = .ok (.iaload, 1) := by decide +kernel
theorem dX6_isPossible_14 : decode cX6_isPossible 14 = .ok (.ifCond .lt 7, 3) := by decide +kernel
theorem dX6_isPossible_17 : decode cX6_isPossible 17 = .ok (.iconst 1, 1) := by decide +kernel
theorem dX6_isPossible_18 : decode cX6_isPossible 18 = .ok (.goto 4, 3) := by decide +kernel
theorem dX6_isPossible_21 : decode cX6_isPossible 21 = .ok (.iconst 0, 1) := by decide +kernel
theorem dX6_isPossible_22 : decode cX6_isPossible 22 = .ok (.ireturn, 1) := by decide +kernel
theorem dX6_canonicalOf_0 : decode cX6_canonicalOf 0 = .ok (.aload_n 0, 1) := by decide +kernel
theorem dX6_canonicalOf_1 : decode cX6_canonicalOf 1 = .ok (.iload_n 1, 1) := by decide +kernel
theorem dX6_canonicalOf_2 : decode cX6_canonicalOf 2 = .ok (.invokevirtual 157, 3) := by decide +kernel
theorem dX6_canonicalOf_5 : decode cX6_canonicalOf 5 = .ok (.ifCond .eq 12, 3) := by decide +kernel
theorem dX6_canonicalOf_8 : decode cX6_canonicalOf 8 = .ok (.aload_n 0, 1) := by decide +kernel
theorem dX6_canonicalOf_9 : decode cX6_canonicalOf 9 = .ok (.getfield 9, 3) := by decide +kernel
theorem dX6_canonicalOf_12 : decode cX6_canonicalOf 12 = .ok (.iload_n 1, 1) := by decide +kernel
theorem dX6_canonicalOf_13 : decode cX6_canonicalOf 13 = .ok (.iaload, 1) := by decide +kernel
theorem dX6_canonicalOf_14 : decode cX6_canonicalOf 14 = .ok (.goto 4, 3) := by decide +kernel
theorem dX6_canonicalOf_17 : decode cX6_canonicalOf 17 = .ok (.iconst (-1), 1) := by decide +kernel
theorem dX6_canonicalOf_18 : decode cX6_canonicalOf 18 = .ok (.ireturn, 1) := by decide +kernel
theorem dX6_valueOf_0 : decode cX6_valueOf 0 = .ok (.aload_n 0, 1) := by decide +kernel
theorem dX6_valueOf_1 : decode cX6_valueOf 1 = .ok (.iload_n 1, 1) := by decide +kernel
theorem dX6_valueOf_2 : decode cX6_valueOf 2 = .ok (.invokevirtual 157, 3) := by decide +kernel
theorem dX6_valueOf_5 : decode cX6_valueOf 5 = .ok (.ifCond .eq 12, 3) := by decide +kernel
theorem dX6_valueOf_8 : decode cX6_valueOf 8 = .ok (.aload_n 0, 1) := by decide +kernel
theorem dX6_valueOf_9 : decode cX6_valueOf 9 = .ok (.getfield 18, 3) := by decide +kernel
theorem dX6_valueOf_12 : decode cX6_valueOf 12 = .ok (.iload_n 1, 1) := by decide +kernel
theorem dX6_valueOf_13 : decode cX6_valueOf 13 = .ok (.iaload, 1) := by decide +kernel
theorem dX6_valueOf_14 : decode cX6_valueOf 14 = .ok (.goto 4, 3) := by decide +kernel
theorem dX6_valueOf_17 : decode cX6_valueOf 17 = .ok (.iconst 0, 1) := by decide +kernel
theorem dX6_valueOf_18 : decode cX6_valueOf 18 = .ok (.ireturn, 1) := by decide +kernel
theorem dX6_toEndOf_0 : decode cX6_toEndOf 0 = .ok (.aload_n 0, 1) := by decide +kernel
theorem dX6_toEndOf_1 : decode cX6_toEndOf 1 = .ok (.iload_n 1, 1) := by decide +kernel
theorem dX6_toEndOf_2 : decode cX6_toEndOf 2 = .ok (.invokevirtual 157, 3) := by decide +kernel
theorem dX6_toEndOf_5 : decode cX6_toEndOf 5 = .ok (.ifCond .eq 12, 3) := by decide +kernel
theorem dX6_toEndOf_8 : decode cX6_toEndOf 8 = .ok (.aload_n 0, 1) := by decide +kernel
theorem dX6_toEndOf_9 : decode cX6_toEndOf 9 = .ok (.getfield 21, 3) := by decide +kernel
theorem dX6_toEndOf_12 : decode cX6_toEndOf 12 = .ok (.iload_n 1, 1) := by decide +kernel
theorem dX6_toEndOf_13 : decode cX6_toEndOf 13 = .ok (.iaload, 1) := by decide +kernel
theorem dX6_toEndOf_14 : decode cX6_toEndOf 14 = .ok (.goto 5, 3) := by decide +kernel
theorem dX6_toEndOf_17 : decode cX6_toEndOf 17 = .ok (.bipush (-5), 2) := by decide +kernel
theorem dX6_toEndOf_19 : decode cX6_toEndOf 19 = .ok (.ireturn, 1) := by decide +kernel
theorem dX6_toConversionOf_0 : decode cX6_toConversionOf 0 = .ok (.aload_n 0, 1) := by decide +kernel
theorem dX6_toConversionOf_1 : decode cX6_toConversionOf 1 = .ok (.iload_n 1, 1) := by decide +kernel
theorem dX6_toConversionOf_2 : decode cX6_toConversionOf 2 = .ok (.invokevirtual 157, 3) := by decide +kernel
theorem dX6_toConversionOf_5 : decode cX6_toConversionOf 5 = .ok (.ifCond .eq 12, 3) := by decide +kernel
theorem dX6_toConversionOf_8 : decode cX6_toConversionOf 8 = .ok (.aload_n 0, 1) := by decide +kernel
theorem dX6_toConversionOf_9 : decode cX6_toConversionOf 9 = .ok (.getfield 24, 3) := by decide +kernel
theorem dX6_toConversionOf_12 : decode cX6_toConversionOf 12 = .ok (.iload_n 1, 1) := by decide +kernel
theorem dX6_toConversionOf_13 : decode cX6_toConversionOf 13 = .ok (.iaload, 1) := by decide +kernel
theorem dX6_toConversionOf_14 : decode cX6_toConversionOf 14 = .ok (.goto 5, 3) := by decide +kernel
theorem dX6_toConversionOf_17 : decode cX6_toConversionOf 17 = .ok (.bipush (-5), 2) := by decide +kernel
theorem dX6_toConversionOf_19 : decode cX6_toConversionOf 19 = .ok (.ireturn, 1) := by decide +kernel
theorem dX6_distanceOf_0 : decode cX6_distanceOf 0 = .ok (.iload_n 1, 1) := by decide +kernel
theorem dX6_distanceOf_1 : decode cX6_distanceOf 1 = .ok (.ifCond .ne 11, 3) := by decide +kernel
theorem dX6_distanceOf_4 : decode cX6_distanceOf 4 = .ok (.aload_n 0, 1) := by decide +kernel
theorem dX6_distanceOf_5 : decode cX6_distanceOf 5 = .ok (.iload_n 2, 1) := by decide +kernel
theorem dX6_distanceOf_6 : decode cX6_distanceOf 6 = .ok (.invokevirtual 141, 3) := by decide +kernel
theorem dX6_distanceOf_9 : decode cX6_distanceOf 9 = .ok (.goto 8, 3) := by decide +kernel
theorem dX6_distanceOf_12 : decode cX6_distanceOf 12 = .ok (.aload_n 0, 1) := by decide +kernel
theorem dX6_distanceOf_13 : decode cX6_distanceOf 13 = .ok (.iload_n 2, 1) := by decide +kernel
theorem dX6_distanceOf_14 : decode cX6_distanceOf 14 = .ok (.invokevirtual 154, 3) := by decide +kernel
theorem dX6_distanceOf_17 : decode cX6_distanceOf 17 = .ok (.ireturn, 1) := by decide +kernel
theorem dX6_verdictOf_0 : decode cX6_verdictOf 0 = .ok (.aload_n 0, 1) := by decide +kernel
theorem dX6_verdictOf_1 : decode cX6_verdictOf 1 = .ok (.getfield 36, 3) := by decide +kernel
theorem dX6_verdictOf_4 : decode cX6_verdictOf 4 = .ok (.getfield 160, 3) := by decide +kernel
theorem dX6_verdictOf_7 : decode cX6_verdictOf 7 = .ok (.ifCond .lt 20, 3) := by decide +kernel
theorem dX6_verdictOf_10 : decode cX6_verdictOf 10 = .ok (.aload_n 0, 1) := by decide +kernel
theorem dX6_verdictOf_11 : decode cX6_verdictOf 11 = .ok (.iload_n 1, 1) := by decide +kernel
theorem dX6_verdictOf_12 : decode cX6_verdictOf 12 = .ok (.invokevirtual 154, 3) := by decide +kernel
theorem dX6_verdictOf_15 : decode cX6_verdictOf 15 = .ok (.aload_n 0, 1) := by decide +kernel
theorem dX6_verdictOf_16 : decode cX6_verdictOf 16 = .ok (.getfield 36, 3) := by decide +kernel
theorem dX6_verdictOf_19 : decode cX6_verdictOf 19 = .ok (.getfield 160, 3) := by decide +kernel
theorem dX6_verdictOf_22 : decode cX6_verdictOf 22 = .ok (.if_icmp .le 5, 3) := by decide +kernel
theorem dX6_verdictOf_25 : decode cX6_verdictOf 25 = .ok (.iconst 0, 1) := by decide +kernel
theorem dX6_verdictOf_26 : decode cX6_verdictOf 26 = .ok (.ireturn, 1) := by decide +kernel
theorem dX6_verdictOf_27 : decode cX6_verdictOf 27 = .ok (.aload_n 0, 1) := by decide +kernel
theorem dX6_verdictOf_28 : decode cX6_verdictOf 28 = .ok (.iload_n 1, 1) := by decide +kernel
theorem dX6_verdictOf_29 : decode cX6_verdictOf 29 = .ok (.invokevirtual 144, 3) := by decide +kernel
theorem dX6_verdictOf_32 : decode cX6_verdictOf 32 = .ok (.ireturn, 1) := by decide +kernel
theorem dX6_isRoyalAttacked_0 : decode cX6_isRoyalAttacked 0 = .ok (.aload_n 0, 1) := by decide +kernel
theorem dX6_isRoyalAttacked_1 : decode cX6_isRoyalAttacked 1 = .ok (.getfield 52, 3) := by decide +kernel
theorem dX6_isRoyalAttacked_4 : decode cX6_isRoyalAttacked 4 = .ok (.iload_n 1, 1) := by decide +kernel
theorem dX6_isRoyalAttacked_5 : decode cX6_isRoyalAttacked 5 = .ok (.invokevirtual 85, 3) := by decide +kernel
theorem dX6_isRoyalAttacked_8 : decode cX6_isRoyalAttacked 8 = .ok (.aload_n 0, 1) := by decide +kernel
theorem dX6_isRoyalAttacked_9 : decode cX6_isRoyalAttacked 9 = .ok (.getfield 52, 3) := by decide +kernel
theorem dX6_isRoyalAttacked_12 : decode cX6_isRoyalAttacked 12 = .ok (.iload_n 1, 1) := by decide +kernel
theorem dX6_isRoyalAttacked_13 : decode cX6_isRoyalAttacked 13 = .ok (.iconst 1, 1) := by decide +kernel
theorem dX6_isRoyalAttacked_14 : decode cX6_isRoyalAttacked 14 = .ok (.iand, 1) := by decide +kernel
theorem dX6_isRoyalAttacked_15 : decode cX6_isRoyalAttacked 15 = .ok (.invokevirtual 163, 3) := by decide +kernel
theorem dX6_isRoyalAttacked_18 : decode cX6_isRoyalAttacked 18 = .ok (.ireturn, 1) := by decide +kernel
theorem dX6_stepsOf_0 : decode cX6_stepsOf 0 = .ok (.aload_n 0, 1) := by decide +kernel
theorem dX6_stepsOf_1 : decode cX6_stepsOf 1 = .ok (.iload_n 1, 1) := by decide +kernel
theorem dX6_stepsOf_2 : decode cX6_stepsOf 2 = .ok (.invokevirtual 157, 3) := by decide +kernel
theorem dX6_stepsOf_5 : decode cX6_stepsOf 5 = .ok (.ifCond .eq 21, 3) := by decide +kernel
theorem dX6_stepsOf_8 : decode cX6_stepsOf 8 = .ok (.aload_n 0, 1) := by decide +kernel
theorem dX6_stepsOf_9 : decode cX6_stepsOf 9 = .ok (.getfield 27, 3) := by decide +kernel
theorem dX6_stepsOf_12 : decode cX6_stepsOf 12 = .ok (.iload_n 1, 1) := by decide +kernel
theorem dX6_stepsOf_13 : decode cX6_stepsOf 13 = .ok (.iconst 1, 1) := by decide +kernel
theorem dX6_stepsOf_14 : decode cX6_stepsOf 14 = .ok (.iadd, 1) := by decide +kernel
theorem dX6_stepsOf_15 : decode cX6_stepsOf 15 = .ok (.iaload, 1) := by decide +kernel
theorem dX6_stepsOf_16 : decode cX6_stepsOf 16 = .ok (.aload_n 0, 1) := by decide +kernel
theorem dX6_stepsOf_17 : decode cX6_stepsOf 17 = .ok (.getfield 27, 3) := by decide +kernel
theorem dX6_stepsOf_20 : decode cX6_stepsOf 20 = .ok (.iload_n 1, 1) := by decide +kernel
theorem dX6_stepsOf_21 : decode cX6_stepsOf 21 = .ok (.iaload, 1) := by decide +kernel
theorem dX6_stepsOf_22 : decode cX6_stepsOf 22 = .ok (.isub, 1) := by decide +kernel
theorem dX6_stepsOf_23 : decode cX6_stepsOf 23 = .ok (.goto 4, 3) := by decide +kernel
theorem dX6_stepsOf_26 : decode cX6_stepsOf 26 = .ok (.iconst 0, 1) := by decide +kernel
theorem dX6_stepsOf_27 : decode cX6_stepsOf 27 = .ok (.ireturn, 1) := by decide +kernel
theorem dX6_isEnd_0 : decode cX6_isEnd 0 = .ok (.aload_n 0, 1) := by decide +kernel
theorem dX6_isEnd_1 : decode cX6_isEnd 1 = .ok (.iload_n 1, 1) := by decide +kernel
theorem dX6_isEnd_2 : decode cX6_isEnd 2 = .ok (.invokevirtual 166, 3) := by decide +kernel
theorem dX6_isEnd_5 : decode cX6_isEnd 5 = .ok (.ifCond .ne 7, 3) := by decide +kernel
theorem dX6_isEnd_8 : decode cX6_isEnd 8 = .ok (.iconst 1, 1) := by decide +kernel
theorem dX6_isEnd_9 : decode cX6_isEnd 9 = .ok (.goto 4, 3) := by decide +kernel
theorem dX6_isEnd_12 : decode cX6_isEnd 12 = .ok (.iconst 0, 1) := by decide +kernel
theorem dX6_isEnd_13 : decode cX6_isEnd 13 = .ok (.ireturn, 1) := by decide +kernel
theorem dX6_stepOf_0 : decode cX6_stepOf 0 = .ok (.iload_n 2, 1) := by decide +kernel
theorem dX6_stepOf_1 : decode cX6_stepOf 1 = .ok (.ifCond .lt 12, 3) := by decide +kernel
theorem dX6_stepOf_4 : decode cX6_stepOf 4 = .ok (.iload_n 2, 1) := by decide +kernel
theorem dX6_stepOf_5 : decode cX6_stepOf 5 = .ok (.aload_n 0, 1) := by decide +kernel
theorem dX6_stepOf_6 : decode cX6_stepOf 6 = .ok (.iload_n 1, 1) := by decide +kernel
theorem dX6_stepOf_7 : decode cX6_stepOf 7 = .ok (.invokevirtual 166, 3) := by decide +kernel
theorem dX6_stepOf_10 : decode cX6_stepOf 10 = .ok (.if_icmp .lt 5, 3) := by decide +kernel
theorem dX6_stepOf_13 : decode cX6_stepOf 13 = .ok (.iconst (-1), 1) := by decide +kernel
theorem dX6_stepOf_14 : decode cX6_stepOf 14 = .ok (.ireturn, 1) := by decide +kernel
theorem dX6_stepOf_15 : decode cX6_stepOf 15 = .ok (.aload_n 0, 1) := by decide +kernel
theorem dX6_stepOf_16 : decode cX6_stepOf 16 = .ok (.getfield 27, 3) := by decide +kernel
theorem dX6_stepOf_19 : decode cX6_stepOf 19 = .ok (.iload_n 1, 1) := by decide +kernel
theorem dX6_stepOf_20 : decode cX6_stepOf 20 = .ok (.iaload, 1) := by decide +kernel
theorem dX6_stepOf_21 : decode cX6_stepOf 21 = .ok (.iload_n 2, 1) := by decide +kernel
theorem dX6_stepOf_22 : decode cX6_stepOf 22 = .ok (.iadd, 1) := by decide +kernel
theorem dX6_stepOf_23 : decode cX6_stepOf 23 = .ok (.istore_n 3, 1) := by decide +kernel
theorem dX6_stepOf_24 : decode cX6_stepOf 24 = .ok (.iload_n 3, 1) := by decide +kernel
theorem dX6_stepOf_25 : decode cX6_stepOf 25 = .ok (.ifCond .lt 21, 3) := by decide +kernel
theorem dX6_stepOf_28 : decode cX6_stepOf 28 = .ok (.iload_n 3, 1) := by decide +kernel
theorem dX6_stepOf_29 : decode cX6_stepOf 29 = .ok (.aload_n 0, 1) := by decide +kernel
theorem dX6_stepOf_30 : decode cX6_stepOf 30 = .ok (.getfield 30, 3) := by decide +kernel
theorem dX6_stepOf_33 : decode cX6_stepOf 33 = .ok (.arraylength, 1) := by decide +kernel
theorem dX6_stepOf_34 : decode cX6_stepOf 34 = .ok (.if_icmp .ge 12, 3) := by decide +kernel
theorem dX6_stepOf_37 : decode cX6_stepOf 37 = .ok (.aload_n 0, 1) := by decide +kernel
theorem dX6_stepOf_38 : decode cX6_stepOf 38 = .ok (.getfield 30, 3) := by decide +kernel
theorem dX6_stepOf_41 : decode cX6_stepOf 41 = .ok (.iload_n 3, 1) := by decide +kernel
theorem dX6_stepOf_42 : decode cX6_stepOf 42 = .ok (.iaload, 1) := by decide +kernel
theorem dX6_stepOf_43 : decode cX6_stepOf 43 = .ok (.goto 4, 3) := by decide +kernel
theorem dX6_stepOf_46 : decode cX6_stepOf 46 = .ok (.iconst (-1), 1) := by decide +kernel
theorem dX6_stepOf_47 : decode cX6_stepOf 47 = .ok (.ireturn, 1) := by decide +kernel
theorem dX6_captures_0 : decode cX6_captures 0 = .ok (.aload_n 0, 1) := by decide +kernel
theorem dX6_captures_1 : decode cX6_captures 1 = .ok (.iload_n 1, 1) := by decide +kernel
theorem dX6_captures_2 : decode cX6_captures 2 = .ok (.invokevirtual 157, 3) := by decide +kernel
theorem dX6_captures_5 : decode cX6_captures 5 = .ok (.ifCond .eq 30, 3) := by decide +kernel
theorem dX6_captures_8 : decode cX6_captures 8 = .ok (.aload_n 0, 1) := by decide +kernel
theorem dX6_captures_9 : decode cX6_captures 9 = .ok (.iload_n 2, 1) := by decide +kernel
theorem dX6_captures_10 : decode cX6_captures 10 = .ok (.invokevirtual 157, 3) := by decide +kernel
theorem dX6_captures_13 : decode cX6_captures 13 = .ok (.ifCond .eq 22, 3) := by decide +kernel
theorem dX6_captures_16 : decode cX6_captures 16 = .ok (.aload_n 0, 1) := by decide +kernel
theorem dX6_captures_17 : decode cX6_captures 17 = .ok (.getfield 15, 3) := by decide +kernel
theorem dX6_captures_20 : decode cX6_captures 20 = .ok (.iload_n 2, 1) := by decide +kernel
theorem dX6_captures_21 : decode cX6_captures 21 = .ok (.iaload, 1) := by decide +kernel
theorem dX6_captures_22 : decode cX6_captures 22 = .ok (.aload_n 0, 1) := by decide +kernel
theorem dX6_captures_23 : decode cX6_captures 23 = .ok (.getfield 15, 3) := by decide +kernel
theorem dX6_captures_26 : decode cX6_captures 26 = .ok (.iload_n 1, 1) := by decide +kernel
theorem dX6_captures_27 : decode cX6_captures 27 = .ok (.iaload, 1) := by decide +kernel
theorem dX6_captures_28 : decode cX6_captures 28 = .ok (.if_icmp .le 7, 3) := by decide +kernel
theorem dX6_captures_31 : decode cX6_captures 31 = .ok (.iconst 1, 1) := by decide +kernel
theorem dX6_captures_32 : decode cX6_captures 32 = .ok (.goto 4, 3) := by decide +kernel
theorem dX6_captures_35 : decode cX6_captures 35 = .ok (.iconst 0, 1) := by decide +kernel
theorem dX6_captures_36 : decode cX6_captures 36 = .ok (.ireturn, 1) := by decide +kernel
theorem dX6_bestStep_0 : decode cX6_bestStep 0 = .ok (.aload_n 0, 1) := by decide +kernel
theorem dX6_bestStep_1 : decode cX6_bestStep 1 = .ok (.iload_n 1, 1) := by decide +kernel
theorem dX6_bestStep_2 : decode cX6_bestStep 2 = .ok (.invokevirtual 144, 3) := by decide +kernel
theorem dX6_bestStep_5 : decode cX6_bestStep 5 = .ok (.istore_n 2, 1) := by decide +kernel
theorem dX6_bestStep_6 : decode cX6_bestStep 6 = .ok (.iconst (-1), 1) := by decide +kernel
theorem dX6_bestStep_7 : decode cX6_bestStep 7 = .ok (.istore_n 3, 1) := by decide +kernel
theorem dX6_bestStep_8 : decode cX6_bestStep 8 = .ok (.iconst 0, 1) := by decide +kernel
theorem dX6_bestStep_9 : decode cX6_bestStep 9 = .ok (.istore 4, 2) := by decide +kernel
theorem dX6_bestStep_11 : decode cX6_bestStep 11 = .ok (.iconst 0, 1) := by decide +kernel
theorem dX6_bestStep_12 : decode cX6_bestStep 12 = .ok (.istore 5, 2) := by decide +kernel
theorem dX6_bestStep_14 : decode cX6_bestStep 14 = .ok (.iload 5, 2) := by decide +kernel
theorem dX6_bestStep_16 : decode cX6_bestStep 16 = .ok (.aload_n 0, 1) := by decide +kernel
theorem dX6_bestStep_17 : decode cX6_bestStep 17 = .ok (.iload_n 1, 1) := by decide +kernel
theorem dX6_bestStep_18 : decode cX6_bestStep 18 = .ok (.invokevirtual 166, 3) := by decide +kernel
theorem dX6_bestStep_21 : decode cX6_bestStep 21 = .ok (.if_icmp .ge 68, 3) := by decide +kernel
theorem dX6_bestStep_24 : decode cX6_bestStep 24 = .ok (.aload_n 0, 1) := by decide +kernel
theorem dX6_bestStep_25 : decode cX6_bestStep 25 = .ok (.iload_n 1, 1) := by decide +kernel
theorem dX6_bestStep_26 : decode cX6_bestStep 26 = .ok (.iload 5, 2) := by decide +kernel
theorem dX6_bestStep_28 : decode cX6_bestStep 28 = .ok (.invokevirtual 169, 3) := by decide +kernel
theorem dX6_bestStep_31 : decode cX6_bestStep 31 = .ok (.istore 6, 2) := by decide +kernel
theorem dX6_bestStep_33 : decode cX6_bestStep 33 = .ok (.aload_n 0, 1) := by decide +kernel
theorem dX6_bestStep_34 : decode cX6_bestStep 34 = .ok (.iload 6, 2) := by decide +kernel
theorem dX6_bestStep_36 : decode cX6_bestStep 36 = .ok (.invokevirtual 144, 3) := by decide +kernel
theorem dX6_bestStep_39 : decode cX6_bestStep 39 = .ok (.iload_n 2, 1) := by decide +kernel
theorem dX6_bestStep_40 : decode cX6_bestStep 40 = .ok (.ineg, 1) := by decide +kernel
theorem dX6_bestStep_41 : decode cX6_bestStep 41 = .ok (.if_icmp .eq 6, 3) := by decide +kernel
theorem dX6_bestStep_44 : decode cX6_bestStep 44 = .ok (.goto 39, 3) := by decide +kernel
theorem dX6_bestStep_47 : decode cX6_bestStep 47 = .ok (.iload_n 2, 1) := by decide +kernel
theorem dX6_bestStep_48 : decode cX6_bestStep 48 = .ok (.iload 4, 2) := by decide +kernel
theorem dX6_bestStep_50 : decode cX6_bestStep 50 = .ok (.aload_n 0, 1) := by decide +kernel
theorem dX6_bestStep_51 : decode cX6_bestStep 51 = .ok (.iload 6, 2) := by decide +kernel
theorem dX6_bestStep_53 : decode cX6_bestStep 53 = .ok (.invokevirtual 141, 3) := by decide +kernel
theorem dX6_bestStep_56 : decode cX6_bestStep 56 = .ok (.isub, 1) := by decide +kernel
theorem dX6_bestStep_57 : decode cX6_bestStep 57 = .ok (.imul, 1) := by decide +kernel
theorem dX6_bestStep_58 : decode cX6_bestStep 58 = .ok (.istore 7, 2) := by decide +kernel
theorem dX6_bestStep_60 : decode cX6_bestStep 60 = .ok (.iload_n 3, 1) := by decide +kernel
theorem dX6_bestStep_61 : decode cX6_bestStep 61 = .ok (.ifCond .lt 11, 3) := by decide +kernel
theorem dX6_bestStep_64 : decode cX6_bestStep 64 = .ok (.iload 7, 2) := by decide +kernel
theorem dX6_bestStep_66 : decode cX6_bestStep 66 = .ok (.ifCond .gt 6, 3) := by decide +kernel
theorem dX6_bestStep_69 : decode cX6_bestStep 69 = .ok (.goto 14, 3) := by decide +kernel
theorem dX6_bestStep_72 : decode cX6_bestStep 72 = .ok (.iload 5, 2) := by decide +kernel
theorem dX6_bestStep_74 : decode cX6_bestStep 74 = .ok (.istore_n 3, 1) := by decide +kernel
theorem dX6_bestStep_75 : decode cX6_bestStep 75 = .ok (.aload_n 0, 1) := by decide +kernel
theorem dX6_bestStep_76 : decode cX6_bestStep 76 = .ok (.iload 6, 2) := by decide +kernel
theorem dX6_bestStep_78 : decode cX6_bestStep 78 = .ok (.invokevirtual 141, 3) := by decide +kernel
theorem dX6_bestStep_81 : decode cX6_bestStep 81 = .ok (.istore 4, 2) := by decide +kernel
theorem dX6_bestStep_83 : decode cX6_bestStep 83 = .ok (.iinc 5 1, 3) := by decide +kernel
theorem dX6_bestStep_86 : decode cX6_bestStep 86 = .ok (.goto (-72), 3) := by decide +kernel
theorem dX6_bestStep_89 : decode cX6_bestStep 89 = .ok (.iload_n 3, 1) := by decide +kernel
theorem dX6_bestStep_90 : decode cX6_bestStep 90 = .ok (.ireturn, 1) := by decide +kernel
theorem dX6_followBest_0 : decode cX6_followBest 0 = .ok (.aload_n 0, 1) := by decide +kernel
theorem dX6_followBest_1 : decode cX6_followBest 1 = .ok (.getfield 33, 3) := by decide +kernel
theorem dX6_followBest_4 : decode cX6_followBest 4 = .ok (.iconst 0, 1) := by decide +kernel
theorem dX6_followBest_5 : decode cX6_followBest 5 = .ok (.iload_n 1, 1) := by decide +kernel
theorem dX6_followBest_6 : decode cX6_followBest 6 = .ok (.iastore, 1) := by decide +kernel
theorem dX6_followBest_7 : decode cX6_followBest 7 = .ok (.iconst 0, 1) := by decide +kernel
theorem dX6_followBest_8 : decode cX6_followBest 8 = .ok (.istore_n 2, 1) := by decide +kernel
theorem dX6_followBest_9 : decode cX6_followBest 9 = .ok (.iload_n 2, 1) := by decide +kernel
theorem dX6_followBest_10 : decode cX6_followBest 10 = .ok (.bipush 60, 2) := by decide +kernel
theorem dX6_followBest_12 : decode cX6_followBest 12 = .ok (.if_icmp .ge 61, 3) := by decide +kernel
theorem dX6_followBest_15 : decode cX6_followBest 15 = .ok (.aload_n 0, 1) := by decide +kernel
theorem dX6_followBest_16 : decode cX6_followBest 16 = .ok (.aload_n 0, 1) := by decide +kernel
theorem dX6_followBest_17 : decode cX6_followBest 17 = .ok (.getfield 33, 3) := by decide +kernel
theorem dX6_followBest_20 : decode cX6_followBest 20 = .ok (.iload_n 2, 1) := by decide +kernel
theorem dX6_followBest_21 : decode cX6_followBest 21 = .ok (.iaload, 1) := by decide +kernel
theorem dX6_followBest_22 : decode cX6_followBest 22 = .ok (.invokevirtual 172, 3) := by decide +kernel
theorem dX6_followBest_25 : decode cX6_followBest 25 = .ok (.istore_n 3, 1) := by decide +kernel
theorem dX6_followBest_26 : decode cX6_followBest 26 = .ok (.iload_n 3, 1) := by decide +kernel
theorem dX6_followBest_27 : decode cX6_followBest 27 = .ok (.ifCond .ge 5, 3) := by decide +kernel
theorem dX6_followBest_30 : decode cX6_followBest 30 = .ok (.iload_n 2, 1) := by decide +kernel
theorem dX6_followBest_31 : decode cX6_followBest 31 = .ok (.ireturn, 1) := by decide +kernel
theorem dX6_followBest_32 : decode cX6_followBest 32 = .ok (.aload_n 0, 1) := by decide +kernel
theorem dX6_followBest_33 : decode cX6_followBest 33 = .ok (.aload_n 0, 1) := by decide +kernel
theorem dX6_followBest_34 : decode cX6_followBest 34 = .ok (.getfield 33, 3) := by decide +kernel
theorem dX6_followBest_37 : decode cX6_followBest 37 = .ok (.iload_n 2, 1) := by decide +kernel
theorem dX6_followBest_38 : decode cX6_followBest 38 = .ok (.iaload, 1) := by decide +kernel
theorem dX6_followBest_39 : decode cX6_followBest 39 = .ok (.iload_n 3, 1) := by decide +kernel
theorem dX6_followBest_40 : decode cX6_followBest 40 = .ok (.invokevirtual 169, 3) := by decide +kernel
theorem dX6_followBest_43 : decode cX6_followBest 43 = .ok (.istore 4, 2) := by decide +kernel
theorem dX6_followBest_45 : decode cX6_followBest 45 = .ok (.aload_n 0, 1) := by decide +kernel
theorem dX6_followBest_46 : decode cX6_followBest 46 = .ok (.iload 4, 2) := by decide +kernel
theorem dX6_followBest_48 : decode cX6_followBest 48 = .ok (.iload_n 2, 1) := by decide +kernel
theorem dX6_followBest_49 : decode cX6_followBest 49 = .ok (.invokevirtual 175, 3) := by decide +kernel
theorem dX6_followBest_52 : decode cX6_followBest 52 = .ok (.ifCond .eq 5, 3) := by decide +kernel
theorem dX6_followBest_55 : decode cX6_followBest 55 = .ok (.iload_n 2, 1) := by decide +kernel
theorem dX6_followBest_56 : decode cX6_followBest 56 = .ok (.ireturn, 1) := by decide +kernel
theorem dX6_followBest_57 : decode cX6_followBest 57 = .ok (.aload_n 0, 1) := by decide +kernel
theorem dX6_followBest_58 : decode cX6_followBest 58 = .ok (.getfield 33, 3) := by decide +kernel
theorem dX6_followBest_61 : decode cX6_followBest 61 = .ok (.iload_n 2, 1) := by decide +kernel
theorem dX6_followBest_62 : decode cX6_followBest 62 = .ok (.iconst 1, 1) := by decide +kernel
theorem dX6_followBest_63 : decode cX6_followBest 63 = .ok (.iadd, 1) := by decide +kernel
theorem dX6_followBest_64 : decode cX6_followBest 64 = .ok (.iload 4, 2) := by decide +kernel
theorem dX6_followBest_66 : decode cX6_followBest 66 = .ok (.iastore, 1) := by decide +kernel
theorem dX6_followBest_67 : decode cX6_followBest 67 = .ok (.iinc 2 1, 3) := by decide +kernel
theorem dX6_followBest_70 : decode cX6_followBest 70 = .ok (.goto (-61), 3) := by decide +kernel
theorem dX6_followBest_73 : decode cX6_followBest 73 = .ok (.bipush 60, 2) := by decide +kernel
theorem dX6_followBest_75 : decode cX6_followBest 75 = .ok (.ireturn, 1) := by decide +kernel
theorem dX6_isFollowed_0 : decode cX6_isFollowed 0 = .ok (.iconst 0, 1) := by decide +kernel
theorem dX6_isFollowed_1 : decode cX6_isFollowed 1 = .ok (.istore_n 3, 1) := by decide +kernel
theorem dX6_isFollowed_2 : decode cX6_isFollowed 2 = .ok (.iload_n 3, 1) := by decide +kernel
theorem dX6_isFollowed_3 : decode cX6_isFollowed 3 = .ok (.iload_n 2, 1) := by decide +kernel
theorem dX6_isFollowed_4 : decode cX6_isFollowed 4 = .ok (.if_icmp .gt 30, 3) := by decide +kernel
theorem dX6_isFollowed_7 : decode cX6_isFollowed 7 = .ok (.iload_n 3, 1) := by decide +kernel
theorem dX6_isFollowed_8 : decode cX6_isFollowed 8 = .ok (.aload_n 0, 1) := by decide +kernel
theorem dX6_isFollowed_9 : decode cX6_isFollowed 9 = .ok (.getfield 33, 3) := by decide +kernel
theorem dX6_isFollowed_12 : decode cX6_isFollowed 12 = .ok (.arraylength, 1) := by decide +kernel
theorem dX6_isFollowed_13 : decode cX6_isFollowed 13 = .ok (.if_icmp .ge 21, 3) := by decide +kernel
theorem dX6_isFollowed_16 : decode cX6_isFollowed 16 = .ok (.aload_n 0, 1) := by decide +kernel
theorem dX6_isFollowed_17 : decode cX6_isFollowed 17 = .ok (.getfield 33, 3) := by decide +kernel
theorem dX6_isFollowed_20 : decode cX6_isFollowed 20 = .ok (.iload_n 3, 1) := by decide +kernel
theorem dX6_isFollowed_21 : decode cX6_isFollowed 21 = .ok (.iaload, 1) := by decide +kernel
theorem dX6_isFollowed_22 : decode cX6_isFollowed 22 = .ok (.iload_n 1, 1) := by decide +kernel
theorem dX6_isFollowed_23 : decode cX6_isFollowed 23 = .ok (.if_icmp .ne 5, 3) := by decide +kernel
theorem dX6_isFollowed_26 : decode cX6_isFollowed 26 = .ok (.iconst 1, 1) := by decide +kernel
theorem dX6_isFollowed_27 : decode cX6_isFollowed 27 = .ok (.ireturn, 1) := by decide +kernel
theorem dX6_isFollowed_28 : decode cX6_isFollowed 28 = .ok (.iinc 3 1, 3) := by decide +kernel
theorem dX6_isFollowed_31 : decode cX6_isFollowed 31 = .ok (.goto (-29), 3) := by decide +kernel
theorem dX6_isFollowed_34 : decode cX6_isFollowed 34 = .ok (.iconst 0, 1) := by decide +kernel
theorem dX6_isFollowed_35 : decode cX6_isFollowed 35 = .ok (.ireturn, 1) := by decide +kernel
theorem dX6_followed_0 : decode cX6_followed 0 = .ok (.iload_n 1, 1) := by decide +kernel
theorem dX6_followed_1 : decode cX6_followed 1 = .ok (.ifCond .lt 21, 3) := by decide +kernel
theorem dX6_followed_4 : decode cX6_followed 4 = .ok (.iload_n 1, 1) := by decide +kernel
theorem dX6_followed_5 : decode cX6_followed 5 = .ok (.aload_n 0, 1) := by decide +kernel
theorem dX6_followed_6 : decode cX6_followed 6 = .ok (.getfield 33, 3) := by decide +kernel
theorem dX6_followed_9 : decode cX6_followed 9 = .ok (.arraylength, 1) := by decide +kernel
theorem dX6_followed_10 : decode cX6_followed 10 = .ok (.if_icmp .ge 12, 3) := by decide +kernel
theorem dX6_followed_13 : decode cX6_followed 13 = .ok (.aload_n 0, 1) := by decide +kernel
theorem dX6_followed_14 : decode cX6_followed 14 = .ok (.getfield 33, 3) := by decide +kernel
theorem dX6_followed_17 : decode cX6_followed 17 = .ok (.iload_n 1, 1) := by decide +kernel
theorem dX6_followed_18 : decode cX6_followed 18 = .ok (.iaload, 1) := by decide +kernel
theorem dX6_followed_19 : decode cX6_followed 19 = .ok (.goto 4, 3) := by decide +kernel
theorem dX6_followed_22 : decode cX6_followed 22 = .ok (.iconst (-1), 1) := by decide +kernel
theorem dX6_followed_23 : decode cX6_followed 23 = .ok (.ireturn, 1) := by decide +kernel
theorem dX6_searched_0 : decode cX6_searched 0 = .ok (.aload_n 0, 1) := by decide +kernel
theorem dX6_searched_1 : decode cX6_searched 1 = .ok (.iload_n 1, 1) := by decide +kernel
theorem dX6_searched_2 : decode cX6_searched 2 = .ok (.invokevirtual 123, 3) := by decide +kernel
theorem dX6_searched_5 : decode cX6_searched 5 = .ok (.ifCond .eq 9, 3) := by decide +kernel
theorem dX6_searched_8 : decode cX6_searched 8 = .ok (.aload_n 0, 1) := by decide +kernel
theorem dX6_searched_9 : decode cX6_searched 9 = .ok (.iload_n 1, 1) := by decide +kernel
theorem dX6_searched_10 : decode cX6_searched 10 = .ok (.invokevirtual 126, 3) := by decide +kernel
theorem dX6_searched_13 : decode cX6_searched 13 = .ok (.ireturn, 1) := by decide +kernel
theorem dX6_searched_14 : decode cX6_searched 14 = .ok (.iload_n 2, 1) := by decide +kernel
theorem dX6_searched_15 : decode cX6_searched 15 = .ok (.ifCond .le 8, 3) := by decide +kernel
theorem dX6_searched_18 : decode cX6_searched 18 = .ok (.iload_n 2, 1) := by decide +kernel
theorem dX6_searched_19 : decode cX6_searched 19 = .ok (.iconst 4, 1) := by decide +kernel
theorem dX6_searched_20 : decode cX6_searched 20 = .ok (.if_icmp .le 5, 3) := by decide +kernel
theorem dX6_searched_23 : decode cX6_searched 23 = .ok (.iconst 0, 1) := by decide +kernel
theorem dX6_searched_24 : decode cX6_searched 24 = .ok (.ireturn, 1) := by decide +kernel
theorem dX6_searched_25 : decode cX6_searched 25 = .ok (.iconst (-1), 1) := by decide +kernel
theorem dX6_searched_26 : decode cX6_searched 26 = .ok (.istore_n 3, 1) := by decide +kernel
theorem dX6_searched_27 : decode cX6_searched 27 = .ok (.iconst 0, 1) := by decide +kernel
theorem dX6_searched_28 : decode cX6_searched 28 = .ok (.istore 4, 2) := by decide +kernel
theorem dX6_searched_30 : decode cX6_searched 30 = .ok (.iload_n 3, 1) := by decide +kernel
theorem dX6_searched_31 : decode cX6_searched 31 = .ok (.iconst 1, 1) := by decide +kernel
theorem dX6_searched_32 : decode cX6_searched 32 = .ok (.if_icmp .ge 39, 3) := by decide +kernel
theorem dX6_searched_35 : decode cX6_searched 35 = .ok (.iload 4, 2) := by decide +kernel
theorem dX6_searched_37 : decode cX6_searched 37 = .ok (.aload_n 0, 1) := by decide +kernel
theorem dX6_searched_38 : decode cX6_searched 38 = .ok (.iload_n 1, 1) := by decide +kernel
theorem dX6_searched_39 : decode cX6_searched 39 = .ok (.invokevirtual 166, 3) := by decide +kernel
theorem dX6_searched_42 : decode cX6_searched 42 = .ok (.if_icmp .ge 29, 3) := by decide +kernel
theorem dX6_searched_45 : decode cX6_searched 45 = .ok (.iload_n 3, 1) := by decide +kernel
theorem dX6_searched_46 : decode cX6_searched 46 = .ok (.aload_n 0, 1) := by decide +kernel
theorem dX6_searched_47 : decode cX6_searched 47 = .ok (.aload_n 0, 1) := by decide +kernel
theorem dX6_searched_48 : decode cX6_searched 48 = .ok (.iload_n 1, 1) := by decide +kernel
theorem dX6_searched_49 : decode cX6_searched 49 = .ok (.iload 4, 2) := by decide +kernel
theorem dX6_searched_51 : decode cX6_searched 51 = .ok (.invokevirtual 169, 3) := by decide +kernel
theorem dX6_searched_54 : decode cX6_searched 54 = .ok (.iload_n 2, 1) := by decide +kernel
theorem dX6_searched_55 : decode cX6_searched 55 = .ok (.iconst 1, 1) := by decide +kernel
theorem dX6_searched_56 : decode cX6_searched 56 = .ok (.isub, 1) := by decide +kernel
theorem dX6_searched_57 : decode cX6_searched 57 = .ok (.invokestatic 178, 3) := by decide +kernel
theorem dX6_searched_60 : decode cX6_searched 60 = .ok (.ineg, 1) := by decide +kernel
theorem dX6_searched_61 : decode cX6_searched 61 = .ok (.invokestatic 182, 3) := by decide +kernel
theorem dX6_searched_64 : decode cX6_searched 64 = .ok (.istore_n 3, 1) := by decide +kernel
theorem dX6_searched_65 : decode cX6_searched 65 = .ok (.iinc 4 1, 3) := by decide +kernel
theorem dX6_searched_68 : decode cX6_searched 68 = .ok (.goto (-38), 3) := by decide +kernel
theorem dX6_searched_71 : decode cX6_searched 71 = .ok (.iload_n 3, 1) := by decide +kernel
theorem dX6_searched_72 : decode cX6_searched 72 = .ok (.ireturn, 1) := by decide +kernel
theorem dX6_numberWithValue_0 : decode cX6_numberWithValue 0 = .ok (.iconst 0, 1) := by decide +kernel
theorem dX6_numberWithValue_1 : decode cX6_numberWithValue 1 = .ok (.istore 4, 2) := by decide +kernel
theorem dX6_numberWithValue_3 : decode cX6_numberWithValue 3 = .ok (.iload_n 1, 1) := by decide +kernel
theorem dX6_numberWithValue_4 : decode cX6_numberWithValue 4 = .ok (.istore 5, 2) := by decide +kernel
theorem dX6_numberWithValue_6 : decode cX6_numberWithValue 6 = .ok (.iload 5, 2) := by decide +kernel
theorem dX6_numberWithValue_8 : decode cX6_numberWithValue 8 = .ok (.aload_n 0, 1) := by decide +kernel
theorem dX6_numberWithValue_9 : decode cX6_numberWithValue 9 = .ok (.getfield 62, 3) := by decide +kernel
theorem dX6_numberWithValue_12 : decode cX6_numberWithValue 12 = .ok (.if_icmp .ge 62, 3) := by decide +kernel
theorem dX6_numberWithValue_15 : decode cX6_numberWithValue 15 = .ok (.aload_n 0, 1) := by decide +kernel
theorem dX6_numberWithValue_16 : decode cX6_numberWithValue 16 = .ok (.iload 5, 2) := by decide +kernel
theorem dX6_numberWithValue_18 : decode cX6_numberWithValue 18 = .ok (.invokevirtual 187, 3) := by decide +kernel
theorem dX6_numberWithValue_21 : decode cX6_numberWithValue 21 = .ok (.ifCond .eq 47, 3) := by decide +kernel
theorem dX6_numberWithValue_24 : decode cX6_numberWithValue 24 = .ok (.aload_n 0, 1) := by decide +kernel
theorem dX6_numberWithValue_25 : decode cX6_numberWithValue 25 = .ok (.iload 5, 2) := by decide +kernel
theorem dX6_numberWithValue_27 : decode cX6_numberWithValue 27 = .ok (.invokevirtual 144, 3) := by decide +kernel
theorem dX6_numberWithValue_30 : decode cX6_numberWithValue 30 = .ok (.iload_n 2, 1) := by decide +kernel
theorem dX6_numberWithValue_31 : decode cX6_numberWithValue 31 = .ok (.if_icmp .eq 6, 3) := by decide +kernel
theorem dX6_numberWithValue_34 : decode cX6_numberWithValue 34 = .ok (.goto 34, 3) := by decide +kernel
theorem dX6_numberWithValue_37 : decode cX6_numberWithValue 37 = .ok (.aload_n 0, 1) := by decide +kernel
theorem dX6_numberWithValue_38 : decode cX6_numberWithValue 38 = .ok (.getfield 15, 3) := by decide +kernel
theorem dX6_numberWithValue_41 : decode cX6_numberWithValue 41 = .ok (.iload 5, 2) := by decide +kernel
theorem dX6_numberWithValue_43 : decode cX6_numberWithValue 43 = .ok (.iaload, 1) := by decide +kernel
theorem dX6_numberWithValue_44 : decode cX6_numberWithValue 44 = .ok (.ifCond .le 7, 3) := by decide +kernel
theorem dX6_numberWithValue_47 : decode cX6_numberWithValue 47 = .ok (.iconst 1, 1) := by decide +kernel
theorem dX6_numberWithValue_48 : decode cX6_numberWithValue 48 = .ok (.goto 4, 3) := by decide +kernel
theorem dX6_numberWithValue_51 : decode cX6_numberWithValue 51 = .ok (.iconst 0, 1) := by decide +kernel
theorem dX6_numberWithValue_52 : decode cX6_numberWithValue 52 = .ok (.istore 6, 2) := by decide +kernel
theorem dX6_numberWithValue_54 : decode cX6_numberWithValue 54 = .ok (.iload_n 3, 1) := by decide +kernel
theorem dX6_numberWithValue_55 : decode cX6_numberWithValue 55 = .ok (.iconst 2, 1) := by decide +kernel
theorem dX6_numberWithValue_56 : decode cX6_numberWithValue 56 = .ok (.if_icmp .eq 9, 3) := by decide +kernel
theorem dX6_numberWithValue_59 : decode cX6_numberWithValue 59 = .ok (.iload_n 3, 1) := by decide +kernel
theorem dX6_numberWithValue_60 : decode cX6_numberWithValue 60 = .ok (.iload 6, 2) := by decide +kernel
theorem dX6_numberWithValue_62 : decode cX6_numberWithValue 62 = .ok (.if_icmp .ne 6, 3) := by decide +kernel
theorem dX6_numberWithValue_65 : decode cX6_numberWithValue 65 = .ok (.iinc 4 1, 3) := by decide +kernel
theorem dX6_numberWithValue_68 : decode cX6_numberWithValue 68 = .ok (.iinc 5 2, 3) := by decide +kernel
theorem dX6_numberWithValue_71 : decode cX6_numberWithValue 71 = .ok (.goto (-65), 3) := by decide +kernel
theorem dX6_numberWithValue_74 : decode cX6_numberWithValue 74 = .ok (.iload 4, 2) := by decide +kernel
theorem dX6_numberWithValue_76 : decode cX6_numberWithValue 76 = .ok (.ireturn, 1) := by decide +kernel
theorem dX6_numberWithDistance_0 : decode cX6_numberWithDistance 0 = .ok (.iconst 0, 1) := by decide +kernel
theorem dX6_numberWithDistance_1 : decode cX6_numberWithDistance 1 = .ok (.istore 4, 2) := by decide +kernel
theorem dX6_numberWithDistance_3 : decode cX6_numberWithDistance 3 = .ok (.iload_n 2, 1) := by decide +kernel
theorem dX6_numberWithDistance_4 : decode cX6_numberWithDistance 4 = .ok (.istore 5, 2) := by decide +kernel
theorem dX6_numberWithDistance_6 : decode cX6_numberWithDistance 6 = .ok (.iload 5, 2) := by decide +kernel
theorem dX6_numberWithDistance_8 : decode cX6_numberWithDistance 8 = .ok (.aload_n 0, 1) := by decide +kernel
theorem dX6_numberWithDistance_9 : decode cX6_numberWithDistance 9 = .ok (.getfield 62, 3) := by decide +kernel
theorem dX6_numberWithDistance_12 : decode cX6_numberWithDistance 12 = .ok (.if_icmp .ge 32, 3) := by decide +kernel
theorem dX6_numberWithDistance_15 : decode cX6_numberWithDistance 15 = .ok (.aload_n 0, 1) := by decide +kernel
theorem dX6_numberWithDistance_16 : decode cX6_numberWithDistance 16 = .ok (.iload 5, 2) := by decide +kernel
theorem dX6_numberWithDistance_18 : decode cX6_numberWithDistance 18 = .ok (.invokevirtual 187, 3) := by decide +kernel
theorem dX6_numberWithDistance_21 : decode cX6_numberWithDistance 21 = .ok (.ifCond .eq 17, 3) := by decide +kernel
theorem dX6_numberWithDistance_24 : decode cX6_numberWithDistance 24 = .ok (.aload_n 0, 1) := by decide +kernel
theorem dX6_numberWithDistance_25 : decode cX6_numberWithDistance 25 = .ok (.iload_n 1, 1) := by decide +kernel
theorem dX6_numberWithDistance_26 : decode cX6_numberWithDistance 26 = .ok (.iload 5, 2) := by decide +kernel
theorem dX6_numberWithDistance_28 : decode cX6_numberWithDistance 28 = .ok (.invokevirtual 189, 3) := by decide +kernel
theorem dX6_numberWithDistance_31 : decode cX6_numberWithDistance 31 = .ok (.iload_n 3, 1) := by decide +kernel
theorem dX6_numberWithDistance_32 : decode cX6_numberWithDistance 32 = .ok (.if_icmp .ne 6, 3) := by decide +kernel
theorem dX6_numberWithDistance_35 : decode cX6_numberWithDistance 35 = .ok (.iinc 4 1, 3) := by decide +kernel
theorem dX6_numberWithDistance_38 : decode cX6_numberWithDistance 38 = .ok (.iinc 5 2, 3) := by decide +kernel
theorem dX6_numberWithDistance_41 : decode cX6_numberWithDistance 41 = .ok (.goto (-35), 3) := by decide +kernel
theorem dX6_numberWithDistance_44 : decode cX6_numberWithDistance 44 = .ok (.iload 4, 2) := by decide +kernel
theorem dX6_numberWithDistance_46 : decode cX6_numberWithDistance 46 = .ok (.ireturn, 1) := by decide +kernel
theorem dX6_mostDistant_0 : decode cX6_mostDistant 0 = .ok (.iconst (-1), 1) := by decide +kernel
theorem dX6_mostDistant_1 : decode cX6_mostDistant 1 = .ok (.istore_n 2, 1) := by decide +kernel
theorem dX6_mostDistant_2 : decode cX6_mostDistant 2 = .ok (.iconst (-1), 1) := by decide +kernel
theorem dX6_mostDistant_3 : decode cX6_mostDistant 3 = .ok (.istore_n 3, 1) := by decide +kernel
theorem dX6_mostDistant_4 : decode cX6_mostDistant 4 = .ok (.iconst 0, 1) := by decide +kernel
theorem dX6_mostDistant_5 : decode cX6_mostDistant 5 = .ok (.istore 4, 2) := by decide +kernel
theorem dX6_mostDistant_7 : decode cX6_mostDistant 7 = .ok (.iload 4, 2) := by decide +kernel
theorem dX6_mostDistant_9 : decode cX6_mostDistant 9 = .ok (.aload_n 0, 1) := by decide +kernel
theorem dX6_mostDistant_10 : decode cX6_mostDistant 10 = .ok (.getfield 62, 3) := by decide +kernel
theorem dX6_mostDistant_13 : decode cX6_mostDistant 13 = .ok (.if_icmp .ge 43, 3) := by decide +kernel
theorem dX6_mostDistant_16 : decode cX6_mostDistant 16 = .ok (.aload_n 0, 1) := by decide +kernel
theorem dX6_mostDistant_17 : decode cX6_mostDistant 17 = .ok (.iload 4, 2) := by decide +kernel
theorem dX6_mostDistant_19 : decode cX6_mostDistant 19 = .ok (.invokevirtual 187, 3) := by decide +kernel
theorem dX6_mostDistant_22 : decode cX6_mostDistant 22 = .ok (.ifCond .eq 28, 3) := by decide +kernel
theorem dX6_mostDistant_25 : decode cX6_mostDistant 25 = .ok (.aload_n 0, 1) := by decide +kernel
theorem dX6_mostDistant_26 : decode cX6_mostDistant 26 = .ok (.iload_n 1, 1) := by decide +kernel
theorem dX6_mostDistant_27 : decode cX6_mostDistant 27 = .ok (.iload 4, 2) := by decide +kernel
theorem dX6_mostDistant_29 : decode cX6_mostDistant 29 = .ok (.invokevirtual 189, 3) := by decide +kernel
theorem dX6_mostDistant_32 : decode cX6_mostDistant 32 = .ok (.iload_n 3, 1) := by decide +kernel
theorem dX6_mostDistant_33 : decode cX6_mostDistant 33 = .ok (.if_icmp .gt 6, 3) := by decide +kernel
theorem dX6_mostDistant_36 : decode cX6_mostDistant 36 = .ok (.goto 14, 3) := by decide +kernel
theorem dX6_mostDistant_39 : decode cX6_mostDistant 39 = .ok (.iload 4, 2) := by decide +kernel
theorem dX6_mostDistant_41 : decode cX6_mostDistant 41 = .ok (.istore_n 2, 1) := by decide +kernel
theorem dX6_mostDistant_42 : decode cX6_mostDistant 42 = .ok (.aload_n 0, 1) := by decide +kernel
theorem dX6_mostDistant_43 : decode cX6_mostDistant 43 = .ok (.iload_n 1, 1) := by decide +kernel
theorem dX6_mostDistant_44 : decode cX6_mostDistant 44 = .ok (.iload 4, 2) := by decide +kernel
theorem dX6_mostDistant_46 : decode cX6_mostDistant 46 = .ok (.invokevirtual 189, 3) := by decide +kernel
theorem dX6_mostDistant_49 : decode cX6_mostDistant 49 = .ok (.istore_n 3, 1) := by decide +kernel
theorem dX6_mostDistant_50 : decode cX6_mostDistant 50 = .ok (.iinc 4 1, 3) := by decide +kernel
theorem dX6_mostDistant_53 : decode cX6_mostDistant 53 = .ok (.goto (-46), 3) := by decide +kernel
theorem dX6_mostDistant_56 : decode cX6_mostDistant 56 = .ok (.iload_n 2, 1) := by decide +kernel
theorem dX6_mostDistant_57 : decode cX6_mostDistant 57 = .ok (.ireturn, 1) := by decide +kernel
theorem dX6_isMutualZugzwang_0 : decode cX6_isMutualZugzwang 0 = .ok (.aload_n 0, 1) := by decide +kernel
theorem dX6_isMutualZugzwang_1 : decode cX6_isMutualZugzwang 1 = .ok (.iload_n 1, 1) := by decide +kernel
theorem dX6_isMutualZugzwang_2 : decode cX6_isMutualZugzwang 2 = .ok (.invokevirtual 187, 3) := by decide +kernel
theorem dX6_isMutualZugzwang_5 : decode cX6_isMutualZugzwang 5 = .ok (.ifCond .eq 33, 3) := by decide +kernel
theorem dX6_isMutualZugzwang_8 : decode cX6_isMutualZugzwang 8 = .ok (.aload_n 0, 1) := by decide +kernel
theorem dX6_isMutualZugzwang_9 : decode cX6_isMutualZugzwang 9 = .ok (.iload_n 1, 1) := by decide +kernel
theorem dX6_isMutualZugzwang_10 : decode cX6_isMutualZugzwang 10 = .ok (.iconst 1, 1) := by decide +kernel
theorem dX6_isMutualZugzwang_11 : decode cX6_isMutualZugzwang 11 = .ok (.iadd, 1) := by decide +kernel
theorem dX6_isMutualZugzwang_12 : decode cX6_isMutualZugzwang 12 = .ok (.invokevirtual 187, 3) := by decide +kernel
theorem dX6_isMutualZugzwang_15 : decode cX6_isMutualZugzwang 15 = .ok (.ifCond .eq 23, 3) := by decide +kernel
theorem dX6_isMutualZugzwang_18 : decode cX6_isMutualZugzwang 18 = .ok (.aload_n 0, 1) := by decide +kernel
theorem dX6_isMutualZugzwang_19 : decode cX6_isMutualZugzwang 19 = .ok (.iload_n 1, 1) := by decide +kernel
theorem dX6_isMutualZugzwang_20 : decode cX6_isMutualZugzwang 20 = .ok (.invokevirtual 144, 3) := by decide +kernel
theorem dX6_isMutualZugzwang_23 : decode cX6_isMutualZugzwang 23 = .ok (.aload_n 0, 1) := by decide +kernel
theorem dX6_isMutualZugzwang_24 : decode cX6_isMutualZugzwang 24 = .ok (.iload_n 1, 1) := by decide +kernel
theorem dX6_isMutualZugzwang_25 : decode cX6_isMutualZugzwang 25 = .ok (.iconst 1, 1) := by decide +kernel
theorem dX6_isMutualZugzwang_26 : decode cX6_isMutualZugzwang 26 = .ok (.iadd, 1) := by decide +kernel
theorem dX6_isMutualZugzwang_27 : decode cX6_isMutualZugzwang 27 = .ok (.invokevirtual 144, 3) := by decide +kernel
theorem dX6_isMutualZugzwang_30 : decode cX6_isMutualZugzwang 30 = .ok (.ineg, 1) := by decide +kernel
theorem dX6_isMutualZugzwang_31 : decode cX6_isMutualZugzwang 31 = .ok (.if_icmp .ge 7, 3) := by decide +kernel
theorem dX6_isMutualZugzwang_34 : decode cX6_isMutualZugzwang 34 = .ok (.iconst 1, 1) := by decide +kernel
theorem dX6_isMutualZugzwang_35 : decode cX6_isMutualZugzwang 35 = .ok (.goto 4, 3) := by decide +kernel
theorem dX6_isMutualZugzwang_38 : decode cX6_isMutualZugzwang 38 = .ok (.iconst 0, 1) := by decide +kernel
theorem dX6_isMutualZugzwang_39 : decode cX6_isMutualZugzwang 39 = .ok (.ireturn, 1) := by decide +kernel
theorem dX6_mutualZugzwangs_0 : decode cX6_mutualZugzwangs 0 = .ok (.iconst 0, 1) := by decide +kernel
theorem dX6_mutualZugzwangs_1 : decode cX6_mutualZugzwangs 1 = .ok (.istore_n 1, 1) := by decide +kernel
theorem dX6_mutualZugzwangs_2 : decode cX6_mutualZugzwangs 2 = .ok (.iconst 0, 1) := by decide +kernel
theorem dX6_mutualZugzwangs_3 : decode cX6_mutualZugzwangs 3 = .ok (.istore_n 2, 1) := by decide +kernel
theorem dX6_mutualZugzwangs_4 : decode cX6_mutualZugzwangs 4 = .ok (.iload_n 2, 1) := by decide +kernel
theorem dX6_mutualZugzwangs_5 : decode cX6_mutualZugzwangs 5 = .ok (.aload_n 0, 1) := by decide +kernel
theorem dX6_mutualZugzwangs_6 : decode cX6_mutualZugzwangs 6 = .ok (.getfield 62, 3) := by decide +kernel
theorem dX6_mutualZugzwangs_9 : decode cX6_mutualZugzwangs 9 = .ok (.if_icmp .ge 20, 3) := by decide +kernel
theorem dX6_mutualZugzwangs_12 : decode cX6_mutualZugzwangs 12 = .ok (.aload_n 0, 1) := by decide +kernel
theorem dX6_mutualZugzwangs_13 : decode cX6_mutualZugzwangs 13 = .ok (.iload_n 2, 1) := by decide +kernel
theorem dX6_mutualZugzwangs_14 : decode cX6_mutualZugzwangs 14 = .ok (.invokevirtual 192, 3) := by decide +kernel
theorem dX6_mutualZugzwangs_17 : decode cX6_mutualZugzwangs 17 = .ok (.ifCond .eq 6, 3) := by decide +kernel
theorem dX6_mutualZugzwangs_20 : decode cX6_mutualZugzwangs 20 = .ok (.iinc 1 1, 3) := by decide +kernel
theorem dX6_mutualZugzwangs_23 : decode cX6_mutualZugzwangs 23 = .ok (.iinc 2 2, 3) := by decide +kernel
theorem dX6_mutualZugzwangs_26 : decode cX6_mutualZugzwangs 26 = .ok (.goto (-22), 3) := by decide +kernel
theorem dX6_mutualZugzwangs_29 : decode cX6_mutualZugzwangs 29 = .ok (.iload_n 1, 1) := by decide +kernel
theorem dX6_mutualZugzwangs_30 : decode cX6_mutualZugzwangs 30 = .ok (.ireturn, 1) := by decide +kernel
theorem dX6_mutualZugzwang_0 : decode cX6_mutualZugzwang 0 = .ok (.iload_n 1, 1) := by decide +kernel
theorem dX6_mutualZugzwang_1 : decode cX6_mutualZugzwang 1 = .ok (.istore_n 2, 1) := by decide +kernel
theorem dX6_mutualZugzwang_2 : decode cX6_mutualZugzwang 2 = .ok (.iconst 0, 1) := by decide +kernel
theorem dX6_mutualZugzwang_3 : decode cX6_mutualZugzwang 3 = .ok (.istore_n 3, 1) := by decide +kernel
theorem dX6_mutualZugzwang_4 : decode cX6_mutualZugzwang 4 = .ok (.iload_n 3, 1) := by decide +kernel
theorem dX6_mutualZugzwang_5 : decode cX6_mutualZugzwang 5 = .ok (.aload_n 0, 1) := by decide +kernel
theorem dX6_mutualZugzwang_6 : decode cX6_mutualZugzwang 6 = .ok (.getfield 62, 3) := by decide +kernel
theorem dX6_mutualZugzwang_9 : decode cX6_mutualZugzwang 9 = .ok (.if_icmp .ge 29, 3) := by decide +kernel
theorem dX6_mutualZugzwang_12 : decode cX6_mutualZugzwang 12 = .ok (.aload_n 0, 1) := by decide +kernel
theorem dX6_mutualZugzwang_13 : decode cX6_mutualZugzwang 13 = .ok (.iload_n 3, 1) := by decide +kernel
theorem dX6_mutualZugzwang_14 : decode cX6_mutualZugzwang 14 = .ok (.invokevirtual 192, 3) := by decide +kernel
theorem dX6_mutualZugzwang_17 : decode cX6_mutualZugzwang 17 = .ok (.ifCond .ne 6, 3) := by decide +kernel
theorem dX6_mutualZugzwang_20 : decode cX6_mutualZugzwang 20 = .ok (.goto 12, 3) := by decide +kernel
theorem dX6_mutualZugzwang_23 : decode cX6_mutualZugzwang 23 = .ok (.iload_n 2, 1) := by decide +kernel
theorem dX6_mutualZugzwang_24 : decode cX6_mutualZugzwang 24 = .ok (.ifCond .ne 5, 3) := by decide +kernel
theorem dX6_mutualZugzwang_27 : decode cX6_mutualZugzwang 27 = .ok (.iload_n 3, 1) := by decide +kernel
theorem dX6_mutualZugzwang_28 : decode cX6_mutualZugzwang 28 = .ok (.ireturn, 1) := by decide +kernel
theorem dX6_mutualZugzwang_29 : decode cX6_mutualZugzwang 29 = .ok (.iinc 2 (-1), 3) := by decide +kernel
theorem dX6_mutualZugzwang_32 : decode cX6_mutualZugzwang 32 = .ok (.iinc 3 2, 3) := by decide +kernel
theorem dX6_mutualZugzwang_35 : decode cX6_mutualZugzwang 35 = .ok (.goto (-31), 3) := by decide +kernel
theorem dX6_mutualZugzwang_38 : decode cX6_mutualZugzwang 38 = .ok (.iconst (-1), 1) := by decide +kernel
theorem dX6_mutualZugzwang_39 : decode cX6_mutualZugzwang 39 = .ok (.ireturn, 1) := by decide +kernel
theorem dX6_unlikeImages_0 : decode cX6_unlikeImages 0 = .ok (.iconst 0, 1) := by decide +kernel
theorem dX6_unlikeImages_1 : decode cX6_unlikeImages 1 = .ok (.istore_n 2, 1) := by decide +kernel
theorem dX6_unlikeImages_2 : decode cX6_unlikeImages 2 = .ok (.iconst 0, 1) := by decide +kernel
theorem dX6_unlikeImages_3 : decode cX6_unlikeImages 3 = .ok (.istore_n 3, 1) := by decide +kernel
theorem dX6_unlikeImages_4 : decode cX6_unlikeImages 4 = .ok (.iload_n 3, 1) := by decide +kernel
theorem dX6_unlikeImages_5 : decode cX6_unlikeImages 5 = .ok (.aload_n 0, 1) := by decide +kernel
theorem dX6_unlikeImages_6 : decode cX6_unlikeImages 6 = .ok (.getfield 45, 3) := by decide +kernel
theorem dX6_unlikeImages_9 : decode cX6_unlikeImages 9 = .ok (.getfield 195, 3) := by decide +kernel
theorem dX6_unlikeImages_12 : decode cX6_unlikeImages 12 = .ok (.if_icmp .ge 89, 3) := by decide +kernel
theorem dX6_unlikeImages_15 : decode cX6_unlikeImages 15 = .ok (.aload_n 0, 1) := by decide +kernel
theorem dX6_unlikeImages_16 : decode cX6_unlikeImages 16 = .ok (.getfield 45, 3) := by decide +kernel
theorem dX6_unlikeImages_19 : decode cX6_unlikeImages 19 = .ok (.iload_n 1, 1) := by decide +kernel
theorem dX6_unlikeImages_20 : decode cX6_unlikeImages 20 = .ok (.iload_n 3, 1) := by decide +kernel
theorem dX6_unlikeImages_21 : decode cX6_unlikeImages 21 = .ok (.invokevirtual 198, 3) := by decide +kernel
theorem dX6_unlikeImages_24 : decode cX6_unlikeImages 24 = .ok (.ifCond .eq 6, 3) := by decide +kernel
theorem dX6_unlikeImages_27 : decode cX6_unlikeImages 27 = .ok (.goto 68, 3) := by decide +kernel
theorem dX6_unlikeImages_30 : decode cX6_unlikeImages 30 = .ok (.aload_n 0, 1) := by decide +kernel
theorem dX6_unlikeImages_31 : decode cX6_unlikeImages 31 = .ok (.getfield 45, 3) := by decide +kernel
theorem dX6_unlikeImages_34 : decode cX6_unlikeImages 34 = .ok (.iload_n 1, 1) := by decide +kernel
theorem dX6_unlikeImages_35 : decode cX6_unlikeImages 35 = .ok (.iload_n 3, 1) := by decide +kernel
theorem dX6_unlikeImages_36 : decode cX6_unlikeImages 36 = .ok (.invokevirtual 201, 3) := by decide +kernel
theorem dX6_unlikeImages_39 : decode cX6_unlikeImages 39 = .ok (.istore 4, 2) := by decide +kernel
theorem dX6_unlikeImages_41 : decode cX6_unlikeImages 41 = .ok (.aload_n 0, 1) := by decide +kernel
theorem dX6_unlikeImages_42 : decode cX6_unlikeImages 42 = .ok (.iload 4, 2) := by decide +kernel
theorem dX6_unlikeImages_44 : decode cX6_unlikeImages 44 = .ok (.iconst 2, 1) := by decide +kernel
theorem dX6_unlikeImages_45 : decode cX6_unlikeImages 45 = .ok (.invokestatic 178, 3) := by decide +kernel
theorem dX6_unlikeImages_48 : decode cX6_unlikeImages 48 = .ok (.istore 5, 2) := by decide +kernel
theorem dX6_unlikeImages_50 : decode cX6_unlikeImages 50 = .ok (.iload 5, 2) := by decide +kernel
theorem dX6_unlikeImages_52 : decode cX6_unlikeImages 52 = .ok (.ifCond .eq 14, 3) := by decide +kernel
theorem dX6_unlikeImages_55 : decode cX6_unlikeImages 55 = .ok (.iload 5, 2) := by decide +kernel
theorem dX6_unlikeImages_57 : decode cX6_unlikeImages 57 = .ok (.aload_n 0, 1) := by decide +kernel
theorem dX6_unlikeImages_58 : decode cX6_unlikeImages 58 = .ok (.iload 4, 2) := by decide +kernel
theorem dX6_unlikeImages_60 : decode cX6_unlikeImages 60 = .ok (.invokevirtual 144, 3) := by decide +kernel
theorem dX6_unlikeImages_63 : decode cX6_unlikeImages 63 = .ok (.if_icmp .ne 7, 3) := by decide +kernel
theorem dX6_unlikeImages_66 : decode cX6_unlikeImages 66 = .ok (.iconst 1, 1) := by decide +kernel
theorem dX6_unlikeImages_67 : decode cX6_unlikeImages 67 = .ok (.goto 4, 3) := by decide +kernel
theorem dX6_unlikeImages_70 : decode cX6_unlikeImages 70 = .ok (.iconst 0, 1) := by decide +kernel
theorem dX6_unlikeImages_71 : decode cX6_unlikeImages 71 = .ok (.istore 6, 2) := by decide +kernel
theorem dX6_unlikeImages_73 : decode cX6_unlikeImages 73 = .ok (.aload_n 0, 1) := by decide +kernel
theorem dX6_unlikeImages_74 : decode cX6_unlikeImages 74 = .ok (.iload 4, 2) := by decide +kernel
theorem dX6_unlikeImages_76 : decode cX6_unlikeImages 76 = .ok (.invokevirtual 144, 3) := by decide +kernel
theorem dX6_unlikeImages_79 : decode cX6_unlikeImages 79 = .ok (.aload_n 0, 1) := by decide +kernel
theorem dX6_unlikeImages_80 : decode cX6_unlikeImages 80 = .ok (.iload_n 1, 1) := by decide +kernel
theorem dX6_unlikeImages_81 : decode cX6_unlikeImages 81 = .ok (.invokevirtual 144, 3) := by decide +kernel
theorem dX6_unlikeImages_84 : decode cX6_unlikeImages 84 = .ok (.if_icmp .ne 8, 3) := by decide +kernel
theorem dX6_unlikeImages_87 : decode cX6_unlikeImages 87 = .ok (.iload 6, 2) := by decide +kernel
theorem dX6_unlikeImages_89 : decode cX6_unlikeImages 89 = .ok (.ifCond .ne 6, 3) := by decide +kernel
theorem dX6_unlikeImages_92 : decode cX6_unlikeImages 92 = .ok (.iinc 2 1, 3) := by decide +kernel
theorem dX6_unlikeImages_95 : decode cX6_unlikeImages 95 = .ok (.iinc 3 1, 3) := by decide +kernel
theorem dX6_unlikeImages_98 : decode cX6_unlikeImages 98 = .ok (.goto (-94), 3) := by decide +kernel
theorem dX6_unlikeImages_101 : decode cX6_unlikeImages 101 = .ok (.iload_n 2, 1) := by decide +kernel
theorem dX6_unlikeImages_102 : decode cX6_unlikeImages 102 = .ok (.ireturn, 1) := by decide +kernel
theorem dX7_init_0 : decode cX7_init 0 = .ok (.aload_n 0, 1) := by decide +kernel
theorem dX7_init_1 : decode cX7_init 1 = .ok (.invokespecial 1, 3) := by decide +kernel
theorem dX7_init_4 : decode cX7_init 4 = .ok (.aload_n 0, 1) := by decide +kernel
theorem dX7_init_5 : decode cX7_init 5 = .ok (.bipush 40, 2) := by decide +kernel
theorem dX7_init_7 : decode cX7_init 7 = .ok (.newarray .int, 2) := by decide +kernel
theorem dX7_init_9 : decode cX7_init 9 = .ok (.putfield 9, 3) := by decide +kernel
theorem dX7_init_12 : decode cX7_init 12 = .ok (.aload_n 0, 1) := by decide +kernel
theorem dX7_init_13 : decode cX7_init 13 = .ok (.new 13, 3) := by decide +kernel
theorem dX7_init_16 : decode cX7_init 16 = .ok (.dup, 1) := by decide +kernel
theorem dX7_init_17 : decode cX7_init 17 = .ok (.invokespecial 15, 3) := by decide +kernel
theorem dX7_init_20 : decode cX7_init 20 = .ok (.putfield 16, 3) := by decide +kernel
theorem dX7_init_23 : decode cX7_init 23 = .ok (.aload_n 0, 1) := by decide +kernel
theorem dX7_init_24 : decode cX7_init 24 = .ok (.new 13, 3) := by decide +kernel
theorem dX7_init_27 : decode cX7_init 27 = .ok (.dup, 1) := by decide +kernel
theorem dX7_init_28 : decode cX7_init 28 = .ok (.invokespecial 15, 3) := by decide +kernel
theorem dX7_init_31 : decode cX7_init 31 = .ok (.putfield 20, 3) := by decide +kernel
theorem dX7_init_34 : decode cX7_init 34 = .ok (.return_, 1) := by decide +kernel
theorem dX7_feed_0 : decode cX7_feed 0 = .ok (.iload_n 1, 1) := by decide +kernel
theorem dX7_feed_1 : decode cX7_feed 1 = .ok (.iconst 1, 1) := by decide +kernel
theorem dX7_feed_2 : decode cX7_feed 2 = .ok (.if_icmp .lt 8, 3) := by decide +kernel
theorem dX7_feed_5 : decode cX7_feed 5 = .ok (.iload_n 1, 1) := by decide +kernel
theorem dX7_feed_6 : decode cX7_feed 6 = .ok (.iconst 5, 1) := by decide +kernel
theorem dX7_feed_7 : decode cX7_feed 7 = .ok (.if_icmp .le 6, 3) := by decide +kernel
theorem dX7_feed_10 : decode cX7_feed 10 = .ok (.bipush (-2), 2) := by decide +kernel
theorem dX7_feed_12 : decode cX7_feed 12 = .ok (.ireturn, 1) := by decide +kernel
theorem dX7_feed_13 : decode cX7_feed 13 = .ok (.iload_n 2, 1) := by decide +kernel
theorem dX7_feed_14 : decode cX7_feed 14 = .ok (.invokestatic 23, 3) := by decide +kernel
theorem dX7_feed_17 : decode cX7_feed 17 = .ok (.ifCond .eq 34, 3) := by decide +kernel
theorem dX7_feed_20 : decode cX7_feed 20 = .ok (.iload_n 3, 1) := by decide +kernel
theorem dX7_feed_21 : decode cX7_feed 21 = .ok (.invokestatic 23, 3) := by decide +kernel
theorem dX7_feed_24 : decode cX7_feed 24 = .ok (.ifCond .eq 27, 3) := by decide +kernel
theorem dX7_feed_27 : decode cX7_feed 27 = .ok (.iload 4, 2) := by decide +kernel
theorem dX7_feed_29 : decode cX7_feed 29 = .ok (.invokestatic 23, 3) := by decide +kernel
theorem dX7_feed_32 : decode cX7_feed 32 = .ok (.ifCond .eq 19, 3) := by decide +kernel
theorem dX7_feed_35 : decode cX7_feed 35 = .ok (.iload 5, 2) := by decide +kernel
theorem dX7_feed_37 : decode cX7_feed 37 = .ok (.invokestatic 23, 3) := by decide +kernel
theorem dX7_feed_40 : decode cX7_feed 40 = .ok (.ifCond .eq 11, 3) := by decide +kernel
theorem dX7_feed_43 : decode cX7_feed 43 = .ok (.iload 6, 2) := by decide +kernel
theorem dX7_feed_45 : decode cX7_feed 45 = .ok (.invokestatic 23, 3) := by decide +kernel
theorem dX7_feed_48 : decode cX7_feed 48 = .ok (.ifCond .ne 6, 3) := by decide +kernel
theorem dX7_feed_51 : decode cX7_feed 51 = .ok (.bipush (-2), 2) := by decide +kernel
theorem dX7_feed_53 : decode cX7_feed 53 = .ok (.ireturn, 1) := by decide +kernel
theorem dX7_feed_54 : decode cX7_feed 54 = .ok (.aload_n 0, 1) := by decide +kernel
theorem dX7_feed_55 : decode cX7_feed 55 = .ok (.getfield 27, 3) := by decide +kernel
theorem dX7_feed_58 : decode cX7_feed 58 = .ok (.iload_n 1, 1) := by decide +kernel
theorem dX7_feed_59 : decode cX7_feed 59 = .ok (.iadd, 1) := by decide +kernel
theorem dX7_feed_60 : decode cX7_feed 60 = .ok (.bipush 40, 2) := by decide +kernel
theorem dX7_feed_62 : decode cX7_feed 62 = .ok (.if_icmp .le 6, 3) := by decide +kernel
theorem dX7_feed_65 : decode cX7_feed 65 = .ok (.bipush (-4), 2) := by decide +kernel
theorem dX7_feed_67 : decode cX7_feed 67 = .ok (.ireturn, 1) := by decide +kernel
theorem dX7_feed_68 : decode cX7_feed 68 = .ok (.aload_n 0, 1) := by decide +kernel
theorem dX7_feed_69 : decode cX7_feed 69 = .ok (.iload_n 2, 1) := by decide +kernel
theorem dX7_feed_70 : decode cX7_feed 70 = .ok (.invokevirtual 31, 3) := by decide +kernel
theorem dX7_feed_73 : decode cX7_feed 73 = .ok (.iload_n 1, 1) := by decide +kernel
theorem dX7_feed_74 : decode cX7_feed 74 = .ok (.iconst 1, 1) := by decide +kernel
theorem dX7_feed_75 : decode cX7_feed 75 = .ok (.if_icmp .le 8, 3) := by decide +kernel
theorem dX7_feed_78 : decode cX7_feed 78 = .ok (.aload_n 0, 1) := by decide +kernel
theorem dX7_feed_79 : decode cX7_feed 79 = .ok (.iload_n 3, 1) := by decide +kernel
theorem dX7_feed_80 : decode cX7_feed 80 = .ok (.invokevirtual 31, 3) := by decide +kernel
theorem dX7_feed_83 : decode cX7_feed 83 = .ok (.iload_n 1, 1) := by decide +kernel
theorem dX7_feed_84 : decode cX7_feed 84 = .ok (.iconst 2, 1) := by decide +kernel
theorem dX7_feed_85 : decode cX7_feed 85 = .ok (.if_icmp .le 9, 3) := by decide +kernel
theorem dX7_feed_88 : decode cX7_feed 88 = .ok (.aload_n 0, 1) := by decide +kernel
theorem dX7_feed_89 : decode cX7_feed 89 = .ok (.iload 4, 2) := by decide +kernel
theorem dX7_feed_91 : decode cX7_feed 91 = .ok (.invokevirtual 31, 3) := by decide +kernel
theorem dX7_feed_94 : decode cX7_feed 94 = .ok (.iload_n 1, 1) := by decide +kernel
theorem dX7_feed_95 : decode cX7_feed 95 = .ok (.iconst 3, 1) := by decide +kernel
theorem dX7_feed_96 : decode cX7_feed 96 = .ok (.if_icmp .le 9, 3) := by decide +kernel
theorem dX7_feed_99 : decode cX7_feed 99 = .ok (.aload_n 0, 1) := by decide +kernel
theorem dX7_feed_100 : decode cX7_feed 100 = .ok (.iload 5, 2) := by decide +kernel
theorem dX7_feed_102 : decode cX7_feed 102 = .ok (.invokevirtual 31, 3) := by decide +kernel
theorem dX7_feed_105 : decode cX7_feed 105 = .ok (.iload_n 1, 1) := by decide +kernel
theorem dX7_feed_106 : decode cX7_feed 106 = .ok (.iconst 4, 1) := by decide +kernel
theorem dX7_feed_107 : decode cX7_feed 107 = .ok (.if_icmp .le 9, 3) := by decide +kernel
theorem dX7_feed_110 : decode cX7_feed 110 = .ok (.aload_n 0, 1) := by decide +kernel
theorem dX7_feed_111 : decode cX7_feed 111 = .ok (.iload 6, 2) := by decide +kernel
theorem dX7_feed_113 : decode cX7_feed 113 = .ok (.invokevirtual 31, 3) := by decide +kernel
theorem dX7_feed_116 : decode cX7_feed 116 = .ok (.aload_n 0, 1) := by decide +kernel
theorem dX7_feed_117 : decode cX7_feed 117 = .ok (.getfield 27, 3) := by decide +kernel
theorem dX7_feed_120 : decode cX7_feed 120 = .ok (.ireturn, 1) := by decide +kernel
theorem dX7_define_0 : decode cX7_define 0 = .ok (.new 35, 3) := by decide +kernel
theorem dX7_define_3 : decode cX7_define 3 = .ok (.dup, 1) := by decide +kernel
theorem dX7_define_4 : decode cX7_define 4 = .ok (.aload_n 0, 1) := by decide +kernel
theorem dX7_define_5 : decode cX7_define 5 = .ok (.getfield 9, 3) := by decide +kernel
theorem dX7_define_8 : decode cX7_define 8 = .ok (.aload_n 0, 1) := by decide +kernel
theorem dX7_define_9 : decode cX7_define 9 = .ok (.getfield 27, 3) := by decide +kernel
theorem dX7_define_12 : decode cX7_define 12 = .ok (.invokespecial 37, 3) := by decide +kernel
theorem dX7_define_15 : decode cX7_define 15 = .ok (.astore_n 1, 1) := by decide +kernel
theorem dX7_define_16 : decode cX7_define 16 = .ok (.aload_n 0, 1) := by decide +kernel
theorem dX7_define_17 : decode cX7_define 17 = .ok (.iconst 0, 1) := by decide +kernel
theorem dX7_define_18 : decode cX7_define 18 = .ok (.putfield 27, 3) := by decide +kernel
theorem dX7_define_21 : decode cX7_define 21 = .ok (.aload_n 1, 1) := by decide +kernel
theorem dX7_define_22 : decode cX7_define 22 = .ok (.invokevirtual 40, 3) := by decide +kernel
theorem dX7_define_25 : decode cX7_define 25 = .ok (.ifCond .ne 11, 3) := by decide +kernel
theorem dX7_define_28 : decode cX7_define 28 = .ok (.bipush (-100), 2) := by decide +kernel
theorem dX7_define_30 : decode cX7_define 30 = .ok (.aload_n 1, 1) := by decide +kernel
theorem dX7_define_31 : decode cX7_define 31 = .ok (.getfield 44, 3) := by decide +kernel
theorem dX7_define_34 : decode cX7_define 34 = .ok (.isub, 1) := by decide +kernel
theorem dX7_define_35 : decode cX7_define 35 = .ok (.ireturn, 1) := by decide +kernel
theorem dX7_define_36 : decode cX7_define 36 = .ok (.aload_n 0, 1) := by decide +kernel
theorem dX7_define_37 : decode cX7_define 37 = .ok (.invokevirtual 47, 3) := by decide +kernel
theorem dX7_define_40 : decode cX7_define 40 = .ok (.astore_n 2, 1) := by decide +kernel
theorem dX7_define_41 : decode cX7_define 41 = .ok (.aload_n 2, 1) := by decide +kernel
theorem dX7_define_42 : decode cX7_define 42 = .ok (.new 51, 3) := by decide +kernel
theorem dX7_define_45 : decode cX7_define 45 = .ok (.dup, 1) := by decide +kernel
theorem dX7_define_46 : decode cX7_define 46 = .ok (.aload_n 1, 1) := by decide +kernel
theorem dX7_define_47 : decode cX7_define 47 = .ok (.invokespecial 53, 3) := by decide +kernel
theorem dX7_define_50 : decode cX7_define 50 = .ok (.invokevirtual 56, 3) := by decide +kernel
theorem dX7_define_53 : decode cX7_define 53 = .ok (.aload_n 0, 1) := by decide +kernel
theorem dX7_define_54 : decode cX7_define 54 = .ok (.aload_n 2, 1) := by decide +kernel
theorem dX7_define_55 : decode cX7_define 55 = .ok (.putfield 62, 3) := by decide +kernel
theorem dX7_define_58 : decode cX7_define 58 = .ok (.aload_n 0, 1) := by decide +kernel
theorem dX7_define_59 : decode cX7_define 59 = .ok (.getfield 16, 3) := by decide +kernel
theorem dX7_define_62 : decode cX7_define 62 = .ok (.invokevirtual 66, 3) := by decide +kernel
theorem dX7_define_65 : decode cX7_define 65 = .ok (.aload_n 2, 1) := by decide +kernel
theorem dX7_define_66 : decode cX7_define 66 = .ok (.getfield 69, 3) := by decide +kernel
theorem dX7_define_69 : decode cX7_define 69 = .ok (.getfield 73, 3) := by decide +kernel
theorem dX7_define_72 : decode cX7_define 72 = .ok (.invokestatic 76, 3) := by decide +kernel
theorem dX7_define_75 : decode cX7_define 75 = .ok (.ireturn, 1) := by decide +kernel
theorem dX7_game_0 : decode cX7_game 0 = .ok (.aload_n 0, 1) := by decide +kernel
theorem dX7_game_1 : decode cX7_game 1 = .ok (.getfield 62, 3) := by decide +kernel
theorem dX7_game_4 : decode cX7_game 4 = .ok (.ifnonnull 6, 3) := by decide +kernel
theorem dX7_game_7 : decode cX7_game 7 = .ok (.bipush (-3), 2) := by decide +kernel
theorem dX7_game_9 : decode cX7_game 9 = .ok (.ireturn, 1) := by decide +kernel
theorem dX7_game_10 : decode cX7_game 10 = .ok (.aload_n 0, 1) := by decide +kernel
theorem dX7_game_11 : decode cX7_game 11 = .ok (.getfield 62, 3) := by decide +kernel
theorem dX7_game_14 : decode cX7_game 14 = .ok (.getfield 69, 3) := by decide +kernel
theorem dX7_game_17 : decode cX7_game 17 = .ok (.astore_n 2, 1) := by decide +kernel
theorem dX7_game_18 : decode cX7_game 18 = .ok (.iload_n 1, 1) := by decide +kernel
theorem dX7_game_19 : decode cX7_game 19 = .ok (.tableswitch 103 0 8 #[49, 54, 59, 64, 69, 74, 79, 84, 95], 49) := by decide +kernel
theorem dX7_game_68 : decode cX7_game 68 = .ok (.aload_n 2, 1) := by decide +kernel
theorem dX7_game_69 : decode cX7_game 69 = .ok (.getfield 82, 3) := by decide +kernel
theorem dX7_game_72 : decode cX7_game 72 = .ok (.ireturn, 1) := by decide +kernel
theorem dX7_game_73 : decode cX7_game 73 = .ok (.aload_n 2, 1) := by decide +kernel
theorem dX7_game_74 : decode cX7_game 74 = .ok (.getfield 85, 3) := by decide +kernel
theorem dX7_game_77 : decode cX7_game 77 = .ok (.ireturn, 1) := by decide +kernel
theorem dX7_game_78 : decode cX7_game 78 = .ok (.aload_n 2, 1) := by decide +kernel
theorem dX7_game_79 : decode cX7_game 79 = .ok (.getfield 88, 3) := by decide +kernel
theorem dX7_game_82 : decode cX7_game 82 = .ok (.ireturn, 1) := by decide +kernel
theorem dX7_game_83 : decode cX7_game 83 = .ok (.aload_n 2, 1) := by decide +kernel
theorem dX7_game_84 : decode cX7_game 84 = .ok (.getfield 91, 3) := by decide +kernel
theorem dX7_game_87 : decode cX7_game 87 = .ok (.ireturn, 1) := by decide +kernel
theorem dX7_game_88 : decode cX7_game 88 = .ok (.aload_n 2, 1) := by decide +kernel
theorem dX7_game_89 : decode cX7_game 89 = .ok (.getfield 94, 3) := by decide +kernel
theorem dX7_game_92 : decode cX7_game 92 = .ok (.ireturn, 1) := by decide +kernel
theorem dX7_game_93 : decode cX7_game 93 = .ok (.aload_n 2, 1) := by decide +kernel
theorem dX7_game_94 : decode cX7_game 94 = .ok (.getfield 97, 3) := by decide +kernel
theorem dX7_game_97 : decode cX7_game 97 = .ok (.ireturn, 1) := by decide +kernel
theorem dX7_game_98 : decode cX7_game 98 = .ok (.aload_n 2, 1) := by decide +kernel
theorem dX7_game_99 : decode cX7_game 99 = .ok (.getfield 100, 3) := by decide +kernel
theorem dX7_game_102 : decode cX7_game 102 = .ok (.ireturn, 1) := by decide +kernel
theorem dX7_game_103 : decode cX7_game 103 = .ok (.aload_n 0, 1) := by decide +kernel
theorem dX7_game_104 : decode cX7_game 104 = .ok (.getfield 62, 3) := by decide +kernel
theorem dX7_game_107 : decode cX7_game 107 = .ok (.getfield 103, 3) := by decide +kernel
theorem dX7_game_110 : decode cX7_game 110 = .ok (.getfield 107, 3) := by decide +kernel
theorem dX7_game_113 : decode cX7_game 113 = .ok (.ireturn, 1) := by decide +kernel
theorem dX7_game_114 : decode cX7_game 114 = .ok (.aload_n 0, 1) := by decide +kernel
theorem dX7_game_115 : decode cX7_game 115 = .ok (.getfield 62, 3) := by decide +kernel
theorem dX7_game_118 : decode cX7_game 118 = .ok (.getfield 112, 3) := by decide +kernel
theorem dX7_game_121 : decode cX7_game 121 = .ok (.ireturn, 1) := by decide +kernel
theorem dX7_game_122 : decode cX7_game 122 = .ok (.aload_n 2, 1) := by decide +kernel
theorem dX7_game_123 : decode cX7_game 123 = .ok (.iload_n 1, 1) := by decide +kernel
theorem dX7_game_124 : decode cX7_game 124 = .ok (.bipush 10, 2) := by decide +kernel
theorem dX7_game_126 : decode cX7_game 126 = .ok (.isub, 1) := by decide +kernel
theorem dX7_game_127 : decode cX7_game 127 = .ok (.invokevirtual 115, 3) := by decide +kernel
theorem dX7_game_130 : decode cX7_game 130 = .ok (.ireturn, 1) := by decide +kernel
theorem dX7_setup_0 : decode cX7_setup 0 = .ok (.aload_n 0, 1) := by decide +kernel
theorem dX7_setup_1 : decode cX7_setup 1 = .ok (.getfield 62, 3) := by decide +kernel
theorem dX7_setup_4 : decode cX7_setup 4 = .ok (.ifnonnull 6, 3) := by decide +kernel
theorem dX7_setup_7 : decode cX7_setup 7 = .ok (.bipush (-3), 2) := by decide +kernel
theorem dX7_setup_9 : decode cX7_setup 9 = .ok (.ireturn, 1) := by decide +kernel
theorem dX7_setup_10 : decode cX7_setup 10 = .ok (.aload_n 0, 1) := by decide +kernel
theorem dX7_setup_11 : decode cX7_setup 11 = .ok (.getfield 62, 3) := by decide +kernel
theorem dX7_setup_14 : decode cX7_setup 14 = .ok (.getfield 69, 3) := by decide +kernel
theorem dX7_setup_17 : decode cX7_setup 17 = .ok (.astore 5, 2) := by decide +kernel
theorem dX7_setup_19 : decode cX7_setup 19 = .ok (.iload 4, 2) := by decide +kernel
theorem dX7_setup_21 : decode cX7_setup 21 = .ok (.ifCond .lt 9, 3) := by decide +kernel
theorem dX7_setup_24 : decode cX7_setup 24 = .ok (.iload 4, 2) := by decide +kernel
theorem dX7_setup_26 : decode cX7_setup 26 = .ok (.iconst 1, 1) := by decide +kernel
theorem dX7_setup_27 : decode cX7_setup 27 = .ok (.if_icmp .le 6, 3) := by decide +kernel
theorem dX7_setup_30 : decode cX7_setup 30 = .ok (.bipush (-2), 2) := by decide +kernel
theorem dX7_setup_32 : decode cX7_setup 32 = .ok (.ireturn, 1) := by decide +kernel
theorem dX7_setup_33 : decode cX7_setup 33 = .ok (.aload 5, 2) := by decide +kernel
theorem dX7_setup_35 : decode cX7_setup 35 = .ok (.iconst 0, 1) := by decide +kernel
theorem dX7_setup_36 : decode cX7_setup 36 = .ok (.iload_n 1, 1) := by decide +kernel
theorem dX7_setup_37 : decode cX7_setup 37 = .ok (.invokevirtual 118, 3) := by decide +kernel
theorem dX7_setup_40 : decode cX7_setup 40 = .ok (.ifCond .eq 23, 3) := by decide +kernel
theorem dX7_setup_43 : decode cX7_setup 43 = .ok (.aload 5, 2) := by decide +kernel
theorem dX7_setup_45 : decode cX7_setup 45 = .ok (.iconst 1, 1) := by decide +kernel
theorem dX7_setup_46 : decode cX7_setup 46 = .ok (.iload_n 2, 1) := by decide +kernel
theorem dX7_setup_47 : decode cX7_setup 47 = .ok (.invokevirtual 118, 3) := by decide +kernel
theorem dX7_setup_50 : decode cX7_setup 50 = .ok (.ifCond .eq 13, 3) := by decide +kernel
theorem dX7_setup_53 : decode cX7_setup 53 = .ok (.aload 5, 2) := by decide +kernel
theorem dX7_setup_55 : decode cX7_setup 55 = .ok (.iconst 2, 1) := by decide +kernel
theorem dX7_setup_56 : decode cX7_setup 56 = .ok (.iload_n 3, 1) := by decide +kernel
theorem dX7_setup_57 : decode cX7_setup 57 = .ok (.invokevirtual 118, 3) := by decide +kernel
theorem dX7_setup_60 : decode cX7_setup 60 = .ok (.ifCond .ne 6, 3) := by decide +kernel
theorem dX7_setup_63 : decode cX7_setup 63 = .ok (.bipush (-2), 2) := by decide +kernel
theorem dX7_setup_65 : decode cX7_setup 65 = .ok (.ireturn, 1) := by decide +kernel
theorem dX7_setup_66 : decode cX7_setup 66 = .ok (.aload 5, 2) := by decide +kernel
theorem dX7_setup_68 : decode cX7_setup 68 = .ok (.iload_n 1, 1) := by decide +kernel
theorem dX7_setup_69 : decode cX7_setup 69 = .ok (.iload_n 2, 1) := by decide +kernel
theorem dX7_setup_70 : decode cX7_setup 70 = .ok (.iload_n 3, 1) := by decide +kernel
theorem dX7_setup_71 : decode cX7_setup 71 = .ok (.iload 4, 2) := by decide +kernel
theorem dX7_setup_73 : decode cX7_setup 73 = .ok (.invokevirtual 122, 3) := by decide +kernel
theorem dX7_setup_76 : decode cX7_setup 76 = .ok (.istore 6, 2) := by decide +kernel
theorem dX7_setup_78 : decode cX7_setup 78 = .ok (.aload_n 0, 1) := by decide +kernel
theorem dX7_setup_79 : decode cX7_setup 79 = .ok (.getfield 62, 3) := by decide +kernel
theorem dX7_setup_82 : decode cX7_setup 82 = .ok (.iload 6, 2) := by decide +kernel
theorem dX7_setup_84 : decode cX7_setup 84 = .ok (.invokevirtual 126, 3) := by decide +kernel
theorem dX7_setup_87 : decode cX7_setup 87 = .ok (.ifCond .ne 6, 3) := by decide +kernel
theorem dX7_setup_90 : decode cX7_setup 90 = .ok (.bipush (-5), 2) := by decide +kernel
theorem dX7_setup_92 : decode cX7_setup 92 = .ok (.ireturn, 1) := by decide +kernel
theorem dX7_setup_93 : decode cX7_setup 93 = .ok (.aload_n 0, 1) := by decide +kernel
theorem dX7_setup_94 : decode cX7_setup 94 = .ok (.getfield 16, 3) := by decide +kernel
theorem dX7_setup_97 : decode cX7_setup 97 = .ok (.iload 6, 2) := by decide +kernel
theorem dX7_setup_99 : decode cX7_setup 99 = .ok (.invokevirtual 129, 3) := by decide +kernel
theorem dX7_setup_102 : decode cX7_setup 102 = .ok (.iload 6, 2) := by decide +kernel
theorem dX7_setup_104 : decode cX7_setup 104 = .ok (.ireturn, 1) := by decide +kernel
theorem dX7_load_0 : decode cX7_load 0 = .ok (.aload_n 0, 1) := by decide +kernel
theorem dX7_load_1 : decode cX7_load 1 = .ok (.getfield 62, 3) := by decide +kernel
theorem dX7_load_4 : decode cX7_load 4 = .ok (.ifnonnull 6, 3) := by decide +kernel
theorem dX7_load_7 : decode cX7_load 7 = .ok (.bipush (-3), 2) := by decide +kernel
theorem dX7_load_9 : decode cX7_load 9 = .ok (.ireturn, 1) := by decide +kernel
theorem dX7_load_10 : decode cX7_load 10 = .ok (.aload_n 0, 1) := by decide +kernel
theorem dX7_load_11 : decode cX7_load 11 = .ok (.getfield 62, 3) := by decide +kernel
theorem dX7_load_14 : decode cX7_load 14 = .ok (.iload_n 1, 1) := by decide +kernel
theorem dX7_load_15 : decode cX7_load 15 = .ok (.invokevirtual 126, 3) := by decide +kernel
theorem dX7_load_18 : decode cX7_load 18 = .ok (.ifCond .ne 6, 3) := by decide +kernel
theorem dX7_load_21 : decode cX7_load 21 = .ok (.bipush (-5), 2) := by decide +kernel
theorem dX7_load_23 : decode cX7_load 23 = .ok (.ireturn, 1) := by decide +kernel
theorem dX7_load_24 : decode cX7_load 24 = .ok (.aload_n 0, 1) := by decide +kernel
theorem dX7_load_25 : decode cX7_load 25 = .ok (.getfield 16, 3) := by decide +kernel
theorem dX7_load_28 : decode cX7_load 28 = .ok (.iload_n 1, 1) := by decide +kernel
theorem dX7_load_29 : decode cX7_load 29 = .ok (.invokevirtual 129, 3) := by decide +kernel
theorem dX7_load_32 : decode cX7_load 32 = .ok (.iload_n 1, 1) := by decide +kernel
theorem dX7_load_33 : decode cX7_load 33 = .ok (.iconst 1, 1) := by decide +kernel
theorem dX7_load_34 : decode cX7_load 34 = .ok (.iand, 1) := by decide +kernel
theorem dX7_load_35 : decode cX7_load 35 = .ok (.ireturn, 1) := by decide +kernel
theorem dX7_board_0 : decode cX7_board 0 = .ok (.aload_n 0, 1) := by decide +kernel
theorem dX7_board_1 : decode cX7_board 1 = .ok (.invokevirtual 132, 3) := by decide +kernel
theorem dX7_board_4 : decode cX7_board 4 = .ok (.ifCond .ne 6, 3) := by decide +kernel
theorem dX7_board_7 : decode cX7_board 7 = .ok (.bipush (-3), 2) := by decide +kernel
theorem dX7_board_9 : decode cX7_board 9 = .ok (.ireturn, 1) := by decide +kernel
theorem dX7_board_10 : decode cX7_board 10 = .ok (.aload_n 0, 1) := by decide +kernel
theorem dX7_board_11 : decode cX7_board 11 = .ok (.getfield 16, 3) := by decide +kernel
theorem dX7_board_14 : decode cX7_board 14 = .ok (.invokevirtual 135, 3) := by decide +kernel
theorem dX7_board_17 : decode cX7_board 17 = .ok (.istore_n 2, 1) := by decide +kernel
theorem dX7_board_18 : decode cX7_board 18 = .ok (.iload_n 1, 1) := by decide +kernel
theorem dX7_board_19 : decode cX7_board 19 = .ok (.tableswitch 142 0 9 #[53, 55, 59, 68, 77, 86, 95, 112, 121, 130], 53) := by decide +kernel
theorem dX7_board_72 : decode cX7_board 72 = .ok (.iload_n 2, 1) := by decide +kernel
theorem dX7_board_73 : decode cX7_board 73 = .ok (.ireturn, 1) := by decide +kernel
theorem dX7_board_74 : decode cX7_board 74 = .ok (.iload_n 2, 1) := by decide +kernel
theorem dX7_board_75 : decode cX7_board 75 = .ok (.iconst 1, 1) := by decide +kernel
theorem dX7_board_76 : decode cX7_board 76 = .ok (.iand, 1) := by decide +kernel
theorem dX7_board_77 : decode cX7_board 77 = .ok (.ireturn, 1) := by decide +kernel
theorem dX7_board_78 : decode cX7_board 78 = .ok (.aload_n 0, 1) := by decide +kernel
theorem dX7_board_79 : decode cX7_board 79 = .ok (.getfield 62, 3) := by decide +kernel
theorem dX7_board_82 : decode cX7_board 82 = .ok (.iload_n 2, 1) := by decide +kernel
theorem dX7_board_83 : decode cX7_board 83 = .ok (.invokevirtual 139, 3) := by decide +kernel
theorem dX7_board_86 : decode cX7_board 86 = .ok (.ireturn, 1) := by decide +kernel
theorem dX7_board_87 : decode cX7_board 87 = .ok (.aload_n 0, 1) := by decide +kernel
theorem dX7_board_88 : decode cX7_board 88 = .ok (.getfield 62, 3) := by decide +kernel
theorem dX7_board_91 : decode cX7_board 91 = .ok (.iload_n 2, 1) := by decide +kernel
theorem dX7_board_92 : decode cX7_board 92 = .ok (.invokevirtual 142, 3) := by decide +kernel
theorem dX7_board_95 : decode cX7_board 95 = .ok (.ireturn, 1) := by decide +kernel
theorem dX7_board_96 : decode cX7_board 96 = .ok (.aload_n 0, 1) := by decide +kernel
theorem dX7_board_97 : decode cX7_board 97 = .ok (.getfield 62, 3) := by decide +kernel
theorem dX7_board_100 : decode cX7_board 100 = .ok (.iload_n 2, 1) := by decide +kernel
theorem dX7_board_101 : decode cX7_board 101 = .ok (.invokevirtual 145, 3) := by decide +kernel
theorem dX7_board_104 : decode cX7_board 104 = .ok (.ireturn, 1) := by decide +kernel
theorem dX7_board_105 : decode cX7_board 105 = .ok (.aload_n 0, 1) := by decide +kernel
theorem dX7_board_106 : decode cX7_board 106 = .ok (.getfield 62, 3) := by decide +kernel
theorem dX7_board_109 : decode cX7_board 109 = .ok (.iload_n 2, 1) := by decide +kernel
theorem dX7_board_110 : decode cX7_board 110 = .ok (.invokevirtual 148, 3) := by decide +kernel
theorem dX7_board_113 : decode cX7_board 113 = .ok (.ireturn, 1) := by decide +kernel
theorem dX7_board_114 : decode cX7_board 114 = .ok (.aload_n 0, 1) := by decide +kernel
theorem dX7_board_115 : decode cX7_board 115 = .ok (.getfield 62, 3) := by decide +kernel
theorem dX7_board_118 : decode cX7_board 118 = .ok (.iload_n 2, 1) := by decide +kernel
theorem dX7_board_119 : decode cX7_board 119 = .ok (.invokevirtual 151, 3) := by decide +kernel
theorem dX7_board_122 : decode cX7_board 122 = .ok (.ifCond .eq 7, 3) := by decide +kernel
theorem dX7_board_125 : decode cX7_board 125 = .ok (.iconst 1, 1) := by decide +kernel
theorem dX7_board_126 : decode cX7_board 126 = .ok (.goto 4, 3) := by decide +kernel
theorem dX7_board_129 : decode cX7_board 129 = .ok (.iconst 0, 1) := by decide +kernel
theorem dX7_board_130 : decode cX7_board 130 = .ok (.ireturn, 1) := by decide +kernel
theorem dX7_board_131 : decode cX7_board 131 = .ok (.aload_n 0, 1) := by decide +kernel
theorem dX7_board_132 : decode cX7_board 132 = .ok (.getfield 62, 3) := by decide +kernel
theorem dX7_board_135 : decode cX7_board 135 = .ok (.iload_n 2, 1) := by decide +kernel
theorem dX7_board_136 : decode cX7_board 136 = .ok (.invokevirtual 154, 3) := by decide +kernel
theorem dX7_board_139 : decode cX7_board 139 = .ok (.ireturn, 1) := by decide +kernel
theorem dX7_board_140 : decode cX7_board 140 = .ok (.aload_n 0, 1) := by decide +kernel
theorem dX7_board_141 : decode cX7_board 141 = .ok (.getfield 62, 3) := by decide +kernel
theorem dX7_board_144 : decode cX7_board 144 = .ok (.iload_n 2, 1) := by decide +kernel
theorem dX7_board_145 : decode cX7_board 145 = .ok (.invokevirtual 157, 3) := by decide +kernel
theorem dX7_board_148 : decode cX7_board 148 = .ok (.ireturn, 1) := by decide +kernel
theorem dX7_board_149 : decode cX7_board 149 = .ok (.aload_n 0, 1) := by decide +kernel
theorem dX7_board_150 : decode cX7_board 150 = .ok (.getfield 62, 3) := by decide +kernel
theorem dX7_board_153 : decode cX7_board 153 = .ok (.getfield 103, 3) := by decide +kernel
theorem dX7_board_156 : decode cX7_board 156 = .ok (.iload_n 2, 1) := by decide +kernel
theorem dX7_board_157 : decode cX7_board 157 = .ok (.invokevirtual 160, 3) := by decide +kernel
theorem dX7_board_160 : decode cX7_board 160 = .ok (.ireturn, 1) := by decide +kernel
theorem dX7_board_161 : decode cX7_board 161 = .ok (.aload_n 0, 1) := by decide +kernel
theorem dX7_board_162 : decode cX7_board 162 = .ok (.iload_n 1, 1) := by decide +kernel
theorem dX7_board_163 : decode cX7_board 163 = .ok (.bipush 10, 2) := by decide +kernel
theorem dX7_board_165 : decode cX7_board 165 = .ok (.isub, 1) := by decide +kernel
theorem dX7_board_166 : decode cX7_board 166 = .ok (.iload_n 2, 1) := by decide +kernel
theorem dX7_board_167 : decode cX7_board 167 = .ok (.invokevirtual 163, 3) := by decide +kernel
theorem dX7_board_170 : decode cX7_board 170 = .ok (.ireturn, 1) := by decide +kernel
theorem dX7_move_0 : decode cX7_move 0 = .ok (.aload_n 0, 1) := by decide +kernel
theorem dX7_move_1 : decode cX7_move 1 = .ok (.invokevirtual 132, 3) := by decide +kernel
theorem dX7_move_4 : decode cX7_move 4 = .ok (.ifCond .ne 6, 3) := by decide +kernel
theorem dX7_move_7 : decode cX7_move 7 = .ok (.bipush (-3), 2) := by decide +kernel
theorem dX7_move_9 : decode cX7_move 9 = .ok (.ireturn, 1) := by decide +kernel
theorem dX7_move_10 : decode cX7_move 10 = .ok (.aload_n 0, 1) := by decide +kernel
theorem dX7_move_11 : decode cX7_move 11 = .ok (.getfield 16, 3) := by decide +kernel
theorem dX7_move_14 : decode cX7_move 14 = .ok (.invokevirtual 135, 3) := by decide +kernel
theorem dX7_move_17 : decode cX7_move 17 = .ok (.istore_n 3, 1) := by decide +kernel
theorem dX7_move_18 : decode cX7_move 18 = .ok (.aload_n 0, 1) := by decide +kernel
theorem dX7_move_19 : decode cX7_move 19 = .ok (.getfield 62, 3) := by decide +kernel
theorem dX7_move_22 : decode cX7_move 22 = .ok (.iload_n 3, 1) := by decide +kernel
theorem dX7_move_23 : decode cX7_move 23 = .ok (.iload_n 1, 1) := by decide +kernel
theorem dX7_move_24 : decode cX7_move 24 = .ok (.invokevirtual 167, 3) := by decide +kernel
theorem dX7_move_27 : decode cX7_move 27 = .ok (.istore 4, 2) := by decide +kernel
theorem dX7_move_29 : decode cX7_move 29 = .ok (.iload 4, 2) := by decide +kernel
theorem dX7_move_31 : decode cX7_move 31 = .ok (.ifCond .ge 5, 3) := by decide +kernel
theorem dX7_move_34 : decode cX7_move 34 = .ok (.iconst (-1), 1) := by decide +kernel
theorem dX7_move_35 : decode cX7_move 35 = .ok (.ireturn, 1) := by decide +kernel
theorem dX7_move_36 : decode cX7_move 36 = .ok (.aload_n 0, 1) := by decide +kernel
theorem dX7_move_37 : decode cX7_move 37 = .ok (.getfield 62, 3) := by decide +kernel
theorem dX7_move_40 : decode cX7_move 40 = .ok (.getfield 69, 3) := by decide +kernel
theorem dX7_move_43 : decode cX7_move 43 = .ok (.iload_n 3, 1) := by decide +kernel
theorem dX7_move_44 : decode cX7_move 44 = .ok (.iload 4, 2) := by decide +kernel
theorem dX7_move_46 : decode cX7_move 46 = .ok (.iload_n 3, 1) := by decide +kernel
theorem dX7_move_47 : decode cX7_move 47 = .ok (.iconst 1, 1) := by decide +kernel
theorem dX7_move_48 : decode cX7_move 48 = .ok (.iand, 1) := by decide +kernel
theorem dX7_move_49 : decode cX7_move 49 = .ok (.invokevirtual 170, 3) := by decide +kernel
theorem dX7_move_52 : decode cX7_move 52 = .ok (.istore 5, 2) := by decide +kernel
theorem dX7_move_54 : decode cX7_move 54 = .ok (.iload_n 2, 1) := by decide +kernel
theorem dX7_move_55 : decode cX7_move 55 = .ok (.tableswitch 100 0 6 #[41, 44, 59, 67, 77, 87, 97], 41) := by decide +kernel
theorem dX7_move_96 : decode cX7_move 96 = .ok (.iload 5, 2) := by decide +kernel
theorem dX7_move_98 : decode cX7_move 98 = .ok (.ireturn, 1) := by decide +kernel
theorem dX7_move_99 : decode cX7_move 99 = .ok (.aload_n 0, 1) := by decide +kernel
theorem dX7_move_100 : decode cX7_move 100 = .ok (.getfield 62, 3) := by decide +kernel
theorem dX7_move_103 : decode cX7_move 103 = .ok (.getfield 69, 3) := by decide +kernel
theorem dX7_move_106 : decode cX7_move 106 = .ok (.iload 4, 2) := by decide +kernel
theorem dX7_move_108 : decode cX7_move 108 = .ok (.iload 5, 2) := by decide +kernel
theorem dX7_move_110 : decode cX7_move 110 = .ok (.invokevirtual 174, 3) := by decide +kernel
theorem dX7_move_113 : decode cX7_move 113 = .ok (.ireturn, 1) := by decide +kernel
theorem dX7_move_114 : decode cX7_move 114 = .ok (.aload_n 0, 1) := by decide +kernel
theorem dX7_move_115 : decode cX7_move 115 = .ok (.iload_n 3, 1) := by decide +kernel
theorem dX7_move_116 : decode cX7_move 116 = .ok (.iload 4, 2) := by decide +kernel
theorem dX7_move_118 : decode cX7_move 118 = .ok (.invokevirtual 177, 3) := by decide +kernel
theorem dX7_move_121 : decode cX7_move 121 = .ok (.ireturn, 1) := by decide +kernel
theorem dX7_move_122 : decode cX7_move 122 = .ok (.aload_n 0, 1) := by decide +kernel
theorem dX7_move_123 : decode cX7_move 123 = .ok (.getfield 62, 3) := by decide +kernel
theorem dX7_move_126 : decode cX7_move 126 = .ok (.iload 4, 2) := by decide +kernel
theorem dX7_move_128 : decode cX7_move 128 = .ok (.invokevirtual 139, 3) := by decide +kernel
theorem dX7_move_131 : decode cX7_move 131 = .ok (.ireturn, 1) := by decide +kernel
theorem dX7_move_132 : decode cX7_move 132 = .ok (.aload_n 0, 1) := by decide +kernel
theorem dX7_move_133 : decode cX7_move 133 = .ok (.getfield 62, 3) := by decide +kernel
theorem dX7_move_136 : decode cX7_move 136 = .ok (.iload 4, 2) := by decide +kernel
theorem dX7_move_138 : decode cX7_move 138 = .ok (.invokevirtual 142, 3) := by decide +kernel
theorem dX7_move_141 : decode cX7_move 141 = .ok (.ireturn, 1) := by decide +kernel
theorem dX7_move_142 : decode cX7_move 142 = .ok (.aload_n 0, 1) := by decide +kernel
theorem dX7_move_143 : decode cX7_move 143 = .ok (.getfield 62, 3) := by decide +kernel
theorem dX7_move_146 : decode cX7_move 146 = .ok (.iload 4, 2) := by decide +kernel
theorem dX7_move_148 : decode cX7_move 148 = .ok (.invokevirtual 145, 3) := by decide +kernel
theorem dX7_move_151 : decode cX7_move 151 = .ok (.ireturn, 1) := by decide +kernel
theorem dX7_move_152 : decode cX7_move 152 = .ok (.iload 4, 2) := by decide +kernel
theorem dX7_move_154 : decode cX7_move 154 = .ok (.ireturn, 1) := by decide +kernel
theorem dX7_move_155 : decode cX7_move 155 = .ok (.iconst (-1), 1) := by decide +kernel
theorem dX7_move_156 : decode cX7_move 156 = .ok (.ireturn, 1) := by decide +kernel
theorem dX7_make_0 : decode cX7_make 0 = .ok (.aload_n 0, 1) := by decide +kernel
theorem dX7_make_1 : decode cX7_make 1 = .ok (.invokevirtual 132, 3) := by decide +kernel
theorem dX7_make_4 : decode cX7_make 4 = .ok (.ifCond .ne 6, 3) := by decide +kernel
theorem dX7_make_7 : decode cX7_make 7 = .ok (.bipush (-3), 2) := by decide +kernel
theorem dX7_make_9 : decode cX7_make 9 = .ok (.ireturn, 1) := by decide +kernel
theorem dX7_make_10 : decode cX7_make 10 = .ok (.aload_n 0, 1) := by decide +kernel
theorem dX7_make_11 : decode cX7_make 11 = .ok (.getfield 62, 3) := by decide +kernel
theorem dX7_make_14 : decode cX7_make 14 = .ok (.aload_n 0, 1) := by decide +kernel
theorem dX7_make_15 : decode cX7_make 15 = .ok (.getfield 16, 3) := by decide +kernel
theorem dX7_make_18 : decode cX7_make 18 = .ok (.invokevirtual 135, 3) := by decide +kernel
theorem dX7_make_21 : decode cX7_make 21 = .ok (.iload_n 1, 1) := by decide +kernel
theorem dX7_make_22 : decode cX7_make 22 = .ok (.invokevirtual 167, 3) := by decide +kernel
theorem dX7_make_25 : decode cX7_make 25 = .ok (.istore_n 2, 1) := by decide +kernel
theorem dX7_make_26 : decode cX7_make 26 = .ok (.iload_n 2, 1) := by decide +kernel
theorem dX7_make_27 : decode cX7_make 27 = .ok (.ifCond .ge 5, 3) := by decide +kernel
theorem dX7_make_30 : decode cX7_make 30 = .ok (.iconst (-1), 1) := by decide +kernel
theorem dX7_make_31 : decode cX7_make 31 = .ok (.ireturn, 1) := by decide +kernel
theorem dX7_make_32 : decode cX7_make 32 = .ok (.aload_n 0, 1) := by decide +kernel
theorem dX7_make_33 : decode cX7_make 33 = .ok (.getfield 16, 3) := by decide +kernel
theorem dX7_make_36 : decode cX7_make 36 = .ok (.invokevirtual 180, 3) := by decide +kernel
theorem dX7_make_39 : decode cX7_make 39 = .ok (.bipush 40, 2) := by decide +kernel
theorem dX7_make_41 : decode cX7_make 41 = .ok (.if_icmp .lt 6, 3) := by decide +kernel
theorem dX7_make_44 : decode cX7_make 44 = .ok (.bipush (-4), 2) := by decide +kernel
theorem dX7_make_46 : decode cX7_make 46 = .ok (.ireturn, 1) := by decide +kernel
theorem dX7_make_47 : decode cX7_make 47 = .ok (.aload_n 0, 1) := by decide +kernel
theorem dX7_make_48 : decode cX7_make 48 = .ok (.getfield 16, 3) := by decide +kernel
theorem dX7_make_51 : decode cX7_make 51 = .ok (.iload_n 2, 1) := by decide +kernel
theorem dX7_make_52 : decode cX7_make 52 = .ok (.invokevirtual 183, 3) := by decide +kernel
theorem dX7_make_55 : decode cX7_make 55 = .ok (.aload_n 0, 1) := by decide +kernel
theorem dX7_make_56 : decode cX7_make 56 = .ok (.getfield 16, 3) := by decide +kernel
theorem dX7_make_59 : decode cX7_make 59 = .ok (.invokevirtual 186, 3) := by decide +kernel
theorem dX7_make_62 : decode cX7_make 62 = .ok (.ireturn, 1) := by decide +kernel
theorem dX7_back_0 : decode cX7_back 0 = .ok (.aload_n 0, 1) := by decide +kernel
theorem dX7_back_1 : decode cX7_back 1 = .ok (.invokevirtual 132, 3) := by decide +kernel
theorem dX7_back_4 : decode cX7_back 4 = .ok (.ifCond .eq 14, 3) := by decide +kernel
theorem dX7_back_7 : decode cX7_back 7 = .ok (.aload_n 0, 1) := by decide +kernel
theorem dX7_back_8 : decode cX7_back 8 = .ok (.getfield 16, 3) := by decide +kernel
theorem dX7_back_11 : decode cX7_back 11 = .ok (.invokevirtual 180, 3) := by decide +kernel
theorem dX7_back_14 : decode cX7_back 14 = .ok (.iconst 1, 1) := by decide +kernel
theorem dX7_back_15 : decode cX7_back 15 = .ok (.if_icmp .ge 6, 3) := by decide +kernel
theorem dX7_back_18 : decode cX7_back 18 = .ok (.bipush (-3), 2) := by decide +kernel
theorem dX7_back_20 : decode cX7_back 20 = .ok (.ireturn, 1) := by decide +kernel
theorem dX7_back_21 : decode cX7_back 21 = .ok (.aload_n 0, 1) := by decide +kernel
theorem dX7_back_22 : decode cX7_back 22 = .ok (.getfield 16, 3) := by decide +kernel
theorem dX7_back_25 : decode cX7_back 25 = .ok (.invokevirtual 189, 3) := by decide +kernel
theorem dX7_back_28 : decode cX7_back 28 = .ok (.aload_n 0, 1) := by decide +kernel
theorem dX7_back_29 : decode cX7_back 29 = .ok (.getfield 16, 3) := by decide +kernel
theorem dX7_back_32 : decode cX7_back 32 = .ok (.invokevirtual 180, 3) := by decide +kernel
theorem dX7_back_35 : decode cX7_back 35 = .ok (.ireturn, 1) := by decide +kernel
theorem dX7_best_0 : decode cX7_best 0 = .ok (.aload_n 0, 1) := by decide +kernel
theorem dX7_best_1 : decode cX7_best 1 = .ok (.invokevirtual 132, 3) := by decide +kernel
theorem dX7_best_4 : decode cX7_best 4 = .ok (.ifCond .ne 6, 3) := by decide +kernel
theorem dX7_best_7 : decode cX7_best 7 = .ok (.bipush (-3), 2) := by decide +kernel
theorem dX7_best_9 : decode cX7_best 9 = .ok (.ireturn, 1) := by decide +kernel
theorem dX7_best_10 : decode cX7_best 10 = .ok (.aload_n 0, 1) := by decide +kernel
theorem dX7_best_11 : decode cX7_best 11 = .ok (.getfield 62, 3) := by decide +kernel
theorem dX7_best_14 : decode cX7_best 14 = .ok (.aload_n 0, 1) := by decide +kernel
theorem dX7_best_15 : decode cX7_best 15 = .ok (.getfield 16, 3) := by decide +kernel
theorem dX7_best_18 : decode cX7_best 18 = .ok (.invokevirtual 135, 3) := by decide +kernel
theorem dX7_best_21 : decode cX7_best 21 = .ok (.invokevirtual 192, 3) := by decide +kernel
theorem dX7_best_24 : decode cX7_best 24 = .ok (.istore_n 1, 1) := by decide +kernel
theorem dX7_best_25 : decode cX7_best 25 = .ok (.iload_n 1, 1) := by decide +kernel
theorem dX7_best_26 : decode cX7_best 26 = .ok (.ifCond .ge 8, 3) := by decide +kernel
theorem dX7_best_29 : decode cX7_best 29 = .ok (.bipush (-5), 2) := by decide +kernel
theorem dX7_best_31 : decode cX7_best 31 = .ok (.goto 4, 3) := by decide +kernel
theorem dX7_best_34 : decode cX7_best 34 = .ok (.iload_n 1, 1) := by decide +kernel
theorem dX7_best_35 : decode cX7_best 35 = .ok (.ireturn, 1) := by decide +kernel
theorem dX7_line_0 : decode cX7_line 0 = .ok (.aload_n 0, 1) := by decide +kernel
theorem dX7_line_1 : decode cX7_line 1 = .ok (.invokevirtual 132, 3) := by decide +kernel
theorem dX7_line_4 : decode cX7_line 4 = .ok (.ifCond .ne 6, 3) := by decide +kernel
theorem dX7_line_7 : decode cX7_line 7 = .ok (.bipush (-3), 2) := by decide +kernel
theorem dX7_line_9 : decode cX7_line 9 = .ok (.ireturn, 1) := by decide +kernel
theorem dX7_line_10 : decode cX7_line 10 = .ok (.iload_n 1, 1) := by decide +kernel
theorem dX7_line_11 : decode cX7_line 11 = .ok (.ifCond .eq 8, 3) := by decide +kernel
theorem dX7_line_14 : decode cX7_line 14 = .ok (.iload_n 1, 1) := by decide +kernel
theorem dX7_line_15 : decode cX7_line 15 = .ok (.iconst (-1), 1) := by decide +kernel
theorem dX7_line_16 : decode cX7_line 16 = .ok (.if_icmp .ge 5, 3) := by decide +kernel
theorem dX7_line_19 : decode cX7_line 19 = .ok (.iconst (-1), 1) := by decide +kernel
theorem dX7_line_20 : decode cX7_line 20 = .ok (.ireturn, 1) := by decide +kernel
theorem dX7_line_21 : decode cX7_line 21 = .ok (.aload_n 0, 1) := by decide +kernel
theorem dX7_line_22 : decode cX7_line 22 = .ok (.getfield 62, 3) := by decide +kernel
theorem dX7_line_25 : decode cX7_line 25 = .ok (.aload_n 0, 1) := by decide +kernel
theorem dX7_line_26 : decode cX7_line 26 = .ok (.getfield 16, 3) := by decide +kernel
theorem dX7_line_29 : decode cX7_line 29 = .ok (.invokevirtual 135, 3) := by decide +kernel
theorem dX7_line_32 : decode cX7_line 32 = .ok (.invokevirtual 195, 3) := by decide +kernel
theorem dX7_line_35 : decode cX7_line 35 = .ok (.istore_n 2, 1) := by decide +kernel
theorem dX7_line_36 : decode cX7_line 36 = .ok (.iload_n 1, 1) := by decide +kernel
theorem dX7_line_37 : decode cX7_line 37 = .ok (.iconst (-1), 1) := by decide +kernel
theorem dX7_line_38 : decode cX7_line 38 = .ok (.if_icmp .ne 5, 3) := by decide +kernel
theorem dX7_line_41 : decode cX7_line 41 = .ok (.iload_n 2, 1) := by decide +kernel
theorem dX7_line_42 : decode cX7_line 42 = .ok (.ireturn, 1) := by decide +kernel
theorem dX7_line_43 : decode cX7_line 43 = .ok (.iload_n 1, 1) := by decide +kernel
theorem dX7_line_44 : decode cX7_line 44 = .ok (.iload_n 2, 1) := by decide +kernel
theorem dX7_line_45 : decode cX7_line 45 = .ok (.if_icmp .gt 14, 3) := by decide +kernel
theorem dX7_line_48 : decode cX7_line 48 = .ok (.aload_n 0, 1) := by decide +kernel
theorem dX7_line_49 : decode cX7_line 49 = .ok (.getfield 62, 3) := by decide +kernel
theorem dX7_line_52 : decode cX7_line 52 = .ok (.iload_n 1, 1) := by decide +kernel
theorem dX7_line_53 : decode cX7_line 53 = .ok (.invokevirtual 198, 3) := by decide +kernel
theorem dX7_line_56 : decode cX7_line 56 = .ok (.goto 4, 3) := by decide +kernel
theorem dX7_line_59 : decode cX7_line 59 = .ok (.iconst (-1), 1) := by decide +kernel
theorem dX7_line_60 : decode cX7_line 60 = .ok (.ireturn, 1) := by decide +kernel
theorem dX7_search_0 : decode cX7_search 0 = .ok (.aload_n 0, 1) := by decide +kernel
theorem dX7_search_1 : decode cX7_search 1 = .ok (.invokevirtual 132, 3) := by decide +kernel
theorem dX7_search_4 : decode cX7_search 4 = .ok (.ifCond .ne 6, 3) := by decide +kernel
theorem dX7_search_7 : decode cX7_search 7 = .ok (.bipush (-3), 2) := by decide +kernel
theorem dX7_search_9 : decode cX7_search 9 = .ok (.ireturn, 1) := by decide +kernel
theorem dX7_search_10 : decode cX7_search 10 = .ok (.iload_n 1, 1) := by decide +kernel
theorem dX7_search_11 : decode cX7_search 11 = .ok (.ifCond .lt 8, 3) := by decide +kernel
theorem dX7_search_14 : decode cX7_search 14 = .ok (.iload_n 1, 1) := by decide +kernel
theorem dX7_search_15 : decode cX7_search 15 = .ok (.iconst 4, 1) := by decide +kernel
theorem dX7_search_16 : decode cX7_search 16 = .ok (.if_icmp .le 6, 3) := by decide +kernel
theorem dX7_search_19 : decode cX7_search 19 = .ok (.bipush (-2), 2) := by decide +kernel
theorem dX7_search_21 : decode cX7_search 21 = .ok (.ireturn, 1) := by decide +kernel
theorem dX7_search_22 : decode cX7_search 22 = .ok (.aload_n 0, 1) := by decide +kernel
theorem dX7_search_23 : decode cX7_search 23 = .ok (.getfield 62, 3) := by decide +kernel
theorem dX7_search_26 : decode cX7_search 26 = .ok (.aload_n 0, 1) := by decide +kernel
theorem dX7_search_27 : decode cX7_search 27 = .ok (.getfield 16, 3) := by decide +kernel
theorem dX7_search_30 : decode cX7_search 30 = .ok (.invokevirtual 135, 3) := by decide +kernel
theorem dX7_search_33 : decode cX7_search 33 = .ok (.iload_n 1, 1) := by decide +kernel
theorem dX7_search_34 : decode cX7_search 34 = .ok (.invokestatic 201, 3) := by decide +kernel
theorem dX7_search_37 : decode cX7_search 37 = .ok (.ireturn, 1) := by decide +kernel
theorem dX7_positions_0 : decode cX7_positions 0 = .ok (.aload_n 0, 1) := by decide +kernel
theorem dX7_positions_1 : decode cX7_positions 1 = .ok (.getfield 62, 3) := by decide +kernel
theorem dX7_positions_4 : decode cX7_positions 4 = .ok (.ifnonnull 6, 3) := by decide +kernel
theorem dX7_positions_7 : decode cX7_positions 7 = .ok (.bipush (-3), 2) := by decide +kernel
theorem dX7_positions_9 : decode cX7_positions 9 = .ok (.ireturn, 1) := by decide +kernel
theorem dX7_positions_10 : decode cX7_positions 10 = .ok (.iload_n 1, 1) := by decide +kernel
theorem dX7_positions_11 : decode cX7_positions 11 = .ok (.ifCond .lt 18, 3) := by decide +kernel
theorem dX7_positions_14 : decode cX7_positions 14 = .ok (.iload_n 1, 1) := by decide +kernel
theorem dX7_positions_15 : decode cX7_positions 15 = .ok (.iconst 1, 1) := by decide +kernel
theorem dX7_positions_16 : decode cX7_positions 16 = .ok (.if_icmp .gt 13, 3) := by decide +kernel
theorem dX7_positions_19 : decode cX7_positions 19 = .ok (.iload_n 2, 1) := by decide +kernel
theorem dX7_positions_20 : decode cX7_positions 20 = .ok (.iconst (-1), 1) := by decide +kernel
theorem dX7_positions_21 : decode cX7_positions 21 = .ok (.if_icmp .lt 8, 3) := by decide +kernel
theorem dX7_positions_24 : decode cX7_positions 24 = .ok (.iload_n 2, 1) := by decide +kernel
theorem dX7_positions_25 : decode cX7_positions 25 = .ok (.iconst 1, 1) := by decide +kernel
theorem dX7_positions_26 : decode cX7_positions 26 = .ok (.if_icmp .le 5, 3) := by decide +kernel
theorem dX7_positions_29 : decode cX7_positions 29 = .ok (.iconst (-1), 1) := by decide +kernel
theorem dX7_positions_30 : decode cX7_positions 30 = .ok (.ireturn, 1) := by decide +kernel
theorem dX7_positions_31 : decode cX7_positions 31 = .ok (.iload_n 3, 1) := by decide +kernel
theorem dX7_positions_32 : decode cX7_positions 32 = .ok (.ifCond .lt 8, 3) := by decide +kernel
theorem dX7_positions_35 : decode cX7_positions 35 = .ok (.iload_n 3, 1) := by decide +kernel
theorem dX7_positions_36 : decode cX7_positions 36 = .ok (.iconst 2, 1) := by decide +kernel
theorem dX7_positions_37 : decode cX7_positions 37 = .ok (.if_icmp .le 5, 3) := by decide +kernel
theorem dX7_positions_40 : decode cX7_positions 40 = .ok (.iconst (-1), 1) := by decide +kernel
theorem dX7_positions_41 : decode cX7_positions 41 = .ok (.ireturn, 1) := by decide +kernel
theorem dX7_positions_42 : decode cX7_positions 42 = .ok (.aload_n 0, 1) := by decide +kernel
theorem dX7_positions_43 : decode cX7_positions 43 = .ok (.getfield 62, 3) := by decide +kernel
theorem dX7_positions_46 : decode cX7_positions 46 = .ok (.iload_n 1, 1) := by decide +kernel
theorem dX7_positions_47 : decode cX7_positions 47 = .ok (.iload_n 2, 1) := by decide +kernel
theorem dX7_positions_48 : decode cX7_positions 48 = .ok (.iload_n 3, 1) := by decide +kernel
theorem dX7_positions_49 : decode cX7_positions 49 = .ok (.invokevirtual 205, 3) := by decide +kernel
theorem dX7_positions_52 : decode cX7_positions 52 = .ok (.ireturn, 1) := by decide +kernel
theorem dX7_spread_0 : decode cX7_spread 0 = .ok (.aload_n 0, 1) := by decide +kernel
theorem dX7_spread_1 : decode cX7_spread 1 = .ok (.getfield 62, 3) := by decide +kernel
theorem dX7_spread_4 : decode cX7_spread 4 = .ok (.ifnonnull 6, 3) := by decide +kernel
theorem dX7_spread_7 : decode cX7_spread 7 = .ok (.bipush (-3), 2) := by decide +kernel
theorem dX7_spread_9 : decode cX7_spread 9 = .ok (.ireturn, 1) := by decide +kernel
theorem dX7_spread_10 : decode cX7_spread 10 = .ok (.iload_n 1, 1) := by decide +kernel
theorem dX7_spread_11 : decode cX7_spread 11 = .ok (.ifCond .lt 17, 3) := by decide +kernel
theorem dX7_spread_14 : decode cX7_spread 14 = .ok (.iload_n 1, 1) := by decide +kernel
theorem dX7_spread_15 : decode cX7_spread 15 = .ok (.iconst 1, 1) := by decide +kernel
theorem dX7_spread_16 : decode cX7_spread 16 = .ok (.if_icmp .gt 12, 3) := by decide +kernel
theorem dX7_spread_19 : decode cX7_spread 19 = .ok (.iload_n 2, 1) := by decide +kernel
theorem dX7_spread_20 : decode cX7_spread 20 = .ok (.ifCond .lt 8, 3) := by decide +kernel
theorem dX7_spread_23 : decode cX7_spread 23 = .ok (.iload_n 2, 1) := by decide +kernel
theorem dX7_spread_24 : decode cX7_spread 24 = .ok (.iconst 1, 1) := by decide +kernel
theorem dX7_spread_25 : decode cX7_spread 25 = .ok (.if_icmp .le 5, 3) := by decide +kernel
theorem dX7_spread_28 : decode cX7_spread 28 = .ok (.iconst (-1), 1) := by decide +kernel
theorem dX7_spread_29 : decode cX7_spread 29 = .ok (.ireturn, 1) := by decide +kernel
theorem dX7_spread_30 : decode cX7_spread 30 = .ok (.iload_n 3, 1) := by decide +kernel
theorem dX7_spread_31 : decode cX7_spread 31 = .ok (.ifCond .ge 6, 3) := by decide +kernel
theorem dX7_spread_34 : decode cX7_spread 34 = .ok (.bipush (-2), 2) := by decide +kernel
theorem dX7_spread_36 : decode cX7_spread 36 = .ok (.ireturn, 1) := by decide +kernel
theorem dX7_spread_37 : decode cX7_spread 37 = .ok (.aload_n 0, 1) := by decide +kernel
theorem dX7_spread_38 : decode cX7_spread 38 = .ok (.getfield 62, 3) := by decide +kernel
theorem dX7_spread_41 : decode cX7_spread 41 = .ok (.iload_n 1, 1) := by decide +kernel
theorem dX7_spread_42 : decode cX7_spread 42 = .ok (.iload_n 2, 1) := by decide +kernel
theorem dX7_spread_43 : decode cX7_spread 43 = .ok (.iload_n 3, 1) := by decide +kernel
theorem dX7_spread_44 : decode cX7_spread 44 = .ok (.invokevirtual 208, 3) := by decide +kernel
theorem dX7_spread_47 : decode cX7_spread 47 = .ok (.ireturn, 1) := by decide +kernel
theorem dX7_longest_0 : decode cX7_longest 0 = .ok (.aload_n 0, 1) := by decide +kernel
theorem dX7_longest_1 : decode cX7_longest 1 = .ok (.getfield 62, 3) := by decide +kernel
theorem dX7_longest_4 : decode cX7_longest 4 = .ok (.ifnonnull 6, 3) := by decide +kernel
theorem dX7_longest_7 : decode cX7_longest 7 = .ok (.bipush (-3), 2) := by decide +kernel
theorem dX7_longest_9 : decode cX7_longest 9 = .ok (.ireturn, 1) := by decide +kernel
theorem dX7_longest_10 : decode cX7_longest 10 = .ok (.iload_n 1, 1) := by decide +kernel
theorem dX7_longest_11 : decode cX7_longest 11 = .ok (.ifCond .lt 17, 3) := by decide +kernel
theorem dX7_longest_14 : decode cX7_longest 14 = .ok (.iload_n 1, 1) := by decide +kernel
theorem dX7_longest_15 : decode cX7_longest 15 = .ok (.iconst 1, 1) := by decide +kernel
theorem dX7_longest_16 : decode cX7_longest 16 = .ok (.if_icmp .gt 12, 3) := by decide +kernel
theorem dX7_longest_19 : decode cX7_longest 19 = .ok (.iload_n 2, 1) := by decide +kernel
theorem dX7_longest_20 : decode cX7_longest 20 = .ok (.ifCond .lt 8, 3) := by decide +kernel
theorem dX7_longest_23 : decode cX7_longest 23 = .ok (.iload_n 2, 1) := by decide +kernel
theorem dX7_longest_24 : decode cX7_longest 24 = .ok (.iconst 1, 1) := by decide +kernel
theorem dX7_longest_25 : decode cX7_longest 25 = .ok (.if_icmp .le 5, 3) := by decide +kernel
theorem dX7_longest_28 : decode cX7_longest 28 = .ok (.iconst (-1), 1) := by decide +kernel
theorem dX7_longest_29 : decode cX7_longest 29 = .ok (.ireturn, 1) := by decide +kernel
theorem dX7_longest_30 : decode cX7_longest 30 = .ok (.aload_n 0, 1) := by decide +kernel
theorem dX7_longest_31 : decode cX7_longest 31 = .ok (.getfield 62, 3) := by decide +kernel
theorem dX7_longest_34 : decode cX7_longest 34 = .ok (.iload_n 1, 1) := by decide +kernel
theorem dX7_longest_35 : decode cX7_longest 35 = .ok (.invokevirtual 211, 3) := by decide +kernel
theorem dX7_longest_38 : decode cX7_longest 38 = .ok (.istore_n 3, 1) := by decide +kernel
theorem dX7_longest_39 : decode cX7_longest 39 = .ok (.iload_n 3, 1) := by decide +kernel
theorem dX7_longest_40 : decode cX7_longest 40 = .ok (.ifCond .ge 6, 3) := by decide +kernel
theorem dX7_longest_43 : decode cX7_longest 43 = .ok (.bipush (-5), 2) := by decide +kernel
theorem dX7_longest_45 : decode cX7_longest 45 = .ok (.ireturn, 1) := by decide +kernel
theorem dX7_longest_46 : decode cX7_longest 46 = .ok (.iload_n 2, 1) := by decide +kernel
theorem dX7_longest_47 : decode cX7_longest 47 = .ok (.iconst 1, 1) := by decide +kernel
theorem dX7_longest_48 : decode cX7_longest 48 = .ok (.if_icmp .ne 7, 3) := by decide +kernel
theorem dX7_longest_51 : decode cX7_longest 51 = .ok (.iload_n 3, 1) := by decide +kernel
theorem dX7_longest_52 : decode cX7_longest 52 = .ok (.goto 12, 3) := by decide +kernel
theorem dX7_longest_55 : decode cX7_longest 55 = .ok (.aload_n 0, 1) := by decide +kernel
theorem dX7_longest_56 : decode cX7_longest 56 = .ok (.getfield 62, 3) := by decide +kernel
theorem dX7_longest_59 : decode cX7_longest 59 = .ok (.iload_n 1, 1) := by decide +kernel
theorem dX7_longest_60 : decode cX7_longest 60 = .ok (.iload_n 3, 1) := by decide +kernel
theorem dX7_longest_61 : decode cX7_longest 61 = .ok (.invokevirtual 214, 3) := by decide +kernel
theorem dX7_longest_64 : decode cX7_longest 64 = .ok (.ireturn, 1) := by decide +kernel
theorem dX7_zugzwang_0 : decode cX7_zugzwang 0 = .ok (.aload_n 0, 1) := by decide +kernel
theorem dX7_zugzwang_1 : decode cX7_zugzwang 1 = .ok (.getfield 62, 3) := by decide +kernel
theorem dX7_zugzwang_4 : decode cX7_zugzwang 4 = .ok (.ifnonnull 6, 3) := by decide +kernel
theorem dX7_zugzwang_7 : decode cX7_zugzwang 7 = .ok (.bipush (-3), 2) := by decide +kernel
theorem dX7_zugzwang_9 : decode cX7_zugzwang 9 = .ok (.ireturn, 1) := by decide +kernel
theorem dX7_zugzwang_10 : decode cX7_zugzwang 10 = .ok (.iload_n 1, 1) := by decide +kernel
theorem dX7_zugzwang_11 : decode cX7_zugzwang 11 = .ok (.iconst (-1), 1) := by decide +kernel
theorem dX7_zugzwang_12 : decode cX7_zugzwang 12 = .ok (.if_icmp .ge 5, 3) := by decide +kernel
theorem dX7_zugzwang_15 : decode cX7_zugzwang 15 = .ok (.iconst (-1), 1) := by decide +kernel
theorem dX7_zugzwang_16 : decode cX7_zugzwang 16 = .ok (.ireturn, 1) := by decide +kernel
theorem dX7_zugzwang_17 : decode cX7_zugzwang 17 = .ok (.iload_n 1, 1) := by decide +kernel
theorem dX7_zugzwang_18 : decode cX7_zugzwang 18 = .ok (.iconst (-1), 1) := by decide +kernel
theorem dX7_zugzwang_19 : decode cX7_zugzwang 19 = .ok (.if_icmp .ne 13, 3) := by decide +kernel
theorem dX7_zugzwang_22 : decode cX7_zugzwang 22 = .ok (.aload_n 0, 1) := by decide +kernel
theorem dX7_zugzwang_23 : decode cX7_zugzwang 23 = .ok (.getfield 62, 3) := by decide +kernel
theorem dX7_zugzwang_26 : decode cX7_zugzwang 26 = .ok (.invokevirtual 217, 3) := by decide +kernel
theorem dX7_zugzwang_29 : decode cX7_zugzwang 29 = .ok (.goto 11, 3) := by decide +kernel
theorem dX7_zugzwang_32 : decode cX7_zugzwang 32 = .ok (.aload_n 0, 1) := by decide +kernel
theorem dX7_zugzwang_33 : decode cX7_zugzwang 33 = .ok (.getfield 62, 3) := by decide +kernel
theorem dX7_zugzwang_36 : decode cX7_zugzwang 36 = .ok (.iload_n 1, 1) := by decide +kernel
theorem dX7_zugzwang_37 : decode cX7_zugzwang 37 = .ok (.invokevirtual 220, 3) := by decide +kernel
theorem dX7_zugzwang_40 : decode cX7_zugzwang 40 = .ok (.ireturn, 1) := by decide +kernel
theorem dX7_unlike_0 : decode cX7_unlike 0 = .ok (.aload_n 0, 1) := by decide +kernel
theorem dX7_unlike_1 : decode cX7_unlike 1 = .ok (.invokevirtual 132, 3) := by decide +kernel
theorem dX7_unlike_4 : decode cX7_unlike 4 = .ok (.ifCond .ne 6, 3) := by decide +kernel
theorem dX7_unlike_7 : decode cX7_unlike 7 = .ok (.bipush (-3), 2) := by decide +kernel
theorem dX7_unlike_9 : decode cX7_unlike 9 = .ok (.ireturn, 1) := by decide +kernel
theorem dX7_unlike_10 : decode cX7_unlike 10 = .ok (.aload_n 0, 1) := by decide +kernel
theorem dX7_unlike_11 : decode cX7_unlike 11 = .ok (.getfield 62, 3) := by decide +kernel
theorem dX7_unlike_14 : decode cX7_unlike 14 = .ok (.aload_n 0, 1) := by decide +kernel
theorem dX7_unlike_15 : decode cX7_unlike 15 = .ok (.getfield 16, 3) := by decide +kernel
theorem dX7_unlike_18 : decode cX7_unlike 18 = .ok (.invokevirtual 135, 3) := by decide +kernel
theorem dX7_unlike_21 : decode cX7_unlike 21 = .ok (.invokevirtual 223, 3) := by decide +kernel
theorem dX7_unlike_24 : decode cX7_unlike 24 = .ok (.ireturn, 1) := by decide +kernel
theorem dX7_image_0 : decode cX7_image 0 = .ok (.aload_n 0, 1) := by decide +kernel
theorem dX7_image_1 : decode cX7_image 1 = .ok (.iconst 1, 1) := by decide +kernel
theorem dX7_image_2 : decode cX7_image 2 = .ok (.putfield 226, 3) := by decide +kernel
theorem dX7_image_5 : decode cX7_image 5 = .ok (.aload_n 0, 1) := by decide +kernel
theorem dX7_image_6 : decode cX7_image 6 = .ok (.aload_n 0, 1) := by decide +kernel
theorem dX7_image_7 : decode cX7_image 7 = .ok (.getfield 62, 3) := by decide +kernel
theorem dX7_image_10 : decode cX7_image 10 = .ok (.putfield 230, 3) := by decide +kernel
theorem dX7_image_13 : decode cX7_image 13 = .ok (.aload_n 0, 1) := by decide +kernel
theorem dX7_image_14 : decode cX7_image 14 = .ok (.getfield 20, 3) := by decide +kernel
theorem dX7_image_17 : decode cX7_image 17 = .ok (.aload_n 0, 1) := by decide +kernel
theorem dX7_image_18 : decode cX7_image 18 = .ok (.getfield 16, 3) := by decide +kernel
theorem dX7_image_21 : decode cX7_image 21 = .ok (.invokevirtual 233, 3) := by decide +kernel
theorem dX7_image_24 : decode cX7_image 24 = .ok (.aload_n 0, 1) := by decide +kernel
theorem dX7_image_25 : decode cX7_image 25 = .ok (.getfield 62, 3) := by decide +kernel
theorem dX7_image_28 : decode cX7_image 28 = .ok (.ifnonnull 7, 3) := by decide +kernel
theorem dX7_image_31 : decode cX7_image 31 = .ok (.iconst 0, 1) := by decide +kernel
theorem dX7_image_32 : decode cX7_image 32 = .ok (.goto 4, 3) := by decide +kernel
theorem dX7_image_35 : decode cX7_image 35 = .ok (.iconst 1, 1) := by decide +kernel
theorem dX7_image_36 : decode cX7_image 36 = .ok (.ireturn, 1) := by decide +kernel
theorem dX7_undo_0 : decode cX7_undo 0 = .ok (.aload_n 0, 1) := by decide +kernel
theorem dX7_undo_1 : decode cX7_undo 1 = .ok (.getfield 226, 3) := by decide +kernel
theorem dX7_undo_4 : decode cX7_undo 4 = .ok (.ifCond .ne 6, 3) := by decide +kernel
theorem dX7_undo_7 : decode cX7_undo 7 = .ok (.bipush (-3), 2) := by decide +kernel
theorem dX7_undo_9 : decode cX7_undo 9 = .ok (.ireturn, 1) := by decide +kernel
theorem dX7_undo_10 : decode cX7_undo 10 = .ok (.aload_n 0, 1) := by decide +kernel
theorem dX7_undo_11 : decode cX7_undo 11 = .ok (.aload_n 0, 1) := by decide +kernel
theorem dX7_undo_12 : decode cX7_undo 12 = .ok (.getfield 230, 3) := by decide +kernel
theorem dX7_undo_15 : decode cX7_undo 15 = .ok (.putfield 62, 3) := by decide +kernel
theorem dX7_undo_18 : decode cX7_undo 18 = .ok (.aload_n 0, 1) := by decide +kernel
theorem dX7_undo_19 : decode cX7_undo 19 = .ok (.getfield 16, 3) := by decide +kernel
theorem dX7_undo_22 : decode cX7_undo 22 = .ok (.aload_n 0, 1) := by decide +kernel
theorem dX7_undo_23 : decode cX7_undo 23 = .ok (.getfield 20, 3) := by decide +kernel
theorem dX7_undo_26 : decode cX7_undo 26 = .ok (.invokevirtual 233, 3) := by decide +kernel
theorem dX7_undo_29 : decode cX7_undo 29 = .ok (.aload_n 0, 1) := by decide +kernel
theorem dX7_undo_30 : decode cX7_undo 30 = .ok (.getfield 62, 3) := by decide +kernel
theorem dX7_undo_33 : decode cX7_undo 33 = .ok (.ifnonnull 7, 3) := by decide +kernel
theorem dX7_undo_36 : decode cX7_undo 36 = .ok (.iconst 0, 1) := by decide +kernel
theorem dX7_undo_37 : decode cX7_undo 37 = .ok (.goto 4, 3) := by decide +kernel
theorem dX7_undo_40 : decode cX7_undo 40 = .ok (.iconst 1, 1) := by decide +kernel
theorem dX7_undo_41 : decode cX7_undo 41 = .ok (.ireturn, 1) := by decide +kernel
theorem dX7_count_0 : decode cX7_count 0 = .ok (.iload_n 1, 1) := by decide +kernel
theorem dX7_count_1 : decode cX7_count 1 = .ok (.tableswitch 69 0 4 #[35, 43, 48, 56, 64], 35) := by decide +kernel
theorem dX7_count_36 : decode cX7_count 36 = .ok (.aload_n 0, 1) := by decide +kernel
theorem dX7_count_37 : decode cX7_count 37 = .ok (.getfield 16, 3) := by decide +kernel
theorem dX7_count_40 : decode cX7_count 40 = .ok (.invokevirtual 180, 3) := by decide +kernel
theorem dX7_count_43 : decode cX7_count 43 = .ok (.ireturn, 1) := by decide +kernel
theorem dX7_count_44 : decode cX7_count 44 = .ok (.aload_n 0, 1) := by decide +kernel
theorem dX7_count_45 : decode cX7_count 45 = .ok (.getfield 27, 3) := by decide +kernel
theorem dX7_count_48 : decode cX7_count 48 = .ok (.ireturn, 1) := by decide +kernel
theorem dX7_count_49 : decode cX7_count 49 = .ok (.aload_n 0, 1) := by decide +kernel
theorem dX7_count_50 : decode cX7_count 50 = .ok (.getfield 16, 3) := by decide +kernel
theorem dX7_count_53 : decode cX7_count 53 = .ok (.invokevirtual 186, 3) := by decide +kernel
theorem dX7_count_56 : decode cX7_count 56 = .ok (.ireturn, 1) := by decide +kernel
theorem dX7_count_57 : decode cX7_count 57 = .ok (.aload_n 0, 1) := by decide +kernel
theorem dX7_count_58 : decode cX7_count 58 = .ok (.getfield 16, 3) := by decide +kernel
theorem dX7_count_61 : decode cX7_count 61 = .ok (.invokevirtual 237, 3) := by decide +kernel
theorem dX7_count_64 : decode cX7_count 64 = .ok (.ireturn, 1) := by decide +kernel
theorem dX7_count_65 : decode cX7_count 65 = .ok (.aload_n 0, 1) := by decide +kernel
theorem dX7_count_66 : decode cX7_count 66 = .ok (.invokevirtual 240, 3) := by decide +kernel
theorem dX7_count_69 : decode cX7_count 69 = .ok (.ireturn, 1) := by decide +kernel
theorem dX7_count_70 : decode cX7_count 70 = .ok (.iconst (-1), 1) := by decide +kernel
theorem dX7_count_71 : decode cX7_count 71 = .ok (.ireturn, 1) := by decide +kernel
theorem dX7_isByte_0 : decode cX7_isByte 0 = .ok (.iload_n 0, 1) := by decide +kernel
theorem dX7_isByte_1 : decode cX7_isByte 1 = .ok (.ifCond .lt 13, 3) := by decide +kernel
theorem dX7_isByte_4 : decode cX7_isByte 4 = .ok (.iload_n 0, 1) := by decide +kernel
theorem dX7_isByte_5 : decode cX7_isByte 5 = .ok (.bipush 127, 2) := by decide +kernel
theorem dX7_isByte_7 : decode cX7_isByte 7 = .ok (.if_icmp .gt 7, 3) := by decide +kernel
theorem dX7_isByte_10 : decode cX7_isByte 10 = .ok (.iconst 1, 1) := by decide +kernel
theorem dX7_isByte_11 : decode cX7_isByte 11 = .ok (.goto 4, 3) := by decide +kernel
theorem dX7_isByte_14 : decode cX7_isByte 14 = .ok (.iconst 0, 1) := by decide +kernel
theorem dX7_isByte_15 : decode cX7_isByte 15 = .ok (.ireturn, 1) := by decide +kernel
theorem dX7_append_0 : decode cX7_append 0 = .ok (.aload_n 0, 1) := by decide +kernel
theorem dX7_append_1 : decode cX7_append 1 = .ok (.getfield 27, 3) := by decide +kernel
theorem dX7_append_4 : decode cX7_append 4 = .ok (.ifCond .lt 15, 3) := by decide +kernel
theorem dX7_append_7 : decode cX7_append 7 = .ok (.aload_n 0, 1) := by decide +kernel
theorem dX7_append_8 : decode cX7_append 8 = .ok (.getfield 27, 3) := by decide +kernel
theorem dX7_append_11 : decode cX7_append 11 = .ok (.aload_n 0, 1) := by decide +kernel
theorem dX7_append_12 : decode cX7_append 12 = .ok (.getfield 9, 3) := by decide +kernel
theorem dX7_append_15 : decode cX7_append 15 = .ok (.arraylength, 1) := by decide +kernel
theorem dX7_append_16 : decode cX7_append 16 = .ok (.if_icmp .lt 4, 3) := by decide +kernel
theorem dX7_append_19 : decode cX7_append 19 = .ok (.return_, 1) := by decide +kernel
theorem dX7_append_20 : decode cX7_append 20 = .ok (.aload_n 0, 1) := by decide +kernel
theorem dX7_append_21 : decode cX7_append 21 = .ok (.getfield 9, 3) := by decide +kernel
theorem dX7_append_24 : decode cX7_append 24 = .ok (.aload_n 0, 1) := by decide +kernel
theorem dX7_append_25 : decode cX7_append 25 = .ok (.getfield 27, 3) := by decide +kernel
theorem dX7_append_28 : decode cX7_append 28 = .ok (.iload_n 1, 1) := by decide +kernel
theorem dX7_append_29 : decode cX7_append 29 = .ok (.iastore, 1) := by decide +kernel
theorem dX7_append_30 : decode cX7_append 30 = .ok (.aload_n 0, 1) := by decide +kernel
theorem dX7_append_31 : decode cX7_append 31 = .ok (.dup, 1) := by decide +kernel
theorem dX7_append_32 : decode cX7_append 32 = .ok (.getfield 27, 3) := by decide +kernel
theorem dX7_append_35 : decode cX7_append 35 = .ok (.iconst 1, 1) := by decide +kernel
theorem dX7_append_36 : decode cX7_append 36 = .ok (.iadd, 1) := by decide +kernel
theorem dX7_append_37 : decode cX7_append 37 = .ok (.putfield 27, 3) := by decide +kernel
theorem dX7_append_40 : decode cX7_append 40 = .ok (.return_, 1) := by decide +kernel
theorem dX7_freeTable_0 : decode cX7_freeTable 0 = .ok (.aload_n 0, 1) := by decide +kernel
theorem dX7_freeTable_1 : decode cX7_freeTable 1 = .ok (.getfield 243, 3) := by decide +kernel
theorem dX7_freeTable_4 : decode cX7_freeTable 4 = .ok (.ifnonnull 14, 3) := by decide +kernel
theorem dX7_freeTable_7 : decode cX7_freeTable 7 = .ok (.aload_n 0, 1) := by decide +kernel
theorem dX7_freeTable_8 : decode cX7_freeTable 8 = .ok (.new 57, 3) := by decide +kernel
theorem dX7_freeTable_11 : decode cX7_freeTable 11 = .ok (.dup, 1) := by decide +kernel
theorem dX7_freeTable_12 : decode cX7_freeTable 12 = .ok (.invokespecial 246, 3) := by decide +kernel
theorem dX7_freeTable_15 : decode cX7_freeTable 15 = .ok (.putfield 243, 3) := by decide +kernel
theorem dX7_freeTable_18 : decode cX7_freeTable 18 = .ok (.aload_n 0, 1) := by decide +kernel
theorem dX7_freeTable_19 : decode cX7_freeTable 19 = .ok (.getfield 230, 3) := by decide +kernel
theorem dX7_freeTable_22 : decode cX7_freeTable 22 = .ok (.aload_n 0, 1) := by decide +kernel
theorem dX7_freeTable_23 : decode cX7_freeTable 23 = .ok (.getfield 243, 3) := by decide +kernel
theorem dX7_freeTable_26 : decode cX7_freeTable 26 = .ok (.if_acmp .eq 8, 3) := by decide +kernel
theorem dX7_freeTable_29 : decode cX7_freeTable 29 = .ok (.aload_n 0, 1) := by decide +kernel
theorem dX7_freeTable_30 : decode cX7_freeTable 30 = .ok (.getfield 243, 3) := by decide +kernel
theorem dX7_freeTable_33 : decode cX7_freeTable 33 = .ok (.areturn, 1) := by decide +kernel
theorem dX7_freeTable_34 : decode cX7_freeTable 34 = .ok (.aload_n 0, 1) := by decide +kernel
theorem dX7_freeTable_35 : decode cX7_freeTable 35 = .ok (.getfield 247, 3) := by decide +kernel
theorem dX7_freeTable_38 : decode cX7_freeTable 38 = .ok (.ifnonnull 14, 3) := by decide +kernel
theorem dX7_freeTable_41 : decode cX7_freeTable 41 = .ok (.aload_n 0, 1) := by decide +kernel
theorem dX7_freeTable_42 : decode cX7_freeTable 42 = .ok (.new 57, 3) := by decide +kernel
theorem dX7_freeTable_45 : decode cX7_freeTable 45 = .ok (.dup, 1) := by decide +kernel
theorem dX7_freeTable_46 : decode cX7_freeTable 46 = .ok (.invokespecial 246, 3) := by decide +kernel
theorem dX7_freeTable_49 : decode cX7_freeTable 49 = .ok (.putfield 247, 3) := by decide +kernel
theorem dX7_freeTable_52 : decode cX7_freeTable 52 = .ok (.aload_n 0, 1) := by decide +kernel
theorem dX7_freeTable_53 : decode cX7_freeTable 53 = .ok (.getfield 247, 3) := by decide +kernel
theorem dX7_freeTable_56 : decode cX7_freeTable 56 = .ok (.areturn, 1) := by decide +kernel
theorem dX7_isPlaying_0 : decode cX7_isPlaying 0 = .ok (.aload_n 0, 1) := by decide +kernel
theorem dX7_isPlaying_1 : decode cX7_isPlaying 1 = .ok (.getfield 62, 3) := by decide +kernel
theorem dX7_isPlaying_4 : decode cX7_isPlaying 4 = .ok (.ifnull 17, 3) := by decide +kernel
theorem dX7_isPlaying_7 : decode cX7_isPlaying 7 = .ok (.aload_n 0, 1) := by decide +kernel
theorem dX7_isPlaying_8 : decode cX7_isPlaying 8 = .ok (.getfield 16, 3) := by decide +kernel
theorem dX7_isPlaying_11 : decode cX7_isPlaying 11 = .ok (.invokevirtual 250, 3) := by decide +kernel
theorem dX7_isPlaying_14 : decode cX7_isPlaying 14 = .ok (.ifCond .eq 7, 3) := by decide +kernel
theorem dX7_isPlaying_17 : decode cX7_isPlaying 17 = .ok (.iconst 1, 1) := by decide +kernel
theorem dX7_isPlaying_18 : decode cX7_isPlaying 18 = .ok (.goto 4, 3) := by decide +kernel
theorem dX7_isPlaying_21 : decode cX7_isPlaying 21 = .ok (.iconst 0, 1) := by decide +kernel
theorem dX7_isPlaying_22 : decode cX7_isPlaying 22 = .ok (.ireturn, 1) := by decide +kernel
theorem dX7_manOnBoard_0 : decode cX7_manOnBoard 0 = .ok (.aload_n 0, 1) := by decide +kernel
theorem dX7_manOnBoard_1 : decode cX7_manOnBoard 1 = .ok (.getfield 62, 3) := by decide +kernel
theorem dX7_manOnBoard_4 : decode cX7_manOnBoard 4 = .ok (.getfield 69, 3) := by decide +kernel
theorem dX7_manOnBoard_7 : decode cX7_manOnBoard 7 = .ok (.astore_n 3, 1) := by decide +kernel
theorem dX7_manOnBoard_8 : decode cX7_manOnBoard 8 = .ok (.aload_n 3, 1) := by decide +kernel
theorem dX7_manOnBoard_9 : decode cX7_manOnBoard 9 = .ok (.iload_n 1, 1) := by decide +kernel
theorem dX7_manOnBoard_10 : decode cX7_manOnBoard 10 = .ok (.invokevirtual 253, 3) := by decide +kernel
theorem dX7_manOnBoard_13 : decode cX7_manOnBoard 13 = .ok (.ifCond .ne 5, 3) := by decide +kernel
theorem dX7_manOnBoard_16 : decode cX7_manOnBoard 16 = .ok (.iconst (-1), 1) := by decide +kernel
theorem dX7_manOnBoard_17 : decode cX7_manOnBoard 17 = .ok (.ireturn, 1) := by decide +kernel
theorem dX7_manOnBoard_18 : decode cX7_manOnBoard 18 = .ok (.aload_n 3, 1) := by decide +kernel
theorem dX7_manOnBoard_19 : decode cX7_manOnBoard 19 = .ok (.iload_n 2, 1) := by decide +kernel
theorem dX7_manOnBoard_20 : decode cX7_manOnBoard 20 = .ok (.iload_n 1, 1) := by decide +kernel
theorem dX7_manOnBoard_21 : decode cX7_manOnBoard 21 = .ok (.invokevirtual 174, 3) := by decide +kernel
theorem dX7_manOnBoard_24 : decode cX7_manOnBoard 24 = .ok (.istore 4, 2) := by decide +kernel
theorem dX7_manOnBoard_26 : decode cX7_manOnBoard 26 = .ok (.iload 4, 2) := by decide +kernel
theorem dX7_manOnBoard_28 : decode cX7_manOnBoard 28 = .ok (.aload_n 3, 1) := by decide +kernel
theorem dX7_manOnBoard_29 : decode cX7_manOnBoard 29 = .ok (.getfield 256, 3) := by decide +kernel
theorem dX7_manOnBoard_32 : decode cX7_manOnBoard 32 = .ok (.if_icmp .ne 8, 3) := by decide +kernel
theorem dX7_manOnBoard_35 : decode cX7_manOnBoard 35 = .ok (.bipush (-5), 2) := by decide +kernel
theorem dX7_manOnBoard_37 : decode cX7_manOnBoard 37 = .ok (.goto 5, 3) := by decide +kernel
theorem dX7_manOnBoard_40 : decode cX7_manOnBoard 40 = .ok (.iload 4, 2) := by decide +kernel
theorem dX7_manOnBoard_42 : decode cX7_manOnBoard 42 = .ok (.ireturn, 1) := by decide +kernel
theorem dX7_capturedMan_0 : decode cX7_capturedMan 0 = .ok (.aload_n 0, 1) := by decide +kernel
theorem dX7_capturedMan_1 : decode cX7_capturedMan 1 = .ok (.getfield 62, 3) := by decide +kernel
theorem dX7_capturedMan_4 : decode cX7_capturedMan 4 = .ok (.getfield 69, 3) := by decide +kernel
theorem dX7_capturedMan_7 : decode cX7_capturedMan 7 = .ok (.iload_n 1, 1) := by decide +kernel
theorem dX7_capturedMan_8 : decode cX7_capturedMan 8 = .ok (.iload_n 2, 1) := by decide +kernel
theorem dX7_capturedMan_9 : decode cX7_capturedMan 9 = .ok (.iconst 1, 1) := by decide +kernel
theorem dX7_capturedMan_10 : decode cX7_capturedMan 10 = .ok (.iload_n 1, 1) := by decide +kernel
theorem dX7_capturedMan_11 : decode cX7_capturedMan 11 = .ok (.iconst 1, 1) := by decide +kernel
theorem dX7_capturedMan_12 : decode cX7_capturedMan 12 = .ok (.iand, 1) := by decide +kernel
theorem dX7_capturedMan_13 : decode cX7_capturedMan 13 = .ok (.isub, 1) := by decide +kernel
theorem dX7_capturedMan_14 : decode cX7_capturedMan 14 = .ok (.invokevirtual 170, 3) := by decide +kernel
theorem dX7_capturedMan_17 : decode cX7_capturedMan 17 = .ok (.istore_n 3, 1) := by decide +kernel
theorem dX7_capturedMan_18 : decode cX7_capturedMan 18 = .ok (.iload_n 3, 1) := by decide +kernel
theorem dX7_capturedMan_19 : decode cX7_capturedMan 19 = .ok (.ifCond .ge 8, 3) := by decide +kernel
theorem dX7_capturedMan_22 : decode cX7_capturedMan 22 = .ok (.bipush (-5), 2) := by decide +kernel
theorem dX7_capturedMan_24 : decode cX7_capturedMan 24 = .ok (.goto 4, 3) := by decide +kernel
theorem dX7_capturedMan_27 : decode cX7_capturedMan 27 = .ok (.iload_n 3, 1) := by decide +kernel
theorem dX7_capturedMan_28 : decode cX7_capturedMan 28 = .ok (.ireturn, 1) := by decide +kernel
theorem dX7_movesSinceCapture_0 : decode cX7_movesSinceCapture 0 = .ok (.aload_n 0, 1) := by decide +kernel
theorem dX7_movesSinceCapture_1 : decode cX7_movesSinceCapture 1 = .ok (.invokevirtual 132, 3) := by decide +kernel
theorem dX7_movesSinceCapture_4 : decode cX7_movesSinceCapture 4 = .ok (.ifCond .ne 5, 3) := by decide +kernel
theorem dX7_movesSinceCapture_7 : decode cX7_movesSinceCapture 7 = .ok (.iconst 0, 1) := by decide +kernel
theorem dX7_movesSinceCapture_8 : decode cX7_movesSinceCapture 8 = .ok (.ireturn, 1) := by decide +kernel
theorem dX7_movesSinceCapture_9 : decode cX7_movesSinceCapture 9 = .ok (.aload_n 0, 1) := by decide +kernel
theorem dX7_movesSinceCapture_10 : decode cX7_movesSinceCapture 10 = .ok (.getfield 16, 3) := by decide +kernel
theorem dX7_movesSinceCapture_13 : decode cX7_movesSinceCapture 13 = .ok (.invokevirtual 180, 3) := by decide +kernel
theorem dX7_movesSinceCapture_16 : decode cX7_movesSinceCapture 16 = .ok (.istore_n 1, 1) := by decide +kernel
theorem dX7_movesSinceCapture_17 : decode cX7_movesSinceCapture 17 = .ok (.iconst 1, 1) := by decide +kernel
theorem dX7_movesSinceCapture_18 : decode cX7_movesSinceCapture 18 = .ok (.istore_n 2, 1) := by decide +kernel
theorem dX7_movesSinceCapture_19 : decode cX7_movesSinceCapture 19 = .ok (.iload_n 2, 1) := by decide +kernel
theorem dX7_movesSinceCapture_20 : decode cX7_movesSinceCapture 20 = .ok (.iload_n 1, 1) := by decide +kernel
theorem dX7_movesSinceCapture_21 : decode cX7_movesSinceCapture 21 = .ok (.if_icmp .gt 45, 3) := by decide +kernel
theorem dX7_movesSinceCapture_24 : decode cX7_movesSinceCapture 24 = .ok (.aload_n 0, 1) := by decide +kernel
theorem dX7_movesSinceCapture_25 : decode cX7_movesSinceCapture 25 = .ok (.getfield 62, 3) := by decide +kernel
theorem dX7_movesSinceCapture_28 : decode cX7_movesSinceCapture 28 = .ok (.aload_n 0, 1) := by decide +kernel
theorem dX7_movesSinceCapture_29 : decode cX7_movesSinceCapture 29 = .ok (.getfield 16, 3) := by decide +kernel
theorem dX7_movesSinceCapture_32 : decode cX7_movesSinceCapture 32 = .ok (.iload_n 1, 1) := by decide +kernel
theorem dX7_movesSinceCapture_33 : decode cX7_movesSinceCapture 33 = .ok (.iload_n 2, 1) := by decide +kernel
theorem dX7_movesSinceCapture_34 : decode cX7_movesSinceCapture 34 = .ok (.isub, 1) := by decide +kernel
theorem dX7_movesSinceCapture_35 : decode cX7_movesSinceCapture 35 = .ok (.invokevirtual 259, 3) := by decide +kernel
theorem dX7_movesSinceCapture_38 : decode cX7_movesSinceCapture 38 = .ok (.aload_n 0, 1) := by decide +kernel
theorem dX7_movesSinceCapture_39 : decode cX7_movesSinceCapture 39 = .ok (.getfield 16, 3) := by decide +kernel
theorem dX7_movesSinceCapture_42 : decode cX7_movesSinceCapture 42 = .ok (.iload_n 1, 1) := by decide +kernel
theorem dX7_movesSinceCapture_43 : decode cX7_movesSinceCapture 43 = .ok (.iload_n 2, 1) := by decide +kernel
theorem dX7_movesSinceCapture_44 : decode cX7_movesSinceCapture 44 = .ok (.isub, 1) := by decide +kernel
theorem dX7_movesSinceCapture_45 : decode cX7_movesSinceCapture 45 = .ok (.iconst 1, 1) := by decide +kernel
theorem dX7_movesSinceCapture_46 : decode cX7_movesSinceCapture 46 = .ok (.iadd, 1) := by decide +kernel
theorem dX7_movesSinceCapture_47 : decode cX7_movesSinceCapture 47 = .ok (.invokevirtual 259, 3) := by decide +kernel
theorem dX7_movesSinceCapture_50 : decode cX7_movesSinceCapture 50 = .ok (.invokevirtual 261, 3) := by decide +kernel
theorem dX7_movesSinceCapture_53 : decode cX7_movesSinceCapture 53 = .ok (.ifCond .eq 7, 3) := by decide +kernel
theorem dX7_movesSinceCapture_56 : decode cX7_movesSinceCapture 56 = .ok (.iload_n 2, 1) := by decide +kernel
theorem dX7_movesSinceCapture_57 : decode cX7_movesSinceCapture 57 = .ok (.iconst 1, 1) := by decide +kernel
theorem dX7_movesSinceCapture_58 : decode cX7_movesSinceCapture 58 = .ok (.isub, 1) := by decide +kernel
theorem dX7_movesSinceCapture_59 : decode cX7_movesSinceCapture 59 = .ok (.ireturn, 1) := by decide +kernel
theorem dX7_movesSinceCapture_60 : decode cX7_movesSinceCapture 60 = .ok (.iinc 2 1, 3) := by decide +kernel
theorem dX7_movesSinceCapture_63 : decode cX7_movesSinceCapture 63 = .ok (.goto (-44), 3) := by decide +kernel
theorem dX7_movesSinceCapture_66 : decode cX7_movesSinceCapture 66 = .ok (.iload_n 1, 1) := by decide +kernel
theorem dX7_movesSinceCapture_67 : decode cX7_movesSinceCapture 67 = .ok (.ireturn, 1) := by decide +kernel
