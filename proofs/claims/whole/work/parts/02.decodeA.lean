theorem dX1_init_0 : decode cX1_init 0 = .ok (.aload_n 0, 1) := by decide +kernel
theorem dX1_init_1 : decode cX1_init 1 = .ok (.invokespecial 3, 3) := by decide +kernel
theorem dX1_init_4 : decode cX1_init 4 = .ok (.aload_n 0, 1) := by decide +kernel
theorem dX1_init_5 : decode cX1_init 5 = .ok (.sipush 1200, 3) := by decide +kernel
theorem dX1_init_8 : decode cX1_init 8 = .ok (.newarray .int, 2) := by decide +kernel
theorem dX1_init_10 : decode cX1_init 10 = .ok (.putfield 11, 3) := by decide +kernel
theorem dX1_init_13 : decode cX1_init 13 = .ok (.aload_n 0, 1) := by decide +kernel
theorem dX1_init_14 : decode cX1_init 14 = .ok (.iconst 0, 1) := by decide +kernel
theorem dX1_init_15 : decode cX1_init 15 = .ok (.putfield 17, 3) := by decide +kernel
theorem dX1_init_18 : decode cX1_init 18 = .ok (.aload_n 0, 1) := by decide +kernel
theorem dX1_init_19 : decode cX1_init 19 = .ok (.iconst 0, 1) := by decide +kernel
theorem dX1_init_20 : decode cX1_init 20 = .ok (.putfield 21, 3) := by decide +kernel
theorem dX1_init_23 : decode cX1_init 23 = .ok (.return_, 1) := by decide +kernel
theorem dX1_clear_0 : decode cX1_clear 0 = .ok (.aload_n 0, 1) := by decide +kernel
theorem dX1_clear_1 : decode cX1_clear 1 = .ok (.iconst 0, 1) := by decide +kernel
theorem dX1_clear_2 : decode cX1_clear 2 = .ok (.putfield 17, 3) := by decide +kernel
theorem dX1_clear_5 : decode cX1_clear 5 = .ok (.aload_n 0, 1) := by decide +kernel
theorem dX1_clear_6 : decode cX1_clear 6 = .ok (.iconst 0, 1) := by decide +kernel
theorem dX1_clear_7 : decode cX1_clear 7 = .ok (.putfield 21, 3) := by decide +kernel
theorem dX1_clear_10 : decode cX1_clear 10 = .ok (.return_, 1) := by decide +kernel
theorem dX1_copy_0 : decode cX1_copy 0 = .ok (.aload_n 1, 1) := by decide +kernel
theorem dX1_copy_1 : decode cX1_copy 1 = .ok (.getfield 11, 3) := by decide +kernel
theorem dX1_copy_4 : decode cX1_copy 4 = .ok (.iconst 0, 1) := by decide +kernel
theorem dX1_copy_5 : decode cX1_copy 5 = .ok (.aload_n 0, 1) := by decide +kernel
theorem dX1_copy_6 : decode cX1_copy 6 = .ok (.getfield 11, 3) := by decide +kernel
theorem dX1_copy_9 : decode cX1_copy 9 = .ok (.iconst 0, 1) := by decide +kernel
theorem dX1_copy_10 : decode cX1_copy 10 = .ok (.aload_n 0, 1) := by decide +kernel
theorem dX1_copy_11 : decode cX1_copy 11 = .ok (.getfield 11, 3) := by decide +kernel
theorem dX1_copy_14 : decode cX1_copy 14 = .ok (.arraylength, 1) := by decide +kernel
theorem dX1_copy_15 : decode cX1_copy 15 = .ok (.invokestatic 24, 3) := by decide +kernel
theorem dX1_copy_18 : decode cX1_copy 18 = .ok (.aload_n 0, 1) := by decide +kernel
theorem dX1_copy_19 : decode cX1_copy 19 = .ok (.aload_n 1, 1) := by decide +kernel
theorem dX1_copy_20 : decode cX1_copy 20 = .ok (.getfield 17, 3) := by decide +kernel
theorem dX1_copy_23 : decode cX1_copy 23 = .ok (.putfield 17, 3) := by decide +kernel
theorem dX1_copy_26 : decode cX1_copy 26 = .ok (.aload_n 0, 1) := by decide +kernel
theorem dX1_copy_27 : decode cX1_copy 27 = .ok (.aload_n 1, 1) := by decide +kernel
theorem dX1_copy_28 : decode cX1_copy 28 = .ok (.getfield 21, 3) := by decide +kernel
theorem dX1_copy_31 : decode cX1_copy 31 = .ok (.putfield 21, 3) := by decide +kernel
theorem dX1_copy_34 : decode cX1_copy 34 = .ok (.return_, 1) := by decide +kernel
theorem dX1_keep_0 : decode cX1_keep 0 = .ok (.aload_n 0, 1) := by decide +kernel
theorem dX1_keep_1 : decode cX1_keep 1 = .ok (.getfield 21, 3) := by decide +kernel
theorem dX1_keep_4 : decode cX1_keep 4 = .ok (.bipush 40, 2) := by decide +kernel
theorem dX1_keep_6 : decode cX1_keep 6 = .ok (.if_icmp .ne 26, 3) := by decide +kernel
theorem dX1_keep_9 : decode cX1_keep 9 = .ok (.aload_n 0, 1) := by decide +kernel
theorem dX1_keep_10 : decode cX1_keep 10 = .ok (.aload_n 0, 1) := by decide +kernel
theorem dX1_keep_11 : decode cX1_keep 11 = .ok (.getfield 17, 3) := by decide +kernel
theorem dX1_keep_14 : decode cX1_keep 14 = .ok (.iconst 1, 1) := by decide +kernel
theorem dX1_keep_15 : decode cX1_keep 15 = .ok (.iadd, 1) := by decide +kernel
theorem dX1_keep_16 : decode cX1_keep 16 = .ok (.bipush 40, 2) := by decide +kernel
theorem dX1_keep_18 : decode cX1_keep 18 = .ok (.irem, 1) := by decide +kernel
theorem dX1_keep_19 : decode cX1_keep 19 = .ok (.putfield 17, 3) := by decide +kernel
theorem dX1_keep_22 : decode cX1_keep 22 = .ok (.aload_n 0, 1) := by decide +kernel
theorem dX1_keep_23 : decode cX1_keep 23 = .ok (.dup, 1) := by decide +kernel
theorem dX1_keep_24 : decode cX1_keep 24 = .ok (.getfield 21, 3) := by decide +kernel
theorem dX1_keep_27 : decode cX1_keep 27 = .ok (.iconst 1, 1) := by decide +kernel
theorem dX1_keep_28 : decode cX1_keep 28 = .ok (.isub, 1) := by decide +kernel
theorem dX1_keep_29 : decode cX1_keep 29 = .ok (.putfield 21, 3) := by decide +kernel
theorem dX1_keep_32 : decode cX1_keep 32 = .ok (.aload_n 1, 1) := by decide +kernel
theorem dX1_keep_33 : decode cX1_keep 33 = .ok (.aload_n 0, 1) := by decide +kernel
theorem dX1_keep_34 : decode cX1_keep 34 = .ok (.getfield 11, 3) := by decide +kernel
theorem dX1_keep_37 : decode cX1_keep 37 = .ok (.aload_n 0, 1) := by decide +kernel
theorem dX1_keep_38 : decode cX1_keep 38 = .ok (.getfield 17, 3) := by decide +kernel
theorem dX1_keep_41 : decode cX1_keep 41 = .ok (.aload_n 0, 1) := by decide +kernel
theorem dX1_keep_42 : decode cX1_keep 42 = .ok (.getfield 21, 3) := by decide +kernel
theorem dX1_keep_45 : decode cX1_keep 45 = .ok (.iadd, 1) := by decide +kernel
theorem dX1_keep_46 : decode cX1_keep 46 = .ok (.bipush 40, 2) := by decide +kernel
theorem dX1_keep_48 : decode cX1_keep 48 = .ok (.irem, 1) := by decide +kernel
theorem dX1_keep_49 : decode cX1_keep 49 = .ok (.bipush 30, 2) := by decide +kernel
theorem dX1_keep_51 : decode cX1_keep 51 = .ok (.imul, 1) := by decide +kernel
theorem dX1_keep_52 : decode cX1_keep 52 = .ok (.invokevirtual 30, 3) := by decide +kernel
theorem dX1_keep_55 : decode cX1_keep 55 = .ok (.aload_n 0, 1) := by decide +kernel
theorem dX1_keep_56 : decode cX1_keep 56 = .ok (.dup, 1) := by decide +kernel
theorem dX1_keep_57 : decode cX1_keep 57 = .ok (.getfield 21, 3) := by decide +kernel
theorem dX1_keep_60 : decode cX1_keep 60 = .ok (.iconst 1, 1) := by decide +kernel
theorem dX1_keep_61 : decode cX1_keep 61 = .ok (.iadd, 1) := by decide +kernel
theorem dX1_keep_62 : decode cX1_keep 62 = .ok (.putfield 21, 3) := by decide +kernel
theorem dX1_keep_65 : decode cX1_keep 65 = .ok (.return_, 1) := by decide +kernel
theorem dX1_takeBack_0 : decode cX1_takeBack 0 = .ok (.aload_n 0, 1) := by decide +kernel
theorem dX1_takeBack_1 : decode cX1_takeBack 1 = .ok (.getfield 21, 3) := by decide +kernel
theorem dX1_takeBack_4 : decode cX1_takeBack 4 = .ok (.ifCond .ne 5, 3) := by decide +kernel
theorem dX1_takeBack_7 : decode cX1_takeBack 7 = .ok (.iconst 0, 1) := by decide +kernel
theorem dX1_takeBack_8 : decode cX1_takeBack 8 = .ok (.ireturn, 1) := by decide +kernel
theorem dX1_takeBack_9 : decode cX1_takeBack 9 = .ok (.aload_n 0, 1) := by decide +kernel
theorem dX1_takeBack_10 : decode cX1_takeBack 10 = .ok (.dup, 1) := by decide +kernel
theorem dX1_takeBack_11 : decode cX1_takeBack 11 = .ok (.getfield 21, 3) := by decide +kernel
theorem dX1_takeBack_14 : decode cX1_takeBack 14 = .ok (.iconst 1, 1) := by decide +kernel
theorem dX1_takeBack_15 : decode cX1_takeBack 15 = .ok (.isub, 1) := by decide +kernel
theorem dX1_takeBack_16 : decode cX1_takeBack 16 = .ok (.putfield 21, 3) := by decide +kernel
theorem dX1_takeBack_19 : decode cX1_takeBack 19 = .ok (.aload_n 1, 1) := by decide +kernel
theorem dX1_takeBack_20 : decode cX1_takeBack 20 = .ok (.aload_n 0, 1) := by decide +kernel
theorem dX1_takeBack_21 : decode cX1_takeBack 21 = .ok (.getfield 11, 3) := by decide +kernel
theorem dX1_takeBack_24 : decode cX1_takeBack 24 = .ok (.aload_n 0, 1) := by decide +kernel
theorem dX1_takeBack_25 : decode cX1_takeBack 25 = .ok (.getfield 17, 3) := by decide +kernel
theorem dX1_takeBack_28 : decode cX1_takeBack 28 = .ok (.aload_n 0, 1) := by decide +kernel
theorem dX1_takeBack_29 : decode cX1_takeBack 29 = .ok (.getfield 21, 3) := by decide +kernel
theorem dX1_takeBack_32 : decode cX1_takeBack 32 = .ok (.iadd, 1) := by decide +kernel
theorem dX1_takeBack_33 : decode cX1_takeBack 33 = .ok (.bipush 40, 2) := by decide +kernel
theorem dX1_takeBack_35 : decode cX1_takeBack 35 = .ok (.irem, 1) := by decide +kernel
theorem dX1_takeBack_36 : decode cX1_takeBack 36 = .ok (.bipush 30, 2) := by decide +kernel
theorem dX1_takeBack_38 : decode cX1_takeBack 38 = .ok (.imul, 1) := by decide +kernel
theorem dX1_takeBack_39 : decode cX1_takeBack 39 = .ok (.invokevirtual 34, 3) := by decide +kernel
theorem dX1_takeBack_42 : decode cX1_takeBack 42 = .ok (.iconst 1, 1) := by decide +kernel
theorem dX1_takeBack_43 : decode cX1_takeBack 43 = .ok (.ireturn, 1) := by decide +kernel
theorem dX2_init_0 : decode cX2_init 0 = .ok (.aload_n 0, 1) := by decide +kernel
theorem dX2_init_1 : decode cX2_init 1 = .ok (.invokespecial 3, 3) := by decide +kernel
theorem dX2_init_4 : decode cX2_init 4 = .ok (.aload_n 0, 1) := by decide +kernel
theorem dX2_init_5 : decode cX2_init 5 = .ok (.sipush 700, 3) := by decide +kernel
theorem dX2_init_8 : decode cX2_init 8 = .ok (.newarray .byte, 2) := by decide +kernel
theorem dX2_init_10 : decode cX2_init 10 = .ok (.putfield 9, 3) := by decide +kernel
theorem dX2_init_13 : decode cX2_init 13 = .ok (.aload_n 0, 1) := by decide +kernel
theorem dX2_init_14 : decode cX2_init 14 = .ok (.new 15, 3) := by decide +kernel
theorem dX2_init_17 : decode cX2_init 17 = .ok (.dup, 1) := by decide +kernel
theorem dX2_init_18 : decode cX2_init 18 = .ok (.invokespecial 17, 3) := by decide +kernel
theorem dX2_init_21 : decode cX2_init 21 = .ok (.putfield 18, 3) := by decide +kernel
theorem dX2_init_24 : decode cX2_init 24 = .ok (.aload_n 0, 1) := by decide +kernel
theorem dX2_init_25 : decode cX2_init 25 = .ok (.new 22, 3) := by decide +kernel
theorem dX2_init_28 : decode cX2_init 28 = .ok (.dup, 1) := by decide +kernel
theorem dX2_init_29 : decode cX2_init 29 = .ok (.invokespecial 24, 3) := by decide +kernel
theorem dX2_init_32 : decode cX2_init 32 = .ok (.putfield 25, 3) := by decide +kernel
theorem dX2_init_35 : decode cX2_init 35 = .ok (.aload_n 0, 1) := by decide +kernel
theorem dX2_init_36 : decode cX2_init 36 = .ok (.iconst 0, 1) := by decide +kernel
theorem dX2_init_37 : decode cX2_init 37 = .ok (.putfield 29, 3) := by decide +kernel
theorem dX2_init_40 : decode cX2_init 40 = .ok (.aload_n 0, 1) := by decide +kernel
theorem dX2_init_41 : decode cX2_init 41 = .ok (.iconst 0, 1) := by decide +kernel
theorem dX2_init_42 : decode cX2_init 42 = .ok (.putfield 33, 3) := by decide +kernel
theorem dX2_init_45 : decode cX2_init 45 = .ok (.aload_n 0, 1) := by decide +kernel
theorem dX2_init_46 : decode cX2_init 46 = .ok (.iconst 0, 1) := by decide +kernel
theorem dX2_init_47 : decode cX2_init 47 = .ok (.putfield 36, 3) := by decide +kernel
theorem dX2_init_50 : decode cX2_init 50 = .ok (.aload_n 0, 1) := by decide +kernel
theorem dX2_init_51 : decode cX2_init 51 = .ok (.iconst 0, 1) := by decide +kernel
theorem dX2_init_52 : decode cX2_init 52 = .ok (.putfield 39, 3) := by decide +kernel
theorem dX2_init_55 : decode cX2_init 55 = .ok (.aload_n 0, 1) := by decide +kernel
theorem dX2_init_56 : decode cX2_init 56 = .ok (.iconst 0, 1) := by decide +kernel
theorem dX2_init_57 : decode cX2_init 57 = .ok (.putfield 42, 3) := by decide +kernel
theorem dX2_init_60 : decode cX2_init 60 = .ok (.aload_n 0, 1) := by decide +kernel
theorem dX2_init_61 : decode cX2_init 61 = .ok (.iconst 0, 1) := by decide +kernel
theorem dX2_init_62 : decode cX2_init 62 = .ok (.putfield 45, 3) := by decide +kernel
theorem dX2_init_65 : decode cX2_init 65 = .ok (.aload_n 0, 1) := by decide +kernel
theorem dX2_init_66 : decode cX2_init 66 = .ok (.bipush 32, 2) := by decide +kernel
theorem dX2_init_68 : decode cX2_init 68 = .ok (.putfield 48, 3) := by decide +kernel
theorem dX2_init_71 : decode cX2_init 71 = .ok (.aload_n 0, 1) := by decide +kernel
theorem dX2_init_72 : decode cX2_init 72 = .ok (.getstatic 52, 3) := by decide +kernel
theorem dX2_init_75 : decode cX2_init 75 = .ok (.putfield 58, 3) := by decide +kernel
theorem dX2_init_78 : decode cX2_init 78 = .ok (.aload_n 0, 1) := by decide +kernel
theorem dX2_init_79 : decode cX2_init 79 = .ok (.iconst 0, 1) := by decide +kernel
theorem dX2_init_80 : decode cX2_init 80 = .ok (.putfield 61, 3) := by decide +kernel
theorem dX2_init_83 : decode cX2_init 83 = .ok (.aload_n 0, 1) := by decide +kernel
theorem dX2_init_84 : decode cX2_init 84 = .ok (.iconst 0, 1) := by decide +kernel
theorem dX2_init_85 : decode cX2_init 85 = .ok (.putfield 64, 3) := by decide +kernel
theorem dX2_init_88 : decode cX2_init 88 = .ok (.aload_n 0, 1) := by decide +kernel
theorem dX2_init_89 : decode cX2_init 89 = .ok (.iconst 0, 1) := by decide +kernel
theorem dX2_init_90 : decode cX2_init 90 = .ok (.putfield 67, 3) := by decide +kernel
theorem dX2_init_93 : decode cX2_init 93 = .ok (.aload_n 0, 1) := by decide +kernel
theorem dX2_init_94 : decode cX2_init 94 = .ok (.iconst 0, 1) := by decide +kernel
theorem dX2_init_95 : decode cX2_init 95 = .ok (.putfield 71, 3) := by decide +kernel
theorem dX2_init_98 : decode cX2_init 98 = .ok (.return_, 1) := by decide +kernel
theorem dX2_append_0 : decode cX2_append 0 = .ok (.bipush 24, 2) := by decide +kernel
theorem dX2_append_2 : decode cX2_append 2 = .ok (.istore_n 2, 1) := by decide +kernel
theorem dX2_append_3 : decode cX2_append 3 = .ok (.iload_n 2, 1) := by decide +kernel
theorem dX2_append_4 : decode cX2_append 4 = .ok (.ifCond .lt 42, 3) := by decide +kernel
theorem dX2_append_7 : decode cX2_append 7 = .ok (.aload_n 0, 1) := by decide +kernel
theorem dX2_append_8 : decode cX2_append 8 = .ok (.getfield 29, 3) := by decide +kernel
theorem dX2_append_11 : decode cX2_append 11 = .ok (.sipush 700, 3) := by decide +kernel
theorem dX2_append_14 : decode cX2_append 14 = .ok (.if_icmp .ge 32, 3) := by decide +kernel
theorem dX2_append_17 : decode cX2_append 17 = .ok (.aload_n 0, 1) := by decide +kernel
theorem dX2_append_18 : decode cX2_append 18 = .ok (.getfield 9, 3) := by decide +kernel
theorem dX2_append_21 : decode cX2_append 21 = .ok (.aload_n 0, 1) := by decide +kernel
theorem dX2_append_22 : decode cX2_append 22 = .ok (.getfield 29, 3) := by decide +kernel
theorem dX2_append_25 : decode cX2_append 25 = .ok (.iload_n 1, 1) := by decide +kernel
theorem dX2_append_26 : decode cX2_append 26 = .ok (.iload_n 2, 1) := by decide +kernel
theorem dX2_append_27 : decode cX2_append 27 = .ok (.iushr, 1) := by decide +kernel
theorem dX2_append_28 : decode cX2_append 28 = .ok (.i2b, 1) := by decide +kernel
theorem dX2_append_29 : decode cX2_append 29 = .ok (.bastore, 1) := by decide +kernel
theorem dX2_append_30 : decode cX2_append 30 = .ok (.aload_n 0, 1) := by decide +kernel
theorem dX2_append_31 : decode cX2_append 31 = .ok (.dup, 1) := by decide +kernel
theorem dX2_append_32 : decode cX2_append 32 = .ok (.getfield 29, 3) := by decide +kernel
theorem dX2_append_35 : decode cX2_append 35 = .ok (.iconst 1, 1) := by decide +kernel
theorem dX2_append_36 : decode cX2_append 36 = .ok (.iadd, 1) := by decide +kernel
theorem dX2_append_37 : decode cX2_append 37 = .ok (.putfield 29, 3) := by decide +kernel
theorem dX2_append_40 : decode cX2_append 40 = .ok (.iinc 2 (-8), 3) := by decide +kernel
theorem dX2_append_43 : decode cX2_append 43 = .ok (.goto (-40), 3) := by decide +kernel
theorem dX2_append_46 : decode cX2_append 46 = .ok (.return_, 1) := by decide +kernel
theorem dX2_swapTown_0 : decode cX2_swapTown 0 = .ok (.aload_n 0, 1) := by decide +kernel
theorem dX2_swapTown_1 : decode cX2_swapTown 1 = .ok (.getfield 25, 3) := by decide +kernel
theorem dX2_swapTown_4 : decode cX2_swapTown 4 = .ok (.astore_n 2, 1) := by decide +kernel
theorem dX2_swapTown_5 : decode cX2_swapTown 5 = .ok (.aload_n 0, 1) := by decide +kernel
theorem dX2_swapTown_6 : decode cX2_swapTown 6 = .ok (.aload_n 1, 1) := by decide +kernel
theorem dX2_swapTown_7 : decode cX2_swapTown 7 = .ok (.putfield 25, 3) := by decide +kernel
theorem dX2_swapTown_10 : decode cX2_swapTown 10 = .ok (.aload_n 2, 1) := by decide +kernel
theorem dX2_swapTown_11 : decode cX2_swapTown 11 = .ok (.areturn, 1) := by decide +kernel
theorem dX2_read_0 : decode cX2_read 0 = .ok (.aload_n 0, 1) := by decide +kernel
theorem dX2_read_1 : decode cX2_read 1 = .ok (.getfield 25, 3) := by decide +kernel
theorem dX2_read_4 : decode cX2_read 4 = .ok (.invokevirtual 74, 3) := by decide +kernel
theorem dX2_read_7 : decode cX2_read 7 = .ok (.aload_n 0, 1) := by decide +kernel
theorem dX2_read_8 : decode cX2_read 8 = .ok (.getfield 18, 3) := by decide +kernel
theorem dX2_read_11 : decode cX2_read 11 = .ok (.invokevirtual 77, 3) := by decide +kernel
theorem dX2_read_14 : decode cX2_read 14 = .ok (.aload_n 0, 1) := by decide +kernel
theorem dX2_read_15 : decode cX2_read 15 = .ok (.iload_n 1, 1) := by decide +kernel
theorem dX2_read_16 : decode cX2_read 16 = .ok (.aload_n 0, 1) := by decide +kernel
theorem dX2_read_17 : decode cX2_read 17 = .ok (.getfield 29, 3) := by decide +kernel
theorem dX2_read_20 : decode cX2_read 20 = .ok (.invokestatic 78, 3) := by decide +kernel
theorem dX2_read_23 : decode cX2_read 23 = .ok (.putfield 33, 3) := by decide +kernel
theorem dX2_read_26 : decode cX2_read 26 = .ok (.aload_n 0, 1) := by decide +kernel
theorem dX2_read_27 : decode cX2_read 27 = .ok (.iconst 0, 1) := by decide +kernel
theorem dX2_read_28 : decode cX2_read 28 = .ok (.putfield 29, 3) := by decide +kernel
theorem dX2_read_31 : decode cX2_read 31 = .ok (.aload_n 0, 1) := by decide +kernel
theorem dX2_read_32 : decode cX2_read 32 = .ok (.iconst 0, 1) := by decide +kernel
theorem dX2_read_33 : decode cX2_read 33 = .ok (.putfield 39, 3) := by decide +kernel
theorem dX2_read_36 : decode cX2_read 36 = .ok (.aload_n 0, 1) := by decide +kernel
theorem dX2_read_37 : decode cX2_read 37 = .ok (.iconst 0, 1) := by decide +kernel
theorem dX2_read_38 : decode cX2_read 38 = .ok (.putfield 61, 3) := by decide +kernel
theorem dX2_read_41 : decode cX2_read 41 = .ok (.aload_n 0, 1) := by decide +kernel
theorem dX2_read_42 : decode cX2_read 42 = .ok (.iconst 0, 1) := by decide +kernel
theorem dX2_read_43 : decode cX2_read 43 = .ok (.putfield 64, 3) := by decide +kernel
theorem dX2_read_46 : decode cX2_read 46 = .ok (.aload_n 0, 1) := by decide +kernel
theorem dX2_read_47 : decode cX2_read 47 = .ok (.iconst 0, 1) := by decide +kernel
theorem dX2_read_48 : decode cX2_read 48 = .ok (.putfield 67, 3) := by decide +kernel
theorem dX2_read_51 : decode cX2_read 51 = .ok (.aload_n 0, 1) := by decide +kernel
theorem dX2_read_52 : decode cX2_read 52 = .ok (.iconst 0, 1) := by decide +kernel
theorem dX2_read_53 : decode cX2_read 53 = .ok (.putfield 71, 3) := by decide +kernel
theorem dX2_read_56 : decode cX2_read 56 = .ok (.aload_n 0, 1) := by decide +kernel
theorem dX2_read_57 : decode cX2_read 57 = .ok (.invokevirtual 84, 3) := by decide +kernel
theorem dX2_read_60 : decode cX2_read 60 = .ok (.iconst 1, 1) := by decide +kernel
theorem dX2_read_61 : decode cX2_read 61 = .ok (.istore_n 2, 1) := by decide +kernel
theorem dX2_read_62 : decode cX2_read 62 = .ok (.iconst 0, 1) := by decide +kernel
theorem dX2_read_63 : decode cX2_read 63 = .ok (.istore_n 3, 1) := by decide +kernel
theorem dX2_read_64 : decode cX2_read 64 = .ok (.iload_n 3, 1) := by decide +kernel
theorem dX2_read_65 : decode cX2_read 65 = .ok (.sipush 700, 3) := by decide +kernel
theorem dX2_read_68 : decode cX2_read 68 = .ok (.if_icmp .ge 25, 3) := by decide +kernel
theorem dX2_read_71 : decode cX2_read 71 = .ok (.iload_n 2, 1) := by decide +kernel
theorem dX2_read_72 : decode cX2_read 72 = .ok (.ifCond .eq 21, 3) := by decide +kernel
theorem dX2_read_75 : decode cX2_read 75 = .ok (.aload_n 0, 1) := by decide +kernel
theorem dX2_read_76 : decode cX2_read 76 = .ok (.getfield 42, 3) := by decide +kernel
theorem dX2_read_79 : decode cX2_read 79 = .ok (.ifCond .eq 14, 3) := by decide +kernel
theorem dX2_read_82 : decode cX2_read 82 = .ok (.aload_n 0, 1) := by decide +kernel
theorem dX2_read_83 : decode cX2_read 83 = .ok (.invokevirtual 87, 3) := by decide +kernel
theorem dX2_read_86 : decode cX2_read 86 = .ok (.istore_n 2, 1) := by decide +kernel
theorem dX2_read_87 : decode cX2_read 87 = .ok (.iinc 3 1, 3) := by decide +kernel
theorem dX2_read_90 : decode cX2_read 90 = .ok (.goto (-26), 3) := by decide +kernel
theorem dX2_read_93 : decode cX2_read 93 = .ok (.aload_n 0, 1) := by decide +kernel
theorem dX2_read_94 : decode cX2_read 94 = .ok (.getfield 61, 3) := by decide +kernel
theorem dX2_read_97 : decode cX2_read 97 = .ok (.ireturn, 1) := by decide +kernel
theorem dX2_fail_0 : decode cX2_fail 0 = .ok (.aload_n 0, 1) := by decide +kernel
theorem dX2_fail_1 : decode cX2_fail 1 = .ok (.iload_n 1, 1) := by decide +kernel
theorem dX2_fail_2 : decode cX2_fail 2 = .ok (.putfield 61, 3) := by decide +kernel
theorem dX2_fail_5 : decode cX2_fail 5 = .ok (.aload_n 0, 1) := by decide +kernel
theorem dX2_fail_6 : decode cX2_fail 6 = .ok (.aload_n 0, 1) := by decide +kernel
theorem dX2_fail_7 : decode cX2_fail 7 = .ok (.getfield 36, 3) := by decide +kernel
theorem dX2_fail_10 : decode cX2_fail 10 = .ok (.putfield 64, 3) := by decide +kernel
theorem dX2_fail_13 : decode cX2_fail 13 = .ok (.iconst 0, 1) := by decide +kernel
theorem dX2_fail_14 : decode cX2_fail 14 = .ok (.ireturn, 1) := by decide +kernel
theorem dX2_step_0 : decode cX2_step 0 = .ok (.aload_n 0, 1) := by decide +kernel
theorem dX2_step_1 : decode cX2_step 1 = .ok (.aload_n 0, 1) := by decide +kernel
theorem dX2_step_2 : decode cX2_step 2 = .ok (.getfield 39, 3) := by decide +kernel
theorem dX2_step_5 : decode cX2_step 5 = .ok (.putfield 36, 3) := by decide +kernel
theorem dX2_step_8 : decode cX2_step 8 = .ok (.aload_n 0, 1) := by decide +kernel
theorem dX2_step_9 : decode cX2_step 9 = .ok (.getfield 36, 3) := by decide +kernel
theorem dX2_step_12 : decode cX2_step 12 = .ok (.aload_n 0, 1) := by decide +kernel
theorem dX2_step_13 : decode cX2_step 13 = .ok (.getfield 33, 3) := by decide +kernel
theorem dX2_step_16 : decode cX2_step 16 = .ok (.if_icmp .ge 44, 3) := by decide +kernel
theorem dX2_step_19 : decode cX2_step 19 = .ok (.aload_n 0, 1) := by decide +kernel
theorem dX2_step_20 : decode cX2_step 20 = .ok (.getfield 9, 3) := by decide +kernel
theorem dX2_step_23 : decode cX2_step 23 = .ok (.aload_n 0, 1) := by decide +kernel
theorem dX2_step_24 : decode cX2_step 24 = .ok (.getfield 36, 3) := by decide +kernel
theorem dX2_step_27 : decode cX2_step 27 = .ok (.baload, 1) := by decide +kernel
theorem dX2_step_28 : decode cX2_step 28 = .ok (.bipush 32, 2) := by decide +kernel
theorem dX2_step_30 : decode cX2_step 30 = .ok (.if_icmp .eq 17, 3) := by decide +kernel
theorem dX2_step_33 : decode cX2_step 33 = .ok (.aload_n 0, 1) := by decide +kernel
theorem dX2_step_34 : decode cX2_step 34 = .ok (.getfield 9, 3) := by decide +kernel
theorem dX2_step_37 : decode cX2_step 37 = .ok (.aload_n 0, 1) := by decide +kernel
theorem dX2_step_38 : decode cX2_step 38 = .ok (.getfield 36, 3) := by decide +kernel
theorem dX2_step_41 : decode cX2_step 41 = .ok (.baload, 1) := by decide +kernel
theorem dX2_step_42 : decode cX2_step 42 = .ok (.bipush 10, 2) := by decide +kernel
theorem dX2_step_44 : decode cX2_step 44 = .ok (.if_icmp .ne 16, 3) := by decide +kernel
theorem dX2_step_47 : decode cX2_step 47 = .ok (.aload_n 0, 1) := by decide +kernel
theorem dX2_step_48 : decode cX2_step 48 = .ok (.dup, 1) := by decide +kernel
theorem dX2_step_49 : decode cX2_step 49 = .ok (.getfield 36, 3) := by decide +kernel
theorem dX2_step_52 : decode cX2_step 52 = .ok (.iconst 1, 1) := by decide +kernel
theorem dX2_step_53 : decode cX2_step 53 = .ok (.iadd, 1) := by decide +kernel
theorem dX2_step_54 : decode cX2_step 54 = .ok (.putfield 36, 3) := by decide +kernel
theorem dX2_step_57 : decode cX2_step 57 = .ok (.goto (-49), 3) := by decide +kernel
theorem dX2_step_60 : decode cX2_step 60 = .ok (.aload_n 0, 1) := by decide +kernel
theorem dX2_step_61 : decode cX2_step 61 = .ok (.aload_n 0, 1) := by decide +kernel
theorem dX2_step_62 : decode cX2_step 62 = .ok (.getfield 36, 3) := by decide +kernel
theorem dX2_step_65 : decode cX2_step 65 = .ok (.putfield 39, 3) := by decide +kernel
theorem dX2_step_68 : decode cX2_step 68 = .ok (.aload_n 0, 1) := by decide +kernel
theorem dX2_step_69 : decode cX2_step 69 = .ok (.aload_n 0, 1) := by decide +kernel
theorem dX2_step_70 : decode cX2_step 70 = .ok (.getfield 36, 3) := by decide +kernel
theorem dX2_step_73 : decode cX2_step 73 = .ok (.aload_n 0, 1) := by decide +kernel
theorem dX2_step_74 : decode cX2_step 74 = .ok (.getfield 33, 3) := by decide +kernel
theorem dX2_step_77 : decode cX2_step 77 = .ok (.if_icmp .ge 18, 3) := by decide +kernel
theorem dX2_step_80 : decode cX2_step 80 = .ok (.aload_n 0, 1) := by decide +kernel
theorem dX2_step_81 : decode cX2_step 81 = .ok (.getfield 9, 3) := by decide +kernel
theorem dX2_step_84 : decode cX2_step 84 = .ok (.aload_n 0, 1) := by decide +kernel
theorem dX2_step_85 : decode cX2_step 85 = .ok (.getfield 36, 3) := by decide +kernel
theorem dX2_step_88 : decode cX2_step 88 = .ok (.baload, 1) := by decide +kernel
theorem dX2_step_89 : decode cX2_step 89 = .ok (.invokestatic 91, 3) := by decide +kernel
theorem dX2_step_92 : decode cX2_step 92 = .ok (.goto 4, 3) := by decide +kernel
theorem dX2_step_95 : decode cX2_step 95 = .ok (.iconst 0, 1) := by decide +kernel
theorem dX2_step_96 : decode cX2_step 96 = .ok (.putfield 42, 3) := by decide +kernel
theorem dX2_step_99 : decode cX2_step 99 = .ok (.aload_n 0, 1) := by decide +kernel
theorem dX2_step_100 : decode cX2_step 100 = .ok (.getfield 42, 3) := by decide +kernel
theorem dX2_step_103 : decode cX2_step 103 = .ok (.ifCond .ne 4, 3) := by decide +kernel
theorem dX2_step_106 : decode cX2_step 106 = .ok (.return_, 1) := by decide +kernel
theorem dX2_step_107 : decode cX2_step 107 = .ok (.aload_n 0, 1) := by decide +kernel
theorem dX2_step_108 : decode cX2_step 108 = .ok (.aload_n 0, 1) := by decide +kernel
theorem dX2_step_109 : decode cX2_step 109 = .ok (.getfield 9, 3) := by decide +kernel
theorem dX2_step_112 : decode cX2_step 112 = .ok (.aload_n 0, 1) := by decide +kernel
theorem dX2_step_113 : decode cX2_step 113 = .ok (.getfield 36, 3) := by decide +kernel
theorem dX2_step_116 : decode cX2_step 116 = .ok (.baload, 1) := by decide +kernel
theorem dX2_step_117 : decode cX2_step 117 = .ok (.sipush 255, 3) := by decide +kernel
theorem dX2_step_120 : decode cX2_step 120 = .ok (.iand, 1) := by decide +kernel
theorem dX2_step_121 : decode cX2_step 121 = .ok (.i2c, 1) := by decide +kernel
theorem dX2_step_122 : decode cX2_step 122 = .ok (.putfield 48, 3) := by decide +kernel
theorem dX2_step_125 : decode cX2_step 125 = .ok (.aload_n 0, 1) := by decide +kernel
theorem dX2_step_126 : decode cX2_step 126 = .ok (.dup, 1) := by decide +kernel
theorem dX2_step_127 : decode cX2_step 127 = .ok (.getfield 39, 3) := by decide +kernel
theorem dX2_step_130 : decode cX2_step 130 = .ok (.iconst 1, 1) := by decide +kernel
theorem dX2_step_131 : decode cX2_step 131 = .ok (.iadd, 1) := by decide +kernel
theorem dX2_step_132 : decode cX2_step 132 = .ok (.putfield 39, 3) := by decide +kernel
theorem dX2_step_135 : decode cX2_step 135 = .ok (.aload_n 0, 1) := by decide +kernel
theorem dX2_step_136 : decode cX2_step 136 = .ok (.getfield 42, 3) := by decide +kernel
theorem dX2_step_139 : decode cX2_step 139 = .ok (.iconst 1, 1) := by decide +kernel
theorem dX2_step_140 : decode cX2_step 140 = .ok (.if_icmp .eq 11, 3) := by decide +kernel
theorem dX2_step_143 : decode cX2_step 143 = .ok (.aload_n 0, 1) := by decide +kernel
theorem dX2_step_144 : decode cX2_step 144 = .ok (.getfield 42, 3) := by decide +kernel
theorem dX2_step_147 : decode cX2_step 147 = .ok (.iconst 2, 1) := by decide +kernel
theorem dX2_step_148 : decode cX2_step 148 = .ok (.if_icmp .ne 7, 3) := by decide +kernel
theorem dX2_step_151 : decode cX2_step 151 = .ok (.iconst 1, 1) := by decide +kernel
theorem dX2_step_152 : decode cX2_step 152 = .ok (.goto 4, 3) := by decide +kernel
theorem dX2_step_155 : decode cX2_step 155 = .ok (.iconst 0, 1) := by decide +kernel
theorem dX2_step_156 : decode cX2_step 156 = .ok (.istore_n 1, 1) := by decide +kernel
theorem dX2_step_157 : decode cX2_step 157 = .ok (.iload_n 1, 1) := by decide +kernel
theorem dX2_step_158 : decode cX2_step 158 = .ok (.ifCond .eq 46, 3) := by decide +kernel
theorem dX2_step_161 : decode cX2_step 161 = .ok (.aload_n 0, 1) := by decide +kernel
theorem dX2_step_162 : decode cX2_step 162 = .ok (.getfield 39, 3) := by decide +kernel
theorem dX2_step_165 : decode cX2_step 165 = .ok (.aload_n 0, 1) := by decide +kernel
theorem dX2_step_166 : decode cX2_step 166 = .ok (.getfield 33, 3) := by decide +kernel
theorem dX2_step_169 : decode cX2_step 169 = .ok (.if_icmp .ge 35, 3) := by decide +kernel
theorem dX2_step_172 : decode cX2_step 172 = .ok (.aload_n 0, 1) := by decide +kernel
theorem dX2_step_173 : decode cX2_step 173 = .ok (.getfield 9, 3) := by decide +kernel
theorem dX2_step_176 : decode cX2_step 176 = .ok (.aload_n 0, 1) := by decide +kernel
theorem dX2_step_177 : decode cX2_step 177 = .ok (.getfield 39, 3) := by decide +kernel
theorem dX2_step_180 : decode cX2_step 180 = .ok (.baload, 1) := by decide +kernel
theorem dX2_step_181 : decode cX2_step 181 = .ok (.invokestatic 91, 3) := by decide +kernel
theorem dX2_step_184 : decode cX2_step 184 = .ok (.aload_n 0, 1) := by decide +kernel
theorem dX2_step_185 : decode cX2_step 185 = .ok (.getfield 42, 3) := by decide +kernel
theorem dX2_step_188 : decode cX2_step 188 = .ok (.if_icmp .ne 16, 3) := by decide +kernel
theorem dX2_step_191 : decode cX2_step 191 = .ok (.aload_n 0, 1) := by decide +kernel
theorem dX2_step_192 : decode cX2_step 192 = .ok (.dup, 1) := by decide +kernel
theorem dX2_step_193 : decode cX2_step 193 = .ok (.getfield 39, 3) := by decide +kernel
theorem dX2_step_196 : decode cX2_step 196 = .ok (.iconst 1, 1) := by decide +kernel
theorem dX2_step_197 : decode cX2_step 197 = .ok (.iadd, 1) := by decide +kernel
theorem dX2_step_198 : decode cX2_step 198 = .ok (.putfield 39, 3) := by decide +kernel
theorem dX2_step_201 : decode cX2_step 201 = .ok (.goto (-44), 3) := by decide +kernel
theorem dX2_step_204 : decode cX2_step 204 = .ok (.aload_n 0, 1) := by decide +kernel
theorem dX2_step_205 : decode cX2_step 205 = .ok (.getfield 42, 3) := by decide +kernel
theorem dX2_step_208 : decode cX2_step 208 = .ok (.iconst 1, 1) := by decide +kernel
theorem dX2_step_209 : decode cX2_step 209 = .ok (.if_icmp .ne 25, 3) := by decide +kernel
theorem dX2_step_212 : decode cX2_step 212 = .ok (.aload_n 0, 1) := by decide +kernel
theorem dX2_step_213 : decode cX2_step 213 = .ok (.aload_n 0, 1) := by decide +kernel
theorem dX2_step_214 : decode cX2_step 214 = .ok (.getfield 9, 3) := by decide +kernel
theorem dX2_step_217 : decode cX2_step 217 = .ok (.aload_n 0, 1) := by decide +kernel
theorem dX2_step_218 : decode cX2_step 218 = .ok (.getfield 36, 3) := by decide +kernel
theorem dX2_step_221 : decode cX2_step 221 = .ok (.aload_n 0, 1) := by decide +kernel
theorem dX2_step_222 : decode cX2_step 222 = .ok (.getfield 39, 3) := by decide +kernel
theorem dX2_step_225 : decode cX2_step 225 = .ok (.invokestatic 95, 3) := by decide +kernel
theorem dX2_step_228 : decode cX2_step 228 = .ok (.putfield 58, 3) := by decide +kernel
theorem dX2_step_231 : decode cX2_step 231 = .ok (.goto 19, 3) := by decide +kernel
theorem dX2_step_234 : decode cX2_step 234 = .ok (.aload_n 0, 1) := by decide +kernel
theorem dX2_step_235 : decode cX2_step 235 = .ok (.getfield 42, 3) := by decide +kernel
theorem dX2_step_238 : decode cX2_step 238 = .ok (.iconst 2, 1) := by decide +kernel
theorem dX2_step_239 : decode cX2_step 239 = .ok (.if_icmp .ne 11, 3) := by decide +kernel
theorem dX2_step_242 : decode cX2_step 242 = .ok (.aload_n 0, 1) := by decide +kernel
theorem dX2_step_243 : decode cX2_step 243 = .ok (.aload_n 0, 1) := by decide +kernel
theorem dX2_step_244 : decode cX2_step 244 = .ok (.invokevirtual 99, 3) := by decide +kernel
theorem dX2_step_247 : decode cX2_step 247 = .ok (.putfield 45, 3) := by decide +kernel
theorem dX2_step_250 : decode cX2_step 250 = .ok (.return_, 1) := by decide +kernel
theorem dX2_kindOf_0 : decode cX2_kindOf 0 = .ok (.iload_n 0, 1) := by decide +kernel
theorem dX2_kindOf_1 : decode cX2_kindOf 1 = .ok (.bipush 97, 2) := by decide +kernel
theorem dX2_kindOf_3 : decode cX2_kindOf 3 = .ok (.if_icmp .lt 11, 3) := by decide +kernel
theorem dX2_kindOf_6 : decode cX2_kindOf 6 = .ok (.iload_n 0, 1) := by decide +kernel
theorem dX2_kindOf_7 : decode cX2_kindOf 7 = .ok (.bipush 122, 2) := by decide +kernel
theorem dX2_kindOf_9 : decode cX2_kindOf 9 = .ok (.if_icmp .gt 5, 3) := by decide +kernel
theorem dX2_kindOf_12 : decode cX2_kindOf 12 = .ok (.iconst 1, 1) := by decide +kernel
theorem dX2_kindOf_13 : decode cX2_kindOf 13 = .ok (.ireturn, 1) := by decide +kernel
theorem dX2_kindOf_14 : decode cX2_kindOf 14 = .ok (.iload_n 0, 1) := by decide +kernel
theorem dX2_kindOf_15 : decode cX2_kindOf 15 = .ok (.bipush 48, 2) := by decide +kernel
theorem dX2_kindOf_17 : decode cX2_kindOf 17 = .ok (.if_icmp .lt 11, 3) := by decide +kernel
theorem dX2_kindOf_20 : decode cX2_kindOf 20 = .ok (.iload_n 0, 1) := by decide +kernel
theorem dX2_kindOf_21 : decode cX2_kindOf 21 = .ok (.bipush 57, 2) := by decide +kernel
theorem dX2_kindOf_23 : decode cX2_kindOf 23 = .ok (.if_icmp .gt 5, 3) := by decide +kernel
theorem dX2_kindOf_26 : decode cX2_kindOf 26 = .ok (.iconst 2, 1) := by decide +kernel
theorem dX2_kindOf_27 : decode cX2_kindOf 27 = .ok (.ireturn, 1) := by decide +kernel
theorem dX2_kindOf_28 : decode cX2_kindOf 28 = .ok (.ldc 103, 2) := by decide +kernel
theorem dX2_kindOf_30 : decode cX2_kindOf 30 = .ok (.iload_n 0, 1) := by decide +kernel
theorem dX2_kindOf_31 : decode cX2_kindOf 31 = .ok (.sipush 255, 3) := by decide +kernel
theorem dX2_kindOf_34 : decode cX2_kindOf 34 = .ok (.iand, 1) := by decide +kernel
theorem dX2_kindOf_35 : decode cX2_kindOf 35 = .ok (.i2c, 1) := by decide +kernel
theorem dX2_kindOf_36 : decode cX2_kindOf 36 = .ok (.invokevirtual 105, 3) := by decide +kernel
theorem dX2_kindOf_39 : decode cX2_kindOf 39 = .ok (.ifCond .lt 7, 3) := by decide +kernel
theorem dX2_kindOf_42 : decode cX2_kindOf 42 = .ok (.iconst 3, 1) := by decide +kernel
theorem dX2_kindOf_43 : decode cX2_kindOf 43 = .ok (.goto 4, 3) := by decide +kernel
theorem dX2_kindOf_46 : decode cX2_kindOf 46 = .ok (.iconst 4, 1) := by decide +kernel
theorem dX2_kindOf_47 : decode cX2_kindOf 47 = .ok (.ireturn, 1) := by decide +kernel
theorem dX2_valueOfDigits_0 : decode cX2_valueOfDigits 0 = .ok (.iconst 0, 1) := by decide +kernel
theorem dX2_valueOfDigits_1 : decode cX2_valueOfDigits 1 = .ok (.istore_n 1, 1) := by decide +kernel
theorem dX2_valueOfDigits_2 : decode cX2_valueOfDigits 2 = .ok (.aload_n 0, 1) := by decide +kernel
theorem dX2_valueOfDigits_3 : decode cX2_valueOfDigits 3 = .ok (.getfield 36, 3) := by decide +kernel
theorem dX2_valueOfDigits_6 : decode cX2_valueOfDigits 6 = .ok (.istore_n 2, 1) := by decide +kernel
theorem dX2_valueOfDigits_7 : decode cX2_valueOfDigits 7 = .ok (.iload_n 2, 1) := by decide +kernel
theorem dX2_valueOfDigits_8 : decode cX2_valueOfDigits 8 = .ok (.aload_n 0, 1) := by decide +kernel
theorem dX2_valueOfDigits_9 : decode cX2_valueOfDigits 9 = .ok (.getfield 39, 3) := by decide +kernel
theorem dX2_valueOfDigits_12 : decode cX2_valueOfDigits 12 = .ok (.if_icmp .ge 34, 3) := by decide +kernel
theorem dX2_valueOfDigits_15 : decode cX2_valueOfDigits 15 = .ok (.iload_n 2, 1) := by decide +kernel
theorem dX2_valueOfDigits_16 : decode cX2_valueOfDigits 16 = .ok (.aload_n 0, 1) := by decide +kernel
theorem dX2_valueOfDigits_17 : decode cX2_valueOfDigits 17 = .ok (.getfield 36, 3) := by decide +kernel
theorem dX2_valueOfDigits_20 : decode cX2_valueOfDigits 20 = .ok (.iconst 4, 1) := by decide +kernel
theorem dX2_valueOfDigits_21 : decode cX2_valueOfDigits 21 = .ok (.iadd, 1) := by decide +kernel
theorem dX2_valueOfDigits_22 : decode cX2_valueOfDigits 22 = .ok (.if_icmp .ge 24, 3) := by decide +kernel
theorem dX2_valueOfDigits_25 : decode cX2_valueOfDigits 25 = .ok (.iload_n 1, 1) := by decide +kernel
theorem dX2_valueOfDigits_26 : decode cX2_valueOfDigits 26 = .ok (.bipush 10, 2) := by decide +kernel
theorem dX2_valueOfDigits_28 : decode cX2_valueOfDigits 28 = .ok (.imul, 1) := by decide +kernel
theorem dX2_valueOfDigits_29 : decode cX2_valueOfDigits 29 = .ok (.aload_n 0, 1) := by decide +kernel
theorem dX2_valueOfDigits_30 : decode cX2_valueOfDigits 30 = .ok (.getfield 9, 3) := by decide +kernel
theorem dX2_valueOfDigits_33 : decode cX2_valueOfDigits 33 = .ok (.iload_n 2, 1) := by decide +kernel
theorem dX2_valueOfDigits_34 : decode cX2_valueOfDigits 34 = .ok (.baload, 1) := by decide +kernel
theorem dX2_valueOfDigits_35 : decode cX2_valueOfDigits 35 = .ok (.iadd, 1) := by decide +kernel
theorem dX2_valueOfDigits_36 : decode cX2_valueOfDigits 36 = .ok (.bipush 48, 2) := by decide +kernel
theorem dX2_valueOfDigits_38 : decode cX2_valueOfDigits 38 = .ok (.isub, 1) := by decide +kernel
theorem dX2_valueOfDigits_39 : decode cX2_valueOfDigits 39 = .ok (.istore_n 1, 1) := by decide +kernel
theorem dX2_valueOfDigits_40 : decode cX2_valueOfDigits 40 = .ok (.iinc 2 1, 3) := by decide +kernel
theorem dX2_valueOfDigits_43 : decode cX2_valueOfDigits 43 = .ok (.goto (-36), 3) := by decide +kernel
theorem dX2_valueOfDigits_46 : decode cX2_valueOfDigits 46 = .ok (.iload_n 1, 1) := by decide +kernel
theorem dX2_valueOfDigits_47 : decode cX2_valueOfDigits 47 = .ok (.ireturn, 1) := by decide +kernel
theorem dX2_isSign_0 : decode cX2_isSign 0 = .ok (.aload_n 0, 1) := by decide +kernel
theorem dX2_isSign_1 : decode cX2_isSign 1 = .ok (.getfield 42, 3) := by decide +kernel
theorem dX2_isSign_4 : decode cX2_isSign 4 = .ok (.iconst 3, 1) := by decide +kernel
theorem dX2_isSign_5 : decode cX2_isSign 5 = .ok (.if_icmp .ne 15, 3) := by decide +kernel
theorem dX2_isSign_8 : decode cX2_isSign 8 = .ok (.aload_n 0, 1) := by decide +kernel
theorem dX2_isSign_9 : decode cX2_isSign 9 = .ok (.getfield 48, 3) := by decide +kernel
theorem dX2_isSign_12 : decode cX2_isSign 12 = .ok (.iload_n 1, 1) := by decide +kernel
theorem dX2_isSign_13 : decode cX2_isSign 13 = .ok (.if_icmp .ne 7, 3) := by decide +kernel
theorem dX2_isSign_16 : decode cX2_isSign 16 = .ok (.iconst 1, 1) := by decide +kernel
theorem dX2_isSign_17 : decode cX2_isSign 17 = .ok (.goto 4, 3) := by decide +kernel
theorem dX2_isSign_20 : decode cX2_isSign 20 = .ok (.iconst 0, 1) := by decide +kernel
theorem dX2_isSign_21 : decode cX2_isSign 21 = .ok (.ireturn, 1) := by decide +kernel
theorem dX2_isWord_0 : decode cX2_isWord 0 = .ok (.aload_n 0, 1) := by decide +kernel
theorem dX2_isWord_1 : decode cX2_isWord 1 = .ok (.getfield 42, 3) := by decide +kernel
theorem dX2_isWord_4 : decode cX2_isWord 4 = .ok (.iconst 1, 1) := by decide +kernel
theorem dX2_isWord_5 : decode cX2_isWord 5 = .ok (.if_icmp .ne 15, 3) := by decide +kernel
theorem dX2_isWord_8 : decode cX2_isWord 8 = .ok (.aload_n 0, 1) := by decide +kernel
theorem dX2_isWord_9 : decode cX2_isWord 9 = .ok (.getfield 58, 3) := by decide +kernel
theorem dX2_isWord_12 : decode cX2_isWord 12 = .ok (.aload_n 1, 1) := by decide +kernel
theorem dX2_isWord_13 : decode cX2_isWord 13 = .ok (.if_acmp .ne 7, 3) := by decide +kernel
theorem dX2_isWord_16 : decode cX2_isWord 16 = .ok (.iconst 1, 1) := by decide +kernel
theorem dX2_isWord_17 : decode cX2_isWord 17 = .ok (.goto 4, 3) := by decide +kernel
theorem dX2_isWord_20 : decode cX2_isWord 20 = .ok (.iconst 0, 1) := by decide +kernel
theorem dX2_isWord_21 : decode cX2_isWord 21 = .ok (.ireturn, 1) := by decide +kernel
theorem dX2_readLine_0 : decode cX2_readLine 0 = .ok (.aload_n 0, 1) := by decide +kernel
theorem dX2_readLine_1 : decode cX2_readLine 1 = .ok (.getfield 42, 3) := by decide +kernel
theorem dX2_readLine_4 : decode cX2_readLine 4 = .ok (.iconst 1, 1) := by decide +kernel
theorem dX2_readLine_5 : decode cX2_readLine 5 = .ok (.if_icmp .eq 9, 3) := by decide +kernel
theorem dX2_readLine_8 : decode cX2_readLine 8 = .ok (.aload_n 0, 1) := by decide +kernel
theorem dX2_readLine_9 : decode cX2_readLine 9 = .ok (.iconst 1, 1) := by decide +kernel
theorem dX2_readLine_10 : decode cX2_readLine 10 = .ok (.invokevirtual 111, 3) := by decide +kernel
theorem dX2_readLine_13 : decode cX2_readLine 13 = .ok (.ireturn, 1) := by decide +kernel
theorem dX2_readLine_14 : decode cX2_readLine 14 = .ok (.getstatic 115, 3) := by decide +kernel
theorem dX2_readLine_17 : decode cX2_readLine 17 = .ok (.aload_n 0, 1) := by decide +kernel
theorem dX2_readLine_18 : decode cX2_readLine 18 = .ok (.getfield 58, 3) := by decide +kernel
theorem dX2_readLine_21 : decode cX2_readLine 21 = .ok (.invokevirtual 121, 3) := by decide +kernel
theorem dX2_readLine_24 : decode cX2_readLine 24 = .ok (.iaload, 1) := by decide +kernel
theorem dX2_readLine_25 : decode cX2_readLine 25 = .ok (.tableswitch 110 1 10 #[55, 61, 67, 72, 77, 82, 87, 92, 98, 104], 55) := by decide +kernel
theorem dX2_readLine_80 : decode cX2_readLine 80 = .ok (.aload_n 0, 1) := by decide +kernel
theorem dX2_readLine_81 : decode cX2_readLine 81 = .ok (.iconst 1, 1) := by decide +kernel
theorem dX2_readLine_82 : decode cX2_readLine 82 = .ok (.invokevirtual 124, 3) := by decide +kernel
theorem dX2_readLine_85 : decode cX2_readLine 85 = .ok (.ireturn, 1) := by decide +kernel
theorem dX2_readLine_86 : decode cX2_readLine 86 = .ok (.aload_n 0, 1) := by decide +kernel
theorem dX2_readLine_87 : decode cX2_readLine 87 = .ok (.iconst 0, 1) := by decide +kernel
theorem dX2_readLine_88 : decode cX2_readLine 88 = .ok (.invokevirtual 124, 3) := by decide +kernel
theorem dX2_readLine_91 : decode cX2_readLine 91 = .ok (.ireturn, 1) := by decide +kernel
theorem dX2_readLine_92 : decode cX2_readLine 92 = .ok (.aload_n 0, 1) := by decide +kernel
theorem dX2_readLine_93 : decode cX2_readLine 93 = .ok (.invokevirtual 128, 3) := by decide +kernel
theorem dX2_readLine_96 : decode cX2_readLine 96 = .ok (.ireturn, 1) := by decide +kernel
theorem dX2_readLine_97 : decode cX2_readLine 97 = .ok (.aload_n 0, 1) := by decide +kernel
theorem dX2_readLine_98 : decode cX2_readLine 98 = .ok (.invokevirtual 131, 3) := by decide +kernel
theorem dX2_readLine_101 : decode cX2_readLine 101 = .ok (.ireturn, 1) := by decide +kernel
theorem dX2_readLine_102 : decode cX2_readLine 102 = .ok (.aload_n 0, 1) := by decide +kernel
theorem dX2_readLine_103 : decode cX2_readLine 103 = .ok (.invokevirtual 134, 3) := by decide +kernel
theorem dX2_readLine_106 : decode cX2_readLine 106 = .ok (.ireturn, 1) := by decide +kernel
theorem dX2_readLine_107 : decode cX2_readLine 107 = .ok (.aload_n 0, 1) := by decide +kernel
theorem dX2_readLine_108 : decode cX2_readLine 108 = .ok (.invokevirtual 137, 3) := by decide +kernel
theorem dX2_readLine_111 : decode cX2_readLine 111 = .ok (.ireturn, 1) := by decide +kernel
theorem dX2_readLine_112 : decode cX2_readLine 112 = .ok (.aload_n 0, 1) := by decide +kernel
theorem dX2_readLine_113 : decode cX2_readLine 113 = .ok (.invokevirtual 140, 3) := by decide +kernel
theorem dX2_readLine_116 : decode cX2_readLine 116 = .ok (.ireturn, 1) := by decide +kernel
theorem dX2_readLine_117 : decode cX2_readLine 117 = .ok (.aload_n 0, 1) := by decide +kernel
theorem dX2_readLine_118 : decode cX2_readLine 118 = .ok (.iconst 0, 1) := by decide +kernel
theorem dX2_readLine_119 : decode cX2_readLine 119 = .ok (.invokevirtual 143, 3) := by decide +kernel
theorem dX2_readLine_122 : decode cX2_readLine 122 = .ok (.ireturn, 1) := by decide +kernel
theorem dX2_readLine_123 : decode cX2_readLine 123 = .ok (.aload_n 0, 1) := by decide +kernel
theorem dX2_readLine_124 : decode cX2_readLine 124 = .ok (.iconst 1, 1) := by decide +kernel
theorem dX2_readLine_125 : decode cX2_readLine 125 = .ok (.invokevirtual 143, 3) := by decide +kernel
theorem dX2_readLine_128 : decode cX2_readLine 128 = .ok (.ireturn, 1) := by decide +kernel
theorem dX2_readLine_129 : decode cX2_readLine 129 = .ok (.aload_n 0, 1) := by decide +kernel
theorem dX2_readLine_130 : decode cX2_readLine 130 = .ok (.iconst 2, 1) := by decide +kernel
theorem dX2_readLine_131 : decode cX2_readLine 131 = .ok (.invokevirtual 143, 3) := by decide +kernel
theorem dX2_readLine_134 : decode cX2_readLine 134 = .ok (.ireturn, 1) := by decide +kernel
theorem dX2_readLine_135 : decode cX2_readLine 135 = .ok (.aload_n 0, 1) := by decide +kernel
theorem dX2_readLine_136 : decode cX2_readLine 136 = .ok (.iconst 1, 1) := by decide +kernel
theorem dX2_readLine_137 : decode cX2_readLine 137 = .ok (.invokevirtual 111, 3) := by decide +kernel
theorem dX2_readLine_140 : decode cX2_readLine 140 = .ok (.ireturn, 1) := by decide +kernel
theorem dX2_readCourse_0 : decode cX2_readCourse 0 = .ok (.aload_n 0, 1) := by decide +kernel
theorem dX2_readCourse_1 : decode cX2_readCourse 1 = .ok (.getfield 18, 3) := by decide +kernel
theorem dX2_readCourse_4 : decode cX2_readCourse 4 = .ok (.getfield 146, 3) := by decide +kernel
theorem dX2_readCourse_7 : decode cX2_readCourse 7 = .ok (.bipush 16, 2) := by decide +kernel
theorem dX2_readCourse_9 : decode cX2_readCourse 9 = .ok (.if_icmp .lt 9, 3) := by decide +kernel
theorem dX2_readCourse_12 : decode cX2_readCourse 12 = .ok (.aload_n 0, 1) := by decide +kernel
theorem dX2_readCourse_13 : decode cX2_readCourse 13 = .ok (.iconst 2, 1) := by decide +kernel
theorem dX2_readCourse_14 : decode cX2_readCourse 14 = .ok (.invokevirtual 111, 3) := by decide +kernel
theorem dX2_readCourse_17 : decode cX2_readCourse 17 = .ok (.ireturn, 1) := by decide +kernel
theorem dX2_readCourse_18 : decode cX2_readCourse 18 = .ok (.aload_n 0, 1) := by decide +kernel
theorem dX2_readCourse_19 : decode cX2_readCourse 19 = .ok (.invokevirtual 84, 3) := by decide +kernel
theorem dX2_readCourse_22 : decode cX2_readCourse 22 = .ok (.aload_n 0, 1) := by decide +kernel
theorem dX2_readCourse_23 : decode cX2_readCourse 23 = .ok (.iconst 1, 1) := by decide +kernel
theorem dX2_readCourse_24 : decode cX2_readCourse 24 = .ok (.bipush 9, 2) := by decide +kernel
theorem dX2_readCourse_26 : decode cX2_readCourse 26 = .ok (.invokevirtual 149, 3) := by decide +kernel
theorem dX2_readCourse_29 : decode cX2_readCourse 29 = .ok (.ifCond .ne 5, 3) := by decide +kernel
theorem dX2_readCourse_32 : decode cX2_readCourse 32 = .ok (.iconst 0, 1) := by decide +kernel
theorem dX2_readCourse_33 : decode cX2_readCourse 33 = .ok (.ireturn, 1) := by decide +kernel
theorem dX2_readCourse_34 : decode cX2_readCourse 34 = .ok (.aload_n 0, 1) := by decide +kernel
theorem dX2_readCourse_35 : decode cX2_readCourse 35 = .ok (.getfield 45, 3) := by decide +kernel
theorem dX2_readCourse_38 : decode cX2_readCourse 38 = .ok (.istore_n 2, 1) := by decide +kernel
theorem dX2_readCourse_39 : decode cX2_readCourse 39 = .ok (.aload_n 0, 1) := by decide +kernel
theorem dX2_readCourse_40 : decode cX2_readCourse 40 = .ok (.invokevirtual 84, 3) := by decide +kernel
theorem dX2_readCourse_43 : decode cX2_readCourse 43 = .ok (.aload_n 0, 1) := by decide +kernel
theorem dX2_readCourse_44 : decode cX2_readCourse 44 = .ok (.iconst 0, 1) := by decide +kernel
theorem dX2_readCourse_45 : decode cX2_readCourse 45 = .ok (.bipush 9, 2) := by decide +kernel
theorem dX2_readCourse_47 : decode cX2_readCourse 47 = .ok (.invokevirtual 149, 3) := by decide +kernel
theorem dX2_readCourse_50 : decode cX2_readCourse 50 = .ok (.ifCond .ne 5, 3) := by decide +kernel
theorem dX2_readCourse_53 : decode cX2_readCourse 53 = .ok (.iconst 0, 1) := by decide +kernel
theorem dX2_readCourse_54 : decode cX2_readCourse 54 = .ok (.ireturn, 1) := by decide +kernel
theorem dX2_readCourse_55 : decode cX2_readCourse 55 = .ok (.aload_n 0, 1) := by decide +kernel
theorem dX2_readCourse_56 : decode cX2_readCourse 56 = .ok (.getfield 18, 3) := by decide +kernel
theorem dX2_readCourse_59 : decode cX2_readCourse 59 = .ok (.iload_n 2, 1) := by decide +kernel
theorem dX2_readCourse_60 : decode cX2_readCourse 60 = .ok (.aload_n 0, 1) := by decide +kernel
theorem dX2_readCourse_61 : decode cX2_readCourse 61 = .ok (.getfield 45, 3) := by decide +kernel
theorem dX2_readCourse_64 : decode cX2_readCourse 64 = .ok (.iload_n 1, 1) := by decide +kernel
theorem dX2_readCourse_65 : decode cX2_readCourse 65 = .ok (.invokevirtual 153, 3) := by decide +kernel
theorem dX2_readCourse_68 : decode cX2_readCourse 68 = .ok (.aload_n 0, 1) := by decide +kernel
theorem dX2_readCourse_69 : decode cX2_readCourse 69 = .ok (.invokevirtual 84, 3) := by decide +kernel
theorem dX2_readCourse_72 : decode cX2_readCourse 72 = .ok (.aload_n 0, 1) := by decide +kernel
theorem dX2_readCourse_73 : decode cX2_readCourse 73 = .ok (.invokevirtual 157, 3) := by decide +kernel
theorem dX2_readCourse_76 : decode cX2_readCourse 76 = .ok (.ireturn, 1) := by decide +kernel
theorem dX2_readGround_0 : decode cX2_readGround 0 = .ok (.aload_n 0, 1) := by decide +kernel
theorem dX2_readGround_1 : decode cX2_readGround 1 = .ok (.getfield 67, 3) := by decide +kernel
theorem dX2_readGround_4 : decode cX2_readGround 4 = .ok (.ifCond .eq 9, 3) := by decide +kernel
theorem dX2_readGround_7 : decode cX2_readGround 7 = .ok (.aload_n 0, 1) := by decide +kernel
theorem dX2_readGround_8 : decode cX2_readGround 8 = .ok (.iconst 5, 1) := by decide +kernel
theorem dX2_readGround_9 : decode cX2_readGround 9 = .ok (.invokevirtual 111, 3) := by decide +kernel
theorem dX2_readGround_12 : decode cX2_readGround 12 = .ok (.ireturn, 1) := by decide +kernel
theorem dX2_readGround_13 : decode cX2_readGround 13 = .ok (.aload_n 0, 1) := by decide +kernel
theorem dX2_readGround_14 : decode cX2_readGround 14 = .ok (.iconst 1, 1) := by decide +kernel
theorem dX2_readGround_15 : decode cX2_readGround 15 = .ok (.putfield 67, 3) := by decide +kernel
theorem dX2_readGround_18 : decode cX2_readGround 18 = .ok (.aload_n 0, 1) := by decide +kernel
theorem dX2_readGround_19 : decode cX2_readGround 19 = .ok (.invokevirtual 84, 3) := by decide +kernel
theorem dX2_readGround_22 : decode cX2_readGround 22 = .ok (.aload_n 0, 1) := by decide +kernel
theorem dX2_readGround_23 : decode cX2_readGround 23 = .ok (.iconst 2, 1) := by decide +kernel
theorem dX2_readGround_24 : decode cX2_readGround 24 = .ok (.bipush 16, 2) := by decide +kernel
theorem dX2_readGround_26 : decode cX2_readGround 26 = .ok (.invokevirtual 149, 3) := by decide +kernel
theorem dX2_readGround_29 : decode cX2_readGround 29 = .ok (.ifCond .ne 5, 3) := by decide +kernel
theorem dX2_readGround_32 : decode cX2_readGround 32 = .ok (.iconst 0, 1) := by decide +kernel
theorem dX2_readGround_33 : decode cX2_readGround 33 = .ok (.ireturn, 1) := by decide +kernel
theorem dX2_readGround_34 : decode cX2_readGround 34 = .ok (.aload_n 0, 1) := by decide +kernel
theorem dX2_readGround_35 : decode cX2_readGround 35 = .ok (.getfield 25, 3) := by decide +kernel
theorem dX2_readGround_38 : decode cX2_readGround 38 = .ok (.aload_n 0, 1) := by decide +kernel
theorem dX2_readGround_39 : decode cX2_readGround 39 = .ok (.getfield 45, 3) := by decide +kernel
theorem dX2_readGround_42 : decode cX2_readGround 42 = .ok (.putfield 160, 3) := by decide +kernel
theorem dX2_readGround_45 : decode cX2_readGround 45 = .ok (.aload_n 0, 1) := by decide +kernel
theorem dX2_readGround_46 : decode cX2_readGround 46 = .ok (.invokevirtual 84, 3) := by decide +kernel
theorem dX2_readGround_49 : decode cX2_readGround 49 = .ok (.aload_n 0, 1) := by decide +kernel
theorem dX2_readGround_50 : decode cX2_readGround 50 = .ok (.invokevirtual 157, 3) := by decide +kernel
theorem dX2_readGround_53 : decode cX2_readGround 53 = .ok (.ireturn, 1) := by decide +kernel
theorem dX2_readCost_0 : decode cX2_readCost 0 = .ok (.aload_n 0, 1) := by decide +kernel
theorem dX2_readCost_1 : decode cX2_readCost 1 = .ok (.getfield 71, 3) := by decide +kernel
theorem dX2_readCost_4 : decode cX2_readCost 4 = .ok (.ifCond .eq 9, 3) := by decide +kernel
theorem dX2_readCost_7 : decode cX2_readCost 7 = .ok (.aload_n 0, 1) := by decide +kernel
theorem dX2_readCost_8 : decode cX2_readCost 8 = .ok (.iconst 5, 1) := by decide +kernel
theorem dX2_readCost_9 : decode cX2_readCost 9 = .ok (.invokevirtual 111, 3) := by decide +kernel
theorem dX2_readCost_12 : decode cX2_readCost 12 = .ok (.ireturn, 1) := by decide +kernel
theorem dX2_readCost_13 : decode cX2_readCost 13 = .ok (.aload_n 0, 1) := by decide +kernel
theorem dX2_readCost_14 : decode cX2_readCost 14 = .ok (.iconst 1, 1) := by decide +kernel
theorem dX2_readCost_15 : decode cX2_readCost 15 = .ok (.putfield 71, 3) := by decide +kernel
theorem dX2_readCost_18 : decode cX2_readCost 18 = .ok (.aload_n 0, 1) := by decide +kernel
theorem dX2_readCost_19 : decode cX2_readCost 19 = .ok (.invokevirtual 84, 3) := by decide +kernel
theorem dX2_readCost_22 : decode cX2_readCost 22 = .ok (.aload_n 0, 1) := by decide +kernel
theorem dX2_readCost_23 : decode cX2_readCost 23 = .ok (.iconst 1, 1) := by decide +kernel
theorem dX2_readCost_24 : decode cX2_readCost 24 = .ok (.bipush 99, 2) := by decide +kernel
theorem dX2_readCost_26 : decode cX2_readCost 26 = .ok (.invokevirtual 149, 3) := by decide +kernel
theorem dX2_readCost_29 : decode cX2_readCost 29 = .ok (.ifCond .ne 5, 3) := by decide +kernel
theorem dX2_readCost_32 : decode cX2_readCost 32 = .ok (.iconst 0, 1) := by decide +kernel
theorem dX2_readCost_33 : decode cX2_readCost 33 = .ok (.ireturn, 1) := by decide +kernel
theorem dX2_readCost_34 : decode cX2_readCost 34 = .ok (.aload_n 0, 1) := by decide +kernel
theorem dX2_readCost_35 : decode cX2_readCost 35 = .ok (.getfield 25, 3) := by decide +kernel
theorem dX2_readCost_38 : decode cX2_readCost 38 = .ok (.aload_n 0, 1) := by decide +kernel
theorem dX2_readCost_39 : decode cX2_readCost 39 = .ok (.getfield 45, 3) := by decide +kernel
theorem dX2_readCost_42 : decode cX2_readCost 42 = .ok (.putfield 163, 3) := by decide +kernel
theorem dX2_readCost_45 : decode cX2_readCost 45 = .ok (.aload_n 0, 1) := by decide +kernel
theorem dX2_readCost_46 : decode cX2_readCost 46 = .ok (.invokevirtual 84, 3) := by decide +kernel
theorem dX2_readCost_49 : decode cX2_readCost 49 = .ok (.aload_n 0, 1) := by decide +kernel
theorem dX2_readCost_50 : decode cX2_readCost 50 = .ok (.invokevirtual 157, 3) := by decide +kernel
theorem dX2_readCost_53 : decode cX2_readCost 53 = .ok (.ireturn, 1) := by decide +kernel
theorem dX2_readWard_0 : decode cX2_readWard 0 = .ok (.aload_n 0, 1) := by decide +kernel
theorem dX2_readWard_1 : decode cX2_readWard 1 = .ok (.getfield 18, 3) := by decide +kernel
theorem dX2_readWard_4 : decode cX2_readWard 4 = .ok (.getfield 166, 3) := by decide +kernel
theorem dX2_readWard_7 : decode cX2_readWard 7 = .ok (.bipush 8, 2) := by decide +kernel
theorem dX2_readWard_9 : decode cX2_readWard 9 = .ok (.if_icmp .lt 9, 3) := by decide +kernel
theorem dX2_readWard_12 : decode cX2_readWard 12 = .ok (.aload_n 0, 1) := by decide +kernel
theorem dX2_readWard_13 : decode cX2_readWard 13 = .ok (.iconst 2, 1) := by decide +kernel
theorem dX2_readWard_14 : decode cX2_readWard 14 = .ok (.invokevirtual 111, 3) := by decide +kernel
theorem dX2_readWard_17 : decode cX2_readWard 17 = .ok (.ireturn, 1) := by decide +kernel
theorem dX2_readWard_18 : decode cX2_readWard 18 = .ok (.aload_n 0, 1) := by decide +kernel
theorem dX2_readWard_19 : decode cX2_readWard 19 = .ok (.invokevirtual 84, 3) := by decide +kernel
theorem dX2_readWard_22 : decode cX2_readWard 22 = .ok (.aload_n 0, 1) := by decide +kernel
theorem dX2_readWard_23 : decode cX2_readWard 23 = .ok (.iconst 0, 1) := by decide +kernel
theorem dX2_readWard_24 : decode cX2_readWard 24 = .ok (.bipush 99, 2) := by decide +kernel
theorem dX2_readWard_26 : decode cX2_readWard 26 = .ok (.invokevirtual 149, 3) := by decide +kernel
theorem dX2_readWard_29 : decode cX2_readWard 29 = .ok (.ifCond .ne 5, 3) := by decide +kernel
theorem dX2_readWard_32 : decode cX2_readWard 32 = .ok (.iconst 0, 1) := by decide +kernel
theorem dX2_readWard_33 : decode cX2_readWard 33 = .ok (.ireturn, 1) := by decide +kernel
theorem dX2_readWard_34 : decode cX2_readWard 34 = .ok (.aload_n 0, 1) := by decide +kernel
theorem dX2_readWard_35 : decode cX2_readWard 35 = .ok (.getfield 18, 3) := by decide +kernel
theorem dX2_readWard_38 : decode cX2_readWard 38 = .ok (.aload_n 0, 1) := by decide +kernel
theorem dX2_readWard_39 : decode cX2_readWard 39 = .ok (.getfield 45, 3) := by decide +kernel
theorem dX2_readWard_42 : decode cX2_readWard 42 = .ok (.invokevirtual 169, 3) := by decide +kernel
theorem dX2_readWard_45 : decode cX2_readWard 45 = .ok (.aload_n 0, 1) := by decide +kernel
theorem dX2_readWard_46 : decode cX2_readWard 46 = .ok (.invokevirtual 84, 3) := by decide +kernel
theorem dX2_readWard_49 : decode cX2_readWard 49 = .ok (.aload_n 0, 1) := by decide +kernel
theorem dX2_readWard_50 : decode cX2_readWard 50 = .ok (.invokevirtual 157, 3) := by decide +kernel
theorem dX2_readWard_53 : decode cX2_readWard 53 = .ok (.ireturn, 1) := by decide +kernel
theorem dX2_readStreet_0 : decode cX2_readStreet 0 = .ok (.aload_n 0, 1) := by decide +kernel
theorem dX2_readStreet_1 : decode cX2_readStreet 1 = .ok (.invokevirtual 84, 3) := by decide +kernel
theorem dX2_readStreet_4 : decode cX2_readStreet 4 = .ok (.aload_n 0, 1) := by decide +kernel
theorem dX2_readStreet_5 : decode cX2_readStreet 5 = .ok (.invokevirtual 173, 3) := by decide +kernel
theorem dX2_readStreet_8 : decode cX2_readStreet 8 = .ok (.ifCond .ne 5, 3) := by decide +kernel
theorem dX2_readStreet_11 : decode cX2_readStreet 11 = .ok (.iconst 0, 1) := by decide +kernel
theorem dX2_readStreet_12 : decode cX2_readStreet 12 = .ok (.ireturn, 1) := by decide +kernel
theorem dX2_readStreet_13 : decode cX2_readStreet 13 = .ok (.aload_n 0, 1) := by decide +kernel
theorem dX2_readStreet_14 : decode cX2_readStreet 14 = .ok (.getfield 45, 3) := by decide +kernel
theorem dX2_readStreet_17 : decode cX2_readStreet 17 = .ok (.istore_n 1, 1) := by decide +kernel
theorem dX2_readStreet_18 : decode cX2_readStreet 18 = .ok (.aload_n 0, 1) := by decide +kernel
theorem dX2_readStreet_19 : decode cX2_readStreet 19 = .ok (.invokevirtual 84, 3) := by decide +kernel
theorem dX2_readStreet_22 : decode cX2_readStreet 22 = .ok (.aload_n 0, 1) := by decide +kernel
theorem dX2_readStreet_23 : decode cX2_readStreet 23 = .ok (.invokevirtual 173, 3) := by decide +kernel
theorem dX2_readStreet_26 : decode cX2_readStreet 26 = .ok (.ifCond .ne 5, 3) := by decide +kernel
theorem dX2_readStreet_29 : decode cX2_readStreet 29 = .ok (.iconst 0, 1) := by decide +kernel
theorem dX2_readStreet_30 : decode cX2_readStreet 30 = .ok (.ireturn, 1) := by decide +kernel
theorem dX2_readStreet_31 : decode cX2_readStreet 31 = .ok (.aload_n 0, 1) := by decide +kernel
theorem dX2_readStreet_32 : decode cX2_readStreet 32 = .ok (.getfield 45, 3) := by decide +kernel
theorem dX2_readStreet_35 : decode cX2_readStreet 35 = .ok (.iload_n 1, 1) := by decide +kernel
theorem dX2_readStreet_36 : decode cX2_readStreet 36 = .ok (.if_icmp .eq 18, 3) := by decide +kernel
theorem dX2_readStreet_39 : decode cX2_readStreet 39 = .ok (.aload_n 0, 1) := by decide +kernel
theorem dX2_readStreet_40 : decode cX2_readStreet 40 = .ok (.getfield 18, 3) := by decide +kernel
theorem dX2_readStreet_43 : decode cX2_readStreet 43 = .ok (.iload_n 1, 1) := by decide +kernel
theorem dX2_readStreet_44 : decode cX2_readStreet 44 = .ok (.aload_n 0, 1) := by decide +kernel
theorem dX2_readStreet_45 : decode cX2_readStreet 45 = .ok (.getfield 45, 3) := by decide +kernel
theorem dX2_readStreet_48 : decode cX2_readStreet 48 = .ok (.invokevirtual 176, 3) := by decide +kernel
theorem dX2_readStreet_51 : decode cX2_readStreet 51 = .ok (.ifCond .eq 9, 3) := by decide +kernel
theorem dX2_readStreet_54 : decode cX2_readStreet 54 = .ok (.aload_n 0, 1) := by decide +kernel
theorem dX2_readStreet_55 : decode cX2_readStreet 55 = .ok (.iconst 4, 1) := by decide +kernel
theorem dX2_readStreet_56 : decode cX2_readStreet 56 = .ok (.invokevirtual 111, 3) := by decide +kernel
theorem dX2_readStreet_59 : decode cX2_readStreet 59 = .ok (.ireturn, 1) := by decide +kernel
theorem dX2_readStreet_60 : decode cX2_readStreet 60 = .ok (.aload_n 0, 1) := by decide +kernel
theorem dX2_readStreet_61 : decode cX2_readStreet 61 = .ok (.getfield 18, 3) := by decide +kernel
theorem dX2_readStreet_64 : decode cX2_readStreet 64 = .ok (.iload_n 1, 1) := by decide +kernel
theorem dX2_readStreet_65 : decode cX2_readStreet 65 = .ok (.aload_n 0, 1) := by decide +kernel
theorem dX2_readStreet_66 : decode cX2_readStreet 66 = .ok (.getfield 45, 3) := by decide +kernel
theorem dX2_readStreet_69 : decode cX2_readStreet 69 = .ok (.invokevirtual 179, 3) := by decide +kernel
theorem dX2_readStreet_72 : decode cX2_readStreet 72 = .ok (.aload_n 0, 1) := by decide +kernel
theorem dX2_readStreet_73 : decode cX2_readStreet 73 = .ok (.invokevirtual 84, 3) := by decide +kernel
theorem dX2_readStreet_76 : decode cX2_readStreet 76 = .ok (.aload_n 0, 1) := by decide +kernel
theorem dX2_readStreet_77 : decode cX2_readStreet 77 = .ok (.invokevirtual 157, 3) := by decide +kernel
theorem dX2_readStreet_80 : decode cX2_readStreet 80 = .ok (.ireturn, 1) := by decide +kernel
theorem dX2_isToldWard_0 : decode cX2_isToldWard 0 = .ok (.aload_n 0, 1) := by decide +kernel
theorem dX2_isToldWard_1 : decode cX2_isToldWard 1 = .ok (.iconst 0, 1) := by decide +kernel
theorem dX2_isToldWard_2 : decode cX2_isToldWard 2 = .ok (.sipush 9999, 3) := by decide +kernel
theorem dX2_isToldWard_5 : decode cX2_isToldWard 5 = .ok (.invokevirtual 149, 3) := by decide +kernel
theorem dX2_isToldWard_8 : decode cX2_isToldWard 8 = .ok (.ifCond .ne 5, 3) := by decide +kernel
theorem dX2_isToldWard_11 : decode cX2_isToldWard 11 = .ok (.iconst 0, 1) := by decide +kernel
theorem dX2_isToldWard_12 : decode cX2_isToldWard 12 = .ok (.ireturn, 1) := by decide +kernel
theorem dX2_isToldWard_13 : decode cX2_isToldWard 13 = .ok (.aload_n 0, 1) := by decide +kernel
theorem dX2_isToldWard_14 : decode cX2_isToldWard 14 = .ok (.getfield 45, 3) := by decide +kernel
theorem dX2_isToldWard_17 : decode cX2_isToldWard 17 = .ok (.aload_n 0, 1) := by decide +kernel
theorem dX2_isToldWard_18 : decode cX2_isToldWard 18 = .ok (.getfield 18, 3) := by decide +kernel
theorem dX2_isToldWard_21 : decode cX2_isToldWard 21 = .ok (.getfield 166, 3) := by decide +kernel
theorem dX2_isToldWard_24 : decode cX2_isToldWard 24 = .ok (.if_icmp .lt 11, 3) := by decide +kernel
theorem dX2_isToldWard_27 : decode cX2_isToldWard 27 = .ok (.aload_n 0, 1) := by decide +kernel
theorem dX2_isToldWard_28 : decode cX2_isToldWard 28 = .ok (.iconst 3, 1) := by decide +kernel
theorem dX2_isToldWard_29 : decode cX2_isToldWard 29 = .ok (.invokevirtual 111, 3) := by decide +kernel
theorem dX2_isToldWard_32 : decode cX2_isToldWard 32 = .ok (.ifCond .eq 7, 3) := by decide +kernel
theorem dX2_isToldWard_35 : decode cX2_isToldWard 35 = .ok (.iconst 1, 1) := by decide +kernel
theorem dX2_isToldWard_36 : decode cX2_isToldWard 36 = .ok (.goto 4, 3) := by decide +kernel
theorem dX2_isToldWard_39 : decode cX2_isToldWard 39 = .ok (.iconst 0, 1) := by decide +kernel
theorem dX2_isToldWard_40 : decode cX2_isToldWard 40 = .ok (.ireturn, 1) := by decide +kernel
theorem dX2_readWinds_0 : decode cX2_readWinds 0 = .ok (.aload_n 0, 1) := by decide +kernel
theorem dX2_readWinds_1 : decode cX2_readWinds 1 = .ok (.getfield 25, 3) := by decide +kernel
theorem dX2_readWinds_4 : decode cX2_readWinds 4 = .ok (.getfield 183, 3) := by decide +kernel
theorem dX2_readWinds_7 : decode cX2_readWinds 7 = .ok (.ifCond .le 9, 3) := by decide +kernel
theorem dX2_readWinds_10 : decode cX2_readWinds 10 = .ok (.aload_n 0, 1) := by decide +kernel
theorem dX2_readWinds_11 : decode cX2_readWinds 11 = .ok (.iconst 5, 1) := by decide +kernel
theorem dX2_readWinds_12 : decode cX2_readWinds 12 = .ok (.invokevirtual 111, 3) := by decide +kernel
theorem dX2_readWinds_15 : decode cX2_readWinds 15 = .ok (.ireturn, 1) := by decide +kernel
theorem dX2_readWinds_16 : decode cX2_readWinds 16 = .ok (.aload_n 0, 1) := by decide +kernel
theorem dX2_readWinds_17 : decode cX2_readWinds 17 = .ok (.invokevirtual 84, 3) := by decide +kernel
theorem dX2_readWinds_20 : decode cX2_readWinds 20 = .ok (.iconst 0, 1) := by decide +kernel
theorem dX2_readWinds_21 : decode cX2_readWinds 21 = .ok (.istore_n 1, 1) := by decide +kernel
theorem dX2_readWinds_22 : decode cX2_readWinds 22 = .ok (.iload_n 1, 1) := by decide +kernel
theorem dX2_readWinds_23 : decode cX2_readWinds 23 = .ok (.bipush 8, 2) := by decide +kernel
theorem dX2_readWinds_25 : decode cX2_readWinds 25 = .ok (.if_icmp .gt 58, 3) := by decide +kernel
theorem dX2_readWinds_28 : decode cX2_readWinds 28 = .ok (.iload_n 1, 1) := by decide +kernel
theorem dX2_readWinds_29 : decode cX2_readWinds 29 = .ok (.ifCond .eq 11, 3) := by decide +kernel
theorem dX2_readWinds_32 : decode cX2_readWinds 32 = .ok (.aload_n 0, 1) := by decide +kernel
theorem dX2_readWinds_33 : decode cX2_readWinds 33 = .ok (.getfield 42, 3) := by decide +kernel
theorem dX2_readWinds_36 : decode cX2_readWinds 36 = .ok (.iconst 2, 1) := by decide +kernel
theorem dX2_readWinds_37 : decode cX2_readWinds 37 = .ok (.if_icmp .ne 46, 3) := by decide +kernel
theorem dX2_readWinds_40 : decode cX2_readWinds 40 = .ok (.aload_n 0, 1) := by decide +kernel
theorem dX2_readWinds_41 : decode cX2_readWinds 41 = .ok (.iconst 0, 1) := by decide +kernel
theorem dX2_readWinds_42 : decode cX2_readWinds 42 = .ok (.iload_n 1, 1) := by decide +kernel
theorem dX2_readWinds_43 : decode cX2_readWinds 43 = .ok (.bipush 8, 2) := by decide +kernel
theorem dX2_readWinds_45 : decode cX2_readWinds 45 = .ok (.if_icmp .ge 8, 3) := by decide +kernel
theorem dX2_readWinds_48 : decode cX2_readWinds 48 = .ok (.bipush 9, 2) := by decide +kernel
theorem dX2_readWinds_50 : decode cX2_readWinds 50 = .ok (.goto 4, 3) := by decide +kernel
theorem dX2_readWinds_53 : decode cX2_readWinds 53 = .ok (.iconst (-1), 1) := by decide +kernel
theorem dX2_readWinds_54 : decode cX2_readWinds 54 = .ok (.invokevirtual 149, 3) := by decide +kernel
theorem dX2_readWinds_57 : decode cX2_readWinds 57 = .ok (.ifCond .ne 5, 3) := by decide +kernel
theorem dX2_readWinds_60 : decode cX2_readWinds 60 = .ok (.iconst 0, 1) := by decide +kernel
theorem dX2_readWinds_61 : decode cX2_readWinds 61 = .ok (.ireturn, 1) := by decide +kernel
theorem dX2_readWinds_62 : decode cX2_readWinds 62 = .ok (.aload_n 0, 1) := by decide +kernel
theorem dX2_readWinds_63 : decode cX2_readWinds 63 = .ok (.getfield 25, 3) := by decide +kernel
theorem dX2_readWinds_66 : decode cX2_readWinds 66 = .ok (.aload_n 0, 1) := by decide +kernel
theorem dX2_readWinds_67 : decode cX2_readWinds 67 = .ok (.getfield 45, 3) := by decide +kernel
theorem dX2_readWinds_70 : decode cX2_readWinds 70 = .ok (.invokevirtual 186, 3) := by decide +kernel
theorem dX2_readWinds_73 : decode cX2_readWinds 73 = .ok (.aload_n 0, 1) := by decide +kernel
theorem dX2_readWinds_74 : decode cX2_readWinds 74 = .ok (.invokevirtual 84, 3) := by decide +kernel
theorem dX2_readWinds_77 : decode cX2_readWinds 77 = .ok (.iinc 1 1, 3) := by decide +kernel
theorem dX2_readWinds_80 : decode cX2_readWinds 80 = .ok (.goto (-58), 3) := by decide +kernel
theorem dX2_readWinds_83 : decode cX2_readWinds 83 = .ok (.aload_n 0, 1) := by decide +kernel
theorem dX2_readWinds_84 : decode cX2_readWinds 84 = .ok (.invokevirtual 157, 3) := by decide +kernel
theorem dX2_readWinds_87 : decode cX2_readWinds 87 = .ok (.ireturn, 1) := by decide +kernel
theorem dX2_isNumber_0 : decode cX2_isNumber 0 = .ok (.aload_n 0, 1) := by decide +kernel
theorem dX2_isNumber_1 : decode cX2_isNumber 1 = .ok (.getfield 42, 3) := by decide +kernel
theorem dX2_isNumber_4 : decode cX2_isNumber 4 = .ok (.iconst 2, 1) := by decide +kernel
theorem dX2_isNumber_5 : decode cX2_isNumber 5 = .ok (.if_icmp .eq 9, 3) := by decide +kernel
theorem dX2_isNumber_8 : decode cX2_isNumber 8 = .ok (.aload_n 0, 1) := by decide +kernel
theorem dX2_isNumber_9 : decode cX2_isNumber 9 = .ok (.iconst 1, 1) := by decide +kernel
theorem dX2_isNumber_10 : decode cX2_isNumber 10 = .ok (.invokevirtual 111, 3) := by decide +kernel
theorem dX2_isNumber_13 : decode cX2_isNumber 13 = .ok (.ireturn, 1) := by decide +kernel
theorem dX2_isNumber_14 : decode cX2_isNumber 14 = .ok (.aload_n 0, 1) := by decide +kernel
theorem dX2_isNumber_15 : decode cX2_isNumber 15 = .ok (.getfield 39, 3) := by decide +kernel
theorem dX2_isNumber_18 : decode cX2_isNumber 18 = .ok (.aload_n 0, 1) := by decide +kernel
theorem dX2_isNumber_19 : decode cX2_isNumber 19 = .ok (.getfield 36, 3) := by decide +kernel
theorem dX2_isNumber_22 : decode cX2_isNumber 22 = .ok (.isub, 1) := by decide +kernel
theorem dX2_isNumber_23 : decode cX2_isNumber 23 = .ok (.iconst 4, 1) := by decide +kernel
theorem dX2_isNumber_24 : decode cX2_isNumber 24 = .ok (.if_icmp .gt 19, 3) := by decide +kernel
theorem dX2_isNumber_27 : decode cX2_isNumber 27 = .ok (.aload_n 0, 1) := by decide +kernel
theorem dX2_isNumber_28 : decode cX2_isNumber 28 = .ok (.getfield 45, 3) := by decide +kernel
theorem dX2_isNumber_31 : decode cX2_isNumber 31 = .ok (.iload_n 1, 1) := by decide +kernel
theorem dX2_isNumber_32 : decode cX2_isNumber 32 = .ok (.if_icmp .lt 11, 3) := by decide +kernel
theorem dX2_isNumber_35 : decode cX2_isNumber 35 = .ok (.aload_n 0, 1) := by decide +kernel
theorem dX2_isNumber_36 : decode cX2_isNumber 36 = .ok (.getfield 45, 3) := by decide +kernel
theorem dX2_isNumber_39 : decode cX2_isNumber 39 = .ok (.iload_n 2, 1) := by decide +kernel
theorem dX2_isNumber_40 : decode cX2_isNumber 40 = .ok (.if_icmp .le 9, 3) := by decide +kernel
theorem dX2_isNumber_43 : decode cX2_isNumber 43 = .ok (.aload_n 0, 1) := by decide +kernel
theorem dX2_isNumber_44 : decode cX2_isNumber 44 = .ok (.iconst 2, 1) := by decide +kernel
theorem dX2_isNumber_45 : decode cX2_isNumber 45 = .ok (.invokevirtual 111, 3) := by decide +kernel
theorem dX2_isNumber_48 : decode cX2_isNumber 48 = .ok (.ireturn, 1) := by decide +kernel
theorem dX2_isNumber_49 : decode cX2_isNumber 49 = .ok (.iconst 1, 1) := by decide +kernel
theorem dX2_isNumber_50 : decode cX2_isNumber 50 = .ok (.ireturn, 1) := by decide +kernel
theorem dX2_endLine_0 : decode cX2_endLine 0 = .ok (.aload_n 0, 1) := by decide +kernel
theorem dX2_endLine_1 : decode cX2_endLine 1 = .ok (.bipush 59, 2) := by decide +kernel
theorem dX2_endLine_3 : decode cX2_endLine 3 = .ok (.invokevirtual 189, 3) := by decide +kernel
theorem dX2_endLine_6 : decode cX2_endLine 6 = .ok (.ifCond .ne 9, 3) := by decide +kernel
theorem dX2_endLine_9 : decode cX2_endLine 9 = .ok (.aload_n 0, 1) := by decide +kernel
theorem dX2_endLine_10 : decode cX2_endLine 10 = .ok (.iconst 1, 1) := by decide +kernel
theorem dX2_endLine_11 : decode cX2_endLine 11 = .ok (.invokevirtual 111, 3) := by decide +kernel
theorem dX2_endLine_14 : decode cX2_endLine 14 = .ok (.ireturn, 1) := by decide +kernel
theorem dX2_endLine_15 : decode cX2_endLine 15 = .ok (.aload_n 0, 1) := by decide +kernel
theorem dX2_endLine_16 : decode cX2_endLine 16 = .ok (.invokevirtual 84, 3) := by decide +kernel
theorem dX2_endLine_19 : decode cX2_endLine 19 = .ok (.iconst 1, 1) := by decide +kernel
theorem dX2_endLine_20 : decode cX2_endLine 20 = .ok (.ireturn, 1) := by decide +kernel
theorem dX2_readRule_0 : decode cX2_readRule 0 = .ok (.aload_n 0, 1) := by decide +kernel
theorem dX2_readRule_1 : decode cX2_readRule 1 = .ok (.getfield 25, 3) := by decide +kernel
theorem dX2_readRule_4 : decode cX2_readRule 4 = .ok (.iload_n 1, 1) := by decide +kernel
theorem dX2_readRule_5 : decode cX2_readRule 5 = .ok (.invokevirtual 193, 3) := by decide +kernel
theorem dX2_readRule_8 : decode cX2_readRule 8 = .ok (.ifCond .eq 9, 3) := by decide +kernel
theorem dX2_readRule_11 : decode cX2_readRule 11 = .ok (.aload_n 0, 1) := by decide +kernel
theorem dX2_readRule_12 : decode cX2_readRule 12 = .ok (.iconst 5, 1) := by decide +kernel
theorem dX2_readRule_13 : decode cX2_readRule 13 = .ok (.invokevirtual 111, 3) := by decide +kernel
theorem dX2_readRule_16 : decode cX2_readRule 16 = .ok (.ireturn, 1) := by decide +kernel
theorem dX2_readRule_17 : decode cX2_readRule 17 = .ok (.aload_n 0, 1) := by decide +kernel
theorem dX2_readRule_18 : decode cX2_readRule 18 = .ok (.getfield 25, 3) := by decide +kernel
theorem dX2_readRule_21 : decode cX2_readRule 21 = .ok (.iload_n 1, 1) := by decide +kernel
theorem dX2_readRule_22 : decode cX2_readRule 22 = .ok (.invokevirtual 196, 3) := by decide +kernel
theorem dX2_readRule_25 : decode cX2_readRule 25 = .ok (.aload_n 0, 1) := by decide +kernel
theorem dX2_readRule_26 : decode cX2_readRule 26 = .ok (.invokevirtual 84, 3) := by decide +kernel
theorem dX2_readRule_29 : decode cX2_readRule 29 = .ok (.aload_n 0, 1) := by decide +kernel
theorem dX2_readRule_30 : decode cX2_readRule 30 = .ok (.iload_n 1, 1) := by decide +kernel
theorem dX2_readRule_31 : decode cX2_readRule 31 = .ok (.iconst 0, 1) := by decide +kernel
theorem dX2_readRule_32 : decode cX2_readRule 32 = .ok (.invokevirtual 199, 3) := by decide +kernel
theorem dX2_readRule_35 : decode cX2_readRule 35 = .ok (.ifCond .eq 14, 3) := by decide +kernel
theorem dX2_readRule_38 : decode cX2_readRule 38 = .ok (.aload_n 0, 1) := by decide +kernel
theorem dX2_readRule_39 : decode cX2_readRule 39 = .ok (.invokevirtual 157, 3) := by decide +kernel
theorem dX2_readRule_42 : decode cX2_readRule 42 = .ok (.ifCond .eq 7, 3) := by decide +kernel
theorem dX2_readRule_45 : decode cX2_readRule 45 = .ok (.iconst 1, 1) := by decide +kernel
theorem dX2_readRule_46 : decode cX2_readRule 46 = .ok (.goto 4, 3) := by decide +kernel
theorem dX2_readRule_49 : decode cX2_readRule 49 = .ok (.iconst 0, 1) := by decide +kernel
theorem dX2_readRule_50 : decode cX2_readRule 50 = .ok (.ireturn, 1) := by decide +kernel
theorem dX2_readExpr_0 : decode cX2_readExpr 0 = .ok (.iload_n 2, 1) := by decide +kernel
theorem dX2_readExpr_1 : decode cX2_readExpr 1 = .ok (.bipush 6, 2) := by decide +kernel
theorem dX2_readExpr_3 : decode cX2_readExpr 3 = .ok (.if_icmp .lt 48, 3) := by decide +kernel
theorem dX2_readExpr_6 : decode cX2_readExpr 6 = .ok (.aload_n 0, 1) := by decide +kernel
theorem dX2_readExpr_7 : decode cX2_readExpr 7 = .ok (.getfield 42, 3) := by decide +kernel
theorem dX2_readExpr_10 : decode cX2_readExpr 10 = .ok (.iconst 2, 1) := by decide +kernel
theorem dX2_readExpr_11 : decode cX2_readExpr 11 = .ok (.if_icmp .eq 20, 3) := by decide +kernel
theorem dX2_readExpr_14 : decode cX2_readExpr 14 = .ok (.aload_n 0, 1) := by decide +kernel
theorem dX2_readExpr_15 : decode cX2_readExpr 15 = .ok (.getfield 42, 3) := by decide +kernel
theorem dX2_readExpr_18 : decode cX2_readExpr 18 = .ok (.iconst 1, 1) := by decide +kernel
theorem dX2_readExpr_19 : decode cX2_readExpr 19 = .ok (.if_icmp .eq 12, 3) := by decide +kernel
theorem dX2_readExpr_22 : decode cX2_readExpr 22 = .ok (.aload_n 0, 1) := by decide +kernel
theorem dX2_readExpr_23 : decode cX2_readExpr 23 = .ok (.bipush 40, 2) := by decide +kernel
theorem dX2_readExpr_25 : decode cX2_readExpr 25 = .ok (.invokevirtual 189, 3) := by decide +kernel
theorem dX2_readExpr_28 : decode cX2_readExpr 28 = .ok (.ifCond .eq 7, 3) := by decide +kernel
theorem dX2_readExpr_31 : decode cX2_readExpr 31 = .ok (.iconst 1, 1) := by decide +kernel
theorem dX2_readExpr_32 : decode cX2_readExpr 32 = .ok (.goto 4, 3) := by decide +kernel
theorem dX2_readExpr_35 : decode cX2_readExpr 35 = .ok (.iconst 0, 1) := by decide +kernel
theorem dX2_readExpr_36 : decode cX2_readExpr 36 = .ok (.istore_n 3, 1) := by decide +kernel
theorem dX2_readExpr_37 : decode cX2_readExpr 37 = .ok (.aload_n 0, 1) := by decide +kernel
theorem dX2_readExpr_38 : decode cX2_readExpr 38 = .ok (.iload_n 3, 1) := by decide +kernel
theorem dX2_readExpr_39 : decode cX2_readExpr 39 = .ok (.ifCond .eq 7, 3) := by decide +kernel
theorem dX2_readExpr_42 : decode cX2_readExpr 42 = .ok (.iconst 2, 1) := by decide +kernel
theorem dX2_readExpr_43 : decode cX2_readExpr 43 = .ok (.goto 4, 3) := by decide +kernel
theorem dX2_readExpr_46 : decode cX2_readExpr 46 = .ok (.iconst 1, 1) := by decide +kernel
theorem dX2_readExpr_47 : decode cX2_readExpr 47 = .ok (.invokevirtual 111, 3) := by decide +kernel
theorem dX2_readExpr_50 : decode cX2_readExpr 50 = .ok (.ireturn, 1) := by decide +kernel
theorem dX2_readExpr_51 : decode cX2_readExpr 51 = .ok (.aload_n 0, 1) := by decide +kernel
theorem dX2_readExpr_52 : decode cX2_readExpr 52 = .ok (.iload_n 1, 1) := by decide +kernel
theorem dX2_readExpr_53 : decode cX2_readExpr 53 = .ok (.iload_n 2, 1) := by decide +kernel
theorem dX2_readExpr_54 : decode cX2_readExpr 54 = .ok (.invokevirtual 202, 3) := by decide +kernel
theorem dX2_readExpr_57 : decode cX2_readExpr 57 = .ok (.istore_n 3, 1) := by decide +kernel
theorem dX2_readExpr_58 : decode cX2_readExpr 58 = .ok (.iconst 0, 1) := by decide +kernel
theorem dX2_readExpr_59 : decode cX2_readExpr 59 = .ok (.istore 4, 2) := by decide +kernel
theorem dX2_readExpr_61 : decode cX2_readExpr 61 = .ok (.iload 4, 2) := by decide +kernel
theorem dX2_readExpr_63 : decode cX2_readExpr 63 = .ok (.sipush 700, 3) := by decide +kernel
theorem dX2_readExpr_66 : decode cX2_readExpr 66 = .ok (.if_icmp .ge 44, 3) := by decide +kernel
theorem dX2_readExpr_69 : decode cX2_readExpr 69 = .ok (.iload_n 3, 1) := by decide +kernel
theorem dX2_readExpr_70 : decode cX2_readExpr 70 = .ok (.ifCond .eq 40, 3) := by decide +kernel
theorem dX2_readExpr_73 : decode cX2_readExpr 73 = .ok (.aload_n 0, 1) := by decide +kernel
theorem dX2_readExpr_74 : decode cX2_readExpr 74 = .ok (.getstatic 205, 3) := by decide +kernel
theorem dX2_readExpr_77 : decode cX2_readExpr 77 = .ok (.invokevirtual 208, 3) := by decide +kernel
theorem dX2_readExpr_80 : decode cX2_readExpr 80 = .ok (.ifCond .eq 30, 3) := by decide +kernel
theorem dX2_readExpr_83 : decode cX2_readExpr 83 = .ok (.aload_n 0, 1) := by decide +kernel
theorem dX2_readExpr_84 : decode cX2_readExpr 84 = .ok (.invokevirtual 84, 3) := by decide +kernel
theorem dX2_readExpr_87 : decode cX2_readExpr 87 = .ok (.aload_n 0, 1) := by decide +kernel
theorem dX2_readExpr_88 : decode cX2_readExpr 88 = .ok (.iload_n 1, 1) := by decide +kernel
theorem dX2_readExpr_89 : decode cX2_readExpr 89 = .ok (.iload_n 2, 1) := by decide +kernel
theorem dX2_readExpr_90 : decode cX2_readExpr 90 = .ok (.invokevirtual 202, 3) := by decide +kernel
theorem dX2_readExpr_93 : decode cX2_readExpr 93 = .ok (.istore_n 3, 1) := by decide +kernel
theorem dX2_readExpr_94 : decode cX2_readExpr 94 = .ok (.aload_n 0, 1) := by decide +kernel
theorem dX2_readExpr_95 : decode cX2_readExpr 95 = .ok (.getfield 25, 3) := by decide +kernel
theorem dX2_readExpr_98 : decode cX2_readExpr 98 = .ok (.iload_n 1, 1) := by decide +kernel
theorem dX2_readExpr_99 : decode cX2_readExpr 99 = .ok (.bipush (-11), 2) := by decide +kernel
theorem dX2_readExpr_101 : decode cX2_readExpr 101 = .ok (.invokevirtual 212, 3) := by decide +kernel
theorem dX2_readExpr_104 : decode cX2_readExpr 104 = .ok (.iinc 4 1, 3) := by decide +kernel
theorem dX2_readExpr_107 : decode cX2_readExpr 107 = .ok (.goto (-46), 3) := by decide +kernel
theorem dX2_readExpr_110 : decode cX2_readExpr 110 = .ok (.iload_n 3, 1) := by decide +kernel
theorem dX2_readExpr_111 : decode cX2_readExpr 111 = .ok (.ireturn, 1) := by decide +kernel
theorem dX2_readAnd_0 : decode cX2_readAnd 0 = .ok (.aload_n 0, 1) := by decide +kernel
theorem dX2_readAnd_1 : decode cX2_readAnd 1 = .ok (.iload_n 1, 1) := by decide +kernel
theorem dX2_readAnd_2 : decode cX2_readAnd 2 = .ok (.iload_n 2, 1) := by decide +kernel
theorem dX2_readAnd_3 : decode cX2_readAnd 3 = .ok (.invokevirtual 215, 3) := by decide +kernel
theorem dX2_readAnd_6 : decode cX2_readAnd 6 = .ok (.istore_n 3, 1) := by decide +kernel
theorem dX2_readAnd_7 : decode cX2_readAnd 7 = .ok (.iconst 0, 1) := by decide +kernel
theorem dX2_readAnd_8 : decode cX2_readAnd 8 = .ok (.istore 4, 2) := by decide +kernel
theorem dX2_readAnd_10 : decode cX2_readAnd 10 = .ok (.iload 4, 2) := by decide +kernel
theorem dX2_readAnd_12 : decode cX2_readAnd 12 = .ok (.sipush 700, 3) := by decide +kernel
theorem dX2_readAnd_15 : decode cX2_readAnd 15 = .ok (.if_icmp .ge 44, 3) := by decide +kernel
theorem dX2_readAnd_18 : decode cX2_readAnd 18 = .ok (.iload_n 3, 1) := by decide +kernel
theorem dX2_readAnd_19 : decode cX2_readAnd 19 = .ok (.ifCond .eq 40, 3) := by decide +kernel
theorem dX2_readAnd_22 : decode cX2_readAnd 22 = .ok (.aload_n 0, 1) := by decide +kernel
theorem dX2_readAnd_23 : decode cX2_readAnd 23 = .ok (.getstatic 218, 3) := by decide +kernel
theorem dX2_readAnd_26 : decode cX2_readAnd 26 = .ok (.invokevirtual 208, 3) := by decide +kernel
theorem dX2_readAnd_29 : decode cX2_readAnd 29 = .ok (.ifCond .eq 30, 3) := by decide +kernel
theorem dX2_readAnd_32 : decode cX2_readAnd 32 = .ok (.aload_n 0, 1) := by decide +kernel
theorem dX2_readAnd_33 : decode cX2_readAnd 33 = .ok (.invokevirtual 84, 3) := by decide +kernel
theorem dX2_readAnd_36 : decode cX2_readAnd 36 = .ok (.aload_n 0, 1) := by decide +kernel
theorem dX2_readAnd_37 : decode cX2_readAnd 37 = .ok (.iload_n 1, 1) := by decide +kernel
theorem dX2_readAnd_38 : decode cX2_readAnd 38 = .ok (.iload_n 2, 1) := by decide +kernel
theorem dX2_readAnd_39 : decode cX2_readAnd 39 = .ok (.invokevirtual 215, 3) := by decide +kernel
theorem dX2_readAnd_42 : decode cX2_readAnd 42 = .ok (.istore_n 3, 1) := by decide +kernel
theorem dX2_readAnd_43 : decode cX2_readAnd 43 = .ok (.aload_n 0, 1) := by decide +kernel
theorem dX2_readAnd_44 : decode cX2_readAnd 44 = .ok (.getfield 25, 3) := by decide +kernel
theorem dX2_readAnd_47 : decode cX2_readAnd 47 = .ok (.iload_n 1, 1) := by decide +kernel
theorem dX2_readAnd_48 : decode cX2_readAnd 48 = .ok (.bipush (-12), 2) := by decide +kernel
theorem dX2_readAnd_50 : decode cX2_readAnd 50 = .ok (.invokevirtual 212, 3) := by decide +kernel
theorem dX2_readAnd_53 : decode cX2_readAnd 53 = .ok (.iinc 4 1, 3) := by decide +kernel
theorem dX2_readAnd_56 : decode cX2_readAnd 56 = .ok (.goto (-46), 3) := by decide +kernel
theorem dX2_readAnd_59 : decode cX2_readAnd 59 = .ok (.iload_n 3, 1) := by decide +kernel
theorem dX2_readAnd_60 : decode cX2_readAnd 60 = .ok (.ireturn, 1) := by decide +kernel
theorem dX2_readNot_0 : decode cX2_readNot 0 = .ok (.iconst 0, 1) := by decide +kernel
theorem dX2_readNot_1 : decode cX2_readNot 1 = .ok (.istore_n 3, 1) := by decide +kernel
theorem dX2_readNot_2 : decode cX2_readNot 2 = .ok (.iload_n 3, 1) := by decide +kernel
theorem dX2_readNot_3 : decode cX2_readNot 3 = .ok (.bipush 6, 2) := by decide +kernel
theorem dX2_readNot_5 : decode cX2_readNot 5 = .ok (.if_icmp .gt 35, 3) := by decide +kernel
theorem dX2_readNot_8 : decode cX2_readNot 8 = .ok (.aload_n 0, 1) := by decide +kernel
theorem dX2_readNot_9 : decode cX2_readNot 9 = .ok (.getstatic 221, 3) := by decide +kernel
theorem dX2_readNot_12 : decode cX2_readNot 12 = .ok (.invokevirtual 208, 3) := by decide +kernel
theorem dX2_readNot_15 : decode cX2_readNot 15 = .ok (.ifCond .eq 25, 3) := by decide +kernel
theorem dX2_readNot_18 : decode cX2_readNot 18 = .ok (.iinc 3 1, 3) := by decide +kernel
theorem dX2_readNot_21 : decode cX2_readNot 21 = .ok (.iload_n 3, 1) := by decide +kernel
theorem dX2_readNot_22 : decode cX2_readNot 22 = .ok (.bipush 6, 2) := by decide +kernel
theorem dX2_readNot_24 : decode cX2_readNot 24 = .ok (.if_icmp .le 9, 3) := by decide +kernel
theorem dX2_readNot_27 : decode cX2_readNot 27 = .ok (.aload_n 0, 1) := by decide +kernel
theorem dX2_readNot_28 : decode cX2_readNot 28 = .ok (.iconst 2, 1) := by decide +kernel
theorem dX2_readNot_29 : decode cX2_readNot 29 = .ok (.invokevirtual 111, 3) := by decide +kernel
theorem dX2_readNot_32 : decode cX2_readNot 32 = .ok (.ireturn, 1) := by decide +kernel
theorem dX2_readNot_33 : decode cX2_readNot 33 = .ok (.aload_n 0, 1) := by decide +kernel
theorem dX2_readNot_34 : decode cX2_readNot 34 = .ok (.invokevirtual 84, 3) := by decide +kernel
theorem dX2_readNot_37 : decode cX2_readNot 37 = .ok (.goto (-35), 3) := by decide +kernel
theorem dX2_readNot_40 : decode cX2_readNot 40 = .ok (.aload_n 0, 1) := by decide +kernel
theorem dX2_readNot_41 : decode cX2_readNot 41 = .ok (.iload_n 1, 1) := by decide +kernel
theorem dX2_readNot_42 : decode cX2_readNot 42 = .ok (.iload_n 2, 1) := by decide +kernel
theorem dX2_readNot_43 : decode cX2_readNot 43 = .ok (.invokevirtual 224, 3) := by decide +kernel
theorem dX2_readNot_46 : decode cX2_readNot 46 = .ok (.istore 4, 2) := by decide +kernel
theorem dX2_readNot_48 : decode cX2_readNot 48 = .ok (.iconst 0, 1) := by decide +kernel
theorem dX2_readNot_49 : decode cX2_readNot 49 = .ok (.istore 5, 2) := by decide +kernel
theorem dX2_readNot_51 : decode cX2_readNot 51 = .ok (.iload 5, 2) := by decide +kernel
theorem dX2_readNot_53 : decode cX2_readNot 53 = .ok (.iload_n 3, 1) := by decide +kernel
theorem dX2_readNot_54 : decode cX2_readNot 54 = .ok (.if_icmp .ge 19, 3) := by decide +kernel
theorem dX2_readNot_57 : decode cX2_readNot 57 = .ok (.aload_n 0, 1) := by decide +kernel
theorem dX2_readNot_58 : decode cX2_readNot 58 = .ok (.getfield 25, 3) := by decide +kernel
theorem dX2_readNot_61 : decode cX2_readNot 61 = .ok (.iload_n 1, 1) := by decide +kernel
theorem dX2_readNot_62 : decode cX2_readNot 62 = .ok (.bipush (-10), 2) := by decide +kernel
theorem dX2_readNot_64 : decode cX2_readNot 64 = .ok (.invokevirtual 212, 3) := by decide +kernel
theorem dX2_readNot_67 : decode cX2_readNot 67 = .ok (.iinc 5 1, 3) := by decide +kernel
theorem dX2_readNot_70 : decode cX2_readNot 70 = .ok (.goto (-19), 3) := by decide +kernel
theorem dX2_readNot_73 : decode cX2_readNot 73 = .ok (.iload 4, 2) := by decide +kernel
theorem dX2_readNot_75 : decode cX2_readNot 75 = .ok (.ireturn, 1) := by decide +kernel
theorem dX2_readTest_0 : decode cX2_readTest 0 = .ok (.aload_n 0, 1) := by decide +kernel
theorem dX2_readTest_1 : decode cX2_readTest 1 = .ok (.iload_n 1, 1) := by decide +kernel
theorem dX2_readTest_2 : decode cX2_readTest 2 = .ok (.iload_n 2, 1) := by decide +kernel
theorem dX2_readTest_3 : decode cX2_readTest 3 = .ok (.invokevirtual 227, 3) := by decide +kernel
theorem dX2_readTest_6 : decode cX2_readTest 6 = .ok (.ifCond .ne 5, 3) := by decide +kernel
theorem dX2_readTest_9 : decode cX2_readTest 9 = .ok (.iconst 0, 1) := by decide +kernel
theorem dX2_readTest_10 : decode cX2_readTest 10 = .ok (.ireturn, 1) := by decide +kernel
theorem dX2_readTest_11 : decode cX2_readTest 11 = .ok (.aload_n 0, 1) := by decide +kernel
theorem dX2_readTest_12 : decode cX2_readTest 12 = .ok (.bipush 60, 2) := by decide +kernel
theorem dX2_readTest_14 : decode cX2_readTest 14 = .ok (.invokevirtual 189, 3) := by decide +kernel
theorem dX2_readTest_17 : decode cX2_readTest 17 = .ok (.ifCond .ne 14, 3) := by decide +kernel
theorem dX2_readTest_20 : decode cX2_readTest 20 = .ok (.aload_n 0, 1) := by decide +kernel
theorem dX2_readTest_21 : decode cX2_readTest 21 = .ok (.bipush 61, 2) := by decide +kernel
theorem dX2_readTest_23 : decode cX2_readTest 23 = .ok (.invokevirtual 189, 3) := by decide +kernel
theorem dX2_readTest_26 : decode cX2_readTest 26 = .ok (.ifCond .ne 5, 3) := by decide +kernel
theorem dX2_readTest_29 : decode cX2_readTest 29 = .ok (.iconst 1, 1) := by decide +kernel
theorem dX2_readTest_30 : decode cX2_readTest 30 = .ok (.ireturn, 1) := by decide +kernel
theorem dX2_readTest_31 : decode cX2_readTest 31 = .ok (.aload_n 0, 1) := by decide +kernel
theorem dX2_readTest_32 : decode cX2_readTest 32 = .ok (.getfield 48, 3) := by decide +kernel
theorem dX2_readTest_35 : decode cX2_readTest 35 = .ok (.bipush 60, 2) := by decide +kernel
theorem dX2_readTest_37 : decode cX2_readTest 37 = .ok (.if_icmp .ne 8, 3) := by decide +kernel
theorem dX2_readTest_40 : decode cX2_readTest 40 = .ok (.bipush (-13), 2) := by decide +kernel
theorem dX2_readTest_42 : decode cX2_readTest 42 = .ok (.goto 5, 3) := by decide +kernel
theorem dX2_readTest_45 : decode cX2_readTest 45 = .ok (.bipush (-14), 2) := by decide +kernel
theorem dX2_readTest_47 : decode cX2_readTest 47 = .ok (.istore_n 3, 1) := by decide +kernel
theorem dX2_readTest_48 : decode cX2_readTest 48 = .ok (.aload_n 0, 1) := by decide +kernel
theorem dX2_readTest_49 : decode cX2_readTest 49 = .ok (.invokevirtual 84, 3) := by decide +kernel
theorem dX2_readTest_52 : decode cX2_readTest 52 = .ok (.aload_n 0, 1) := by decide +kernel
theorem dX2_readTest_53 : decode cX2_readTest 53 = .ok (.iload_n 1, 1) := by decide +kernel
theorem dX2_readTest_54 : decode cX2_readTest 54 = .ok (.iload_n 2, 1) := by decide +kernel
theorem dX2_readTest_55 : decode cX2_readTest 55 = .ok (.invokevirtual 227, 3) := by decide +kernel
theorem dX2_readTest_58 : decode cX2_readTest 58 = .ok (.istore 4, 2) := by decide +kernel
theorem dX2_readTest_60 : decode cX2_readTest 60 = .ok (.aload_n 0, 1) := by decide +kernel
theorem dX2_readTest_61 : decode cX2_readTest 61 = .ok (.getfield 25, 3) := by decide +kernel
theorem dX2_readTest_64 : decode cX2_readTest 64 = .ok (.iload_n 1, 1) := by decide +kernel
theorem dX2_readTest_65 : decode cX2_readTest 65 = .ok (.iload_n 3, 1) := by decide +kernel
theorem dX2_readTest_66 : decode cX2_readTest 66 = .ok (.invokevirtual 212, 3) := by decide +kernel
theorem dX2_readTest_69 : decode cX2_readTest 69 = .ok (.iload 4, 2) := by decide +kernel
theorem dX2_readTest_71 : decode cX2_readTest 71 = .ok (.ireturn, 1) := by decide +kernel
theorem dX2_readSum_0 : decode cX2_readSum 0 = .ok (.aload_n 0, 1) := by decide +kernel
theorem dX2_readSum_1 : decode cX2_readSum 1 = .ok (.iload_n 1, 1) := by decide +kernel
theorem dX2_readSum_2 : decode cX2_readSum 2 = .ok (.iload_n 2, 1) := by decide +kernel
theorem dX2_readSum_3 : decode cX2_readSum 3 = .ok (.invokevirtual 230, 3) := by decide +kernel
theorem dX2_readSum_6 : decode cX2_readSum 6 = .ok (.istore_n 3, 1) := by decide +kernel
theorem dX2_readSum_7 : decode cX2_readSum 7 = .ok (.iconst 0, 1) := by decide +kernel
theorem dX2_readSum_8 : decode cX2_readSum 8 = .ok (.istore 4, 2) := by decide +kernel
theorem dX2_readSum_10 : decode cX2_readSum 10 = .ok (.iload 4, 2) := by decide +kernel
theorem dX2_readSum_12 : decode cX2_readSum 12 = .ok (.sipush 700, 3) := by decide +kernel
theorem dX2_readSum_15 : decode cX2_readSum 15 = .ok (.if_icmp .ge 70, 3) := by decide +kernel
theorem dX2_readSum_18 : decode cX2_readSum 18 = .ok (.iload_n 3, 1) := by decide +kernel
theorem dX2_readSum_19 : decode cX2_readSum 19 = .ok (.ifCond .eq 66, 3) := by decide +kernel
theorem dX2_readSum_22 : decode cX2_readSum 22 = .ok (.aload_n 0, 1) := by decide +kernel
theorem dX2_readSum_23 : decode cX2_readSum 23 = .ok (.bipush 43, 2) := by decide +kernel
theorem dX2_readSum_25 : decode cX2_readSum 25 = .ok (.invokevirtual 189, 3) := by decide +kernel
theorem dX2_readSum_28 : decode cX2_readSum 28 = .ok (.ifCond .ne 12, 3) := by decide +kernel
theorem dX2_readSum_31 : decode cX2_readSum 31 = .ok (.aload_n 0, 1) := by decide +kernel
theorem dX2_readSum_32 : decode cX2_readSum 32 = .ok (.bipush 45, 2) := by decide +kernel
theorem dX2_readSum_34 : decode cX2_readSum 34 = .ok (.invokevirtual 189, 3) := by decide +kernel
theorem dX2_readSum_37 : decode cX2_readSum 37 = .ok (.ifCond .eq 48, 3) := by decide +kernel
theorem dX2_readSum_40 : decode cX2_readSum 40 = .ok (.aload_n 0, 1) := by decide +kernel
theorem dX2_readSum_41 : decode cX2_readSum 41 = .ok (.getfield 48, 3) := by decide +kernel
theorem dX2_readSum_44 : decode cX2_readSum 44 = .ok (.bipush 43, 2) := by decide +kernel
theorem dX2_readSum_46 : decode cX2_readSum 46 = .ok (.if_icmp .ne 8, 3) := by decide +kernel
theorem dX2_readSum_49 : decode cX2_readSum 49 = .ok (.bipush (-15), 2) := by decide +kernel
theorem dX2_readSum_51 : decode cX2_readSum 51 = .ok (.goto 5, 3) := by decide +kernel
theorem dX2_readSum_54 : decode cX2_readSum 54 = .ok (.bipush (-16), 2) := by decide +kernel
theorem dX2_readSum_56 : decode cX2_readSum 56 = .ok (.istore 5, 2) := by decide +kernel
theorem dX2_readSum_58 : decode cX2_readSum 58 = .ok (.aload_n 0, 1) := by decide +kernel
theorem dX2_readSum_59 : decode cX2_readSum 59 = .ok (.invokevirtual 84, 3) := by decide +kernel
theorem dX2_readSum_62 : decode cX2_readSum 62 = .ok (.aload_n 0, 1) := by decide +kernel
theorem dX2_readSum_63 : decode cX2_readSum 63 = .ok (.iload_n 1, 1) := by decide +kernel
theorem dX2_readSum_64 : decode cX2_readSum 64 = .ok (.iload_n 2, 1) := by decide +kernel
theorem dX2_readSum_65 : decode cX2_readSum 65 = .ok (.invokevirtual 230, 3) := by decide +kernel
theorem dX2_readSum_68 : decode cX2_readSum 68 = .ok (.istore_n 3, 1) := by decide +kernel
theorem dX2_readSum_69 : decode cX2_readSum 69 = .ok (.aload_n 0, 1) := by decide +kernel
theorem dX2_readSum_70 : decode cX2_readSum 70 = .ok (.getfield 25, 3) := by decide +kernel
theorem dX2_readSum_73 : decode cX2_readSum 73 = .ok (.iload_n 1, 1) := by decide +kernel
theorem dX2_readSum_74 : decode cX2_readSum 74 = .ok (.iload 5, 2) := by decide +kernel
theorem dX2_readSum_76 : decode cX2_readSum 76 = .ok (.invokevirtual 212, 3) := by decide +kernel
theorem dX2_readSum_79 : decode cX2_readSum 79 = .ok (.iinc 4 1, 3) := by decide +kernel
theorem dX2_readSum_82 : decode cX2_readSum 82 = .ok (.goto (-72), 3) := by decide +kernel
theorem dX2_readSum_85 : decode cX2_readSum 85 = .ok (.iload_n 3, 1) := by decide +kernel
theorem dX2_readSum_86 : decode cX2_readSum 86 = .ok (.ireturn, 1) := by decide +kernel
theorem dX2_readProduct_0 : decode cX2_readProduct 0 = .ok (.aload_n 0, 1) := by decide +kernel
theorem dX2_readProduct_1 : decode cX2_readProduct 1 = .ok (.iload_n 1, 1) := by decide +kernel
theorem dX2_readProduct_2 : decode cX2_readProduct 2 = .ok (.iload_n 2, 1) := by decide +kernel
theorem dX2_readProduct_3 : decode cX2_readProduct 3 = .ok (.invokevirtual 233, 3) := by decide +kernel
theorem dX2_readProduct_6 : decode cX2_readProduct 6 = .ok (.istore_n 3, 1) := by decide +kernel
theorem dX2_readProduct_7 : decode cX2_readProduct 7 = .ok (.iconst 0, 1) := by decide +kernel
theorem dX2_readProduct_8 : decode cX2_readProduct 8 = .ok (.istore 4, 2) := by decide +kernel
theorem dX2_readProduct_10 : decode cX2_readProduct 10 = .ok (.iload 4, 2) := by decide +kernel
theorem dX2_readProduct_12 : decode cX2_readProduct 12 = .ok (.sipush 700, 3) := by decide +kernel
theorem dX2_readProduct_15 : decode cX2_readProduct 15 = .ok (.if_icmp .ge 70, 3) := by decide +kernel
theorem dX2_readProduct_18 : decode cX2_readProduct 18 = .ok (.iload_n 3, 1) := by decide +kernel
theorem dX2_readProduct_19 : decode cX2_readProduct 19 = .ok (.ifCond .eq 66, 3) := by decide +kernel
theorem dX2_readProduct_22 : decode cX2_readProduct 22 = .ok (.aload_n 0, 1) := by decide +kernel
theorem dX2_readProduct_23 : decode cX2_readProduct 23 = .ok (.bipush 42, 2) := by decide +kernel
theorem dX2_readProduct_25 : decode cX2_readProduct 25 = .ok (.invokevirtual 189, 3) := by decide +kernel
theorem dX2_readProduct_28 : decode cX2_readProduct 28 = .ok (.ifCond .ne 12, 3) := by decide +kernel
theorem dX2_readProduct_31 : decode cX2_readProduct 31 = .ok (.aload_n 0, 1) := by decide +kernel
theorem dX2_readProduct_32 : decode cX2_readProduct 32 = .ok (.bipush 47, 2) := by decide +kernel
theorem dX2_readProduct_34 : decode cX2_readProduct 34 = .ok (.invokevirtual 189, 3) := by decide +kernel
theorem dX2_readProduct_37 : decode cX2_readProduct 37 = .ok (.ifCond .eq 48, 3) := by decide +kernel
theorem dX2_readProduct_40 : decode cX2_readProduct 40 = .ok (.aload_n 0, 1) := by decide +kernel
theorem dX2_readProduct_41 : decode cX2_readProduct 41 = .ok (.getfield 48, 3) := by decide +kernel
theorem dX2_readProduct_44 : decode cX2_readProduct 44 = .ok (.bipush 42, 2) := by decide +kernel
theorem dX2_readProduct_46 : decode cX2_readProduct 46 = .ok (.if_icmp .ne 8, 3) := by decide +kernel
theorem dX2_readProduct_49 : decode cX2_readProduct 49 = .ok (.bipush (-17), 2) := by decide +kernel
theorem dX2_readProduct_51 : decode cX2_readProduct 51 = .ok (.goto 5, 3) := by decide +kernel
theorem dX2_readProduct_54 : decode cX2_readProduct 54 = .ok (.bipush (-18), 2) := by decide +kernel
theorem dX2_readProduct_56 : decode cX2_readProduct 56 = .ok (.istore 5, 2) := by decide +kernel
theorem dX2_readProduct_58 : decode cX2_readProduct 58 = .ok (.aload_n 0, 1) := by decide +kernel
theorem dX2_readProduct_59 : decode cX2_readProduct 59 = .ok (.invokevirtual 84, 3) := by decide +kernel
theorem dX2_readProduct_62 : decode cX2_readProduct 62 = .ok (.aload_n 0, 1) := by decide +kernel
theorem dX2_readProduct_63 : decode cX2_readProduct 63 = .ok (.iload_n 1, 1) := by decide +kernel
theorem dX2_readProduct_64 : decode cX2_readProduct 64 = .ok (.iload_n 2, 1) := by decide +kernel
theorem dX2_readProduct_65 : decode cX2_readProduct 65 = .ok (.invokevirtual 233, 3) := by decide +kernel
theorem dX2_readProduct_68 : decode cX2_readProduct 68 = .ok (.istore_n 3, 1) := by decide +kernel
theorem dX2_readProduct_69 : decode cX2_readProduct 69 = .ok (.aload_n 0, 1) := by decide +kernel
theorem dX2_readProduct_70 : decode cX2_readProduct 70 = .ok (.getfield 25, 3) := by decide +kernel
theorem dX2_readProduct_73 : decode cX2_readProduct 73 = .ok (.iload_n 1, 1) := by decide +kernel
theorem dX2_readProduct_74 : decode cX2_readProduct 74 = .ok (.iload 5, 2) := by decide +kernel
theorem dX2_readProduct_76 : decode cX2_readProduct 76 = .ok (.invokevirtual 212, 3) := by decide +kernel
theorem dX2_readProduct_79 : decode cX2_readProduct 79 = .ok (.iinc 4 1, 3) := by decide +kernel
theorem dX2_readProduct_82 : decode cX2_readProduct 82 = .ok (.goto (-72), 3) := by decide +kernel
theorem dX2_readProduct_85 : decode cX2_readProduct 85 = .ok (.iload_n 3, 1) := by decide +kernel
theorem dX2_readProduct_86 : decode cX2_readProduct 86 = .ok (.ireturn, 1) := by decide +kernel
theorem dX2_readPart_0 : decode cX2_readPart 0 = .ok (.aload_n 0, 1) := by decide +kernel
theorem dX2_readPart_1 : decode cX2_readPart 1 = .ok (.bipush 40, 2) := by decide +kernel
theorem dX2_readPart_3 : decode cX2_readPart 3 = .ok (.invokevirtual 189, 3) := by decide +kernel
theorem dX2_readPart_6 : decode cX2_readPart 6 = .ok (.ifCond .eq 35, 3) := by decide +kernel
theorem dX2_readPart_9 : decode cX2_readPart 9 = .ok (.aload_n 0, 1) := by decide +kernel
theorem dX2_readPart_10 : decode cX2_readPart 10 = .ok (.invokevirtual 84, 3) := by decide +kernel
theorem dX2_readPart_13 : decode cX2_readPart 13 = .ok (.aload_n 0, 1) := by decide +kernel
theorem dX2_readPart_14 : decode cX2_readPart 14 = .ok (.iload_n 1, 1) := by decide +kernel
theorem dX2_readPart_15 : decode cX2_readPart 15 = .ok (.iload_n 2, 1) := by decide +kernel
theorem dX2_readPart_16 : decode cX2_readPart 16 = .ok (.iconst 1, 1) := by decide +kernel
theorem dX2_readPart_17 : decode cX2_readPart 17 = .ok (.iadd, 1) := by decide +kernel
theorem dX2_readPart_18 : decode cX2_readPart 18 = .ok (.invokevirtual 199, 3) := by decide +kernel
theorem dX2_readPart_21 : decode cX2_readPart 21 = .ok (.ifCond .ne 5, 3) := by decide +kernel
theorem dX2_readPart_24 : decode cX2_readPart 24 = .ok (.iconst 0, 1) := by decide +kernel
theorem dX2_readPart_25 : decode cX2_readPart 25 = .ok (.ireturn, 1) := by decide +kernel
theorem dX2_readPart_26 : decode cX2_readPart 26 = .ok (.aload_n 0, 1) := by decide +kernel
theorem dX2_readPart_27 : decode cX2_readPart 27 = .ok (.bipush 41, 2) := by decide +kernel
theorem dX2_readPart_29 : decode cX2_readPart 29 = .ok (.invokevirtual 189, 3) := by decide +kernel
theorem dX2_readPart_32 : decode cX2_readPart 32 = .ok (.ifCond .ne 82, 3) := by decide +kernel
theorem dX2_readPart_35 : decode cX2_readPart 35 = .ok (.aload_n 0, 1) := by decide +kernel
theorem dX2_readPart_36 : decode cX2_readPart 36 = .ok (.iconst 1, 1) := by decide +kernel
theorem dX2_readPart_37 : decode cX2_readPart 37 = .ok (.invokevirtual 111, 3) := by decide +kernel
theorem dX2_readPart_40 : decode cX2_readPart 40 = .ok (.ireturn, 1) := by decide +kernel
theorem dX2_readPart_41 : decode cX2_readPart 41 = .ok (.aload_n 0, 1) := by decide +kernel
theorem dX2_readPart_42 : decode cX2_readPart 42 = .ok (.getfield 42, 3) := by decide +kernel
theorem dX2_readPart_45 : decode cX2_readPart 45 = .ok (.iconst 1, 1) := by decide +kernel
theorem dX2_readPart_46 : decode cX2_readPart 46 = .ok (.if_icmp .ne 40, 3) := by decide +kernel
theorem dX2_readPart_49 : decode cX2_readPart 49 = .ok (.aload_n 0, 1) := by decide +kernel
theorem dX2_readPart_50 : decode cX2_readPart 50 = .ok (.getfield 58, 3) := by decide +kernel
theorem dX2_readPart_53 : decode cX2_readPart 53 = .ok (.iload_n 1, 1) := by decide +kernel
theorem dX2_readPart_54 : decode cX2_readPart 54 = .ok (.invokevirtual 236, 3) := by decide +kernel
theorem dX2_readPart_57 : decode cX2_readPart 57 = .ok (.ifCond .ne 9, 3) := by decide +kernel
theorem dX2_readPart_60 : decode cX2_readPart 60 = .ok (.aload_n 0, 1) := by decide +kernel
theorem dX2_readPart_61 : decode cX2_readPart 61 = .ok (.iconst 3, 1) := by decide +kernel
theorem dX2_readPart_62 : decode cX2_readPart 62 = .ok (.invokevirtual 111, 3) := by decide +kernel
theorem dX2_readPart_65 : decode cX2_readPart 65 = .ok (.ireturn, 1) := by decide +kernel
theorem dX2_readPart_66 : decode cX2_readPart 66 = .ok (.aload_n 0, 1) := by decide +kernel
theorem dX2_readPart_67 : decode cX2_readPart 67 = .ok (.getfield 25, 3) := by decide +kernel
theorem dX2_readPart_70 : decode cX2_readPart 70 = .ok (.iload_n 1, 1) := by decide +kernel
theorem dX2_readPart_71 : decode cX2_readPart 71 = .ok (.iconst (-1), 1) := by decide +kernel
theorem dX2_readPart_72 : decode cX2_readPart 72 = .ok (.aload_n 0, 1) := by decide +kernel
theorem dX2_readPart_73 : decode cX2_readPart 73 = .ok (.getfield 58, 3) := by decide +kernel
theorem dX2_readPart_76 : decode cX2_readPart 76 = .ok (.getfield 239, 3) := by decide +kernel
theorem dX2_readPart_79 : decode cX2_readPart 79 = .ok (.isub, 1) := by decide +kernel
theorem dX2_readPart_80 : decode cX2_readPart 80 = .ok (.invokevirtual 212, 3) := by decide +kernel
theorem dX2_readPart_83 : decode cX2_readPart 83 = .ok (.goto 31, 3) := by decide +kernel
theorem dX2_readPart_86 : decode cX2_readPart 86 = .ok (.aload_n 0, 1) := by decide +kernel
theorem dX2_readPart_87 : decode cX2_readPart 87 = .ok (.iconst 0, 1) := by decide +kernel
theorem dX2_readPart_88 : decode cX2_readPart 88 = .ok (.sipush 9999, 3) := by decide +kernel
theorem dX2_readPart_91 : decode cX2_readPart 91 = .ok (.invokevirtual 149, 3) := by decide +kernel
theorem dX2_readPart_94 : decode cX2_readPart 94 = .ok (.ifCond .eq 18, 3) := by decide +kernel
theorem dX2_readPart_97 : decode cX2_readPart 97 = .ok (.aload_n 0, 1) := by decide +kernel
theorem dX2_readPart_98 : decode cX2_readPart 98 = .ok (.getfield 25, 3) := by decide +kernel
theorem dX2_readPart_101 : decode cX2_readPart 101 = .ok (.iload_n 1, 1) := by decide +kernel
theorem dX2_readPart_102 : decode cX2_readPart 102 = .ok (.aload_n 0, 1) := by decide +kernel
theorem dX2_readPart_103 : decode cX2_readPart 103 = .ok (.getfield 45, 3) := by decide +kernel
theorem dX2_readPart_106 : decode cX2_readPart 106 = .ok (.invokevirtual 212, 3) := by decide +kernel
theorem dX2_readPart_109 : decode cX2_readPart 109 = .ok (.goto 5, 3) := by decide +kernel
theorem dX2_readPart_112 : decode cX2_readPart 112 = .ok (.iconst 0, 1) := by decide +kernel
theorem dX2_readPart_113 : decode cX2_readPart 113 = .ok (.ireturn, 1) := by decide +kernel
theorem dX2_readPart_114 : decode cX2_readPart 114 = .ok (.aload_n 0, 1) := by decide +kernel
theorem dX2_readPart_115 : decode cX2_readPart 115 = .ok (.invokevirtual 84, 3) := by decide +kernel
theorem dX2_readPart_118 : decode cX2_readPart 118 = .ok (.iconst 1, 1) := by decide +kernel
theorem dX2_readPart_119 : decode cX2_readPart 119 = .ok (.ireturn, 1) := by decide +kernel
theorem dX3_init_0 : decode cX3_init 0 = .ok (.aload_n 0, 1) := by decide +kernel
theorem dX3_init_1 : decode cX3_init 1 = .ok (.invokespecial 3, 3) := by decide +kernel
theorem dX3_init_4 : decode cX3_init 4 = .ok (.aload_n 0, 1) := by decide +kernel
theorem dX3_init_5 : decode cX3_init 5 = .ok (.bipush 8, 2) := by decide +kernel
theorem dX3_init_7 : decode cX3_init 7 = .ok (.newarray .int, 2) := by decide +kernel
theorem dX3_init_9 : decode cX3_init 9 = .ok (.putfield 9, 3) := by decide +kernel
theorem dX3_init_12 : decode cX3_init 12 = .ok (.aload_n 0, 1) := by decide +kernel
theorem dX3_init_13 : decode cX3_init 13 = .ok (.bipush 8, 2) := by decide +kernel
theorem dX3_init_15 : decode cX3_init 15 = .ok (.newarray .int, 2) := by decide +kernel
theorem dX3_init_17 : decode cX3_init 17 = .ok (.putfield 15, 3) := by decide +kernel
theorem dX3_init_20 : decode cX3_init 20 = .ok (.aload_n 0, 1) := by decide +kernel
theorem dX3_init_21 : decode cX3_init 21 = .ok (.iconst 0, 1) := by decide +kernel
theorem dX3_init_22 : decode cX3_init 22 = .ok (.putfield 18, 3) := by decide +kernel
theorem dX3_init_25 : decode cX3_init 25 = .ok (.return_, 1) := by decide +kernel
theorem dX3_clear_0 : decode cX3_clear 0 = .ok (.aload_n 0, 1) := by decide +kernel
theorem dX3_clear_1 : decode cX3_clear 1 = .ok (.iconst 0, 1) := by decide +kernel
theorem dX3_clear_2 : decode cX3_clear 2 = .ok (.putfield 18, 3) := by decide +kernel
theorem dX3_clear_5 : decode cX3_clear 5 = .ok (.return_, 1) := by decide +kernel
theorem dX3_copy_0 : decode cX3_copy 0 = .ok (.aload_n 1, 1) := by decide +kernel
theorem dX3_copy_1 : decode cX3_copy 1 = .ok (.getfield 9, 3) := by decide +kernel
theorem dX3_copy_4 : decode cX3_copy 4 = .ok (.iconst 0, 1) := by decide +kernel
theorem dX3_copy_5 : decode cX3_copy 5 = .ok (.aload_n 0, 1) := by decide +kernel
theorem dX3_copy_6 : decode cX3_copy 6 = .ok (.getfield 9, 3) := by decide +kernel
theorem dX3_copy_9 : decode cX3_copy 9 = .ok (.iconst 0, 1) := by decide +kernel
theorem dX3_copy_10 : decode cX3_copy 10 = .ok (.bipush 8, 2) := by decide +kernel
theorem dX3_copy_12 : decode cX3_copy 12 = .ok (.invokestatic 22, 3) := by decide +kernel
theorem dX3_copy_15 : decode cX3_copy 15 = .ok (.aload_n 1, 1) := by decide +kernel
theorem dX3_copy_16 : decode cX3_copy 16 = .ok (.getfield 15, 3) := by decide +kernel
theorem dX3_copy_19 : decode cX3_copy 19 = .ok (.iconst 0, 1) := by decide +kernel
theorem dX3_copy_20 : decode cX3_copy 20 = .ok (.aload_n 0, 1) := by decide +kernel
theorem dX3_copy_21 : decode cX3_copy 21 = .ok (.getfield 15, 3) := by decide +kernel
theorem dX3_copy_24 : decode cX3_copy 24 = .ok (.iconst 0, 1) := by decide +kernel
theorem dX3_copy_25 : decode cX3_copy 25 = .ok (.bipush 8, 2) := by decide +kernel
theorem dX3_copy_27 : decode cX3_copy 27 = .ok (.invokestatic 22, 3) := by decide +kernel
theorem dX3_copy_30 : decode cX3_copy 30 = .ok (.aload_n 0, 1) := by decide +kernel
theorem dX3_copy_31 : decode cX3_copy 31 = .ok (.aload_n 1, 1) := by decide +kernel
theorem dX3_copy_32 : decode cX3_copy 32 = .ok (.getfield 18, 3) := by decide +kernel
theorem dX3_copy_35 : decode cX3_copy 35 = .ok (.putfield 18, 3) := by decide +kernel
theorem dX3_copy_38 : decode cX3_copy 38 = .ok (.return_, 1) := by decide +kernel
theorem dX3_add_0 : decode cX3_add 0 = .ok (.aload_n 0, 1) := by decide +kernel
theorem dX3_add_1 : decode cX3_add 1 = .ok (.getfield 18, 3) := by decide +kernel
theorem dX3_add_4 : decode cX3_add 4 = .ok (.bipush 8, 2) := by decide +kernel
theorem dX3_add_6 : decode cX3_add 6 = .ok (.if_icmp .lt 5, 3) := by decide +kernel
theorem dX3_add_9 : decode cX3_add 9 = .ok (.iconst 0, 1) := by decide +kernel
theorem dX3_add_10 : decode cX3_add 10 = .ok (.ireturn, 1) := by decide +kernel
theorem dX3_add_11 : decode cX3_add 11 = .ok (.aload_n 0, 1) := by decide +kernel
theorem dX3_add_12 : decode cX3_add 12 = .ok (.getfield 9, 3) := by decide +kernel
theorem dX3_add_15 : decode cX3_add 15 = .ok (.aload_n 0, 1) := by decide +kernel
theorem dX3_add_16 : decode cX3_add 16 = .ok (.getfield 18, 3) := by decide +kernel
theorem dX3_add_19 : decode cX3_add 19 = .ok (.iload_n 1, 1) := by decide +kernel
theorem dX3_add_20 : decode cX3_add 20 = .ok (.iastore, 1) := by decide +kernel
theorem dX3_add_21 : decode cX3_add 21 = .ok (.aload_n 0, 1) := by decide +kernel
theorem dX3_add_22 : decode cX3_add 22 = .ok (.getfield 15, 3) := by decide +kernel
theorem dX3_add_25 : decode cX3_add 25 = .ok (.aload_n 0, 1) := by decide +kernel
theorem dX3_add_26 : decode cX3_add 26 = .ok (.getfield 18, 3) := by decide +kernel
theorem dX3_add_29 : decode cX3_add 29 = .ok (.iload_n 2, 1) := by decide +kernel
theorem dX3_add_30 : decode cX3_add 30 = .ok (.iastore, 1) := by decide +kernel
theorem dX3_add_31 : decode cX3_add 31 = .ok (.aload_n 0, 1) := by decide +kernel
theorem dX3_add_32 : decode cX3_add 32 = .ok (.dup, 1) := by decide +kernel
theorem dX3_add_33 : decode cX3_add 33 = .ok (.getfield 18, 3) := by decide +kernel
theorem dX3_add_36 : decode cX3_add 36 = .ok (.iconst 1, 1) := by decide +kernel
theorem dX3_add_37 : decode cX3_add 37 = .ok (.iadd, 1) := by decide +kernel
theorem dX3_add_38 : decode cX3_add 38 = .ok (.putfield 18, 3) := by decide +kernel
theorem dX3_add_41 : decode cX3_add 41 = .ok (.iconst 1, 1) := by decide +kernel
theorem dX3_add_42 : decode cX3_add 42 = .ok (.ireturn, 1) := by decide +kernel
theorem dX3_lastDay_0 : decode cX3_lastDay 0 = .ok (.iconst (-1), 1) := by decide +kernel
theorem dX3_lastDay_1 : decode cX3_lastDay 1 = .ok (.istore_n 1, 1) := by decide +kernel
theorem dX3_lastDay_2 : decode cX3_lastDay 2 = .ok (.iconst 0, 1) := by decide +kernel
theorem dX3_lastDay_3 : decode cX3_lastDay 3 = .ok (.istore_n 2, 1) := by decide +kernel
theorem dX3_lastDay_4 : decode cX3_lastDay 4 = .ok (.iload_n 2, 1) := by decide +kernel
theorem dX3_lastDay_5 : decode cX3_lastDay 5 = .ok (.aload_n 0, 1) := by decide +kernel
theorem dX3_lastDay_6 : decode cX3_lastDay 6 = .ok (.getfield 18, 3) := by decide +kernel
theorem dX3_lastDay_9 : decode cX3_lastDay 9 = .ok (.if_icmp .ge 20, 3) := by decide +kernel
theorem dX3_lastDay_12 : decode cX3_lastDay 12 = .ok (.iload_n 1, 1) := by decide +kernel
theorem dX3_lastDay_13 : decode cX3_lastDay 13 = .ok (.aload_n 0, 1) := by decide +kernel
theorem dX3_lastDay_14 : decode cX3_lastDay 14 = .ok (.getfield 9, 3) := by decide +kernel
theorem dX3_lastDay_17 : decode cX3_lastDay 17 = .ok (.iload_n 2, 1) := by decide +kernel
theorem dX3_lastDay_18 : decode cX3_lastDay 18 = .ok (.iaload, 1) := by decide +kernel
theorem dX3_lastDay_19 : decode cX3_lastDay 19 = .ok (.invokestatic 28, 3) := by decide +kernel
theorem dX3_lastDay_22 : decode cX3_lastDay 22 = .ok (.istore_n 1, 1) := by decide +kernel
theorem dX3_lastDay_23 : decode cX3_lastDay 23 = .ok (.iinc 2 1, 3) := by decide +kernel
theorem dX3_lastDay_26 : decode cX3_lastDay 26 = .ok (.goto (-22), 3) := by decide +kernel
theorem dX3_lastDay_29 : decode cX3_lastDay 29 = .ok (.iload_n 1, 1) := by decide +kernel
theorem dX3_lastDay_30 : decode cX3_lastDay 30 = .ok (.ireturn, 1) := by decide +kernel
theorem dX3_allows_0 : decode cX3_allows 0 = .ok (.iconst 0, 1) := by decide +kernel
theorem dX3_allows_1 : decode cX3_allows 1 = .ok (.istore_n 3, 1) := by decide +kernel
theorem dX3_allows_2 : decode cX3_allows 2 = .ok (.iload_n 3, 1) := by decide +kernel
theorem dX3_allows_3 : decode cX3_allows 3 = .ok (.aload_n 0, 1) := by decide +kernel
theorem dX3_allows_4 : decode cX3_allows 4 = .ok (.getfield 18, 3) := by decide +kernel
theorem dX3_allows_7 : decode cX3_allows 7 = .ok (.if_icmp .ge 31, 3) := by decide +kernel
theorem dX3_allows_10 : decode cX3_allows 10 = .ok (.aload_n 0, 1) := by decide +kernel
theorem dX3_allows_11 : decode cX3_allows 11 = .ok (.getfield 9, 3) := by decide +kernel
theorem dX3_allows_14 : decode cX3_allows 14 = .ok (.iload_n 3, 1) := by decide +kernel
theorem dX3_allows_15 : decode cX3_allows 15 = .ok (.iaload, 1) := by decide +kernel
theorem dX3_allows_16 : decode cX3_allows 16 = .ok (.iload_n 1, 1) := by decide +kernel
theorem dX3_allows_17 : decode cX3_allows 17 = .ok (.if_icmp .ne 15, 3) := by decide +kernel
theorem dX3_allows_20 : decode cX3_allows 20 = .ok (.aload_n 0, 1) := by decide +kernel
theorem dX3_allows_21 : decode cX3_allows 21 = .ok (.getfield 15, 3) := by decide +kernel
theorem dX3_allows_24 : decode cX3_allows 24 = .ok (.iload_n 3, 1) := by decide +kernel
theorem dX3_allows_25 : decode cX3_allows 25 = .ok (.iaload, 1) := by decide +kernel
theorem dX3_allows_26 : decode cX3_allows 26 = .ok (.iload_n 2, 1) := by decide +kernel
theorem dX3_allows_27 : decode cX3_allows 27 = .ok (.if_icmp .eq 5, 3) := by decide +kernel
theorem dX3_allows_30 : decode cX3_allows 30 = .ok (.iconst 0, 1) := by decide +kernel
theorem dX3_allows_31 : decode cX3_allows 31 = .ok (.ireturn, 1) := by decide +kernel
theorem dX3_allows_32 : decode cX3_allows 32 = .ok (.iinc 3 1, 3) := by decide +kernel
theorem dX3_allows_35 : decode cX3_allows 35 = .ok (.goto (-33), 3) := by decide +kernel
theorem dX3_allows_38 : decode cX3_allows 38 = .ok (.iconst 1, 1) := by decide +kernel
theorem dX3_allows_39 : decode cX3_allows 39 = .ok (.ireturn, 1) := by decide +kernel
theorem dX4_init_0 : decode cX4_init 0 = .ok (.aload_n 0, 1) := by decide +kernel
theorem dX4_init_1 : decode cX4_init 1 = .ok (.invokespecial 3, 3) := by decide +kernel
theorem dX4_init_4 : decode cX4_init 4 = .ok (.aload_n 0, 1) := by decide +kernel
theorem dX4_init_5 : decode cX4_init 5 = .ok (.bipush 16, 2) := by decide +kernel
theorem dX4_init_7 : decode cX4_init 7 = .ok (.newarray .int, 2) := by decide +kernel
theorem dX4_init_9 : decode cX4_init 9 = .ok (.putfield 9, 3) := by decide +kernel
theorem dX4_init_12 : decode cX4_init 12 = .ok (.aload_n 0, 1) := by decide +kernel
theorem dX4_init_13 : decode cX4_init 13 = .ok (.bipush 16, 2) := by decide +kernel
theorem dX4_init_15 : decode cX4_init 15 = .ok (.newarray .int, 2) := by decide +kernel
theorem dX4_init_17 : decode cX4_init 17 = .ok (.putfield 15, 3) := by decide +kernel
theorem dX4_init_20 : decode cX4_init 20 = .ok (.aload_n 0, 1) := by decide +kernel
theorem dX4_init_21 : decode cX4_init 21 = .ok (.bipush 8, 2) := by decide +kernel
theorem dX4_init_23 : decode cX4_init 23 = .ok (.newarray .int, 2) := by decide +kernel
theorem dX4_init_25 : decode cX4_init 25 = .ok (.putfield 18, 3) := by decide +kernel
theorem dX4_init_28 : decode cX4_init 28 = .ok (.aload_n 0, 1) := by decide +kernel
theorem dX4_init_29 : decode cX4_init 29 = .ok (.bipush 8, 2) := by decide +kernel
theorem dX4_init_31 : decode cX4_init 31 = .ok (.newarray .int, 2) := by decide +kernel
theorem dX4_init_33 : decode cX4_init 33 = .ok (.putfield 21, 3) := by decide +kernel
theorem dX4_init_36 : decode cX4_init 36 = .ok (.aload_n 0, 1) := by decide +kernel
theorem dX4_init_37 : decode cX4_init 37 = .ok (.bipush 8, 2) := by decide +kernel
theorem dX4_init_39 : decode cX4_init 39 = .ok (.newarray .int, 2) := by decide +kernel
theorem dX4_init_41 : decode cX4_init 41 = .ok (.putfield 24, 3) := by decide +kernel
theorem dX4_init_44 : decode cX4_init 44 = .ok (.aload_n 0, 1) := by decide +kernel
theorem dX4_init_45 : decode cX4_init 45 = .ok (.iconst 0, 1) := by decide +kernel
theorem dX4_init_46 : decode cX4_init 46 = .ok (.putfield 27, 3) := by decide +kernel
theorem dX4_init_49 : decode cX4_init 49 = .ok (.aload_n 0, 1) := by decide +kernel
theorem dX4_init_50 : decode cX4_init 50 = .ok (.iconst 0, 1) := by decide +kernel
theorem dX4_init_51 : decode cX4_init 51 = .ok (.putfield 31, 3) := by decide +kernel
theorem dX4_init_54 : decode cX4_init 54 = .ok (.aload_n 0, 1) := by decide +kernel
theorem dX4_init_55 : decode cX4_init 55 = .ok (.iconst 0, 1) := by decide +kernel
theorem dX4_init_56 : decode cX4_init 56 = .ok (.putfield 34, 3) := by decide +kernel
theorem dX4_init_59 : decode cX4_init 59 = .ok (.aload_n 0, 1) := by decide +kernel
theorem dX4_init_60 : decode cX4_init 60 = .ok (.iconst 0, 1) := by decide +kernel
theorem dX4_init_61 : decode cX4_init 61 = .ok (.putfield 37, 3) := by decide +kernel
theorem dX4_init_64 : decode cX4_init 64 = .ok (.aload_n 0, 1) := by decide +kernel
theorem dX4_init_65 : decode cX4_init 65 = .ok (.iconst 0, 1) := by decide +kernel
theorem dX4_init_66 : decode cX4_init 66 = .ok (.putfield 40, 3) := by decide +kernel
theorem dX4_init_69 : decode cX4_init 69 = .ok (.aload_n 0, 1) := by decide +kernel
theorem dX4_init_70 : decode cX4_init 70 = .ok (.iconst 0, 1) := by decide +kernel
theorem dX4_init_71 : decode cX4_init 71 = .ok (.putfield 43, 3) := by decide +kernel
theorem dX4_init_74 : decode cX4_init 74 = .ok (.aload_n 0, 1) := by decide +kernel
theorem dX4_init_75 : decode cX4_init 75 = .ok (.iconst 0, 1) := by decide +kernel
theorem dX4_init_76 : decode cX4_init 76 = .ok (.putfield 46, 3) := by decide +kernel
theorem dX4_init_79 : decode cX4_init 79 = .ok (.return_, 1) := by decide +kernel
theorem dX4_clear_0 : decode cX4_clear 0 = .ok (.aload_n 0, 1) := by decide +kernel
theorem dX4_clear_1 : decode cX4_clear 1 = .ok (.getfield 9, 3) := by decide +kernel
theorem dX4_clear_4 : decode cX4_clear 4 = .ok (.iconst 0, 1) := by decide +kernel
theorem dX4_clear_5 : decode cX4_clear 5 = .ok (.invokestatic 49, 3) := by decide +kernel
theorem dX4_clear_8 : decode cX4_clear 8 = .ok (.aload_n 0, 1) := by decide +kernel
theorem dX4_clear_9 : decode cX4_clear 9 = .ok (.getfield 15, 3) := by decide +kernel
theorem dX4_clear_12 : decode cX4_clear 12 = .ok (.iconst 0, 1) := by decide +kernel
theorem dX4_clear_13 : decode cX4_clear 13 = .ok (.invokestatic 49, 3) := by decide +kernel
theorem dX4_clear_16 : decode cX4_clear 16 = .ok (.aload_n 0, 1) := by decide +kernel
theorem dX4_clear_17 : decode cX4_clear 17 = .ok (.getfield 18, 3) := by decide +kernel
theorem dX4_clear_20 : decode cX4_clear 20 = .ok (.iconst 0, 1) := by decide +kernel
theorem dX4_clear_21 : decode cX4_clear 21 = .ok (.invokestatic 49, 3) := by decide +kernel
theorem dX4_clear_24 : decode cX4_clear 24 = .ok (.aload_n 0, 1) := by decide +kernel
theorem dX4_clear_25 : decode cX4_clear 25 = .ok (.getfield 21, 3) := by decide +kernel
theorem dX4_clear_28 : decode cX4_clear 28 = .ok (.iconst 0, 1) := by decide +kernel
theorem dX4_clear_29 : decode cX4_clear 29 = .ok (.invokestatic 49, 3) := by decide +kernel
theorem dX4_clear_32 : decode cX4_clear 32 = .ok (.aload_n 0, 1) := by decide +kernel
theorem dX4_clear_33 : decode cX4_clear 33 = .ok (.iconst 0, 1) := by decide +kernel
theorem dX4_clear_34 : decode cX4_clear 34 = .ok (.putfield 27, 3) := by decide +kernel
theorem dX4_clear_37 : decode cX4_clear 37 = .ok (.aload_n 0, 1) := by decide +kernel
theorem dX4_clear_38 : decode cX4_clear 38 = .ok (.iconst 0, 1) := by decide +kernel
theorem dX4_clear_39 : decode cX4_clear 39 = .ok (.putfield 31, 3) := by decide +kernel
theorem dX4_clear_42 : decode cX4_clear 42 = .ok (.aload_n 0, 1) := by decide +kernel
theorem dX4_clear_43 : decode cX4_clear 43 = .ok (.iconst 0, 1) := by decide +kernel
theorem dX4_clear_44 : decode cX4_clear 44 = .ok (.putfield 34, 3) := by decide +kernel
theorem dX4_clear_47 : decode cX4_clear 47 = .ok (.aload_n 0, 1) := by decide +kernel
theorem dX4_clear_48 : decode cX4_clear 48 = .ok (.iconst 0, 1) := by decide +kernel
theorem dX4_clear_49 : decode cX4_clear 49 = .ok (.putfield 37, 3) := by decide +kernel
theorem dX4_clear_52 : decode cX4_clear 52 = .ok (.aload_n 0, 1) := by decide +kernel
theorem dX4_clear_53 : decode cX4_clear 53 = .ok (.iconst 0, 1) := by decide +kernel
theorem dX4_clear_54 : decode cX4_clear 54 = .ok (.putfield 40, 3) := by decide +kernel
theorem dX4_clear_57 : decode cX4_clear 57 = .ok (.aload_n 0, 1) := by decide +kernel
theorem dX4_clear_58 : decode cX4_clear 58 = .ok (.iconst 0, 1) := by decide +kernel
theorem dX4_clear_59 : decode cX4_clear 59 = .ok (.putfield 43, 3) := by decide +kernel
theorem dX4_clear_62 : decode cX4_clear 62 = .ok (.aload_n 0, 1) := by decide +kernel
theorem dX4_clear_63 : decode cX4_clear 63 = .ok (.iconst 0, 1) := by decide +kernel
theorem dX4_clear_64 : decode cX4_clear 64 = .ok (.putfield 46, 3) := by decide +kernel
theorem dX4_clear_67 : decode cX4_clear 67 = .ok (.return_, 1) := by decide +kernel
theorem dX4_copy_0 : decode cX4_copy 0 = .ok (.aload_n 1, 1) := by decide +kernel
theorem dX4_copy_1 : decode cX4_copy 1 = .ok (.getfield 9, 3) := by decide +kernel
theorem dX4_copy_4 : decode cX4_copy 4 = .ok (.iconst 0, 1) := by decide +kernel
theorem dX4_copy_5 : decode cX4_copy 5 = .ok (.aload_n 0, 1) := by decide +kernel
theorem dX4_copy_6 : decode cX4_copy 6 = .ok (.getfield 9, 3) := by decide +kernel
theorem dX4_copy_9 : decode cX4_copy 9 = .ok (.iconst 0, 1) := by decide +kernel
theorem dX4_copy_10 : decode cX4_copy 10 = .ok (.bipush 16, 2) := by decide +kernel
theorem dX4_copy_12 : decode cX4_copy 12 = .ok (.invokestatic 55, 3) := by decide +kernel
theorem dX4_copy_15 : decode cX4_copy 15 = .ok (.aload_n 1, 1) := by decide +kernel
theorem dX4_copy_16 : decode cX4_copy 16 = .ok (.getfield 15, 3) := by decide +kernel
theorem dX4_copy_19 : decode cX4_copy 19 = .ok (.iconst 0, 1) := by decide +kernel
theorem dX4_copy_20 : decode cX4_copy 20 = .ok (.aload_n 0, 1) := by decide +kernel
theorem dX4_copy_21 : decode cX4_copy 21 = .ok (.getfield 15, 3) := by decide +kernel
theorem dX4_copy_24 : decode cX4_copy 24 = .ok (.iconst 0, 1) := by decide +kernel
theorem dX4_copy_25 : decode cX4_copy 25 = .ok (.bipush 16, 2) := by decide +kernel
theorem dX4_copy_27 : decode cX4_copy 27 = .ok (.invokestatic 55, 3) := by decide +kernel
theorem dX4_copy_30 : decode cX4_copy 30 = .ok (.aload_n 1, 1) := by decide +kernel
theorem dX4_copy_31 : decode cX4_copy 31 = .ok (.getfield 18, 3) := by decide +kernel
theorem dX4_copy_34 : decode cX4_copy 34 = .ok (.iconst 0, 1) := by decide +kernel
theorem dX4_copy_35 : decode cX4_copy 35 = .ok (.aload_n 0, 1) := by decide +kernel
theorem dX4_copy_36 : decode cX4_copy 36 = .ok (.getfield 18, 3) := by decide +kernel
theorem dX4_copy_39 : decode cX4_copy 39 = .ok (.iconst 0, 1) := by decide +kernel
theorem dX4_copy_40 : decode cX4_copy 40 = .ok (.bipush 8, 2) := by decide +kernel
theorem dX4_copy_42 : decode cX4_copy 42 = .ok (.invokestatic 55, 3) := by decide +kernel
theorem dX4_copy_45 : decode cX4_copy 45 = .ok (.aload_n 1, 1) := by decide +kernel
theorem dX4_copy_46 : decode cX4_copy 46 = .ok (.getfield 21, 3) := by decide +kernel
theorem dX4_copy_49 : decode cX4_copy 49 = .ok (.iconst 0, 1) := by decide +kernel
theorem dX4_copy_50 : decode cX4_copy 50 = .ok (.aload_n 0, 1) := by decide +kernel
theorem dX4_copy_51 : decode cX4_copy 51 = .ok (.getfield 21, 3) := by decide +kernel
theorem dX4_copy_54 : decode cX4_copy 54 = .ok (.iconst 0, 1) := by decide +kernel
theorem dX4_copy_55 : decode cX4_copy 55 = .ok (.bipush 8, 2) := by decide +kernel
theorem dX4_copy_57 : decode cX4_copy 57 = .ok (.invokestatic 55, 3) := by decide +kernel
theorem dX4_copy_60 : decode cX4_copy 60 = .ok (.aload_n 0, 1) := by decide +kernel
theorem dX4_copy_61 : decode cX4_copy 61 = .ok (.aload_n 1, 1) := by decide +kernel
theorem dX4_copy_62 : decode cX4_copy 62 = .ok (.getfield 27, 3) := by decide +kernel
theorem dX4_copy_65 : decode cX4_copy 65 = .ok (.putfield 27, 3) := by decide +kernel
theorem dX4_copy_68 : decode cX4_copy 68 = .ok (.aload_n 0, 1) := by decide +kernel
theorem dX4_copy_69 : decode cX4_copy 69 = .ok (.aload_n 1, 1) := by decide +kernel
theorem dX4_copy_70 : decode cX4_copy 70 = .ok (.getfield 31, 3) := by decide +kernel
theorem dX4_copy_73 : decode cX4_copy 73 = .ok (.putfield 31, 3) := by decide +kernel
theorem dX4_copy_76 : decode cX4_copy 76 = .ok (.aload_n 0, 1) := by decide +kernel
theorem dX4_copy_77 : decode cX4_copy 77 = .ok (.aload_n 1, 1) := by decide +kernel
theorem dX4_copy_78 : decode cX4_copy 78 = .ok (.getfield 34, 3) := by decide +kernel
theorem dX4_copy_81 : decode cX4_copy 81 = .ok (.putfield 34, 3) := by decide +kernel
theorem dX4_copy_84 : decode cX4_copy 84 = .ok (.aload_n 0, 1) := by decide +kernel
theorem dX4_copy_85 : decode cX4_copy 85 = .ok (.aload_n 1, 1) := by decide +kernel
theorem dX4_copy_86 : decode cX4_copy 86 = .ok (.getfield 37, 3) := by decide +kernel
theorem dX4_copy_89 : decode cX4_copy 89 = .ok (.putfield 37, 3) := by decide +kernel
theorem dX4_copy_92 : decode cX4_copy 92 = .ok (.aload_n 0, 1) := by decide +kernel
theorem dX4_copy_93 : decode cX4_copy 93 = .ok (.aload_n 1, 1) := by decide +kernel
theorem dX4_copy_94 : decode cX4_copy 94 = .ok (.getfield 40, 3) := by decide +kernel
theorem dX4_copy_97 : decode cX4_copy 97 = .ok (.putfield 40, 3) := by decide +kernel
theorem dX4_copy_100 : decode cX4_copy 100 = .ok (.aload_n 0, 1) := by decide +kernel
theorem dX4_copy_101 : decode cX4_copy 101 = .ok (.aload_n 1, 1) := by decide +kernel
theorem dX4_copy_102 : decode cX4_copy 102 = .ok (.getfield 43, 3) := by decide +kernel
theorem dX4_copy_105 : decode cX4_copy 105 = .ok (.putfield 43, 3) := by decide +kernel
theorem dX4_copy_108 : decode cX4_copy 108 = .ok (.aload_n 0, 1) := by decide +kernel
theorem dX4_copy_109 : decode cX4_copy 109 = .ok (.aload_n 1, 1) := by decide +kernel
theorem dX4_copy_110 : decode cX4_copy 110 = .ok (.getfield 46, 3) := by decide +kernel
theorem dX4_copy_113 : decode cX4_copy 113 = .ok (.putfield 46, 3) := by decide +kernel
theorem dX4_copy_116 : decode cX4_copy 116 = .ok (.return_, 1) := by decide +kernel
theorem dX4_save_0 : decode cX4_save 0 = .ok (.iload_n 2, 1) := by decide +kernel
theorem dX4_save_1 : decode cX4_save 1 = .ok (.ifCond .lt 12, 3) := by decide +kernel
theorem dX4_save_4 : decode cX4_save 4 = .ok (.iload_n 2, 1) := by decide +kernel
theorem dX4_save_5 : decode cX4_save 5 = .ok (.aload_n 1, 1) := by decide +kernel
theorem dX4_save_6 : decode cX4_save 6 = .ok (.arraylength, 1) := by decide +kernel
theorem dX4_save_7 : decode cX4_save 7 = .ok (.bipush 30, 2) := by decide +kernel
theorem dX4_save_9 : decode cX4_save 9 = .ok (.isub, 1) := by decide +kernel
theorem dX4_save_10 : decode cX4_save 10 = .ok (.if_icmp .le 4, 3) := by decide +kernel
theorem dX4_save_13 : decode cX4_save 13 = .ok (.return_, 1) := by decide +kernel
theorem dX4_save_14 : decode cX4_save 14 = .ok (.iconst 0, 1) := by decide +kernel
theorem dX4_save_15 : decode cX4_save 15 = .ok (.istore_n 3, 1) := by decide +kernel
theorem dX4_save_16 : decode cX4_save 16 = .ok (.iload_n 3, 1) := by decide +kernel
theorem dX4_save_17 : decode cX4_save 17 = .ok (.bipush 16, 2) := by decide +kernel
theorem dX4_save_19 : decode cX4_save 19 = .ok (.if_icmp .ge 30, 3) := by decide +kernel
theorem dX4_save_22 : decode cX4_save 22 = .ok (.aload_n 1, 1) := by decide +kernel
theorem dX4_save_23 : decode cX4_save 23 = .ok (.iload_n 2, 1) := by decide +kernel
theorem dX4_save_24 : decode cX4_save 24 = .ok (.iload_n 3, 1) := by decide +kernel
theorem dX4_save_25 : decode cX4_save 25 = .ok (.iadd, 1) := by decide +kernel
theorem dX4_save_26 : decode cX4_save 26 = .ok (.aload_n 0, 1) := by decide +kernel
theorem dX4_save_27 : decode cX4_save 27 = .ok (.getfield 9, 3) := by decide +kernel
theorem dX4_save_30 : decode cX4_save 30 = .ok (.iload_n 3, 1) := by decide +kernel
theorem dX4_save_31 : decode cX4_save 31 = .ok (.iaload, 1) := by decide +kernel
theorem dX4_save_32 : decode cX4_save 32 = .ok (.bipush 10, 2) := by decide +kernel
theorem dX4_save_34 : decode cX4_save 34 = .ok (.imul, 1) := by decide +kernel
theorem dX4_save_35 : decode cX4_save 35 = .ok (.aload_n 0, 1) := by decide +kernel
theorem dX4_save_36 : decode cX4_save 36 = .ok (.getfield 15, 3) := by decide +kernel
theorem dX4_save_39 : decode cX4_save 39 = .ok (.iload_n 3, 1) := by decide +kernel
theorem dX4_save_40 : decode cX4_save 40 = .ok (.iaload, 1) := by decide +kernel
theorem dX4_save_41 : decode cX4_save 41 = .ok (.iadd, 1) := by decide +kernel
theorem dX4_save_42 : decode cX4_save 42 = .ok (.iastore, 1) := by decide +kernel
theorem dX4_save_43 : decode cX4_save 43 = .ok (.iinc 3 1, 3) := by decide +kernel
theorem dX4_save_46 : decode cX4_save 46 = .ok (.goto (-30), 3) := by decide +kernel
theorem dX4_save_49 : decode cX4_save 49 = .ok (.iconst 0, 1) := by decide +kernel
theorem dX4_save_50 : decode cX4_save 50 = .ok (.istore_n 3, 1) := by decide +kernel
theorem dX4_save_51 : decode cX4_save 51 = .ok (.iload_n 3, 1) := by decide +kernel
theorem dX4_save_52 : decode cX4_save 52 = .ok (.bipush 8, 2) := by decide +kernel
theorem dX4_save_54 : decode cX4_save 54 = .ok (.if_icmp .ge 33, 3) := by decide +kernel
theorem dX4_save_57 : decode cX4_save 57 = .ok (.aload_n 1, 1) := by decide +kernel
theorem dX4_save_58 : decode cX4_save 58 = .ok (.iload_n 2, 1) := by decide +kernel
theorem dX4_save_59 : decode cX4_save 59 = .ok (.bipush 16, 2) := by decide +kernel
theorem dX4_save_61 : decode cX4_save 61 = .ok (.iadd, 1) := by decide +kernel
theorem dX4_save_62 : decode cX4_save 62 = .ok (.iload_n 3, 1) := by decide +kernel
theorem dX4_save_63 : decode cX4_save 63 = .ok (.iadd, 1) := by decide +kernel
theorem dX4_save_64 : decode cX4_save 64 = .ok (.aload_n 0, 1) := by decide +kernel
theorem dX4_save_65 : decode cX4_save 65 = .ok (.getfield 21, 3) := by decide +kernel
theorem dX4_save_68 : decode cX4_save 68 = .ok (.iload_n 3, 1) := by decide +kernel
theorem dX4_save_69 : decode cX4_save 69 = .ok (.iaload, 1) := by decide +kernel
theorem dX4_save_70 : decode cX4_save 70 = .ok (.bipush 100, 2) := by decide +kernel
theorem dX4_save_72 : decode cX4_save 72 = .ok (.imul, 1) := by decide +kernel
theorem dX4_save_73 : decode cX4_save 73 = .ok (.aload_n 0, 1) := by decide +kernel
theorem dX4_save_74 : decode cX4_save 74 = .ok (.getfield 18, 3) := by decide +kernel
theorem dX4_save_77 : decode cX4_save 77 = .ok (.iload_n 3, 1) := by decide +kernel
theorem dX4_save_78 : decode cX4_save 78 = .ok (.iaload, 1) := by decide +kernel
theorem dX4_save_79 : decode cX4_save 79 = .ok (.iadd, 1) := by decide +kernel
theorem dX4_save_80 : decode cX4_save 80 = .ok (.iastore, 1) := by decide +kernel
theorem dX4_save_81 : decode cX4_save 81 = .ok (.iinc 3 1, 3) := by decide +kernel
theorem dX4_save_84 : decode cX4_save 84 = .ok (.goto (-33), 3) := by decide +kernel
theorem dX4_save_87 : decode cX4_save 87 = .ok (.iload_n 2, 1) := by decide +kernel
theorem dX4_save_88 : decode cX4_save 88 = .ok (.bipush 16, 2) := by decide +kernel
theorem dX4_save_90 : decode cX4_save 90 = .ok (.iadd, 1) := by decide +kernel
theorem dX4_save_91 : decode cX4_save 91 = .ok (.bipush 8, 2) := by decide +kernel
theorem dX4_save_93 : decode cX4_save 93 = .ok (.iadd, 1) := by decide +kernel
theorem dX4_save_94 : decode cX4_save 94 = .ok (.istore_n 3, 1) := by decide +kernel
theorem dX4_save_95 : decode cX4_save 95 = .ok (.aload_n 1, 1) := by decide +kernel
theorem dX4_save_96 : decode cX4_save 96 = .ok (.iload_n 3, 1) := by decide +kernel
theorem dX4_save_97 : decode cX4_save 97 = .ok (.aload_n 0, 1) := by decide +kernel
theorem dX4_save_98 : decode cX4_save 98 = .ok (.getfield 27, 3) := by decide +kernel
theorem dX4_save_101 : decode cX4_save 101 = .ok (.iastore, 1) := by decide +kernel
theorem dX4_save_102 : decode cX4_save 102 = .ok (.aload_n 1, 1) := by decide +kernel
theorem dX4_save_103 : decode cX4_save 103 = .ok (.iload_n 3, 1) := by decide +kernel
theorem dX4_save_104 : decode cX4_save 104 = .ok (.iconst 1, 1) := by decide +kernel
theorem dX4_save_105 : decode cX4_save 105 = .ok (.iadd, 1) := by decide +kernel
theorem dX4_save_106 : decode cX4_save 106 = .ok (.aload_n 0, 1) := by decide +kernel
theorem dX4_save_107 : decode cX4_save 107 = .ok (.getfield 31, 3) := by decide +kernel
theorem dX4_save_110 : decode cX4_save 110 = .ok (.iastore, 1) := by decide +kernel
theorem dX4_save_111 : decode cX4_save 111 = .ok (.aload_n 1, 1) := by decide +kernel
theorem dX4_save_112 : decode cX4_save 112 = .ok (.iload_n 3, 1) := by decide +kernel
theorem dX4_save_113 : decode cX4_save 113 = .ok (.iconst 2, 1) := by decide +kernel
theorem dX4_save_114 : decode cX4_save 114 = .ok (.iadd, 1) := by decide +kernel
theorem dX4_save_115 : decode cX4_save 115 = .ok (.aload_n 0, 1) := by decide +kernel
theorem dX4_save_116 : decode cX4_save 116 = .ok (.getfield 37, 3) := by decide +kernel
theorem dX4_save_119 : decode cX4_save 119 = .ok (.iastore, 1) := by decide +kernel
theorem dX4_save_120 : decode cX4_save 120 = .ok (.aload_n 1, 1) := by decide +kernel
theorem dX4_save_121 : decode cX4_save 121 = .ok (.iload_n 3, 1) := by decide +kernel
theorem dX4_save_122 : decode cX4_save 122 = .ok (.iconst 3, 1) := by decide +kernel
theorem dX4_save_123 : decode cX4_save 123 = .ok (.iadd, 1) := by decide +kernel
theorem dX4_save_124 : decode cX4_save 124 = .ok (.aload_n 0, 1) := by decide +kernel
theorem dX4_save_125 : decode cX4_save 125 = .ok (.getfield 40, 3) := by decide +kernel
theorem dX4_save_128 : decode cX4_save 128 = .ok (.iastore, 1) := by decide +kernel
theorem dX4_save_129 : decode cX4_save 129 = .ok (.aload_n 1, 1) := by decide +kernel
theorem dX4_save_130 : decode cX4_save 130 = .ok (.iload_n 3, 1) := by decide +kernel
theorem dX4_save_131 : decode cX4_save 131 = .ok (.iconst 4, 1) := by decide +kernel
theorem dX4_save_132 : decode cX4_save 132 = .ok (.iadd, 1) := by decide +kernel
theorem dX4_save_133 : decode cX4_save 133 = .ok (.aload_n 0, 1) := by decide +kernel
theorem dX4_save_134 : decode cX4_save 134 = .ok (.getfield 43, 3) := by decide +kernel
theorem dX4_save_137 : decode cX4_save 137 = .ok (.iastore, 1) := by decide +kernel
theorem dX4_save_138 : decode cX4_save 138 = .ok (.aload_n 1, 1) := by decide +kernel
theorem dX4_save_139 : decode cX4_save 139 = .ok (.iload_n 3, 1) := by decide +kernel
theorem dX4_save_140 : decode cX4_save 140 = .ok (.iconst 5, 1) := by decide +kernel
theorem dX4_save_141 : decode cX4_save 141 = .ok (.iadd, 1) := by decide +kernel
theorem dX4_save_142 : decode cX4_save 142 = .ok (.aload_n 0, 1) := by decide +kernel
theorem dX4_save_143 : decode cX4_save 143 = .ok (.getfield 46, 3) := by decide +kernel
theorem dX4_save_146 : decode cX4_save 146 = .ok (.iastore, 1) := by decide +kernel
theorem dX4_save_147 : decode cX4_save 147 = .ok (.return_, 1) := by decide +kernel
theorem dX4_load_0 : decode cX4_load 0 = .ok (.iload_n 2, 1) := by decide +kernel
theorem dX4_load_1 : decode cX4_load 1 = .ok (.ifCond .lt 12, 3) := by decide +kernel
theorem dX4_load_4 : decode cX4_load 4 = .ok (.iload_n 2, 1) := by decide +kernel
theorem dX4_load_5 : decode cX4_load 5 = .ok (.aload_n 1, 1) := by decide +kernel
theorem dX4_load_6 : decode cX4_load 6 = .ok (.arraylength, 1) := by decide +kernel
theorem dX4_load_7 : decode cX4_load 7 = .ok (.bipush 30, 2) := by decide +kernel
theorem dX4_load_9 : decode cX4_load 9 = .ok (.isub, 1) := by decide +kernel
theorem dX4_load_10 : decode cX4_load 10 = .ok (.if_icmp .le 4, 3) := by decide +kernel
theorem dX4_load_13 : decode cX4_load 13 = .ok (.return_, 1) := by decide +kernel
theorem dX4_load_14 : decode cX4_load 14 = .ok (.iconst 0, 1) := by decide +kernel
theorem dX4_load_15 : decode cX4_load 15 = .ok (.istore_n 3, 1) := by decide +kernel
theorem dX4_load_16 : decode cX4_load 16 = .ok (.iload_n 3, 1) := by decide +kernel
theorem dX4_load_17 : decode cX4_load 17 = .ok (.bipush 16, 2) := by decide +kernel
theorem dX4_load_19 : decode cX4_load 19 = .ok (.if_icmp .ge 37, 3) := by decide +kernel
theorem dX4_load_22 : decode cX4_load 22 = .ok (.aload_n 0, 1) := by decide +kernel
theorem dX4_load_23 : decode cX4_load 23 = .ok (.getfield 9, 3) := by decide +kernel
theorem dX4_load_26 : decode cX4_load 26 = .ok (.iload_n 3, 1) := by decide +kernel
theorem dX4_load_27 : decode cX4_load 27 = .ok (.aload_n 1, 1) := by decide +kernel
theorem dX4_load_28 : decode cX4_load 28 = .ok (.iload_n 2, 1) := by decide +kernel
theorem dX4_load_29 : decode cX4_load 29 = .ok (.iload_n 3, 1) := by decide +kernel
theorem dX4_load_30 : decode cX4_load 30 = .ok (.iadd, 1) := by decide +kernel
theorem dX4_load_31 : decode cX4_load 31 = .ok (.iaload, 1) := by decide +kernel
theorem dX4_load_32 : decode cX4_load 32 = .ok (.bipush 10, 2) := by decide +kernel
theorem dX4_load_34 : decode cX4_load 34 = .ok (.idiv, 1) := by decide +kernel
theorem dX4_load_35 : decode cX4_load 35 = .ok (.iastore, 1) := by decide +kernel
theorem dX4_load_36 : decode cX4_load 36 = .ok (.aload_n 0, 1) := by decide +kernel
theorem dX4_load_37 : decode cX4_load 37 = .ok (.getfield 15, 3) := by decide +kernel
theorem dX4_load_40 : decode cX4_load 40 = .ok (.iload_n 3, 1) := by decide +kernel
theorem dX4_load_41 : decode cX4_load 41 = .ok (.aload_n 1, 1) := by decide +kernel
theorem dX4_load_42 : decode cX4_load 42 = .ok (.iload_n 2, 1) := by decide +kernel
theorem dX4_load_43 : decode cX4_load 43 = .ok (.iload_n 3, 1) := by decide +kernel
theorem dX4_load_44 : decode cX4_load 44 = .ok (.iadd, 1) := by decide +kernel
theorem dX4_load_45 : decode cX4_load 45 = .ok (.iaload, 1) := by decide +kernel
theorem dX4_load_46 : decode cX4_load 46 = .ok (.bipush 10, 2) := by decide +kernel
theorem dX4_load_48 : decode cX4_load 48 = .ok (.irem, 1) := by decide +kernel
theorem dX4_load_49 : decode cX4_load 49 = .ok (.iastore, 1) := by decide +kernel
theorem dX4_load_50 : decode cX4_load 50 = .ok (.iinc 3 1, 3) := by decide +kernel
theorem dX4_load_53 : decode cX4_load 53 = .ok (.goto (-37), 3) := by decide +kernel
theorem dX4_load_56 : decode cX4_load 56 = .ok (.iconst 0, 1) := by decide +kernel
theorem dX4_load_57 : decode cX4_load 57 = .ok (.istore_n 3, 1) := by decide +kernel
theorem dX4_load_58 : decode cX4_load 58 = .ok (.iload_n 3, 1) := by decide +kernel
theorem dX4_load_59 : decode cX4_load 59 = .ok (.bipush 8, 2) := by decide +kernel
theorem dX4_load_61 : decode cX4_load 61 = .ok (.if_icmp .ge 43, 3) := by decide +kernel
theorem dX4_load_64 : decode cX4_load 64 = .ok (.aload_n 0, 1) := by decide +kernel
theorem dX4_load_65 : decode cX4_load 65 = .ok (.getfield 21, 3) := by decide +kernel
theorem dX4_load_68 : decode cX4_load 68 = .ok (.iload_n 3, 1) := by decide +kernel
theorem dX4_load_69 : decode cX4_load 69 = .ok (.aload_n 1, 1) := by decide +kernel
theorem dX4_load_70 : decode cX4_load 70 = .ok (.iload_n 2, 1) := by decide +kernel
theorem dX4_load_71 : decode cX4_load 71 = .ok (.bipush 16, 2) := by decide +kernel
theorem dX4_load_73 : decode cX4_load 73 = .ok (.iadd, 1) := by decide +kernel
theorem dX4_load_74 : decode cX4_load 74 = .ok (.iload_n 3, 1) := by decide +kernel
theorem dX4_load_75 : decode cX4_load 75 = .ok (.iadd, 1) := by decide +kernel
theorem dX4_load_76 : decode cX4_load 76 = .ok (.iaload, 1) := by decide +kernel
theorem dX4_load_77 : decode cX4_load 77 = .ok (.bipush 100, 2) := by decide +kernel
theorem dX4_load_79 : decode cX4_load 79 = .ok (.idiv, 1) := by decide +kernel
theorem dX4_load_80 : decode cX4_load 80 = .ok (.iastore, 1) := by decide +kernel
theorem dX4_load_81 : decode cX4_load 81 = .ok (.aload_n 0, 1) := by decide +kernel
theorem dX4_load_82 : decode cX4_load 82 = .ok (.getfield 18, 3) := by decide +kernel
theorem dX4_load_85 : decode cX4_load 85 = .ok (.iload_n 3, 1) := by decide +kernel
theorem dX4_load_86 : decode cX4_load 86 = .ok (.aload_n 1, 1) := by decide +kernel
theorem dX4_load_87 : decode cX4_load 87 = .ok (.iload_n 2, 1) := by decide +kernel
theorem dX4_load_88 : decode cX4_load 88 = .ok (.bipush 16, 2) := by decide +kernel
theorem dX4_load_90 : decode cX4_load 90 = .ok (.iadd, 1) := by decide +kernel
theorem dX4_load_91 : decode cX4_load 91 = .ok (.iload_n 3, 1) := by decide +kernel
theorem dX4_load_92 : decode cX4_load 92 = .ok (.iadd, 1) := by decide +kernel
theorem dX4_load_93 : decode cX4_load 93 = .ok (.iaload, 1) := by decide +kernel
theorem dX4_load_94 : decode cX4_load 94 = .ok (.bipush 100, 2) := by decide +kernel
theorem dX4_load_96 : decode cX4_load 96 = .ok (.irem, 1) := by decide +kernel
theorem dX4_load_97 : decode cX4_load 97 = .ok (.iastore, 1) := by decide +kernel
theorem dX4_load_98 : decode cX4_load 98 = .ok (.iinc 3 1, 3) := by decide +kernel
theorem dX4_load_101 : decode cX4_load 101 = .ok (.goto (-43), 3) := by decide +kernel
theorem dX4_load_104 : decode cX4_load 104 = .ok (.iload_n 2, 1) := by decide +kernel
theorem dX4_load_105 : decode cX4_load 105 = .ok (.bipush 16, 2) := by decide +kernel
theorem dX4_load_107 : decode cX4_load 107 = .ok (.iadd, 1) := by decide +kernel
theorem dX4_load_108 : decode cX4_load 108 = .ok (.bipush 8, 2) := by decide +kernel
theorem dX4_load_110 : decode cX4_load 110 = .ok (.iadd, 1) := by decide +kernel
theorem dX4_load_111 : decode cX4_load 111 = .ok (.istore_n 3, 1) := by decide +kernel
theorem dX4_load_112 : decode cX4_load 112 = .ok (.aload_n 0, 1) := by decide +kernel
theorem dX4_load_113 : decode cX4_load 113 = .ok (.aload_n 1, 1) := by decide +kernel
theorem dX4_load_114 : decode cX4_load 114 = .ok (.iload_n 3, 1) := by decide +kernel
theorem dX4_load_115 : decode cX4_load 115 = .ok (.iaload, 1) := by decide +kernel
theorem dX4_load_116 : decode cX4_load 116 = .ok (.putfield 27, 3) := by decide +kernel
theorem dX4_load_119 : decode cX4_load 119 = .ok (.aload_n 0, 1) := by decide +kernel
theorem dX4_load_120 : decode cX4_load 120 = .ok (.aload_n 1, 1) := by decide +kernel
theorem dX4_load_121 : decode cX4_load 121 = .ok (.iload_n 3, 1) := by decide +kernel
theorem dX4_load_122 : decode cX4_load 122 = .ok (.iconst 1, 1) := by decide +kernel
theorem dX4_load_123 : decode cX4_load 123 = .ok (.iadd, 1) := by decide +kernel
theorem dX4_load_124 : decode cX4_load 124 = .ok (.iaload, 1) := by decide +kernel
theorem dX4_load_125 : decode cX4_load 125 = .ok (.putfield 31, 3) := by decide +kernel
theorem dX4_load_128 : decode cX4_load 128 = .ok (.aload_n 0, 1) := by decide +kernel
theorem dX4_load_129 : decode cX4_load 129 = .ok (.aload_n 1, 1) := by decide +kernel
theorem dX4_load_130 : decode cX4_load 130 = .ok (.iload_n 3, 1) := by decide +kernel
theorem dX4_load_131 : decode cX4_load 131 = .ok (.iconst 2, 1) := by decide +kernel
theorem dX4_load_132 : decode cX4_load 132 = .ok (.iadd, 1) := by decide +kernel
theorem dX4_load_133 : decode cX4_load 133 = .ok (.iaload, 1) := by decide +kernel
theorem dX4_load_134 : decode cX4_load 134 = .ok (.putfield 37, 3) := by decide +kernel
theorem dX4_load_137 : decode cX4_load 137 = .ok (.aload_n 0, 1) := by decide +kernel
theorem dX4_load_138 : decode cX4_load 138 = .ok (.aload_n 1, 1) := by decide +kernel
theorem dX4_load_139 : decode cX4_load 139 = .ok (.iload_n 3, 1) := by decide +kernel
theorem dX4_load_140 : decode cX4_load 140 = .ok (.iconst 3, 1) := by decide +kernel
theorem dX4_load_141 : decode cX4_load 141 = .ok (.iadd, 1) := by decide +kernel
theorem dX4_load_142 : decode cX4_load 142 = .ok (.iaload, 1) := by decide +kernel
theorem dX4_load_143 : decode cX4_load 143 = .ok (.putfield 40, 3) := by decide +kernel
theorem dX4_load_146 : decode cX4_load 146 = .ok (.aload_n 0, 1) := by decide +kernel
theorem dX4_load_147 : decode cX4_load 147 = .ok (.aload_n 1, 1) := by decide +kernel
theorem dX4_load_148 : decode cX4_load 148 = .ok (.iload_n 3, 1) := by decide +kernel
theorem dX4_load_149 : decode cX4_load 149 = .ok (.iconst 4, 1) := by decide +kernel
theorem dX4_load_150 : decode cX4_load 150 = .ok (.iadd, 1) := by decide +kernel
theorem dX4_load_151 : decode cX4_load 151 = .ok (.iaload, 1) := by decide +kernel
theorem dX4_load_152 : decode cX4_load 152 = .ok (.putfield 43, 3) := by decide +kernel
theorem dX4_load_155 : decode cX4_load 155 = .ok (.aload_n 0, 1) := by decide +kernel
theorem dX4_load_156 : decode cX4_load 156 = .ok (.aload_n 1, 1) := by decide +kernel
theorem dX4_load_157 : decode cX4_load 157 = .ok (.iload_n 3, 1) := by decide +kernel
theorem dX4_load_158 : decode cX4_load 158 = .ok (.iconst 5, 1) := by decide +kernel
theorem dX4_load_159 : decode cX4_load 159 = .ok (.iadd, 1) := by decide +kernel
theorem dX4_load_160 : decode cX4_load 160 = .ok (.iaload, 1) := by decide +kernel
theorem dX4_load_161 : decode cX4_load 161 = .ok (.putfield 46, 3) := by decide +kernel
theorem dX4_load_164 : decode cX4_load 164 = .ok (.return_, 1) := by decide +kernel
theorem dX4_addCourse_0 : decode cX4_addCourse 0 = .ok (.aload_n 0, 1) := by decide +kernel
theorem dX4_addCourse_1 : decode cX4_addCourse 1 = .ok (.getfield 27, 3) := by decide +kernel
theorem dX4_addCourse_4 : decode cX4_addCourse 4 = .ok (.bipush 16, 2) := by decide +kernel
theorem dX4_addCourse_6 : decode cX4_addCourse 6 = .ok (.if_icmp .lt 4, 3) := by decide +kernel
theorem dX4_addCourse_9 : decode cX4_addCourse 9 = .ok (.return_, 1) := by decide +kernel
theorem dX4_addCourse_10 : decode cX4_addCourse 10 = .ok (.iload_n 3, 1) := by decide +kernel
theorem dX4_addCourse_11 : decode cX4_addCourse 11 = .ok (.ifCond .eq 10, 3) := by decide +kernel
theorem dX4_addCourse_14 : decode cX4_addCourse 14 = .ok (.aload_n 0, 1) := by decide +kernel
theorem dX4_addCourse_15 : decode cX4_addCourse 15 = .ok (.getfield 31, 3) := by decide +kernel
theorem dX4_addCourse_18 : decode cX4_addCourse 18 = .ok (.goto 7, 3) := by decide +kernel
theorem dX4_addCourse_21 : decode cX4_addCourse 21 = .ok (.aload_n 0, 1) := by decide +kernel
theorem dX4_addCourse_22 : decode cX4_addCourse 22 = .ok (.getfield 27, 3) := by decide +kernel
theorem dX4_addCourse_25 : decode cX4_addCourse 25 = .ok (.istore 4, 2) := by decide +kernel
theorem dX4_addCourse_27 : decode cX4_addCourse 27 = .ok (.aload_n 0, 1) := by decide +kernel
theorem dX4_addCourse_28 : decode cX4_addCourse 28 = .ok (.getfield 27, 3) := by decide +kernel
theorem dX4_addCourse_31 : decode cX4_addCourse 31 = .ok (.istore 5, 2) := by decide +kernel
theorem dX4_addCourse_33 : decode cX4_addCourse 33 = .ok (.iload 5, 2) := by decide +kernel
theorem dX4_addCourse_35 : decode cX4_addCourse 35 = .ok (.iload 4, 2) := by decide +kernel
theorem dX4_addCourse_37 : decode cX4_addCourse 37 = .ok (.if_icmp .le 41, 3) := by decide +kernel
theorem dX4_addCourse_40 : decode cX4_addCourse 40 = .ok (.aload_n 0, 1) := by decide +kernel
theorem dX4_addCourse_41 : decode cX4_addCourse 41 = .ok (.getfield 9, 3) := by decide +kernel
theorem dX4_addCourse_44 : decode cX4_addCourse 44 = .ok (.iload 5, 2) := by decide +kernel
theorem dX4_addCourse_46 : decode cX4_addCourse 46 = .ok (.aload_n 0, 1) := by decide +kernel
theorem dX4_addCourse_47 : decode cX4_addCourse 47 = .ok (.getfield 9, 3) := by decide +kernel
theorem dX4_addCourse_50 : decode cX4_addCourse 50 = .ok (.iload 5, 2) := by decide +kernel
theorem dX4_addCourse_52 : decode cX4_addCourse 52 = .ok (.iconst 1, 1) := by decide +kernel
theorem dX4_addCourse_53 : decode cX4_addCourse 53 = .ok (.isub, 1) := by decide +kernel
theorem dX4_addCourse_54 : decode cX4_addCourse 54 = .ok (.iaload, 1) := by decide +kernel
theorem dX4_addCourse_55 : decode cX4_addCourse 55 = .ok (.iastore, 1) := by decide +kernel
theorem dX4_addCourse_56 : decode cX4_addCourse 56 = .ok (.aload_n 0, 1) := by decide +kernel
theorem dX4_addCourse_57 : decode cX4_addCourse 57 = .ok (.getfield 15, 3) := by decide +kernel
theorem dX4_addCourse_60 : decode cX4_addCourse 60 = .ok (.iload 5, 2) := by decide +kernel
theorem dX4_addCourse_62 : decode cX4_addCourse 62 = .ok (.aload_n 0, 1) := by decide +kernel
theorem dX4_addCourse_63 : decode cX4_addCourse 63 = .ok (.getfield 15, 3) := by decide +kernel
theorem dX4_addCourse_66 : decode cX4_addCourse 66 = .ok (.iload 5, 2) := by decide +kernel
theorem dX4_addCourse_68 : decode cX4_addCourse 68 = .ok (.iconst 1, 1) := by decide +kernel
theorem dX4_addCourse_69 : decode cX4_addCourse 69 = .ok (.isub, 1) := by decide +kernel
theorem dX4_addCourse_70 : decode cX4_addCourse 70 = .ok (.iaload, 1) := by decide +kernel
theorem dX4_addCourse_71 : decode cX4_addCourse 71 = .ok (.iastore, 1) := by decide +kernel
theorem dX4_addCourse_72 : decode cX4_addCourse 72 = .ok (.iinc 5 (-1), 3) := by decide +kernel
theorem dX4_addCourse_75 : decode cX4_addCourse 75 = .ok (.goto (-42), 3) := by decide +kernel
theorem dX4_addCourse_78 : decode cX4_addCourse 78 = .ok (.aload_n 0, 1) := by decide +kernel
theorem dX4_addCourse_79 : decode cX4_addCourse 79 = .ok (.getfield 9, 3) := by decide +kernel
theorem dX4_addCourse_82 : decode cX4_addCourse 82 = .ok (.iload 4, 2) := by decide +kernel
theorem dX4_addCourse_84 : decode cX4_addCourse 84 = .ok (.iload_n 1, 1) := by decide +kernel
theorem dX4_addCourse_85 : decode cX4_addCourse 85 = .ok (.iastore, 1) := by decide +kernel
theorem dX4_addCourse_86 : decode cX4_addCourse 86 = .ok (.aload_n 0, 1) := by decide +kernel
theorem dX4_addCourse_87 : decode cX4_addCourse 87 = .ok (.getfield 15, 3) := by decide +kernel
theorem dX4_addCourse_90 : decode cX4_addCourse 90 = .ok (.iload 4, 2) := by decide +kernel
theorem dX4_addCourse_92 : decode cX4_addCourse 92 = .ok (.iload_n 2, 1) := by decide +kernel
theorem dX4_addCourse_93 : decode cX4_addCourse 93 = .ok (.iastore, 1) := by decide +kernel
theorem dX4_addCourse_94 : decode cX4_addCourse 94 = .ok (.aload_n 0, 1) := by decide +kernel
theorem dX4_addCourse_95 : decode cX4_addCourse 95 = .ok (.dup, 1) := by decide +kernel
theorem dX4_addCourse_96 : decode cX4_addCourse 96 = .ok (.getfield 27, 3) := by decide +kernel
theorem dX4_addCourse_99 : decode cX4_addCourse 99 = .ok (.iconst 1, 1) := by decide +kernel
theorem dX4_addCourse_100 : decode cX4_addCourse 100 = .ok (.iadd, 1) := by decide +kernel
theorem dX4_addCourse_101 : decode cX4_addCourse 101 = .ok (.putfield 27, 3) := by decide +kernel
theorem dX4_addCourse_104 : decode cX4_addCourse 104 = .ok (.aload_n 0, 1) := by decide +kernel
theorem dX4_addCourse_105 : decode cX4_addCourse 105 = .ok (.dup, 1) := by decide +kernel
theorem dX4_addCourse_106 : decode cX4_addCourse 106 = .ok (.getfield 31, 3) := by decide +kernel
theorem dX4_addCourse_109 : decode cX4_addCourse 109 = .ok (.iload_n 3, 1) := by decide +kernel
theorem dX4_addCourse_110 : decode cX4_addCourse 110 = .ok (.ifCond .eq 7, 3) := by decide +kernel
theorem dX4_addCourse_113 : decode cX4_addCourse 113 = .ok (.iconst 1, 1) := by decide +kernel
theorem dX4_addCourse_114 : decode cX4_addCourse 114 = .ok (.goto 4, 3) := by decide +kernel
theorem dX4_addCourse_117 : decode cX4_addCourse 117 = .ok (.iconst 0, 1) := by decide +kernel
theorem dX4_addCourse_118 : decode cX4_addCourse 118 = .ok (.iadd, 1) := by decide +kernel
theorem dX4_addCourse_119 : decode cX4_addCourse 119 = .ok (.putfield 31, 3) := by decide +kernel
theorem dX4_addCourse_122 : decode cX4_addCourse 122 = .ok (.return_, 1) := by decide +kernel
theorem dX4_addWard_0 : decode cX4_addWard 0 = .ok (.aload_n 0, 1) := by decide +kernel
theorem dX4_addWard_1 : decode cX4_addWard 1 = .ok (.getfield 34, 3) := by decide +kernel
theorem dX4_addWard_4 : decode cX4_addWard 4 = .ok (.bipush 8, 2) := by decide +kernel
theorem dX4_addWard_6 : decode cX4_addWard 6 = .ok (.if_icmp .ge 23, 3) := by decide +kernel
theorem dX4_addWard_9 : decode cX4_addWard 9 = .ok (.aload_n 0, 1) := by decide +kernel
theorem dX4_addWard_10 : decode cX4_addWard 10 = .ok (.getfield 18, 3) := by decide +kernel
theorem dX4_addWard_13 : decode cX4_addWard 13 = .ok (.aload_n 0, 1) := by decide +kernel
theorem dX4_addWard_14 : decode cX4_addWard 14 = .ok (.getfield 34, 3) := by decide +kernel
theorem dX4_addWard_17 : decode cX4_addWard 17 = .ok (.iload_n 1, 1) := by decide +kernel
theorem dX4_addWard_18 : decode cX4_addWard 18 = .ok (.iastore, 1) := by decide +kernel
theorem dX4_addWard_19 : decode cX4_addWard 19 = .ok (.aload_n 0, 1) := by decide +kernel
theorem dX4_addWard_20 : decode cX4_addWard 20 = .ok (.dup, 1) := by decide +kernel
theorem dX4_addWard_21 : decode cX4_addWard 21 = .ok (.getfield 34, 3) := by decide +kernel
theorem dX4_addWard_24 : decode cX4_addWard 24 = .ok (.iconst 1, 1) := by decide +kernel
theorem dX4_addWard_25 : decode cX4_addWard 25 = .ok (.iadd, 1) := by decide +kernel
theorem dX4_addWard_26 : decode cX4_addWard 26 = .ok (.putfield 34, 3) := by decide +kernel
theorem dX4_addWard_29 : decode cX4_addWard 29 = .ok (.return_, 1) := by decide +kernel
theorem dX4_isStreet_0 : decode cX4_isStreet 0 = .ok (.aload_n 0, 1) := by decide +kernel
theorem dX4_isStreet_1 : decode cX4_isStreet 1 = .ok (.getfield 21, 3) := by decide +kernel
theorem dX4_isStreet_4 : decode cX4_isStreet 4 = .ok (.iload_n 1, 1) := by decide +kernel
theorem dX4_isStreet_5 : decode cX4_isStreet 5 = .ok (.iaload, 1) := by decide +kernel
theorem dX4_isStreet_6 : decode cX4_isStreet 6 = .ok (.iload_n 2, 1) := by decide +kernel
theorem dX4_isStreet_7 : decode cX4_isStreet 7 = .ok (.ishr, 1) := by decide +kernel
theorem dX4_isStreet_8 : decode cX4_isStreet 8 = .ok (.iconst 1, 1) := by decide +kernel
theorem dX4_isStreet_9 : decode cX4_isStreet 9 = .ok (.iand, 1) := by decide +kernel
theorem dX4_isStreet_10 : decode cX4_isStreet 10 = .ok (.iconst 1, 1) := by decide +kernel
theorem dX4_isStreet_11 : decode cX4_isStreet 11 = .ok (.if_icmp .ne 7, 3) := by decide +kernel
theorem dX4_isStreet_14 : decode cX4_isStreet 14 = .ok (.iconst 1, 1) := by decide +kernel
theorem dX4_isStreet_15 : decode cX4_isStreet 15 = .ok (.goto 4, 3) := by decide +kernel
theorem dX4_isStreet_18 : decode cX4_isStreet 18 = .ok (.iconst 0, 1) := by decide +kernel
theorem dX4_isStreet_19 : decode cX4_isStreet 19 = .ok (.ireturn, 1) := by decide +kernel
theorem dX4_turnStreet_0 : decode cX4_turnStreet 0 = .ok (.aload_n 0, 1) := by decide +kernel
theorem dX4_turnStreet_1 : decode cX4_turnStreet 1 = .ok (.getfield 21, 3) := by decide +kernel
theorem dX4_turnStreet_4 : decode cX4_turnStreet 4 = .ok (.iload_n 1, 1) := by decide +kernel
theorem dX4_turnStreet_5 : decode cX4_turnStreet 5 = .ok (.dup2, 1) := by decide +kernel
theorem dX4_turnStreet_6 : decode cX4_turnStreet 6 = .ok (.iaload, 1) := by decide +kernel
theorem dX4_turnStreet_7 : decode cX4_turnStreet 7 = .ok (.iconst 1, 1) := by decide +kernel
theorem dX4_turnStreet_8 : decode cX4_turnStreet 8 = .ok (.iload_n 2, 1) := by decide +kernel
theorem dX4_turnStreet_9 : decode cX4_turnStreet 9 = .ok (.ishl, 1) := by decide +kernel
theorem dX4_turnStreet_10 : decode cX4_turnStreet 10 = .ok (.ixor, 1) := by decide +kernel
theorem dX4_turnStreet_11 : decode cX4_turnStreet 11 = .ok (.iastore, 1) := by decide +kernel
theorem dX4_turnStreet_12 : decode cX4_turnStreet 12 = .ok (.aload_n 0, 1) := by decide +kernel
theorem dX4_turnStreet_13 : decode cX4_turnStreet 13 = .ok (.getfield 21, 3) := by decide +kernel
theorem dX4_turnStreet_16 : decode cX4_turnStreet 16 = .ok (.iload_n 2, 1) := by decide +kernel
theorem dX4_turnStreet_17 : decode cX4_turnStreet 17 = .ok (.dup2, 1) := by decide +kernel
theorem dX4_turnStreet_18 : decode cX4_turnStreet 18 = .ok (.iaload, 1) := by decide +kernel
theorem dX4_turnStreet_19 : decode cX4_turnStreet 19 = .ok (.iconst 1, 1) := by decide +kernel
theorem dX4_turnStreet_20 : decode cX4_turnStreet 20 = .ok (.iload_n 1, 1) := by decide +kernel
theorem dX4_turnStreet_21 : decode cX4_turnStreet 21 = .ok (.ishl, 1) := by decide +kernel
theorem dX4_turnStreet_22 : decode cX4_turnStreet 22 = .ok (.ixor, 1) := by decide +kernel
theorem dX4_turnStreet_23 : decode cX4_turnStreet 23 = .ok (.iastore, 1) := by decide +kernel
theorem dX4_turnStreet_24 : decode cX4_turnStreet 24 = .ok (.return_, 1) := by decide +kernel
theorem dX4_receive_0 : decode cX4_receive 0 = .ok (.aload_n 0, 1) := by decide +kernel
theorem dX4_receive_1 : decode cX4_receive 1 = .ok (.sipush 999, 3) := by decide +kernel
theorem dX4_receive_4 : decode cX4_receive 4 = .ok (.aload_n 0, 1) := by decide +kernel
theorem dX4_receive_5 : decode cX4_receive 5 = .ok (.getfield 40, 3) := by decide +kernel
theorem dX4_receive_8 : decode cX4_receive 8 = .ok (.iload_n 1, 1) := by decide +kernel
theorem dX4_receive_9 : decode cX4_receive 9 = .ok (.iadd, 1) := by decide +kernel
theorem dX4_receive_10 : decode cX4_receive 10 = .ok (.invokestatic 61, 3) := by decide +kernel
theorem dX4_receive_13 : decode cX4_receive 13 = .ok (.putfield 40, 3) := by decide +kernel
theorem dX4_receive_16 : decode cX4_receive 16 = .ok (.return_, 1) := by decide +kernel
theorem dX4_addFaith_0 : decode cX4_addFaith 0 = .ok (.aload_n 0, 1) := by decide +kernel
theorem dX4_addFaith_1 : decode cX4_addFaith 1 = .ok (.getfield 18, 3) := by decide +kernel
theorem dX4_addFaith_4 : decode cX4_addFaith 4 = .ok (.iload_n 1, 1) := by decide +kernel
theorem dX4_addFaith_5 : decode cX4_addFaith 5 = .ok (.aload_n 0, 1) := by decide +kernel
theorem dX4_addFaith_6 : decode cX4_addFaith 6 = .ok (.getfield 18, 3) := by decide +kernel
theorem dX4_addFaith_9 : decode cX4_addFaith 9 = .ok (.iload_n 1, 1) := by decide +kernel
theorem dX4_addFaith_10 : decode cX4_addFaith 10 = .ok (.iaload, 1) := by decide +kernel
theorem dX4_addFaith_11 : decode cX4_addFaith 11 = .ok (.iload_n 2, 1) := by decide +kernel
theorem dX4_addFaith_12 : decode cX4_addFaith 12 = .ok (.iadd, 1) := by decide +kernel
theorem dX4_addFaith_13 : decode cX4_addFaith 13 = .ok (.iconst 0, 1) := by decide +kernel
theorem dX4_addFaith_14 : decode cX4_addFaith 14 = .ok (.bipush 99, 2) := by decide +kernel
theorem dX4_addFaith_16 : decode cX4_addFaith 16 = .ok (.invokestatic 67, 3) := by decide +kernel
theorem dX4_addFaith_19 : decode cX4_addFaith 19 = .ok (.iastore, 1) := by decide +kernel
theorem dX4_addFaith_20 : decode cX4_addFaith 20 = .ok (.return_, 1) := by decide +kernel
theorem dX4_weightHung_0 : decode cX4_weightHung 0 = .ok (.iconst 0, 1) := by decide +kernel
theorem dX4_weightHung_1 : decode cX4_weightHung 1 = .ok (.istore_n 1, 1) := by decide +kernel
theorem dX4_weightHung_2 : decode cX4_weightHung 2 = .ok (.iconst 0, 1) := by decide +kernel
theorem dX4_weightHung_3 : decode cX4_weightHung 3 = .ok (.istore_n 2, 1) := by decide +kernel
theorem dX4_weightHung_4 : decode cX4_weightHung 4 = .ok (.iload_n 2, 1) := by decide +kernel
theorem dX4_weightHung_5 : decode cX4_weightHung 5 = .ok (.aload_n 0, 1) := by decide +kernel
theorem dX4_weightHung_6 : decode cX4_weightHung 6 = .ok (.getfield 31, 3) := by decide +kernel
theorem dX4_weightHung_9 : decode cX4_weightHung 9 = .ok (.if_icmp .ge 18, 3) := by decide +kernel
theorem dX4_weightHung_12 : decode cX4_weightHung 12 = .ok (.iload_n 1, 1) := by decide +kernel
theorem dX4_weightHung_13 : decode cX4_weightHung 13 = .ok (.aload_n 0, 1) := by decide +kernel
theorem dX4_weightHung_14 : decode cX4_weightHung 14 = .ok (.getfield 9, 3) := by decide +kernel
theorem dX4_weightHung_17 : decode cX4_weightHung 17 = .ok (.iload_n 2, 1) := by decide +kernel
theorem dX4_weightHung_18 : decode cX4_weightHung 18 = .ok (.iaload, 1) := by decide +kernel
theorem dX4_weightHung_19 : decode cX4_weightHung 19 = .ok (.iadd, 1) := by decide +kernel
theorem dX4_weightHung_20 : decode cX4_weightHung 20 = .ok (.istore_n 1, 1) := by decide +kernel
theorem dX4_weightHung_21 : decode cX4_weightHung 21 = .ok (.iinc 2 1, 3) := by decide +kernel
theorem dX4_weightHung_24 : decode cX4_weightHung 24 = .ok (.goto (-20), 3) := by decide +kernel
theorem dX4_weightHung_27 : decode cX4_weightHung 27 = .ok (.iload_n 1, 1) := by decide +kernel
theorem dX4_weightHung_28 : decode cX4_weightHung 28 = .ok (.ireturn, 1) := by decide +kernel
theorem dX4_mortarHung_0 : decode cX4_mortarHung 0 = .ok (.iconst 0, 1) := by decide +kernel
theorem dX4_mortarHung_1 : decode cX4_mortarHung 1 = .ok (.istore_n 1, 1) := by decide +kernel
theorem dX4_mortarHung_2 : decode cX4_mortarHung 2 = .ok (.iconst 0, 1) := by decide +kernel
theorem dX4_mortarHung_3 : decode cX4_mortarHung 3 = .ok (.istore_n 2, 1) := by decide +kernel
theorem dX4_mortarHung_4 : decode cX4_mortarHung 4 = .ok (.iload_n 2, 1) := by decide +kernel
theorem dX4_mortarHung_5 : decode cX4_mortarHung 5 = .ok (.aload_n 0, 1) := by decide +kernel
theorem dX4_mortarHung_6 : decode cX4_mortarHung 6 = .ok (.getfield 31, 3) := by decide +kernel
theorem dX4_mortarHung_9 : decode cX4_mortarHung 9 = .ok (.if_icmp .ge 18, 3) := by decide +kernel
theorem dX4_mortarHung_12 : decode cX4_mortarHung 12 = .ok (.iload_n 1, 1) := by decide +kernel
theorem dX4_mortarHung_13 : decode cX4_mortarHung 13 = .ok (.aload_n 0, 1) := by decide +kernel
theorem dX4_mortarHung_14 : decode cX4_mortarHung 14 = .ok (.getfield 15, 3) := by decide +kernel
theorem dX4_mortarHung_17 : decode cX4_mortarHung 17 = .ok (.iload_n 2, 1) := by decide +kernel
theorem dX4_mortarHung_18 : decode cX4_mortarHung 18 = .ok (.iaload, 1) := by decide +kernel
theorem dX4_mortarHung_19 : decode cX4_mortarHung 19 = .ok (.iadd, 1) := by decide +kernel
theorem dX4_mortarHung_20 : decode cX4_mortarHung 20 = .ok (.istore_n 1, 1) := by decide +kernel
theorem dX4_mortarHung_21 : decode cX4_mortarHung 21 = .ok (.iinc 2 1, 3) := by decide +kernel
theorem dX4_mortarHung_24 : decode cX4_mortarHung 24 = .ok (.goto (-20), 3) := by decide +kernel
theorem dX4_mortarHung_27 : decode cX4_mortarHung 27 = .ok (.iload_n 1, 1) := by decide +kernel
theorem dX4_mortarHung_28 : decode cX4_mortarHung 28 = .ok (.ireturn, 1) := by decide +kernel
theorem dX4_faithTogether_0 : decode cX4_faithTogether 0 = .ok (.iconst 0, 1) := by decide +kernel
theorem dX4_faithTogether_1 : decode cX4_faithTogether 1 = .ok (.istore_n 1, 1) := by decide +kernel
theorem dX4_faithTogether_2 : decode cX4_faithTogether 2 = .ok (.iconst 0, 1) := by decide +kernel
theorem dX4_faithTogether_3 : decode cX4_faithTogether 3 = .ok (.istore_n 2, 1) := by decide +kernel
theorem dX4_faithTogether_4 : decode cX4_faithTogether 4 = .ok (.iload_n 2, 1) := by decide +kernel
theorem dX4_faithTogether_5 : decode cX4_faithTogether 5 = .ok (.aload_n 0, 1) := by decide +kernel
theorem dX4_faithTogether_6 : decode cX4_faithTogether 6 = .ok (.getfield 34, 3) := by decide +kernel
theorem dX4_faithTogether_9 : decode cX4_faithTogether 9 = .ok (.if_icmp .ge 18, 3) := by decide +kernel
theorem dX4_faithTogether_12 : decode cX4_faithTogether 12 = .ok (.iload_n 1, 1) := by decide +kernel
theorem dX4_faithTogether_13 : decode cX4_faithTogether 13 = .ok (.aload_n 0, 1) := by decide +kernel
theorem dX4_faithTogether_14 : decode cX4_faithTogether 14 = .ok (.getfield 18, 3) := by decide +kernel
theorem dX4_faithTogether_17 : decode cX4_faithTogether 17 = .ok (.iload_n 2, 1) := by decide +kernel
theorem dX4_faithTogether_18 : decode cX4_faithTogether 18 = .ok (.iaload, 1) := by decide +kernel
theorem dX4_faithTogether_19 : decode cX4_faithTogether 19 = .ok (.iadd, 1) := by decide +kernel
theorem dX4_faithTogether_20 : decode cX4_faithTogether 20 = .ok (.istore_n 1, 1) := by decide +kernel
theorem dX4_faithTogether_21 : decode cX4_faithTogether 21 = .ok (.iinc 2 1, 3) := by decide +kernel
theorem dX4_faithTogether_24 : decode cX4_faithTogether 24 = .ok (.goto (-20), 3) := by decide +kernel
theorem dX4_faithTogether_27 : decode cX4_faithTogether 27 = .ok (.iload_n 1, 1) := by decide +kernel
theorem dX4_faithTogether_28 : decode cX4_faithTogether 28 = .ok (.ireturn, 1) := by decide +kernel
theorem dX4_gaveTogether_0 : decode cX4_gaveTogether 0 = .ok (.iconst 0, 1) := by decide +kernel
theorem dX4_gaveTogether_1 : decode cX4_gaveTogether 1 = .ok (.istore_n 1, 1) := by decide +kernel
theorem dX4_gaveTogether_2 : decode cX4_gaveTogether 2 = .ok (.iconst 0, 1) := by decide +kernel
theorem dX4_gaveTogether_3 : decode cX4_gaveTogether 3 = .ok (.istore_n 2, 1) := by decide +kernel
theorem dX4_gaveTogether_4 : decode cX4_gaveTogether 4 = .ok (.iload_n 2, 1) := by decide +kernel
theorem dX4_gaveTogether_5 : decode cX4_gaveTogether 5 = .ok (.aload_n 0, 1) := by decide +kernel
theorem dX4_gaveTogether_6 : decode cX4_gaveTogether 6 = .ok (.getfield 34, 3) := by decide +kernel
theorem dX4_gaveTogether_9 : decode cX4_gaveTogether 9 = .ok (.if_icmp .ge 18, 3) := by decide +kernel
theorem dX4_gaveTogether_12 : decode cX4_gaveTogether 12 = .ok (.iload_n 1, 1) := by decide +kernel
theorem dX4_gaveTogether_13 : decode cX4_gaveTogether 13 = .ok (.aload_n 0, 1) := by decide +kernel
theorem dX4_gaveTogether_14 : decode cX4_gaveTogether 14 = .ok (.getfield 24, 3) := by decide +kernel
theorem dX4_gaveTogether_17 : decode cX4_gaveTogether 17 = .ok (.iload_n 2, 1) := by decide +kernel
theorem dX4_gaveTogether_18 : decode cX4_gaveTogether 18 = .ok (.iaload, 1) := by decide +kernel
theorem dX4_gaveTogether_19 : decode cX4_gaveTogether 19 = .ok (.iadd, 1) := by decide +kernel
theorem dX4_gaveTogether_20 : decode cX4_gaveTogether 20 = .ok (.istore_n 1, 1) := by decide +kernel
theorem dX4_gaveTogether_21 : decode cX4_gaveTogether 21 = .ok (.iinc 2 1, 3) := by decide +kernel
theorem dX4_gaveTogether_24 : decode cX4_gaveTogether 24 = .ok (.goto (-20), 3) := by decide +kernel
theorem dX4_gaveTogether_27 : decode cX4_gaveTogether 27 = .ok (.iload_n 1, 1) := by decide +kernel
theorem dX4_gaveTogether_28 : decode cX4_gaveTogether 28 = .ok (.ireturn, 1) := by decide +kernel
theorem dX4_strength_0 : decode cX4_strength 0 = .ok (.aload_n 0, 1) := by decide +kernel
theorem dX4_strength_1 : decode cX4_strength 1 = .ok (.invokevirtual 71, 3) := by decide +kernel
theorem dX4_strength_4 : decode cX4_strength 4 = .ok (.bipush 10, 2) := by decide +kernel
theorem dX4_strength_6 : decode cX4_strength 6 = .ok (.idiv, 1) := by decide +kernel
theorem dX4_strength_7 : decode cX4_strength 7 = .ok (.aload_n 0, 1) := by decide +kernel
theorem dX4_strength_8 : decode cX4_strength 8 = .ok (.invokevirtual 75, 3) := by decide +kernel
theorem dX4_strength_11 : decode cX4_strength 11 = .ok (.iadd, 1) := by decide +kernel
theorem dX4_strength_12 : decode cX4_strength 12 = .ok (.ireturn, 1) := by decide +kernel
theorem dX4_spare_0 : decode cX4_spare 0 = .ok (.aload_n 0, 1) := by decide +kernel
theorem dX4_spare_1 : decode cX4_spare 1 = .ok (.invokevirtual 78, 3) := by decide +kernel
theorem dX4_spare_4 : decode cX4_spare 4 = .ok (.aload_n 0, 1) := by decide +kernel
theorem dX4_spare_5 : decode cX4_spare 5 = .ok (.invokevirtual 81, 3) := by decide +kernel
theorem dX4_spare_8 : decode cX4_spare 8 = .ok (.isub, 1) := by decide +kernel
theorem dX4_spare_9 : decode cX4_spare 9 = .ok (.aload_n 0, 1) := by decide +kernel
theorem dX4_spare_10 : decode cX4_spare 10 = .ok (.getfield 43, 3) := by decide +kernel
theorem dX4_spare_13 : decode cX4_spare 13 = .ok (.iconst 5, 1) := by decide +kernel
theorem dX4_spare_14 : decode cX4_spare 14 = .ok (.idiv, 1) := by decide +kernel
theorem dX4_spare_15 : decode cX4_spare 15 = .ok (.isub, 1) := by decide +kernel
theorem dX4_spare_16 : decode cX4_spare 16 = .ok (.ireturn, 1) := by decide +kernel
theorem dX4_bears_0 : decode cX4_bears 0 = .ok (.aload_n 0, 1) := by decide +kernel
theorem dX4_bears_1 : decode cX4_bears 1 = .ok (.invokevirtual 84, 3) := by decide +kernel
theorem dX4_bears_4 : decode cX4_bears 4 = .ok (.istore_n 1, 1) := by decide +kernel
theorem dX4_bears_5 : decode cX4_bears 5 = .ok (.iconst 0, 1) := by decide +kernel
theorem dX4_bears_6 : decode cX4_bears 6 = .ok (.istore_n 2, 1) := by decide +kernel
theorem dX4_bears_7 : decode cX4_bears 7 = .ok (.aload_n 0, 1) := by decide +kernel
theorem dX4_bears_8 : decode cX4_bears 8 = .ok (.getfield 31, 3) := by decide +kernel
theorem dX4_bears_11 : decode cX4_bears 11 = .ok (.istore_n 3, 1) := by decide +kernel
theorem dX4_bears_12 : decode cX4_bears 12 = .ok (.iload_n 3, 1) := by decide +kernel
theorem dX4_bears_13 : decode cX4_bears 13 = .ok (.aload_n 0, 1) := by decide +kernel
theorem dX4_bears_14 : decode cX4_bears 14 = .ok (.getfield 27, 3) := by decide +kernel
theorem dX4_bears_17 : decode cX4_bears 17 = .ok (.if_icmp .ge 38, 3) := by decide +kernel
theorem dX4_bears_20 : decode cX4_bears 20 = .ok (.iload_n 1, 1) := by decide +kernel
theorem dX4_bears_21 : decode cX4_bears 21 = .ok (.aload_n 0, 1) := by decide +kernel
theorem dX4_bears_22 : decode cX4_bears 22 = .ok (.getfield 15, 3) := by decide +kernel
theorem dX4_bears_25 : decode cX4_bears 25 = .ok (.iload_n 3, 1) := by decide +kernel
theorem dX4_bears_26 : decode cX4_bears 26 = .ok (.iaload, 1) := by decide +kernel
theorem dX4_bears_27 : decode cX4_bears 27 = .ok (.aload_n 0, 1) := by decide +kernel
theorem dX4_bears_28 : decode cX4_bears 28 = .ok (.getfield 9, 3) := by decide +kernel
theorem dX4_bears_31 : decode cX4_bears 31 = .ok (.iload_n 3, 1) := by decide +kernel
theorem dX4_bears_32 : decode cX4_bears 32 = .ok (.iaload, 1) := by decide +kernel
theorem dX4_bears_33 : decode cX4_bears 33 = .ok (.isub, 1) := by decide +kernel
theorem dX4_bears_34 : decode cX4_bears 34 = .ok (.iadd, 1) := by decide +kernel
theorem dX4_bears_35 : decode cX4_bears 35 = .ok (.istore_n 1, 1) := by decide +kernel
theorem dX4_bears_36 : decode cX4_bears 36 = .ok (.iload_n 1, 1) := by decide +kernel
theorem dX4_bears_37 : decode cX4_bears 37 = .ok (.ifCond .lt 12, 3) := by decide +kernel
theorem dX4_bears_40 : decode cX4_bears 40 = .ok (.iload_n 3, 1) := by decide +kernel
theorem dX4_bears_41 : decode cX4_bears 41 = .ok (.aload_n 0, 1) := by decide +kernel
theorem dX4_bears_42 : decode cX4_bears 42 = .ok (.getfield 31, 3) := by decide +kernel
theorem dX4_bears_45 : decode cX4_bears 45 = .ok (.isub, 1) := by decide +kernel
theorem dX4_bears_46 : decode cX4_bears 46 = .ok (.iconst 1, 1) := by decide +kernel
theorem dX4_bears_47 : decode cX4_bears 47 = .ok (.iadd, 1) := by decide +kernel
theorem dX4_bears_48 : decode cX4_bears 48 = .ok (.istore_n 2, 1) := by decide +kernel
theorem dX4_bears_49 : decode cX4_bears 49 = .ok (.iinc 3 1, 3) := by decide +kernel
theorem dX4_bears_52 : decode cX4_bears 52 = .ok (.goto (-40), 3) := by decide +kernel
theorem dX4_bears_55 : decode cX4_bears 55 = .ok (.iload_n 2, 1) := by decide +kernel
theorem dX4_bears_56 : decode cX4_bears 56 = .ok (.ireturn, 1) := by decide +kernel
theorem dX4_doubters_0 : decode cX4_doubters 0 = .ok (.iconst 0, 1) := by decide +kernel
theorem dX4_doubters_1 : decode cX4_doubters 1 = .ok (.istore_n 1, 1) := by decide +kernel
theorem dX4_doubters_2 : decode cX4_doubters 2 = .ok (.iconst 0, 1) := by decide +kernel
theorem dX4_doubters_3 : decode cX4_doubters 3 = .ok (.istore_n 2, 1) := by decide +kernel
theorem dX4_doubters_4 : decode cX4_doubters 4 = .ok (.iload_n 2, 1) := by decide +kernel
theorem dX4_doubters_5 : decode cX4_doubters 5 = .ok (.aload_n 0, 1) := by decide +kernel
theorem dX4_doubters_6 : decode cX4_doubters 6 = .ok (.getfield 34, 3) := by decide +kernel
theorem dX4_doubters_9 : decode cX4_doubters 9 = .ok (.if_icmp .ge 26, 3) := by decide +kernel
theorem dX4_doubters_12 : decode cX4_doubters 12 = .ok (.aload_n 0, 1) := by decide +kernel
theorem dX4_doubters_13 : decode cX4_doubters 13 = .ok (.getfield 18, 3) := by decide +kernel
theorem dX4_doubters_16 : decode cX4_doubters 16 = .ok (.iload_n 2, 1) := by decide +kernel
theorem dX4_doubters_17 : decode cX4_doubters 17 = .ok (.iaload, 1) := by decide +kernel
theorem dX4_doubters_18 : decode cX4_doubters 18 = .ok (.bipush 10, 2) := by decide +kernel
theorem dX4_doubters_20 : decode cX4_doubters 20 = .ok (.if_icmp .ge 9, 3) := by decide +kernel
theorem dX4_doubters_23 : decode cX4_doubters 23 = .ok (.iload_n 1, 1) := by decide +kernel
theorem dX4_doubters_24 : decode cX4_doubters 24 = .ok (.iconst 1, 1) := by decide +kernel
theorem dX4_doubters_25 : decode cX4_doubters 25 = .ok (.iload_n 2, 1) := by decide +kernel
theorem dX4_doubters_26 : decode cX4_doubters 26 = .ok (.ishl, 1) := by decide +kernel
theorem dX4_doubters_27 : decode cX4_doubters 27 = .ok (.ior, 1) := by decide +kernel
theorem dX4_doubters_28 : decode cX4_doubters 28 = .ok (.istore_n 1, 1) := by decide +kernel
theorem dX4_doubters_29 : decode cX4_doubters 29 = .ok (.iinc 2 1, 3) := by decide +kernel
theorem dX4_doubters_32 : decode cX4_doubters 32 = .ok (.goto (-28), 3) := by decide +kernel
theorem dX4_doubters_35 : decode cX4_doubters 35 = .ok (.iload_n 1, 1) := by decide +kernel
theorem dX4_doubters_36 : decode cX4_doubters 36 = .ok (.ireturn, 1) := by decide +kernel
theorem dX4_doubt_0 : decode cX4_doubt 0 = .ok (.aload_n 0, 1) := by decide +kernel
theorem dX4_doubt_1 : decode cX4_doubt 1 = .ok (.getfield 21, 3) := by decide +kernel
theorem dX4_doubt_4 : decode cX4_doubt 4 = .ok (.iload_n 1, 1) := by decide +kernel
theorem dX4_doubt_5 : decode cX4_doubt 5 = .ok (.iaload, 1) := by decide +kernel
theorem dX4_doubt_6 : decode cX4_doubt 6 = .ok (.iload_n 2, 1) := by decide +kernel
theorem dX4_doubt_7 : decode cX4_doubt 7 = .ok (.iand, 1) := by decide +kernel
theorem dX4_doubt_8 : decode cX4_doubt 8 = .ok (.invokestatic 87, 3) := by decide +kernel
theorem dX4_doubt_11 : decode cX4_doubt 11 = .ok (.ireturn, 1) := by decide +kernel
theorem dX4_mostFaithful_0 : decode cX4_mostFaithful 0 = .ok (.iconst (-1), 1) := by decide +kernel
theorem dX4_mostFaithful_1 : decode cX4_mostFaithful 1 = .ok (.istore_n 1, 1) := by decide +kernel
theorem dX4_mostFaithful_2 : decode cX4_mostFaithful 2 = .ok (.iconst (-1), 1) := by decide +kernel
theorem dX4_mostFaithful_3 : decode cX4_mostFaithful 3 = .ok (.istore_n 2, 1) := by decide +kernel
theorem dX4_mostFaithful_4 : decode cX4_mostFaithful 4 = .ok (.iconst 0, 1) := by decide +kernel
theorem dX4_mostFaithful_5 : decode cX4_mostFaithful 5 = .ok (.istore_n 3, 1) := by decide +kernel
theorem dX4_mostFaithful_6 : decode cX4_mostFaithful 6 = .ok (.iload_n 3, 1) := by decide +kernel
theorem dX4_mostFaithful_7 : decode cX4_mostFaithful 7 = .ok (.aload_n 0, 1) := by decide +kernel
theorem dX4_mostFaithful_8 : decode cX4_mostFaithful 8 = .ok (.getfield 34, 3) := by decide +kernel
theorem dX4_mostFaithful_11 : decode cX4_mostFaithful 11 = .ok (.if_icmp .ge 28, 3) := by decide +kernel
theorem dX4_mostFaithful_14 : decode cX4_mostFaithful 14 = .ok (.aload_n 0, 1) := by decide +kernel
theorem dX4_mostFaithful_15 : decode cX4_mostFaithful 15 = .ok (.getfield 18, 3) := by decide +kernel
theorem dX4_mostFaithful_18 : decode cX4_mostFaithful 18 = .ok (.iload_n 3, 1) := by decide +kernel
theorem dX4_mostFaithful_19 : decode cX4_mostFaithful 19 = .ok (.iaload, 1) := by decide +kernel
theorem dX4_mostFaithful_20 : decode cX4_mostFaithful 20 = .ok (.iload_n 2, 1) := by decide +kernel
theorem dX4_mostFaithful_21 : decode cX4_mostFaithful 21 = .ok (.if_icmp .le 12, 3) := by decide +kernel
theorem dX4_mostFaithful_24 : decode cX4_mostFaithful 24 = .ok (.aload_n 0, 1) := by decide +kernel
theorem dX4_mostFaithful_25 : decode cX4_mostFaithful 25 = .ok (.getfield 18, 3) := by decide +kernel
theorem dX4_mostFaithful_28 : decode cX4_mostFaithful 28 = .ok (.iload_n 3, 1) := by decide +kernel
theorem dX4_mostFaithful_29 : decode cX4_mostFaithful 29 = .ok (.iaload, 1) := by decide +kernel
theorem dX4_mostFaithful_30 : decode cX4_mostFaithful 30 = .ok (.istore_n 2, 1) := by decide +kernel
theorem dX4_mostFaithful_31 : decode cX4_mostFaithful 31 = .ok (.iload_n 3, 1) := by decide +kernel
theorem dX4_mostFaithful_32 : decode cX4_mostFaithful 32 = .ok (.istore_n 1, 1) := by decide +kernel
theorem dX4_mostFaithful_33 : decode cX4_mostFaithful 33 = .ok (.iinc 3 1, 3) := by decide +kernel
theorem dX4_mostFaithful_36 : decode cX4_mostFaithful 36 = .ok (.goto (-30), 3) := by decide +kernel
theorem dX4_mostFaithful_39 : decode cX4_mostFaithful 39 = .ok (.iload_n 1, 1) := by decide +kernel
theorem dX4_mostFaithful_40 : decode cX4_mostFaithful 40 = .ok (.ireturn, 1) := by decide +kernel
theorem dX4_heaviestHung_0 : decode cX4_heaviestHung 0 = .ok (.iconst (-1), 1) := by decide +kernel
theorem dX4_heaviestHung_1 : decode cX4_heaviestHung 1 = .ok (.istore_n 1, 1) := by decide +kernel
theorem dX4_heaviestHung_2 : decode cX4_heaviestHung 2 = .ok (.iconst 0, 1) := by decide +kernel
theorem dX4_heaviestHung_3 : decode cX4_heaviestHung 3 = .ok (.istore_n 2, 1) := by decide +kernel
theorem dX4_heaviestHung_4 : decode cX4_heaviestHung 4 = .ok (.iconst 0, 1) := by decide +kernel
theorem dX4_heaviestHung_5 : decode cX4_heaviestHung 5 = .ok (.istore_n 3, 1) := by decide +kernel
theorem dX4_heaviestHung_6 : decode cX4_heaviestHung 6 = .ok (.iload_n 3, 1) := by decide +kernel
theorem dX4_heaviestHung_7 : decode cX4_heaviestHung 7 = .ok (.aload_n 0, 1) := by decide +kernel
theorem dX4_heaviestHung_8 : decode cX4_heaviestHung 8 = .ok (.getfield 31, 3) := by decide +kernel
theorem dX4_heaviestHung_11 : decode cX4_heaviestHung 11 = .ok (.if_icmp .ge 28, 3) := by decide +kernel
theorem dX4_heaviestHung_14 : decode cX4_heaviestHung 14 = .ok (.aload_n 0, 1) := by decide +kernel
theorem dX4_heaviestHung_15 : decode cX4_heaviestHung 15 = .ok (.getfield 9, 3) := by decide +kernel
theorem dX4_heaviestHung_18 : decode cX4_heaviestHung 18 = .ok (.iload_n 3, 1) := by decide +kernel
theorem dX4_heaviestHung_19 : decode cX4_heaviestHung 19 = .ok (.iaload, 1) := by decide +kernel
theorem dX4_heaviestHung_20 : decode cX4_heaviestHung 20 = .ok (.iload_n 2, 1) := by decide +kernel
theorem dX4_heaviestHung_21 : decode cX4_heaviestHung 21 = .ok (.if_icmp .le 12, 3) := by decide +kernel
theorem dX4_heaviestHung_24 : decode cX4_heaviestHung 24 = .ok (.aload_n 0, 1) := by decide +kernel
theorem dX4_heaviestHung_25 : decode cX4_heaviestHung 25 = .ok (.getfield 9, 3) := by decide +kernel
theorem dX4_heaviestHung_28 : decode cX4_heaviestHung 28 = .ok (.iload_n 3, 1) := by decide +kernel
theorem dX4_heaviestHung_29 : decode cX4_heaviestHung 29 = .ok (.iaload, 1) := by decide +kernel
theorem dX4_heaviestHung_30 : decode cX4_heaviestHung 30 = .ok (.istore_n 2, 1) := by decide +kernel
theorem dX4_heaviestHung_31 : decode cX4_heaviestHung 31 = .ok (.iload_n 3, 1) := by decide +kernel
theorem dX4_heaviestHung_32 : decode cX4_heaviestHung 32 = .ok (.istore_n 1, 1) := by decide +kernel
theorem dX4_heaviestHung_33 : decode cX4_heaviestHung 33 = .ok (.iinc 3 1, 3) := by decide +kernel
theorem dX4_heaviestHung_36 : decode cX4_heaviestHung 36 = .ok (.goto (-30), 3) := by decide +kernel
theorem dX4_heaviestHung_39 : decode cX4_heaviestHung 39 = .ok (.iload_n 1, 1) := by decide +kernel
theorem dX4_heaviestHung_40 : decode cX4_heaviestHung 40 = .ok (.ireturn, 1) := by decide +kernel
theorem dX4_evenSet_0 : decode cX4_evenSet 0 = .ok (.iconst 0, 1) := by decide +kernel
theorem dX4_evenSet_1 : decode cX4_evenSet 1 = .ok (.istore_n 1, 1) := by decide +kernel
theorem dX4_evenSet_2 : decode cX4_evenSet 2 = .ok (.sipush 793, 3) := by decide +kernel
theorem dX4_evenSet_5 : decode cX4_evenSet 5 = .ok (.istore_n 2, 1) := by decide +kernel
theorem dX4_evenSet_6 : decode cX4_evenSet 6 = .ok (.iconst 1, 1) := by decide +kernel
theorem dX4_evenSet_7 : decode cX4_evenSet 7 = .ok (.istore_n 3, 1) := by decide +kernel
theorem dX4_evenSet_8 : decode cX4_evenSet 8 = .ok (.iload_n 3, 1) := by decide +kernel
theorem dX4_evenSet_9 : decode cX4_evenSet 9 = .ok (.iconst 1, 1) := by decide +kernel
theorem dX4_evenSet_10 : decode cX4_evenSet 10 = .ok (.aload_n 0, 1) := by decide +kernel
theorem dX4_evenSet_11 : decode cX4_evenSet 11 = .ok (.getfield 34, 3) := by decide +kernel
theorem dX4_evenSet_14 : decode cX4_evenSet 14 = .ok (.ishl, 1) := by decide +kernel
theorem dX4_evenSet_15 : decode cX4_evenSet 15 = .ok (.if_icmp .ge 27, 3) := by decide +kernel
theorem dX4_evenSet_18 : decode cX4_evenSet 18 = .ok (.aload_n 0, 1) := by decide +kernel
theorem dX4_evenSet_19 : decode cX4_evenSet 19 = .ok (.iload_n 3, 1) := by decide +kernel
theorem dX4_evenSet_20 : decode cX4_evenSet 20 = .ok (.invokevirtual 93, 3) := by decide +kernel
theorem dX4_evenSet_23 : decode cX4_evenSet 23 = .ok (.istore 4, 2) := by decide +kernel
theorem dX4_evenSet_25 : decode cX4_evenSet 25 = .ok (.iload 4, 2) := by decide +kernel
theorem dX4_evenSet_27 : decode cX4_evenSet 27 = .ok (.iload_n 2, 1) := by decide +kernel
theorem dX4_evenSet_28 : decode cX4_evenSet 28 = .ok (.if_icmp .ge 8, 3) := by decide +kernel
theorem dX4_evenSet_31 : decode cX4_evenSet 31 = .ok (.iload 4, 2) := by decide +kernel
theorem dX4_evenSet_33 : decode cX4_evenSet 33 = .ok (.istore_n 2, 1) := by decide +kernel
theorem dX4_evenSet_34 : decode cX4_evenSet 34 = .ok (.iload_n 3, 1) := by decide +kernel
theorem dX4_evenSet_35 : decode cX4_evenSet 35 = .ok (.istore_n 1, 1) := by decide +kernel
theorem dX4_evenSet_36 : decode cX4_evenSet 36 = .ok (.iinc 3 2, 3) := by decide +kernel
theorem dX4_evenSet_39 : decode cX4_evenSet 39 = .ok (.goto (-31), 3) := by decide +kernel
theorem dX4_evenSet_42 : decode cX4_evenSet 42 = .ok (.iload_n 1, 1) := by decide +kernel
theorem dX4_evenSet_43 : decode cX4_evenSet 43 = .ok (.ireturn, 1) := by decide +kernel
theorem dX4_unevenness_0 : decode cX4_unevenness 0 = .ok (.iconst 0, 1) := by decide +kernel
theorem dX4_unevenness_1 : decode cX4_unevenness 1 = .ok (.istore_n 2, 1) := by decide +kernel
theorem dX4_unevenness_2 : decode cX4_unevenness 2 = .ok (.iconst 0, 1) := by decide +kernel
theorem dX4_unevenness_3 : decode cX4_unevenness 3 = .ok (.istore_n 3, 1) := by decide +kernel
theorem dX4_unevenness_4 : decode cX4_unevenness 4 = .ok (.iload_n 3, 1) := by decide +kernel
theorem dX4_unevenness_5 : decode cX4_unevenness 5 = .ok (.aload_n 0, 1) := by decide +kernel
theorem dX4_unevenness_6 : decode cX4_unevenness 6 = .ok (.getfield 34, 3) := by decide +kernel
theorem dX4_unevenness_9 : decode cX4_unevenness 9 = .ok (.if_icmp .ge 37, 3) := by decide +kernel
theorem dX4_unevenness_12 : decode cX4_unevenness 12 = .ok (.iload_n 2, 1) := by decide +kernel
theorem dX4_unevenness_13 : decode cX4_unevenness 13 = .ok (.iload_n 1, 1) := by decide +kernel
theorem dX4_unevenness_14 : decode cX4_unevenness 14 = .ok (.iload_n 3, 1) := by decide +kernel
theorem dX4_unevenness_15 : decode cX4_unevenness 15 = .ok (.ishr, 1) := by decide +kernel
theorem dX4_unevenness_16 : decode cX4_unevenness 16 = .ok (.iconst 1, 1) := by decide +kernel
theorem dX4_unevenness_17 : decode cX4_unevenness 17 = .ok (.iand, 1) := by decide +kernel
theorem dX4_unevenness_18 : decode cX4_unevenness 18 = .ok (.iconst 1, 1) := by decide +kernel
theorem dX4_unevenness_19 : decode cX4_unevenness 19 = .ok (.if_icmp .ne 12, 3) := by decide +kernel
theorem dX4_unevenness_22 : decode cX4_unevenness 22 = .ok (.aload_n 0, 1) := by decide +kernel
theorem dX4_unevenness_23 : decode cX4_unevenness 23 = .ok (.getfield 18, 3) := by decide +kernel
theorem dX4_unevenness_26 : decode cX4_unevenness 26 = .ok (.iload_n 3, 1) := by decide +kernel
theorem dX4_unevenness_27 : decode cX4_unevenness 27 = .ok (.iaload, 1) := by decide +kernel
theorem dX4_unevenness_28 : decode cX4_unevenness 28 = .ok (.goto 10, 3) := by decide +kernel
theorem dX4_unevenness_31 : decode cX4_unevenness 31 = .ok (.aload_n 0, 1) := by decide +kernel
theorem dX4_unevenness_32 : decode cX4_unevenness 32 = .ok (.getfield 18, 3) := by decide +kernel
theorem dX4_unevenness_35 : decode cX4_unevenness 35 = .ok (.iload_n 3, 1) := by decide +kernel
theorem dX4_unevenness_36 : decode cX4_unevenness 36 = .ok (.iaload, 1) := by decide +kernel
theorem dX4_unevenness_37 : decode cX4_unevenness 37 = .ok (.ineg, 1) := by decide +kernel
theorem dX4_unevenness_38 : decode cX4_unevenness 38 = .ok (.iadd, 1) := by decide +kernel
theorem dX4_unevenness_39 : decode cX4_unevenness 39 = .ok (.istore_n 2, 1) := by decide +kernel
theorem dX4_unevenness_40 : decode cX4_unevenness 40 = .ok (.iinc 3 1, 3) := by decide +kernel
theorem dX4_unevenness_43 : decode cX4_unevenness 43 = .ok (.goto (-39), 3) := by decide +kernel
theorem dX4_unevenness_46 : decode cX4_unevenness 46 = .ok (.iload_n 2, 1) := by decide +kernel
theorem dX4_unevenness_47 : decode cX4_unevenness 47 = .ok (.invokestatic 96, 3) := by decide +kernel
theorem dX4_unevenness_50 : decode cX4_unevenness 50 = .ok (.ireturn, 1) := by decide +kernel
theorem dX4_passDay_0 : decode cX4_passDay 0 = .ok (.aload_n 0, 1) := by decide +kernel
theorem dX4_passDay_1 : decode cX4_passDay 1 = .ok (.aload_n 0, 1) := by decide +kernel
theorem dX4_passDay_2 : decode cX4_passDay 2 = .ok (.getfield 43, 3) := by decide +kernel
theorem dX4_passDay_5 : decode cX4_passDay 5 = .ok (.aload_n 1, 1) := by decide +kernel
theorem dX4_passDay_6 : decode cX4_passDay 6 = .ok (.aload_n 0, 1) := by decide +kernel
theorem dX4_passDay_7 : decode cX4_passDay 7 = .ok (.iload_n 2, 1) := by decide +kernel
theorem dX4_passDay_8 : decode cX4_passDay 8 = .ok (.invokevirtual 99, 3) := by decide +kernel
theorem dX4_passDay_11 : decode cX4_passDay 11 = .ok (.iadd, 1) := by decide +kernel
theorem dX4_passDay_12 : decode cX4_passDay 12 = .ok (.iconst 0, 1) := by decide +kernel
theorem dX4_passDay_13 : decode cX4_passDay 13 = .ok (.bipush 99, 2) := by decide +kernel
theorem dX4_passDay_15 : decode cX4_passDay 15 = .ok (.invokestatic 67, 3) := by decide +kernel
theorem dX4_passDay_18 : decode cX4_passDay 18 = .ok (.putfield 43, 3) := by decide +kernel
theorem dX4_passDay_21 : decode cX4_passDay 21 = .ok (.aload_n 0, 1) := by decide +kernel
theorem dX4_passDay_22 : decode cX4_passDay 22 = .ok (.invokevirtual 105, 3) := by decide +kernel
theorem dX4_passDay_25 : decode cX4_passDay 25 = .ok (.istore_n 3, 1) := by decide +kernel
theorem dX4_passDay_26 : decode cX4_passDay 26 = .ok (.iconst 0, 1) := by decide +kernel
theorem dX4_passDay_27 : decode cX4_passDay 27 = .ok (.istore 4, 2) := by decide +kernel
theorem dX4_passDay_29 : decode cX4_passDay 29 = .ok (.iload 4, 2) := by decide +kernel
theorem dX4_passDay_31 : decode cX4_passDay 31 = .ok (.aload_n 0, 1) := by decide +kernel
theorem dX4_passDay_32 : decode cX4_passDay 32 = .ok (.getfield 34, 3) := by decide +kernel
theorem dX4_passDay_35 : decode cX4_passDay 35 = .ok (.if_icmp .ge 41, 3) := by decide +kernel
theorem dX4_passDay_38 : decode cX4_passDay 38 = .ok (.aload_n 0, 1) := by decide +kernel
theorem dX4_passDay_39 : decode cX4_passDay 39 = .ok (.getfield 24, 3) := by decide +kernel
theorem dX4_passDay_42 : decode cX4_passDay 42 = .ok (.iload 4, 2) := by decide +kernel
theorem dX4_passDay_44 : decode cX4_passDay 44 = .ok (.aload_n 1, 1) := by decide +kernel
theorem dX4_passDay_45 : decode cX4_passDay 45 = .ok (.aload_n 0, 1) := by decide +kernel
theorem dX4_passDay_46 : decode cX4_passDay 46 = .ok (.iload 4, 2) := by decide +kernel
theorem dX4_passDay_48 : decode cX4_passDay 48 = .ok (.aload_n 0, 1) := by decide +kernel
theorem dX4_passDay_49 : decode cX4_passDay 49 = .ok (.iload 4, 2) := by decide +kernel
theorem dX4_passDay_51 : decode cX4_passDay 51 = .ok (.iload_n 3, 1) := by decide +kernel
theorem dX4_passDay_52 : decode cX4_passDay 52 = .ok (.invokevirtual 108, 3) := by decide +kernel
theorem dX4_passDay_55 : decode cX4_passDay 55 = .ok (.invokevirtual 111, 3) := by decide +kernel
theorem dX4_passDay_58 : decode cX4_passDay 58 = .ok (.iastore, 1) := by decide +kernel
theorem dX4_passDay_59 : decode cX4_passDay 59 = .ok (.aload_n 0, 1) := by decide +kernel
theorem dX4_passDay_60 : decode cX4_passDay 60 = .ok (.aload_n 0, 1) := by decide +kernel
theorem dX4_passDay_61 : decode cX4_passDay 61 = .ok (.getfield 24, 3) := by decide +kernel
theorem dX4_passDay_64 : decode cX4_passDay 64 = .ok (.iload 4, 2) := by decide +kernel
theorem dX4_passDay_66 : decode cX4_passDay 66 = .ok (.iaload, 1) := by decide +kernel
theorem dX4_passDay_67 : decode cX4_passDay 67 = .ok (.invokevirtual 115, 3) := by decide +kernel
theorem dX4_passDay_70 : decode cX4_passDay 70 = .ok (.iinc 4 1, 3) := by decide +kernel
theorem dX4_passDay_73 : decode cX4_passDay 73 = .ok (.goto (-44), 3) := by decide +kernel
theorem dX4_passDay_76 : decode cX4_passDay 76 = .ok (.aload_n 0, 1) := by decide +kernel
theorem dX4_passDay_77 : decode cX4_passDay 77 = .ok (.aload_n 1, 1) := by decide +kernel
theorem dX4_passDay_78 : decode cX4_passDay 78 = .ok (.getfield 119, 3) := by decide +kernel
theorem dX4_passDay_81 : decode cX4_passDay 81 = .ok (.invokevirtual 122, 3) := by decide +kernel
theorem dX4_passDay_84 : decode cX4_passDay 84 = .ok (.aload_n 0, 1) := by decide +kernel
theorem dX4_passDay_85 : decode cX4_passDay 85 = .ok (.aload_n 0, 1) := by decide +kernel
theorem dX4_passDay_86 : decode cX4_passDay 86 = .ok (.aload_n 1, 1) := by decide +kernel
theorem dX4_passDay_87 : decode cX4_passDay 87 = .ok (.getfield 125, 3) := by decide +kernel
theorem dX4_passDay_90 : decode cX4_passDay 90 = .ok (.aload_n 0, 1) := by decide +kernel
theorem dX4_passDay_91 : decode cX4_passDay 91 = .ok (.invokevirtual 84, 3) := by decide +kernel
theorem dX4_passDay_94 : decode cX4_passDay 94 = .ok (.invokevirtual 128, 3) := by decide +kernel
theorem dX4_passDay_97 : decode cX4_passDay 97 = .ok (.putfield 46, 3) := by decide +kernel
theorem dX4_passDay_100 : decode cX4_passDay 100 = .ok (.iconst 0, 1) := by decide +kernel
theorem dX4_passDay_101 : decode cX4_passDay 101 = .ok (.istore 4, 2) := by decide +kernel
theorem dX4_passDay_103 : decode cX4_passDay 103 = .ok (.iload 4, 2) := by decide +kernel
theorem dX4_passDay_105 : decode cX4_passDay 105 = .ok (.aload_n 0, 1) := by decide +kernel
theorem dX4_passDay_106 : decode cX4_passDay 106 = .ok (.getfield 34, 3) := by decide +kernel
theorem dX4_passDay_109 : decode cX4_passDay 109 = .ok (.if_icmp .ge 29, 3) := by decide +kernel
theorem dX4_passDay_112 : decode cX4_passDay 112 = .ok (.aload_n 0, 1) := by decide +kernel
theorem dX4_passDay_113 : decode cX4_passDay 113 = .ok (.iload 4, 2) := by decide +kernel
theorem dX4_passDay_115 : decode cX4_passDay 115 = .ok (.aload_n 1, 1) := by decide +kernel
theorem dX4_passDay_116 : decode cX4_passDay 116 = .ok (.aload_n 0, 1) := by decide +kernel
theorem dX4_passDay_117 : decode cX4_passDay 117 = .ok (.iload 4, 2) := by decide +kernel
theorem dX4_passDay_119 : decode cX4_passDay 119 = .ok (.aload_n 0, 1) := by decide +kernel
theorem dX4_passDay_120 : decode cX4_passDay 120 = .ok (.iload 4, 2) := by decide +kernel
theorem dX4_passDay_122 : decode cX4_passDay 122 = .ok (.iload_n 3, 1) := by decide +kernel
theorem dX4_passDay_123 : decode cX4_passDay 123 = .ok (.invokevirtual 108, 3) := by decide +kernel
theorem dX4_passDay_126 : decode cX4_passDay 126 = .ok (.invokevirtual 131, 3) := by decide +kernel
theorem dX4_passDay_129 : decode cX4_passDay 129 = .ok (.invokevirtual 134, 3) := by decide +kernel
theorem dX4_passDay_132 : decode cX4_passDay 132 = .ok (.iinc 4 1, 3) := by decide +kernel
theorem dX4_passDay_135 : decode cX4_passDay 135 = .ok (.goto (-32), 3) := by decide +kernel
theorem dX4_passDay_138 : decode cX4_passDay 138 = .ok (.aload_n 0, 1) := by decide +kernel
theorem dX4_passDay_139 : decode cX4_passDay 139 = .ok (.dup, 1) := by decide +kernel
theorem dX4_passDay_140 : decode cX4_passDay 140 = .ok (.getfield 37, 3) := by decide +kernel
theorem dX4_passDay_143 : decode cX4_passDay 143 = .ok (.iconst 1, 1) := by decide +kernel
theorem dX4_passDay_144 : decode cX4_passDay 144 = .ok (.iadd, 1) := by decide +kernel
theorem dX4_passDay_145 : decode cX4_passDay 145 = .ok (.putfield 37, 3) := by decide +kernel
theorem dX4_passDay_148 : decode cX4_passDay 148 = .ok (.return_, 1) := by decide +kernel
theorem dX4_hangNext_0 : decode cX4_hangNext 0 = .ok (.aload_n 0, 1) := by decide +kernel
theorem dX4_hangNext_1 : decode cX4_hangNext 1 = .ok (.getfield 40, 3) := by decide +kernel
theorem dX4_hangNext_4 : decode cX4_hangNext 4 = .ok (.iload_n 1, 1) := by decide +kernel
theorem dX4_hangNext_5 : decode cX4_hangNext 5 = .ok (.if_icmp .lt 34, 3) := by decide +kernel
theorem dX4_hangNext_8 : decode cX4_hangNext 8 = .ok (.aload_n 0, 1) := by decide +kernel
theorem dX4_hangNext_9 : decode cX4_hangNext 9 = .ok (.getfield 31, 3) := by decide +kernel
theorem dX4_hangNext_12 : decode cX4_hangNext 12 = .ok (.aload_n 0, 1) := by decide +kernel
theorem dX4_hangNext_13 : decode cX4_hangNext 13 = .ok (.getfield 27, 3) := by decide +kernel
theorem dX4_hangNext_16 : decode cX4_hangNext 16 = .ok (.if_icmp .ge 23, 3) := by decide +kernel
theorem dX4_hangNext_19 : decode cX4_hangNext 19 = .ok (.aload_n 0, 1) := by decide +kernel
theorem dX4_hangNext_20 : decode cX4_hangNext 20 = .ok (.dup, 1) := by decide +kernel
theorem dX4_hangNext_21 : decode cX4_hangNext 21 = .ok (.getfield 40, 3) := by decide +kernel
theorem dX4_hangNext_24 : decode cX4_hangNext 24 = .ok (.iload_n 1, 1) := by decide +kernel
theorem dX4_hangNext_25 : decode cX4_hangNext 25 = .ok (.isub, 1) := by decide +kernel
theorem dX4_hangNext_26 : decode cX4_hangNext 26 = .ok (.putfield 40, 3) := by decide +kernel
theorem dX4_hangNext_29 : decode cX4_hangNext 29 = .ok (.aload_n 0, 1) := by decide +kernel
theorem dX4_hangNext_30 : decode cX4_hangNext 30 = .ok (.dup, 1) := by decide +kernel
theorem dX4_hangNext_31 : decode cX4_hangNext 31 = .ok (.getfield 31, 3) := by decide +kernel
theorem dX4_hangNext_34 : decode cX4_hangNext 34 = .ok (.iconst 1, 1) := by decide +kernel
theorem dX4_hangNext_35 : decode cX4_hangNext 35 = .ok (.iadd, 1) := by decide +kernel
theorem dX4_hangNext_36 : decode cX4_hangNext 36 = .ok (.putfield 31, 3) := by decide +kernel
theorem dX4_hangNext_39 : decode cX4_hangNext 39 = .ok (.return_, 1) := by decide +kernel
theorem dX4_dropLowest_0 : decode cX4_dropLowest 0 = .ok (.iconst 0, 1) := by decide +kernel
theorem dX4_dropLowest_1 : decode cX4_dropLowest 1 = .ok (.istore_n 3, 1) := by decide +kernel
theorem dX4_dropLowest_2 : decode cX4_dropLowest 2 = .ok (.iload_n 2, 1) := by decide +kernel
theorem dX4_dropLowest_3 : decode cX4_dropLowest 3 = .ok (.istore 4, 2) := by decide +kernel
theorem dX4_dropLowest_5 : decode cX4_dropLowest 5 = .ok (.iload_n 3, 1) := by decide +kernel
theorem dX4_dropLowest_6 : decode cX4_dropLowest 6 = .ok (.bipush 16, 2) := by decide +kernel
theorem dX4_dropLowest_8 : decode cX4_dropLowest 8 = .ok (.if_icmp .ge 61, 3) := by decide +kernel
theorem dX4_dropLowest_11 : decode cX4_dropLowest 11 = .ok (.aload_n 0, 1) := by decide +kernel
theorem dX4_dropLowest_12 : decode cX4_dropLowest 12 = .ok (.getfield 31, 3) := by decide +kernel
theorem dX4_dropLowest_15 : decode cX4_dropLowest 15 = .ok (.ifCond .le 54, 3) := by decide +kernel
theorem dX4_dropLowest_18 : decode cX4_dropLowest 18 = .ok (.aload_n 0, 1) := by decide +kernel
theorem dX4_dropLowest_19 : decode cX4_dropLowest 19 = .ok (.getfield 31, 3) := by decide +kernel
theorem dX4_dropLowest_22 : decode cX4_dropLowest 22 = .ok (.iload_n 1, 1) := by decide +kernel
theorem dX4_dropLowest_23 : decode cX4_dropLowest 23 = .ok (.if_icmp .ge 46, 3) := by decide +kernel
theorem dX4_dropLowest_26 : decode cX4_dropLowest 26 = .ok (.iload 4, 2) := by decide +kernel
theorem dX4_dropLowest_28 : decode cX4_dropLowest 28 = .ok (.ifCond .ge 41, 3) := by decide +kernel
theorem dX4_dropLowest_31 : decode cX4_dropLowest 31 = .ok (.iload 4, 2) := by decide +kernel
theorem dX4_dropLowest_33 : decode cX4_dropLowest 33 = .ok (.aload_n 0, 1) := by decide +kernel
theorem dX4_dropLowest_34 : decode cX4_dropLowest 34 = .ok (.getfield 9, 3) := by decide +kernel
theorem dX4_dropLowest_37 : decode cX4_dropLowest 37 = .ok (.aload_n 0, 1) := by decide +kernel
theorem dX4_dropLowest_38 : decode cX4_dropLowest 38 = .ok (.getfield 31, 3) := by decide +kernel
theorem dX4_dropLowest_41 : decode cX4_dropLowest 41 = .ok (.iconst 1, 1) := by decide +kernel
theorem dX4_dropLowest_42 : decode cX4_dropLowest 42 = .ok (.isub, 1) := by decide +kernel
theorem dX4_dropLowest_43 : decode cX4_dropLowest 43 = .ok (.iaload, 1) := by decide +kernel
theorem dX4_dropLowest_44 : decode cX4_dropLowest 44 = .ok (.aload_n 0, 1) := by decide +kernel
theorem dX4_dropLowest_45 : decode cX4_dropLowest 45 = .ok (.getfield 15, 3) := by decide +kernel
theorem dX4_dropLowest_48 : decode cX4_dropLowest 48 = .ok (.aload_n 0, 1) := by decide +kernel
theorem dX4_dropLowest_49 : decode cX4_dropLowest 49 = .ok (.getfield 31, 3) := by decide +kernel
theorem dX4_dropLowest_52 : decode cX4_dropLowest 52 = .ok (.iconst 1, 1) := by decide +kernel
theorem dX4_dropLowest_53 : decode cX4_dropLowest 53 = .ok (.isub, 1) := by decide +kernel
theorem dX4_dropLowest_54 : decode cX4_dropLowest 54 = .ok (.iaload, 1) := by decide +kernel
theorem dX4_dropLowest_55 : decode cX4_dropLowest 55 = .ok (.isub, 1) := by decide +kernel
theorem dX4_dropLowest_56 : decode cX4_dropLowest 56 = .ok (.iadd, 1) := by decide +kernel
theorem dX4_dropLowest_57 : decode cX4_dropLowest 57 = .ok (.istore 4, 2) := by decide +kernel
theorem dX4_dropLowest_59 : decode cX4_dropLowest 59 = .ok (.aload_n 0, 1) := by decide +kernel
theorem dX4_dropLowest_60 : decode cX4_dropLowest 60 = .ok (.invokevirtual 138, 3) := by decide +kernel
theorem dX4_dropLowest_63 : decode cX4_dropLowest 63 = .ok (.iinc 3 1, 3) := by decide +kernel
theorem dX4_dropLowest_66 : decode cX4_dropLowest 66 = .ok (.goto (-61), 3) := by decide +kernel
theorem dX4_dropLowest_69 : decode cX4_dropLowest 69 = .ok (.iload_n 3, 1) := by decide +kernel
theorem dX4_dropLowest_70 : decode cX4_dropLowest 70 = .ok (.ireturn, 1) := by decide +kernel
theorem dX4_takeLowest_0 : decode cX4_takeLowest 0 = .ok (.aload_n 0, 1) := by decide +kernel
theorem dX4_takeLowest_1 : decode cX4_takeLowest 1 = .ok (.getfield 31, 3) := by decide +kernel
theorem dX4_takeLowest_4 : decode cX4_takeLowest 4 = .ok (.istore_n 1, 1) := by decide +kernel
theorem dX4_takeLowest_5 : decode cX4_takeLowest 5 = .ok (.iload_n 1, 1) := by decide +kernel
theorem dX4_takeLowest_6 : decode cX4_takeLowest 6 = .ok (.aload_n 0, 1) := by decide +kernel
theorem dX4_takeLowest_7 : decode cX4_takeLowest 7 = .ok (.getfield 27, 3) := by decide +kernel
theorem dX4_takeLowest_10 : decode cX4_takeLowest 10 = .ok (.if_icmp .ge 37, 3) := by decide +kernel
theorem dX4_takeLowest_13 : decode cX4_takeLowest 13 = .ok (.aload_n 0, 1) := by decide +kernel
theorem dX4_takeLowest_14 : decode cX4_takeLowest 14 = .ok (.getfield 9, 3) := by decide +kernel
theorem dX4_takeLowest_17 : decode cX4_takeLowest 17 = .ok (.iload_n 1, 1) := by decide +kernel
theorem dX4_takeLowest_18 : decode cX4_takeLowest 18 = .ok (.iconst 1, 1) := by decide +kernel
theorem dX4_takeLowest_19 : decode cX4_takeLowest 19 = .ok (.isub, 1) := by decide +kernel
theorem dX4_takeLowest_20 : decode cX4_takeLowest 20 = .ok (.aload_n 0, 1) := by decide +kernel
theorem dX4_takeLowest_21 : decode cX4_takeLowest 21 = .ok (.getfield 9, 3) := by decide +kernel
theorem dX4_takeLowest_24 : decode cX4_takeLowest 24 = .ok (.iload_n 1, 1) := by decide +kernel
theorem dX4_takeLowest_25 : decode cX4_takeLowest 25 = .ok (.iaload, 1) := by decide +kernel
theorem dX4_takeLowest_26 : decode cX4_takeLowest 26 = .ok (.iastore, 1) := by decide +kernel
theorem dX4_takeLowest_27 : decode cX4_takeLowest 27 = .ok (.aload_n 0, 1) := by decide +kernel
theorem dX4_takeLowest_28 : decode cX4_takeLowest 28 = .ok (.getfield 15, 3) := by decide +kernel
theorem dX4_takeLowest_31 : decode cX4_takeLowest 31 = .ok (.iload_n 1, 1) := by decide +kernel
theorem dX4_takeLowest_32 : decode cX4_takeLowest 32 = .ok (.iconst 1, 1) := by decide +kernel
theorem dX4_takeLowest_33 : decode cX4_takeLowest 33 = .ok (.isub, 1) := by decide +kernel
theorem dX4_takeLowest_34 : decode cX4_takeLowest 34 = .ok (.aload_n 0, 1) := by decide +kernel
theorem dX4_takeLowest_35 : decode cX4_takeLowest 35 = .ok (.getfield 15, 3) := by decide +kernel
theorem dX4_takeLowest_38 : decode cX4_takeLowest 38 = .ok (.iload_n 1, 1) := by decide +kernel
theorem dX4_takeLowest_39 : decode cX4_takeLowest 39 = .ok (.iaload, 1) := by decide +kernel
theorem dX4_takeLowest_40 : decode cX4_takeLowest 40 = .ok (.iastore, 1) := by decide +kernel
theorem dX4_takeLowest_41 : decode cX4_takeLowest 41 = .ok (.iinc 1 1, 3) := by decide +kernel
theorem dX4_takeLowest_44 : decode cX4_takeLowest 44 = .ok (.goto (-39), 3) := by decide +kernel
theorem dX4_takeLowest_47 : decode cX4_takeLowest 47 = .ok (.aload_n 0, 1) := by decide +kernel
theorem dX4_takeLowest_48 : decode cX4_takeLowest 48 = .ok (.dup, 1) := by decide +kernel
theorem dX4_takeLowest_49 : decode cX4_takeLowest 49 = .ok (.getfield 31, 3) := by decide +kernel
theorem dX4_takeLowest_52 : decode cX4_takeLowest 52 = .ok (.iconst 1, 1) := by decide +kernel
theorem dX4_takeLowest_53 : decode cX4_takeLowest 53 = .ok (.isub, 1) := by decide +kernel
theorem dX4_takeLowest_54 : decode cX4_takeLowest 54 = .ok (.putfield 31, 3) := by decide +kernel
theorem dX4_takeLowest_57 : decode cX4_takeLowest 57 = .ok (.aload_n 0, 1) := by decide +kernel
theorem dX4_takeLowest_58 : decode cX4_takeLowest 58 = .ok (.dup, 1) := by decide +kernel
theorem dX4_takeLowest_59 : decode cX4_takeLowest 59 = .ok (.getfield 27, 3) := by decide +kernel
theorem dX4_takeLowest_62 : decode cX4_takeLowest 62 = .ok (.iconst 1, 1) := by decide +kernel
theorem dX4_takeLowest_63 : decode cX4_takeLowest 63 = .ok (.isub, 1) := by decide +kernel
theorem dX4_takeLowest_64 : decode cX4_takeLowest 64 = .ok (.putfield 27, 3) := by decide +kernel
theorem dX4_takeLowest_67 : decode cX4_takeLowest 67 = .ok (.return_, 1) := by decide +kernel
theorem dX4_chance_0 : decode cX4_chance 0 = .ok (.iload_n 1, 1) := by decide +kernel
theorem dX4_chance_1 : decode cX4_chance 1 = .ok (.invokestatic 141, 3) := by decide +kernel
theorem dX4_chance_4 : decode cX4_chance 4 = .ok (.istore_n 2, 1) := by decide +kernel
theorem dX4_chance_5 : decode cX4_chance 5 = .ok (.iload_n 2, 1) := by decide +kernel
theorem dX4_chance_6 : decode cX4_chance 6 = .ok (.bipush 6, 2) := by decide +kernel
theorem dX4_chance_8 : decode cX4_chance 8 = .ok (.invokestatic 144, 3) := by decide +kernel
theorem dX4_chance_11 : decode cX4_chance 11 = .ok (.istore_n 3, 1) := by decide +kernel
theorem dX4_chance_12 : decode cX4_chance 12 = .ok (.iload_n 3, 1) := by decide +kernel
theorem dX4_chance_13 : decode cX4_chance 13 = .ok (.ifCond .ne 46, 3) := by decide +kernel
theorem dX4_chance_16 : decode cX4_chance 16 = .ok (.aload_n 0, 1) := by decide +kernel
theorem dX4_chance_17 : decode cX4_chance 17 = .ok (.getfield 34, 3) := by decide +kernel
theorem dX4_chance_20 : decode cX4_chance 20 = .ok (.ifCond .le 39, 3) := by decide +kernel
theorem dX4_chance_23 : decode cX4_chance 23 = .ok (.iload_n 2, 1) := by decide +kernel
theorem dX4_chance_24 : decode cX4_chance 24 = .ok (.invokestatic 141, 3) := by decide +kernel
theorem dX4_chance_27 : decode cX4_chance 27 = .ok (.istore_n 2, 1) := by decide +kernel
theorem dX4_chance_28 : decode cX4_chance 28 = .ok (.iload_n 2, 1) := by decide +kernel
theorem dX4_chance_29 : decode cX4_chance 29 = .ok (.aload_n 0, 1) := by decide +kernel
theorem dX4_chance_30 : decode cX4_chance 30 = .ok (.getfield 34, 3) := by decide +kernel
theorem dX4_chance_33 : decode cX4_chance 33 = .ok (.invokestatic 144, 3) := by decide +kernel
theorem dX4_chance_36 : decode cX4_chance 36 = .ok (.istore 4, 2) := by decide +kernel
theorem dX4_chance_38 : decode cX4_chance 38 = .ok (.iload_n 2, 1) := by decide +kernel
theorem dX4_chance_39 : decode cX4_chance 39 = .ok (.invokestatic 141, 3) := by decide +kernel
theorem dX4_chance_42 : decode cX4_chance 42 = .ok (.istore_n 2, 1) := by decide +kernel
theorem dX4_chance_43 : decode cX4_chance 43 = .ok (.aload_n 0, 1) := by decide +kernel
theorem dX4_chance_44 : decode cX4_chance 44 = .ok (.getfield 18, 3) := by decide +kernel
theorem dX4_chance_47 : decode cX4_chance 47 = .ok (.iload 4, 2) := by decide +kernel
theorem dX4_chance_49 : decode cX4_chance 49 = .ok (.iload_n 2, 1) := by decide +kernel
theorem dX4_chance_50 : decode cX4_chance 50 = .ok (.bipush 100, 2) := by decide +kernel
theorem dX4_chance_52 : decode cX4_chance 52 = .ok (.invokestatic 144, 3) := by decide +kernel
theorem dX4_chance_55 : decode cX4_chance 55 = .ok (.iastore, 1) := by decide +kernel
theorem dX4_chance_56 : decode cX4_chance 56 = .ok (.goto 57, 3) := by decide +kernel
theorem dX4_chance_59 : decode cX4_chance 59 = .ok (.iload_n 3, 1) := by decide +kernel
theorem dX4_chance_60 : decode cX4_chance 60 = .ok (.iconst 1, 1) := by decide +kernel
theorem dX4_chance_61 : decode cX4_chance 61 = .ok (.if_icmp .ne 21, 3) := by decide +kernel
theorem dX4_chance_64 : decode cX4_chance 64 = .ok (.iload_n 2, 1) := by decide +kernel
theorem dX4_chance_65 : decode cX4_chance 65 = .ok (.invokestatic 141, 3) := by decide +kernel
theorem dX4_chance_68 : decode cX4_chance 68 = .ok (.istore_n 2, 1) := by decide +kernel
theorem dX4_chance_69 : decode cX4_chance 69 = .ok (.aload_n 0, 1) := by decide +kernel
theorem dX4_chance_70 : decode cX4_chance 70 = .ok (.iload_n 2, 1) := by decide +kernel
theorem dX4_chance_71 : decode cX4_chance 71 = .ok (.bipush 50, 2) := by decide +kernel
theorem dX4_chance_73 : decode cX4_chance 73 = .ok (.invokestatic 144, 3) := by decide +kernel
theorem dX4_chance_76 : decode cX4_chance 76 = .ok (.putfield 40, 3) := by decide +kernel
theorem dX4_chance_79 : decode cX4_chance 79 = .ok (.goto 34, 3) := by decide +kernel
theorem dX4_chance_82 : decode cX4_chance 82 = .ok (.iload_n 3, 1) := by decide +kernel
theorem dX4_chance_83 : decode cX4_chance 83 = .ok (.iconst 2, 1) := by decide +kernel
theorem dX4_chance_84 : decode cX4_chance 84 = .ok (.if_icmp .ne 29, 3) := by decide +kernel
theorem dX4_chance_87 : decode cX4_chance 87 = .ok (.aload_n 0, 1) := by decide +kernel
theorem dX4_chance_88 : decode cX4_chance 88 = .ok (.getfield 31, 3) := by decide +kernel
theorem dX4_chance_91 : decode cX4_chance 91 = .ok (.ifCond .le 22, 3) := by decide +kernel
theorem dX4_chance_94 : decode cX4_chance 94 = .ok (.iload_n 2, 1) := by decide +kernel
theorem dX4_chance_95 : decode cX4_chance 95 = .ok (.invokestatic 141, 3) := by decide +kernel
theorem dX4_chance_98 : decode cX4_chance 98 = .ok (.istore_n 2, 1) := by decide +kernel
theorem dX4_chance_99 : decode cX4_chance 99 = .ok (.aload_n 0, 1) := by decide +kernel
theorem dX4_chance_100 : decode cX4_chance 100 = .ok (.getfield 15, 3) := by decide +kernel
theorem dX4_chance_103 : decode cX4_chance 103 = .ok (.iload_n 2, 1) := by decide +kernel
theorem dX4_chance_104 : decode cX4_chance 104 = .ok (.aload_n 0, 1) := by decide +kernel
theorem dX4_chance_105 : decode cX4_chance 105 = .ok (.getfield 31, 3) := by decide +kernel
theorem dX4_chance_108 : decode cX4_chance 108 = .ok (.invokestatic 144, 3) := by decide +kernel
theorem dX4_chance_111 : decode cX4_chance 111 = .ok (.iconst 0, 1) := by decide +kernel
theorem dX4_chance_112 : decode cX4_chance 112 = .ok (.iastore, 1) := by decide +kernel
theorem dX4_chance_113 : decode cX4_chance 113 = .ok (.iload_n 2, 1) := by decide +kernel
theorem dX4_chance_114 : decode cX4_chance 114 = .ok (.ireturn, 1) := by decide +kernel
theorem dX4_nextSeed_0 : decode cX4_nextSeed 0 = .ok (.iload_n 0, 1) := by decide +kernel
theorem dX4_nextSeed_1 : decode cX4_nextSeed 1 = .ok (.ldc 147, 2) := by decide +kernel
theorem dX4_nextSeed_3 : decode cX4_nextSeed 3 = .ok (.imul, 1) := by decide +kernel
theorem dX4_nextSeed_4 : decode cX4_nextSeed 4 = .ok (.sipush 12345, 3) := by decide +kernel
theorem dX4_nextSeed_7 : decode cX4_nextSeed 7 = .ok (.iadd, 1) := by decide +kernel
theorem dX4_nextSeed_8 : decode cX4_nextSeed 8 = .ok (.ireturn, 1) := by decide +kernel
theorem dX4_draw_0 : decode cX4_draw 0 = .ok (.iload_n 1, 1) := by decide +kernel
theorem dX4_draw_1 : decode cX4_draw 1 = .ok (.ifCond .le 16, 3) := by decide +kernel
theorem dX4_draw_4 : decode cX4_draw 4 = .ok (.iload_n 0, 1) := by decide +kernel
theorem dX4_draw_5 : decode cX4_draw 5 = .ok (.bipush 16, 2) := by decide +kernel
theorem dX4_draw_7 : decode cX4_draw 7 = .ok (.iushr, 1) := by decide +kernel
theorem dX4_draw_8 : decode cX4_draw 8 = .ok (.sipush 32767, 3) := by decide +kernel
theorem dX4_draw_11 : decode cX4_draw 11 = .ok (.iand, 1) := by decide +kernel
theorem dX4_draw_12 : decode cX4_draw 12 = .ok (.iload_n 1, 1) := by decide +kernel
theorem dX4_draw_13 : decode cX4_draw 13 = .ok (.irem, 1) := by decide +kernel
theorem dX4_draw_14 : decode cX4_draw 14 = .ok (.goto 4, 3) := by decide +kernel
theorem dX4_draw_17 : decode cX4_draw 17 = .ok (.iconst 0, 1) := by decide +kernel
theorem dX4_draw_18 : decode cX4_draw 18 = .ok (.ireturn, 1) := by decide +kernel
theorem dX5_spread_0 : decode cX5_spread 0 = .ok (.iload_n 1, 1) := by decide +kernel
theorem dX5_spread_1 : decode cX5_spread 1 = .ok (.istore_n 2, 1) := by decide +kernel
theorem dX5_spread_2 : decode cX5_spread 2 = .ok (.iconst 0, 1) := by decide +kernel
theorem dX5_spread_3 : decode cX5_spread 3 = .ok (.istore_n 3, 1) := by decide +kernel
theorem dX5_spread_4 : decode cX5_spread 4 = .ok (.iload_n 3, 1) := by decide +kernel
theorem dX5_spread_5 : decode cX5_spread 5 = .ok (.aload_n 0, 1) := by decide +kernel
theorem dX5_spread_6 : decode cX5_spread 6 = .ok (.getfield 9, 3) := by decide +kernel
theorem dX5_spread_9 : decode cX5_spread 9 = .ok (.if_icmp .ge 27, 3) := by decide +kernel
theorem dX5_spread_12 : decode cX5_spread 12 = .ok (.iload_n 1, 1) := by decide +kernel
theorem dX5_spread_13 : decode cX5_spread 13 = .ok (.iload_n 3, 1) := by decide +kernel
theorem dX5_spread_14 : decode cX5_spread 14 = .ok (.ishr, 1) := by decide +kernel
theorem dX5_spread_15 : decode cX5_spread 15 = .ok (.iconst 1, 1) := by decide +kernel
theorem dX5_spread_16 : decode cX5_spread 16 = .ok (.iand, 1) := by decide +kernel
theorem dX5_spread_17 : decode cX5_spread 17 = .ok (.iconst 1, 1) := by decide +kernel
theorem dX5_spread_18 : decode cX5_spread 18 = .ok (.if_icmp .ne 12, 3) := by decide +kernel
theorem dX5_spread_21 : decode cX5_spread 21 = .ok (.iload_n 2, 1) := by decide +kernel
theorem dX5_spread_22 : decode cX5_spread 22 = .ok (.aload_n 0, 1) := by decide +kernel
theorem dX5_spread_23 : decode cX5_spread 23 = .ok (.getfield 15, 3) := by decide +kernel
theorem dX5_spread_26 : decode cX5_spread 26 = .ok (.iload_n 3, 1) := by decide +kernel
theorem dX5_spread_27 : decode cX5_spread 27 = .ok (.iaload, 1) := by decide +kernel
theorem dX5_spread_28 : decode cX5_spread 28 = .ok (.ior, 1) := by decide +kernel
theorem dX5_spread_29 : decode cX5_spread 29 = .ok (.istore_n 2, 1) := by decide +kernel
theorem dX5_spread_30 : decode cX5_spread 30 = .ok (.iinc 3 1, 3) := by decide +kernel
theorem dX5_spread_33 : decode cX5_spread 33 = .ok (.goto (-29), 3) := by decide +kernel
theorem dX5_spread_36 : decode cX5_spread 36 = .ok (.iload_n 2, 1) := by decide +kernel
theorem dX5_spread_37 : decode cX5_spread 37 = .ok (.ireturn, 1) := by decide +kernel
theorem dX5_reached_0 : decode cX5_reached 0 = .ok (.iconst 1, 1) := by decide +kernel
theorem dX5_reached_1 : decode cX5_reached 1 = .ok (.iload_n 1, 1) := by decide +kernel
theorem dX5_reached_2 : decode cX5_reached 2 = .ok (.ishl, 1) := by decide +kernel
theorem dX5_reached_3 : decode cX5_reached 3 = .ok (.istore_n 3, 1) := by decide +kernel
theorem dX5_reached_4 : decode cX5_reached 4 = .ok (.iconst 0, 1) := by decide +kernel
theorem dX5_reached_5 : decode cX5_reached 5 = .ok (.istore 4, 2) := by decide +kernel
theorem dX5_reached_7 : decode cX5_reached 7 = .ok (.iload 4, 2) := by decide +kernel
theorem dX5_reached_9 : decode cX5_reached 9 = .ok (.bipush 8, 2) := by decide +kernel
theorem dX5_reached_11 : decode cX5_reached 11 = .ok (.if_icmp .ge 19, 3) := by decide +kernel
theorem dX5_reached_14 : decode cX5_reached 14 = .ok (.aload_n 0, 1) := by decide +kernel
theorem dX5_reached_15 : decode cX5_reached 15 = .ok (.iload_n 3, 1) := by decide +kernel
theorem dX5_reached_16 : decode cX5_reached 16 = .ok (.invokestatic 19, 3) := by decide +kernel
theorem dX5_reached_19 : decode cX5_reached 19 = .ok (.iload_n 2, 1) := by decide +kernel
theorem dX5_reached_20 : decode cX5_reached 20 = .ok (.iconst (-1), 1) := by decide +kernel
theorem dX5_reached_21 : decode cX5_reached 21 = .ok (.ixor, 1) := by decide +kernel
theorem dX5_reached_22 : decode cX5_reached 22 = .ok (.iand, 1) := by decide +kernel
theorem dX5_reached_23 : decode cX5_reached 23 = .ok (.istore_n 3, 1) := by decide +kernel
theorem dX5_reached_24 : decode cX5_reached 24 = .ok (.iinc 4 1, 3) := by decide +kernel
theorem dX5_reached_27 : decode cX5_reached 27 = .ok (.goto (-20), 3) := by decide +kernel
theorem dX5_reached_30 : decode cX5_reached 30 = .ok (.iload_n 3, 1) := by decide +kernel
theorem dX5_reached_31 : decode cX5_reached 31 = .ok (.ireturn, 1) := by decide +kernel
theorem dX5_distance_0 : decode cX5_distance 0 = .ok (.iconst 1, 1) := by decide +kernel
theorem dX5_distance_1 : decode cX5_distance 1 = .ok (.iload_n 1, 1) := by decide +kernel
theorem dX5_distance_2 : decode cX5_distance 2 = .ok (.ishl, 1) := by decide +kernel
theorem dX5_distance_3 : decode cX5_distance 3 = .ok (.istore_n 3, 1) := by decide +kernel
theorem dX5_distance_4 : decode cX5_distance 4 = .ok (.iconst 0, 1) := by decide +kernel
theorem dX5_distance_5 : decode cX5_distance 5 = .ok (.istore 4, 2) := by decide +kernel
theorem dX5_distance_7 : decode cX5_distance 7 = .ok (.iload 4, 2) := by decide +kernel
theorem dX5_distance_9 : decode cX5_distance 9 = .ok (.bipush 8, 2) := by decide +kernel
theorem dX5_distance_11 : decode cX5_distance 11 = .ok (.if_icmp .ge 27, 3) := by decide +kernel
theorem dX5_distance_14 : decode cX5_distance 14 = .ok (.iload_n 3, 1) := by decide +kernel
theorem dX5_distance_15 : decode cX5_distance 15 = .ok (.iload_n 2, 1) := by decide +kernel
theorem dX5_distance_16 : decode cX5_distance 16 = .ok (.ishr, 1) := by decide +kernel
theorem dX5_distance_17 : decode cX5_distance 17 = .ok (.iconst 1, 1) := by decide +kernel
theorem dX5_distance_18 : decode cX5_distance 18 = .ok (.iand, 1) := by decide +kernel
theorem dX5_distance_19 : decode cX5_distance 19 = .ok (.iconst 1, 1) := by decide +kernel
theorem dX5_distance_20 : decode cX5_distance 20 = .ok (.if_icmp .ne 6, 3) := by decide +kernel
theorem dX5_distance_23 : decode cX5_distance 23 = .ok (.iload 4, 2) := by decide +kernel
theorem dX5_distance_25 : decode cX5_distance 25 = .ok (.ireturn, 1) := by decide +kernel
theorem dX5_distance_26 : decode cX5_distance 26 = .ok (.aload_n 0, 1) := by decide +kernel
theorem dX5_distance_27 : decode cX5_distance 27 = .ok (.iload_n 3, 1) := by decide +kernel
theorem dX5_distance_28 : decode cX5_distance 28 = .ok (.invokestatic 19, 3) := by decide +kernel
theorem dX5_distance_31 : decode cX5_distance 31 = .ok (.istore_n 3, 1) := by decide +kernel
theorem dX5_distance_32 : decode cX5_distance 32 = .ok (.iinc 4 1, 3) := by decide +kernel
theorem dX5_distance_35 : decode cX5_distance 35 = .ok (.goto (-28), 3) := by decide +kernel
theorem dX5_distance_38 : decode cX5_distance 38 = .ok (.iconst (-1), 1) := by decide +kernel
theorem dX5_distance_39 : decode cX5_distance 39 = .ok (.ireturn, 1) := by decide +kernel
theorem dX5_parts_0 : decode cX5_parts 0 = .ok (.iconst 0, 1) := by decide +kernel
theorem dX5_parts_1 : decode cX5_parts 1 = .ok (.istore_n 1, 1) := by decide +kernel
theorem dX5_parts_2 : decode cX5_parts 2 = .ok (.iconst 0, 1) := by decide +kernel
theorem dX5_parts_3 : decode cX5_parts 3 = .ok (.istore_n 2, 1) := by decide +kernel
theorem dX5_parts_4 : decode cX5_parts 4 = .ok (.iconst 0, 1) := by decide +kernel
theorem dX5_parts_5 : decode cX5_parts 5 = .ok (.istore_n 3, 1) := by decide +kernel
theorem dX5_parts_6 : decode cX5_parts 6 = .ok (.iload_n 3, 1) := by decide +kernel
theorem dX5_parts_7 : decode cX5_parts 7 = .ok (.aload_n 0, 1) := by decide +kernel
theorem dX5_parts_8 : decode cX5_parts 8 = .ok (.getfield 9, 3) := by decide +kernel
theorem dX5_parts_11 : decode cX5_parts 11 = .ok (.if_icmp .ge 29, 3) := by decide +kernel
theorem dX5_parts_14 : decode cX5_parts 14 = .ok (.iload_n 1, 1) := by decide +kernel
theorem dX5_parts_15 : decode cX5_parts 15 = .ok (.iload_n 3, 1) := by decide +kernel
theorem dX5_parts_16 : decode cX5_parts 16 = .ok (.ishr, 1) := by decide +kernel
theorem dX5_parts_17 : decode cX5_parts 17 = .ok (.iconst 1, 1) := by decide +kernel
theorem dX5_parts_18 : decode cX5_parts 18 = .ok (.iand, 1) := by decide +kernel
theorem dX5_parts_19 : decode cX5_parts 19 = .ok (.ifCond .ne 15, 3) := by decide +kernel
theorem dX5_parts_22 : decode cX5_parts 22 = .ok (.iload_n 1, 1) := by decide +kernel
theorem dX5_parts_23 : decode cX5_parts 23 = .ok (.aload_n 0, 1) := by decide +kernel
theorem dX5_parts_24 : decode cX5_parts 24 = .ok (.iload_n 3, 1) := by decide +kernel
theorem dX5_parts_25 : decode cX5_parts 25 = .ok (.iconst 0, 1) := by decide +kernel
theorem dX5_parts_26 : decode cX5_parts 26 = .ok (.invokestatic 25, 3) := by decide +kernel
theorem dX5_parts_29 : decode cX5_parts 29 = .ok (.ior, 1) := by decide +kernel
theorem dX5_parts_30 : decode cX5_parts 30 = .ok (.istore_n 1, 1) := by decide +kernel
theorem dX5_parts_31 : decode cX5_parts 31 = .ok (.iinc 2 1, 3) := by decide +kernel
theorem dX5_parts_34 : decode cX5_parts 34 = .ok (.iinc 3 1, 3) := by decide +kernel
theorem dX5_parts_37 : decode cX5_parts 37 = .ok (.goto (-31), 3) := by decide +kernel
theorem dX5_parts_40 : decode cX5_parts 40 = .ok (.iload_n 2, 1) := by decide +kernel
theorem dX5_parts_41 : decode cX5_parts 41 = .ok (.ireturn, 1) := by decide +kernel
theorem dX5_leastCut_0 : decode cX5_leastCut 0 = .ok (.iload_n 1, 1) := by decide +kernel
theorem dX5_leastCut_1 : decode cX5_leastCut 1 = .ok (.iload_n 2, 1) := by decide +kernel
theorem dX5_leastCut_2 : decode cX5_leastCut 2 = .ok (.if_icmp .eq 12, 3) := by decide +kernel
theorem dX5_leastCut_5 : decode cX5_leastCut 5 = .ok (.aload_n 0, 1) := by decide +kernel
theorem dX5_leastCut_6 : decode cX5_leastCut 6 = .ok (.iload_n 1, 1) := by decide +kernel
theorem dX5_leastCut_7 : decode cX5_leastCut 7 = .ok (.iload_n 2, 1) := by decide +kernel
theorem dX5_leastCut_8 : decode cX5_leastCut 8 = .ok (.invokevirtual 29, 3) := by decide +kernel
theorem dX5_leastCut_11 : decode cX5_leastCut 11 = .ok (.ifCond .eq 5, 3) := by decide +kernel
theorem dX5_leastCut_14 : decode cX5_leastCut 14 = .ok (.iconst (-1), 1) := by decide +kernel
theorem dX5_leastCut_15 : decode cX5_leastCut 15 = .ok (.ireturn, 1) := by decide +kernel
theorem dX5_leastCut_16 : decode cX5_leastCut 16 = .ok (.iconst 1, 1) := by decide +kernel
theorem dX5_leastCut_17 : decode cX5_leastCut 17 = .ok (.iload_n 1, 1) := by decide +kernel
theorem dX5_leastCut_18 : decode cX5_leastCut 18 = .ok (.ishl, 1) := by decide +kernel
theorem dX5_leastCut_19 : decode cX5_leastCut 19 = .ok (.iconst 1, 1) := by decide +kernel
theorem dX5_leastCut_20 : decode cX5_leastCut 20 = .ok (.iload_n 2, 1) := by decide +kernel
theorem dX5_leastCut_21 : decode cX5_leastCut 21 = .ok (.ishl, 1) := by decide +kernel
theorem dX5_leastCut_22 : decode cX5_leastCut 22 = .ok (.ior, 1) := by decide +kernel
theorem dX5_leastCut_23 : decode cX5_leastCut 23 = .ok (.istore_n 3, 1) := by decide +kernel
theorem dX5_leastCut_24 : decode cX5_leastCut 24 = .ok (.iconst (-1), 1) := by decide +kernel
theorem dX5_leastCut_25 : decode cX5_leastCut 25 = .ok (.istore 4, 2) := by decide +kernel
theorem dX5_leastCut_27 : decode cX5_leastCut 27 = .ok (.bipush 9, 2) := by decide +kernel
theorem dX5_leastCut_29 : decode cX5_leastCut 29 = .ok (.istore 5, 2) := by decide +kernel
theorem dX5_leastCut_31 : decode cX5_leastCut 31 = .ok (.iconst 0, 1) := by decide +kernel
theorem dX5_leastCut_32 : decode cX5_leastCut 32 = .ok (.istore 6, 2) := by decide +kernel
theorem dX5_leastCut_34 : decode cX5_leastCut 34 = .ok (.iload 6, 2) := by decide +kernel
theorem dX5_leastCut_36 : decode cX5_leastCut 36 = .ok (.iconst 1, 1) := by decide +kernel
theorem dX5_leastCut_37 : decode cX5_leastCut 37 = .ok (.aload_n 0, 1) := by decide +kernel
theorem dX5_leastCut_38 : decode cX5_leastCut 38 = .ok (.getfield 9, 3) := by decide +kernel
theorem dX5_leastCut_41 : decode cX5_leastCut 41 = .ok (.ishl, 1) := by decide +kernel
theorem dX5_leastCut_42 : decode cX5_leastCut 42 = .ok (.if_icmp .ge 63, 3) := by decide +kernel
theorem dX5_leastCut_45 : decode cX5_leastCut 45 = .ok (.iload 6, 2) := by decide +kernel
theorem dX5_leastCut_47 : decode cX5_leastCut 47 = .ok (.iload_n 3, 1) := by decide +kernel
theorem dX5_leastCut_48 : decode cX5_leastCut 48 = .ok (.iand, 1) := by decide +kernel
theorem dX5_leastCut_49 : decode cX5_leastCut 49 = .ok (.ifCond .ne 17, 3) := by decide +kernel
theorem dX5_leastCut_52 : decode cX5_leastCut 52 = .ok (.iload 6, 2) := by decide +kernel
theorem dX5_leastCut_54 : decode cX5_leastCut 54 = .ok (.invokestatic 33, 3) := by decide +kernel
theorem dX5_leastCut_57 : decode cX5_leastCut 57 = .ok (.iload 5, 2) := by decide +kernel
theorem dX5_leastCut_59 : decode cX5_leastCut 59 = .ok (.if_icmp .ge 7, 3) := by decide +kernel
theorem dX5_leastCut_62 : decode cX5_leastCut 62 = .ok (.iconst 1, 1) := by decide +kernel
theorem dX5_leastCut_63 : decode cX5_leastCut 63 = .ok (.goto 4, 3) := by decide +kernel
theorem dX5_leastCut_66 : decode cX5_leastCut 66 = .ok (.iconst 0, 1) := by decide +kernel
theorem dX5_leastCut_67 : decode cX5_leastCut 67 = .ok (.istore 7, 2) := by decide +kernel
theorem dX5_leastCut_69 : decode cX5_leastCut 69 = .ok (.iload 7, 2) := by decide +kernel
theorem dX5_leastCut_71 : decode cX5_leastCut 71 = .ok (.ifCond .eq 28, 3) := by decide +kernel
theorem dX5_leastCut_74 : decode cX5_leastCut 74 = .ok (.aload_n 0, 1) := by decide +kernel
theorem dX5_leastCut_75 : decode cX5_leastCut 75 = .ok (.iload_n 1, 1) := by decide +kernel
theorem dX5_leastCut_76 : decode cX5_leastCut 76 = .ok (.iload 6, 2) := by decide +kernel
theorem dX5_leastCut_78 : decode cX5_leastCut 78 = .ok (.invokestatic 25, 3) := by decide +kernel
theorem dX5_leastCut_81 : decode cX5_leastCut 81 = .ok (.iload_n 2, 1) := by decide +kernel
theorem dX5_leastCut_82 : decode cX5_leastCut 82 = .ok (.ishr, 1) := by decide +kernel
theorem dX5_leastCut_83 : decode cX5_leastCut 83 = .ok (.iconst 1, 1) := by decide +kernel
theorem dX5_leastCut_84 : decode cX5_leastCut 84 = .ok (.iand, 1) := by decide +kernel
theorem dX5_leastCut_85 : decode cX5_leastCut 85 = .ok (.ifCond .ne 14, 3) := by decide +kernel
theorem dX5_leastCut_88 : decode cX5_leastCut 88 = .ok (.iload 6, 2) := by decide +kernel
theorem dX5_leastCut_90 : decode cX5_leastCut 90 = .ok (.invokestatic 33, 3) := by decide +kernel
theorem dX5_leastCut_93 : decode cX5_leastCut 93 = .ok (.istore 5, 2) := by decide +kernel
theorem dX5_leastCut_95 : decode cX5_leastCut 95 = .ok (.iload 6, 2) := by decide +kernel
theorem dX5_leastCut_97 : decode cX5_leastCut 97 = .ok (.istore 4, 2) := by decide +kernel
theorem dX5_leastCut_99 : decode cX5_leastCut 99 = .ok (.iinc 6 1, 3) := by decide +kernel
theorem dX5_leastCut_102 : decode cX5_leastCut 102 = .ok (.goto (-68), 3) := by decide +kernel
theorem dX5_leastCut_105 : decode cX5_leastCut 105 = .ok (.iload 4, 2) := by decide +kernel
theorem dX5_leastCut_107 : decode cX5_leastCut 107 = .ok (.ireturn, 1) := by decide +kernel
theorem dX6_init_0 : decode cX6_init 0 = .ok (.aload_n 0, 1) := by decide +kernel
theorem dX6_init_1 : decode cX6_init 1 = .ok (.invokespecial 3, 3) := by decide +kernel
theorem dX6_init_4 : decode cX6_init 4 = .ok (.aload_n 0, 1) := by decide +kernel
theorem dX6_init_5 : decode cX6_init 5 = .ok (.bipush 8, 2) := by decide +kernel
theorem dX6_init_7 : decode cX6_init 7 = .ok (.newarray .int, 2) := by decide +kernel
theorem dX6_init_9 : decode cX6_init 9 = .ok (.putfield 9, 3) := by decide +kernel
theorem dX6_init_12 : decode cX6_init 12 = .ok (.aload_n 0, 1) := by decide +kernel
theorem dX6_init_13 : decode cX6_init 13 = .ok (.sipush 700, 3) := by decide +kernel
theorem dX6_init_16 : decode cX6_init 16 = .ok (.newarray .int, 2) := by decide +kernel
theorem dX6_init_18 : decode cX6_init 18 = .ok (.putfield 15, 3) := by decide +kernel
theorem dX6_init_21 : decode cX6_init 21 = .ok (.aload_n 0, 1) := by decide +kernel
theorem dX6_init_22 : decode cX6_init 22 = .ok (.iconst 3, 1) := by decide +kernel
theorem dX6_init_23 : decode cX6_init 23 = .ok (.newarray .int, 2) := by decide +kernel
theorem dX6_init_25 : decode cX6_init 25 = .ok (.dup, 1) := by decide +kernel
theorem dX6_init_26 : decode cX6_init 26 = .ok (.iconst 0, 1) := by decide +kernel
theorem dX6_init_27 : decode cX6_init 27 = .ok (.iconst (-1), 1) := by decide +kernel
theorem dX6_init_28 : decode cX6_init 28 = .ok (.iastore, 1) := by decide +kernel
theorem dX6_init_29 : decode cX6_init 29 = .ok (.dup, 1) := by decide +kernel
theorem dX6_init_30 : decode cX6_init 30 = .ok (.iconst 1, 1) := by decide +kernel
theorem dX6_init_31 : decode cX6_init 31 = .ok (.iconst (-1), 1) := by decide +kernel
theorem dX6_init_32 : decode cX6_init 32 = .ok (.iastore, 1) := by decide +kernel
theorem dX6_init_33 : decode cX6_init 33 = .ok (.dup, 1) := by decide +kernel
theorem dX6_init_34 : decode cX6_init 34 = .ok (.iconst 2, 1) := by decide +kernel
theorem dX6_init_35 : decode cX6_init 35 = .ok (.iconst (-1), 1) := by decide +kernel
theorem dX6_init_36 : decode cX6_init 36 = .ok (.iastore, 1) := by decide +kernel
theorem dX6_init_37 : decode cX6_init 37 = .ok (.putfield 18, 3) := by decide +kernel
theorem dX6_init_40 : decode cX6_init 40 = .ok (.aload_n 0, 1) := by decide +kernel
theorem dX6_init_41 : decode cX6_init 41 = .ok (.iconst 3, 1) := by decide +kernel
theorem dX6_init_42 : decode cX6_init 42 = .ok (.newarray .int, 2) := by decide +kernel
theorem dX6_init_44 : decode cX6_init 44 = .ok (.dup, 1) := by decide +kernel
theorem dX6_init_45 : decode cX6_init 45 = .ok (.iconst 0, 1) := by decide +kernel
theorem dX6_init_46 : decode cX6_init 46 = .ok (.iconst (-1), 1) := by decide +kernel
theorem dX6_init_47 : decode cX6_init 47 = .ok (.iastore, 1) := by decide +kernel
theorem dX6_init_48 : decode cX6_init 48 = .ok (.dup, 1) := by decide +kernel
theorem dX6_init_49 : decode cX6_init 49 = .ok (.iconst 1, 1) := by decide +kernel
theorem dX6_init_50 : decode cX6_init 50 = .ok (.iconst (-1), 1) := by decide +kernel
theorem dX6_init_51 : decode cX6_init 51 = .ok (.iastore, 1) := by decide +kernel
theorem dX6_init_52 : decode cX6_init 52 = .ok (.dup, 1) := by decide +kernel
theorem dX6_init_53 : decode cX6_init 53 = .ok (.iconst 2, 1) := by decide +kernel
theorem dX6_init_54 : decode cX6_init 54 = .ok (.iconst (-1), 1) := by decide +kernel
theorem dX6_init_55 : decode cX6_init 55 = .ok (.iastore, 1) := by decide +kernel
theorem dX6_init_56 : decode cX6_init 56 = .ok (.putfield 21, 3) := by decide +kernel
theorem dX6_init_59 : decode cX6_init 59 = .ok (.aload_n 0, 1) := by decide +kernel
theorem dX6_init_60 : decode cX6_init 60 = .ok (.bipush 9, 2) := by decide +kernel
theorem dX6_init_62 : decode cX6_init 62 = .ok (.newarray .int, 2) := by decide +kernel
theorem dX6_init_64 : decode cX6_init 64 = .ok (.putfield 24, 3) := by decide +kernel
theorem dX6_init_67 : decode cX6_init 67 = .ok (.aload_n 0, 1) := by decide +kernel
theorem dX6_init_68 : decode cX6_init 68 = .ok (.bipush 32, 2) := by decide +kernel
theorem dX6_init_70 : decode cX6_init 70 = .ok (.newarray .int, 2) := by decide +kernel
theorem dX6_init_72 : decode cX6_init 72 = .ok (.putfield 27, 3) := by decide +kernel
theorem dX6_init_75 : decode cX6_init 75 = .ok (.aload_n 0, 1) := by decide +kernel
theorem dX6_init_76 : decode cX6_init 76 = .ok (.iconst 0, 1) := by decide +kernel
theorem dX6_init_77 : decode cX6_init 77 = .ok (.putfield 30, 3) := by decide +kernel
theorem dX6_init_80 : decode cX6_init 80 = .ok (.aload_n 0, 1) := by decide +kernel
theorem dX6_init_81 : decode cX6_init 81 = .ok (.iconst 0, 1) := by decide +kernel
theorem dX6_init_82 : decode cX6_init 82 = .ok (.putfield 34, 3) := by decide +kernel
theorem dX6_init_85 : decode cX6_init 85 = .ok (.aload_n 0, 1) := by decide +kernel
theorem dX6_init_86 : decode cX6_init 86 = .ok (.bipush 9, 2) := by decide +kernel
theorem dX6_init_88 : decode cX6_init 88 = .ok (.putfield 37, 3) := by decide +kernel
theorem dX6_init_91 : decode cX6_init 91 = .ok (.aload_n 0, 1) := by decide +kernel
theorem dX6_init_92 : decode cX6_init 92 = .ok (.bipush 10, 2) := by decide +kernel
theorem dX6_init_94 : decode cX6_init 94 = .ok (.putfield 40, 3) := by decide +kernel
theorem dX6_init_97 : decode cX6_init 97 = .ok (.return_, 1) := by decide +kernel
theorem dX6_clear_0 : decode cX6_clear 0 = .ok (.aload_n 0, 1) := by decide +kernel
theorem dX6_clear_1 : decode cX6_clear 1 = .ok (.getfield 18, 3) := by decide +kernel
theorem dX6_clear_4 : decode cX6_clear 4 = .ok (.iconst (-1), 1) := by decide +kernel
theorem dX6_clear_5 : decode cX6_clear 5 = .ok (.invokestatic 43, 3) := by decide +kernel
theorem dX6_clear_8 : decode cX6_clear 8 = .ok (.aload_n 0, 1) := by decide +kernel
theorem dX6_clear_9 : decode cX6_clear 9 = .ok (.getfield 21, 3) := by decide +kernel
theorem dX6_clear_12 : decode cX6_clear 12 = .ok (.iconst (-1), 1) := by decide +kernel
theorem dX6_clear_13 : decode cX6_clear 13 = .ok (.invokestatic 43, 3) := by decide +kernel
theorem dX6_clear_16 : decode cX6_clear 16 = .ok (.aload_n 0, 1) := by decide +kernel
theorem dX6_clear_17 : decode cX6_clear 17 = .ok (.iconst 0, 1) := by decide +kernel
theorem dX6_clear_18 : decode cX6_clear 18 = .ok (.putfield 30, 3) := by decide +kernel
theorem dX6_clear_21 : decode cX6_clear 21 = .ok (.aload_n 0, 1) := by decide +kernel
theorem dX6_clear_22 : decode cX6_clear 22 = .ok (.iconst 0, 1) := by decide +kernel
theorem dX6_clear_23 : decode cX6_clear 23 = .ok (.putfield 34, 3) := by decide +kernel
theorem dX6_clear_26 : decode cX6_clear 26 = .ok (.aload_n 0, 1) := by decide +kernel
theorem dX6_clear_27 : decode cX6_clear 27 = .ok (.bipush 9, 2) := by decide +kernel
theorem dX6_clear_29 : decode cX6_clear 29 = .ok (.putfield 37, 3) := by decide +kernel
theorem dX6_clear_32 : decode cX6_clear 32 = .ok (.aload_n 0, 1) := by decide +kernel
theorem dX6_clear_33 : decode cX6_clear 33 = .ok (.bipush 10, 2) := by decide +kernel
theorem dX6_clear_35 : decode cX6_clear 35 = .ok (.putfield 40, 3) := by decide +kernel
theorem dX6_clear_38 : decode cX6_clear 38 = .ok (.return_, 1) := by decide +kernel
theorem dX6_hasRule_0 : decode cX6_hasRule 0 = .ok (.aload_n 0, 1) := by decide +kernel
theorem dX6_hasRule_1 : decode cX6_hasRule 1 = .ok (.getfield 18, 3) := by decide +kernel
theorem dX6_hasRule_4 : decode cX6_hasRule 4 = .ok (.iload_n 1, 1) := by decide +kernel
theorem dX6_hasRule_5 : decode cX6_hasRule 5 = .ok (.iaload, 1) := by decide +kernel
theorem dX6_hasRule_6 : decode cX6_hasRule 6 = .ok (.iconst (-1), 1) := by decide +kernel
theorem dX6_hasRule_7 : decode cX6_hasRule 7 = .ok (.if_icmp .eq 7, 3) := by decide +kernel
theorem dX6_hasRule_10 : decode cX6_hasRule 10 = .ok (.iconst 1, 1) := by decide +kernel
theorem dX6_hasRule_11 : decode cX6_hasRule 11 = .ok (.goto 4, 3) := by decide +kernel
theorem dX6_hasRule_14 : decode cX6_hasRule 14 = .ok (.iconst 0, 1) := by decide +kernel
theorem dX6_hasRule_15 : decode cX6_hasRule 15 = .ok (.ireturn, 1) := by decide +kernel
theorem dX6_beginRule_0 : decode cX6_beginRule 0 = .ok (.aload_n 0, 1) := by decide +kernel
theorem dX6_beginRule_1 : decode cX6_beginRule 1 = .ok (.getfield 18, 3) := by decide +kernel
theorem dX6_beginRule_4 : decode cX6_beginRule 4 = .ok (.iload_n 1, 1) := by decide +kernel
theorem dX6_beginRule_5 : decode cX6_beginRule 5 = .ok (.aload_n 0, 1) := by decide +kernel
theorem dX6_beginRule_6 : decode cX6_beginRule 6 = .ok (.getfield 30, 3) := by decide +kernel
theorem dX6_beginRule_9 : decode cX6_beginRule 9 = .ok (.iastore, 1) := by decide +kernel
theorem dX6_beginRule_10 : decode cX6_beginRule 10 = .ok (.aload_n 0, 1) := by decide +kernel
theorem dX6_beginRule_11 : decode cX6_beginRule 11 = .ok (.getfield 21, 3) := by decide +kernel
theorem dX6_beginRule_14 : decode cX6_beginRule 14 = .ok (.iload_n 1, 1) := by decide +kernel
theorem dX6_beginRule_15 : decode cX6_beginRule 15 = .ok (.aload_n 0, 1) := by decide +kernel
theorem dX6_beginRule_16 : decode cX6_beginRule 16 = .ok (.getfield 30, 3) := by decide +kernel
theorem dX6_beginRule_19 : decode cX6_beginRule 19 = .ok (.iastore, 1) := by decide +kernel
theorem dX6_beginRule_20 : decode cX6_beginRule 20 = .ok (.return_, 1) := by decide +kernel
theorem dX6_write_0 : decode cX6_write 0 = .ok (.aload_n 0, 1) := by decide +kernel
theorem dX6_write_1 : decode cX6_write 1 = .ok (.getfield 30, 3) := by decide +kernel
theorem dX6_write_4 : decode cX6_write 4 = .ok (.sipush 700, 3) := by decide +kernel
theorem dX6_write_7 : decode cX6_write 7 = .ok (.if_icmp .ge 33, 3) := by decide +kernel
theorem dX6_write_10 : decode cX6_write 10 = .ok (.aload_n 0, 1) := by decide +kernel
theorem dX6_write_11 : decode cX6_write 11 = .ok (.getfield 15, 3) := by decide +kernel
theorem dX6_write_14 : decode cX6_write 14 = .ok (.aload_n 0, 1) := by decide +kernel
theorem dX6_write_15 : decode cX6_write 15 = .ok (.getfield 30, 3) := by decide +kernel
theorem dX6_write_18 : decode cX6_write 18 = .ok (.iload_n 2, 1) := by decide +kernel
theorem dX6_write_19 : decode cX6_write 19 = .ok (.iastore, 1) := by decide +kernel
theorem dX6_write_20 : decode cX6_write 20 = .ok (.aload_n 0, 1) := by decide +kernel
theorem dX6_write_21 : decode cX6_write 21 = .ok (.dup, 1) := by decide +kernel
theorem dX6_write_22 : decode cX6_write 22 = .ok (.getfield 30, 3) := by decide +kernel
theorem dX6_write_25 : decode cX6_write 25 = .ok (.iconst 1, 1) := by decide +kernel
theorem dX6_write_26 : decode cX6_write 26 = .ok (.iadd, 1) := by decide +kernel
theorem dX6_write_27 : decode cX6_write 27 = .ok (.putfield 30, 3) := by decide +kernel
theorem dX6_write_30 : decode cX6_write 30 = .ok (.aload_n 0, 1) := by decide +kernel
theorem dX6_write_31 : decode cX6_write 31 = .ok (.getfield 21, 3) := by decide +kernel
theorem dX6_write_34 : decode cX6_write 34 = .ok (.iload_n 1, 1) := by decide +kernel
theorem dX6_write_35 : decode cX6_write 35 = .ok (.aload_n 0, 1) := by decide +kernel
theorem dX6_write_36 : decode cX6_write 36 = .ok (.getfield 30, 3) := by decide +kernel
theorem dX6_write_39 : decode cX6_write 39 = .ok (.iastore, 1) := by decide +kernel
theorem dX6_write_40 : decode cX6_write 40 = .ok (.return_, 1) := by decide +kernel
theorem dX6_addWind_0 : decode cX6_addWind 0 = .ok (.aload_n 0, 1) := by decide +kernel
theorem dX6_addWind_1 : decode cX6_addWind 1 = .ok (.getfield 34, 3) := by decide +kernel
theorem dX6_addWind_4 : decode cX6_addWind 4 = .ok (.bipush 8, 2) := by decide +kernel
theorem dX6_addWind_6 : decode cX6_addWind 6 = .ok (.if_icmp .ge 23, 3) := by decide +kernel
theorem dX6_addWind_9 : decode cX6_addWind 9 = .ok (.aload_n 0, 1) := by decide +kernel
theorem dX6_addWind_10 : decode cX6_addWind 10 = .ok (.getfield 9, 3) := by decide +kernel
theorem dX6_addWind_13 : decode cX6_addWind 13 = .ok (.aload_n 0, 1) := by decide +kernel
theorem dX6_addWind_14 : decode cX6_addWind 14 = .ok (.getfield 34, 3) := by decide +kernel
theorem dX6_addWind_17 : decode cX6_addWind 17 = .ok (.iload_n 1, 1) := by decide +kernel
theorem dX6_addWind_18 : decode cX6_addWind 18 = .ok (.iastore, 1) := by decide +kernel
theorem dX6_addWind_19 : decode cX6_addWind 19 = .ok (.aload_n 0, 1) := by decide +kernel
theorem dX6_addWind_20 : decode cX6_addWind 20 = .ok (.dup, 1) := by decide +kernel
theorem dX6_addWind_21 : decode cX6_addWind 21 = .ok (.getfield 34, 3) := by decide +kernel
theorem dX6_addWind_24 : decode cX6_addWind 24 = .ok (.iconst 1, 1) := by decide +kernel
theorem dX6_addWind_25 : decode cX6_addWind 25 = .ok (.iadd, 1) := by decide +kernel
theorem dX6_addWind_26 : decode cX6_addWind 26 = .ok (.putfield 34, 3) := by decide +kernel
theorem dX6_addWind_29 : decode cX6_addWind 29 = .ok (.return_, 1) := by decide +kernel
theorem dX6_windOn_0 : decode cX6_windOn 0 = .ok (.aload_n 0, 1) := by decide +kernel
theorem dX6_windOn_1 : decode cX6_windOn 1 = .ok (.getfield 34, 3) := by decide +kernel
theorem dX6_windOn_4 : decode cX6_windOn 4 = .ok (.ifCond .le 19, 3) := by decide +kernel
theorem dX6_windOn_7 : decode cX6_windOn 7 = .ok (.aload_n 0, 1) := by decide +kernel
theorem dX6_windOn_8 : decode cX6_windOn 8 = .ok (.getfield 9, 3) := by decide +kernel
theorem dX6_windOn_11 : decode cX6_windOn 11 = .ok (.iload_n 1, 1) := by decide +kernel
theorem dX6_windOn_12 : decode cX6_windOn 12 = .ok (.aload_n 0, 1) := by decide +kernel
theorem dX6_windOn_13 : decode cX6_windOn 13 = .ok (.getfield 34, 3) := by decide +kernel
theorem dX6_windOn_16 : decode cX6_windOn 16 = .ok (.invokestatic 49, 3) := by decide +kernel
theorem dX6_windOn_19 : decode cX6_windOn 19 = .ok (.iaload, 1) := by decide +kernel
theorem dX6_windOn_20 : decode cX6_windOn 20 = .ok (.goto 4, 3) := by decide +kernel
theorem dX6_windOn_23 : decode cX6_windOn 23 = .ok (.iconst 2, 1) := by decide +kernel
theorem dX6_windOn_24 : decode cX6_windOn 24 = .ok (.ireturn, 1) := by decide +kernel
theorem dX6_leaning_0 : decode cX6_leaning 0 = .ok (.aload_n 0, 1) := by decide +kernel
theorem dX6_leaning_1 : decode cX6_leaning 1 = .ok (.iconst 0, 1) := by decide +kernel
theorem dX6_leaning_2 : decode cX6_leaning 2 = .ok (.invokevirtual 55, 3) := by decide +kernel
theorem dX6_leaning_5 : decode cX6_leaning 5 = .ok (.ifCond .ne 19, 3) := by decide +kernel
theorem dX6_leaning_8 : decode cX6_leaning 8 = .ok (.iload_n 2, 1) := by decide +kernel
theorem dX6_leaning_9 : decode cX6_leaning 9 = .ok (.aload_n 1, 1) := by decide +kernel
theorem dX6_leaning_10 : decode cX6_leaning 10 = .ok (.invokevirtual 59, 3) := by decide +kernel
theorem dX6_leaning_13 : decode cX6_leaning 13 = .ok (.iconst 4, 1) := by decide +kernel
theorem dX6_leaning_14 : decode cX6_leaning 14 = .ok (.idiv, 1) := by decide +kernel
theorem dX6_leaning_15 : decode cX6_leaning 15 = .ok (.isub, 1) := by decide +kernel
theorem dX6_leaning_16 : decode cX6_leaning 16 = .ok (.bipush (-9), 2) := by decide +kernel
theorem dX6_leaning_18 : decode cX6_leaning 18 = .ok (.bipush 9, 2) := by decide +kernel
theorem dX6_leaning_20 : decode cX6_leaning 20 = .ok (.invokestatic 65, 3) := by decide +kernel
theorem dX6_leaning_23 : decode cX6_leaning 23 = .ok (.ireturn, 1) := by decide +kernel
theorem dX6_leaning_24 : decode cX6_leaning 24 = .ok (.aload_n 0, 1) := by decide +kernel
theorem dX6_leaning_25 : decode cX6_leaning 25 = .ok (.aload_n 1, 1) := by decide +kernel
theorem dX6_leaning_26 : decode cX6_leaning 26 = .ok (.invokevirtual 69, 3) := by decide +kernel
theorem dX6_leaning_29 : decode cX6_leaning 29 = .ok (.aload_n 0, 1) := by decide +kernel
theorem dX6_leaning_30 : decode cX6_leaning 30 = .ok (.getfield 24, 3) := by decide +kernel
theorem dX6_leaning_33 : decode cX6_leaning 33 = .ok (.iconst 3, 1) := by decide +kernel
theorem dX6_leaning_34 : decode cX6_leaning 34 = .ok (.iload_n 2, 1) := by decide +kernel
theorem dX6_leaning_35 : decode cX6_leaning 35 = .ok (.iastore, 1) := by decide +kernel
theorem dX6_leaning_36 : decode cX6_leaning 36 = .ok (.aload_n 0, 1) := by decide +kernel
theorem dX6_leaning_37 : decode cX6_leaning 37 = .ok (.getfield 24, 3) := by decide +kernel
theorem dX6_leaning_40 : decode cX6_leaning 40 = .ok (.iconst 4, 1) := by decide +kernel
theorem dX6_leaning_41 : decode cX6_leaning 41 = .ok (.aload_n 1, 1) := by decide +kernel
theorem dX6_leaning_42 : decode cX6_leaning 42 = .ok (.invokevirtual 73, 3) := by decide +kernel
theorem dX6_leaning_45 : decode cX6_leaning 45 = .ok (.iastore, 1) := by decide +kernel
theorem dX6_leaning_46 : decode cX6_leaning 46 = .ok (.aload_n 0, 1) := by decide +kernel
theorem dX6_leaning_47 : decode cX6_leaning 47 = .ok (.getfield 24, 3) := by decide +kernel
theorem dX6_leaning_50 : decode cX6_leaning 50 = .ok (.iconst 5, 1) := by decide +kernel
theorem dX6_leaning_51 : decode cX6_leaning 51 = .ok (.aload_n 1, 1) := by decide +kernel
theorem dX6_leaning_52 : decode cX6_leaning 52 = .ok (.invokevirtual 59, 3) := by decide +kernel
theorem dX6_leaning_55 : decode cX6_leaning 55 = .ok (.iastore, 1) := by decide +kernel
theorem dX6_leaning_56 : decode cX6_leaning 56 = .ok (.aload_n 0, 1) := by decide +kernel
theorem dX6_leaning_57 : decode cX6_leaning 57 = .ok (.iconst 0, 1) := by decide +kernel
theorem dX6_leaning_58 : decode cX6_leaning 58 = .ok (.invokevirtual 76, 3) := by decide +kernel
theorem dX6_leaning_61 : decode cX6_leaning 61 = .ok (.bipush (-9), 2) := by decide +kernel
theorem dX6_leaning_63 : decode cX6_leaning 63 = .ok (.bipush 9, 2) := by decide +kernel
theorem dX6_leaning_65 : decode cX6_leaning 65 = .ok (.invokestatic 65, 3) := by decide +kernel
theorem dX6_leaning_68 : decode cX6_leaning 68 = .ok (.ireturn, 1) := by decide +kernel
theorem dX6_gift_0 : decode cX6_gift 0 = .ok (.aload_n 0, 1) := by decide +kernel
theorem dX6_gift_1 : decode cX6_gift 1 = .ok (.iconst 1, 1) := by decide +kernel
theorem dX6_gift_2 : decode cX6_gift 2 = .ok (.invokevirtual 55, 3) := by decide +kernel
theorem dX6_gift_5 : decode cX6_gift 5 = .ok (.ifCond .ne 13, 3) := by decide +kernel
theorem dX6_gift_8 : decode cX6_gift 8 = .ok (.aload_n 1, 1) := by decide +kernel
theorem dX6_gift_9 : decode cX6_gift 9 = .ok (.getfield 80, 3) := by decide +kernel
theorem dX6_gift_12 : decode cX6_gift 12 = .ok (.iload_n 2, 1) := by decide +kernel
theorem dX6_gift_13 : decode cX6_gift 13 = .ok (.iaload, 1) := by decide +kernel
theorem dX6_gift_14 : decode cX6_gift 14 = .ok (.bipush 20, 2) := by decide +kernel
theorem dX6_gift_16 : decode cX6_gift 16 = .ok (.idiv, 1) := by decide +kernel
theorem dX6_gift_17 : decode cX6_gift 17 = .ok (.ireturn, 1) := by decide +kernel
theorem dX6_gift_18 : decode cX6_gift 18 = .ok (.aload_n 0, 1) := by decide +kernel
theorem dX6_gift_19 : decode cX6_gift 19 = .ok (.aload_n 1, 1) := by decide +kernel
theorem dX6_gift_20 : decode cX6_gift 20 = .ok (.iload_n 2, 1) := by decide +kernel
theorem dX6_gift_21 : decode cX6_gift 21 = .ok (.iload_n 3, 1) := by decide +kernel
theorem dX6_gift_22 : decode cX6_gift 22 = .ok (.invokevirtual 83, 3) := by decide +kernel
theorem dX6_gift_25 : decode cX6_gift 25 = .ok (.aload_n 0, 1) := by decide +kernel
theorem dX6_gift_26 : decode cX6_gift 26 = .ok (.iconst 1, 1) := by decide +kernel
theorem dX6_gift_27 : decode cX6_gift 27 = .ok (.invokevirtual 76, 3) := by decide +kernel
theorem dX6_gift_30 : decode cX6_gift 30 = .ok (.iconst 0, 1) := by decide +kernel
theorem dX6_gift_31 : decode cX6_gift 31 = .ok (.bipush 20, 2) := by decide +kernel
theorem dX6_gift_33 : decode cX6_gift 33 = .ok (.invokestatic 65, 3) := by decide +kernel
theorem dX6_gift_36 : decode cX6_gift 36 = .ok (.ireturn, 1) := by decide +kernel
theorem dX6_belief_0 : decode cX6_belief 0 = .ok (.aload_n 0, 1) := by decide +kernel
theorem dX6_belief_1 : decode cX6_belief 1 = .ok (.iconst 2, 1) := by decide +kernel
theorem dX6_belief_2 : decode cX6_belief 2 = .ok (.invokevirtual 55, 3) := by decide +kernel
theorem dX6_belief_5 : decode cX6_belief 5 = .ok (.ifCond .ne 21, 3) := by decide +kernel
theorem dX6_belief_8 : decode cX6_belief 8 = .ok (.iconst 1, 1) := by decide +kernel
theorem dX6_belief_9 : decode cX6_belief 9 = .ok (.iload_n 3, 1) := by decide +kernel
theorem dX6_belief_10 : decode cX6_belief 10 = .ok (.isub, 1) := by decide +kernel
theorem dX6_belief_11 : decode cX6_belief 11 = .ok (.iconst 3, 1) := by decide +kernel
theorem dX6_belief_12 : decode cX6_belief 12 = .ok (.aload_n 1, 1) := by decide +kernel
theorem dX6_belief_13 : decode cX6_belief 13 = .ok (.getfield 87, 3) := by decide +kernel
theorem dX6_belief_16 : decode cX6_belief 16 = .ok (.imul, 1) := by decide +kernel
theorem dX6_belief_17 : decode cX6_belief 17 = .ok (.isub, 1) := by decide +kernel
theorem dX6_belief_18 : decode cX6_belief 18 = .ok (.bipush (-9), 2) := by decide +kernel
theorem dX6_belief_20 : decode cX6_belief 20 = .ok (.bipush 9, 2) := by decide +kernel
theorem dX6_belief_22 : decode cX6_belief 22 = .ok (.invokestatic 65, 3) := by decide +kernel
theorem dX6_belief_25 : decode cX6_belief 25 = .ok (.ireturn, 1) := by decide +kernel
theorem dX6_belief_26 : decode cX6_belief 26 = .ok (.aload_n 0, 1) := by decide +kernel
theorem dX6_belief_27 : decode cX6_belief 27 = .ok (.aload_n 1, 1) := by decide +kernel
theorem dX6_belief_28 : decode cX6_belief 28 = .ok (.iload_n 2, 1) := by decide +kernel
theorem dX6_belief_29 : decode cX6_belief 29 = .ok (.iload_n 3, 1) := by decide +kernel
theorem dX6_belief_30 : decode cX6_belief 30 = .ok (.invokevirtual 83, 3) := by decide +kernel
theorem dX6_belief_33 : decode cX6_belief 33 = .ok (.aload_n 0, 1) := by decide +kernel
theorem dX6_belief_34 : decode cX6_belief 34 = .ok (.iconst 2, 1) := by decide +kernel
theorem dX6_belief_35 : decode cX6_belief 35 = .ok (.invokevirtual 76, 3) := by decide +kernel
theorem dX6_belief_38 : decode cX6_belief 38 = .ok (.bipush (-9), 2) := by decide +kernel
theorem dX6_belief_40 : decode cX6_belief 40 = .ok (.bipush 9, 2) := by decide +kernel
theorem dX6_belief_42 : decode cX6_belief 42 = .ok (.invokestatic 65, 3) := by decide +kernel
theorem dX6_belief_45 : decode cX6_belief 45 = .ok (.ireturn, 1) := by decide +kernel
theorem dX6_setValues_0 : decode cX6_setValues 0 = .ok (.aload_n 0, 1) := by decide +kernel
theorem dX6_setValues_1 : decode cX6_setValues 1 = .ok (.getfield 24, 3) := by decide +kernel
theorem dX6_setValues_4 : decode cX6_setValues 4 = .ok (.iconst 0, 1) := by decide +kernel
theorem dX6_setValues_5 : decode cX6_setValues 5 = .ok (.aload_n 1, 1) := by decide +kernel
theorem dX6_setValues_6 : decode cX6_setValues 6 = .ok (.getfield 90, 3) := by decide +kernel
theorem dX6_setValues_9 : decode cX6_setValues 9 = .ok (.iastore, 1) := by decide +kernel
theorem dX6_setValues_10 : decode cX6_setValues 10 = .ok (.aload_n 0, 1) := by decide +kernel
theorem dX6_setValues_11 : decode cX6_setValues 11 = .ok (.getfield 24, 3) := by decide +kernel
theorem dX6_setValues_14 : decode cX6_setValues 14 = .ok (.iconst 1, 1) := by decide +kernel
theorem dX6_setValues_15 : decode cX6_setValues 15 = .ok (.aload_n 1, 1) := by decide +kernel
theorem dX6_setValues_16 : decode cX6_setValues 16 = .ok (.getfield 93, 3) := by decide +kernel
theorem dX6_setValues_19 : decode cX6_setValues 19 = .ok (.iastore, 1) := by decide +kernel
theorem dX6_setValues_20 : decode cX6_setValues 20 = .ok (.aload_n 0, 1) := by decide +kernel
theorem dX6_setValues_21 : decode cX6_setValues 21 = .ok (.getfield 24, 3) := by decide +kernel
theorem dX6_setValues_24 : decode cX6_setValues 24 = .ok (.iconst 2, 1) := by decide +kernel
theorem dX6_setValues_25 : decode cX6_setValues 25 = .ok (.aload_n 1, 1) := by decide +kernel
theorem dX6_setValues_26 : decode cX6_setValues 26 = .ok (.getfield 96, 3) := by decide +kernel
theorem dX6_setValues_29 : decode cX6_setValues 29 = .ok (.iastore, 1) := by decide +kernel
theorem dX6_setValues_30 : decode cX6_setValues 30 = .ok (.return_, 1) := by decide +kernel
theorem dX6_setWardValues_0 : decode cX6_setWardValues 0 = .ok (.aload_n 0, 1) := by decide +kernel
theorem dX6_setWardValues_1 : decode cX6_setWardValues 1 = .ok (.aload_n 1, 1) := by decide +kernel
theorem dX6_setWardValues_2 : decode cX6_setWardValues 2 = .ok (.invokevirtual 69, 3) := by decide +kernel
theorem dX6_setWardValues_5 : decode cX6_setWardValues 5 = .ok (.aload_n 0, 1) := by decide +kernel
theorem dX6_setWardValues_6 : decode cX6_setWardValues 6 = .ok (.getfield 24, 3) := by decide +kernel
theorem dX6_setWardValues_9 : decode cX6_setWardValues 9 = .ok (.bipush 6, 2) := by decide +kernel
theorem dX6_setWardValues_11 : decode cX6_setWardValues 11 = .ok (.aload_n 1, 1) := by decide +kernel
theorem dX6_setWardValues_12 : decode cX6_setWardValues 12 = .ok (.getfield 80, 3) := by decide +kernel
theorem dX6_setWardValues_15 : decode cX6_setWardValues 15 = .ok (.iload_n 2, 1) := by decide +kernel
theorem dX6_setWardValues_16 : decode cX6_setWardValues 16 = .ok (.iaload, 1) := by decide +kernel
theorem dX6_setWardValues_17 : decode cX6_setWardValues 17 = .ok (.iastore, 1) := by decide +kernel
theorem dX6_setWardValues_18 : decode cX6_setWardValues 18 = .ok (.aload_n 0, 1) := by decide +kernel
theorem dX6_setWardValues_19 : decode cX6_setWardValues 19 = .ok (.getfield 24, 3) := by decide +kernel
theorem dX6_setWardValues_22 : decode cX6_setWardValues 22 = .ok (.bipush 7, 2) := by decide +kernel
theorem dX6_setWardValues_24 : decode cX6_setWardValues 24 = .ok (.iload_n 3, 1) := by decide +kernel
theorem dX6_setWardValues_25 : decode cX6_setWardValues 25 = .ok (.iastore, 1) := by decide +kernel
theorem dX6_setWardValues_26 : decode cX6_setWardValues 26 = .ok (.aload_n 0, 1) := by decide +kernel
theorem dX6_setWardValues_27 : decode cX6_setWardValues 27 = .ok (.getfield 24, 3) := by decide +kernel
theorem dX6_setWardValues_30 : decode cX6_setWardValues 30 = .ok (.bipush 8, 2) := by decide +kernel
theorem dX6_setWardValues_32 : decode cX6_setWardValues 32 = .ok (.aload_n 1, 1) := by decide +kernel
theorem dX6_setWardValues_33 : decode cX6_setWardValues 33 = .ok (.getfield 87, 3) := by decide +kernel
theorem dX6_setWardValues_36 : decode cX6_setWardValues 36 = .ok (.iastore, 1) := by decide +kernel
theorem dX6_setWardValues_37 : decode cX6_setWardValues 37 = .ok (.return_, 1) := by decide +kernel
theorem dX6_run_0 : decode cX6_run 0 = .ok (.iconst 0, 1) := by decide +kernel
theorem dX6_run_1 : decode cX6_run 1 = .ok (.istore_n 2, 1) := by decide +kernel
theorem dX6_run_2 : decode cX6_run 2 = .ok (.aload_n 0, 1) := by decide +kernel
theorem dX6_run_3 : decode cX6_run 3 = .ok (.getfield 18, 3) := by decide +kernel
theorem dX6_run_6 : decode cX6_run 6 = .ok (.iload_n 1, 1) := by decide +kernel
theorem dX6_run_7 : decode cX6_run 7 = .ok (.iaload, 1) := by decide +kernel
theorem dX6_run_8 : decode cX6_run 8 = .ok (.istore_n 3, 1) := by decide +kernel
theorem dX6_run_9 : decode cX6_run 9 = .ok (.iload_n 3, 1) := by decide +kernel
theorem dX6_run_10 : decode cX6_run 10 = .ok (.aload_n 0, 1) := by decide +kernel
theorem dX6_run_11 : decode cX6_run 11 = .ok (.getfield 21, 3) := by decide +kernel
theorem dX6_run_14 : decode cX6_run 14 = .ok (.iload_n 1, 1) := by decide +kernel
theorem dX6_run_15 : decode cX6_run 15 = .ok (.iaload, 1) := by decide +kernel
theorem dX6_run_16 : decode cX6_run 16 = .ok (.if_icmp .ge 142, 3) := by decide +kernel
theorem dX6_run_19 : decode cX6_run 19 = .ok (.aload_n 0, 1) := by decide +kernel
theorem dX6_run_20 : decode cX6_run 20 = .ok (.getfield 15, 3) := by decide +kernel
theorem dX6_run_23 : decode cX6_run 23 = .ok (.iload_n 3, 1) := by decide +kernel
theorem dX6_run_24 : decode cX6_run 24 = .ok (.iaload, 1) := by decide +kernel
theorem dX6_run_25 : decode cX6_run 25 = .ok (.istore 4, 2) := by decide +kernel
theorem dX6_run_27 : decode cX6_run 27 = .ok (.iload 4, 2) := by decide +kernel
theorem dX6_run_29 : decode cX6_run 29 = .ok (.bipush (-10), 2) := by decide +kernel
theorem dX6_run_31 : decode cX6_run 31 = .ok (.if_icmp .le 40, 3) := by decide +kernel
theorem dX6_run_34 : decode cX6_run 34 = .ok (.iload_n 2, 1) := by decide +kernel
theorem dX6_run_35 : decode cX6_run 35 = .ok (.bipush 32, 2) := by decide +kernel
theorem dX6_run_37 : decode cX6_run 37 = .ok (.if_icmp .ge 34, 3) := by decide +kernel
theorem dX6_run_40 : decode cX6_run 40 = .ok (.aload_n 0, 1) := by decide +kernel
theorem dX6_run_41 : decode cX6_run 41 = .ok (.getfield 27, 3) := by decide +kernel
theorem dX6_run_44 : decode cX6_run 44 = .ok (.iload_n 2, 1) := by decide +kernel
theorem dX6_run_45 : decode cX6_run 45 = .ok (.iload 4, 2) := by decide +kernel
theorem dX6_run_47 : decode cX6_run 47 = .ok (.ifCond .lt 8, 3) := by decide +kernel
theorem dX6_run_50 : decode cX6_run 50 = .ok (.iload 4, 2) := by decide +kernel
theorem dX6_run_52 : decode cX6_run 52 = .ok (.goto 12, 3) := by decide +kernel
theorem dX6_run_55 : decode cX6_run 55 = .ok (.aload_n 0, 1) := by decide +kernel
theorem dX6_run_56 : decode cX6_run 56 = .ok (.getfield 24, 3) := by decide +kernel
theorem dX6_run_59 : decode cX6_run 59 = .ok (.iconst (-1), 1) := by decide +kernel
theorem dX6_run_60 : decode cX6_run 60 = .ok (.iload 4, 2) := by decide +kernel
theorem dX6_run_62 : decode cX6_run 62 = .ok (.isub, 1) := by decide +kernel
theorem dX6_run_63 : decode cX6_run 63 = .ok (.iaload, 1) := by decide +kernel
theorem dX6_run_64 : decode cX6_run 64 = .ok (.iastore, 1) := by decide +kernel
theorem dX6_run_65 : decode cX6_run 65 = .ok (.iinc 2 1, 3) := by decide +kernel
theorem dX6_run_68 : decode cX6_run 68 = .ok (.goto 84, 3) := by decide +kernel
theorem dX6_run_71 : decode cX6_run 71 = .ok (.iload 4, 2) := by decide +kernel
theorem dX6_run_73 : decode cX6_run 73 = .ok (.bipush (-10), 2) := by decide +kernel
theorem dX6_run_75 : decode cX6_run 75 = .ok (.if_icmp .ne 35, 3) := by decide +kernel
theorem dX6_run_78 : decode cX6_run 78 = .ok (.iload_n 2, 1) := by decide +kernel
theorem dX6_run_79 : decode cX6_run 79 = .ok (.iconst 1, 1) := by decide +kernel
theorem dX6_run_80 : decode cX6_run 80 = .ok (.if_icmp .lt 30, 3) := by decide +kernel
theorem dX6_run_83 : decode cX6_run 83 = .ok (.aload_n 0, 1) := by decide +kernel
theorem dX6_run_84 : decode cX6_run 84 = .ok (.getfield 27, 3) := by decide +kernel
theorem dX6_run_87 : decode cX6_run 87 = .ok (.iload_n 2, 1) := by decide +kernel
theorem dX6_run_88 : decode cX6_run 88 = .ok (.iconst 1, 1) := by decide +kernel
theorem dX6_run_89 : decode cX6_run 89 = .ok (.isub, 1) := by decide +kernel
theorem dX6_run_90 : decode cX6_run 90 = .ok (.aload_n 0, 1) := by decide +kernel
theorem dX6_run_91 : decode cX6_run 91 = .ok (.getfield 27, 3) := by decide +kernel
theorem dX6_run_94 : decode cX6_run 94 = .ok (.iload_n 2, 1) := by decide +kernel
theorem dX6_run_95 : decode cX6_run 95 = .ok (.iconst 1, 1) := by decide +kernel
theorem dX6_run_96 : decode cX6_run 96 = .ok (.isub, 1) := by decide +kernel
theorem dX6_run_97 : decode cX6_run 97 = .ok (.iaload, 1) := by decide +kernel
theorem dX6_run_98 : decode cX6_run 98 = .ok (.ifCond .ne 7, 3) := by decide +kernel
theorem dX6_run_101 : decode cX6_run 101 = .ok (.iconst 1, 1) := by decide +kernel
theorem dX6_run_102 : decode cX6_run 102 = .ok (.goto 4, 3) := by decide +kernel
theorem dX6_run_105 : decode cX6_run 105 = .ok (.iconst 0, 1) := by decide +kernel
theorem dX6_run_106 : decode cX6_run 106 = .ok (.iastore, 1) := by decide +kernel
theorem dX6_run_107 : decode cX6_run 107 = .ok (.goto 45, 3) := by decide +kernel
theorem dX6_run_110 : decode cX6_run 110 = .ok (.iload 4, 2) := by decide +kernel
theorem dX6_run_112 : decode cX6_run 112 = .ok (.bipush (-10), 2) := by decide +kernel
theorem dX6_run_114 : decode cX6_run 114 = .ok (.if_icmp .ge 38, 3) := by decide +kernel
theorem dX6_run_117 : decode cX6_run 117 = .ok (.iload_n 2, 1) := by decide +kernel
theorem dX6_run_118 : decode cX6_run 118 = .ok (.iconst 2, 1) := by decide +kernel
theorem dX6_run_119 : decode cX6_run 119 = .ok (.if_icmp .lt 33, 3) := by decide +kernel
theorem dX6_run_122 : decode cX6_run 122 = .ok (.iinc 2 (-1), 3) := by decide +kernel
theorem dX6_run_125 : decode cX6_run 125 = .ok (.aload_n 0, 1) := by decide +kernel
theorem dX6_run_126 : decode cX6_run 126 = .ok (.getfield 27, 3) := by decide +kernel
theorem dX6_run_129 : decode cX6_run 129 = .ok (.iload_n 2, 1) := by decide +kernel
theorem dX6_run_130 : decode cX6_run 130 = .ok (.iconst 1, 1) := by decide +kernel
theorem dX6_run_131 : decode cX6_run 131 = .ok (.isub, 1) := by decide +kernel
theorem dX6_run_132 : decode cX6_run 132 = .ok (.iload 4, 2) := by decide +kernel
theorem dX6_run_134 : decode cX6_run 134 = .ok (.aload_n 0, 1) := by decide +kernel
theorem dX6_run_135 : decode cX6_run 135 = .ok (.getfield 27, 3) := by decide +kernel
theorem dX6_run_138 : decode cX6_run 138 = .ok (.iload_n 2, 1) := by decide +kernel
theorem dX6_run_139 : decode cX6_run 139 = .ok (.iconst 1, 1) := by decide +kernel
theorem dX6_run_140 : decode cX6_run 140 = .ok (.isub, 1) := by decide +kernel
theorem dX6_run_141 : decode cX6_run 141 = .ok (.iaload, 1) := by decide +kernel
theorem dX6_run_142 : decode cX6_run 142 = .ok (.aload_n 0, 1) := by decide +kernel
theorem dX6_run_143 : decode cX6_run 143 = .ok (.getfield 27, 3) := by decide +kernel
theorem dX6_run_146 : decode cX6_run 146 = .ok (.iload_n 2, 1) := by decide +kernel
theorem dX6_run_147 : decode cX6_run 147 = .ok (.iaload, 1) := by decide +kernel
theorem dX6_run_148 : decode cX6_run 148 = .ok (.invokestatic 99, 3) := by decide +kernel
theorem dX6_run_151 : decode cX6_run 151 = .ok (.iastore, 1) := by decide +kernel
theorem dX6_run_152 : decode cX6_run 152 = .ok (.iinc 3 1, 3) := by decide +kernel
theorem dX6_run_155 : decode cX6_run 155 = .ok (.goto (-146), 3) := by decide +kernel
theorem dX6_run_158 : decode cX6_run 158 = .ok (.iload_n 2, 1) := by decide +kernel
theorem dX6_run_159 : decode cX6_run 159 = .ok (.ifCond .le 12, 3) := by decide +kernel
theorem dX6_run_162 : decode cX6_run 162 = .ok (.aload_n 0, 1) := by decide +kernel
theorem dX6_run_163 : decode cX6_run 163 = .ok (.getfield 27, 3) := by decide +kernel
theorem dX6_run_166 : decode cX6_run 166 = .ok (.iconst 0, 1) := by decide +kernel
theorem dX6_run_167 : decode cX6_run 167 = .ok (.iaload, 1) := by decide +kernel
theorem dX6_run_168 : decode cX6_run 168 = .ok (.goto 4, 3) := by decide +kernel
theorem dX6_run_171 : decode cX6_run 171 = .ok (.iconst 0, 1) := by decide +kernel
theorem dX6_run_172 : decode cX6_run 172 = .ok (.ireturn, 1) := by decide +kernel
theorem dX6_join_0 : decode cX6_join 0 = .ok (.iload_n 0, 1) := by decide +kernel
theorem dX6_join_1 : decode cX6_join 1 = .ok (.tableswitch 121 (-18) (-11) #[109, 105, 101, 97, 86, 75, 61, 47], 47) := by decide +kernel
theorem dX6_join_48 : decode cX6_join 48 = .ok (.iload_n 1, 1) := by decide +kernel
theorem dX6_join_49 : decode cX6_join 49 = .ok (.ifCond .ne 7, 3) := by decide +kernel
theorem dX6_join_52 : decode cX6_join 52 = .ok (.iload_n 2, 1) := by decide +kernel
theorem dX6_join_53 : decode cX6_join 53 = .ok (.ifCond .eq 7, 3) := by decide +kernel
theorem dX6_join_56 : decode cX6_join 56 = .ok (.iconst 1, 1) := by decide +kernel
theorem dX6_join_57 : decode cX6_join 57 = .ok (.goto 4, 3) := by decide +kernel
theorem dX6_join_60 : decode cX6_join 60 = .ok (.iconst 0, 1) := by decide +kernel
theorem dX6_join_61 : decode cX6_join 61 = .ok (.ireturn, 1) := by decide +kernel
theorem dX6_join_62 : decode cX6_join 62 = .ok (.iload_n 1, 1) := by decide +kernel
theorem dX6_join_63 : decode cX6_join 63 = .ok (.ifCond .eq 11, 3) := by decide +kernel
theorem dX6_join_66 : decode cX6_join 66 = .ok (.iload_n 2, 1) := by decide +kernel
theorem dX6_join_67 : decode cX6_join 67 = .ok (.ifCond .eq 7, 3) := by decide +kernel
theorem dX6_join_70 : decode cX6_join 70 = .ok (.iconst 1, 1) := by decide +kernel
theorem dX6_join_71 : decode cX6_join 71 = .ok (.goto 4, 3) := by decide +kernel
theorem dX6_join_74 : decode cX6_join 74 = .ok (.iconst 0, 1) := by decide +kernel
theorem dX6_join_75 : decode cX6_join 75 = .ok (.ireturn, 1) := by decide +kernel
theorem dX6_join_76 : decode cX6_join 76 = .ok (.iload_n 1, 1) := by decide +kernel
theorem dX6_join_77 : decode cX6_join 77 = .ok (.iload_n 2, 1) := by decide +kernel
theorem dX6_join_78 : decode cX6_join 78 = .ok (.if_icmp .ge 7, 3) := by decide +kernel
theorem dX6_join_81 : decode cX6_join 81 = .ok (.iconst 1, 1) := by decide +kernel
theorem dX6_join_82 : decode cX6_join 82 = .ok (.goto 4, 3) := by decide +kernel
theorem dX6_join_85 : decode cX6_join 85 = .ok (.iconst 0, 1) := by decide +kernel
theorem dX6_join_86 : decode cX6_join 86 = .ok (.ireturn, 1) := by decide +kernel
theorem dX6_join_87 : decode cX6_join 87 = .ok (.iload_n 1, 1) := by decide +kernel
theorem dX6_join_88 : decode cX6_join 88 = .ok (.iload_n 2, 1) := by decide +kernel
theorem dX6_join_89 : decode cX6_join 89 = .ok (.if_icmp .ne 7, 3) := by decide +kernel
theorem dX6_join_92 : decode cX6_join 92 = .ok (.iconst 1, 1) := by decide +kernel
theorem dX6_join_93 : decode cX6_join 93 = .ok (.goto 4, 3) := by decide +kernel
theorem dX6_join_96 : decode cX6_join 96 = .ok (.iconst 0, 1) := by decide +kernel
theorem dX6_join_97 : decode cX6_join 97 = .ok (.ireturn, 1) := by decide +kernel
theorem dX6_join_98 : decode cX6_join 98 = .ok (.iload_n 1, 1) := by decide +kernel
theorem dX6_join_99 : decode cX6_join 99 = .ok (.iload_n 2, 1) := by decide +kernel
theorem dX6_join_100 : decode cX6_join 100 = .ok (.iadd, 1) := by decide +kernel
theorem dX6_join_101 : decode cX6_join 101 = .ok (.ireturn, 1) := by decide +kernel
theorem dX6_join_102 : decode cX6_join 102 = .ok (.iload_n 1, 1) := by decide +kernel
theorem dX6_join_103 : decode cX6_join 103 = .ok (.iload_n 2, 1) := by decide +kernel
theorem dX6_join_104 : decode cX6_join 104 = .ok (.isub, 1) := by decide +kernel
theorem dX6_join_105 : decode cX6_join 105 = .ok (.ireturn, 1) := by decide +kernel
theorem dX6_join_106 : decode cX6_join 106 = .ok (.iload_n 1, 1) := by decide +kernel
theorem dX6_join_107 : decode cX6_join 107 = .ok (.iload_n 2, 1) := by decide +kernel
theorem dX6_join_108 : decode cX6_join 108 = .ok (.imul, 1) := by decide +kernel
theorem dX6_join_109 : decode cX6_join 109 = .ok (.ireturn, 1) := by decide +kernel
theorem dX6_join_110 : decode cX6_join 110 = .ok (.iload_n 2, 1) := by decide +kernel
theorem dX6_join_111 : decode cX6_join 111 = .ok (.ifCond .ne 7, 3) := by decide +kernel
theorem dX6_join_114 : decode cX6_join 114 = .ok (.iconst 0, 1) := by decide +kernel
theorem dX6_join_115 : decode cX6_join 115 = .ok (.goto 6, 3) := by decide +kernel
theorem dX6_join_118 : decode cX6_join 118 = .ok (.iload_n 1, 1) := by decide +kernel
theorem dX6_join_119 : decode cX6_join 119 = .ok (.iload_n 2, 1) := by decide +kernel
theorem dX6_join_120 : decode cX6_join 120 = .ok (.idiv, 1) := by decide +kernel
theorem dX6_join_121 : decode cX6_join 121 = .ok (.ireturn, 1) := by decide +kernel
theorem dX6_join_122 : decode cX6_join 122 = .ok (.iconst 0, 1) := by decide +kernel
theorem dX6_join_123 : decode cX6_join 123 = .ok (.ireturn, 1) := by decide +kernel
theorem dX7_of_0 : decode cX7_of 0 = .ok (.iconst 0, 1) := by decide +kernel
theorem dX7_of_1 : decode cX7_of 1 = .ok (.istore_n 3, 1) := by decide +kernel
theorem dX7_of_2 : decode cX7_of 2 = .ok (.iload_n 3, 1) := by decide +kernel
theorem dX7_of_3 : decode cX7_of 3 = .ok (.getstatic 99, 3) := by decide +kernel
theorem dX7_of_6 : decode cX7_of 6 = .ok (.arraylength, 1) := by decide +kernel
theorem dX7_of_7 : decode cX7_of 7 = .ok (.if_icmp .ge 86, 3) := by decide +kernel
theorem dX7_of_10 : decode cX7_of 10 = .ok (.getstatic 99, 3) := by decide +kernel
theorem dX7_of_13 : decode cX7_of 13 = .ok (.iload_n 3, 1) := by decide +kernel
theorem dX7_of_14 : decode cX7_of 14 = .ok (.aaload, 1) := by decide +kernel
theorem dX7_of_15 : decode cX7_of 15 = .ok (.getfield 91, 3) := by decide +kernel
theorem dX7_of_18 : decode cX7_of 18 = .ok (.astore 4, 2) := by decide +kernel
theorem dX7_of_20 : decode cX7_of 20 = .ok (.iconst 0, 1) := by decide +kernel
theorem dX7_of_21 : decode cX7_of 21 = .ok (.istore 5, 2) := by decide +kernel
theorem dX7_of_23 : decode cX7_of 23 = .ok (.iload 5, 2) := by decide +kernel
theorem dX7_of_25 : decode cX7_of 25 = .ok (.aload 4, 2) := by decide +kernel
theorem dX7_of_27 : decode cX7_of 27 = .ok (.invokevirtual 102, 3) := by decide +kernel
theorem dX7_of_30 : decode cX7_of 30 = .ok (.if_icmp .ge 33, 3) := by decide +kernel
theorem dX7_of_33 : decode cX7_of 33 = .ok (.iload_n 1, 1) := by decide +kernel
theorem dX7_of_34 : decode cX7_of 34 = .ok (.iload 5, 2) := by decide +kernel
theorem dX7_of_36 : decode cX7_of 36 = .ok (.iadd, 1) := by decide +kernel
theorem dX7_of_37 : decode cX7_of 37 = .ok (.iload_n 2, 1) := by decide +kernel
theorem dX7_of_38 : decode cX7_of 38 = .ok (.if_icmp .ge 25, 3) := by decide +kernel
theorem dX7_of_41 : decode cX7_of 41 = .ok (.aload 4, 2) := by decide +kernel
theorem dX7_of_43 : decode cX7_of 43 = .ok (.iload 5, 2) := by decide +kernel
theorem dX7_of_45 : decode cX7_of 45 = .ok (.invokevirtual 108, 3) := by decide +kernel
theorem dX7_of_48 : decode cX7_of 48 = .ok (.aload_n 0, 1) := by decide +kernel
theorem dX7_of_49 : decode cX7_of 49 = .ok (.iload_n 1, 1) := by decide +kernel
theorem dX7_of_50 : decode cX7_of 50 = .ok (.iload 5, 2) := by decide +kernel
theorem dX7_of_52 : decode cX7_of 52 = .ok (.iadd, 1) := by decide +kernel
theorem dX7_of_53 : decode cX7_of 53 = .ok (.baload, 1) := by decide +kernel
theorem dX7_of_54 : decode cX7_of 54 = .ok (.if_icmp .ne 9, 3) := by decide +kernel
theorem dX7_of_57 : decode cX7_of 57 = .ok (.iinc 5 1, 3) := by decide +kernel
theorem dX7_of_60 : decode cX7_of 60 = .ok (.goto (-37), 3) := by decide +kernel
theorem dX7_of_63 : decode cX7_of 63 = .ok (.iload 5, 2) := by decide +kernel
theorem dX7_of_65 : decode cX7_of 65 = .ok (.aload 4, 2) := by decide +kernel
theorem dX7_of_67 : decode cX7_of 67 = .ok (.invokevirtual 102, 3) := by decide +kernel
theorem dX7_of_70 : decode cX7_of 70 = .ok (.if_icmp .ne 17, 3) := by decide +kernel
theorem dX7_of_73 : decode cX7_of 73 = .ok (.iload_n 1, 1) := by decide +kernel
theorem dX7_of_74 : decode cX7_of 74 = .ok (.iload 5, 2) := by decide +kernel
theorem dX7_of_76 : decode cX7_of 76 = .ok (.iadd, 1) := by decide +kernel
theorem dX7_of_77 : decode cX7_of 77 = .ok (.iload_n 2, 1) := by decide +kernel
theorem dX7_of_78 : decode cX7_of 78 = .ok (.if_icmp .ne 9, 3) := by decide +kernel
theorem dX7_of_81 : decode cX7_of 81 = .ok (.getstatic 99, 3) := by decide +kernel
theorem dX7_of_84 : decode cX7_of 84 = .ok (.iload_n 3, 1) := by decide +kernel
theorem dX7_of_85 : decode cX7_of 85 = .ok (.aaload, 1) := by decide +kernel
theorem dX7_of_86 : decode cX7_of 86 = .ok (.areturn, 1) := by decide +kernel
theorem dX7_of_87 : decode cX7_of 87 = .ok (.iinc 3 1, 3) := by decide +kernel
theorem dX7_of_90 : decode cX7_of 90 = .ok (.goto (-88), 3) := by decide +kernel
theorem dX7_of_93 : decode cX7_of 93 = .ok (.getstatic 69, 3) := by decide +kernel
theorem dX7_of_96 : decode cX7_of 96 = .ok (.areturn, 1) := by decide +kernel
theorem dX7_isValueOf_0 : decode cX7_isValueOf 0 = .ok (.aload_n 0, 1) := by decide +kernel
theorem dX7_isValueOf_1 : decode cX7_isValueOf 1 = .ok (.getfield 95, 3) := by decide +kernel
theorem dX7_isValueOf_4 : decode cX7_isValueOf 4 = .ok (.ifCond .ge 5, 3) := by decide +kernel
theorem dX7_isValueOf_7 : decode cX7_isValueOf 7 = .ok (.iconst 0, 1) := by decide +kernel
theorem dX7_isValueOf_8 : decode cX7_isValueOf 8 = .ok (.ireturn, 1) := by decide +kernel
theorem dX7_isValueOf_9 : decode cX7_isValueOf 9 = .ok (.aload_n 0, 1) := by decide +kernel
theorem dX7_isValueOf_10 : decode cX7_isValueOf 10 = .ok (.getfield 95, 3) := by decide +kernel
theorem dX7_isValueOf_13 : decode cX7_isValueOf 13 = .ok (.iconst 3, 1) := by decide +kernel
theorem dX7_isValueOf_14 : decode cX7_isValueOf 14 = .ok (.if_icmp .ge 5, 3) := by decide +kernel
theorem dX7_isValueOf_17 : decode cX7_isValueOf 17 = .ok (.iconst 1, 1) := by decide +kernel
theorem dX7_isValueOf_18 : decode cX7_isValueOf 18 = .ok (.ireturn, 1) := by decide +kernel
theorem dX7_isValueOf_19 : decode cX7_isValueOf 19 = .ok (.iload_n 1, 1) := by decide +kernel
theorem dX7_isValueOf_20 : decode cX7_isValueOf 20 = .ok (.ifCond .ne 20, 3) := by decide +kernel
theorem dX7_isValueOf_23 : decode cX7_isValueOf 23 = .ok (.aload_n 0, 1) := by decide +kernel
theorem dX7_isValueOf_24 : decode cX7_isValueOf 24 = .ok (.getfield 95, 3) := by decide +kernel
theorem dX7_isValueOf_27 : decode cX7_isValueOf 27 = .ok (.bipush 6, 2) := by decide +kernel
theorem dX7_isValueOf_29 : decode cX7_isValueOf 29 = .ok (.if_icmp .ge 7, 3) := by decide +kernel
theorem dX7_isValueOf_32 : decode cX7_isValueOf 32 = .ok (.iconst 1, 1) := by decide +kernel
theorem dX7_isValueOf_33 : decode cX7_isValueOf 33 = .ok (.goto 21, 3) := by decide +kernel
theorem dX7_isValueOf_36 : decode cX7_isValueOf 36 = .ok (.iconst 0, 1) := by decide +kernel
theorem dX7_isValueOf_37 : decode cX7_isValueOf 37 = .ok (.goto 17, 3) := by decide +kernel
theorem dX7_isValueOf_40 : decode cX7_isValueOf 40 = .ok (.aload_n 0, 1) := by decide +kernel
theorem dX7_isValueOf_41 : decode cX7_isValueOf 41 = .ok (.getfield 95, 3) := by decide +kernel
theorem dX7_isValueOf_44 : decode cX7_isValueOf 44 = .ok (.bipush 6, 2) := by decide +kernel
theorem dX7_isValueOf_46 : decode cX7_isValueOf 46 = .ok (.if_icmp .lt 7, 3) := by decide +kernel
theorem dX7_isValueOf_49 : decode cX7_isValueOf 49 = .ok (.iconst 1, 1) := by decide +kernel
theorem dX7_isValueOf_50 : decode cX7_isValueOf 50 = .ok (.goto 4, 3) := by decide +kernel
theorem dX7_isValueOf_53 : decode cX7_isValueOf 53 = .ok (.iconst 0, 1) := by decide +kernel
theorem dX7_isValueOf_54 : decode cX7_isValueOf 54 = .ok (.ireturn, 1) := by decide +kernel
theorem dJ11_isValidCodePoint_9a6ad_0 : decode cJ11_isValidCodePoint_9a6ad 0 = .ok (.iload_n 0, 1) := by decide +kernel
theorem dJ11_isValidCodePoint_9a6ad_1 : decode cJ11_isValidCodePoint_9a6ad 1 = .ok (.bipush 16, 2) := by decide +kernel
theorem dJ11_isValidCodePoint_9a6ad_3 : decode cJ11_isValidCodePoint_9a6ad 3 = .ok (.iushr, 1) := by decide +kernel
theorem dJ11_isValidCodePoint_9a6ad_4 : decode cJ11_isValidCodePoint_9a6ad 4 = .ok (.istore_n 1, 1) := by decide +kernel
theorem dJ11_isValidCodePoint_9a6ad_5 : decode cJ11_isValidCodePoint_9a6ad 5 = .ok (.iload_n 1, 1) := by decide +kernel
theorem dJ11_isValidCodePoint_9a6ad_6 : decode cJ11_isValidCodePoint_9a6ad 6 = .ok (.bipush 17, 2) := by decide +kernel
theorem dJ11_isValidCodePoint_9a6ad_8 : decode cJ11_isValidCodePoint_9a6ad 8 = .ok (.if_icmp .ge 7, 3) := by decide +kernel
theorem dJ11_isValidCodePoint_9a6ad_11 : decode cJ11_isValidCodePoint_9a6ad 11 = .ok (.iconst 1, 1) := by decide +kernel
theorem dJ11_isValidCodePoint_9a6ad_12 : decode cJ11_isValidCodePoint_9a6ad 12 = .ok (.goto 4, 3) := by decide +kernel
theorem dJ11_isValidCodePoint_9a6ad_15 : decode cJ11_isValidCodePoint_9a6ad 15 = .ok (.iconst 0, 1) := by decide +kernel
theorem dJ11_isValidCodePoint_9a6ad_16 : decode cJ11_isValidCodePoint_9a6ad 16 = .ok (.ireturn, 1) := by decide +kernel
theorem dJ11_highSurrogate_5068e_0 : decode cJ11_highSurrogate_5068e 0 = .ok (.iload_n 0, 1) := by decide +kernel
theorem dJ11_highSurrogate_5068e_1 : decode cJ11_highSurrogate_5068e 1 = .ok (.bipush 10, 2) := by decide +kernel
theorem dJ11_highSurrogate_5068e_3 : decode cJ11_highSurrogate_5068e 3 = .ok (.iushr, 1) := by decide +kernel
theorem dJ11_highSurrogate_5068e_4 : decode cJ11_highSurrogate_5068e 4 = .ok (.ldc 110, 2) := by decide +kernel
theorem dJ11_highSurrogate_5068e_6 : decode cJ11_highSurrogate_5068e 6 = .ok (.iadd, 1) := by decide +kernel
theorem dJ11_highSurrogate_5068e_7 : decode cJ11_highSurrogate_5068e 7 = .ok (.i2c, 1) := by decide +kernel
theorem dJ11_highSurrogate_5068e_8 : decode cJ11_highSurrogate_5068e 8 = .ok (.ireturn, 1) := by decide +kernel
theorem dJ11_lowSurrogate_5068e_0 : decode cJ11_lowSurrogate_5068e 0 = .ok (.iload_n 0, 1) := by decide +kernel
theorem dJ11_lowSurrogate_5068e_1 : decode cJ11_lowSurrogate_5068e 1 = .ok (.sipush 1023, 3) := by decide +kernel
theorem dJ11_lowSurrogate_5068e_4 : decode cJ11_lowSurrogate_5068e 4 = .ok (.iand, 1) := by decide +kernel
theorem dJ11_lowSurrogate_5068e_5 : decode cJ11_lowSurrogate_5068e 5 = .ok (.ldc 76, 2) := by decide +kernel
theorem dJ11_lowSurrogate_5068e_7 : decode cJ11_lowSurrogate_5068e 7 = .ok (.iadd, 1) := by decide +kernel
theorem dJ11_lowSurrogate_5068e_8 : decode cJ11_lowSurrogate_5068e 8 = .ok (.i2c, 1) := by decide +kernel
theorem dJ11_lowSurrogate_5068e_9 : decode cJ11_lowSurrogate_5068e 9 = .ok (.ireturn, 1) := by decide +kernel
theorem dJx29ce0_ordinal_8abf5_0 : decode cJx29ce0_ordinal_8abf5 0 = .ok (.aload_n 0, 1) := by decide +kernel
theorem dJx29ce0_ordinal_8abf5_1 : decode cJx29ce0_ordinal_8abf5 1 = .ok (.getfield 7, 3) := by decide +kernel
theorem dJx29ce0_ordinal_8abf5_4 : decode cJx29ce0_ordinal_8abf5 4 = .ok (.ireturn, 1) := by decide +kernel
theorem dJ6_bitCount_0f7a4_0 : decode cJ6_bitCount_0f7a4 0 = .ok (.iload_n 0, 1) := by decide +kernel
theorem dJ6_bitCount_0f7a4_1 : decode cJ6_bitCount_0f7a4 1 = .ok (.iload_n 0, 1) := by decide +kernel
theorem dJ6_bitCount_0f7a4_2 : decode cJ6_bitCount_0f7a4 2 = .ok (.iconst 1, 1) := by decide +kernel
theorem dJ6_bitCount_0f7a4_3 : decode cJ6_bitCount_0f7a4 3 = .ok (.iushr, 1) := by decide +kernel
theorem dJ6_bitCount_0f7a4_4 : decode cJ6_bitCount_0f7a4 4 = .ok (.ldc_w 265, 3) := by decide +kernel
theorem dJ6_bitCount_0f7a4_7 : decode cJ6_bitCount_0f7a4 7 = .ok (.iand, 1) := by decide +kernel
theorem dJ6_bitCount_0f7a4_8 : decode cJ6_bitCount_0f7a4 8 = .ok (.isub, 1) := by decide +kernel
theorem dJ6_bitCount_0f7a4_9 : decode cJ6_bitCount_0f7a4 9 = .ok (.istore_n 0, 1) := by decide +kernel
theorem dJ6_bitCount_0f7a4_10 : decode cJ6_bitCount_0f7a4 10 = .ok (.iload_n 0, 1) := by decide +kernel
theorem dJ6_bitCount_0f7a4_11 : decode cJ6_bitCount_0f7a4 11 = .ok (.ldc_w 266, 3) := by decide +kernel
theorem dJ6_bitCount_0f7a4_14 : decode cJ6_bitCount_0f7a4 14 = .ok (.iand, 1) := by decide +kernel
theorem dJ6_bitCount_0f7a4_15 : decode cJ6_bitCount_0f7a4 15 = .ok (.iload_n 0, 1) := by decide +kernel
theorem dJ6_bitCount_0f7a4_16 : decode cJ6_bitCount_0f7a4 16 = .ok (.iconst 2, 1) := by decide +kernel
theorem dJ6_bitCount_0f7a4_17 : decode cJ6_bitCount_0f7a4 17 = .ok (.iushr, 1) := by decide +kernel
theorem dJ6_bitCount_0f7a4_18 : decode cJ6_bitCount_0f7a4 18 = .ok (.ldc_w 266, 3) := by decide +kernel
theorem dJ6_bitCount_0f7a4_21 : decode cJ6_bitCount_0f7a4 21 = .ok (.iand, 1) := by decide +kernel
theorem dJ6_bitCount_0f7a4_22 : decode cJ6_bitCount_0f7a4 22 = .ok (.iadd, 1) := by decide +kernel
theorem dJ6_bitCount_0f7a4_23 : decode cJ6_bitCount_0f7a4 23 = .ok (.istore_n 0, 1) := by decide +kernel
theorem dJ6_bitCount_0f7a4_24 : decode cJ6_bitCount_0f7a4 24 = .ok (.iload_n 0, 1) := by decide +kernel
theorem dJ6_bitCount_0f7a4_25 : decode cJ6_bitCount_0f7a4 25 = .ok (.iload_n 0, 1) := by decide +kernel
theorem dJ6_bitCount_0f7a4_26 : decode cJ6_bitCount_0f7a4 26 = .ok (.iconst 4, 1) := by decide +kernel
theorem dJ6_bitCount_0f7a4_27 : decode cJ6_bitCount_0f7a4 27 = .ok (.iushr, 1) := by decide +kernel
theorem dJ6_bitCount_0f7a4_28 : decode cJ6_bitCount_0f7a4 28 = .ok (.iadd, 1) := by decide +kernel
theorem dJ6_bitCount_0f7a4_29 : decode cJ6_bitCount_0f7a4 29 = .ok (.ldc_w 267, 3) := by decide +kernel
theorem dJ6_bitCount_0f7a4_32 : decode cJ6_bitCount_0f7a4 32 = .ok (.iand, 1) := by decide +kernel
theorem dJ6_bitCount_0f7a4_33 : decode cJ6_bitCount_0f7a4 33 = .ok (.istore_n 0, 1) := by decide +kernel
theorem dJ6_bitCount_0f7a4_34 : decode cJ6_bitCount_0f7a4 34 = .ok (.iload_n 0, 1) := by decide +kernel
theorem dJ6_bitCount_0f7a4_35 : decode cJ6_bitCount_0f7a4 35 = .ok (.iload_n 0, 1) := by decide +kernel
theorem dJ6_bitCount_0f7a4_36 : decode cJ6_bitCount_0f7a4 36 = .ok (.bipush 8, 2) := by decide +kernel
theorem dJ6_bitCount_0f7a4_38 : decode cJ6_bitCount_0f7a4 38 = .ok (.iushr, 1) := by decide +kernel
theorem dJ6_bitCount_0f7a4_39 : decode cJ6_bitCount_0f7a4 39 = .ok (.iadd, 1) := by decide +kernel
theorem dJ6_bitCount_0f7a4_40 : decode cJ6_bitCount_0f7a4 40 = .ok (.istore_n 0, 1) := by decide +kernel
theorem dJ6_bitCount_0f7a4_41 : decode cJ6_bitCount_0f7a4 41 = .ok (.iload_n 0, 1) := by decide +kernel
theorem dJ6_bitCount_0f7a4_42 : decode cJ6_bitCount_0f7a4 42 = .ok (.iload_n 0, 1) := by decide +kernel
theorem dJ6_bitCount_0f7a4_43 : decode cJ6_bitCount_0f7a4 43 = .ok (.bipush 16, 2) := by decide +kernel
theorem dJ6_bitCount_0f7a4_45 : decode cJ6_bitCount_0f7a4 45 = .ok (.iushr, 1) := by decide +kernel
theorem dJ6_bitCount_0f7a4_46 : decode cJ6_bitCount_0f7a4 46 = .ok (.iadd, 1) := by decide +kernel
theorem dJ6_bitCount_0f7a4_47 : decode cJ6_bitCount_0f7a4 47 = .ok (.istore_n 0, 1) := by decide +kernel
theorem dJ6_bitCount_0f7a4_48 : decode cJ6_bitCount_0f7a4 48 = .ok (.iload_n 0, 1) := by decide +kernel
theorem dJ6_bitCount_0f7a4_49 : decode cJ6_bitCount_0f7a4 49 = .ok (.bipush 63, 2) := by decide +kernel
theorem dJ6_bitCount_0f7a4_51 : decode cJ6_bitCount_0f7a4 51 = .ok (.iand, 1) := by decide +kernel
theorem dJ6_bitCount_0f7a4_52 : decode cJ6_bitCount_0f7a4 52 = .ok (.ireturn, 1) := by decide +kernel
theorem dJ13_bitCount_95d88_0 : decode cJ13_bitCount_95d88 0 = .ok (.lload_n 0, 1) := by decide +kernel
theorem dJ13_bitCount_95d88_1 : decode cJ13_bitCount_95d88 1 = .ok (.lload_n 0, 1) := by decide +kernel
theorem dJ13_bitCount_95d88_2 : decode cJ13_bitCount_95d88 2 = .ok (.iconst 1, 1) := by decide +kernel
theorem dJ13_bitCount_95d88_3 : decode cJ13_bitCount_95d88 3 = .ok (.lushr, 1) := by decide +kernel
theorem dJ13_bitCount_95d88_4 : decode cJ13_bitCount_95d88 4 = .ok (.ldc2_w 314, 3) := by decide +kernel
theorem dJ13_bitCount_95d88_7 : decode cJ13_bitCount_95d88 7 = .ok (.land, 1) := by decide +kernel
theorem dJ13_bitCount_95d88_8 : decode cJ13_bitCount_95d88 8 = .ok (.lsub, 1) := by decide +kernel
theorem dJ13_bitCount_95d88_9 : decode cJ13_bitCount_95d88 9 = .ok (.lstore_n 0, 1) := by decide +kernel
theorem dJ13_bitCount_95d88_10 : decode cJ13_bitCount_95d88 10 = .ok (.lload_n 0, 1) := by decide +kernel
theorem dJ13_bitCount_95d88_11 : decode cJ13_bitCount_95d88 11 = .ok (.ldc2_w 316, 3) := by decide +kernel
theorem dJ13_bitCount_95d88_14 : decode cJ13_bitCount_95d88 14 = .ok (.land, 1) := by decide +kernel
theorem dJ13_bitCount_95d88_15 : decode cJ13_bitCount_95d88 15 = .ok (.lload_n 0, 1) := by decide +kernel
theorem dJ13_bitCount_95d88_16 : decode cJ13_bitCount_95d88 16 = .ok (.iconst 2, 1) := by decide +kernel
theorem dJ13_bitCount_95d88_17 : decode cJ13_bitCount_95d88 17 = .ok (.lushr, 1) := by decide +kernel
theorem dJ13_bitCount_95d88_18 : decode cJ13_bitCount_95d88 18 = .ok (.ldc2_w 316, 3) := by decide +kernel
theorem dJ13_bitCount_95d88_21 : decode cJ13_bitCount_95d88 21 = .ok (.land, 1) := by decide +kernel
theorem dJ13_bitCount_95d88_22 : decode cJ13_bitCount_95d88 22 = .ok (.ladd, 1) := by decide +kernel
theorem dJ13_bitCount_95d88_23 : decode cJ13_bitCount_95d88 23 = .ok (.lstore_n 0, 1) := by decide +kernel
theorem dJ13_bitCount_95d88_24 : decode cJ13_bitCount_95d88 24 = .ok (.lload_n 0, 1) := by decide +kernel
theorem dJ13_bitCount_95d88_25 : decode cJ13_bitCount_95d88 25 = .ok (.lload_n 0, 1) := by decide +kernel
theorem dJ13_bitCount_95d88_26 : decode cJ13_bitCount_95d88 26 = .ok (.iconst 4, 1) := by decide +kernel
theorem dJ13_bitCount_95d88_27 : decode cJ13_bitCount_95d88 27 = .ok (.lushr, 1) := by decide +kernel
theorem dJ13_bitCount_95d88_28 : decode cJ13_bitCount_95d88 28 = .ok (.ladd, 1) := by decide +kernel
theorem dJ13_bitCount_95d88_29 : decode cJ13_bitCount_95d88 29 = .ok (.ldc2_w 318, 3) := by decide +kernel
theorem dJ13_bitCount_95d88_32 : decode cJ13_bitCount_95d88 32 = .ok (.land, 1) := by decide +kernel
theorem dJ13_bitCount_95d88_33 : decode cJ13_bitCount_95d88 33 = .ok (.lstore_n 0, 1) := by decide +kernel
theorem dJ13_bitCount_95d88_34 : decode cJ13_bitCount_95d88 34 = .ok (.lload_n 0, 1) := by decide +kernel
theorem dJ13_bitCount_95d88_35 : decode cJ13_bitCount_95d88 35 = .ok (.lload_n 0, 1) := by decide +kernel
theorem dJ13_bitCount_95d88_36 : decode cJ13_bitCount_95d88 36 = .ok (.bipush 8, 2) := by decide +kernel
theorem dJ13_bitCount_95d88_38 : decode cJ13_bitCount_95d88 38 = .ok (.lushr, 1) := by decide +kernel
theorem dJ13_bitCount_95d88_39 : decode cJ13_bitCount_95d88 39 = .ok (.ladd, 1) := by decide +kernel
theorem dJ13_bitCount_95d88_40 : decode cJ13_bitCount_95d88 40 = .ok (.lstore_n 0, 1) := by decide +kernel
theorem dJ13_bitCount_95d88_41 : decode cJ13_bitCount_95d88 41 = .ok (.lload_n 0, 1) := by decide +kernel
theorem dJ13_bitCount_95d88_42 : decode cJ13_bitCount_95d88 42 = .ok (.lload_n 0, 1) := by decide +kernel
theorem dJ13_bitCount_95d88_43 : decode cJ13_bitCount_95d88 43 = .ok (.bipush 16, 2) := by decide +kernel
theorem dJ13_bitCount_95d88_45 : decode cJ13_bitCount_95d88 45 = .ok (.lushr, 1) := by decide +kernel
theorem dJ13_bitCount_95d88_46 : decode cJ13_bitCount_95d88 46 = .ok (.ladd, 1) := by decide +kernel
theorem dJ13_bitCount_95d88_47 : decode cJ13_bitCount_95d88 47 = .ok (.lstore_n 0, 1) := by decide +kernel
theorem dJ13_bitCount_95d88_48 : decode cJ13_bitCount_95d88 48 = .ok (.lload_n 0, 1) := by decide +kernel
theorem dJ13_bitCount_95d88_49 : decode cJ13_bitCount_95d88 49 = .ok (.lload_n 0, 1) := by decide +kernel
theorem dJ13_bitCount_95d88_50 : decode cJ13_bitCount_95d88 50 = .ok (.bipush 32, 2) := by decide +kernel
theorem dJ13_bitCount_95d88_52 : decode cJ13_bitCount_95d88 52 = .ok (.lushr, 1) := by decide +kernel
theorem dJ13_bitCount_95d88_53 : decode cJ13_bitCount_95d88 53 = .ok (.ladd, 1) := by decide +kernel
theorem dJ13_bitCount_95d88_54 : decode cJ13_bitCount_95d88 54 = .ok (.lstore_n 0, 1) := by decide +kernel
theorem dJ13_bitCount_95d88_55 : decode cJ13_bitCount_95d88 55 = .ok (.lload_n 0, 1) := by decide +kernel
theorem dJ13_bitCount_95d88_56 : decode cJ13_bitCount_95d88 56 = .ok (.l2i, 1) := by decide +kernel
theorem dJ13_bitCount_95d88_57 : decode cJ13_bitCount_95d88 57 = .ok (.bipush 127, 2) := by decide +kernel
theorem dJ13_bitCount_95d88_59 : decode cJ13_bitCount_95d88 59 = .ok (.iand, 1) := by decide +kernel
theorem dJ13_bitCount_95d88_60 : decode cJ13_bitCount_95d88 60 = .ok (.ireturn, 1) := by decide +kernel
theorem dJ9_floorMod_7cf53_0 : decode cJ9_floorMod_7cf53 0 = .ok (.iload_n 0, 1) := by decide +kernel
theorem dJ9_floorMod_7cf53_1 : decode cJ9_floorMod_7cf53 1 = .ok (.iload_n 1, 1) := by decide +kernel
theorem dJ9_floorMod_7cf53_2 : decode cJ9_floorMod_7cf53 2 = .ok (.irem, 1) := by decide +kernel
theorem dJ9_floorMod_7cf53_3 : decode cJ9_floorMod_7cf53 3 = .ok (.istore_n 2, 1) := by decide +kernel
theorem dJ9_floorMod_7cf53_4 : decode cJ9_floorMod_7cf53 4 = .ok (.iload_n 0, 1) := by decide +kernel
theorem dJ9_floorMod_7cf53_5 : decode cJ9_floorMod_7cf53 5 = .ok (.iload_n 1, 1) := by decide +kernel
theorem dJ9_floorMod_7cf53_6 : decode cJ9_floorMod_7cf53 6 = .ok (.ixor, 1) := by decide +kernel
theorem dJ9_floorMod_7cf53_7 : decode cJ9_floorMod_7cf53 7 = .ok (.ifCond .ge 11, 3) := by decide +kernel
theorem dJ9_floorMod_7cf53_10 : decode cJ9_floorMod_7cf53 10 = .ok (.iload_n 2, 1) := by decide +kernel
theorem dJ9_floorMod_7cf53_11 : decode cJ9_floorMod_7cf53 11 = .ok (.ifCond .eq 7, 3) := by decide +kernel
theorem dJ9_floorMod_7cf53_14 : decode cJ9_floorMod_7cf53 14 = .ok (.iload_n 2, 1) := by decide +kernel
theorem dJ9_floorMod_7cf53_15 : decode cJ9_floorMod_7cf53 15 = .ok (.iload_n 1, 1) := by decide +kernel
theorem dJ9_floorMod_7cf53_16 : decode cJ9_floorMod_7cf53 16 = .ok (.iadd, 1) := by decide +kernel
theorem dJ9_floorMod_7cf53_17 : decode cJ9_floorMod_7cf53 17 = .ok (.ireturn, 1) := by decide +kernel
theorem dJ9_floorMod_7cf53_18 : decode cJ9_floorMod_7cf53 18 = .ok (.iload_n 2, 1) := by decide +kernel
theorem dJ9_floorMod_7cf53_19 : decode cJ9_floorMod_7cf53 19 = .ok (.ireturn, 1) := by decide +kernel
theorem dJ9_abs_0f7a4_0 : decode cJ9_abs_0f7a4 0 = .ok (.iload_n 0, 1) := by decide +kernel
theorem dJ9_abs_0f7a4_1 : decode cJ9_abs_0f7a4 1 = .ok (.ifCond .ge 8, 3) := by decide +kernel
theorem dJ9_abs_0f7a4_4 : decode cJ9_abs_0f7a4 4 = .ok (.iload_n 0, 1) := by decide +kernel
theorem dJ9_abs_0f7a4_5 : decode cJ9_abs_0f7a4 5 = .ok (.ineg, 1) := by decide +kernel
theorem dJ9_abs_0f7a4_6 : decode cJ9_abs_0f7a4 6 = .ok (.goto 4, 3) := by decide +kernel
theorem dJ9_abs_0f7a4_9 : decode cJ9_abs_0f7a4 9 = .ok (.iload_n 0, 1) := by decide +kernel
theorem dJ9_abs_0f7a4_10 : decode cJ9_abs_0f7a4 10 = .ok (.ireturn, 1) := by decide +kernel
theorem dJ9_max_7cf53_0 : decode cJ9_max_7cf53 0 = .ok (.iload_n 0, 1) := by decide +kernel
theorem dJ9_max_7cf53_1 : decode cJ9_max_7cf53 1 = .ok (.iload_n 1, 1) := by decide +kernel
theorem dJ9_max_7cf53_2 : decode cJ9_max_7cf53 2 = .ok (.if_icmp .lt 7, 3) := by decide +kernel
theorem dJ9_max_7cf53_5 : decode cJ9_max_7cf53 5 = .ok (.iload_n 0, 1) := by decide +kernel
theorem dJ9_max_7cf53_6 : decode cJ9_max_7cf53 6 = .ok (.goto 4, 3) := by decide +kernel
theorem dJ9_max_7cf53_9 : decode cJ9_max_7cf53 9 = .ok (.iload_n 1, 1) := by decide +kernel
theorem dJ9_max_7cf53_10 : decode cJ9_max_7cf53 10 = .ok (.ireturn, 1) := by decide +kernel
theorem dJ9_min_7cf53_0 : decode cJ9_min_7cf53 0 = .ok (.iload_n 0, 1) := by decide +kernel
theorem dJ9_min_7cf53_1 : decode cJ9_min_7cf53 1 = .ok (.iload_n 1, 1) := by decide +kernel
theorem dJ9_min_7cf53_2 : decode cJ9_min_7cf53 2 = .ok (.if_icmp .gt 7, 3) := by decide +kernel
theorem dJ9_min_7cf53_5 : decode cJ9_min_7cf53 5 = .ok (.iload_n 0, 1) := by decide +kernel
theorem dJ9_min_7cf53_6 : decode cJ9_min_7cf53 6 = .ok (.goto 4, 3) := by decide +kernel
theorem dJ9_min_7cf53_9 : decode cJ9_min_7cf53 9 = .ok (.iload_n 1, 1) := by decide +kernel
theorem dJ9_min_7cf53_10 : decode cJ9_min_7cf53 10 = .ok (.ireturn, 1) := by decide +kernel
theorem dJ0_length_8abf5_0 : decode cJ0_length_8abf5 0 = .ok (.aload_n 0, 1) := by decide +kernel
theorem dJ0_length_8abf5_1 : decode cJ0_length_8abf5 1 = .ok (.getfield 9, 3) := by decide +kernel
theorem dJ0_length_8abf5_4 : decode cJ0_length_8abf5 4 = .ok (.arraylength, 1) := by decide +kernel
theorem dJ0_length_8abf5_5 : decode cJ0_length_8abf5 5 = .ok (.aload_n 0, 1) := by decide +kernel
theorem dJ0_length_8abf5_6 : decode cJ0_length_8abf5 6 = .ok (.invokevirtual 335, 3) := by decide +kernel
theorem dJ0_length_8abf5_9 : decode cJ0_length_8abf5 9 = .ok (.ishr, 1) := by decide +kernel
theorem dJ0_length_8abf5_10 : decode cJ0_length_8abf5 10 = .ok (.ireturn, 1) := by decide +kernel
theorem dJ0_charAt_5068e_0 : decode cJ0_charAt_5068e 0 = .ok (.aload_n 0, 1) := by decide +kernel
theorem dJ0_charAt_5068e_1 : decode cJ0_charAt_5068e 1 = .ok (.invokevirtual 492, 3) := by decide +kernel
theorem dJ0_charAt_5068e_4 : decode cJ0_charAt_5068e 4 = .ok (.ifCond .eq 12, 3) := by decide +kernel
theorem dJ0_charAt_5068e_7 : decode cJ0_charAt_5068e 7 = .ok (.aload_n 0, 1) := by decide +kernel
theorem dJ0_charAt_5068e_8 : decode cJ0_charAt_5068e 8 = .ok (.getfield 9, 3) := by decide +kernel
theorem dJ0_charAt_5068e_11 : decode cJ0_charAt_5068e 11 = .ok (.iload_n 1, 1) := by decide +kernel
theorem dJ0_charAt_5068e_12 : decode cJ0_charAt_5068e 12 = .ok (.invokestatic 495, 3) := by decide +kernel
theorem dJ0_charAt_5068e_15 : decode cJ0_charAt_5068e 15 = .ok (.ireturn, 1) := by decide +kernel
theorem dJ0_charAt_5068e_16 : decode cJ0_charAt_5068e 16 = .ok (.aload_n 0, 1) := by decide +kernel
theorem dJ0_charAt_5068e_17 : decode cJ0_charAt_5068e 17 = .ok (.getfield 9, 3) := by decide +kernel
theorem dJ0_charAt_5068e_20 : decode cJ0_charAt_5068e 20 = .ok (.iload_n 1, 1) := by decide +kernel
theorem dJ0_charAt_5068e_21 : decode cJ0_charAt_5068e 21 = .ok (.invokestatic 498, 3) := by decide +kernel
theorem dJ0_charAt_5068e_24 : decode cJ0_charAt_5068e 24 = .ok (.ireturn, 1) := by decide +kernel
theorem dJ0_indexOf_0f7a4_0 : decode cJ0_indexOf_0f7a4 0 = .ok (.aload_n 0, 1) := by decide +kernel
theorem dJ0_indexOf_0f7a4_1 : decode cJ0_indexOf_0f7a4 1 = .ok (.iload_n 1, 1) := by decide +kernel
theorem dJ0_indexOf_0f7a4_2 : decode cJ0_indexOf_0f7a4 2 = .ok (.iconst 0, 1) := by decide +kernel
theorem dJ0_indexOf_0f7a4_3 : decode cJ0_indexOf_0f7a4 3 = .ok (.invokevirtual 633, 3) := by decide +kernel
theorem dJ0_indexOf_0f7a4_6 : decode cJ0_indexOf_0f7a4 6 = .ok (.ireturn, 1) := by decide +kernel
theorem dJ0_indexOf_7cf53_0 : decode cJ0_indexOf_7cf53 0 = .ok (.aload_n 0, 1) := by decide +kernel
theorem dJ0_indexOf_7cf53_1 : decode cJ0_indexOf_7cf53 1 = .ok (.invokevirtual 492, 3) := by decide +kernel
theorem dJ0_indexOf_7cf53_4 : decode cJ0_indexOf_7cf53 4 = .ok (.ifCond .eq 19, 3) := by decide +kernel
theorem dJ0_indexOf_7cf53_7 : decode cJ0_indexOf_7cf53 7 = .ok (.aload_n 0, 1) := by decide +kernel
theorem dJ0_indexOf_7cf53_8 : decode cJ0_indexOf_7cf53 8 = .ok (.getfield 9, 3) := by decide +kernel
theorem dJ0_indexOf_7cf53_11 : decode cJ0_indexOf_7cf53 11 = .ok (.iload_n 1, 1) := by decide +kernel
theorem dJ0_indexOf_7cf53_12 : decode cJ0_indexOf_7cf53 12 = .ok (.iload_n 2, 1) := by decide +kernel
theorem dJ0_indexOf_7cf53_13 : decode cJ0_indexOf_7cf53 13 = .ok (.aload_n 0, 1) := by decide +kernel
theorem dJ0_indexOf_7cf53_14 : decode cJ0_indexOf_7cf53 14 = .ok (.invokevirtual 505, 3) := by decide +kernel
theorem dJ0_indexOf_7cf53_17 : decode cJ0_indexOf_7cf53 17 = .ok (.invokestatic 637, 3) := by decide +kernel
theorem dJ0_indexOf_7cf53_20 : decode cJ0_indexOf_7cf53 20 = .ok (.goto 16, 3) := by decide +kernel
theorem dJ0_indexOf_7cf53_23 : decode cJ0_indexOf_7cf53 23 = .ok (.aload_n 0, 1) := by decide +kernel
theorem dJ0_indexOf_7cf53_24 : decode cJ0_indexOf_7cf53 24 = .ok (.getfield 9, 3) := by decide +kernel
theorem dJ0_indexOf_7cf53_27 : decode cJ0_indexOf_7cf53 27 = .ok (.iload_n 1, 1) := by decide +kernel
theorem dJ0_indexOf_7cf53_28 : decode cJ0_indexOf_7cf53 28 = .ok (.iload_n 2, 1) := by decide +kernel
theorem dJ0_indexOf_7cf53_29 : decode cJ0_indexOf_7cf53 29 = .ok (.aload_n 0, 1) := by decide +kernel
theorem dJ0_indexOf_7cf53_30 : decode cJ0_indexOf_7cf53 30 = .ok (.invokevirtual 505, 3) := by decide +kernel
theorem dJ0_indexOf_7cf53_33 : decode cJ0_indexOf_7cf53 33 = .ok (.invokestatic 640, 3) := by decide +kernel
theorem dJ0_indexOf_7cf53_36 : decode cJ0_indexOf_7cf53 36 = .ok (.ireturn, 1) := by decide +kernel
theorem dJ0_coder_7d493_0 : decode cJ0_coder_7d493 0 = .ok (.getstatic 38, 3) := by decide +kernel
theorem dJ0_coder_7d493_3 : decode cJ0_coder_7d493 3 = .ok (.ifCond .eq 10, 3) := by decide +kernel
theorem dJ0_coder_7d493_6 : decode cJ0_coder_7d493 6 = .ok (.aload_n 0, 1) := by decide +kernel
theorem dJ0_coder_7d493_7 : decode cJ0_coder_7d493 7 = .ok (.getfield 15, 3) := by decide +kernel
theorem dJ0_coder_7d493_10 : decode cJ0_coder_7d493 10 = .ok (.goto 4, 3) := by decide +kernel
theorem dJ0_coder_7d493_13 : decode cJ0_coder_7d493 13 = .ok (.iconst 1, 1) := by decide +kernel
theorem dJ0_coder_7d493_14 : decode cJ0_coder_7d493 14 = .ok (.ireturn, 1) := by decide +kernel
theorem dJ0_isLatin1_aae02_0 : decode cJ0_isLatin1_aae02 0 = .ok (.getstatic 38, 3) := by decide +kernel
theorem dJ0_isLatin1_aae02_3 : decode cJ0_isLatin1_aae02 3 = .ok (.ifCond .eq 14, 3) := by decide +kernel
theorem dJ0_isLatin1_aae02_6 : decode cJ0_isLatin1_aae02 6 = .ok (.aload_n 0, 1) := by decide +kernel
theorem dJ0_isLatin1_aae02_7 : decode cJ0_isLatin1_aae02 7 = .ok (.getfield 15, 3) := by decide +kernel
theorem dJ0_isLatin1_aae02_10 : decode cJ0_isLatin1_aae02 10 = .ok (.ifCond .ne 7, 3) := by decide +kernel
theorem dJ0_isLatin1_aae02_13 : decode cJ0_isLatin1_aae02 13 = .ok (.iconst 1, 1) := by decide +kernel
theorem dJ0_isLatin1_aae02_14 : decode cJ0_isLatin1_aae02 14 = .ok (.goto 4, 3) := by decide +kernel
theorem dJ0_isLatin1_aae02_17 : decode cJ0_isLatin1_aae02 17 = .ok (.iconst 0, 1) := by decide +kernel
theorem dJ0_isLatin1_aae02_18 : decode cJ0_isLatin1_aae02 18 = .ok (.ireturn, 1) := by decide +kernel
theorem dJ0_checkIndex_df160_0 : decode cJ0_checkIndex_df160 0 = .ok (.iload_n 0, 1) := by decide +kernel
theorem dJ0_checkIndex_df160_1 : decode cJ0_checkIndex_df160 1 = .ok (.iload_n 1, 1) := by decide +kernel
theorem dJ0_checkIndex_df160_2 : decode cJ0_checkIndex_df160 2 = .ok (.getstatic 1053, 3) := by decide +kernel
theorem dJ0_checkIndex_df160_5 : decode cJ0_checkIndex_df160 5 = .ok (.invokestatic 1059, 3) := by decide +kernel
theorem dJ0_checkIndex_df160_8 : decode cJ0_checkIndex_df160 8 = .ok (.pop, 1) := by decide +kernel
theorem dJ0_checkIndex_df160_9 : decode cJ0_checkIndex_df160 9 = .ok (.return_, 1) := by decide +kernel
theorem dJ0_checkBoundsBeginEnd_23922_0 : decode cJ0_checkBoundsBeginEnd_23922 0 = .ok (.iload_n 0, 1) := by decide +kernel
theorem dJ0_checkBoundsBeginEnd_23922_1 : decode cJ0_checkBoundsBeginEnd_23922 1 = .ok (.iload_n 1, 1) := by decide +kernel
theorem dJ0_checkBoundsBeginEnd_23922_2 : decode cJ0_checkBoundsBeginEnd_23922 2 = .ok (.iload_n 2, 1) := by decide +kernel
theorem dJ0_checkBoundsBeginEnd_23922_3 : decode cJ0_checkBoundsBeginEnd_23922 3 = .ok (.getstatic 1053, 3) := by decide +kernel
theorem dJ0_checkBoundsBeginEnd_23922_6 : decode cJ0_checkBoundsBeginEnd_23922 6 = .ok (.invokestatic 1062, 3) := by decide +kernel
theorem dJ0_checkBoundsBeginEnd_23922_9 : decode cJ0_checkBoundsBeginEnd_23922 9 = .ok (.pop, 1) := by decide +kernel
theorem dJ0_checkBoundsBeginEnd_23922_10 : decode cJ0_checkBoundsBeginEnd_23922 10 = .ok (.return_, 1) := by decide +kernel
theorem dJ1_charAt_3b067_0 : decode cJ1_charAt_3b067 0 = .ok (.iload_n 1, 1) := by decide +kernel
theorem dJ1_charAt_3b067_1 : decode cJ1_charAt_3b067 1 = .ok (.aload_n 0, 1) := by decide +kernel
theorem dJ1_charAt_3b067_2 : decode cJ1_charAt_3b067 2 = .ok (.arraylength, 1) := by decide +kernel
theorem dJ1_charAt_3b067_3 : decode cJ1_charAt_3b067 3 = .ok (.invokestatic 9, 3) := by decide +kernel
theorem dJ1_charAt_3b067_6 : decode cJ1_charAt_3b067 6 = .ok (.aload_n 0, 1) := by decide +kernel
theorem dJ1_charAt_3b067_7 : decode cJ1_charAt_3b067 7 = .ok (.iload_n 1, 1) := by decide +kernel
theorem dJ1_charAt_3b067_8 : decode cJ1_charAt_3b067 8 = .ok (.baload, 1) := by decide +kernel
theorem dJ1_charAt_3b067_9 : decode cJ1_charAt_3b067 9 = .ok (.sipush 255, 3) := by decide +kernel
theorem dJ1_charAt_3b067_12 : decode cJ1_charAt_3b067 12 = .ok (.iand, 1) := by decide +kernel
theorem dJ1_charAt_3b067_13 : decode cJ1_charAt_3b067 13 = .ok (.i2c, 1) := by decide +kernel
theorem dJ1_charAt_3b067_14 : decode cJ1_charAt_3b067 14 = .ok (.ireturn, 1) := by decide +kernel
theorem dJ1_canEncode_9a6ad_0 : decode cJ1_canEncode_9a6ad 0 = .ok (.iload_n 0, 1) := by decide +kernel
theorem dJ1_canEncode_9a6ad_1 : decode cJ1_canEncode_9a6ad 1 = .ok (.ifCond .lt 14, 3) := by decide +kernel
theorem dJ1_canEncode_9a6ad_4 : decode cJ1_canEncode_9a6ad 4 = .ok (.iload_n 0, 1) := by decide +kernel
theorem dJ1_canEncode_9a6ad_5 : decode cJ1_canEncode_9a6ad 5 = .ok (.sipush 255, 3) := by decide +kernel
theorem dJ1_canEncode_9a6ad_8 : decode cJ1_canEncode_9a6ad 8 = .ok (.if_icmp .gt 7, 3) := by decide +kernel
theorem dJ1_canEncode_9a6ad_11 : decode cJ1_canEncode_9a6ad 11 = .ok (.iconst 1, 1) := by decide +kernel
theorem dJ1_canEncode_9a6ad_12 : decode cJ1_canEncode_9a6ad 12 = .ok (.goto 4, 3) := by decide +kernel
theorem dJ1_canEncode_9a6ad_15 : decode cJ1_canEncode_9a6ad 15 = .ok (.iconst 0, 1) := by decide +kernel
theorem dJ1_canEncode_9a6ad_16 : decode cJ1_canEncode_9a6ad 16 = .ok (.ireturn, 1) := by decide +kernel
theorem dJ1_indexOf_4cfef_0 : decode cJ1_indexOf_4cfef 0 = .ok (.iload_n 1, 1) := by decide +kernel
theorem dJ1_indexOf_4cfef_1 : decode cJ1_indexOf_4cfef 1 = .ok (.invokestatic 88, 3) := by decide +kernel
theorem dJ1_indexOf_4cfef_4 : decode cJ1_indexOf_4cfef 4 = .ok (.ifCond .ne 5, 3) := by decide +kernel
theorem dJ1_indexOf_4cfef_7 : decode cJ1_indexOf_4cfef 7 = .ok (.iconst (-1), 1) := by decide +kernel
theorem dJ1_indexOf_4cfef_8 : decode cJ1_indexOf_4cfef 8 = .ok (.ireturn, 1) := by decide +kernel
theorem dJ1_indexOf_4cfef_9 : decode cJ1_indexOf_4cfef 9 = .ok (.iload_n 2, 1) := by decide +kernel
theorem dJ1_indexOf_4cfef_10 : decode cJ1_indexOf_4cfef 10 = .ok (.iconst 0, 1) := by decide +kernel
theorem dJ1_indexOf_4cfef_11 : decode cJ1_indexOf_4cfef 11 = .ok (.invokestatic 92, 3) := by decide +kernel
theorem dJ1_indexOf_4cfef_14 : decode cJ1_indexOf_4cfef 14 = .ok (.istore_n 2, 1) := by decide +kernel
theorem dJ1_indexOf_4cfef_15 : decode cJ1_indexOf_4cfef 15 = .ok (.iload_n 3, 1) := by decide +kernel
theorem dJ1_indexOf_4cfef_16 : decode cJ1_indexOf_4cfef 16 = .ok (.aload_n 0, 1) := by decide +kernel
theorem dJ1_indexOf_4cfef_17 : decode cJ1_indexOf_4cfef 17 = .ok (.arraylength, 1) := by decide +kernel
theorem dJ1_indexOf_4cfef_18 : decode cJ1_indexOf_4cfef 18 = .ok (.invokestatic 38, 3) := by decide +kernel
theorem dJ1_indexOf_4cfef_21 : decode cJ1_indexOf_4cfef 21 = .ok (.istore_n 3, 1) := by decide +kernel
theorem dJ1_indexOf_4cfef_22 : decode cJ1_indexOf_4cfef 22 = .ok (.iload_n 2, 1) := by decide +kernel
theorem dJ1_indexOf_4cfef_23 : decode cJ1_indexOf_4cfef 23 = .ok (.iload_n 3, 1) := by decide +kernel
theorem dJ1_indexOf_4cfef_24 : decode cJ1_indexOf_4cfef 24 = .ok (.if_icmp .lt 5, 3) := by decide +kernel
theorem dJ1_indexOf_4cfef_27 : decode cJ1_indexOf_4cfef 27 = .ok (.iconst (-1), 1) := by decide +kernel
theorem dJ1_indexOf_4cfef_28 : decode cJ1_indexOf_4cfef 28 = .ok (.ireturn, 1) := by decide +kernel
theorem dJ1_indexOf_4cfef_29 : decode cJ1_indexOf_4cfef 29 = .ok (.aload_n 0, 1) := by decide +kernel
theorem dJ1_indexOf_4cfef_30 : decode cJ1_indexOf_4cfef 30 = .ok (.iload_n 1, 1) := by decide +kernel
theorem dJ1_indexOf_4cfef_31 : decode cJ1_indexOf_4cfef 31 = .ok (.iload_n 2, 1) := by decide +kernel
theorem dJ1_indexOf_4cfef_32 : decode cJ1_indexOf_4cfef 32 = .ok (.iload_n 3, 1) := by decide +kernel
theorem dJ1_indexOf_4cfef_33 : decode cJ1_indexOf_4cfef 33 = .ok (.invokestatic 95, 3) := by decide +kernel
theorem dJ1_indexOf_4cfef_36 : decode cJ1_indexOf_4cfef 36 = .ok (.ireturn, 1) := by decide +kernel
theorem dJ1_indexOfChar_4cfef_0 : decode cJ1_indexOfChar_4cfef 0 = .ok (.iload_n 1, 1) := by decide +kernel
theorem dJ1_indexOfChar_4cfef_1 : decode cJ1_indexOfChar_4cfef 1 = .ok (.i2b, 1) := by decide +kernel
theorem dJ1_indexOfChar_4cfef_2 : decode cJ1_indexOfChar_4cfef 2 = .ok (.istore 4, 2) := by decide +kernel
theorem dJ1_indexOfChar_4cfef_4 : decode cJ1_indexOfChar_4cfef 4 = .ok (.iload_n 2, 1) := by decide +kernel
theorem dJ1_indexOfChar_4cfef_5 : decode cJ1_indexOfChar_4cfef 5 = .ok (.istore 5, 2) := by decide +kernel
theorem dJ1_indexOfChar_4cfef_7 : decode cJ1_indexOfChar_4cfef 7 = .ok (.iload 5, 2) := by decide +kernel
theorem dJ1_indexOfChar_4cfef_9 : decode cJ1_indexOfChar_4cfef 9 = .ok (.iload_n 3, 1) := by decide +kernel
theorem dJ1_indexOfChar_4cfef_10 : decode cJ1_indexOfChar_4cfef 10 = .ok (.if_icmp .ge 21, 3) := by decide +kernel
theorem dJ1_indexOfChar_4cfef_13 : decode cJ1_indexOfChar_4cfef 13 = .ok (.aload_n 0, 1) := by decide +kernel
theorem dJ1_indexOfChar_4cfef_14 : decode cJ1_indexOfChar_4cfef 14 = .ok (.iload 5, 2) := by decide +kernel
theorem dJ1_indexOfChar_4cfef_16 : decode cJ1_indexOfChar_4cfef 16 = .ok (.baload, 1) := by decide +kernel
theorem dJ1_indexOfChar_4cfef_17 : decode cJ1_indexOfChar_4cfef 17 = .ok (.iload 4, 2) := by decide +kernel
theorem dJ1_indexOfChar_4cfef_19 : decode cJ1_indexOfChar_4cfef 19 = .ok (.if_icmp .ne 6, 3) := by decide +kernel
theorem dJ1_indexOfChar_4cfef_22 : decode cJ1_indexOfChar_4cfef 22 = .ok (.iload 5, 2) := by decide +kernel
theorem dJ1_indexOfChar_4cfef_24 : decode cJ1_indexOfChar_4cfef 24 = .ok (.ireturn, 1) := by decide +kernel
theorem dJ1_indexOfChar_4cfef_25 : decode cJ1_indexOfChar_4cfef 25 = .ok (.iinc 5 1, 3) := by decide +kernel
theorem dJ1_indexOfChar_4cfef_28 : decode cJ1_indexOfChar_4cfef 28 = .ok (.goto (-21), 3) := by decide +kernel
theorem dJ1_indexOfChar_4cfef_31 : decode cJ1_indexOfChar_4cfef 31 = .ok (.iconst (-1), 1) := by decide +kernel
theorem dJ1_indexOfChar_4cfef_32 : decode cJ1_indexOfChar_4cfef 32 = .ok (.ireturn, 1) := by decide +kernel
theorem dJ2_getChar_3b067_0 : decode cJ2_getChar_3b067 0 = .ok (.getstatic 44, 3) := by decide +kernel
theorem dJ2_getChar_3b067_3 : decode cJ2_getChar_3b067 3 = .ok (.ifCond .ne 25, 3) := by decide +kernel
theorem dJ2_getChar_3b067_6 : decode cJ2_getChar_3b067 6 = .ok (.iload_n 1, 1) := by decide +kernel
theorem dJ2_getChar_3b067_7 : decode cJ2_getChar_3b067 7 = .ok (.ifCond .lt 11, 3) := by decide +kernel
theorem dJ2_getChar_3b067_10 : decode cJ2_getChar_3b067 10 = .ok (.iload_n 1, 1) := by decide +kernel
theorem dJ2_getChar_3b067_11 : decode cJ2_getChar_3b067 11 = .ok (.aload_n 0, 1) := by decide +kernel
theorem dJ2_getChar_3b067_12 : decode cJ2_getChar_3b067 12 = .ok (.invokestatic 48, 3) := by decide +kernel
theorem dJ2_getChar_3b067_15 : decode cJ2_getChar_3b067 15 = .ok (.if_icmp .lt 13, 3) := by decide +kernel
theorem dJ2_getChar_3b067_18 : decode cJ2_getChar_3b067 18 = .ok (.new 52, 3) := by decide +kernel
theorem dJ2_getChar_3b067_21 : decode cJ2_getChar_3b067 21 = .ok (.dup, 1) := by decide +kernel
theorem dJ2_getChar_3b067_22 : decode cJ2_getChar_3b067 22 = .ok (.ldc 54, 2) := by decide +kernel
theorem dJ2_getChar_3b067_24 : decode cJ2_getChar_3b067 24 = .ok (.invokespecial 56, 3) := by decide +kernel
theorem dJ2_getChar_3b067_27 : decode cJ2_getChar_3b067 27 = .ok (.athrow, 1) := by decide +kernel
theorem dJ2_getChar_3b067_28 : decode cJ2_getChar_3b067 28 = .ok (.iload_n 1, 1) := by decide +kernel
theorem dJ2_getChar_3b067_29 : decode cJ2_getChar_3b067 29 = .ok (.iconst 1, 1) := by decide +kernel
theorem dJ2_getChar_3b067_30 : decode cJ2_getChar_3b067 30 = .ok (.ishl, 1) := by decide +kernel
theorem dJ2_getChar_3b067_31 : decode cJ2_getChar_3b067 31 = .ok (.istore_n 1, 1) := by decide +kernel
theorem dJ2_getChar_3b067_32 : decode cJ2_getChar_3b067 32 = .ok (.aload_n 0, 1) := by decide +kernel
theorem dJ2_getChar_3b067_33 : decode cJ2_getChar_3b067 33 = .ok (.iload_n 1, 1) := by decide +kernel
theorem dJ2_getChar_3b067_34 : decode cJ2_getChar_3b067 34 = .ok (.iinc 1 1, 3) := by decide +kernel
theorem dJ2_getChar_3b067_37 : decode cJ2_getChar_3b067 37 = .ok (.baload, 1) := by decide +kernel
theorem dJ2_getChar_3b067_38 : decode cJ2_getChar_3b067 38 = .ok (.sipush 255, 3) := by decide +kernel
theorem dJ2_getChar_3b067_41 : decode cJ2_getChar_3b067 41 = .ok (.iand, 1) := by decide +kernel
theorem dJ2_getChar_3b067_42 : decode cJ2_getChar_3b067 42 = .ok (.getstatic 59, 3) := by decide +kernel
theorem dJ2_getChar_3b067_45 : decode cJ2_getChar_3b067 45 = .ok (.ishl, 1) := by decide +kernel
theorem dJ2_getChar_3b067_46 : decode cJ2_getChar_3b067 46 = .ok (.aload_n 0, 1) := by decide +kernel
theorem dJ2_getChar_3b067_47 : decode cJ2_getChar_3b067 47 = .ok (.iload_n 1, 1) := by decide +kernel
theorem dJ2_getChar_3b067_48 : decode cJ2_getChar_3b067 48 = .ok (.baload, 1) := by decide +kernel
theorem dJ2_getChar_3b067_49 : decode cJ2_getChar_3b067 49 = .ok (.sipush 255, 3) := by decide +kernel
theorem dJ2_getChar_3b067_52 : decode cJ2_getChar_3b067 52 = .ok (.iand, 1) := by decide +kernel
theorem dJ2_getChar_3b067_53 : decode cJ2_getChar_3b067 53 = .ok (.getstatic 63, 3) := by decide +kernel
theorem dJ2_getChar_3b067_56 : decode cJ2_getChar_3b067 56 = .ok (.ishl, 1) := by decide +kernel
theorem dJ2_getChar_3b067_57 : decode cJ2_getChar_3b067 57 = .ok (.ior, 1) := by decide +kernel
theorem dJ2_getChar_3b067_58 : decode cJ2_getChar_3b067 58 = .ok (.i2c, 1) := by decide +kernel
theorem dJ2_getChar_3b067_59 : decode cJ2_getChar_3b067 59 = .ok (.ireturn, 1) := by decide +kernel
theorem dJ2_length_9d52b_0 : decode cJ2_length_9d52b 0 = .ok (.aload_n 0, 1) := by decide +kernel
theorem dJ2_length_9d52b_1 : decode cJ2_length_9d52b 1 = .ok (.arraylength, 1) := by decide +kernel
theorem dJ2_length_9d52b_2 : decode cJ2_length_9d52b 2 = .ok (.iconst 1, 1) := by decide +kernel
theorem dJ2_length_9d52b_3 : decode cJ2_length_9d52b 3 = .ok (.ishr, 1) := by decide +kernel
theorem dJ2_length_9d52b_4 : decode cJ2_length_9d52b 4 = .ok (.ireturn, 1) := by decide +kernel
theorem dJ2_indexOf_4cfef_0 : decode cJ2_indexOf_4cfef 0 = .ok (.iload_n 2, 1) := by decide +kernel
theorem dJ2_indexOf_4cfef_1 : decode cJ2_indexOf_4cfef 1 = .ok (.iconst 0, 1) := by decide +kernel
theorem dJ2_indexOf_4cfef_2 : decode cJ2_indexOf_4cfef 2 = .ok (.invokestatic 224, 3) := by decide +kernel
theorem dJ2_indexOf_4cfef_5 : decode cJ2_indexOf_4cfef 5 = .ok (.istore_n 2, 1) := by decide +kernel
theorem dJ2_indexOf_4cfef_6 : decode cJ2_indexOf_4cfef 6 = .ok (.iload_n 3, 1) := by decide +kernel
theorem dJ2_indexOf_4cfef_7 : decode cJ2_indexOf_4cfef 7 = .ok (.aload_n 0, 1) := by decide +kernel
theorem dJ2_indexOf_4cfef_8 : decode cJ2_indexOf_4cfef 8 = .ok (.arraylength, 1) := by decide +kernel
theorem dJ2_indexOf_4cfef_9 : decode cJ2_indexOf_4cfef 9 = .ok (.iconst 1, 1) := by decide +kernel
theorem dJ2_indexOf_4cfef_10 : decode cJ2_indexOf_4cfef 10 = .ok (.ishr, 1) := by decide +kernel
theorem dJ2_indexOf_4cfef_11 : decode cJ2_indexOf_4cfef 11 = .ok (.invokestatic 183, 3) := by decide +kernel
theorem dJ2_indexOf_4cfef_14 : decode cJ2_indexOf_4cfef 14 = .ok (.istore_n 3, 1) := by decide +kernel
theorem dJ2_indexOf_4cfef_15 : decode cJ2_indexOf_4cfef 15 = .ok (.iload_n 2, 1) := by decide +kernel
theorem dJ2_indexOf_4cfef_16 : decode cJ2_indexOf_4cfef 16 = .ok (.iload_n 3, 1) := by decide +kernel
theorem dJ2_indexOf_4cfef_17 : decode cJ2_indexOf_4cfef 17 = .ok (.if_icmp .lt 5, 3) := by decide +kernel
theorem dJ2_indexOf_4cfef_20 : decode cJ2_indexOf_4cfef 20 = .ok (.iconst (-1), 1) := by decide +kernel
theorem dJ2_indexOf_4cfef_21 : decode cJ2_indexOf_4cfef 21 = .ok (.ireturn, 1) := by decide +kernel
theorem dJ2_indexOf_4cfef_22 : decode cJ2_indexOf_4cfef 22 = .ok (.iload_n 1, 1) := by decide +kernel
theorem dJ2_indexOf_4cfef_23 : decode cJ2_indexOf_4cfef 23 = .ok (.ldc 227, 2) := by decide +kernel
theorem dJ2_indexOf_4cfef_25 : decode cJ2_indexOf_4cfef 25 = .ok (.if_icmp .ge 11, 3) := by decide +kernel
theorem dJ2_indexOf_4cfef_28 : decode cJ2_indexOf_4cfef 28 = .ok (.aload_n 0, 1) := by decide +kernel
theorem dJ2_indexOf_4cfef_29 : decode cJ2_indexOf_4cfef 29 = .ok (.iload_n 1, 1) := by decide +kernel
theorem dJ2_indexOf_4cfef_30 : decode cJ2_indexOf_4cfef 30 = .ok (.iload_n 2, 1) := by decide +kernel
theorem dJ2_indexOf_4cfef_31 : decode cJ2_indexOf_4cfef 31 = .ok (.iload_n 3, 1) := by decide +kernel
theorem dJ2_indexOf_4cfef_32 : decode cJ2_indexOf_4cfef 32 = .ok (.invokestatic 228, 3) := by decide +kernel
theorem dJ2_indexOf_4cfef_35 : decode cJ2_indexOf_4cfef 35 = .ok (.ireturn, 1) := by decide +kernel
theorem dJ2_indexOf_4cfef_36 : decode cJ2_indexOf_4cfef 36 = .ok (.aload_n 0, 1) := by decide +kernel
theorem dJ2_indexOf_4cfef_37 : decode cJ2_indexOf_4cfef 37 = .ok (.iload_n 1, 1) := by decide +kernel
theorem dJ2_indexOf_4cfef_38 : decode cJ2_indexOf_4cfef 38 = .ok (.iload_n 2, 1) := by decide +kernel
theorem dJ2_indexOf_4cfef_39 : decode cJ2_indexOf_4cfef 39 = .ok (.iload_n 3, 1) := by decide +kernel
theorem dJ2_indexOf_4cfef_40 : decode cJ2_indexOf_4cfef 40 = .ok (.invokestatic 232, 3) := by decide +kernel
theorem dJ2_indexOf_4cfef_43 : decode cJ2_indexOf_4cfef 43 = .ok (.ireturn, 1) := by decide +kernel
theorem dJ2_indexOfChar_4cfef_0 : decode cJ2_indexOfChar_4cfef 0 = .ok (.iload_n 2, 1) := by decide +kernel
theorem dJ2_indexOfChar_4cfef_1 : decode cJ2_indexOfChar_4cfef 1 = .ok (.iload_n 3, 1) := by decide +kernel
theorem dJ2_indexOfChar_4cfef_2 : decode cJ2_indexOfChar_4cfef 2 = .ok (.aload_n 0, 1) := by decide +kernel
theorem dJ2_indexOfChar_4cfef_3 : decode cJ2_indexOfChar_4cfef 3 = .ok (.invokestatic 96, 3) := by decide +kernel
theorem dJ2_indexOfChar_4cfef_6 : decode cJ2_indexOfChar_4cfef 6 = .ok (.aload_n 0, 1) := by decide +kernel
theorem dJ2_indexOfChar_4cfef_7 : decode cJ2_indexOfChar_4cfef 7 = .ok (.iload_n 1, 1) := by decide +kernel
theorem dJ2_indexOfChar_4cfef_8 : decode cJ2_indexOfChar_4cfef 8 = .ok (.iload_n 2, 1) := by decide +kernel
theorem dJ2_indexOfChar_4cfef_9 : decode cJ2_indexOfChar_4cfef 9 = .ok (.iload_n 3, 1) := by decide +kernel
theorem dJ2_indexOfChar_4cfef_10 : decode cJ2_indexOfChar_4cfef 10 = .ok (.invokestatic 244, 3) := by decide +kernel
theorem dJ2_indexOfChar_4cfef_13 : decode cJ2_indexOfChar_4cfef 13 = .ok (.ireturn, 1) := by decide +kernel
theorem dJ2_indexOfCharUnsafe_4cfef_0 : decode cJ2_indexOfCharUnsafe_4cfef 0 = .ok (.iload_n 2, 1) := by decide +kernel
theorem dJ2_indexOfCharUnsafe_4cfef_1 : decode cJ2_indexOfCharUnsafe_4cfef 1 = .ok (.istore 4, 2) := by decide +kernel
theorem dJ2_indexOfCharUnsafe_4cfef_3 : decode cJ2_indexOfCharUnsafe_4cfef 3 = .ok (.iload 4, 2) := by decide +kernel
theorem dJ2_indexOfCharUnsafe_4cfef_5 : decode cJ2_indexOfCharUnsafe_4cfef 5 = .ok (.iload_n 3, 1) := by decide +kernel
theorem dJ2_indexOfCharUnsafe_4cfef_6 : decode cJ2_indexOfCharUnsafe_4cfef 6 = .ok (.if_icmp .ge 22, 3) := by decide +kernel
theorem dJ2_indexOfCharUnsafe_4cfef_9 : decode cJ2_indexOfCharUnsafe_4cfef 9 = .ok (.aload_n 0, 1) := by decide +kernel
theorem dJ2_indexOfCharUnsafe_4cfef_10 : decode cJ2_indexOfCharUnsafe_4cfef 10 = .ok (.iload 4, 2) := by decide +kernel
theorem dJ2_indexOfCharUnsafe_4cfef_12 : decode cJ2_indexOfCharUnsafe_4cfef 12 = .ok (.invokestatic 71, 3) := by decide +kernel
theorem dJ2_indexOfCharUnsafe_4cfef_15 : decode cJ2_indexOfCharUnsafe_4cfef 15 = .ok (.iload_n 1, 1) := by decide +kernel
theorem dJ2_indexOfCharUnsafe_4cfef_16 : decode cJ2_indexOfCharUnsafe_4cfef 16 = .ok (.if_icmp .ne 6, 3) := by decide +kernel
theorem dJ2_indexOfCharUnsafe_4cfef_19 : decode cJ2_indexOfCharUnsafe_4cfef 19 = .ok (.iload 4, 2) := by decide +kernel
theorem dJ2_indexOfCharUnsafe_4cfef_21 : decode cJ2_indexOfCharUnsafe_4cfef 21 = .ok (.ireturn, 1) := by decide +kernel
theorem dJ2_indexOfCharUnsafe_4cfef_22 : decode cJ2_indexOfCharUnsafe_4cfef 22 = .ok (.iinc 4 1, 3) := by decide +kernel
theorem dJ2_indexOfCharUnsafe_4cfef_25 : decode cJ2_indexOfCharUnsafe_4cfef 25 = .ok (.goto (-22), 3) := by decide +kernel
theorem dJ2_indexOfCharUnsafe_4cfef_28 : decode cJ2_indexOfCharUnsafe_4cfef 28 = .ok (.iconst (-1), 1) := by decide +kernel
theorem dJ2_indexOfCharUnsafe_4cfef_29 : decode cJ2_indexOfCharUnsafe_4cfef 29 = .ok (.ireturn, 1) := by decide +kernel
theorem dJ2_indexOfSupplementary_4cfef_0 : decode cJ2_indexOfSupplementary_4cfef 0 = .ok (.iload_n 1, 1) := by decide +kernel
theorem dJ2_indexOfSupplementary_4cfef_1 : decode cJ2_indexOfSupplementary_4cfef 1 = .ok (.invokestatic 164, 3) := by decide +kernel
theorem dJ2_indexOfSupplementary_4cfef_4 : decode cJ2_indexOfSupplementary_4cfef 4 = .ok (.ifCond .eq 65, 3) := by decide +kernel
theorem dJ2_indexOfSupplementary_4cfef_7 : decode cJ2_indexOfSupplementary_4cfef 7 = .ok (.iload_n 1, 1) := by decide +kernel
theorem dJ2_indexOfSupplementary_4cfef_8 : decode cJ2_indexOfSupplementary_4cfef 8 = .ok (.invokestatic 157, 3) := by decide +kernel
theorem dJ2_indexOfSupplementary_4cfef_11 : decode cJ2_indexOfSupplementary_4cfef 11 = .ok (.istore 4, 2) := by decide +kernel
theorem dJ2_indexOfSupplementary_4cfef_13 : decode cJ2_indexOfSupplementary_4cfef 13 = .ok (.iload_n 1, 1) := by decide +kernel
theorem dJ2_indexOfSupplementary_4cfef_14 : decode cJ2_indexOfSupplementary_4cfef 14 = .ok (.invokestatic 161, 3) := by decide +kernel
theorem dJ2_indexOfSupplementary_4cfef_17 : decode cJ2_indexOfSupplementary_4cfef 17 = .ok (.istore 5, 2) := by decide +kernel
theorem dJ2_indexOfSupplementary_4cfef_19 : decode cJ2_indexOfSupplementary_4cfef 19 = .ok (.iload_n 2, 1) := by decide +kernel
theorem dJ2_indexOfSupplementary_4cfef_20 : decode cJ2_indexOfSupplementary_4cfef 20 = .ok (.iload_n 3, 1) := by decide +kernel
theorem dJ2_indexOfSupplementary_4cfef_21 : decode cJ2_indexOfSupplementary_4cfef 21 = .ok (.aload_n 0, 1) := by decide +kernel
theorem dJ2_indexOfSupplementary_4cfef_22 : decode cJ2_indexOfSupplementary_4cfef 22 = .ok (.invokestatic 96, 3) := by decide +kernel
theorem dJ2_indexOfSupplementary_4cfef_25 : decode cJ2_indexOfSupplementary_4cfef 25 = .ok (.iload_n 2, 1) := by decide +kernel
theorem dJ2_indexOfSupplementary_4cfef_26 : decode cJ2_indexOfSupplementary_4cfef 26 = .ok (.istore 6, 2) := by decide +kernel
theorem dJ2_indexOfSupplementary_4cfef_28 : decode cJ2_indexOfSupplementary_4cfef 28 = .ok (.iload 6, 2) := by decide +kernel
theorem dJ2_indexOfSupplementary_4cfef_30 : decode cJ2_indexOfSupplementary_4cfef 30 = .ok (.iload_n 3, 1) := by decide +kernel
theorem dJ2_indexOfSupplementary_4cfef_31 : decode cJ2_indexOfSupplementary_4cfef 31 = .ok (.iconst 1, 1) := by decide +kernel
theorem dJ2_indexOfSupplementary_4cfef_32 : decode cJ2_indexOfSupplementary_4cfef 32 = .ok (.isub, 1) := by decide +kernel
theorem dJ2_indexOfSupplementary_4cfef_33 : decode cJ2_indexOfSupplementary_4cfef 33 = .ok (.if_icmp .ge 36, 3) := by decide +kernel
theorem dJ2_indexOfSupplementary_4cfef_36 : decode cJ2_indexOfSupplementary_4cfef 36 = .ok (.aload_n 0, 1) := by decide +kernel
theorem dJ2_indexOfSupplementary_4cfef_37 : decode cJ2_indexOfSupplementary_4cfef 37 = .ok (.iload 6, 2) := by decide +kernel
theorem dJ2_indexOfSupplementary_4cfef_39 : decode cJ2_indexOfSupplementary_4cfef 39 = .ok (.invokestatic 71, 3) := by decide +kernel
theorem dJ2_indexOfSupplementary_4cfef_42 : decode cJ2_indexOfSupplementary_4cfef 42 = .ok (.iload 4, 2) := by decide +kernel
theorem dJ2_indexOfSupplementary_4cfef_44 : decode cJ2_indexOfSupplementary_4cfef 44 = .ok (.if_icmp .ne 19, 3) := by decide +kernel
theorem dJ2_indexOfSupplementary_4cfef_47 : decode cJ2_indexOfSupplementary_4cfef 47 = .ok (.aload_n 0, 1) := by decide +kernel
theorem dJ2_indexOfSupplementary_4cfef_48 : decode cJ2_indexOfSupplementary_4cfef 48 = .ok (.iload 6, 2) := by decide +kernel
theorem dJ2_indexOfSupplementary_4cfef_50 : decode cJ2_indexOfSupplementary_4cfef 50 = .ok (.iconst 1, 1) := by decide +kernel
theorem dJ2_indexOfSupplementary_4cfef_51 : decode cJ2_indexOfSupplementary_4cfef 51 = .ok (.iadd, 1) := by decide +kernel
theorem dJ2_indexOfSupplementary_4cfef_52 : decode cJ2_indexOfSupplementary_4cfef 52 = .ok (.invokestatic 71, 3) := by decide +kernel
theorem dJ2_indexOfSupplementary_4cfef_55 : decode cJ2_indexOfSupplementary_4cfef 55 = .ok (.iload 5, 2) := by decide +kernel
theorem dJ2_indexOfSupplementary_4cfef_57 : decode cJ2_indexOfSupplementary_4cfef 57 = .ok (.if_icmp .ne 6, 3) := by decide +kernel
theorem dJ2_indexOfSupplementary_4cfef_60 : decode cJ2_indexOfSupplementary_4cfef 60 = .ok (.iload 6, 2) := by decide +kernel
theorem dJ2_indexOfSupplementary_4cfef_62 : decode cJ2_indexOfSupplementary_4cfef 62 = .ok (.ireturn, 1) := by decide +kernel
theorem dJ2_indexOfSupplementary_4cfef_63 : decode cJ2_indexOfSupplementary_4cfef 63 = .ok (.iinc 6 1, 3) := by decide +kernel
theorem dJ2_indexOfSupplementary_4cfef_66 : decode cJ2_indexOfSupplementary_4cfef 66 = .ok (.goto (-38), 3) := by decide +kernel
theorem dJ2_indexOfSupplementary_4cfef_69 : decode cJ2_indexOfSupplementary_4cfef 69 = .ok (.iconst (-1), 1) := by decide +kernel
theorem dJ2_indexOfSupplementary_4cfef_70 : decode cJ2_indexOfSupplementary_4cfef 70 = .ok (.ireturn, 1) := by decide +kernel
theorem dJ2_charAt_3b067_0 : decode cJ2_charAt_3b067 0 = .ok (.iload_n 1, 1) := by decide +kernel
theorem dJ2_charAt_3b067_1 : decode cJ2_charAt_3b067 1 = .ok (.aload_n 0, 1) := by decide +kernel
theorem dJ2_charAt_3b067_2 : decode cJ2_charAt_3b067 2 = .ok (.invokestatic 67, 3) := by decide +kernel
theorem dJ2_charAt_3b067_5 : decode cJ2_charAt_3b067 5 = .ok (.aload_n 0, 1) := by decide +kernel
theorem dJ2_charAt_3b067_6 : decode cJ2_charAt_3b067 6 = .ok (.iload_n 1, 1) := by decide +kernel
theorem dJ2_charAt_3b067_7 : decode cJ2_charAt_3b067 7 = .ok (.invokestatic 71, 3) := by decide +kernel
theorem dJ2_charAt_3b067_10 : decode cJ2_charAt_3b067 10 = .ok (.ireturn, 1) := by decide +kernel
theorem dJ2_checkIndex_2214a_0 : decode cJ2_checkIndex_2214a 0 = .ok (.iload_n 0, 1) := by decide +kernel
theorem dJ2_checkIndex_2214a_1 : decode cJ2_checkIndex_2214a 1 = .ok (.aload_n 1, 1) := by decide +kernel
theorem dJ2_checkIndex_2214a_2 : decode cJ2_checkIndex_2214a 2 = .ok (.invokestatic 48, 3) := by decide +kernel
theorem dJ2_checkIndex_2214a_5 : decode cJ2_checkIndex_2214a 5 = .ok (.invokestatic 414, 3) := by decide +kernel
theorem dJ2_checkIndex_2214a_8 : decode cJ2_checkIndex_2214a 8 = .ok (.return_, 1) := by decide +kernel
theorem dJ2_checkBoundsBeginEnd_d044e_0 : decode cJ2_checkBoundsBeginEnd_d044e 0 = .ok (.iload_n 0, 1) := by decide +kernel
theorem dJ2_checkBoundsBeginEnd_d044e_1 : decode cJ2_checkBoundsBeginEnd_d044e 1 = .ok (.iload_n 1, 1) := by decide +kernel
theorem dJ2_checkBoundsBeginEnd_d044e_2 : decode cJ2_checkBoundsBeginEnd_d044e 2 = .ok (.aload_n 2, 1) := by decide +kernel
theorem dJ2_checkBoundsBeginEnd_d044e_3 : decode cJ2_checkBoundsBeginEnd_d044e 3 = .ok (.invokestatic 48, 3) := by decide +kernel
theorem dJ2_checkBoundsBeginEnd_d044e_6 : decode cJ2_checkBoundsBeginEnd_d044e 6 = .ok (.invokestatic 241, 3) := by decide +kernel
theorem dJ2_checkBoundsBeginEnd_d044e_9 : decode cJ2_checkBoundsBeginEnd_d044e 9 = .ok (.return_, 1) := by decide +kernel
theorem dJ7_fill_d0a16_0 : decode cJ7_fill_d0a16 0 = .ok (.iconst 0, 1) := by decide +kernel
theorem dJ7_fill_d0a16_1 : decode cJ7_fill_d0a16 1 = .ok (.istore_n 3, 1) := by decide +kernel
theorem dJ7_fill_d0a16_2 : decode cJ7_fill_d0a16 2 = .ok (.aload_n 0, 1) := by decide +kernel
theorem dJ7_fill_d0a16_3 : decode cJ7_fill_d0a16 3 = .ok (.arraylength, 1) := by decide +kernel
theorem dJ7_fill_d0a16_4 : decode cJ7_fill_d0a16 4 = .ok (.istore 4, 2) := by decide +kernel
theorem dJ7_fill_d0a16_6 : decode cJ7_fill_d0a16 6 = .ok (.iload_n 3, 1) := by decide +kernel
theorem dJ7_fill_d0a16_7 : decode cJ7_fill_d0a16 7 = .ok (.iload 4, 2) := by decide +kernel
theorem dJ7_fill_d0a16_9 : decode cJ7_fill_d0a16 9 = .ok (.if_icmp .ge 13, 3) := by decide +kernel
theorem dJ7_fill_d0a16_12 : decode cJ7_fill_d0a16 12 = .ok (.aload_n 0, 1) := by decide +kernel
theorem dJ7_fill_d0a16_13 : decode cJ7_fill_d0a16 13 = .ok (.iload_n 3, 1) := by decide +kernel
theorem dJ7_fill_d0a16_14 : decode cJ7_fill_d0a16 14 = .ok (.lload_n 1, 1) := by decide +kernel
theorem dJ7_fill_d0a16_15 : decode cJ7_fill_d0a16 15 = .ok (.lastore, 1) := by decide +kernel
theorem dJ7_fill_d0a16_16 : decode cJ7_fill_d0a16 16 = .ok (.iinc 3 1, 3) := by decide +kernel
theorem dJ7_fill_d0a16_19 : decode cJ7_fill_d0a16 19 = .ok (.goto (-13), 3) := by decide +kernel
theorem dJ7_fill_d0a16_22 : decode cJ7_fill_d0a16 22 = .ok (.return_, 1) := by decide +kernel
theorem dJ7_fill_53178_0 : decode cJ7_fill_53178 0 = .ok (.iconst 0, 1) := by decide +kernel
theorem dJ7_fill_53178_1 : decode cJ7_fill_53178 1 = .ok (.istore_n 2, 1) := by decide +kernel
theorem dJ7_fill_53178_2 : decode cJ7_fill_53178 2 = .ok (.aload_n 0, 1) := by decide +kernel
theorem dJ7_fill_53178_3 : decode cJ7_fill_53178 3 = .ok (.arraylength, 1) := by decide +kernel
theorem dJ7_fill_53178_4 : decode cJ7_fill_53178 4 = .ok (.istore_n 3, 1) := by decide +kernel
theorem dJ7_fill_53178_5 : decode cJ7_fill_53178 5 = .ok (.iload_n 2, 1) := by decide +kernel
theorem dJ7_fill_53178_6 : decode cJ7_fill_53178 6 = .ok (.iload_n 3, 1) := by decide +kernel
theorem dJ7_fill_53178_7 : decode cJ7_fill_53178 7 = .ok (.if_icmp .ge 13, 3) := by decide +kernel
theorem dJ7_fill_53178_10 : decode cJ7_fill_53178 10 = .ok (.aload_n 0, 1) := by decide +kernel
theorem dJ7_fill_53178_11 : decode cJ7_fill_53178 11 = .ok (.iload_n 2, 1) := by decide +kernel
theorem dJ7_fill_53178_12 : decode cJ7_fill_53178 12 = .ok (.iload_n 1, 1) := by decide +kernel
theorem dJ7_fill_53178_13 : decode cJ7_fill_53178 13 = .ok (.iastore, 1) := by decide +kernel
theorem dJ7_fill_53178_14 : decode cJ7_fill_53178 14 = .ok (.iinc 2 1, 3) := by decide +kernel
theorem dJ7_fill_53178_17 : decode cJ7_fill_53178 17 = .ok (.goto (-12), 3) := by decide +kernel
theorem dJ7_fill_53178_20 : decode cJ7_fill_53178 20 = .ok (.return_, 1) := by decide +kernel
theorem dJ3_checkIndex_8e157_0 : decode cJ3_checkIndex_8e157 0 = .ok (.iload_n 0, 1) := by decide +kernel
theorem dJ3_checkIndex_8e157_1 : decode cJ3_checkIndex_8e157 1 = .ok (.ifCond .lt 8, 3) := by decide +kernel
theorem dJ3_checkIndex_8e157_4 : decode cJ3_checkIndex_8e157 4 = .ok (.iload_n 0, 1) := by decide +kernel
theorem dJ3_checkIndex_8e157_5 : decode cJ3_checkIndex_8e157 5 = .ok (.iload_n 1, 1) := by decide +kernel
theorem dJ3_checkIndex_8e157_6 : decode cJ3_checkIndex_8e157 6 = .ok (.if_icmp .lt 10, 3) := by decide +kernel
theorem dJ3_checkIndex_8e157_9 : decode cJ3_checkIndex_8e157 9 = .ok (.aload_n 2, 1) := by decide +kernel
theorem dJ3_checkIndex_8e157_10 : decode cJ3_checkIndex_8e157 10 = .ok (.iload_n 0, 1) := by decide +kernel
theorem dJ3_checkIndex_8e157_11 : decode cJ3_checkIndex_8e157 11 = .ok (.iload_n 1, 1) := by decide +kernel
theorem dJ3_checkIndex_8e157_12 : decode cJ3_checkIndex_8e157 12 = .ok (.invokestatic 95, 3) := by decide +kernel
theorem dJ3_checkIndex_8e157_15 : decode cJ3_checkIndex_8e157 15 = .ok (.athrow, 1) := by decide +kernel
theorem dJ3_checkIndex_8e157_16 : decode cJ3_checkIndex_8e157 16 = .ok (.iload_n 0, 1) := by decide +kernel
theorem dJ3_checkIndex_8e157_17 : decode cJ3_checkIndex_8e157 17 = .ok (.ireturn, 1) := by decide +kernel
theorem dJ3_checkFromToIndex_8c36e_0 : decode cJ3_checkFromToIndex_8c36e 0 = .ok (.iload_n 0, 1) := by decide +kernel
theorem dJ3_checkFromToIndex_8c36e_1 : decode cJ3_checkFromToIndex_8c36e 1 = .ok (.ifCond .lt 13, 3) := by decide +kernel
theorem dJ3_checkFromToIndex_8c36e_4 : decode cJ3_checkFromToIndex_8c36e 4 = .ok (.iload_n 0, 1) := by decide +kernel
theorem dJ3_checkFromToIndex_8c36e_5 : decode cJ3_checkFromToIndex_8c36e 5 = .ok (.iload_n 1, 1) := by decide +kernel
theorem dJ3_checkFromToIndex_8c36e_6 : decode cJ3_checkFromToIndex_8c36e 6 = .ok (.if_icmp .gt 8, 3) := by decide +kernel
theorem dJ3_checkFromToIndex_8c36e_9 : decode cJ3_checkFromToIndex_8c36e 9 = .ok (.iload_n 1, 1) := by decide +kernel
theorem dJ3_checkFromToIndex_8c36e_10 : decode cJ3_checkFromToIndex_8c36e 10 = .ok (.iload_n 2, 1) := by decide +kernel
theorem dJ3_checkFromToIndex_8c36e_11 : decode cJ3_checkFromToIndex_8c36e 11 = .ok (.if_icmp .le 11, 3) := by decide +kernel
theorem dJ3_checkFromToIndex_8c36e_14 : decode cJ3_checkFromToIndex_8c36e 14 = .ok (.aload_n 3, 1) := by decide +kernel
theorem dJ3_checkFromToIndex_8c36e_15 : decode cJ3_checkFromToIndex_8c36e 15 = .ok (.iload_n 0, 1) := by decide +kernel
theorem dJ3_checkFromToIndex_8c36e_16 : decode cJ3_checkFromToIndex_8c36e 16 = .ok (.iload_n 1, 1) := by decide +kernel
theorem dJ3_checkFromToIndex_8c36e_17 : decode cJ3_checkFromToIndex_8c36e 17 = .ok (.iload_n 2, 1) := by decide +kernel
theorem dJ3_checkFromToIndex_8c36e_18 : decode cJ3_checkFromToIndex_8c36e 18 = .ok (.invokestatic 99, 3) := by decide +kernel
theorem dJ3_checkFromToIndex_8c36e_21 : decode cJ3_checkFromToIndex_8c36e 21 = .ok (.athrow, 1) := by decide +kernel
theorem dJ3_checkFromToIndex_8c36e_22 : decode cJ3_checkFromToIndex_8c36e 22 = .ok (.iload_n 0, 1) := by decide +kernel
theorem dJ3_checkFromToIndex_8c36e_23 : decode cJ3_checkFromToIndex_8c36e 23 = .ok (.ireturn, 1) := by decide +kernel
