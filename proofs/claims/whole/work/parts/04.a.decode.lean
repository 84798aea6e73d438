theorem dX0_init_0 : decode cX0_init 0 = .ok (.aload_n 0, 1) := by decide +kernel
theorem dX0_init_1 : decode cX0_init 1 = .ok (.invokespecial 1, 3) := by decide +kernel
theorem dX0_init_4 : decode cX0_init 4 = .ok (.aload_n 0, 1) := by decide +kernel
theorem dX0_init_5 : decode cX0_init 5 = .ok (.bipush 100, 2) := by decide +kernel
theorem dX0_init_7 : decode cX0_init 7 = .ok (.newarray .int, 2) := by decide +kernel
theorem dX0_init_9 : decode cX0_init 9 = .ok (.putfield 9, 3) := by decide +kernel
theorem dX0_init_12 : decode cX0_init 12 = .ok (.aload_n 0, 1) := by decide +kernel
theorem dX0_init_13 : decode cX0_init 13 = .ok (.bipush 100, 2) := by decide +kernel
theorem dX0_init_15 : decode cX0_init 15 = .ok (.newarray .int, 2) := by decide +kernel
theorem dX0_init_17 : decode cX0_init 17 = .ok (.putfield 13, 3) := by decide +kernel
theorem dX0_init_20 : decode cX0_init 20 = .ok (.aload_n 0, 1) := by decide +kernel
theorem dX0_init_21 : decode cX0_init 21 = .ok (.bipush 100, 2) := by decide +kernel
theorem dX0_init_23 : decode cX0_init 23 = .ok (.newarray .int, 2) := by decide +kernel
theorem dX0_init_25 : decode cX0_init 25 = .ok (.putfield 16, 3) := by decide +kernel
theorem dX0_init_28 : decode cX0_init 28 = .ok (.aload_n 0, 1) := by decide +kernel
theorem dX0_init_29 : decode cX0_init 29 = .ok (.iconst 0, 1) := by decide +kernel
theorem dX0_init_30 : decode cX0_init 30 = .ok (.putfield 19, 3) := by decide +kernel
theorem dX0_init_33 : decode cX0_init 33 = .ok (.return_, 1) := by decide +kernel
theorem dX0_isFull_0 : decode cX0_isFull 0 = .ok (.aload_n 0, 1) := by decide +kernel
theorem dX0_isFull_1 : decode cX0_isFull 1 = .ok (.getfield 19, 3) := by decide +kernel
theorem dX0_isFull_4 : decode cX0_isFull 4 = .ok (.bipush 100, 2) := by decide +kernel
theorem dX0_isFull_6 : decode cX0_isFull 6 = .ok (.if_icmp .lt 7, 3) := by decide +kernel
theorem dX0_isFull_9 : decode cX0_isFull 9 = .ok (.iconst 1, 1) := by decide +kernel
theorem dX0_isFull_10 : decode cX0_isFull 10 = .ok (.goto 4, 3) := by decide +kernel
theorem dX0_isFull_13 : decode cX0_isFull 13 = .ok (.iconst 0, 1) := by decide +kernel
theorem dX0_isFull_14 : decode cX0_isFull 14 = .ok (.ireturn, 1) := by decide +kernel
theorem dX0_add_0 : decode cX0_add 0 = .ok (.aload_n 0, 1) := by decide +kernel
theorem dX0_add_1 : decode cX0_add 1 = .ok (.getfield 9, 3) := by decide +kernel
theorem dX0_add_4 : decode cX0_add 4 = .ok (.aload_n 0, 1) := by decide +kernel
theorem dX0_add_5 : decode cX0_add 5 = .ok (.getfield 19, 3) := by decide +kernel
theorem dX0_add_8 : decode cX0_add 8 = .ok (.iload_n 1, 1) := by decide +kernel
theorem dX0_add_9 : decode cX0_add 9 = .ok (.iastore, 1) := by decide +kernel
theorem dX0_add_10 : decode cX0_add 10 = .ok (.aload_n 0, 1) := by decide +kernel
theorem dX0_add_11 : decode cX0_add 11 = .ok (.getfield 13, 3) := by decide +kernel
theorem dX0_add_14 : decode cX0_add 14 = .ok (.aload_n 0, 1) := by decide +kernel
theorem dX0_add_15 : decode cX0_add 15 = .ok (.getfield 19, 3) := by decide +kernel
theorem dX0_add_18 : decode cX0_add 18 = .ok (.iload_n 2, 1) := by decide +kernel
theorem dX0_add_19 : decode cX0_add 19 = .ok (.iastore, 1) := by decide +kernel
theorem dX0_add_20 : decode cX0_add 20 = .ok (.aload_n 0, 1) := by decide +kernel
theorem dX0_add_21 : decode cX0_add 21 = .ok (.getfield 16, 3) := by decide +kernel
theorem dX0_add_24 : decode cX0_add 24 = .ok (.aload_n 0, 1) := by decide +kernel
theorem dX0_add_25 : decode cX0_add 25 = .ok (.getfield 19, 3) := by decide +kernel
theorem dX0_add_28 : decode cX0_add 28 = .ok (.iload_n 3, 1) := by decide +kernel
theorem dX0_add_29 : decode cX0_add 29 = .ok (.iastore, 1) := by decide +kernel
theorem dX0_add_30 : decode cX0_add 30 = .ok (.aload_n 0, 1) := by decide +kernel
theorem dX0_add_31 : decode cX0_add 31 = .ok (.dup, 1) := by decide +kernel
theorem dX0_add_32 : decode cX0_add 32 = .ok (.getfield 19, 3) := by decide +kernel
theorem dX0_add_35 : decode cX0_add 35 = .ok (.iconst 1, 1) := by decide +kernel
theorem dX0_add_36 : decode cX0_add 36 = .ok (.iadd, 1) := by decide +kernel
theorem dX0_add_37 : decode cX0_add 37 = .ok (.putfield 19, 3) := by decide +kernel
theorem dX0_add_40 : decode cX0_add 40 = .ok (.aload_n 0, 1) := by decide +kernel
theorem dX0_add_41 : decode cX0_add 41 = .ok (.getfield 19, 3) := by decide +kernel
theorem dX0_add_44 : decode cX0_add 44 = .ok (.ireturn, 1) := by decide +kernel
theorem dX0_send_0 : decode cX0_send 0 = .ok (.iconst 0, 1) := by decide +kernel
theorem dX0_send_1 : decode cX0_send 1 = .ok (.istore_n 3, 1) := by decide +kernel
theorem dX0_send_2 : decode cX0_send 2 = .ok (.iconst 1, 1) := by decide +kernel
theorem dX0_send_3 : decode cX0_send 3 = .ok (.istore 4, 2) := by decide +kernel
theorem dX0_send_5 : decode cX0_send 5 = .ok (.iconst 1, 1) := by decide +kernel
theorem dX0_send_6 : decode cX0_send 6 = .ok (.istore 5, 2) := by decide +kernel
theorem dX0_send_8 : decode cX0_send 8 = .ok (.iload 5, 2) := by decide +kernel
theorem dX0_send_10 : decode cX0_send 10 = .ok (.bipush 60, 2) := by decide +kernel
theorem dX0_send_12 : decode cX0_send 12 = .ok (.if_icmp .gt 73, 3) := by decide +kernel
theorem dX0_send_15 : decode cX0_send 15 = .ok (.iload 4, 2) := by decide +kernel
theorem dX0_send_17 : decode cX0_send 17 = .ok (.iload_n 1, 1) := by decide +kernel
theorem dX0_send_18 : decode cX0_send 18 = .ok (.if_icmp .gt 67, 3) := by decide +kernel
theorem dX0_send_21 : decode cX0_send 21 = .ok (.aload_n 0, 1) := by decide +kernel
theorem dX0_send_22 : decode cX0_send 22 = .ok (.iload 5, 2) := by decide +kernel
theorem dX0_send_24 : decode cX0_send 24 = .ok (.aload_n 2, 1) := by decide +kernel
theorem dX0_send_25 : decode cX0_send 25 = .ok (.invokevirtual 23, 3) := by decide +kernel
theorem dX0_send_28 : decode cX0_send 28 = .ok (.istore 6, 2) := by decide +kernel
theorem dX0_send_30 : decode cX0_send 30 = .ok (.iload 6, 2) := by decide +kernel
theorem dX0_send_32 : decode cX0_send 32 = .ok (.iconst (-1), 1) := by decide +kernel
theorem dX0_send_33 : decode cX0_send 33 = .ok (.if_icmp .eq 43, 3) := by decide +kernel
theorem dX0_send_36 : decode cX0_send 36 = .ok (.iload 4, 2) := by decide +kernel
theorem dX0_send_38 : decode cX0_send 38 = .ok (.aload_n 0, 1) := by decide +kernel
theorem dX0_send_39 : decode cX0_send 39 = .ok (.getfield 16, 3) := by decide +kernel
theorem dX0_send_42 : decode cX0_send 42 = .ok (.iload 6, 2) := by decide +kernel
theorem dX0_send_44 : decode cX0_send 44 = .ok (.iaload, 1) := by decide +kernel
theorem dX0_send_45 : decode cX0_send 45 = .ok (.iadd, 1) := by decide +kernel
theorem dX0_send_46 : decode cX0_send 46 = .ok (.iconst 1, 1) := by decide +kernel
theorem dX0_send_47 : decode cX0_send 47 = .ok (.isub, 1) := by decide +kernel
theorem dX0_send_48 : decode cX0_send 48 = .ok (.iload_n 1, 1) := by decide +kernel
theorem dX0_send_49 : decode cX0_send 49 = .ok (.if_icmp .gt 27, 3) := by decide +kernel
theorem dX0_send_52 : decode cX0_send 52 = .ok (.iload 4, 2) := by decide +kernel
theorem dX0_send_54 : decode cX0_send 54 = .ok (.aload_n 0, 1) := by decide +kernel
theorem dX0_send_55 : decode cX0_send 55 = .ok (.getfield 16, 3) := by decide +kernel
theorem dX0_send_58 : decode cX0_send 58 = .ok (.iload 6, 2) := by decide +kernel
theorem dX0_send_60 : decode cX0_send 60 = .ok (.iaload, 1) := by decide +kernel
theorem dX0_send_61 : decode cX0_send 61 = .ok (.iadd, 1) := by decide +kernel
theorem dX0_send_62 : decode cX0_send 62 = .ok (.istore 4, 2) := by decide +kernel
theorem dX0_send_64 : decode cX0_send 64 = .ok (.aload_n 0, 1) := by decide +kernel
theorem dX0_send_65 : decode cX0_send 65 = .ok (.iload 6, 2) := by decide +kernel
theorem dX0_send_67 : decode cX0_send 67 = .ok (.invokevirtual 27, 3) := by decide +kernel
theorem dX0_send_70 : decode cX0_send 70 = .ok (.iinc 3 1, 3) := by decide +kernel
theorem dX0_send_73 : decode cX0_send 73 = .ok (.goto 6, 3) := by decide +kernel
theorem dX0_send_76 : decode cX0_send 76 = .ok (.iinc 4 1, 3) := by decide +kernel
theorem dX0_send_79 : decode cX0_send 79 = .ok (.iinc 5 1, 3) := by decide +kernel
theorem dX0_send_82 : decode cX0_send 82 = .ok (.goto (-74), 3) := by decide +kernel
theorem dX0_send_85 : decode cX0_send 85 = .ok (.iload_n 3, 1) := by decide +kernel
theorem dX0_send_86 : decode cX0_send 86 = .ok (.ireturn, 1) := by decide +kernel
theorem dX0_firstOf_0 : decode cX0_firstOf 0 = .ok (.iconst 0, 1) := by decide +kernel
theorem dX0_firstOf_1 : decode cX0_firstOf 1 = .ok (.istore_n 3, 1) := by decide +kernel
theorem dX0_firstOf_2 : decode cX0_firstOf 2 = .ok (.iload_n 3, 1) := by decide +kernel
theorem dX0_firstOf_3 : decode cX0_firstOf 3 = .ok (.aload_n 0, 1) := by decide +kernel
theorem dX0_firstOf_4 : decode cX0_firstOf 4 = .ok (.getfield 19, 3) := by decide +kernel
theorem dX0_firstOf_7 : decode cX0_firstOf 7 = .ok (.if_icmp .ge 34, 3) := by decide +kernel
theorem dX0_firstOf_10 : decode cX0_firstOf 10 = .ok (.aload_n 0, 1) := by decide +kernel
theorem dX0_firstOf_11 : decode cX0_firstOf 11 = .ok (.getfield 13, 3) := by decide +kernel
theorem dX0_firstOf_14 : decode cX0_firstOf 14 = .ok (.iload_n 3, 1) := by decide +kernel
theorem dX0_firstOf_15 : decode cX0_firstOf 15 = .ok (.iaload, 1) := by decide +kernel
theorem dX0_firstOf_16 : decode cX0_firstOf 16 = .ok (.iload_n 1, 1) := by decide +kernel
theorem dX0_firstOf_17 : decode cX0_firstOf 17 = .ok (.if_icmp .ne 18, 3) := by decide +kernel
theorem dX0_firstOf_20 : decode cX0_firstOf 20 = .ok (.aload_n 2, 1) := by decide +kernel
theorem dX0_firstOf_21 : decode cX0_firstOf 21 = .ok (.aload_n 0, 1) := by decide +kernel
theorem dX0_firstOf_22 : decode cX0_firstOf 22 = .ok (.getfield 9, 3) := by decide +kernel
theorem dX0_firstOf_25 : decode cX0_firstOf 25 = .ok (.iload_n 3, 1) := by decide +kernel
theorem dX0_firstOf_26 : decode cX0_firstOf 26 = .ok (.iaload, 1) := by decide +kernel
theorem dX0_firstOf_27 : decode cX0_firstOf 27 = .ok (.invokevirtual 31, 3) := by decide +kernel
theorem dX0_firstOf_30 : decode cX0_firstOf 30 = .ok (.ifCond .eq 5, 3) := by decide +kernel
theorem dX0_firstOf_33 : decode cX0_firstOf 33 = .ok (.iload_n 3, 1) := by decide +kernel
theorem dX0_firstOf_34 : decode cX0_firstOf 34 = .ok (.ireturn, 1) := by decide +kernel
theorem dX0_firstOf_35 : decode cX0_firstOf 35 = .ok (.iinc 3 1, 3) := by decide +kernel
theorem dX0_firstOf_38 : decode cX0_firstOf 38 = .ok (.goto (-36), 3) := by decide +kernel
theorem dX0_firstOf_41 : decode cX0_firstOf 41 = .ok (.iconst (-1), 1) := by decide +kernel
theorem dX0_firstOf_42 : decode cX0_firstOf 42 = .ok (.ireturn, 1) := by decide +kernel
theorem dX0_remove_0 : decode cX0_remove 0 = .ok (.aload_n 0, 1) := by decide +kernel
theorem dX0_remove_1 : decode cX0_remove 1 = .ok (.dup, 1) := by decide +kernel
theorem dX0_remove_2 : decode cX0_remove 2 = .ok (.getfield 19, 3) := by decide +kernel
theorem dX0_remove_5 : decode cX0_remove 5 = .ok (.iconst 1, 1) := by decide +kernel
theorem dX0_remove_6 : decode cX0_remove 6 = .ok (.isub, 1) := by decide +kernel
theorem dX0_remove_7 : decode cX0_remove 7 = .ok (.putfield 19, 3) := by decide +kernel
theorem dX0_remove_10 : decode cX0_remove 10 = .ok (.iload_n 1, 1) := by decide +kernel
theorem dX0_remove_11 : decode cX0_remove 11 = .ok (.istore_n 2, 1) := by decide +kernel
theorem dX0_remove_12 : decode cX0_remove 12 = .ok (.iload_n 2, 1) := by decide +kernel
theorem dX0_remove_13 : decode cX0_remove 13 = .ok (.aload_n 0, 1) := by decide +kernel
theorem dX0_remove_14 : decode cX0_remove 14 = .ok (.getfield 19, 3) := by decide +kernel
theorem dX0_remove_17 : decode cX0_remove 17 = .ok (.if_icmp .ge 51, 3) := by decide +kernel
theorem dX0_remove_20 : decode cX0_remove 20 = .ok (.aload_n 0, 1) := by decide +kernel
theorem dX0_remove_21 : decode cX0_remove 21 = .ok (.getfield 9, 3) := by decide +kernel
theorem dX0_remove_24 : decode cX0_remove 24 = .ok (.iload_n 2, 1) := by decide +kernel
theorem dX0_remove_25 : decode cX0_remove 25 = .ok (.aload_n 0, 1) := by decide +kernel
theorem dX0_remove_26 : decode cX0_remove 26 = .ok (.getfield 9, 3) := by decide +kernel
theorem dX0_remove_29 : decode cX0_remove 29 = .ok (.iload_n 2, 1) := by decide +kernel
theorem dX0_remove_30 : decode cX0_remove 30 = .ok (.iconst 1, 1) := by decide +kernel
theorem dX0_remove_31 : decode cX0_remove 31 = .ok (.iadd, 1) := by decide +kernel
theorem dX0_remove_32 : decode cX0_remove 32 = .ok (.iaload, 1) := by decide +kernel
theorem dX0_remove_33 : decode cX0_remove 33 = .ok (.iastore, 1) := by decide +kernel
theorem dX0_remove_34 : decode cX0_remove 34 = .ok (.aload_n 0, 1) := by decide +kernel
theorem dX0_remove_35 : decode cX0_remove 35 = .ok (.getfield 13, 3) := by decide +kernel
theorem dX0_remove_38 : decode cX0_remove 38 = .ok (.iload_n 2, 1) := by decide +kernel
theorem dX0_remove_39 : decode cX0_remove 39 = .ok (.aload_n 0, 1) := by decide +kernel
theorem dX0_remove_40 : decode cX0_remove 40 = .ok (.getfield 13, 3) := by decide +kernel
theorem dX0_remove_43 : decode cX0_remove 43 = .ok (.iload_n 2, 1) := by decide +kernel
theorem dX0_remove_44 : decode cX0_remove 44 = .ok (.iconst 1, 1) := by decide +kernel
theorem dX0_remove_45 : decode cX0_remove 45 = .ok (.iadd, 1) := by decide +kernel
theorem dX0_remove_46 : decode cX0_remove 46 = .ok (.iaload, 1) := by decide +kernel
theorem dX0_remove_47 : decode cX0_remove 47 = .ok (.iastore, 1) := by decide +kernel
theorem dX0_remove_48 : decode cX0_remove 48 = .ok (.aload_n 0, 1) := by decide +kernel
theorem dX0_remove_49 : decode cX0_remove 49 = .ok (.getfield 16, 3) := by decide +kernel
theorem dX0_remove_52 : decode cX0_remove 52 = .ok (.iload_n 2, 1) := by decide +kernel
theorem dX0_remove_53 : decode cX0_remove 53 = .ok (.aload_n 0, 1) := by decide +kernel
theorem dX0_remove_54 : decode cX0_remove 54 = .ok (.getfield 16, 3) := by decide +kernel
theorem dX0_remove_57 : decode cX0_remove 57 = .ok (.iload_n 2, 1) := by decide +kernel
theorem dX0_remove_58 : decode cX0_remove 58 = .ok (.iconst 1, 1) := by decide +kernel
theorem dX0_remove_59 : decode cX0_remove 59 = .ok (.iadd, 1) := by decide +kernel
theorem dX0_remove_60 : decode cX0_remove 60 = .ok (.iaload, 1) := by decide +kernel
theorem dX0_remove_61 : decode cX0_remove 61 = .ok (.iastore, 1) := by decide +kernel
theorem dX0_remove_62 : decode cX0_remove 62 = .ok (.iinc 2 1, 3) := by decide +kernel
theorem dX0_remove_65 : decode cX0_remove 65 = .ok (.goto (-53), 3) := by decide +kernel
theorem dX0_remove_68 : decode cX0_remove 68 = .ok (.return_, 1) := by decide +kernel
theorem dX1_init_0 : decode cX1_init 0 = .ok (.aload_n 0, 1) := by decide +kernel
theorem dX1_init_1 : decode cX1_init 1 = .ok (.invokespecial 1, 3) := by decide +kernel
theorem dX1_init_4 : decode cX1_init 4 = .ok (.aload_n 0, 1) := by decide +kernel
theorem dX1_init_5 : decode cX1_init 5 = .ok (.iload_n 1, 1) := by decide +kernel
theorem dX1_init_6 : decode cX1_init 6 = .ok (.newarray .int, 2) := by decide +kernel
theorem dX1_init_8 : decode cX1_init 8 = .ok (.putfield 7, 3) := by decide +kernel
theorem dX1_init_11 : decode cX1_init 11 = .ok (.aload_n 0, 1) := by decide +kernel
theorem dX1_init_12 : decode cX1_init 12 = .ok (.iconst 0, 1) := by decide +kernel
theorem dX1_init_13 : decode cX1_init 13 = .ok (.putfield 13, 3) := by decide +kernel
theorem dX1_init_16 : decode cX1_init 16 = .ok (.return_, 1) := by decide +kernel
theorem dX1_has_0 : decode cX1_has 0 = .ok (.aload_n 0, 1) := by decide +kernel
theorem dX1_has_1 : decode cX1_has 1 = .ok (.getfield 7, 3) := by decide +kernel
theorem dX1_has_4 : decode cX1_has 4 = .ok (.iload_n 2, 1) := by decide +kernel
theorem dX1_has_5 : decode cX1_has 5 = .ok (.iaload, 1) := by decide +kernel
theorem dX1_has_6 : decode cX1_has 6 = .ok (.iload_n 1, 1) := by decide +kernel
theorem dX1_has_7 : decode cX1_has 7 = .ok (.iand, 1) := by decide +kernel
theorem dX1_has_8 : decode cX1_has 8 = .ok (.ifCond .eq 7, 3) := by decide +kernel
theorem dX1_has_11 : decode cX1_has 11 = .ok (.iconst 1, 1) := by decide +kernel
theorem dX1_has_12 : decode cX1_has 12 = .ok (.goto 4, 3) := by decide +kernel
theorem dX1_has_15 : decode cX1_has 15 = .ok (.iconst 0, 1) := by decide +kernel
theorem dX1_has_16 : decode cX1_has 16 = .ok (.ireturn, 1) := by decide +kernel
theorem dX1_add_0 : decode cX1_add 0 = .ok (.aload_n 0, 1) := by decide +kernel
theorem dX1_add_1 : decode cX1_add 1 = .ok (.getfield 7, 3) := by decide +kernel
theorem dX1_add_4 : decode cX1_add 4 = .ok (.iload_n 2, 1) := by decide +kernel
theorem dX1_add_5 : decode cX1_add 5 = .ok (.dup2, 1) := by decide +kernel
theorem dX1_add_6 : decode cX1_add 6 = .ok (.iaload, 1) := by decide +kernel
theorem dX1_add_7 : decode cX1_add 7 = .ok (.iload_n 1, 1) := by decide +kernel
theorem dX1_add_8 : decode cX1_add 8 = .ok (.ior, 1) := by decide +kernel
theorem dX1_add_9 : decode cX1_add 9 = .ok (.iastore, 1) := by decide +kernel
theorem dX1_add_10 : decode cX1_add 10 = .ok (.aload_n 0, 1) := by decide +kernel
theorem dX1_add_11 : decode cX1_add 11 = .ok (.dup, 1) := by decide +kernel
theorem dX1_add_12 : decode cX1_add 12 = .ok (.getfield 13, 3) := by decide +kernel
theorem dX1_add_15 : decode cX1_add 15 = .ok (.iconst 1, 1) := by decide +kernel
theorem dX1_add_16 : decode cX1_add 16 = .ok (.iadd, 1) := by decide +kernel
theorem dX1_add_17 : decode cX1_add 17 = .ok (.putfield 13, 3) := by decide +kernel
theorem dX1_add_20 : decode cX1_add 20 = .ok (.aload_n 0, 1) := by decide +kernel
theorem dX1_add_21 : decode cX1_add 21 = .ok (.getfield 13, 3) := by decide +kernel
theorem dX1_add_24 : decode cX1_add 24 = .ok (.ireturn, 1) := by decide +kernel
theorem dX1_leavesAny_0 : decode cX1_leavesAny 0 = .ok (.iload_n 1, 1) := by decide +kernel
theorem dX1_leavesAny_1 : decode cX1_leavesAny 1 = .ok (.aload_n 0, 1) := by decide +kernel
theorem dX1_leavesAny_2 : decode cX1_leavesAny 2 = .ok (.getfield 7, 3) := by decide +kernel
theorem dX1_leavesAny_5 : decode cX1_leavesAny 5 = .ok (.iload_n 2, 1) := by decide +kernel
theorem dX1_leavesAny_6 : decode cX1_leavesAny 6 = .ok (.iaload, 1) := by decide +kernel
theorem dX1_leavesAny_7 : decode cX1_leavesAny 7 = .ok (.iconst (-1), 1) := by decide +kernel
theorem dX1_leavesAny_8 : decode cX1_leavesAny 8 = .ok (.ixor, 1) := by decide +kernel
theorem dX1_leavesAny_9 : decode cX1_leavesAny 9 = .ok (.iand, 1) := by decide +kernel
theorem dX1_leavesAny_10 : decode cX1_leavesAny 10 = .ok (.ifCond .eq 7, 3) := by decide +kernel
theorem dX1_leavesAny_13 : decode cX1_leavesAny 13 = .ok (.iconst 1, 1) := by decide +kernel
theorem dX1_leavesAny_14 : decode cX1_leavesAny 14 = .ok (.goto 4, 3) := by decide +kernel
theorem dX1_leavesAny_17 : decode cX1_leavesAny 17 = .ok (.iconst 0, 1) := by decide +kernel
theorem dX1_leavesAny_18 : decode cX1_leavesAny 18 = .ok (.ireturn, 1) := by decide +kernel
theorem dX1_clear_0 : decode cX1_clear 0 = .ok (.iconst 0, 1) := by decide +kernel
theorem dX1_clear_1 : decode cX1_clear 1 = .ok (.istore_n 1, 1) := by decide +kernel
theorem dX1_clear_2 : decode cX1_clear 2 = .ok (.iload_n 1, 1) := by decide +kernel
theorem dX1_clear_3 : decode cX1_clear 3 = .ok (.aload_n 0, 1) := by decide +kernel
theorem dX1_clear_4 : decode cX1_clear 4 = .ok (.getfield 7, 3) := by decide +kernel
theorem dX1_clear_7 : decode cX1_clear 7 = .ok (.arraylength, 1) := by decide +kernel
theorem dX1_clear_8 : decode cX1_clear 8 = .ok (.if_icmp .ge 16, 3) := by decide +kernel
theorem dX1_clear_11 : decode cX1_clear 11 = .ok (.aload_n 0, 1) := by decide +kernel
theorem dX1_clear_12 : decode cX1_clear 12 = .ok (.getfield 7, 3) := by decide +kernel
theorem dX1_clear_15 : decode cX1_clear 15 = .ok (.iload_n 1, 1) := by decide +kernel
theorem dX1_clear_16 : decode cX1_clear 16 = .ok (.iconst 0, 1) := by decide +kernel
theorem dX1_clear_17 : decode cX1_clear 17 = .ok (.iastore, 1) := by decide +kernel
theorem dX1_clear_18 : decode cX1_clear 18 = .ok (.iinc 1 1, 3) := by decide +kernel
theorem dX1_clear_21 : decode cX1_clear 21 = .ok (.goto (-19), 3) := by decide +kernel
theorem dX1_clear_24 : decode cX1_clear 24 = .ok (.aload_n 0, 1) := by decide +kernel
theorem dX1_clear_25 : decode cX1_clear 25 = .ok (.iconst 0, 1) := by decide +kernel
theorem dX1_clear_26 : decode cX1_clear 26 = .ok (.putfield 13, 3) := by decide +kernel
theorem dX1_clear_29 : decode cX1_clear 29 = .ok (.return_, 1) := by decide +kernel
theorem dX2_init_0 : decode cX2_init 0 = .ok (.aload_n 0, 1) := by decide +kernel
theorem dX2_init_1 : decode cX2_init 1 = .ok (.invokespecial 1, 3) := by decide +kernel
theorem dX2_init_4 : decode cX2_init 4 = .ok (.aload_n 0, 1) := by decide +kernel
theorem dX2_init_5 : decode cX2_init 5 = .ok (.iload_n 1, 1) := by decide +kernel
theorem dX2_init_6 : decode cX2_init 6 = .ok (.putfield 7, 3) := by decide +kernel
theorem dX2_init_9 : decode cX2_init 9 = .ok (.aload_n 0, 1) := by decide +kernel
theorem dX2_init_10 : decode cX2_init 10 = .ok (.iload_n 1, 1) := by decide +kernel
theorem dX2_init_11 : decode cX2_init 11 = .ok (.iconst 1, 1) := by decide +kernel
theorem dX2_init_12 : decode cX2_init 12 = .ok (.iadd, 1) := by decide +kernel
theorem dX2_init_13 : decode cX2_init 13 = .ok (.newarray .int, 2) := by decide +kernel
theorem dX2_init_15 : decode cX2_init 15 = .ok (.putfield 13, 3) := by decide +kernel
theorem dX2_init_18 : decode cX2_init 18 = .ok (.aload_n 0, 1) := by decide +kernel
theorem dX2_init_19 : decode cX2_init 19 = .ok (.iload_n 1, 1) := by decide +kernel
theorem dX2_init_20 : decode cX2_init 20 = .ok (.iconst 1, 1) := by decide +kernel
theorem dX2_init_21 : decode cX2_init 21 = .ok (.iadd, 1) := by decide +kernel
theorem dX2_init_22 : decode cX2_init 22 = .ok (.newarray .int, 2) := by decide +kernel
theorem dX2_init_24 : decode cX2_init 24 = .ok (.putfield 17, 3) := by decide +kernel
theorem dX2_init_27 : decode cX2_init 27 = .ok (.aload_n 0, 1) := by decide +kernel
theorem dX2_init_28 : decode cX2_init 28 = .ok (.iload_n 1, 1) := by decide +kernel
theorem dX2_init_29 : decode cX2_init 29 = .ok (.iconst 1, 1) := by decide +kernel
theorem dX2_init_30 : decode cX2_init 30 = .ok (.iadd, 1) := by decide +kernel
theorem dX2_init_31 : decode cX2_init 31 = .ok (.newarray .int, 2) := by decide +kernel
theorem dX2_init_33 : decode cX2_init 33 = .ok (.putfield 20, 3) := by decide +kernel
theorem dX2_init_36 : decode cX2_init 36 = .ok (.aload_n 0, 1) := by decide +kernel
theorem dX2_init_37 : decode cX2_init 37 = .ok (.iload_n 1, 1) := by decide +kernel
theorem dX2_init_38 : decode cX2_init 38 = .ok (.iconst 1, 1) := by decide +kernel
theorem dX2_init_39 : decode cX2_init 39 = .ok (.iadd, 1) := by decide +kernel
theorem dX2_init_40 : decode cX2_init 40 = .ok (.newarray .int, 2) := by decide +kernel
theorem dX2_init_42 : decode cX2_init 42 = .ok (.putfield 23, 3) := by decide +kernel
theorem dX2_init_45 : decode cX2_init 45 = .ok (.aload_n 0, 1) := by decide +kernel
theorem dX2_init_46 : decode cX2_init 46 = .ok (.iload_n 1, 1) := by decide +kernel
theorem dX2_init_47 : decode cX2_init 47 = .ok (.iconst 1, 1) := by decide +kernel
theorem dX2_init_48 : decode cX2_init 48 = .ok (.iadd, 1) := by decide +kernel
theorem dX2_init_49 : decode cX2_init 49 = .ok (.newarray .boolean, 2) := by decide +kernel
theorem dX2_init_51 : decode cX2_init 51 = .ok (.putfield 26, 3) := by decide +kernel
theorem dX2_init_54 : decode cX2_init 54 = .ok (.aload_n 0, 1) := by decide +kernel
theorem dX2_init_55 : decode cX2_init 55 = .ok (.iload_n 1, 1) := by decide +kernel
theorem dX2_init_56 : decode cX2_init 56 = .ok (.iconst 1, 1) := by decide +kernel
theorem dX2_init_57 : decode cX2_init 57 = .ok (.iadd, 1) := by decide +kernel
theorem dX2_init_58 : decode cX2_init 58 = .ok (.newarray .int, 2) := by decide +kernel
theorem dX2_init_60 : decode cX2_init 60 = .ok (.putfield 30, 3) := by decide +kernel
theorem dX2_init_63 : decode cX2_init 63 = .ok (.aload_n 0, 1) := by decide +kernel
theorem dX2_init_64 : decode cX2_init 64 = .ok (.iload_n 1, 1) := by decide +kernel
theorem dX2_init_65 : decode cX2_init 65 = .ok (.iconst 1, 1) := by decide +kernel
theorem dX2_init_66 : decode cX2_init 66 = .ok (.iadd, 1) := by decide +kernel
theorem dX2_init_67 : decode cX2_init 67 = .ok (.newarray .boolean, 2) := by decide +kernel
theorem dX2_init_69 : decode cX2_init 69 = .ok (.putfield 33, 3) := by decide +kernel
theorem dX2_init_72 : decode cX2_init 72 = .ok (.aload_n 0, 1) := by decide +kernel
theorem dX2_init_73 : decode cX2_init 73 = .ok (.iload_n 1, 1) := by decide +kernel
theorem dX2_init_74 : decode cX2_init 74 = .ok (.iconst 1, 1) := by decide +kernel
theorem dX2_init_75 : decode cX2_init 75 = .ok (.iadd, 1) := by decide +kernel
theorem dX2_init_76 : decode cX2_init 76 = .ok (.newarray .int, 2) := by decide +kernel
theorem dX2_init_78 : decode cX2_init 78 = .ok (.putfield 36, 3) := by decide +kernel
theorem dX2_init_81 : decode cX2_init 81 = .ok (.aload_n 0, 1) := by decide +kernel
theorem dX2_init_82 : decode cX2_init 82 = .ok (.iload_n 1, 1) := by decide +kernel
theorem dX2_init_83 : decode cX2_init 83 = .ok (.iconst 1, 1) := by decide +kernel
theorem dX2_init_84 : decode cX2_init 84 = .ok (.iadd, 1) := by decide +kernel
theorem dX2_init_85 : decode cX2_init 85 = .ok (.newarray .int, 2) := by decide +kernel
theorem dX2_init_87 : decode cX2_init 87 = .ok (.putfield 39, 3) := by decide +kernel
theorem dX2_init_90 : decode cX2_init 90 = .ok (.aload_n 0, 1) := by decide +kernel
theorem dX2_init_91 : decode cX2_init 91 = .ok (.iload_n 1, 1) := by decide +kernel
theorem dX2_init_92 : decode cX2_init 92 = .ok (.iconst 1, 1) := by decide +kernel
theorem dX2_init_93 : decode cX2_init 93 = .ok (.iadd, 1) := by decide +kernel
theorem dX2_init_94 : decode cX2_init 94 = .ok (.newarray .boolean, 2) := by decide +kernel
theorem dX2_init_96 : decode cX2_init 96 = .ok (.putfield 42, 3) := by decide +kernel
theorem dX2_init_99 : decode cX2_init 99 = .ok (.aload_n 0, 1) := by decide +kernel
theorem dX2_init_100 : decode cX2_init 100 = .ok (.iload_n 1, 1) := by decide +kernel
theorem dX2_init_101 : decode cX2_init 101 = .ok (.newarray .int, 2) := by decide +kernel
theorem dX2_init_103 : decode cX2_init 103 = .ok (.putfield 45, 3) := by decide +kernel
theorem dX2_init_106 : decode cX2_init 106 = .ok (.return_, 1) := by decide +kernel
theorem dX2_has_0 : decode cX2_has 0 = .ok (.iload_n 1, 1) := by decide +kernel
theorem dX2_has_1 : decode cX2_has 1 = .ok (.iconst 1, 1) := by decide +kernel
theorem dX2_has_2 : decode cX2_has 2 = .ok (.if_icmp .lt 15, 3) := by decide +kernel
theorem dX2_has_5 : decode cX2_has 5 = .ok (.iload_n 1, 1) := by decide +kernel
theorem dX2_has_6 : decode cX2_has 6 = .ok (.aload_n 0, 1) := by decide +kernel
theorem dX2_has_7 : decode cX2_has 7 = .ok (.getfield 7, 3) := by decide +kernel
theorem dX2_has_10 : decode cX2_has 10 = .ok (.if_icmp .gt 7, 3) := by decide +kernel
theorem dX2_has_13 : decode cX2_has 13 = .ok (.iconst 1, 1) := by decide +kernel
theorem dX2_has_14 : decode cX2_has 14 = .ok (.goto 4, 3) := by decide +kernel
theorem dX2_has_17 : decode cX2_has 17 = .ok (.iconst 0, 1) := by decide +kernel
theorem dX2_has_18 : decode cX2_has 18 = .ok (.ireturn, 1) := by decide +kernel
theorem dX2_isActive_0 : decode cX2_isActive 0 = .ok (.aload_n 0, 1) := by decide +kernel
theorem dX2_isActive_1 : decode cX2_isActive 1 = .ok (.getfield 13, 3) := by decide +kernel
theorem dX2_isActive_4 : decode cX2_isActive 4 = .ok (.iload_n 1, 1) := by decide +kernel
theorem dX2_isActive_5 : decode cX2_isActive 5 = .ok (.iaload, 1) := by decide +kernel
theorem dX2_isActive_6 : decode cX2_isActive 6 = .ok (.iconst 2, 1) := by decide +kernel
theorem dX2_isActive_7 : decode cX2_isActive 7 = .ok (.if_icmp .ne 7, 3) := by decide +kernel
theorem dX2_isActive_10 : decode cX2_isActive 10 = .ok (.iconst 1, 1) := by decide +kernel
theorem dX2_isActive_11 : decode cX2_isActive 11 = .ok (.goto 4, 3) := by decide +kernel
theorem dX2_isActive_14 : decode cX2_isActive 14 = .ok (.iconst 0, 1) := by decide +kernel
theorem dX2_isActive_15 : decode cX2_isActive 15 = .ok (.ireturn, 1) := by decide +kernel
theorem dX2_tellCold_0 : decode cX2_tellCold 0 = .ok (.aload_n 0, 1) := by decide +kernel
theorem dX2_tellCold_1 : decode cX2_tellCold 1 = .ok (.getfield 26, 3) := by decide +kernel
theorem dX2_tellCold_4 : decode cX2_tellCold 4 = .ok (.iload_n 1, 1) := by decide +kernel
theorem dX2_tellCold_5 : decode cX2_tellCold 5 = .ok (.iload_n 2, 1) := by decide +kernel
theorem dX2_tellCold_6 : decode cX2_tellCold 6 = .ok (.bastore, 1) := by decide +kernel
theorem dX2_tellCold_7 : decode cX2_tellCold 7 = .ok (.iload_n 2, 1) := by decide +kernel
theorem dX2_tellCold_8 : decode cX2_tellCold 8 = .ok (.ifCond .eq 44, 3) := by decide +kernel
theorem dX2_tellCold_11 : decode cX2_tellCold 11 = .ok (.aload_n 0, 1) := by decide +kernel
theorem dX2_tellCold_12 : decode cX2_tellCold 12 = .ok (.getfield 13, 3) := by decide +kernel
theorem dX2_tellCold_15 : decode cX2_tellCold 15 = .ok (.iload_n 1, 1) := by decide +kernel
theorem dX2_tellCold_16 : decode cX2_tellCold 16 = .ok (.iaload, 1) := by decide +kernel
theorem dX2_tellCold_17 : decode cX2_tellCold 17 = .ok (.iconst 3, 1) := by decide +kernel
theorem dX2_tellCold_18 : decode cX2_tellCold 18 = .ok (.if_icmp .eq 13, 3) := by decide +kernel
theorem dX2_tellCold_21 : decode cX2_tellCold 21 = .ok (.aload_n 0, 1) := by decide +kernel
theorem dX2_tellCold_22 : decode cX2_tellCold 22 = .ok (.getfield 13, 3) := by decide +kernel
theorem dX2_tellCold_25 : decode cX2_tellCold 25 = .ok (.iload_n 1, 1) := by decide +kernel
theorem dX2_tellCold_26 : decode cX2_tellCold 26 = .ok (.iaload, 1) := by decide +kernel
theorem dX2_tellCold_27 : decode cX2_tellCold 27 = .ok (.iconst 4, 1) := by decide +kernel
theorem dX2_tellCold_28 : decode cX2_tellCold 28 = .ok (.if_icmp .ne 24, 3) := by decide +kernel
theorem dX2_tellCold_31 : decode cX2_tellCold 31 = .ok (.aload_n 0, 1) := by decide +kernel
theorem dX2_tellCold_32 : decode cX2_tellCold 32 = .ok (.getfield 13, 3) := by decide +kernel
theorem dX2_tellCold_35 : decode cX2_tellCold 35 = .ok (.iload_n 1, 1) := by decide +kernel
theorem dX2_tellCold_36 : decode cX2_tellCold 36 = .ok (.iconst 0, 1) := by decide +kernel
theorem dX2_tellCold_37 : decode cX2_tellCold 37 = .ok (.iastore, 1) := by decide +kernel
theorem dX2_tellCold_38 : decode cX2_tellCold 38 = .ok (.aload_n 0, 1) := by decide +kernel
theorem dX2_tellCold_39 : decode cX2_tellCold 39 = .ok (.getfield 17, 3) := by decide +kernel
theorem dX2_tellCold_42 : decode cX2_tellCold 42 = .ok (.iload_n 1, 1) := by decide +kernel
theorem dX2_tellCold_43 : decode cX2_tellCold 43 = .ok (.iconst 0, 1) := by decide +kernel
theorem dX2_tellCold_44 : decode cX2_tellCold 44 = .ok (.iastore, 1) := by decide +kernel
theorem dX2_tellCold_45 : decode cX2_tellCold 45 = .ok (.aload_n 0, 1) := by decide +kernel
theorem dX2_tellCold_46 : decode cX2_tellCold 46 = .ok (.getfield 23, 3) := by decide +kernel
theorem dX2_tellCold_49 : decode cX2_tellCold 49 = .ok (.iload_n 1, 1) := by decide +kernel
theorem dX2_tellCold_50 : decode cX2_tellCold 50 = .ok (.iconst 0, 1) := by decide +kernel
theorem dX2_tellCold_51 : decode cX2_tellCold 51 = .ok (.iastore, 1) := by decide +kernel
theorem dX2_tellCold_52 : decode cX2_tellCold 52 = .ok (.return_, 1) := by decide +kernel
theorem dX2_countCold_0 : decode cX2_countCold 0 = .ok (.iconst 0, 1) := by decide +kernel
theorem dX2_countCold_1 : decode cX2_countCold 1 = .ok (.istore_n 1, 1) := by decide +kernel
theorem dX2_countCold_2 : decode cX2_countCold 2 = .ok (.iconst 1, 1) := by decide +kernel
theorem dX2_countCold_3 : decode cX2_countCold 3 = .ok (.istore_n 2, 1) := by decide +kernel
theorem dX2_countCold_4 : decode cX2_countCold 4 = .ok (.iload_n 2, 1) := by decide +kernel
theorem dX2_countCold_5 : decode cX2_countCold 5 = .ok (.aload_n 0, 1) := by decide +kernel
theorem dX2_countCold_6 : decode cX2_countCold 6 = .ok (.getfield 7, 3) := by decide +kernel
theorem dX2_countCold_9 : decode cX2_countCold 9 = .ok (.if_icmp .gt 21, 3) := by decide +kernel
theorem dX2_countCold_12 : decode cX2_countCold 12 = .ok (.aload_n 0, 1) := by decide +kernel
theorem dX2_countCold_13 : decode cX2_countCold 13 = .ok (.getfield 26, 3) := by decide +kernel
theorem dX2_countCold_16 : decode cX2_countCold 16 = .ok (.iload_n 2, 1) := by decide +kernel
theorem dX2_countCold_17 : decode cX2_countCold 17 = .ok (.baload, 1) := by decide +kernel
theorem dX2_countCold_18 : decode cX2_countCold 18 = .ok (.ifCond .eq 6, 3) := by decide +kernel
theorem dX2_countCold_21 : decode cX2_countCold 21 = .ok (.iinc 1 1, 3) := by decide +kernel
theorem dX2_countCold_24 : decode cX2_countCold 24 = .ok (.iinc 2 1, 3) := by decide +kernel
theorem dX2_countCold_27 : decode cX2_countCold 27 = .ok (.goto (-23), 3) := by decide +kernel
theorem dX2_countCold_30 : decode cX2_countCold 30 = .ok (.iload_n 1, 1) := by decide +kernel
theorem dX2_countCold_31 : decode cX2_countCold 31 = .ok (.ireturn, 1) := by decide +kernel
theorem dX2_areWithin_0 : decode cX2_areWithin 0 = .ok (.iconst 1, 1) := by decide +kernel
theorem dX2_areWithin_1 : decode cX2_areWithin 1 = .ok (.istore_n 2, 1) := by decide +kernel
theorem dX2_areWithin_2 : decode cX2_areWithin 2 = .ok (.iload_n 2, 1) := by decide +kernel
theorem dX2_areWithin_3 : decode cX2_areWithin 3 = .ok (.aload_n 0, 1) := by decide +kernel
theorem dX2_areWithin_4 : decode cX2_areWithin 4 = .ok (.getfield 7, 3) := by decide +kernel
theorem dX2_areWithin_7 : decode cX2_areWithin 7 = .ok (.if_icmp .gt 57, 3) := by decide +kernel
theorem dX2_areWithin_10 : decode cX2_areWithin 10 = .ok (.iload_n 2, 1) := by decide +kernel
theorem dX2_areWithin_11 : decode cX2_areWithin 11 = .ok (.iconst 1, 1) := by decide +kernel
theorem dX2_areWithin_12 : decode cX2_areWithin 12 = .ok (.iadd, 1) := by decide +kernel
theorem dX2_areWithin_13 : decode cX2_areWithin 13 = .ok (.istore_n 3, 1) := by decide +kernel
theorem dX2_areWithin_14 : decode cX2_areWithin 14 = .ok (.iload_n 3, 1) := by decide +kernel
theorem dX2_areWithin_15 : decode cX2_areWithin 15 = .ok (.aload_n 0, 1) := by decide +kernel
theorem dX2_areWithin_16 : decode cX2_areWithin 16 = .ok (.getfield 7, 3) := by decide +kernel
theorem dX2_areWithin_19 : decode cX2_areWithin 19 = .ok (.if_icmp .gt 39, 3) := by decide +kernel
theorem dX2_areWithin_22 : decode cX2_areWithin 22 = .ok (.aload_n 0, 1) := by decide +kernel
theorem dX2_areWithin_23 : decode cX2_areWithin 23 = .ok (.iload_n 2, 1) := by decide +kernel
theorem dX2_areWithin_24 : decode cX2_areWithin 24 = .ok (.invokevirtual 48, 3) := by decide +kernel
theorem dX2_areWithin_27 : decode cX2_areWithin 27 = .ok (.ifCond .eq 25, 3) := by decide +kernel
theorem dX2_areWithin_30 : decode cX2_areWithin 30 = .ok (.aload_n 0, 1) := by decide +kernel
theorem dX2_areWithin_31 : decode cX2_areWithin 31 = .ok (.iload_n 3, 1) := by decide +kernel
theorem dX2_areWithin_32 : decode cX2_areWithin 32 = .ok (.invokevirtual 48, 3) := by decide +kernel
theorem dX2_areWithin_35 : decode cX2_areWithin 35 = .ok (.ifCond .eq 17, 3) := by decide +kernel
theorem dX2_areWithin_38 : decode cX2_areWithin 38 = .ok (.aload_n 0, 1) := by decide +kernel
theorem dX2_areWithin_39 : decode cX2_areWithin 39 = .ok (.iload_n 2, 1) := by decide +kernel
theorem dX2_areWithin_40 : decode cX2_areWithin 40 = .ok (.iload_n 3, 1) := by decide +kernel
theorem dX2_areWithin_41 : decode cX2_areWithin 41 = .ok (.invokevirtual 52, 3) := by decide +kernel
theorem dX2_areWithin_44 : decode cX2_areWithin 44 = .ok (.iload_n 1, 1) := by decide +kernel
theorem dX2_areWithin_45 : decode cX2_areWithin 45 = .ok (.i2l, 1) := by decide +kernel
theorem dX2_areWithin_46 : decode cX2_areWithin 46 = .ok (.lcmp, 1) := by decide +kernel
theorem dX2_areWithin_47 : decode cX2_areWithin 47 = .ok (.ifCond .le 5, 3) := by decide +kernel
theorem dX2_areWithin_50 : decode cX2_areWithin 50 = .ok (.iconst 0, 1) := by decide +kernel
theorem dX2_areWithin_51 : decode cX2_areWithin 51 = .ok (.ireturn, 1) := by decide +kernel
theorem dX2_areWithin_52 : decode cX2_areWithin 52 = .ok (.iinc 3 1, 3) := by decide +kernel
theorem dX2_areWithin_55 : decode cX2_areWithin 55 = .ok (.goto (-41), 3) := by decide +kernel
theorem dX2_areWithin_58 : decode cX2_areWithin 58 = .ok (.iinc 2 1, 3) := by decide +kernel
theorem dX2_areWithin_61 : decode cX2_areWithin 61 = .ok (.goto (-59), 3) := by decide +kernel
theorem dX2_areWithin_64 : decode cX2_areWithin 64 = .ok (.iconst 1, 1) := by decide +kernel
theorem dX2_areWithin_65 : decode cX2_areWithin 65 = .ok (.ireturn, 1) := by decide +kernel
theorem dX2_distance_0 : decode cX2_distance 0 = .ok (.aload_n 0, 1) := by decide +kernel
theorem dX2_distance_1 : decode cX2_distance 1 = .ok (.getfield 17, 3) := by decide +kernel
theorem dX2_distance_4 : decode cX2_distance 4 = .ok (.iload_n 1, 1) := by decide +kernel
theorem dX2_distance_5 : decode cX2_distance 5 = .ok (.iaload, 1) := by decide +kernel
theorem dX2_distance_6 : decode cX2_distance 6 = .ok (.i2l, 1) := by decide +kernel
theorem dX2_distance_7 : decode cX2_distance 7 = .ok (.aload_n 0, 1) := by decide +kernel
theorem dX2_distance_8 : decode cX2_distance 8 = .ok (.getfield 17, 3) := by decide +kernel
theorem dX2_distance_11 : decode cX2_distance 11 = .ok (.iload_n 2, 1) := by decide +kernel
theorem dX2_distance_12 : decode cX2_distance 12 = .ok (.iaload, 1) := by decide +kernel
theorem dX2_distance_13 : decode cX2_distance 13 = .ok (.i2l, 1) := by decide +kernel
theorem dX2_distance_14 : decode cX2_distance 14 = .ok (.lsub, 1) := by decide +kernel
theorem dX2_distance_15 : decode cX2_distance 15 = .ok (.invokestatic 56, 3) := by decide +kernel
theorem dX2_distance_18 : decode cX2_distance 18 = .ok (.lreturn, 1) := by decide +kernel
theorem dX2_startUp_0 : decode cX2_startUp 0 = .ok (.aload_n 0, 1) := by decide +kernel
theorem dX2_startUp_1 : decode cX2_startUp 1 = .ok (.invokevirtual 62, 3) := by decide +kernel
theorem dX2_startUp_4 : decode cX2_startUp 4 = .ok (.istore_n 1, 1) := by decide +kernel
theorem dX2_startUp_5 : decode cX2_startUp 5 = .ok (.iload_n 1, 1) := by decide +kernel
theorem dX2_startUp_6 : decode cX2_startUp 6 = .ok (.ifCond .eq 11, 3) := by decide +kernel
theorem dX2_startUp_9 : decode cX2_startUp 9 = .ok (.aload_n 0, 1) := by decide +kernel
theorem dX2_startUp_10 : decode cX2_startUp 10 = .ok (.iload_n 1, 1) := by decide +kernel
theorem dX2_startUp_11 : decode cX2_startUp 11 = .ok (.invokevirtual 66, 3) := by decide +kernel
theorem dX2_startUp_14 : decode cX2_startUp 14 = .ok (.goto 15, 3) := by decide +kernel
theorem dX2_startUp_17 : decode cX2_startUp 17 = .ok (.aload_n 0, 1) := by decide +kernel
theorem dX2_startUp_18 : decode cX2_startUp 18 = .ok (.invokevirtual 70, 3) := by decide +kernel
theorem dX2_startUp_21 : decode cX2_startUp 21 = .ok (.iconst 2, 1) := by decide +kernel
theorem dX2_startUp_22 : decode cX2_startUp 22 = .ok (.if_icmp .lt 7, 3) := by decide +kernel
theorem dX2_startUp_25 : decode cX2_startUp 25 = .ok (.aload_n 0, 1) := by decide +kernel
theorem dX2_startUp_26 : decode cX2_startUp 26 = .ok (.invokevirtual 73, 3) := by decide +kernel
theorem dX2_startUp_29 : decode cX2_startUp 29 = .ok (.return_, 1) := by decide +kernel
theorem dX2_leastActive_0 : decode cX2_leastActive 0 = .ok (.iconst 1, 1) := by decide +kernel
theorem dX2_leastActive_1 : decode cX2_leastActive 1 = .ok (.istore_n 1, 1) := by decide +kernel
theorem dX2_leastActive_2 : decode cX2_leastActive 2 = .ok (.iload_n 1, 1) := by decide +kernel
theorem dX2_leastActive_3 : decode cX2_leastActive 3 = .ok (.aload_n 0, 1) := by decide +kernel
theorem dX2_leastActive_4 : decode cX2_leastActive 4 = .ok (.getfield 7, 3) := by decide +kernel
theorem dX2_leastActive_7 : decode cX2_leastActive 7 = .ok (.if_icmp .gt 19, 3) := by decide +kernel
theorem dX2_leastActive_10 : decode cX2_leastActive 10 = .ok (.aload_n 0, 1) := by decide +kernel
theorem dX2_leastActive_11 : decode cX2_leastActive 11 = .ok (.iload_n 1, 1) := by decide +kernel
theorem dX2_leastActive_12 : decode cX2_leastActive 12 = .ok (.invokevirtual 48, 3) := by decide +kernel
theorem dX2_leastActive_15 : decode cX2_leastActive 15 = .ok (.ifCond .eq 5, 3) := by decide +kernel
theorem dX2_leastActive_18 : decode cX2_leastActive 18 = .ok (.iload_n 1, 1) := by decide +kernel
theorem dX2_leastActive_19 : decode cX2_leastActive 19 = .ok (.ireturn, 1) := by decide +kernel
theorem dX2_leastActive_20 : decode cX2_leastActive 20 = .ok (.iinc 1 1, 3) := by decide +kernel
theorem dX2_leastActive_23 : decode cX2_leastActive 23 = .ok (.goto (-21), 3) := by decide +kernel
theorem dX2_leastActive_26 : decode cX2_leastActive 26 = .ok (.iconst 0, 1) := by decide +kernel
theorem dX2_leastActive_27 : decode cX2_leastActive 27 = .ok (.ireturn, 1) := by decide +kernel
theorem dX2_integrate_0 : decode cX2_integrate 0 = .ok (.iconst 1, 1) := by decide +kernel
theorem dX2_integrate_1 : decode cX2_integrate 1 = .ok (.istore_n 2, 1) := by decide +kernel
theorem dX2_integrate_2 : decode cX2_integrate 2 = .ok (.iload_n 2, 1) := by decide +kernel
theorem dX2_integrate_3 : decode cX2_integrate 3 = .ok (.aload_n 0, 1) := by decide +kernel
theorem dX2_integrate_4 : decode cX2_integrate 4 = .ok (.getfield 7, 3) := by decide +kernel
theorem dX2_integrate_7 : decode cX2_integrate 7 = .ok (.if_icmp .gt 51, 3) := by decide +kernel
theorem dX2_integrate_10 : decode cX2_integrate 10 = .ok (.aload_n 0, 1) := by decide +kernel
theorem dX2_integrate_11 : decode cX2_integrate 11 = .ok (.getfield 13, 3) := by decide +kernel
theorem dX2_integrate_14 : decode cX2_integrate 14 = .ok (.iload_n 2, 1) := by decide +kernel
theorem dX2_integrate_15 : decode cX2_integrate 15 = .ok (.iaload, 1) := by decide +kernel
theorem dX2_integrate_16 : decode cX2_integrate 16 = .ok (.ifCond .ne 20, 3) := by decide +kernel
theorem dX2_integrate_19 : decode cX2_integrate 19 = .ok (.aload_n 0, 1) := by decide +kernel
theorem dX2_integrate_20 : decode cX2_integrate 20 = .ok (.getfield 13, 3) := by decide +kernel
theorem dX2_integrate_23 : decode cX2_integrate 23 = .ok (.iload_n 2, 1) := by decide +kernel
theorem dX2_integrate_24 : decode cX2_integrate 24 = .ok (.iconst 1, 1) := by decide +kernel
theorem dX2_integrate_25 : decode cX2_integrate 25 = .ok (.iastore, 1) := by decide +kernel
theorem dX2_integrate_26 : decode cX2_integrate 26 = .ok (.aload_n 0, 1) := by decide +kernel
theorem dX2_integrate_27 : decode cX2_integrate 27 = .ok (.getfield 30, 3) := by decide +kernel
theorem dX2_integrate_30 : decode cX2_integrate 30 = .ok (.iload_n 2, 1) := by decide +kernel
theorem dX2_integrate_31 : decode cX2_integrate 31 = .ok (.iconst 0, 1) := by decide +kernel
theorem dX2_integrate_32 : decode cX2_integrate 32 = .ok (.iastore, 1) := by decide +kernel
theorem dX2_integrate_33 : decode cX2_integrate 33 = .ok (.goto 19, 3) := by decide +kernel
theorem dX2_integrate_36 : decode cX2_integrate 36 = .ok (.aload_n 0, 1) := by decide +kernel
theorem dX2_integrate_37 : decode cX2_integrate 37 = .ok (.getfield 13, 3) := by decide +kernel
theorem dX2_integrate_40 : decode cX2_integrate 40 = .ok (.iload_n 2, 1) := by decide +kernel
theorem dX2_integrate_41 : decode cX2_integrate 41 = .ok (.iaload, 1) := by decide +kernel
theorem dX2_integrate_42 : decode cX2_integrate 42 = .ok (.iconst 1, 1) := by decide +kernel
theorem dX2_integrate_43 : decode cX2_integrate 43 = .ok (.if_icmp .ne 9, 3) := by decide +kernel
theorem dX2_integrate_46 : decode cX2_integrate 46 = .ok (.aload_n 0, 1) := by decide +kernel
theorem dX2_integrate_47 : decode cX2_integrate 47 = .ok (.iload_n 2, 1) := by decide +kernel
theorem dX2_integrate_48 : decode cX2_integrate 48 = .ok (.iload_n 1, 1) := by decide +kernel
theorem dX2_integrate_49 : decode cX2_integrate 49 = .ok (.invokevirtual 76, 3) := by decide +kernel
theorem dX2_integrate_52 : decode cX2_integrate 52 = .ok (.iinc 2 1, 3) := by decide +kernel
theorem dX2_integrate_55 : decode cX2_integrate 55 = .ok (.goto (-53), 3) := by decide +kernel
theorem dX2_integrate_58 : decode cX2_integrate 58 = .ok (.return_, 1) := by decide +kernel
theorem dX2_listen_0 : decode cX2_listen 0 = .ok (.aload_n 0, 1) := by decide +kernel
theorem dX2_listen_1 : decode cX2_listen 1 = .ok (.getfield 30, 3) := by decide +kernel
theorem dX2_listen_4 : decode cX2_listen 4 = .ok (.iload_n 1, 1) := by decide +kernel
theorem dX2_listen_5 : decode cX2_listen 5 = .ok (.dup2, 1) := by decide +kernel
theorem dX2_listen_6 : decode cX2_listen 6 = .ok (.iaload, 1) := by decide +kernel
theorem dX2_listen_7 : decode cX2_listen 7 = .ok (.iconst 1, 1) := by decide +kernel
theorem dX2_listen_8 : decode cX2_listen 8 = .ok (.iadd, 1) := by decide +kernel
theorem dX2_listen_9 : decode cX2_listen 9 = .ok (.iastore, 1) := by decide +kernel
theorem dX2_listen_10 : decode cX2_listen 10 = .ok (.aload_n 0, 1) := by decide +kernel
theorem dX2_listen_11 : decode cX2_listen 11 = .ok (.getfield 30, 3) := by decide +kernel
theorem dX2_listen_14 : decode cX2_listen 14 = .ok (.iload_n 1, 1) := by decide +kernel
theorem dX2_listen_15 : decode cX2_listen 15 = .ok (.iaload, 1) := by decide +kernel
theorem dX2_listen_16 : decode cX2_listen 16 = .ok (.iconst 2, 1) := by decide +kernel
theorem dX2_listen_17 : decode cX2_listen 17 = .ok (.if_icmp .lt 22, 3) := by decide +kernel
theorem dX2_listen_20 : decode cX2_listen 20 = .ok (.aload_n 0, 1) := by decide +kernel
theorem dX2_listen_21 : decode cX2_listen 21 = .ok (.getfield 13, 3) := by decide +kernel
theorem dX2_listen_24 : decode cX2_listen 24 = .ok (.iload_n 1, 1) := by decide +kernel
theorem dX2_listen_25 : decode cX2_listen 25 = .ok (.iconst 2, 1) := by decide +kernel
theorem dX2_listen_26 : decode cX2_listen 26 = .ok (.iastore, 1) := by decide +kernel
theorem dX2_listen_27 : decode cX2_listen 27 = .ok (.aload_n 0, 1) := by decide +kernel
theorem dX2_listen_28 : decode cX2_listen 28 = .ok (.getfield 17, 3) := by decide +kernel
theorem dX2_listen_31 : decode cX2_listen 31 = .ok (.iload_n 1, 1) := by decide +kernel
theorem dX2_listen_32 : decode cX2_listen 32 = .ok (.aload_n 0, 1) := by decide +kernel
theorem dX2_listen_33 : decode cX2_listen 33 = .ok (.getfield 17, 3) := by decide +kernel
theorem dX2_listen_36 : decode cX2_listen 36 = .ok (.iload_n 2, 1) := by decide +kernel
theorem dX2_listen_37 : decode cX2_listen 37 = .ok (.iaload, 1) := by decide +kernel
theorem dX2_listen_38 : decode cX2_listen 38 = .ok (.iastore, 1) := by decide +kernel
theorem dX2_listen_39 : decode cX2_listen 39 = .ok (.return_, 1) := by decide +kernel
theorem dX2_isStarter_0 : decode cX2_isStarter 0 = .ok (.aload_n 0, 1) := by decide +kernel
theorem dX2_isStarter_1 : decode cX2_isStarter 1 = .ok (.getfield 26, 3) := by decide +kernel
theorem dX2_isStarter_4 : decode cX2_isStarter 4 = .ok (.iload_n 1, 1) := by decide +kernel
theorem dX2_isStarter_5 : decode cX2_isStarter 5 = .ok (.baload, 1) := by decide +kernel
theorem dX2_isStarter_6 : decode cX2_isStarter 6 = .ok (.ifCond .eq 26, 3) := by decide +kernel
theorem dX2_isStarter_9 : decode cX2_isStarter 9 = .ok (.aload_n 0, 1) := by decide +kernel
theorem dX2_isStarter_10 : decode cX2_isStarter 10 = .ok (.getfield 13, 3) := by decide +kernel
theorem dX2_isStarter_13 : decode cX2_isStarter 13 = .ok (.iload_n 1, 1) := by decide +kernel
theorem dX2_isStarter_14 : decode cX2_isStarter 14 = .ok (.iaload, 1) := by decide +kernel
theorem dX2_isStarter_15 : decode cX2_isStarter 15 = .ok (.ifCond .eq 13, 3) := by decide +kernel
theorem dX2_isStarter_18 : decode cX2_isStarter 18 = .ok (.aload_n 0, 1) := by decide +kernel
theorem dX2_isStarter_19 : decode cX2_isStarter 19 = .ok (.getfield 13, 3) := by decide +kernel
theorem dX2_isStarter_22 : decode cX2_isStarter 22 = .ok (.iload_n 1, 1) := by decide +kernel
theorem dX2_isStarter_23 : decode cX2_isStarter 23 = .ok (.iaload, 1) := by decide +kernel
theorem dX2_isStarter_24 : decode cX2_isStarter 24 = .ok (.iconst 1, 1) := by decide +kernel
theorem dX2_isStarter_25 : decode cX2_isStarter 25 = .ok (.if_icmp .ne 7, 3) := by decide +kernel
theorem dX2_isStarter_28 : decode cX2_isStarter 28 = .ok (.iconst 1, 1) := by decide +kernel
theorem dX2_isStarter_29 : decode cX2_isStarter 29 = .ok (.goto 4, 3) := by decide +kernel
theorem dX2_isStarter_32 : decode cX2_isStarter 32 = .ok (.iconst 0, 1) := by decide +kernel
theorem dX2_isStarter_33 : decode cX2_isStarter 33 = .ok (.ireturn, 1) := by decide +kernel
theorem dX2_countStarters_0 : decode cX2_countStarters 0 = .ok (.iconst 0, 1) := by decide +kernel
theorem dX2_countStarters_1 : decode cX2_countStarters 1 = .ok (.istore_n 1, 1) := by decide +kernel
theorem dX2_countStarters_2 : decode cX2_countStarters 2 = .ok (.iconst 1, 1) := by decide +kernel
theorem dX2_countStarters_3 : decode cX2_countStarters 3 = .ok (.istore_n 2, 1) := by decide +kernel
theorem dX2_countStarters_4 : decode cX2_countStarters 4 = .ok (.iload_n 2, 1) := by decide +kernel
theorem dX2_countStarters_5 : decode cX2_countStarters 5 = .ok (.aload_n 0, 1) := by decide +kernel
theorem dX2_countStarters_6 : decode cX2_countStarters 6 = .ok (.getfield 7, 3) := by decide +kernel
theorem dX2_countStarters_9 : decode cX2_countStarters 9 = .ok (.if_icmp .gt 20, 3) := by decide +kernel
theorem dX2_countStarters_12 : decode cX2_countStarters 12 = .ok (.aload_n 0, 1) := by decide +kernel
theorem dX2_countStarters_13 : decode cX2_countStarters 13 = .ok (.iload_n 2, 1) := by decide +kernel
theorem dX2_countStarters_14 : decode cX2_countStarters 14 = .ok (.invokevirtual 80, 3) := by decide +kernel
theorem dX2_countStarters_17 : decode cX2_countStarters 17 = .ok (.ifCond .eq 6, 3) := by decide +kernel
theorem dX2_countStarters_20 : decode cX2_countStarters 20 = .ok (.iinc 1 1, 3) := by decide +kernel
theorem dX2_countStarters_23 : decode cX2_countStarters 23 = .ok (.iinc 2 1, 3) := by decide +kernel
theorem dX2_countStarters_26 : decode cX2_countStarters 26 = .ok (.goto (-22), 3) := by decide +kernel
theorem dX2_countStarters_29 : decode cX2_countStarters 29 = .ok (.iload_n 1, 1) := by decide +kernel
theorem dX2_countStarters_30 : decode cX2_countStarters 30 = .ok (.ireturn, 1) := by decide +kernel
theorem dX2_startCold_0 : decode cX2_startCold 0 = .ok (.iconst 1, 1) := by decide +kernel
theorem dX2_startCold_1 : decode cX2_startCold 1 = .ok (.istore_n 1, 1) := by decide +kernel
theorem dX2_startCold_2 : decode cX2_startCold 2 = .ok (.iload_n 1, 1) := by decide +kernel
theorem dX2_startCold_3 : decode cX2_startCold 3 = .ok (.aload_n 0, 1) := by decide +kernel
theorem dX2_startCold_4 : decode cX2_startCold 4 = .ok (.getfield 7, 3) := by decide +kernel
theorem dX2_startCold_7 : decode cX2_startCold 7 = .ok (.if_icmp .gt 24, 3) := by decide +kernel
theorem dX2_startCold_10 : decode cX2_startCold 10 = .ok (.aload_n 0, 1) := by decide +kernel
theorem dX2_startCold_11 : decode cX2_startCold 11 = .ok (.iload_n 1, 1) := by decide +kernel
theorem dX2_startCold_12 : decode cX2_startCold 12 = .ok (.invokevirtual 80, 3) := by decide +kernel
theorem dX2_startCold_15 : decode cX2_startCold 15 = .ok (.ifCond .eq 10, 3) := by decide +kernel
theorem dX2_startCold_18 : decode cX2_startCold 18 = .ok (.aload_n 0, 1) := by decide +kernel
theorem dX2_startCold_19 : decode cX2_startCold 19 = .ok (.getfield 13, 3) := by decide +kernel
theorem dX2_startCold_22 : decode cX2_startCold 22 = .ok (.iload_n 1, 1) := by decide +kernel
theorem dX2_startCold_23 : decode cX2_startCold 23 = .ok (.iconst 2, 1) := by decide +kernel
theorem dX2_startCold_24 : decode cX2_startCold 24 = .ok (.iastore, 1) := by decide +kernel
theorem dX2_startCold_25 : decode cX2_startCold 25 = .ok (.iinc 1 1, 3) := by decide +kernel
theorem dX2_startCold_28 : decode cX2_startCold 28 = .ok (.goto (-26), 3) := by decide +kernel
theorem dX2_startCold_31 : decode cX2_startCold 31 = .ok (.return_, 1) := by decide +kernel
theorem dX2_forgetHeard_0 : decode cX2_forgetHeard 0 = .ok (.iconst 1, 1) := by decide +kernel
theorem dX2_forgetHeard_1 : decode cX2_forgetHeard 1 = .ok (.istore_n 1, 1) := by decide +kernel
theorem dX2_forgetHeard_2 : decode cX2_forgetHeard 2 = .ok (.iload_n 1, 1) := by decide +kernel
theorem dX2_forgetHeard_3 : decode cX2_forgetHeard 3 = .ok (.aload_n 0, 1) := by decide +kernel
theorem dX2_forgetHeard_4 : decode cX2_forgetHeard 4 = .ok (.getfield 7, 3) := by decide +kernel
theorem dX2_forgetHeard_7 : decode cX2_forgetHeard 7 = .ok (.if_icmp .gt 16, 3) := by decide +kernel
theorem dX2_forgetHeard_10 : decode cX2_forgetHeard 10 = .ok (.aload_n 0, 1) := by decide +kernel
theorem dX2_forgetHeard_11 : decode cX2_forgetHeard 11 = .ok (.getfield 33, 3) := by decide +kernel
theorem dX2_forgetHeard_14 : decode cX2_forgetHeard 14 = .ok (.iload_n 1, 1) := by decide +kernel
theorem dX2_forgetHeard_15 : decode cX2_forgetHeard 15 = .ok (.iconst 0, 1) := by decide +kernel
theorem dX2_forgetHeard_16 : decode cX2_forgetHeard 16 = .ok (.bastore, 1) := by decide +kernel
theorem dX2_forgetHeard_17 : decode cX2_forgetHeard 17 = .ok (.iinc 1 1, 3) := by decide +kernel
theorem dX2_forgetHeard_20 : decode cX2_forgetHeard 20 = .ok (.goto (-18), 3) := by decide +kernel
theorem dX2_forgetHeard_23 : decode cX2_forgetHeard 23 = .ok (.return_, 1) := by decide +kernel
theorem dX2_correct_0 : decode cX2_correct 0 = .ok (.iconst 1, 1) := by decide +kernel
theorem dX2_correct_1 : decode cX2_correct 1 = .ok (.istore_n 2, 1) := by decide +kernel
theorem dX2_correct_2 : decode cX2_correct 2 = .ok (.iload_n 2, 1) := by decide +kernel
theorem dX2_correct_3 : decode cX2_correct 3 = .ok (.aload_n 0, 1) := by decide +kernel
theorem dX2_correct_4 : decode cX2_correct 4 = .ok (.getfield 7, 3) := by decide +kernel
theorem dX2_correct_7 : decode cX2_correct 7 = .ok (.if_icmp .gt 28, 3) := by decide +kernel
theorem dX2_correct_10 : decode cX2_correct 10 = .ok (.aload_n 0, 1) := by decide +kernel
theorem dX2_correct_11 : decode cX2_correct 11 = .ok (.iload_n 2, 1) := by decide +kernel
theorem dX2_correct_12 : decode cX2_correct 12 = .ok (.invokevirtual 48, 3) := by decide +kernel
theorem dX2_correct_15 : decode cX2_correct 15 = .ok (.ifCond .eq 14, 3) := by decide +kernel
theorem dX2_correct_18 : decode cX2_correct 18 = .ok (.aload_n 0, 1) := by decide +kernel
theorem dX2_correct_19 : decode cX2_correct 19 = .ok (.getfield 36, 3) := by decide +kernel
theorem dX2_correct_22 : decode cX2_correct 22 = .ok (.iload_n 2, 1) := by decide +kernel
theorem dX2_correct_23 : decode cX2_correct 23 = .ok (.aload_n 0, 1) := by decide +kernel
theorem dX2_correct_24 : decode cX2_correct 24 = .ok (.iload_n 2, 1) := by decide +kernel
theorem dX2_correct_25 : decode cX2_correct 25 = .ok (.invokevirtual 83, 3) := by decide +kernel
theorem dX2_correct_28 : decode cX2_correct 28 = .ok (.iastore, 1) := by decide +kernel
theorem dX2_correct_29 : decode cX2_correct 29 = .ok (.iinc 2 1, 3) := by decide +kernel
theorem dX2_correct_32 : decode cX2_correct 32 = .ok (.goto (-30), 3) := by decide +kernel
theorem dX2_correct_35 : decode cX2_correct 35 = .ok (.iconst 1, 1) := by decide +kernel
theorem dX2_correct_36 : decode cX2_correct 36 = .ok (.istore_n 2, 1) := by decide +kernel
theorem dX2_correct_37 : decode cX2_correct 37 = .ok (.iload_n 2, 1) := by decide +kernel
theorem dX2_correct_38 : decode cX2_correct 38 = .ok (.aload_n 0, 1) := by decide +kernel
theorem dX2_correct_39 : decode cX2_correct 39 = .ok (.getfield 7, 3) := by decide +kernel
theorem dX2_correct_42 : decode cX2_correct 42 = .ok (.if_icmp .gt 39, 3) := by decide +kernel
theorem dX2_correct_45 : decode cX2_correct 45 = .ok (.aload_n 0, 1) := by decide +kernel
theorem dX2_correct_46 : decode cX2_correct 46 = .ok (.iload_n 2, 1) := by decide +kernel
theorem dX2_correct_47 : decode cX2_correct 47 = .ok (.invokevirtual 48, 3) := by decide +kernel
theorem dX2_correct_50 : decode cX2_correct 50 = .ok (.ifCond .eq 18, 3) := by decide +kernel
theorem dX2_correct_53 : decode cX2_correct 53 = .ok (.aload_n 0, 1) := by decide +kernel
theorem dX2_correct_54 : decode cX2_correct 54 = .ok (.iload_n 2, 1) := by decide +kernel
theorem dX2_correct_55 : decode cX2_correct 55 = .ok (.aload_n 0, 1) := by decide +kernel
theorem dX2_correct_56 : decode cX2_correct 56 = .ok (.getfield 36, 3) := by decide +kernel
theorem dX2_correct_59 : decode cX2_correct 59 = .ok (.iload_n 2, 1) := by decide +kernel
theorem dX2_correct_60 : decode cX2_correct 60 = .ok (.iaload, 1) := by decide +kernel
theorem dX2_correct_61 : decode cX2_correct 61 = .ok (.iload_n 1, 1) := by decide +kernel
theorem dX2_correct_62 : decode cX2_correct 62 = .ok (.invokevirtual 87, 3) := by decide +kernel
theorem dX2_correct_65 : decode cX2_correct 65 = .ok (.goto 10, 3) := by decide +kernel
theorem dX2_correct_68 : decode cX2_correct 68 = .ok (.aload_n 0, 1) := by decide +kernel
theorem dX2_correct_69 : decode cX2_correct 69 = .ok (.getfield 42, 3) := by decide +kernel
theorem dX2_correct_72 : decode cX2_correct 72 = .ok (.iload_n 2, 1) := by decide +kernel
theorem dX2_correct_73 : decode cX2_correct 73 = .ok (.iconst 0, 1) := by decide +kernel
theorem dX2_correct_74 : decode cX2_correct 74 = .ok (.bastore, 1) := by decide +kernel
theorem dX2_correct_75 : decode cX2_correct 75 = .ok (.iinc 2 1, 3) := by decide +kernel
theorem dX2_correct_78 : decode cX2_correct 78 = .ok (.goto (-41), 3) := by decide +kernel
theorem dX2_correct_81 : decode cX2_correct 81 = .ok (.return_, 1) := by decide +kernel
theorem dX2_findMidpoint_0 : decode cX2_findMidpoint 0 = .ok (.aload_n 0, 1) := by decide +kernel
theorem dX2_findMidpoint_1 : decode cX2_findMidpoint 1 = .ok (.getfield 45, 3) := by decide +kernel
theorem dX2_findMidpoint_4 : decode cX2_findMidpoint 4 = .ok (.iconst 0, 1) := by decide +kernel
theorem dX2_findMidpoint_5 : decode cX2_findMidpoint 5 = .ok (.iconst 0, 1) := by decide +kernel
theorem dX2_findMidpoint_6 : decode cX2_findMidpoint 6 = .ok (.iastore, 1) := by decide +kernel
theorem dX2_findMidpoint_7 : decode cX2_findMidpoint 7 = .ok (.iconst 1, 1) := by decide +kernel
theorem dX2_findMidpoint_8 : decode cX2_findMidpoint 8 = .ok (.istore_n 2, 1) := by decide +kernel
theorem dX2_findMidpoint_9 : decode cX2_findMidpoint 9 = .ok (.iconst 1, 1) := by decide +kernel
theorem dX2_findMidpoint_10 : decode cX2_findMidpoint 10 = .ok (.istore_n 3, 1) := by decide +kernel
theorem dX2_findMidpoint_11 : decode cX2_findMidpoint 11 = .ok (.iload_n 3, 1) := by decide +kernel
theorem dX2_findMidpoint_12 : decode cX2_findMidpoint 12 = .ok (.aload_n 0, 1) := by decide +kernel
theorem dX2_findMidpoint_13 : decode cX2_findMidpoint 13 = .ok (.getfield 7, 3) := by decide +kernel
theorem dX2_findMidpoint_16 : decode cX2_findMidpoint 16 = .ok (.if_icmp .gt 52, 3) := by decide +kernel
theorem dX2_findMidpoint_19 : decode cX2_findMidpoint 19 = .ok (.iload_n 3, 1) := by decide +kernel
theorem dX2_findMidpoint_20 : decode cX2_findMidpoint 20 = .ok (.iload_n 1, 1) := by decide +kernel
theorem dX2_findMidpoint_21 : decode cX2_findMidpoint 21 = .ok (.if_icmp .eq 41, 3) := by decide +kernel
theorem dX2_findMidpoint_24 : decode cX2_findMidpoint 24 = .ok (.aload_n 0, 1) := by decide +kernel
theorem dX2_findMidpoint_25 : decode cX2_findMidpoint 25 = .ok (.iload_n 3, 1) := by decide +kernel
theorem dX2_findMidpoint_26 : decode cX2_findMidpoint 26 = .ok (.invokevirtual 48, 3) := by decide +kernel
theorem dX2_findMidpoint_29 : decode cX2_findMidpoint 29 = .ok (.ifCond .eq 33, 3) := by decide +kernel
theorem dX2_findMidpoint_32 : decode cX2_findMidpoint 32 = .ok (.aload_n 0, 1) := by decide +kernel
theorem dX2_findMidpoint_33 : decode cX2_findMidpoint 33 = .ok (.getfield 33, 3) := by decide +kernel
theorem dX2_findMidpoint_36 : decode cX2_findMidpoint 36 = .ok (.iload_n 3, 1) := by decide +kernel
theorem dX2_findMidpoint_37 : decode cX2_findMidpoint 37 = .ok (.baload, 1) := by decide +kernel
theorem dX2_findMidpoint_38 : decode cX2_findMidpoint 38 = .ok (.ifCond .eq 24, 3) := by decide +kernel
theorem dX2_findMidpoint_41 : decode cX2_findMidpoint 41 = .ok (.aload_n 0, 1) := by decide +kernel
theorem dX2_findMidpoint_42 : decode cX2_findMidpoint 42 = .ok (.iload_n 2, 1) := by decide +kernel
theorem dX2_findMidpoint_43 : decode cX2_findMidpoint 43 = .ok (.aload_n 0, 1) := by decide +kernel
theorem dX2_findMidpoint_44 : decode cX2_findMidpoint 44 = .ok (.getfield 17, 3) := by decide +kernel
theorem dX2_findMidpoint_47 : decode cX2_findMidpoint 47 = .ok (.iload_n 3, 1) := by decide +kernel
theorem dX2_findMidpoint_48 : decode cX2_findMidpoint 48 = .ok (.iaload, 1) := by decide +kernel
theorem dX2_findMidpoint_49 : decode cX2_findMidpoint 49 = .ok (.aload_n 0, 1) := by decide +kernel
theorem dX2_findMidpoint_50 : decode cX2_findMidpoint 50 = .ok (.getfield 17, 3) := by decide +kernel
theorem dX2_findMidpoint_53 : decode cX2_findMidpoint 53 = .ok (.iload_n 1, 1) := by decide +kernel
theorem dX2_findMidpoint_54 : decode cX2_findMidpoint 54 = .ok (.iaload, 1) := by decide +kernel
theorem dX2_findMidpoint_55 : decode cX2_findMidpoint 55 = .ok (.isub, 1) := by decide +kernel
theorem dX2_findMidpoint_56 : decode cX2_findMidpoint 56 = .ok (.invokevirtual 91, 3) := by decide +kernel
theorem dX2_findMidpoint_59 : decode cX2_findMidpoint 59 = .ok (.iinc 2 1, 3) := by decide +kernel
theorem dX2_findMidpoint_62 : decode cX2_findMidpoint 62 = .ok (.iinc 3 1, 3) := by decide +kernel
theorem dX2_findMidpoint_65 : decode cX2_findMidpoint 65 = .ok (.goto (-54), 3) := by decide +kernel
theorem dX2_findMidpoint_68 : decode cX2_findMidpoint 68 = .ok (.iload_n 2, 1) := by decide +kernel
theorem dX2_findMidpoint_69 : decode cX2_findMidpoint 69 = .ok (.iconst 3, 1) := by decide +kernel
theorem dX2_findMidpoint_70 : decode cX2_findMidpoint 70 = .ok (.if_icmp .ge 7, 3) := by decide +kernel
theorem dX2_findMidpoint_73 : decode cX2_findMidpoint 73 = .ok (.iconst 0, 1) := by decide +kernel
theorem dX2_findMidpoint_74 : decode cX2_findMidpoint 74 = .ok (.goto 14, 3) := by decide +kernel
theorem dX2_findMidpoint_77 : decode cX2_findMidpoint 77 = .ok (.iload_n 2, 1) := by decide +kernel
theorem dX2_findMidpoint_78 : decode cX2_findMidpoint 78 = .ok (.bipush 8, 2) := by decide +kernel
theorem dX2_findMidpoint_80 : decode cX2_findMidpoint 80 = .ok (.if_icmp .ge 7, 3) := by decide +kernel
theorem dX2_findMidpoint_83 : decode cX2_findMidpoint 83 = .ok (.iconst 1, 1) := by decide +kernel
theorem dX2_findMidpoint_84 : decode cX2_findMidpoint 84 = .ok (.goto 4, 3) := by decide +kernel
theorem dX2_findMidpoint_87 : decode cX2_findMidpoint 87 = .ok (.iconst 2, 1) := by decide +kernel
theorem dX2_findMidpoint_88 : decode cX2_findMidpoint 88 = .ok (.istore_n 3, 1) := by decide +kernel
theorem dX2_findMidpoint_89 : decode cX2_findMidpoint 89 = .ok (.aload_n 0, 1) := by decide +kernel
theorem dX2_findMidpoint_90 : decode cX2_findMidpoint 90 = .ok (.getfield 45, 3) := by decide +kernel
theorem dX2_findMidpoint_93 : decode cX2_findMidpoint 93 = .ok (.iload_n 3, 1) := by decide +kernel
theorem dX2_findMidpoint_94 : decode cX2_findMidpoint 94 = .ok (.iaload, 1) := by decide +kernel
theorem dX2_findMidpoint_95 : decode cX2_findMidpoint 95 = .ok (.aload_n 0, 1) := by decide +kernel
theorem dX2_findMidpoint_96 : decode cX2_findMidpoint 96 = .ok (.getfield 45, 3) := by decide +kernel
theorem dX2_findMidpoint_99 : decode cX2_findMidpoint 99 = .ok (.iload_n 2, 1) := by decide +kernel
theorem dX2_findMidpoint_100 : decode cX2_findMidpoint 100 = .ok (.iconst 1, 1) := by decide +kernel
theorem dX2_findMidpoint_101 : decode cX2_findMidpoint 101 = .ok (.isub, 1) := by decide +kernel
theorem dX2_findMidpoint_102 : decode cX2_findMidpoint 102 = .ok (.iload_n 3, 1) := by decide +kernel
theorem dX2_findMidpoint_103 : decode cX2_findMidpoint 103 = .ok (.isub, 1) := by decide +kernel
theorem dX2_findMidpoint_104 : decode cX2_findMidpoint 104 = .ok (.iaload, 1) := by decide +kernel
theorem dX2_findMidpoint_105 : decode cX2_findMidpoint 105 = .ok (.iadd, 1) := by decide +kernel
theorem dX2_findMidpoint_106 : decode cX2_findMidpoint 106 = .ok (.iconst 2, 1) := by decide +kernel
theorem dX2_findMidpoint_107 : decode cX2_findMidpoint 107 = .ok (.idiv, 1) := by decide +kernel
theorem dX2_findMidpoint_108 : decode cX2_findMidpoint 108 = .ok (.ireturn, 1) := by decide +kernel
theorem dX2_insertDeviation_0 : decode cX2_insertDeviation 0 = .ok (.iload_n 1, 1) := by decide +kernel
theorem dX2_insertDeviation_1 : decode cX2_insertDeviation 1 = .ok (.istore_n 3, 1) := by decide +kernel
theorem dX2_insertDeviation_2 : decode cX2_insertDeviation 2 = .ok (.iload_n 3, 1) := by decide +kernel
theorem dX2_insertDeviation_3 : decode cX2_insertDeviation 3 = .ok (.ifCond .le 35, 3) := by decide +kernel
theorem dX2_insertDeviation_6 : decode cX2_insertDeviation 6 = .ok (.aload_n 0, 1) := by decide +kernel
theorem dX2_insertDeviation_7 : decode cX2_insertDeviation 7 = .ok (.getfield 45, 3) := by decide +kernel
theorem dX2_insertDeviation_10 : decode cX2_insertDeviation 10 = .ok (.iload_n 3, 1) := by decide +kernel
theorem dX2_insertDeviation_11 : decode cX2_insertDeviation 11 = .ok (.iconst 1, 1) := by decide +kernel
theorem dX2_insertDeviation_12 : decode cX2_insertDeviation 12 = .ok (.isub, 1) := by decide +kernel
theorem dX2_insertDeviation_13 : decode cX2_insertDeviation 13 = .ok (.iaload, 1) := by decide +kernel
theorem dX2_insertDeviation_14 : decode cX2_insertDeviation 14 = .ok (.iload_n 2, 1) := by decide +kernel
theorem dX2_insertDeviation_15 : decode cX2_insertDeviation 15 = .ok (.if_icmp .le 23, 3) := by decide +kernel
theorem dX2_insertDeviation_18 : decode cX2_insertDeviation 18 = .ok (.aload_n 0, 1) := by decide +kernel
theorem dX2_insertDeviation_19 : decode cX2_insertDeviation 19 = .ok (.getfield 45, 3) := by decide +kernel
theorem dX2_insertDeviation_22 : decode cX2_insertDeviation 22 = .ok (.iload_n 3, 1) := by decide +kernel
theorem dX2_insertDeviation_23 : decode cX2_insertDeviation 23 = .ok (.aload_n 0, 1) := by decide +kernel
theorem dX2_insertDeviation_24 : decode cX2_insertDeviation 24 = .ok (.getfield 45, 3) := by decide +kernel
theorem dX2_insertDeviation_27 : decode cX2_insertDeviation 27 = .ok (.iload_n 3, 1) := by decide +kernel
theorem dX2_insertDeviation_28 : decode cX2_insertDeviation 28 = .ok (.iconst 1, 1) := by decide +kernel
theorem dX2_insertDeviation_29 : decode cX2_insertDeviation 29 = .ok (.isub, 1) := by decide +kernel
theorem dX2_insertDeviation_30 : decode cX2_insertDeviation 30 = .ok (.iaload, 1) := by decide +kernel
theorem dX2_insertDeviation_31 : decode cX2_insertDeviation 31 = .ok (.iastore, 1) := by decide +kernel
theorem dX2_insertDeviation_32 : decode cX2_insertDeviation 32 = .ok (.iinc 3 (-1), 3) := by decide +kernel
theorem dX2_insertDeviation_35 : decode cX2_insertDeviation 35 = .ok (.goto (-33), 3) := by decide +kernel
theorem dX2_insertDeviation_38 : decode cX2_insertDeviation 38 = .ok (.aload_n 0, 1) := by decide +kernel
theorem dX2_insertDeviation_39 : decode cX2_insertDeviation 39 = .ok (.getfield 45, 3) := by decide +kernel
theorem dX2_insertDeviation_42 : decode cX2_insertDeviation 42 = .ok (.iload_n 3, 1) := by decide +kernel
theorem dX2_insertDeviation_43 : decode cX2_insertDeviation 43 = .ok (.iload_n 2, 1) := by decide +kernel
theorem dX2_insertDeviation_44 : decode cX2_insertDeviation 44 = .ok (.iastore, 1) := by decide +kernel
theorem dX2_insertDeviation_45 : decode cX2_insertDeviation 45 = .ok (.return_, 1) := by decide +kernel
theorem dX2_apply_0 : decode cX2_apply 0 = .ok (.iload_n 2, 1) := by decide +kernel
theorem dX2_apply_1 : decode cX2_apply 1 = .ok (.aload_n 0, 1) := by decide +kernel
theorem dX2_apply_2 : decode cX2_apply 2 = .ok (.getfield 42, 3) := by decide +kernel
theorem dX2_apply_5 : decode cX2_apply 5 = .ok (.iload_n 1, 1) := by decide +kernel
theorem dX2_apply_6 : decode cX2_apply 6 = .ok (.baload, 1) := by decide +kernel
theorem dX2_apply_7 : decode cX2_apply 7 = .ok (.ifCond .eq 12, 3) := by decide +kernel
theorem dX2_apply_10 : decode cX2_apply 10 = .ok (.aload_n 0, 1) := by decide +kernel
theorem dX2_apply_11 : decode cX2_apply 11 = .ok (.getfield 39, 3) := by decide +kernel
theorem dX2_apply_14 : decode cX2_apply 14 = .ok (.iload_n 1, 1) := by decide +kernel
theorem dX2_apply_15 : decode cX2_apply 15 = .ok (.iaload, 1) := by decide +kernel
theorem dX2_apply_16 : decode cX2_apply 16 = .ok (.goto 4, 3) := by decide +kernel
theorem dX2_apply_19 : decode cX2_apply 19 = .ok (.iconst 0, 1) := by decide +kernel
theorem dX2_apply_20 : decode cX2_apply 20 = .ok (.iadd, 1) := by decide +kernel
theorem dX2_apply_21 : decode cX2_apply 21 = .ok (.istore 4, 2) := by decide +kernel
theorem dX2_apply_23 : decode cX2_apply 23 = .ok (.aload_n 0, 1) := by decide +kernel
theorem dX2_apply_24 : decode cX2_apply 24 = .ok (.getfield 39, 3) := by decide +kernel
theorem dX2_apply_27 : decode cX2_apply 27 = .ok (.iload_n 1, 1) := by decide +kernel
theorem dX2_apply_28 : decode cX2_apply 28 = .ok (.iload_n 2, 1) := by decide +kernel
theorem dX2_apply_29 : decode cX2_apply 29 = .ok (.iastore, 1) := by decide +kernel
theorem dX2_apply_30 : decode cX2_apply 30 = .ok (.aload_n 0, 1) := by decide +kernel
theorem dX2_apply_31 : decode cX2_apply 31 = .ok (.getfield 42, 3) := by decide +kernel
theorem dX2_apply_34 : decode cX2_apply 34 = .ok (.iload_n 1, 1) := by decide +kernel
theorem dX2_apply_35 : decode cX2_apply 35 = .ok (.iconst 1, 1) := by decide +kernel
theorem dX2_apply_36 : decode cX2_apply 36 = .ok (.bastore, 1) := by decide +kernel
theorem dX2_apply_37 : decode cX2_apply 37 = .ok (.iload_n 2, 1) := by decide +kernel
theorem dX2_apply_38 : decode cX2_apply 38 = .ok (.sipush 500, 3) := by decide +kernel
theorem dX2_apply_41 : decode cX2_apply 41 = .ok (.if_icmp .gt 10, 3) := by decide +kernel
theorem dX2_apply_44 : decode cX2_apply 44 = .ok (.iload_n 2, 1) := by decide +kernel
theorem dX2_apply_45 : decode cX2_apply 45 = .ok (.sipush (-500), 3) := by decide +kernel
theorem dX2_apply_48 : decode cX2_apply 48 = .ok (.if_icmp .ge 11, 3) := by decide +kernel
theorem dX2_apply_51 : decode cX2_apply 51 = .ok (.aload_n 0, 1) := by decide +kernel
theorem dX2_apply_52 : decode cX2_apply 52 = .ok (.getfield 13, 3) := by decide +kernel
theorem dX2_apply_55 : decode cX2_apply 55 = .ok (.iload_n 1, 1) := by decide +kernel
theorem dX2_apply_56 : decode cX2_apply 56 = .ok (.iconst 4, 1) := by decide +kernel
theorem dX2_apply_57 : decode cX2_apply 57 = .ok (.iastore, 1) := by decide +kernel
theorem dX2_apply_58 : decode cX2_apply 58 = .ok (.return_, 1) := by decide +kernel
theorem dX2_apply_59 : decode cX2_apply 59 = .ok (.aload_n 0, 1) := by decide +kernel
theorem dX2_apply_60 : decode cX2_apply 60 = .ok (.getfield 17, 3) := by decide +kernel
theorem dX2_apply_63 : decode cX2_apply 63 = .ok (.iload_n 1, 1) := by decide +kernel
theorem dX2_apply_64 : decode cX2_apply 64 = .ok (.dup2, 1) := by decide +kernel
theorem dX2_apply_65 : decode cX2_apply 65 = .ok (.iaload, 1) := by decide +kernel
theorem dX2_apply_66 : decode cX2_apply 66 = .ok (.iload_n 2, 1) := by decide +kernel
theorem dX2_apply_67 : decode cX2_apply 67 = .ok (.iadd, 1) := by decide +kernel
theorem dX2_apply_68 : decode cX2_apply 68 = .ok (.iastore, 1) := by decide +kernel
theorem dX2_apply_69 : decode cX2_apply 69 = .ok (.iload_n 3, 1) := by decide +kernel
theorem dX2_apply_70 : decode cX2_apply 70 = .ok (.ifCond .eq 12, 3) := by decide +kernel
theorem dX2_apply_73 : decode cX2_apply 73 = .ok (.aload_n 0, 1) := by decide +kernel
theorem dX2_apply_74 : decode cX2_apply 74 = .ok (.iload_n 1, 1) := by decide +kernel
theorem dX2_apply_75 : decode cX2_apply 75 = .ok (.iload 4, 2) := by decide +kernel
theorem dX2_apply_77 : decode cX2_apply 77 = .ok (.iconst 4, 1) := by decide +kernel
theorem dX2_apply_78 : decode cX2_apply 78 = .ok (.idiv, 1) := by decide +kernel
theorem dX2_apply_79 : decode cX2_apply 79 = .ok (.invokevirtual 94, 3) := by decide +kernel
theorem dX2_apply_82 : decode cX2_apply 82 = .ok (.return_, 1) := by decide +kernel
theorem dX2_changeRate_0 : decode cX2_changeRate 0 = .ok (.aload_n 0, 1) := by decide +kernel
theorem dX2_changeRate_1 : decode cX2_changeRate 1 = .ok (.getfield 23, 3) := by decide +kernel
theorem dX2_changeRate_4 : decode cX2_changeRate 4 = .ok (.iload_n 1, 1) := by decide +kernel
theorem dX2_changeRate_5 : decode cX2_changeRate 5 = .ok (.iaload, 1) := by decide +kernel
theorem dX2_changeRate_6 : decode cX2_changeRate 6 = .ok (.iload_n 2, 1) := by decide +kernel
theorem dX2_changeRate_7 : decode cX2_changeRate 7 = .ok (.iadd, 1) := by decide +kernel
theorem dX2_changeRate_8 : decode cX2_changeRate 8 = .ok (.istore_n 3, 1) := by decide +kernel
theorem dX2_changeRate_9 : decode cX2_changeRate 9 = .ok (.aload_n 0, 1) := by decide +kernel
theorem dX2_changeRate_10 : decode cX2_changeRate 10 = .ok (.getfield 23, 3) := by decide +kernel
theorem dX2_changeRate_13 : decode cX2_changeRate 13 = .ok (.iload_n 1, 1) := by decide +kernel
theorem dX2_changeRate_14 : decode cX2_changeRate 14 = .ok (.bipush (-100), 2) := by decide +kernel
theorem dX2_changeRate_16 : decode cX2_changeRate 16 = .ok (.bipush 100, 2) := by decide +kernel
theorem dX2_changeRate_18 : decode cX2_changeRate 18 = .ok (.iload_n 3, 1) := by decide +kernel
theorem dX2_changeRate_19 : decode cX2_changeRate 19 = .ok (.invokestatic 97, 3) := by decide +kernel
theorem dX2_changeRate_22 : decode cX2_changeRate 22 = .ok (.invokestatic 101, 3) := by decide +kernel
theorem dX2_changeRate_25 : decode cX2_changeRate 25 = .ok (.iastore, 1) := by decide +kernel
theorem dX2_changeRate_26 : decode cX2_changeRate 26 = .ok (.aload_n 0, 1) := by decide +kernel
theorem dX2_changeRate_27 : decode cX2_changeRate 27 = .ok (.getfield 23, 3) := by decide +kernel
theorem dX2_changeRate_30 : decode cX2_changeRate 30 = .ok (.iload_n 1, 1) := by decide +kernel
theorem dX2_changeRate_31 : decode cX2_changeRate 31 = .ok (.iaload, 1) := by decide +kernel
theorem dX2_changeRate_32 : decode cX2_changeRate 32 = .ok (.iload_n 3, 1) := by decide +kernel
theorem dX2_changeRate_33 : decode cX2_changeRate 33 = .ok (.if_icmp .eq 10, 3) := by decide +kernel
theorem dX2_changeRate_36 : decode cX2_changeRate 36 = .ok (.aload_n 0, 1) := by decide +kernel
theorem dX2_changeRate_37 : decode cX2_changeRate 37 = .ok (.getfield 13, 3) := by decide +kernel
theorem dX2_changeRate_40 : decode cX2_changeRate 40 = .ok (.iload_n 1, 1) := by decide +kernel
theorem dX2_changeRate_41 : decode cX2_changeRate 41 = .ok (.iconst 3, 1) := by decide +kernel
theorem dX2_changeRate_42 : decode cX2_changeRate 42 = .ok (.iastore, 1) := by decide +kernel
theorem dX2_changeRate_43 : decode cX2_changeRate 43 = .ok (.return_, 1) := by decide +kernel
theorem dX2_passTime_0 : decode cX2_passTime 0 = .ok (.iconst 1, 1) := by decide +kernel
theorem dX2_passTime_1 : decode cX2_passTime 1 = .ok (.istore_n 1, 1) := by decide +kernel
theorem dX2_passTime_2 : decode cX2_passTime 2 = .ok (.iload_n 1, 1) := by decide +kernel
theorem dX2_passTime_3 : decode cX2_passTime 3 = .ok (.aload_n 0, 1) := by decide +kernel
theorem dX2_passTime_4 : decode cX2_passTime 4 = .ok (.getfield 7, 3) := by decide +kernel
theorem dX2_passTime_7 : decode cX2_passTime 7 = .ok (.if_icmp .gt 41, 3) := by decide +kernel
theorem dX2_passTime_10 : decode cX2_passTime 10 = .ok (.aload_n 0, 1) := by decide +kernel
theorem dX2_passTime_11 : decode cX2_passTime 11 = .ok (.getfield 13, 3) := by decide +kernel
theorem dX2_passTime_14 : decode cX2_passTime 14 = .ok (.iload_n 1, 1) := by decide +kernel
theorem dX2_passTime_15 : decode cX2_passTime 15 = .ok (.iaload, 1) := by decide +kernel
theorem dX2_passTime_16 : decode cX2_passTime 16 = .ok (.iconst 4, 1) := by decide +kernel
theorem dX2_passTime_17 : decode cX2_passTime 17 = .ok (.if_icmp .eq 25, 3) := by decide +kernel
theorem dX2_passTime_20 : decode cX2_passTime 20 = .ok (.aload_n 0, 1) := by decide +kernel
theorem dX2_passTime_21 : decode cX2_passTime 21 = .ok (.getfield 17, 3) := by decide +kernel
theorem dX2_passTime_24 : decode cX2_passTime 24 = .ok (.iload_n 1, 1) := by decide +kernel
theorem dX2_passTime_25 : decode cX2_passTime 25 = .ok (.dup2, 1) := by decide +kernel
theorem dX2_passTime_26 : decode cX2_passTime 26 = .ok (.iaload, 1) := by decide +kernel
theorem dX2_passTime_27 : decode cX2_passTime 27 = .ok (.aload_n 0, 1) := by decide +kernel
theorem dX2_passTime_28 : decode cX2_passTime 28 = .ok (.getfield 20, 3) := by decide +kernel
theorem dX2_passTime_31 : decode cX2_passTime 31 = .ok (.iload_n 1, 1) := by decide +kernel
theorem dX2_passTime_32 : decode cX2_passTime 32 = .ok (.iaload, 1) := by decide +kernel
theorem dX2_passTime_33 : decode cX2_passTime 33 = .ok (.aload_n 0, 1) := by decide +kernel
theorem dX2_passTime_34 : decode cX2_passTime 34 = .ok (.getfield 23, 3) := by decide +kernel
theorem dX2_passTime_37 : decode cX2_passTime 37 = .ok (.iload_n 1, 1) := by decide +kernel
theorem dX2_passTime_38 : decode cX2_passTime 38 = .ok (.iaload, 1) := by decide +kernel
theorem dX2_passTime_39 : decode cX2_passTime 39 = .ok (.iadd, 1) := by decide +kernel
theorem dX2_passTime_40 : decode cX2_passTime 40 = .ok (.iadd, 1) := by decide +kernel
theorem dX2_passTime_41 : decode cX2_passTime 41 = .ok (.iastore, 1) := by decide +kernel
theorem dX2_passTime_42 : decode cX2_passTime 42 = .ok (.iinc 1 1, 3) := by decide +kernel
theorem dX2_passTime_45 : decode cX2_passTime 45 = .ok (.goto (-43), 3) := by decide +kernel
theorem dX2_passTime_48 : decode cX2_passTime 48 = .ok (.return_, 1) := by decide +kernel
theorem dX3_init_0 : decode cX3_init 0 = .ok (.aload_n 0, 1) := by decide +kernel
theorem dX3_init_1 : decode cX3_init 1 = .ok (.invokespecial 1, 3) := by decide +kernel
theorem dX3_init_4 : decode cX3_init 4 = .ok (.aload_n 0, 1) := by decide +kernel
theorem dX3_init_5 : decode cX3_init 5 = .ok (.bipush 100, 2) := by decide +kernel
theorem dX3_init_7 : decode cX3_init 7 = .ok (.newarray .int, 2) := by decide +kernel
theorem dX3_init_9 : decode cX3_init 9 = .ok (.putfield 9, 3) := by decide +kernel
theorem dX3_init_12 : decode cX3_init 12 = .ok (.aload_n 0, 1) := by decide +kernel
theorem dX3_init_13 : decode cX3_init 13 = .ok (.bipush 100, 2) := by decide +kernel
theorem dX3_init_15 : decode cX3_init 15 = .ok (.newarray .int, 2) := by decide +kernel
theorem dX3_init_17 : decode cX3_init 17 = .ok (.putfield 13, 3) := by decide +kernel
theorem dX3_init_20 : decode cX3_init 20 = .ok (.aload_n 0, 1) := by decide +kernel
theorem dX3_init_21 : decode cX3_init 21 = .ok (.bipush 100, 2) := by decide +kernel
theorem dX3_init_23 : decode cX3_init 23 = .ok (.newarray .int, 2) := by decide +kernel
theorem dX3_init_25 : decode cX3_init 25 = .ok (.putfield 16, 3) := by decide +kernel
theorem dX3_init_28 : decode cX3_init 28 = .ok (.aload_n 0, 1) := by decide +kernel
theorem dX3_init_29 : decode cX3_init 29 = .ok (.bipush 100, 2) := by decide +kernel
theorem dX3_init_31 : decode cX3_init 31 = .ok (.newarray .int, 2) := by decide +kernel
theorem dX3_init_33 : decode cX3_init 33 = .ok (.putfield 19, 3) := by decide +kernel
theorem dX3_init_36 : decode cX3_init 36 = .ok (.aload_n 0, 1) := by decide +kernel
theorem dX3_init_37 : decode cX3_init 37 = .ok (.bipush 100, 2) := by decide +kernel
theorem dX3_init_39 : decode cX3_init 39 = .ok (.newarray .int, 2) := by decide +kernel
theorem dX3_init_41 : decode cX3_init 41 = .ok (.putfield 22, 3) := by decide +kernel
theorem dX3_init_44 : decode cX3_init 44 = .ok (.aload_n 0, 1) := by decide +kernel
theorem dX3_init_45 : decode cX3_init 45 = .ok (.iconst 0, 1) := by decide +kernel
theorem dX3_init_46 : decode cX3_init 46 = .ok (.putfield 25, 3) := by decide +kernel
theorem dX3_init_49 : decode cX3_init 49 = .ok (.return_, 1) := by decide +kernel
theorem dX3_isEvery_0 : decode cX3_isEvery 0 = .ok (.iload_n 0, 1) := by decide +kernel
theorem dX3_isEvery_1 : decode cX3_isEvery 1 = .ok (.iconst 1, 1) := by decide +kernel
theorem dX3_isEvery_2 : decode cX3_isEvery 2 = .ok (.if_icmp .lt 21, 3) := by decide +kernel
theorem dX3_isEvery_5 : decode cX3_isEvery 5 = .ok (.iload_n 0, 1) := by decide +kernel
theorem dX3_isEvery_6 : decode cX3_isEvery 6 = .ok (.bipush 64, 2) := by decide +kernel
theorem dX3_isEvery_8 : decode cX3_isEvery 8 = .ok (.if_icmp .gt 15, 3) := by decide +kernel
theorem dX3_isEvery_11 : decode cX3_isEvery 11 = .ok (.iload_n 0, 1) := by decide +kernel
theorem dX3_isEvery_12 : decode cX3_isEvery 12 = .ok (.invokestatic 29, 3) := by decide +kernel
theorem dX3_isEvery_15 : decode cX3_isEvery 15 = .ok (.iconst 1, 1) := by decide +kernel
theorem dX3_isEvery_16 : decode cX3_isEvery 16 = .ok (.if_icmp .ne 7, 3) := by decide +kernel
theorem dX3_isEvery_19 : decode cX3_isEvery 19 = .ok (.iconst 1, 1) := by decide +kernel
theorem dX3_isEvery_20 : decode cX3_isEvery 20 = .ok (.goto 4, 3) := by decide +kernel
theorem dX3_isEvery_23 : decode cX3_isEvery 23 = .ok (.iconst 0, 1) := by decide +kernel
theorem dX3_isEvery_24 : decode cX3_isEvery 24 = .ok (.ireturn, 1) := by decide +kernel
theorem dX3_isFull_0 : decode cX3_isFull 0 = .ok (.aload_n 0, 1) := by decide +kernel
theorem dX3_isFull_1 : decode cX3_isFull 1 = .ok (.getfield 25, 3) := by decide +kernel
theorem dX3_isFull_4 : decode cX3_isFull 4 = .ok (.bipush 100, 2) := by decide +kernel
theorem dX3_isFull_6 : decode cX3_isFull 6 = .ok (.if_icmp .lt 7, 3) := by decide +kernel
theorem dX3_isFull_9 : decode cX3_isFull 9 = .ok (.iconst 1, 1) := by decide +kernel
theorem dX3_isFull_10 : decode cX3_isFull 10 = .ok (.goto 4, 3) := by decide +kernel
theorem dX3_isFull_13 : decode cX3_isFull 13 = .ok (.iconst 0, 1) := by decide +kernel
theorem dX3_isFull_14 : decode cX3_isFull 14 = .ok (.ireturn, 1) := by decide +kernel
theorem dX3_clashes_0 : decode cX3_clashes 0 = .ok (.iconst 0, 1) := by decide +kernel
theorem dX3_clashes_1 : decode cX3_clashes 1 = .ok (.istore 5, 2) := by decide +kernel
theorem dX3_clashes_3 : decode cX3_clashes 3 = .ok (.iload 5, 2) := by decide +kernel
theorem dX3_clashes_5 : decode cX3_clashes 5 = .ok (.aload_n 0, 1) := by decide +kernel
theorem dX3_clashes_6 : decode cX3_clashes 6 = .ok (.getfield 25, 3) := by decide +kernel
theorem dX3_clashes_9 : decode cX3_clashes 9 = .ok (.if_icmp .ge 57, 3) := by decide +kernel
theorem dX3_clashes_12 : decode cX3_clashes 12 = .ok (.iload 4, 2) := by decide +kernel
theorem dX3_clashes_14 : decode cX3_clashes 14 = .ok (.aload_n 0, 1) := by decide +kernel
theorem dX3_clashes_15 : decode cX3_clashes 15 = .ok (.getfield 22, 3) := by decide +kernel
theorem dX3_clashes_18 : decode cX3_clashes 18 = .ok (.iload 5, 2) := by decide +kernel
theorem dX3_clashes_20 : decode cX3_clashes 20 = .ok (.iaload, 1) := by decide +kernel
theorem dX3_clashes_21 : decode cX3_clashes 21 = .ok (.invokestatic 35, 3) := by decide +kernel
theorem dX3_clashes_24 : decode cX3_clashes 24 = .ok (.istore 6, 2) := by decide +kernel
theorem dX3_clashes_26 : decode cX3_clashes 26 = .ok (.aload_n 0, 1) := by decide +kernel
theorem dX3_clashes_27 : decode cX3_clashes 27 = .ok (.iload 5, 2) := by decide +kernel
theorem dX3_clashes_29 : decode cX3_clashes 29 = .ok (.iload_n 1, 1) := by decide +kernel
theorem dX3_clashes_30 : decode cX3_clashes 30 = .ok (.iload_n 2, 1) := by decide +kernel
theorem dX3_clashes_31 : decode cX3_clashes 31 = .ok (.invokevirtual 41, 3) := by decide +kernel
theorem dX3_clashes_34 : decode cX3_clashes 34 = .ok (.ifCond .eq 26, 3) := by decide +kernel
theorem dX3_clashes_37 : decode cX3_clashes 37 = .ok (.iload_n 3, 1) := by decide +kernel
theorem dX3_clashes_38 : decode cX3_clashes 38 = .ok (.iload 6, 2) := by decide +kernel
theorem dX3_clashes_40 : decode cX3_clashes 40 = .ok (.invokestatic 45, 3) := by decide +kernel
theorem dX3_clashes_43 : decode cX3_clashes 43 = .ok (.aload_n 0, 1) := by decide +kernel
theorem dX3_clashes_44 : decode cX3_clashes 44 = .ok (.getfield 19, 3) := by decide +kernel
theorem dX3_clashes_47 : decode cX3_clashes 47 = .ok (.iload 5, 2) := by decide +kernel
theorem dX3_clashes_49 : decode cX3_clashes 49 = .ok (.iaload, 1) := by decide +kernel
theorem dX3_clashes_50 : decode cX3_clashes 50 = .ok (.iload 6, 2) := by decide +kernel
theorem dX3_clashes_52 : decode cX3_clashes 52 = .ok (.invokestatic 45, 3) := by decide +kernel
theorem dX3_clashes_55 : decode cX3_clashes 55 = .ok (.if_icmp .ne 5, 3) := by decide +kernel
theorem dX3_clashes_58 : decode cX3_clashes 58 = .ok (.iconst 1, 1) := by decide +kernel
theorem dX3_clashes_59 : decode cX3_clashes 59 = .ok (.ireturn, 1) := by decide +kernel
theorem dX3_clashes_60 : decode cX3_clashes 60 = .ok (.iinc 5 1, 3) := by decide +kernel
theorem dX3_clashes_63 : decode cX3_clashes 63 = .ok (.goto (-60), 3) := by decide +kernel
theorem dX3_clashes_66 : decode cX3_clashes 66 = .ok (.iconst 0, 1) := by decide +kernel
theorem dX3_clashes_67 : decode cX3_clashes 67 = .ok (.ireturn, 1) := by decide +kernel
theorem dX3_add_0 : decode cX3_add 0 = .ok (.aload_n 0, 1) := by decide +kernel
theorem dX3_add_1 : decode cX3_add 1 = .ok (.getfield 9, 3) := by decide +kernel
theorem dX3_add_4 : decode cX3_add 4 = .ok (.aload_n 0, 1) := by decide +kernel
theorem dX3_add_5 : decode cX3_add 5 = .ok (.getfield 25, 3) := by decide +kernel
theorem dX3_add_8 : decode cX3_add 8 = .ok (.iload_n 1, 1) := by decide +kernel
theorem dX3_add_9 : decode cX3_add 9 = .ok (.iastore, 1) := by decide +kernel
theorem dX3_add_10 : decode cX3_add 10 = .ok (.aload_n 0, 1) := by decide +kernel
theorem dX3_add_11 : decode cX3_add 11 = .ok (.getfield 13, 3) := by decide +kernel
theorem dX3_add_14 : decode cX3_add 14 = .ok (.aload_n 0, 1) := by decide +kernel
theorem dX3_add_15 : decode cX3_add 15 = .ok (.getfield 25, 3) := by decide +kernel
theorem dX3_add_18 : decode cX3_add 18 = .ok (.iload_n 2, 1) := by decide +kernel
theorem dX3_add_19 : decode cX3_add 19 = .ok (.iastore, 1) := by decide +kernel
theorem dX3_add_20 : decode cX3_add 20 = .ok (.aload_n 0, 1) := by decide +kernel
theorem dX3_add_21 : decode cX3_add 21 = .ok (.getfield 16, 3) := by decide +kernel
theorem dX3_add_24 : decode cX3_add 24 = .ok (.aload_n 0, 1) := by decide +kernel
theorem dX3_add_25 : decode cX3_add 25 = .ok (.getfield 25, 3) := by decide +kernel
theorem dX3_add_28 : decode cX3_add 28 = .ok (.iload_n 3, 1) := by decide +kernel
theorem dX3_add_29 : decode cX3_add 29 = .ok (.iastore, 1) := by decide +kernel
theorem dX3_add_30 : decode cX3_add 30 = .ok (.aload_n 0, 1) := by decide +kernel
theorem dX3_add_31 : decode cX3_add 31 = .ok (.getfield 19, 3) := by decide +kernel
theorem dX3_add_34 : decode cX3_add 34 = .ok (.aload_n 0, 1) := by decide +kernel
theorem dX3_add_35 : decode cX3_add 35 = .ok (.getfield 25, 3) := by decide +kernel
theorem dX3_add_38 : decode cX3_add 38 = .ok (.iload 4, 2) := by decide +kernel
theorem dX3_add_40 : decode cX3_add 40 = .ok (.iastore, 1) := by decide +kernel
theorem dX3_add_41 : decode cX3_add 41 = .ok (.aload_n 0, 1) := by decide +kernel
theorem dX3_add_42 : decode cX3_add 42 = .ok (.getfield 22, 3) := by decide +kernel
theorem dX3_add_45 : decode cX3_add 45 = .ok (.aload_n 0, 1) := by decide +kernel
theorem dX3_add_46 : decode cX3_add 46 = .ok (.getfield 25, 3) := by decide +kernel
theorem dX3_add_49 : decode cX3_add 49 = .ok (.iload 5, 2) := by decide +kernel
theorem dX3_add_51 : decode cX3_add 51 = .ok (.iastore, 1) := by decide +kernel
theorem dX3_add_52 : decode cX3_add 52 = .ok (.aload_n 0, 1) := by decide +kernel
theorem dX3_add_53 : decode cX3_add 53 = .ok (.dup, 1) := by decide +kernel
theorem dX3_add_54 : decode cX3_add 54 = .ok (.getfield 25, 3) := by decide +kernel
theorem dX3_add_57 : decode cX3_add 57 = .ok (.iconst 1, 1) := by decide +kernel
theorem dX3_add_58 : decode cX3_add 58 = .ok (.iadd, 1) := by decide +kernel
theorem dX3_add_59 : decode cX3_add 59 = .ok (.putfield 25, 3) := by decide +kernel
theorem dX3_add_62 : decode cX3_add 62 = .ok (.aload_n 0, 1) := by decide +kernel
theorem dX3_add_63 : decode cX3_add 63 = .ok (.getfield 25, 3) := by decide +kernel
theorem dX3_add_66 : decode cX3_add 66 = .ok (.ireturn, 1) := by decide +kernel
theorem dX3_nodeAt_0 : decode cX3_nodeAt 0 = .ok (.iconst 0, 1) := by decide +kernel
theorem dX3_nodeAt_1 : decode cX3_nodeAt 1 = .ok (.istore 4, 2) := by decide +kernel
theorem dX3_nodeAt_3 : decode cX3_nodeAt 3 = .ok (.iload 4, 2) := by decide +kernel
theorem dX3_nodeAt_5 : decode cX3_nodeAt 5 = .ok (.aload_n 0, 1) := by decide +kernel
theorem dX3_nodeAt_6 : decode cX3_nodeAt 6 = .ok (.getfield 25, 3) := by decide +kernel
theorem dX3_nodeAt_9 : decode cX3_nodeAt 9 = .ok (.if_icmp .ge 38, 3) := by decide +kernel
theorem dX3_nodeAt_12 : decode cX3_nodeAt 12 = .ok (.aload_n 0, 1) := by decide +kernel
theorem dX3_nodeAt_13 : decode cX3_nodeAt 13 = .ok (.iload 4, 2) := by decide +kernel
theorem dX3_nodeAt_15 : decode cX3_nodeAt 15 = .ok (.iload_n 1, 1) := by decide +kernel
theorem dX3_nodeAt_16 : decode cX3_nodeAt 16 = .ok (.iload_n 2, 1) := by decide +kernel
theorem dX3_nodeAt_17 : decode cX3_nodeAt 17 = .ok (.invokevirtual 41, 3) := by decide +kernel
theorem dX3_nodeAt_20 : decode cX3_nodeAt 20 = .ok (.ifCond .eq 21, 3) := by decide +kernel
theorem dX3_nodeAt_23 : decode cX3_nodeAt 23 = .ok (.aload_n 0, 1) := by decide +kernel
theorem dX3_nodeAt_24 : decode cX3_nodeAt 24 = .ok (.iload 4, 2) := by decide +kernel
theorem dX3_nodeAt_26 : decode cX3_nodeAt 26 = .ok (.iload_n 3, 1) := by decide +kernel
theorem dX3_nodeAt_27 : decode cX3_nodeAt 27 = .ok (.invokevirtual 48, 3) := by decide +kernel
theorem dX3_nodeAt_30 : decode cX3_nodeAt 30 = .ok (.ifCond .eq 11, 3) := by decide +kernel
theorem dX3_nodeAt_33 : decode cX3_nodeAt 33 = .ok (.aload_n 0, 1) := by decide +kernel
theorem dX3_nodeAt_34 : decode cX3_nodeAt 34 = .ok (.getfield 9, 3) := by decide +kernel
theorem dX3_nodeAt_37 : decode cX3_nodeAt 37 = .ok (.iload 4, 2) := by decide +kernel
theorem dX3_nodeAt_39 : decode cX3_nodeAt 39 = .ok (.iaload, 1) := by decide +kernel
theorem dX3_nodeAt_40 : decode cX3_nodeAt 40 = .ok (.ireturn, 1) := by decide +kernel
theorem dX3_nodeAt_41 : decode cX3_nodeAt 41 = .ok (.iinc 4 1, 3) := by decide +kernel
theorem dX3_nodeAt_44 : decode cX3_nodeAt 44 = .ok (.goto (-41), 3) := by decide +kernel
theorem dX3_nodeAt_47 : decode cX3_nodeAt 47 = .ok (.iconst 0, 1) := by decide +kernel
theorem dX3_nodeAt_48 : decode cX3_nodeAt 48 = .ok (.ireturn, 1) := by decide +kernel
theorem dX3_send_0 : decode cX3_send 0 = .ok (.aload_n 2, 1) := by decide +kernel
theorem dX3_send_1 : decode cX3_send 1 = .ok (.invokevirtual 52, 3) := by decide +kernel
theorem dX3_send_4 : decode cX3_send 4 = .ok (.iconst 0, 1) := by decide +kernel
theorem dX3_send_5 : decode cX3_send 5 = .ok (.istore 4, 2) := by decide +kernel
theorem dX3_send_7 : decode cX3_send 7 = .ok (.iconst 0, 1) := by decide +kernel
theorem dX3_send_8 : decode cX3_send 8 = .ok (.istore 5, 2) := by decide +kernel
theorem dX3_send_10 : decode cX3_send 10 = .ok (.iload 5, 2) := by decide +kernel
theorem dX3_send_12 : decode cX3_send 12 = .ok (.aload_n 0, 1) := by decide +kernel
theorem dX3_send_13 : decode cX3_send 13 = .ok (.getfield 25, 3) := by decide +kernel
theorem dX3_send_16 : decode cX3_send 16 = .ok (.if_icmp .ge 82, 3) := by decide +kernel
theorem dX3_send_19 : decode cX3_send 19 = .ok (.aload_n 2, 1) := by decide +kernel
theorem dX3_send_20 : decode cX3_send 20 = .ok (.aload_n 0, 1) := by decide +kernel
theorem dX3_send_21 : decode cX3_send 21 = .ok (.getfield 9, 3) := by decide +kernel
theorem dX3_send_24 : decode cX3_send 24 = .ok (.iload 5, 2) := by decide +kernel
theorem dX3_send_26 : decode cX3_send 26 = .ok (.iaload, 1) := by decide +kernel
theorem dX3_send_27 : decode cX3_send 27 = .ok (.invokevirtual 57, 3) := by decide +kernel
theorem dX3_send_30 : decode cX3_send 30 = .ok (.ifCond .eq 17, 3) := by decide +kernel
theorem dX3_send_33 : decode cX3_send 33 = .ok (.aload_n 0, 1) := by decide +kernel
theorem dX3_send_34 : decode cX3_send 34 = .ok (.iload 5, 2) := by decide +kernel
theorem dX3_send_36 : decode cX3_send 36 = .ok (.iload_n 1, 1) := by decide +kernel
theorem dX3_send_37 : decode cX3_send 37 = .ok (.invokevirtual 48, 3) := by decide +kernel
theorem dX3_send_40 : decode cX3_send 40 = .ok (.ifCond .eq 7, 3) := by decide +kernel
theorem dX3_send_43 : decode cX3_send 43 = .ok (.iconst 1, 1) := by decide +kernel
theorem dX3_send_44 : decode cX3_send 44 = .ok (.goto 4, 3) := by decide +kernel
theorem dX3_send_47 : decode cX3_send 47 = .ok (.iconst 0, 1) := by decide +kernel
theorem dX3_send_48 : decode cX3_send 48 = .ok (.istore 6, 2) := by decide +kernel
theorem dX3_send_50 : decode cX3_send 50 = .ok (.iload 6, 2) := by decide +kernel
theorem dX3_send_52 : decode cX3_send 52 = .ok (.ifCond .eq 40, 3) := by decide +kernel
theorem dX3_send_55 : decode cX3_send 55 = .ok (.aload_n 3, 1) := by decide +kernel
theorem dX3_send_56 : decode cX3_send 56 = .ok (.aload_n 0, 1) := by decide +kernel
theorem dX3_send_57 : decode cX3_send 57 = .ok (.getfield 16, 3) := by decide +kernel
theorem dX3_send_60 : decode cX3_send 60 = .ok (.iload 5, 2) := by decide +kernel
theorem dX3_send_62 : decode cX3_send 62 = .ok (.iaload, 1) := by decide +kernel
theorem dX3_send_63 : decode cX3_send 63 = .ok (.aload_n 0, 1) := by decide +kernel
theorem dX3_send_64 : decode cX3_send 64 = .ok (.getfield 13, 3) := by decide +kernel
theorem dX3_send_67 : decode cX3_send 67 = .ok (.iload 5, 2) := by decide +kernel
theorem dX3_send_69 : decode cX3_send 69 = .ok (.iaload, 1) := by decide +kernel
theorem dX3_send_70 : decode cX3_send 70 = .ok (.invokevirtual 61, 3) := by decide +kernel
theorem dX3_send_73 : decode cX3_send 73 = .ok (.ifCond .eq 19, 3) := by decide +kernel
theorem dX3_send_76 : decode cX3_send 76 = .ok (.aload_n 2, 1) := by decide +kernel
theorem dX3_send_77 : decode cX3_send 77 = .ok (.getfield 66, 3) := by decide +kernel
theorem dX3_send_80 : decode cX3_send 80 = .ok (.aload_n 0, 1) := by decide +kernel
theorem dX3_send_81 : decode cX3_send 81 = .ok (.getfield 9, 3) := by decide +kernel
theorem dX3_send_84 : decode cX3_send 84 = .ok (.iload 5, 2) := by decide +kernel
theorem dX3_send_86 : decode cX3_send 86 = .ok (.iaload, 1) := by decide +kernel
theorem dX3_send_87 : decode cX3_send 87 = .ok (.iconst 1, 1) := by decide +kernel
theorem dX3_send_88 : decode cX3_send 88 = .ok (.bastore, 1) := by decide +kernel
theorem dX3_send_89 : decode cX3_send 89 = .ok (.iinc 4 1, 3) := by decide +kernel
theorem dX3_send_92 : decode cX3_send 92 = .ok (.iinc 5 1, 3) := by decide +kernel
theorem dX3_send_95 : decode cX3_send 95 = .ok (.goto (-85), 3) := by decide +kernel
theorem dX3_send_98 : decode cX3_send 98 = .ok (.iload 4, 2) := by decide +kernel
theorem dX3_send_100 : decode cX3_send 100 = .ok (.ireturn, 1) := by decide +kernel
theorem dX3_isOn_0 : decode cX3_isOn 0 = .ok (.aload_n 0, 1) := by decide +kernel
theorem dX3_isOn_1 : decode cX3_isOn 1 = .ok (.getfield 13, 3) := by decide +kernel
theorem dX3_isOn_4 : decode cX3_isOn 4 = .ok (.iload_n 1, 1) := by decide +kernel
theorem dX3_isOn_5 : decode cX3_isOn 5 = .ok (.iaload, 1) := by decide +kernel
theorem dX3_isOn_6 : decode cX3_isOn 6 = .ok (.iload_n 2, 1) := by decide +kernel
theorem dX3_isOn_7 : decode cX3_isOn 7 = .ok (.if_icmp .ne 18, 3) := by decide +kernel
theorem dX3_isOn_10 : decode cX3_isOn 10 = .ok (.aload_n 0, 1) := by decide +kernel
theorem dX3_isOn_11 : decode cX3_isOn 11 = .ok (.getfield 16, 3) := by decide +kernel
theorem dX3_isOn_14 : decode cX3_isOn 14 = .ok (.iload_n 1, 1) := by decide +kernel
theorem dX3_isOn_15 : decode cX3_isOn 15 = .ok (.iaload, 1) := by decide +kernel
theorem dX3_isOn_16 : decode cX3_isOn 16 = .ok (.iload_n 3, 1) := by decide +kernel
theorem dX3_isOn_17 : decode cX3_isOn 17 = .ok (.iand, 1) := by decide +kernel
theorem dX3_isOn_18 : decode cX3_isOn 18 = .ok (.ifCond .eq 7, 3) := by decide +kernel
theorem dX3_isOn_21 : decode cX3_isOn 21 = .ok (.iconst 1, 1) := by decide +kernel
theorem dX3_isOn_22 : decode cX3_isOn 22 = .ok (.goto 4, 3) := by decide +kernel
theorem dX3_isOn_25 : decode cX3_isOn 25 = .ok (.iconst 0, 1) := by decide +kernel
theorem dX3_isOn_26 : decode cX3_isOn 26 = .ok (.ireturn, 1) := by decide +kernel
theorem dX3_isIn_0 : decode cX3_isIn 0 = .ok (.iload_n 2, 1) := by decide +kernel
theorem dX3_isIn_1 : decode cX3_isIn 1 = .ok (.aload_n 0, 1) := by decide +kernel
theorem dX3_isIn_2 : decode cX3_isIn 2 = .ok (.getfield 22, 3) := by decide +kernel
theorem dX3_isIn_5 : decode cX3_isIn 5 = .ok (.iload_n 1, 1) := by decide +kernel
theorem dX3_isIn_6 : decode cX3_isIn 6 = .ok (.iaload, 1) := by decide +kernel
theorem dX3_isIn_7 : decode cX3_isIn 7 = .ok (.invokestatic 45, 3) := by decide +kernel
theorem dX3_isIn_10 : decode cX3_isIn 10 = .ok (.aload_n 0, 1) := by decide +kernel
theorem dX3_isIn_11 : decode cX3_isIn 11 = .ok (.getfield 19, 3) := by decide +kernel
theorem dX3_isIn_14 : decode cX3_isIn 14 = .ok (.iload_n 1, 1) := by decide +kernel
theorem dX3_isIn_15 : decode cX3_isIn 15 = .ok (.iaload, 1) := by decide +kernel
theorem dX3_isIn_16 : decode cX3_isIn 16 = .ok (.if_icmp .ne 7, 3) := by decide +kernel
theorem dX3_isIn_19 : decode cX3_isIn 19 = .ok (.iconst 1, 1) := by decide +kernel
theorem dX3_isIn_20 : decode cX3_isIn 20 = .ok (.goto 4, 3) := by decide +kernel
theorem dX3_isIn_23 : decode cX3_isIn 23 = .ok (.iconst 0, 1) := by decide +kernel
theorem dX3_isIn_24 : decode cX3_isIn 24 = .ok (.ireturn, 1) := by decide +kernel
theorem dX3_remainder_0 : decode cX3_remainder 0 = .ok (.iload_n 0, 1) := by decide +kernel
theorem dX3_remainder_1 : decode cX3_remainder 1 = .ok (.iload_n 1, 1) := by decide +kernel
theorem dX3_remainder_2 : decode cX3_remainder 2 = .ok (.iconst 1, 1) := by decide +kernel
theorem dX3_remainder_3 : decode cX3_remainder 3 = .ok (.isub, 1) := by decide +kernel
theorem dX3_remainder_4 : decode cX3_remainder 4 = .ok (.iand, 1) := by decide +kernel
theorem dX3_remainder_5 : decode cX3_remainder 5 = .ok (.ireturn, 1) := by decide +kernel
theorem dX4_init_0 : decode cX4_init 0 = .ok (.aload_n 0, 1) := by decide +kernel
theorem dX4_init_1 : decode cX4_init 1 = .ok (.invokespecial 1, 3) := by decide +kernel
theorem dX4_init_4 : decode cX4_init 4 = .ok (.aload_n 0, 1) := by decide +kernel
theorem dX4_init_5 : decode cX4_init 5 = .ok (.iload_n 2, 1) := by decide +kernel
theorem dX4_init_6 : decode cX4_init 6 = .ok (.iconst 1, 1) := by decide +kernel
theorem dX4_init_7 : decode cX4_init 7 = .ok (.bipush 60, 2) := by decide +kernel
theorem dX4_init_9 : decode cX4_init 9 = .ok (.invokestatic 7, 3) := by decide +kernel
theorem dX4_init_12 : decode cX4_init 12 = .ok (.ifCond .eq 7, 3) := by decide +kernel
theorem dX4_init_15 : decode cX4_init 15 = .ok (.iload_n 2, 1) := by decide +kernel
theorem dX4_init_16 : decode cX4_init 16 = .ok (.goto 5, 3) := by decide +kernel
theorem dX4_init_19 : decode cX4_init 19 = .ok (.bipush 10, 2) := by decide +kernel
theorem dX4_init_21 : decode cX4_init 21 = .ok (.putfield 13, 3) := by decide +kernel
theorem dX4_init_24 : decode cX4_init 24 = .ok (.aload_n 0, 1) := by decide +kernel
theorem dX4_init_25 : decode cX4_init 25 = .ok (.iload_n 3, 1) := by decide +kernel
theorem dX4_init_26 : decode cX4_init 26 = .ok (.iconst 0, 1) := by decide +kernel
theorem dX4_init_27 : decode cX4_init 27 = .ok (.bipush 60, 2) := by decide +kernel
theorem dX4_init_29 : decode cX4_init 29 = .ok (.invokestatic 7, 3) := by decide +kernel
theorem dX4_init_32 : decode cX4_init 32 = .ok (.ifCond .eq 7, 3) := by decide +kernel
