theorem dX4_init_35 : decode cX4_init 35 = .ok (.iload_n 3, 1) := by decide +kernel
theorem dX4_init_36 : decode cX4_init 36 = .ok (.goto 5, 3) := by decide +kernel
theorem dX4_init_39 : decode cX4_init 39 = .ok (.bipush 20, 2) := by decide +kernel
theorem dX4_init_41 : decode cX4_init 41 = .ok (.putfield 17, 3) := by decide +kernel
theorem dX4_init_44 : decode cX4_init 44 = .ok (.aload_n 0, 1) := by decide +kernel
theorem dX4_init_45 : decode cX4_init 45 = .ok (.new 20, 3) := by decide +kernel
theorem dX4_init_48 : decode cX4_init 48 = .ok (.dup, 1) := by decide +kernel
theorem dX4_init_49 : decode cX4_init 49 = .ok (.iload_n 1, 1) := by decide +kernel
theorem dX4_init_50 : decode cX4_init 50 = .ok (.iconst 1, 1) := by decide +kernel
theorem dX4_init_51 : decode cX4_init 51 = .ok (.bipush 16, 2) := by decide +kernel
theorem dX4_init_53 : decode cX4_init 53 = .ok (.invokestatic 7, 3) := by decide +kernel
theorem dX4_init_56 : decode cX4_init 56 = .ok (.ifCond .eq 7, 3) := by decide +kernel
theorem dX4_init_59 : decode cX4_init 59 = .ok (.iload_n 1, 1) := by decide +kernel
theorem dX4_init_60 : decode cX4_init 60 = .ok (.goto 4, 3) := by decide +kernel
theorem dX4_init_63 : decode cX4_init 63 = .ok (.iconst 4, 1) := by decide +kernel
theorem dX4_init_64 : decode cX4_init 64 = .ok (.invokespecial 22, 3) := by decide +kernel
theorem dX4_init_67 : decode cX4_init 67 = .ok (.putfield 25, 3) := by decide +kernel
theorem dX4_init_70 : decode cX4_init 70 = .ok (.aload_n 0, 1) := by decide +kernel
theorem dX4_init_71 : decode cX4_init 71 = .ok (.new 29, 3) := by decide +kernel
theorem dX4_init_74 : decode cX4_init 74 = .ok (.dup, 1) := by decide +kernel
theorem dX4_init_75 : decode cX4_init 75 = .ok (.invokespecial 31, 3) := by decide +kernel
theorem dX4_init_78 : decode cX4_init 78 = .ok (.putfield 32, 3) := by decide +kernel
theorem dX4_init_81 : decode cX4_init 81 = .ok (.aload_n 0, 1) := by decide +kernel
theorem dX4_init_82 : decode cX4_init 82 = .ok (.new 36, 3) := by decide +kernel
theorem dX4_init_85 : decode cX4_init 85 = .ok (.dup, 1) := by decide +kernel
theorem dX4_init_86 : decode cX4_init 86 = .ok (.invokespecial 38, 3) := by decide +kernel
theorem dX4_init_89 : decode cX4_init 89 = .ok (.putfield 39, 3) := by decide +kernel
theorem dX4_init_92 : decode cX4_init 92 = .ok (.aload_n 0, 1) := by decide +kernel
theorem dX4_init_93 : decode cX4_init 93 = .ok (.new 43, 3) := by decide +kernel
theorem dX4_init_96 : decode cX4_init 96 = .ok (.dup, 1) := by decide +kernel
theorem dX4_init_97 : decode cX4_init 97 = .ok (.aload_n 0, 1) := by decide +kernel
theorem dX4_init_98 : decode cX4_init 98 = .ok (.getfield 13, 3) := by decide +kernel
theorem dX4_init_101 : decode cX4_init 101 = .ok (.invokespecial 45, 3) := by decide +kernel
theorem dX4_init_104 : decode cX4_init 104 = .ok (.putfield 46, 3) := by decide +kernel
theorem dX4_init_107 : decode cX4_init 107 = .ok (.aload_n 0, 1) := by decide +kernel
theorem dX4_init_108 : decode cX4_init 108 = .ok (.iconst 0, 1) := by decide +kernel
theorem dX4_init_109 : decode cX4_init 109 = .ok (.putfield 50, 3) := by decide +kernel
theorem dX4_init_112 : decode cX4_init 112 = .ok (.return_, 1) := by decide +kernel
theorem dX4_frame_0 : decode cX4_frame 0 = .ok (.aload_n 0, 1) := by decide +kernel
theorem dX4_frame_1 : decode cX4_frame 1 = .ok (.getfield 25, 3) := by decide +kernel
theorem dX4_frame_4 : decode cX4_frame 4 = .ok (.iload_n 1, 1) := by decide +kernel
theorem dX4_frame_5 : decode cX4_frame 5 = .ok (.invokevirtual 53, 3) := by decide +kernel
theorem dX4_frame_8 : decode cX4_frame 8 = .ok (.ifCond .eq 11, 3) := by decide +kernel
theorem dX4_frame_11 : decode cX4_frame 11 = .ok (.aload_n 0, 1) := by decide +kernel
theorem dX4_frame_12 : decode cX4_frame 12 = .ok (.iload_n 2, 1) := by decide +kernel
theorem dX4_frame_13 : decode cX4_frame 13 = .ok (.invokevirtual 57, 3) := by decide +kernel
theorem dX4_frame_16 : decode cX4_frame 16 = .ok (.ifCond .ne 5, 3) := by decide +kernel
theorem dX4_frame_19 : decode cX4_frame 19 = .ok (.iconst (-1), 1) := by decide +kernel
theorem dX4_frame_20 : decode cX4_frame 20 = .ok (.ireturn, 1) := by decide +kernel
theorem dX4_frame_21 : decode cX4_frame 21 = .ok (.iload_n 3, 1) := by decide +kernel
theorem dX4_frame_22 : decode cX4_frame 22 = .ok (.iconst 1, 1) := by decide +kernel
theorem dX4_frame_23 : decode cX4_frame 23 = .ok (.iconst 3, 1) := by decide +kernel
theorem dX4_frame_24 : decode cX4_frame 24 = .ok (.invokestatic 7, 3) := by decide +kernel
theorem dX4_frame_27 : decode cX4_frame 27 = .ok (.ifCond .eq 24, 3) := by decide +kernel
theorem dX4_frame_30 : decode cX4_frame 30 = .ok (.iload 5, 2) := by decide +kernel
theorem dX4_frame_32 : decode cX4_frame 32 = .ok (.invokestatic 60, 3) := by decide +kernel
theorem dX4_frame_35 : decode cX4_frame 35 = .ok (.ifCond .eq 16, 3) := by decide +kernel
theorem dX4_frame_38 : decode cX4_frame 38 = .ok (.iload 4, 2) := by decide +kernel
theorem dX4_frame_40 : decode cX4_frame 40 = .ok (.iconst 0, 1) := by decide +kernel
theorem dX4_frame_41 : decode cX4_frame 41 = .ok (.iload 5, 2) := by decide +kernel
theorem dX4_frame_43 : decode cX4_frame 43 = .ok (.iconst 1, 1) := by decide +kernel
theorem dX4_frame_44 : decode cX4_frame 44 = .ok (.isub, 1) := by decide +kernel
theorem dX4_frame_45 : decode cX4_frame 45 = .ok (.invokestatic 7, 3) := by decide +kernel
theorem dX4_frame_48 : decode cX4_frame 48 = .ok (.ifCond .ne 6, 3) := by decide +kernel
theorem dX4_frame_51 : decode cX4_frame 51 = .ok (.bipush (-2), 2) := by decide +kernel
theorem dX4_frame_53 : decode cX4_frame 53 = .ok (.ireturn, 1) := by decide +kernel
theorem dX4_frame_54 : decode cX4_frame 54 = .ok (.aload_n 0, 1) := by decide +kernel
theorem dX4_frame_55 : decode cX4_frame 55 = .ok (.getfield 32, 3) := by decide +kernel
theorem dX4_frame_58 : decode cX4_frame 58 = .ok (.iload_n 2, 1) := by decide +kernel
theorem dX4_frame_59 : decode cX4_frame 59 = .ok (.iload_n 3, 1) := by decide +kernel
theorem dX4_frame_60 : decode cX4_frame 60 = .ok (.iload 4, 2) := by decide +kernel
theorem dX4_frame_62 : decode cX4_frame 62 = .ok (.iload 5, 2) := by decide +kernel
theorem dX4_frame_64 : decode cX4_frame 64 = .ok (.invokevirtual 63, 3) := by decide +kernel
theorem dX4_frame_67 : decode cX4_frame 67 = .ok (.ifCond .eq 6, 3) := by decide +kernel
theorem dX4_frame_70 : decode cX4_frame 70 = .ok (.bipush (-3), 2) := by decide +kernel
theorem dX4_frame_72 : decode cX4_frame 72 = .ok (.ireturn, 1) := by decide +kernel
theorem dX4_frame_73 : decode cX4_frame 73 = .ok (.aload_n 0, 1) := by decide +kernel
theorem dX4_frame_74 : decode cX4_frame 74 = .ok (.getfield 32, 3) := by decide +kernel
theorem dX4_frame_77 : decode cX4_frame 77 = .ok (.invokevirtual 67, 3) := by decide +kernel
theorem dX4_frame_80 : decode cX4_frame 80 = .ok (.ifCond .eq 6, 3) := by decide +kernel
theorem dX4_frame_83 : decode cX4_frame 83 = .ok (.bipush (-4), 2) := by decide +kernel
theorem dX4_frame_85 : decode cX4_frame 85 = .ok (.ireturn, 1) := by decide +kernel
theorem dX4_frame_86 : decode cX4_frame 86 = .ok (.aload_n 0, 1) := by decide +kernel
theorem dX4_frame_87 : decode cX4_frame 87 = .ok (.getfield 32, 3) := by decide +kernel
theorem dX4_frame_90 : decode cX4_frame 90 = .ok (.iload_n 1, 1) := by decide +kernel
theorem dX4_frame_91 : decode cX4_frame 91 = .ok (.iload_n 2, 1) := by decide +kernel
theorem dX4_frame_92 : decode cX4_frame 92 = .ok (.iload_n 3, 1) := by decide +kernel
theorem dX4_frame_93 : decode cX4_frame 93 = .ok (.iload 4, 2) := by decide +kernel
theorem dX4_frame_95 : decode cX4_frame 95 = .ok (.iload 5, 2) := by decide +kernel
theorem dX4_frame_97 : decode cX4_frame 97 = .ok (.invokevirtual 71, 3) := by decide +kernel
theorem dX4_frame_100 : decode cX4_frame 100 = .ok (.ireturn, 1) := by decide +kernel
theorem dX4_dynamic_0 : decode cX4_dynamic 0 = .ok (.aload_n 0, 1) := by decide +kernel
theorem dX4_dynamic_1 : decode cX4_dynamic 1 = .ok (.getfield 25, 3) := by decide +kernel
theorem dX4_dynamic_4 : decode cX4_dynamic 4 = .ok (.iload_n 1, 1) := by decide +kernel
theorem dX4_dynamic_5 : decode cX4_dynamic 5 = .ok (.invokevirtual 53, 3) := by decide +kernel
theorem dX4_dynamic_8 : decode cX4_dynamic 8 = .ok (.ifCond .ne 5, 3) := by decide +kernel
theorem dX4_dynamic_11 : decode cX4_dynamic 11 = .ok (.iconst (-1), 1) := by decide +kernel
theorem dX4_dynamic_12 : decode cX4_dynamic 12 = .ok (.ireturn, 1) := by decide +kernel
theorem dX4_dynamic_13 : decode cX4_dynamic 13 = .ok (.iload_n 2, 1) := by decide +kernel
theorem dX4_dynamic_14 : decode cX4_dynamic 14 = .ok (.iconst 1, 1) := by decide +kernel
theorem dX4_dynamic_15 : decode cX4_dynamic 15 = .ok (.bipush 60, 2) := by decide +kernel
theorem dX4_dynamic_17 : decode cX4_dynamic 17 = .ok (.invokestatic 7, 3) := by decide +kernel
theorem dX4_dynamic_20 : decode cX4_dynamic 20 = .ok (.ifCond .eq 13, 3) := by decide +kernel
theorem dX4_dynamic_23 : decode cX4_dynamic 23 = .ok (.iload_n 3, 1) := by decide +kernel
theorem dX4_dynamic_24 : decode cX4_dynamic 24 = .ok (.iconst 1, 1) := by decide +kernel
theorem dX4_dynamic_25 : decode cX4_dynamic 25 = .ok (.bipush 60, 2) := by decide +kernel
theorem dX4_dynamic_27 : decode cX4_dynamic 27 = .ok (.invokestatic 7, 3) := by decide +kernel
theorem dX4_dynamic_30 : decode cX4_dynamic 30 = .ok (.ifCond .ne 6, 3) := by decide +kernel
theorem dX4_dynamic_33 : decode cX4_dynamic 33 = .ok (.bipush (-2), 2) := by decide +kernel
theorem dX4_dynamic_35 : decode cX4_dynamic 35 = .ok (.ireturn, 1) := by decide +kernel
theorem dX4_dynamic_36 : decode cX4_dynamic 36 = .ok (.aload_n 0, 1) := by decide +kernel
theorem dX4_dynamic_37 : decode cX4_dynamic 37 = .ok (.getfield 39, 3) := by decide +kernel
theorem dX4_dynamic_40 : decode cX4_dynamic 40 = .ok (.invokevirtual 75, 3) := by decide +kernel
theorem dX4_dynamic_43 : decode cX4_dynamic 43 = .ok (.ifCond .eq 6, 3) := by decide +kernel
theorem dX4_dynamic_46 : decode cX4_dynamic 46 = .ok (.bipush (-4), 2) := by decide +kernel
theorem dX4_dynamic_48 : decode cX4_dynamic 48 = .ok (.ireturn, 1) := by decide +kernel
theorem dX4_dynamic_49 : decode cX4_dynamic 49 = .ok (.aload_n 0, 1) := by decide +kernel
theorem dX4_dynamic_50 : decode cX4_dynamic 50 = .ok (.getfield 39, 3) := by decide +kernel
theorem dX4_dynamic_53 : decode cX4_dynamic 53 = .ok (.iload_n 1, 1) := by decide +kernel
theorem dX4_dynamic_54 : decode cX4_dynamic 54 = .ok (.iload_n 2, 1) := by decide +kernel
theorem dX4_dynamic_55 : decode cX4_dynamic 55 = .ok (.iload_n 3, 1) := by decide +kernel
theorem dX4_dynamic_56 : decode cX4_dynamic 56 = .ok (.invokevirtual 76, 3) := by decide +kernel
theorem dX4_dynamic_59 : decode cX4_dynamic 59 = .ok (.ireturn, 1) := by decide +kernel
theorem dX4_drift_0 : decode cX4_drift 0 = .ok (.aload_n 0, 1) := by decide +kernel
theorem dX4_drift_1 : decode cX4_drift 1 = .ok (.getfield 25, 3) := by decide +kernel
theorem dX4_drift_4 : decode cX4_drift 4 = .ok (.iload_n 1, 1) := by decide +kernel
theorem dX4_drift_5 : decode cX4_drift 5 = .ok (.invokevirtual 53, 3) := by decide +kernel
theorem dX4_drift_8 : decode cX4_drift 8 = .ok (.ifCond .ne 5, 3) := by decide +kernel
theorem dX4_drift_11 : decode cX4_drift 11 = .ok (.iconst (-1), 1) := by decide +kernel
theorem dX4_drift_12 : decode cX4_drift 12 = .ok (.ireturn, 1) := by decide +kernel
theorem dX4_drift_13 : decode cX4_drift 13 = .ok (.iload_n 2, 1) := by decide +kernel
theorem dX4_drift_14 : decode cX4_drift 14 = .ok (.sipush (-200), 3) := by decide +kernel
theorem dX4_drift_17 : decode cX4_drift 17 = .ok (.sipush 200, 3) := by decide +kernel
theorem dX4_drift_20 : decode cX4_drift 20 = .ok (.invokestatic 7, 3) := by decide +kernel
theorem dX4_drift_23 : decode cX4_drift 23 = .ok (.ifCond .ne 6, 3) := by decide +kernel
theorem dX4_drift_26 : decode cX4_drift 26 = .ok (.bipush (-2), 2) := by decide +kernel
theorem dX4_drift_28 : decode cX4_drift 28 = .ok (.ireturn, 1) := by decide +kernel
theorem dX4_drift_29 : decode cX4_drift 29 = .ok (.aload_n 0, 1) := by decide +kernel
theorem dX4_drift_30 : decode cX4_drift 30 = .ok (.getfield 25, 3) := by decide +kernel
theorem dX4_drift_33 : decode cX4_drift 33 = .ok (.getfield 79, 3) := by decide +kernel
theorem dX4_drift_36 : decode cX4_drift 36 = .ok (.iload_n 1, 1) := by decide +kernel
theorem dX4_drift_37 : decode cX4_drift 37 = .ok (.iload_n 2, 1) := by decide +kernel
theorem dX4_drift_38 : decode cX4_drift 38 = .ok (.iastore, 1) := by decide +kernel
theorem dX4_drift_39 : decode cX4_drift 39 = .ok (.iconst 1, 1) := by decide +kernel
theorem dX4_drift_40 : decode cX4_drift 40 = .ok (.ireturn, 1) := by decide +kernel
theorem dX4_run_0 : decode cX4_run 0 = .ok (.iload_n 1, 1) := by decide +kernel
theorem dX4_run_1 : decode cX4_run 1 = .ok (.iconst 0, 1) := by decide +kernel
theorem dX4_run_2 : decode cX4_run 2 = .ok (.sipush 500, 3) := by decide +kernel
theorem dX4_run_5 : decode cX4_run 5 = .ok (.invokestatic 7, 3) := by decide +kernel
theorem dX4_run_8 : decode cX4_run 8 = .ok (.ifCond .ne 6, 3) := by decide +kernel
theorem dX4_run_11 : decode cX4_run 11 = .ok (.bipush (-2), 2) := by decide +kernel
theorem dX4_run_13 : decode cX4_run 13 = .ok (.ireturn, 1) := by decide +kernel
theorem dX4_run_14 : decode cX4_run 14 = .ok (.iconst 0, 1) := by decide +kernel
theorem dX4_run_15 : decode cX4_run 15 = .ok (.istore_n 2, 1) := by decide +kernel
theorem dX4_run_16 : decode cX4_run 16 = .ok (.iconst 0, 1) := by decide +kernel
theorem dX4_run_17 : decode cX4_run 17 = .ok (.istore_n 3, 1) := by decide +kernel
theorem dX4_run_18 : decode cX4_run 18 = .ok (.iload_n 3, 1) := by decide +kernel
theorem dX4_run_19 : decode cX4_run 19 = .ok (.iload_n 1, 1) := by decide +kernel
theorem dX4_run_20 : decode cX4_run 20 = .ok (.if_icmp .ge 16, 3) := by decide +kernel
theorem dX4_run_23 : decode cX4_run 23 = .ok (.iload_n 2, 1) := by decide +kernel
theorem dX4_run_24 : decode cX4_run 24 = .ok (.aload_n 0, 1) := by decide +kernel
theorem dX4_run_25 : decode cX4_run 25 = .ok (.invokevirtual 83, 3) := by decide +kernel
theorem dX4_run_28 : decode cX4_run 28 = .ok (.iadd, 1) := by decide +kernel
theorem dX4_run_29 : decode cX4_run 29 = .ok (.istore_n 2, 1) := by decide +kernel
theorem dX4_run_30 : decode cX4_run 30 = .ok (.iinc 3 1, 3) := by decide +kernel
theorem dX4_run_33 : decode cX4_run 33 = .ok (.goto (-15), 3) := by decide +kernel
theorem dX4_run_36 : decode cX4_run 36 = .ok (.iload_n 2, 1) := by decide +kernel
theorem dX4_run_37 : decode cX4_run 37 = .ok (.ireturn, 1) := by decide +kernel
theorem dX4_state_0 : decode cX4_state 0 = .ok (.aload_n 0, 1) := by decide +kernel
theorem dX4_state_1 : decode cX4_state 1 = .ok (.getfield 25, 3) := by decide +kernel
theorem dX4_state_4 : decode cX4_state 4 = .ok (.iload_n 1, 1) := by decide +kernel
theorem dX4_state_5 : decode cX4_state 5 = .ok (.invokevirtual 53, 3) := by decide +kernel
theorem dX4_state_8 : decode cX4_state 8 = .ok (.ifCond .eq 15, 3) := by decide +kernel
theorem dX4_state_11 : decode cX4_state 11 = .ok (.aload_n 0, 1) := by decide +kernel
theorem dX4_state_12 : decode cX4_state 12 = .ok (.getfield 25, 3) := by decide +kernel
theorem dX4_state_15 : decode cX4_state 15 = .ok (.getfield 87, 3) := by decide +kernel
theorem dX4_state_18 : decode cX4_state 18 = .ok (.iload_n 1, 1) := by decide +kernel
theorem dX4_state_19 : decode cX4_state 19 = .ok (.iaload, 1) := by decide +kernel
theorem dX4_state_20 : decode cX4_state 20 = .ok (.goto 4, 3) := by decide +kernel
theorem dX4_state_23 : decode cX4_state 23 = .ok (.iconst (-1), 1) := by decide +kernel
theorem dX4_state_24 : decode cX4_state 24 = .ok (.ireturn, 1) := by decide +kernel
theorem dX4_offset_0 : decode cX4_offset 0 = .ok (.aload_n 0, 1) := by decide +kernel
theorem dX4_offset_1 : decode cX4_offset 1 = .ok (.getfield 25, 3) := by decide +kernel
theorem dX4_offset_4 : decode cX4_offset 4 = .ok (.iload_n 1, 1) := by decide +kernel
theorem dX4_offset_5 : decode cX4_offset 5 = .ok (.invokevirtual 53, 3) := by decide +kernel
theorem dX4_offset_8 : decode cX4_offset 8 = .ok (.ifCond .eq 15, 3) := by decide +kernel
theorem dX4_offset_11 : decode cX4_offset 11 = .ok (.aload_n 0, 1) := by decide +kernel
theorem dX4_offset_12 : decode cX4_offset 12 = .ok (.getfield 25, 3) := by decide +kernel
theorem dX4_offset_15 : decode cX4_offset 15 = .ok (.getfield 90, 3) := by decide +kernel
theorem dX4_offset_18 : decode cX4_offset 18 = .ok (.iload_n 1, 1) := by decide +kernel
theorem dX4_offset_19 : decode cX4_offset 19 = .ok (.iaload, 1) := by decide +kernel
theorem dX4_offset_20 : decode cX4_offset 20 = .ok (.goto 4, 3) := by decide +kernel
theorem dX4_offset_23 : decode cX4_offset 23 = .ok (.iconst 0, 1) := by decide +kernel
theorem dX4_offset_24 : decode cX4_offset 24 = .ok (.ireturn, 1) := by decide +kernel
theorem dX4_rate_0 : decode cX4_rate 0 = .ok (.aload_n 0, 1) := by decide +kernel
theorem dX4_rate_1 : decode cX4_rate 1 = .ok (.getfield 25, 3) := by decide +kernel
theorem dX4_rate_4 : decode cX4_rate 4 = .ok (.iload_n 1, 1) := by decide +kernel
theorem dX4_rate_5 : decode cX4_rate 5 = .ok (.invokevirtual 53, 3) := by decide +kernel
theorem dX4_rate_8 : decode cX4_rate 8 = .ok (.ifCond .eq 15, 3) := by decide +kernel
theorem dX4_rate_11 : decode cX4_rate 11 = .ok (.aload_n 0, 1) := by decide +kernel
theorem dX4_rate_12 : decode cX4_rate 12 = .ok (.getfield 25, 3) := by decide +kernel
theorem dX4_rate_15 : decode cX4_rate 15 = .ok (.getfield 93, 3) := by decide +kernel
theorem dX4_rate_18 : decode cX4_rate 18 = .ok (.iload_n 1, 1) := by decide +kernel
theorem dX4_rate_19 : decode cX4_rate 19 = .ok (.iaload, 1) := by decide +kernel
theorem dX4_rate_20 : decode cX4_rate 20 = .ok (.goto 4, 3) := by decide +kernel
theorem dX4_rate_23 : decode cX4_rate 23 = .ok (.iconst 0, 1) := by decide +kernel
theorem dX4_rate_24 : decode cX4_rate 24 = .ok (.ireturn, 1) := by decide +kernel
theorem dX4_place_0 : decode cX4_place 0 = .ok (.aload_n 0, 1) := by decide +kernel
theorem dX4_place_1 : decode cX4_place 1 = .ok (.iload_n 1, 1) := by decide +kernel
theorem dX4_place_2 : decode cX4_place 2 = .ok (.invokevirtual 57, 3) := by decide +kernel
theorem dX4_place_5 : decode cX4_place 5 = .ok (.ifCond .eq 13, 3) := by decide +kernel
theorem dX4_place_8 : decode cX4_place 8 = .ok (.iload_n 2, 1) := by decide +kernel
theorem dX4_place_9 : decode cX4_place 9 = .ok (.iconst 0, 1) := by decide +kernel
theorem dX4_place_10 : decode cX4_place 10 = .ok (.bipush 63, 2) := by decide +kernel
theorem dX4_place_12 : decode cX4_place 12 = .ok (.invokestatic 7, 3) := by decide +kernel
theorem dX4_place_15 : decode cX4_place 15 = .ok (.ifCond .ne 11, 3) := by decide +kernel
theorem dX4_place_18 : decode cX4_place 18 = .ok (.new 96, 3) := by decide +kernel
theorem dX4_place_21 : decode cX4_place 21 = .ok (.dup, 1) := by decide +kernel
theorem dX4_place_22 : decode cX4_place 22 = .ok (.invokespecial 98, 3) := by decide +kernel
theorem dX4_place_25 : decode cX4_place 25 = .ok (.athrow, 1) := by decide +kernel
theorem dX4_place_26 : decode cX4_place 26 = .ok (.aload_n 0, 1) := by decide +kernel
theorem dX4_place_27 : decode cX4_place 27 = .ok (.getfield 32, 3) := by decide +kernel
theorem dX4_place_30 : decode cX4_place 30 = .ok (.iload_n 1, 1) := by decide +kernel
theorem dX4_place_31 : decode cX4_place 31 = .ok (.iconst 1, 1) := by decide +kernel
theorem dX4_place_32 : decode cX4_place 32 = .ok (.iload_n 2, 1) := by decide +kernel
theorem dX4_place_33 : decode cX4_place 33 = .ok (.invokevirtual 99, 3) := by decide +kernel
theorem dX4_place_36 : decode cX4_place 36 = .ok (.istore_n 3, 1) := by decide +kernel
theorem dX4_place_37 : decode cX4_place 37 = .ok (.iload_n 3, 1) := by decide +kernel
theorem dX4_place_38 : decode cX4_place 38 = .ok (.ifCond .eq 7, 3) := by decide +kernel
theorem dX4_place_41 : decode cX4_place 41 = .ok (.iload_n 3, 1) := by decide +kernel
theorem dX4_place_42 : decode cX4_place 42 = .ok (.goto 13, 3) := by decide +kernel
theorem dX4_place_45 : decode cX4_place 45 = .ok (.aload_n 0, 1) := by decide +kernel
theorem dX4_place_46 : decode cX4_place 46 = .ok (.getfield 32, 3) := by decide +kernel
theorem dX4_place_49 : decode cX4_place 49 = .ok (.iload_n 1, 1) := by decide +kernel
theorem dX4_place_50 : decode cX4_place 50 = .ok (.iconst 2, 1) := by decide +kernel
theorem dX4_place_51 : decode cX4_place 51 = .ok (.iload_n 2, 1) := by decide +kernel
theorem dX4_place_52 : decode cX4_place 52 = .ok (.invokevirtual 99, 3) := by decide +kernel
theorem dX4_place_55 : decode cX4_place 55 = .ok (.ireturn, 1) := by decide +kernel
theorem dX4_cold_0 : decode cX4_cold 0 = .ok (.aload_n 0, 1) := by decide +kernel
theorem dX4_cold_1 : decode cX4_cold 1 = .ok (.getfield 25, 3) := by decide +kernel
theorem dX4_cold_4 : decode cX4_cold 4 = .ok (.iload_n 1, 1) := by decide +kernel
theorem dX4_cold_5 : decode cX4_cold 5 = .ok (.invokevirtual 53, 3) := by decide +kernel
theorem dX4_cold_8 : decode cX4_cold 8 = .ok (.ifCond .ne 5, 3) := by decide +kernel
theorem dX4_cold_11 : decode cX4_cold 11 = .ok (.iconst (-1), 1) := by decide +kernel
theorem dX4_cold_12 : decode cX4_cold 12 = .ok (.ireturn, 1) := by decide +kernel
theorem dX4_cold_13 : decode cX4_cold 13 = .ok (.aload_n 0, 1) := by decide +kernel
theorem dX4_cold_14 : decode cX4_cold 14 = .ok (.getfield 25, 3) := by decide +kernel
theorem dX4_cold_17 : decode cX4_cold 17 = .ok (.iload_n 1, 1) := by decide +kernel
theorem dX4_cold_18 : decode cX4_cold 18 = .ok (.iload_n 2, 1) := by decide +kernel
theorem dX4_cold_19 : decode cX4_cold 19 = .ok (.invokevirtual 102, 3) := by decide +kernel
theorem dX4_cold_22 : decode cX4_cold 22 = .ok (.aload_n 0, 1) := by decide +kernel
theorem dX4_cold_23 : decode cX4_cold 23 = .ok (.getfield 25, 3) := by decide +kernel
theorem dX4_cold_26 : decode cX4_cold 26 = .ok (.invokevirtual 106, 3) := by decide +kernel
theorem dX4_cold_29 : decode cX4_cold 29 = .ok (.ireturn, 1) := by decide +kernel
theorem dX4_flip_0 : decode cX4_flip 0 = .ok (.iload_n 1, 1) := by decide +kernel
theorem dX4_flip_1 : decode cX4_flip 1 = .ok (.iconst 1, 1) := by decide +kernel
theorem dX4_flip_2 : decode cX4_flip 2 = .ok (.iconst 2, 1) := by decide +kernel
theorem dX4_flip_3 : decode cX4_flip 3 = .ok (.invokestatic 7, 3) := by decide +kernel
theorem dX4_flip_6 : decode cX4_flip 6 = .ok (.ifCond .eq 11, 3) := by decide +kernel
theorem dX4_flip_9 : decode cX4_flip 9 = .ok (.aload_n 0, 1) := by decide +kernel
theorem dX4_flip_10 : decode cX4_flip 10 = .ok (.iload_n 2, 1) := by decide +kernel
theorem dX4_flip_11 : decode cX4_flip 11 = .ok (.invokevirtual 57, 3) := by decide +kernel
theorem dX4_flip_14 : decode cX4_flip 14 = .ok (.ifCond .ne 5, 3) := by decide +kernel
theorem dX4_flip_17 : decode cX4_flip 17 = .ok (.iconst (-1), 1) := by decide +kernel
theorem dX4_flip_18 : decode cX4_flip 18 = .ok (.ireturn, 1) := by decide +kernel
theorem dX4_flip_19 : decode cX4_flip 19 = .ok (.aload_n 0, 1) := by decide +kernel
theorem dX4_flip_20 : decode cX4_flip 20 = .ok (.getfield 46, 3) := by decide +kernel
theorem dX4_flip_23 : decode cX4_flip 23 = .ok (.iload_n 1, 1) := by decide +kernel
theorem dX4_flip_24 : decode cX4_flip 24 = .ok (.iload_n 2, 1) := by decide +kernel
theorem dX4_flip_25 : decode cX4_flip 25 = .ok (.invokevirtual 109, 3) := by decide +kernel
theorem dX4_flip_28 : decode cX4_flip 28 = .ok (.ifCond .eq 6, 3) := by decide +kernel
theorem dX4_flip_31 : decode cX4_flip 31 = .ok (.bipush (-3), 2) := by decide +kernel
theorem dX4_flip_33 : decode cX4_flip 33 = .ok (.ireturn, 1) := by decide +kernel
theorem dX4_flip_34 : decode cX4_flip 34 = .ok (.aload_n 0, 1) := by decide +kernel
theorem dX4_flip_35 : decode cX4_flip 35 = .ok (.getfield 46, 3) := by decide +kernel
theorem dX4_flip_38 : decode cX4_flip 38 = .ok (.iload_n 1, 1) := by decide +kernel
theorem dX4_flip_39 : decode cX4_flip 39 = .ok (.iload_n 2, 1) := by decide +kernel
theorem dX4_flip_40 : decode cX4_flip 40 = .ok (.invokevirtual 112, 3) := by decide +kernel
theorem dX4_flip_43 : decode cX4_flip 43 = .ok (.ireturn, 1) := by decide +kernel
theorem dX4_close_0 : decode cX4_close 0 = .ok (.aload_n 0, 1) := by decide +kernel
theorem dX4_close_1 : decode cX4_close 1 = .ok (.getfield 25, 3) := by decide +kernel
theorem dX4_close_4 : decode cX4_close 4 = .ok (.iload_n 1, 1) := by decide +kernel
theorem dX4_close_5 : decode cX4_close 5 = .ok (.invokevirtual 115, 3) := by decide +kernel
theorem dX4_close_8 : decode cX4_close 8 = .ok (.ireturn, 1) := by decide +kernel
theorem dX4_midpoint_0 : decode cX4_midpoint 0 = .ok (.aload_n 0, 1) := by decide +kernel
theorem dX4_midpoint_1 : decode cX4_midpoint 1 = .ok (.getfield 25, 3) := by decide +kernel
theorem dX4_midpoint_4 : decode cX4_midpoint 4 = .ok (.iload_n 1, 1) := by decide +kernel
theorem dX4_midpoint_5 : decode cX4_midpoint 5 = .ok (.invokevirtual 53, 3) := by decide +kernel
theorem dX4_midpoint_8 : decode cX4_midpoint 8 = .ok (.ifCond .eq 15, 3) := by decide +kernel
theorem dX4_midpoint_11 : decode cX4_midpoint 11 = .ok (.aload_n 0, 1) := by decide +kernel
theorem dX4_midpoint_12 : decode cX4_midpoint 12 = .ok (.getfield 25, 3) := by decide +kernel
theorem dX4_midpoint_15 : decode cX4_midpoint 15 = .ok (.getfield 118, 3) := by decide +kernel
theorem dX4_midpoint_18 : decode cX4_midpoint 18 = .ok (.iload_n 1, 1) := by decide +kernel
theorem dX4_midpoint_19 : decode cX4_midpoint 19 = .ok (.iaload, 1) := by decide +kernel
theorem dX4_midpoint_20 : decode cX4_midpoint 20 = .ok (.goto 4, 3) := by decide +kernel
theorem dX4_midpoint_23 : decode cX4_midpoint 23 = .ok (.iconst 0, 1) := by decide +kernel
theorem dX4_midpoint_24 : decode cX4_midpoint 24 = .ok (.ireturn, 1) := by decide +kernel
theorem dX4_within_0 : decode cX4_within 0 = .ok (.iload_n 0, 1) := by decide +kernel
theorem dX4_within_1 : decode cX4_within 1 = .ok (.iload_n 1, 1) := by decide +kernel
theorem dX4_within_2 : decode cX4_within 2 = .ok (.if_icmp .lt 12, 3) := by decide +kernel
theorem dX4_within_5 : decode cX4_within 5 = .ok (.iload_n 0, 1) := by decide +kernel
theorem dX4_within_6 : decode cX4_within 6 = .ok (.iload_n 2, 1) := by decide +kernel
theorem dX4_within_7 : decode cX4_within 7 = .ok (.if_icmp .gt 7, 3) := by decide +kernel
theorem dX4_within_10 : decode cX4_within 10 = .ok (.iconst 1, 1) := by decide +kernel
theorem dX4_within_11 : decode cX4_within 11 = .ok (.goto 4, 3) := by decide +kernel
theorem dX4_within_14 : decode cX4_within 14 = .ok (.iconst 0, 1) := by decide +kernel
theorem dX4_within_15 : decode cX4_within 15 = .ok (.ireturn, 1) := by decide +kernel
theorem dX4_hasSlot_0 : decode cX4_hasSlot 0 = .ok (.iload_n 1, 1) := by decide +kernel
theorem dX4_hasSlot_1 : decode cX4_hasSlot 1 = .ok (.iconst 0, 1) := by decide +kernel
theorem dX4_hasSlot_2 : decode cX4_hasSlot 2 = .ok (.aload_n 0, 1) := by decide +kernel
theorem dX4_hasSlot_3 : decode cX4_hasSlot 3 = .ok (.getfield 13, 3) := by decide +kernel
theorem dX4_hasSlot_6 : decode cX4_hasSlot 6 = .ok (.iconst 1, 1) := by decide +kernel
theorem dX4_hasSlot_7 : decode cX4_hasSlot 7 = .ok (.isub, 1) := by decide +kernel
theorem dX4_hasSlot_8 : decode cX4_hasSlot 8 = .ok (.invokestatic 7, 3) := by decide +kernel
theorem dX4_hasSlot_11 : decode cX4_hasSlot 11 = .ok (.ireturn, 1) := by decide +kernel
theorem dX4_runOne_0 : decode cX4_runOne 0 = .ok (.aload_n 0, 1) := by decide +kernel
theorem dX4_runOne_1 : decode cX4_runOne 1 = .ok (.getfield 25, 3) := by decide +kernel
theorem dX4_runOne_4 : decode cX4_runOne 4 = .ok (.invokevirtual 121, 3) := by decide +kernel
theorem dX4_runOne_7 : decode cX4_runOne 7 = .ok (.aload_n 0, 1) := by decide +kernel
theorem dX4_runOne_8 : decode cX4_runOne 8 = .ok (.getfield 32, 3) := by decide +kernel
theorem dX4_runOne_11 : decode cX4_runOne 11 = .ok (.aload_n 0, 1) := by decide +kernel
theorem dX4_runOne_12 : decode cX4_runOne 12 = .ok (.getfield 50, 3) := by decide +kernel
theorem dX4_runOne_15 : decode cX4_runOne 15 = .ok (.aload_n 0, 1) := by decide +kernel
theorem dX4_runOne_16 : decode cX4_runOne 16 = .ok (.getfield 25, 3) := by decide +kernel
theorem dX4_runOne_19 : decode cX4_runOne 19 = .ok (.aload_n 0, 1) := by decide +kernel
theorem dX4_runOne_20 : decode cX4_runOne 20 = .ok (.getfield 46, 3) := by decide +kernel
theorem dX4_runOne_23 : decode cX4_runOne 23 = .ok (.invokevirtual 124, 3) := by decide +kernel
theorem dX4_runOne_26 : decode cX4_runOne 26 = .ok (.aload_n 0, 1) := by decide +kernel
theorem dX4_runOne_27 : decode cX4_runOne 27 = .ok (.getfield 39, 3) := by decide +kernel
theorem dX4_runOne_30 : decode cX4_runOne 30 = .ok (.aload_n 0, 1) := by decide +kernel
theorem dX4_runOne_31 : decode cX4_runOne 31 = .ok (.getfield 17, 3) := by decide +kernel
theorem dX4_runOne_34 : decode cX4_runOne 34 = .ok (.aload_n 0, 1) := by decide +kernel
theorem dX4_runOne_35 : decode cX4_runOne 35 = .ok (.getfield 25, 3) := by decide +kernel
theorem dX4_runOne_38 : decode cX4_runOne 38 = .ok (.invokevirtual 128, 3) := by decide +kernel
theorem dX4_runOne_41 : decode cX4_runOne 41 = .ok (.iadd, 1) := by decide +kernel
theorem dX4_runOne_42 : decode cX4_runOne 42 = .ok (.istore_n 1, 1) := by decide +kernel
theorem dX4_runOne_43 : decode cX4_runOne 43 = .ok (.aload_n 0, 1) := by decide +kernel
theorem dX4_runOne_44 : decode cX4_runOne 44 = .ok (.getfield 25, 3) := by decide +kernel
theorem dX4_runOne_47 : decode cX4_runOne 47 = .ok (.aload_n 0, 1) := by decide +kernel
theorem dX4_runOne_48 : decode cX4_runOne 48 = .ok (.getfield 50, 3) := by decide +kernel
theorem dX4_runOne_51 : decode cX4_runOne 51 = .ok (.iconst 1, 1) := by decide +kernel
theorem dX4_runOne_52 : decode cX4_runOne 52 = .ok (.iand, 1) := by decide +kernel
theorem dX4_runOne_53 : decode cX4_runOne 53 = .ok (.iconst 1, 1) := by decide +kernel
theorem dX4_runOne_54 : decode cX4_runOne 54 = .ok (.if_icmp .ne 7, 3) := by decide +kernel
theorem dX4_runOne_57 : decode cX4_runOne 57 = .ok (.iconst 1, 1) := by decide +kernel
theorem dX4_runOne_58 : decode cX4_runOne 58 = .ok (.goto 4, 3) := by decide +kernel
theorem dX4_runOne_61 : decode cX4_runOne 61 = .ok (.iconst 0, 1) := by decide +kernel
theorem dX4_runOne_62 : decode cX4_runOne 62 = .ok (.invokevirtual 131, 3) := by decide +kernel
theorem dX4_runOne_65 : decode cX4_runOne 65 = .ok (.aload_n 0, 1) := by decide +kernel
theorem dX4_runOne_66 : decode cX4_runOne 66 = .ok (.getfield 25, 3) := by decide +kernel
theorem dX4_runOne_69 : decode cX4_runOne 69 = .ok (.invokevirtual 135, 3) := by decide +kernel
theorem dX4_runOne_72 : decode cX4_runOne 72 = .ok (.aload_n 0, 1) := by decide +kernel
theorem dX4_runOne_73 : decode cX4_runOne 73 = .ok (.getfield 46, 3) := by decide +kernel
theorem dX4_runOne_76 : decode cX4_runOne 76 = .ok (.invokevirtual 138, 3) := by decide +kernel
theorem dX4_runOne_79 : decode cX4_runOne 79 = .ok (.aload_n 0, 1) := by decide +kernel
theorem dX4_runOne_80 : decode cX4_runOne 80 = .ok (.dup, 1) := by decide +kernel
theorem dX4_runOne_81 : decode cX4_runOne 81 = .ok (.getfield 50, 3) := by decide +kernel
theorem dX4_runOne_84 : decode cX4_runOne 84 = .ok (.iconst 1, 1) := by decide +kernel
theorem dX4_runOne_85 : decode cX4_runOne 85 = .ok (.iadd, 1) := by decide +kernel
theorem dX4_runOne_86 : decode cX4_runOne 86 = .ok (.putfield 50, 3) := by decide +kernel
theorem dX4_runOne_89 : decode cX4_runOne 89 = .ok (.iload_n 1, 1) := by decide +kernel
theorem dX4_runOne_90 : decode cX4_runOne 90 = .ok (.ireturn, 1) := by decide +kernel
theorem dX5_init_0 : decode cX5_init 0 = .ok (.aload_n 0, 1) := by decide +kernel
theorem dX5_init_1 : decode cX5_init 1 = .ok (.invokespecial 1, 3) := by decide +kernel
theorem dX5_init_4 : decode cX5_init 4 = .ok (.aload_n 0, 1) := by decide +kernel
theorem dX5_init_5 : decode cX5_init 5 = .ok (.bipush 17, 2) := by decide +kernel
theorem dX5_init_7 : decode cX5_init 7 = .ok (.newarray .int, 2) := by decide +kernel
theorem dX5_init_9 : decode cX5_init 9 = .ok (.putfield 7, 3) := by decide +kernel
theorem dX5_init_12 : decode cX5_init 12 = .ok (.aload_n 0, 1) := by decide +kernel
theorem dX5_init_13 : decode cX5_init 13 = .ok (.bipush 17, 2) := by decide +kernel
theorem dX5_init_15 : decode cX5_init 15 = .ok (.newarray .boolean, 2) := by decide +kernel
theorem dX5_init_17 : decode cX5_init 17 = .ok (.putfield 13, 3) := by decide +kernel
theorem dX5_init_20 : decode cX5_init 20 = .ok (.aload_n 0, 1) := by decide +kernel
theorem dX5_init_21 : decode cX5_init 21 = .ok (.bipush 17, 2) := by decide +kernel
theorem dX5_init_23 : decode cX5_init 23 = .ok (.newarray .int, 2) := by decide +kernel
theorem dX5_init_25 : decode cX5_init 25 = .ok (.putfield 17, 3) := by decide +kernel
theorem dX5_init_28 : decode cX5_init 28 = .ok (.aload_n 0, 1) := by decide +kernel
theorem dX5_init_29 : decode cX5_init 29 = .ok (.bipush 17, 2) := by decide +kernel
theorem dX5_init_31 : decode cX5_init 31 = .ok (.newarray .int, 2) := by decide +kernel
theorem dX5_init_33 : decode cX5_init 33 = .ok (.putfield 20, 3) := by decide +kernel
theorem dX5_init_36 : decode cX5_init 36 = .ok (.aload_n 0, 1) := by decide +kernel
theorem dX5_init_37 : decode cX5_init 37 = .ok (.bipush 17, 2) := by decide +kernel
theorem dX5_init_39 : decode cX5_init 39 = .ok (.newarray .int, 2) := by decide +kernel
theorem dX5_init_41 : decode cX5_init 41 = .ok (.putfield 23, 3) := by decide +kernel
theorem dX5_init_44 : decode cX5_init 44 = .ok (.aload_n 0, 1) := by decide +kernel
theorem dX5_init_45 : decode cX5_init 45 = .ok (.bipush 17, 2) := by decide +kernel
theorem dX5_init_47 : decode cX5_init 47 = .ok (.newarray .int, 2) := by decide +kernel
theorem dX5_init_49 : decode cX5_init 49 = .ok (.putfield 26, 3) := by decide +kernel
theorem dX5_init_52 : decode cX5_init 52 = .ok (.aload_n 0, 1) := by decide +kernel
theorem dX5_init_53 : decode cX5_init 53 = .ok (.bipush 17, 2) := by decide +kernel
theorem dX5_init_55 : decode cX5_init 55 = .ok (.newarray .int, 2) := by decide +kernel
theorem dX5_init_57 : decode cX5_init 57 = .ok (.putfield 29, 3) := by decide +kernel
theorem dX5_init_60 : decode cX5_init 60 = .ok (.aload_n 0, 1) := by decide +kernel
theorem dX5_init_61 : decode cX5_init 61 = .ok (.bipush 17, 2) := by decide +kernel
theorem dX5_init_63 : decode cX5_init 63 = .ok (.newarray .int, 2) := by decide +kernel
theorem dX5_init_65 : decode cX5_init 65 = .ok (.putfield 32, 3) := by decide +kernel
theorem dX5_init_68 : decode cX5_init 68 = .ok (.aload_n 0, 1) := by decide +kernel
theorem dX5_init_69 : decode cX5_init 69 = .ok (.bipush 17, 2) := by decide +kernel
theorem dX5_init_71 : decode cX5_init 71 = .ok (.newarray .boolean, 2) := by decide +kernel
theorem dX5_init_73 : decode cX5_init 73 = .ok (.putfield 35, 3) := by decide +kernel
theorem dX5_init_76 : decode cX5_init 76 = .ok (.aload_n 0, 1) := by decide +kernel
theorem dX5_init_77 : decode cX5_init 77 = .ok (.bipush 17, 2) := by decide +kernel
theorem dX5_init_79 : decode cX5_init 79 = .ok (.newarray .int, 2) := by decide +kernel
theorem dX5_init_81 : decode cX5_init 81 = .ok (.putfield 38, 3) := by decide +kernel
theorem dX5_init_84 : decode cX5_init 84 = .ok (.aload_n 0, 1) := by decide +kernel
theorem dX5_init_85 : decode cX5_init 85 = .ok (.bipush 17, 2) := by decide +kernel
theorem dX5_init_87 : decode cX5_init 87 = .ok (.newarray .int, 2) := by decide +kernel
theorem dX5_init_89 : decode cX5_init 89 = .ok (.putfield 41, 3) := by decide +kernel
theorem dX5_init_92 : decode cX5_init 92 = .ok (.aload_n 0, 1) := by decide +kernel
theorem dX5_init_93 : decode cX5_init 93 = .ok (.bipush 100, 2) := by decide +kernel
theorem dX5_init_95 : decode cX5_init 95 = .ok (.newarray .int, 2) := by decide +kernel
theorem dX5_init_97 : decode cX5_init 97 = .ok (.putfield 44, 3) := by decide +kernel
theorem dX5_init_100 : decode cX5_init 100 = .ok (.aload_n 0, 1) := by decide +kernel
theorem dX5_init_101 : decode cX5_init 101 = .ok (.bipush 100, 2) := by decide +kernel
theorem dX5_init_103 : decode cX5_init 103 = .ok (.newarray .int, 2) := by decide +kernel
theorem dX5_init_105 : decode cX5_init 105 = .ok (.putfield 47, 3) := by decide +kernel
theorem dX5_init_108 : decode cX5_init 108 = .ok (.aload_n 0, 1) := by decide +kernel
theorem dX5_init_109 : decode cX5_init 109 = .ok (.bipush 100, 2) := by decide +kernel
theorem dX5_init_111 : decode cX5_init 111 = .ok (.newarray .int, 2) := by decide +kernel
theorem dX5_init_113 : decode cX5_init 113 = .ok (.putfield 50, 3) := by decide +kernel
theorem dX5_init_116 : decode cX5_init 116 = .ok (.aload_n 0, 1) := by decide +kernel
theorem dX5_init_117 : decode cX5_init 117 = .ok (.bipush 100, 2) := by decide +kernel
theorem dX5_init_119 : decode cX5_init 119 = .ok (.newarray .int, 2) := by decide +kernel
theorem dX5_init_121 : decode cX5_init 121 = .ok (.putfield 53, 3) := by decide +kernel
theorem dX5_init_124 : decode cX5_init 124 = .ok (.aload_n 0, 1) := by decide +kernel
theorem dX5_init_125 : decode cX5_init 125 = .ok (.bipush 100, 2) := by decide +kernel
theorem dX5_init_127 : decode cX5_init 127 = .ok (.newarray .int, 2) := by decide +kernel
theorem dX5_init_129 : decode cX5_init 129 = .ok (.putfield 56, 3) := by decide +kernel
theorem dX5_init_132 : decode cX5_init 132 = .ok (.aload_n 0, 1) := by decide +kernel
theorem dX5_init_133 : decode cX5_init 133 = .ok (.bipush 100, 2) := by decide +kernel
theorem dX5_init_135 : decode cX5_init 135 = .ok (.newarray .int, 2) := by decide +kernel
theorem dX5_init_137 : decode cX5_init 137 = .ok (.putfield 59, 3) := by decide +kernel
theorem dX5_init_140 : decode cX5_init 140 = .ok (.aload_n 0, 1) := by decide +kernel
theorem dX5_init_141 : decode cX5_init 141 = .ok (.bipush 100, 2) := by decide +kernel
theorem dX5_init_143 : decode cX5_init 143 = .ok (.newarray .int, 2) := by decide +kernel
theorem dX5_init_145 : decode cX5_init 145 = .ok (.putfield 62, 3) := by decide +kernel
theorem dX5_init_148 : decode cX5_init 148 = .ok (.aload_n 0, 1) := by decide +kernel
theorem dX5_init_149 : decode cX5_init 149 = .ok (.bipush 100, 2) := by decide +kernel
theorem dX5_init_151 : decode cX5_init 151 = .ok (.newarray .int, 2) := by decide +kernel
theorem dX5_init_153 : decode cX5_init 153 = .ok (.putfield 65, 3) := by decide +kernel
theorem dX5_init_156 : decode cX5_init 156 = .ok (.aload_n 0, 1) := by decide +kernel
theorem dX5_init_157 : decode cX5_init 157 = .ok (.bipush 60, 2) := by decide +kernel
theorem dX5_init_159 : decode cX5_init 159 = .ok (.newarray .int, 2) := by decide +kernel
theorem dX5_init_161 : decode cX5_init 161 = .ok (.putfield 68, 3) := by decide +kernel
theorem dX5_init_164 : decode cX5_init 164 = .ok (.aload_n 0, 1) := by decide +kernel
theorem dX5_init_165 : decode cX5_init 165 = .ok (.iload_n 1, 1) := by decide +kernel
theorem dX5_init_166 : decode cX5_init 166 = .ok (.iconst 1, 1) := by decide +kernel
theorem dX5_init_167 : decode cX5_init 167 = .ok (.if_icmp .lt 13, 3) := by decide +kernel
theorem dX5_init_170 : decode cX5_init 170 = .ok (.iload_n 1, 1) := by decide +kernel
theorem dX5_init_171 : decode cX5_init 171 = .ok (.bipush 16, 2) := by decide +kernel
theorem dX5_init_173 : decode cX5_init 173 = .ok (.if_icmp .gt 7, 3) := by decide +kernel
theorem dX5_init_176 : decode cX5_init 176 = .ok (.iload_n 1, 1) := by decide +kernel
theorem dX5_init_177 : decode cX5_init 177 = .ok (.goto 4, 3) := by decide +kernel
theorem dX5_init_180 : decode cX5_init 180 = .ok (.iconst 4, 1) := by decide +kernel
theorem dX5_init_181 : decode cX5_init 181 = .ok (.putfield 71, 3) := by decide +kernel
theorem dX5_init_184 : decode cX5_init 184 = .ok (.aload_n 0, 1) := by decide +kernel
theorem dX5_init_185 : decode cX5_init 185 = .ok (.iload_n 2, 1) := by decide +kernel
theorem dX5_init_186 : decode cX5_init 186 = .ok (.iconst 1, 1) := by decide +kernel
theorem dX5_init_187 : decode cX5_init 187 = .ok (.if_icmp .lt 13, 3) := by decide +kernel
theorem dX5_init_190 : decode cX5_init 190 = .ok (.iload_n 2, 1) := by decide +kernel
theorem dX5_init_191 : decode cX5_init 191 = .ok (.bipush 60, 2) := by decide +kernel
theorem dX5_init_193 : decode cX5_init 193 = .ok (.if_icmp .gt 7, 3) := by decide +kernel
theorem dX5_init_196 : decode cX5_init 196 = .ok (.iload_n 2, 1) := by decide +kernel
theorem dX5_init_197 : decode cX5_init 197 = .ok (.goto 5, 3) := by decide +kernel
theorem dX5_init_200 : decode cX5_init 200 = .ok (.bipush 10, 2) := by decide +kernel
theorem dX5_init_202 : decode cX5_init 202 = .ok (.putfield 75, 3) := by decide +kernel
theorem dX5_init_205 : decode cX5_init 205 = .ok (.aload_n 0, 1) := by decide +kernel
theorem dX5_init_206 : decode cX5_init 206 = .ok (.iload_n 3, 1) := by decide +kernel
theorem dX5_init_207 : decode cX5_init 207 = .ok (.ifCond .lt 13, 3) := by decide +kernel
theorem dX5_init_210 : decode cX5_init 210 = .ok (.iload_n 3, 1) := by decide +kernel
theorem dX5_init_211 : decode cX5_init 211 = .ok (.bipush 60, 2) := by decide +kernel
theorem dX5_init_213 : decode cX5_init 213 = .ok (.if_icmp .gt 7, 3) := by decide +kernel
theorem dX5_init_216 : decode cX5_init 216 = .ok (.iload_n 3, 1) := by decide +kernel
theorem dX5_init_217 : decode cX5_init 217 = .ok (.goto 5, 3) := by decide +kernel
theorem dX5_init_220 : decode cX5_init 220 = .ok (.bipush 20, 2) := by decide +kernel
theorem dX5_init_222 : decode cX5_init 222 = .ok (.putfield 78, 3) := by decide +kernel
theorem dX5_init_225 : decode cX5_init 225 = .ok (.iconst 0, 1) := by decide +kernel
theorem dX5_init_226 : decode cX5_init 226 = .ok (.istore 4, 2) := by decide +kernel
theorem dX5_init_228 : decode cX5_init 228 = .ok (.iload 4, 2) := by decide +kernel
theorem dX5_init_230 : decode cX5_init 230 = .ok (.bipush 17, 2) := by decide +kernel
theorem dX5_init_232 : decode cX5_init 232 = .ok (.if_icmp .ge 18, 3) := by decide +kernel
theorem dX5_init_235 : decode cX5_init 235 = .ok (.aload_n 0, 1) := by decide +kernel
theorem dX5_init_236 : decode cX5_init 236 = .ok (.getfield 29, 3) := by decide +kernel
theorem dX5_init_239 : decode cX5_init 239 = .ok (.iload 4, 2) := by decide +kernel
theorem dX5_init_241 : decode cX5_init 241 = .ok (.bipush (-2), 2) := by decide +kernel
theorem dX5_init_243 : decode cX5_init 243 = .ok (.iastore, 1) := by decide +kernel
theorem dX5_init_244 : decode cX5_init 244 = .ok (.iinc 4 1, 3) := by decide +kernel
theorem dX5_init_247 : decode cX5_init 247 = .ok (.goto (-19), 3) := by decide +kernel
theorem dX5_init_250 : decode cX5_init 250 = .ok (.return_, 1) := by decide +kernel
theorem dX5_thrown_0 : decode cX5_thrown 0 = .ok (.aload_n 0, 1) := by decide +kernel
theorem dX5_thrown_1 : decode cX5_thrown 1 = .ok (.getfield 81, 3) := by decide +kernel
theorem dX5_thrown_4 : decode cX5_thrown 4 = .ok (.ireturn, 1) := by decide +kernel
theorem dX5_isNode_0 : decode cX5_isNode 0 = .ok (.iload_n 1, 1) := by decide +kernel
theorem dX5_isNode_1 : decode cX5_isNode 1 = .ok (.iconst 1, 1) := by decide +kernel
theorem dX5_isNode_2 : decode cX5_isNode 2 = .ok (.if_icmp .lt 15, 3) := by decide +kernel
theorem dX5_isNode_5 : decode cX5_isNode 5 = .ok (.iload_n 1, 1) := by decide +kernel
theorem dX5_isNode_6 : decode cX5_isNode 6 = .ok (.aload_n 0, 1) := by decide +kernel
theorem dX5_isNode_7 : decode cX5_isNode 7 = .ok (.getfield 71, 3) := by decide +kernel
theorem dX5_isNode_10 : decode cX5_isNode 10 = .ok (.if_icmp .gt 7, 3) := by decide +kernel
theorem dX5_isNode_13 : decode cX5_isNode 13 = .ok (.iconst 1, 1) := by decide +kernel
theorem dX5_isNode_14 : decode cX5_isNode 14 = .ok (.goto 4, 3) := by decide +kernel
theorem dX5_isNode_17 : decode cX5_isNode 17 = .ok (.iconst 0, 1) := by decide +kernel
theorem dX5_isNode_18 : decode cX5_isNode 18 = .ok (.ireturn, 1) := by decide +kernel
theorem dX5_isSlot_0 : decode cX5_isSlot 0 = .ok (.iload_n 1, 1) := by decide +kernel
theorem dX5_isSlot_1 : decode cX5_isSlot 1 = .ok (.ifCond .lt 15, 3) := by decide +kernel
theorem dX5_isSlot_4 : decode cX5_isSlot 4 = .ok (.iload_n 1, 1) := by decide +kernel
theorem dX5_isSlot_5 : decode cX5_isSlot 5 = .ok (.aload_n 0, 1) := by decide +kernel
theorem dX5_isSlot_6 : decode cX5_isSlot 6 = .ok (.getfield 75, 3) := by decide +kernel
theorem dX5_isSlot_9 : decode cX5_isSlot 9 = .ok (.if_icmp .ge 7, 3) := by decide +kernel
theorem dX5_isSlot_12 : decode cX5_isSlot 12 = .ok (.iconst 1, 1) := by decide +kernel
theorem dX5_isSlot_13 : decode cX5_isSlot 13 = .ok (.goto 4, 3) := by decide +kernel
theorem dX5_isSlot_16 : decode cX5_isSlot 16 = .ok (.iconst 0, 1) := by decide +kernel
theorem dX5_isSlot_17 : decode cX5_isSlot 17 = .ok (.ireturn, 1) := by decide +kernel
theorem dX5_frame_0 : decode cX5_frame 0 = .ok (.aload_n 0, 1) := by decide +kernel
theorem dX5_frame_1 : decode cX5_frame 1 = .ok (.iconst 0, 1) := by decide +kernel
theorem dX5_frame_2 : decode cX5_frame 2 = .ok (.putfield 81, 3) := by decide +kernel
theorem dX5_frame_5 : decode cX5_frame 5 = .ok (.aload_n 0, 1) := by decide +kernel
theorem dX5_frame_6 : decode cX5_frame 6 = .ok (.iload_n 1, 1) := by decide +kernel
theorem dX5_frame_7 : decode cX5_frame 7 = .ok (.invokevirtual 84, 3) := by decide +kernel
theorem dX5_frame_10 : decode cX5_frame 10 = .ok (.ifCond .eq 11, 3) := by decide +kernel
theorem dX5_frame_13 : decode cX5_frame 13 = .ok (.aload_n 0, 1) := by decide +kernel
theorem dX5_frame_14 : decode cX5_frame 14 = .ok (.iload_n 2, 1) := by decide +kernel
theorem dX5_frame_15 : decode cX5_frame 15 = .ok (.invokevirtual 88, 3) := by decide +kernel
theorem dX5_frame_18 : decode cX5_frame 18 = .ok (.ifCond .ne 5, 3) := by decide +kernel
theorem dX5_frame_21 : decode cX5_frame 21 = .ok (.iconst (-1), 1) := by decide +kernel
theorem dX5_frame_22 : decode cX5_frame 22 = .ok (.ireturn, 1) := by decide +kernel
theorem dX5_frame_23 : decode cX5_frame 23 = .ok (.iload 5, 2) := by decide +kernel
theorem dX5_frame_25 : decode cX5_frame 25 = .ok (.iconst 1, 1) := by decide +kernel
theorem dX5_frame_26 : decode cX5_frame 26 = .ok (.if_icmp .eq 43, 3) := by decide +kernel
theorem dX5_frame_29 : decode cX5_frame 29 = .ok (.iload 5, 2) := by decide +kernel
theorem dX5_frame_31 : decode cX5_frame 31 = .ok (.iconst 2, 1) := by decide +kernel
theorem dX5_frame_32 : decode cX5_frame 32 = .ok (.if_icmp .eq 37, 3) := by decide +kernel
theorem dX5_frame_35 : decode cX5_frame 35 = .ok (.iload 5, 2) := by decide +kernel
theorem dX5_frame_37 : decode cX5_frame 37 = .ok (.iconst 4, 1) := by decide +kernel
theorem dX5_frame_38 : decode cX5_frame 38 = .ok (.if_icmp .eq 31, 3) := by decide +kernel
theorem dX5_frame_41 : decode cX5_frame 41 = .ok (.iload 5, 2) := by decide +kernel
theorem dX5_frame_43 : decode cX5_frame 43 = .ok (.bipush 8, 2) := by decide +kernel
theorem dX5_frame_45 : decode cX5_frame 45 = .ok (.if_icmp .eq 24, 3) := by decide +kernel
theorem dX5_frame_48 : decode cX5_frame 48 = .ok (.iload 5, 2) := by decide +kernel
theorem dX5_frame_50 : decode cX5_frame 50 = .ok (.bipush 16, 2) := by decide +kernel
theorem dX5_frame_52 : decode cX5_frame 52 = .ok (.if_icmp .eq 17, 3) := by decide +kernel
theorem dX5_frame_55 : decode cX5_frame 55 = .ok (.iload 5, 2) := by decide +kernel
theorem dX5_frame_57 : decode cX5_frame 57 = .ok (.bipush 32, 2) := by decide +kernel
theorem dX5_frame_59 : decode cX5_frame 59 = .ok (.if_icmp .eq 10, 3) := by decide +kernel
theorem dX5_frame_62 : decode cX5_frame 62 = .ok (.iload 5, 2) := by decide +kernel
theorem dX5_frame_64 : decode cX5_frame 64 = .ok (.bipush 64, 2) := by decide +kernel
theorem dX5_frame_66 : decode cX5_frame 66 = .ok (.if_icmp .ne 7, 3) := by decide +kernel
theorem dX5_frame_69 : decode cX5_frame 69 = .ok (.iconst 1, 1) := by decide +kernel
theorem dX5_frame_70 : decode cX5_frame 70 = .ok (.goto 4, 3) := by decide +kernel
theorem dX5_frame_73 : decode cX5_frame 73 = .ok (.iconst 0, 1) := by decide +kernel
theorem dX5_frame_74 : decode cX5_frame 74 = .ok (.istore 6, 2) := by decide +kernel
theorem dX5_frame_76 : decode cX5_frame 76 = .ok (.iload_n 3, 1) := by decide +kernel
theorem dX5_frame_77 : decode cX5_frame 77 = .ok (.iconst 1, 1) := by decide +kernel
theorem dX5_frame_78 : decode cX5_frame 78 = .ok (.if_icmp .lt 25, 3) := by decide +kernel
theorem dX5_frame_81 : decode cX5_frame 81 = .ok (.iload_n 3, 1) := by decide +kernel
theorem dX5_frame_82 : decode cX5_frame 82 = .ok (.iconst 3, 1) := by decide +kernel
theorem dX5_frame_83 : decode cX5_frame 83 = .ok (.if_icmp .gt 20, 3) := by decide +kernel
theorem dX5_frame_86 : decode cX5_frame 86 = .ok (.iload 6, 2) := by decide +kernel
theorem dX5_frame_88 : decode cX5_frame 88 = .ok (.ifCond .eq 15, 3) := by decide +kernel
theorem dX5_frame_91 : decode cX5_frame 91 = .ok (.iload 4, 2) := by decide +kernel
theorem dX5_frame_93 : decode cX5_frame 93 = .ok (.ifCond .lt 10, 3) := by decide +kernel
theorem dX5_frame_96 : decode cX5_frame 96 = .ok (.iload 4, 2) := by decide +kernel
theorem dX5_frame_98 : decode cX5_frame 98 = .ok (.iload 5, 2) := by decide +kernel
theorem dX5_frame_100 : decode cX5_frame 100 = .ok (.if_icmp .lt 6, 3) := by decide +kernel
theorem dX5_frame_103 : decode cX5_frame 103 = .ok (.bipush (-2), 2) := by decide +kernel
theorem dX5_frame_105 : decode cX5_frame 105 = .ok (.ireturn, 1) := by decide +kernel
theorem dX5_frame_106 : decode cX5_frame 106 = .ok (.iconst 0, 1) := by decide +kernel
theorem dX5_frame_107 : decode cX5_frame 107 = .ok (.istore 7, 2) := by decide +kernel
theorem dX5_frame_109 : decode cX5_frame 109 = .ok (.iload 7, 2) := by decide +kernel
theorem dX5_frame_111 : decode cX5_frame 111 = .ok (.aload_n 0, 1) := by decide +kernel
theorem dX5_frame_112 : decode cX5_frame 112 = .ok (.getfield 91, 3) := by decide +kernel
theorem dX5_frame_115 : decode cX5_frame 115 = .ok (.if_icmp .ge 79, 3) := by decide +kernel
theorem dX5_frame_118 : decode cX5_frame 118 = .ok (.iload 5, 2) := by decide +kernel
theorem dX5_frame_120 : decode cX5_frame 120 = .ok (.aload_n 0, 1) := by decide +kernel
theorem dX5_frame_121 : decode cX5_frame 121 = .ok (.getfield 56, 3) := by decide +kernel
theorem dX5_frame_124 : decode cX5_frame 124 = .ok (.iload 7, 2) := by decide +kernel
theorem dX5_frame_126 : decode cX5_frame 126 = .ok (.iaload, 1) := by decide +kernel
theorem dX5_frame_127 : decode cX5_frame 127 = .ok (.if_icmp .ge 8, 3) := by decide +kernel
theorem dX5_frame_130 : decode cX5_frame 130 = .ok (.iload 5, 2) := by decide +kernel
theorem dX5_frame_132 : decode cX5_frame 132 = .ok (.goto 10, 3) := by decide +kernel
theorem dX5_frame_135 : decode cX5_frame 135 = .ok (.aload_n 0, 1) := by decide +kernel
theorem dX5_frame_136 : decode cX5_frame 136 = .ok (.getfield 56, 3) := by decide +kernel
theorem dX5_frame_139 : decode cX5_frame 139 = .ok (.iload 7, 2) := by decide +kernel
theorem dX5_frame_141 : decode cX5_frame 141 = .ok (.iaload, 1) := by decide +kernel
theorem dX5_frame_142 : decode cX5_frame 142 = .ok (.istore 8, 2) := by decide +kernel
theorem dX5_frame_144 : decode cX5_frame 144 = .ok (.aload_n 0, 1) := by decide +kernel
theorem dX5_frame_145 : decode cX5_frame 145 = .ok (.getfield 47, 3) := by decide +kernel
theorem dX5_frame_148 : decode cX5_frame 148 = .ok (.iload 7, 2) := by decide +kernel
theorem dX5_frame_150 : decode cX5_frame 150 = .ok (.iaload, 1) := by decide +kernel
theorem dX5_frame_151 : decode cX5_frame 151 = .ok (.iload_n 2, 1) := by decide +kernel
theorem dX5_frame_152 : decode cX5_frame 152 = .ok (.if_icmp .ne 36, 3) := by decide +kernel
theorem dX5_frame_155 : decode cX5_frame 155 = .ok (.aload_n 0, 1) := by decide +kernel
theorem dX5_frame_156 : decode cX5_frame 156 = .ok (.getfield 50, 3) := by decide +kernel
theorem dX5_frame_159 : decode cX5_frame 159 = .ok (.iload 7, 2) := by decide +kernel
theorem dX5_frame_161 : decode cX5_frame 161 = .ok (.iaload, 1) := by decide +kernel
theorem dX5_frame_162 : decode cX5_frame 162 = .ok (.iload_n 3, 1) := by decide +kernel
theorem dX5_frame_163 : decode cX5_frame 163 = .ok (.iand, 1) := by decide +kernel
theorem dX5_frame_164 : decode cX5_frame 164 = .ok (.ifCond .eq 24, 3) := by decide +kernel
theorem dX5_frame_167 : decode cX5_frame 167 = .ok (.iload 4, 2) := by decide +kernel
theorem dX5_frame_169 : decode cX5_frame 169 = .ok (.iload 8, 2) := by decide +kernel
theorem dX5_frame_171 : decode cX5_frame 171 = .ok (.irem, 1) := by decide +kernel
theorem dX5_frame_172 : decode cX5_frame 172 = .ok (.aload_n 0, 1) := by decide +kernel
theorem dX5_frame_173 : decode cX5_frame 173 = .ok (.getfield 53, 3) := by decide +kernel
theorem dX5_frame_176 : decode cX5_frame 176 = .ok (.iload 7, 2) := by decide +kernel
theorem dX5_frame_178 : decode cX5_frame 178 = .ok (.iaload, 1) := by decide +kernel
theorem dX5_frame_179 : decode cX5_frame 179 = .ok (.iload 8, 2) := by decide +kernel
theorem dX5_frame_181 : decode cX5_frame 181 = .ok (.irem, 1) := by decide +kernel
theorem dX5_frame_182 : decode cX5_frame 182 = .ok (.if_icmp .ne 6, 3) := by decide +kernel
theorem dX5_frame_185 : decode cX5_frame 185 = .ok (.bipush (-3), 2) := by decide +kernel
theorem dX5_frame_187 : decode cX5_frame 187 = .ok (.ireturn, 1) := by decide +kernel
theorem dX5_frame_188 : decode cX5_frame 188 = .ok (.iinc 7 1, 3) := by decide +kernel
theorem dX5_frame_191 : decode cX5_frame 191 = .ok (.goto (-82), 3) := by decide +kernel
theorem dX5_frame_194 : decode cX5_frame 194 = .ok (.aload_n 0, 1) := by decide +kernel
theorem dX5_frame_195 : decode cX5_frame 195 = .ok (.getfield 91, 3) := by decide +kernel
theorem dX5_frame_198 : decode cX5_frame 198 = .ok (.bipush 100, 2) := by decide +kernel
theorem dX5_frame_200 : decode cX5_frame 200 = .ok (.if_icmp .ne 6, 3) := by decide +kernel
theorem dX5_frame_203 : decode cX5_frame 203 = .ok (.bipush (-4), 2) := by decide +kernel
theorem dX5_frame_205 : decode cX5_frame 205 = .ok (.ireturn, 1) := by decide +kernel
theorem dX5_frame_206 : decode cX5_frame 206 = .ok (.aload_n 0, 1) := by decide +kernel
theorem dX5_frame_207 : decode cX5_frame 207 = .ok (.getfield 44, 3) := by decide +kernel
theorem dX5_frame_210 : decode cX5_frame 210 = .ok (.aload_n 0, 1) := by decide +kernel
theorem dX5_frame_211 : decode cX5_frame 211 = .ok (.getfield 91, 3) := by decide +kernel
theorem dX5_frame_214 : decode cX5_frame 214 = .ok (.iload_n 1, 1) := by decide +kernel
theorem dX5_frame_215 : decode cX5_frame 215 = .ok (.iastore, 1) := by decide +kernel
theorem dX5_frame_216 : decode cX5_frame 216 = .ok (.aload_n 0, 1) := by decide +kernel
theorem dX5_frame_217 : decode cX5_frame 217 = .ok (.getfield 47, 3) := by decide +kernel
theorem dX5_frame_220 : decode cX5_frame 220 = .ok (.aload_n 0, 1) := by decide +kernel
theorem dX5_frame_221 : decode cX5_frame 221 = .ok (.getfield 91, 3) := by decide +kernel
theorem dX5_frame_224 : decode cX5_frame 224 = .ok (.iload_n 2, 1) := by decide +kernel
theorem dX5_frame_225 : decode cX5_frame 225 = .ok (.iastore, 1) := by decide +kernel
theorem dX5_frame_226 : decode cX5_frame 226 = .ok (.aload_n 0, 1) := by decide +kernel
theorem dX5_frame_227 : decode cX5_frame 227 = .ok (.getfield 50, 3) := by decide +kernel
theorem dX5_frame_230 : decode cX5_frame 230 = .ok (.aload_n 0, 1) := by decide +kernel
theorem dX5_frame_231 : decode cX5_frame 231 = .ok (.getfield 91, 3) := by decide +kernel
theorem dX5_frame_234 : decode cX5_frame 234 = .ok (.iload_n 3, 1) := by decide +kernel
theorem dX5_frame_235 : decode cX5_frame 235 = .ok (.iastore, 1) := by decide +kernel
theorem dX5_frame_236 : decode cX5_frame 236 = .ok (.aload_n 0, 1) := by decide +kernel
theorem dX5_frame_237 : decode cX5_frame 237 = .ok (.getfield 53, 3) := by decide +kernel
theorem dX5_frame_240 : decode cX5_frame 240 = .ok (.aload_n 0, 1) := by decide +kernel
theorem dX5_frame_241 : decode cX5_frame 241 = .ok (.getfield 91, 3) := by decide +kernel
theorem dX5_frame_244 : decode cX5_frame 244 = .ok (.iload 4, 2) := by decide +kernel
theorem dX5_frame_246 : decode cX5_frame 246 = .ok (.iastore, 1) := by decide +kernel
theorem dX5_frame_247 : decode cX5_frame 247 = .ok (.aload_n 0, 1) := by decide +kernel
theorem dX5_frame_248 : decode cX5_frame 248 = .ok (.getfield 56, 3) := by decide +kernel
theorem dX5_frame_251 : decode cX5_frame 251 = .ok (.aload_n 0, 1) := by decide +kernel
theorem dX5_frame_252 : decode cX5_frame 252 = .ok (.getfield 91, 3) := by decide +kernel
theorem dX5_frame_255 : decode cX5_frame 255 = .ok (.iload 5, 2) := by decide +kernel
theorem dX5_frame_257 : decode cX5_frame 257 = .ok (.iastore, 1) := by decide +kernel
theorem dX5_frame_258 : decode cX5_frame 258 = .ok (.aload_n 0, 1) := by decide +kernel
theorem dX5_frame_259 : decode cX5_frame 259 = .ok (.dup, 1) := by decide +kernel
theorem dX5_frame_260 : decode cX5_frame 260 = .ok (.getfield 91, 3) := by decide +kernel
theorem dX5_frame_263 : decode cX5_frame 263 = .ok (.iconst 1, 1) := by decide +kernel
theorem dX5_frame_264 : decode cX5_frame 264 = .ok (.iadd, 1) := by decide +kernel
theorem dX5_frame_265 : decode cX5_frame 265 = .ok (.putfield 91, 3) := by decide +kernel
theorem dX5_frame_268 : decode cX5_frame 268 = .ok (.aload_n 0, 1) := by decide +kernel
theorem dX5_frame_269 : decode cX5_frame 269 = .ok (.getfield 91, 3) := by decide +kernel
theorem dX5_frame_272 : decode cX5_frame 272 = .ok (.ireturn, 1) := by decide +kernel
theorem dX5_dynamic_0 : decode cX5_dynamic 0 = .ok (.aload_n 0, 1) := by decide +kernel
theorem dX5_dynamic_1 : decode cX5_dynamic 1 = .ok (.iconst 0, 1) := by decide +kernel
theorem dX5_dynamic_2 : decode cX5_dynamic 2 = .ok (.putfield 81, 3) := by decide +kernel
theorem dX5_dynamic_5 : decode cX5_dynamic 5 = .ok (.aload_n 0, 1) := by decide +kernel
theorem dX5_dynamic_6 : decode cX5_dynamic 6 = .ok (.iload_n 1, 1) := by decide +kernel
theorem dX5_dynamic_7 : decode cX5_dynamic 7 = .ok (.invokevirtual 84, 3) := by decide +kernel
theorem dX5_dynamic_10 : decode cX5_dynamic 10 = .ok (.ifCond .ne 5, 3) := by decide +kernel
theorem dX5_dynamic_13 : decode cX5_dynamic 13 = .ok (.iconst (-1), 1) := by decide +kernel
theorem dX5_dynamic_14 : decode cX5_dynamic 14 = .ok (.ireturn, 1) := by decide +kernel
theorem dX5_dynamic_15 : decode cX5_dynamic 15 = .ok (.iload_n 2, 1) := by decide +kernel
theorem dX5_dynamic_16 : decode cX5_dynamic 16 = .ok (.iconst 1, 1) := by decide +kernel
theorem dX5_dynamic_17 : decode cX5_dynamic 17 = .ok (.if_icmp .lt 20, 3) := by decide +kernel
theorem dX5_dynamic_20 : decode cX5_dynamic 20 = .ok (.iload_n 2, 1) := by decide +kernel
theorem dX5_dynamic_21 : decode cX5_dynamic 21 = .ok (.bipush 60, 2) := by decide +kernel
theorem dX5_dynamic_23 : decode cX5_dynamic 23 = .ok (.if_icmp .gt 14, 3) := by decide +kernel
theorem dX5_dynamic_26 : decode cX5_dynamic 26 = .ok (.iload_n 3, 1) := by decide +kernel
theorem dX5_dynamic_27 : decode cX5_dynamic 27 = .ok (.iconst 1, 1) := by decide +kernel
theorem dX5_dynamic_28 : decode cX5_dynamic 28 = .ok (.if_icmp .lt 9, 3) := by decide +kernel
theorem dX5_dynamic_31 : decode cX5_dynamic 31 = .ok (.iload_n 3, 1) := by decide +kernel
theorem dX5_dynamic_32 : decode cX5_dynamic 32 = .ok (.bipush 60, 2) := by decide +kernel
theorem dX5_dynamic_34 : decode cX5_dynamic 34 = .ok (.if_icmp .le 6, 3) := by decide +kernel
theorem dX5_dynamic_37 : decode cX5_dynamic 37 = .ok (.bipush (-2), 2) := by decide +kernel
theorem dX5_dynamic_39 : decode cX5_dynamic 39 = .ok (.ireturn, 1) := by decide +kernel
theorem dX5_dynamic_40 : decode cX5_dynamic 40 = .ok (.aload_n 0, 1) := by decide +kernel
theorem dX5_dynamic_41 : decode cX5_dynamic 41 = .ok (.getfield 94, 3) := by decide +kernel
theorem dX5_dynamic_44 : decode cX5_dynamic 44 = .ok (.bipush 100, 2) := by decide +kernel
theorem dX5_dynamic_46 : decode cX5_dynamic 46 = .ok (.if_icmp .ne 6, 3) := by decide +kernel
theorem dX5_dynamic_49 : decode cX5_dynamic 49 = .ok (.bipush (-4), 2) := by decide +kernel
theorem dX5_dynamic_51 : decode cX5_dynamic 51 = .ok (.ireturn, 1) := by decide +kernel
theorem dX5_dynamic_52 : decode cX5_dynamic 52 = .ok (.aload_n 0, 1) := by decide +kernel
theorem dX5_dynamic_53 : decode cX5_dynamic 53 = .ok (.getfield 59, 3) := by decide +kernel
theorem dX5_dynamic_56 : decode cX5_dynamic 56 = .ok (.aload_n 0, 1) := by decide +kernel
theorem dX5_dynamic_57 : decode cX5_dynamic 57 = .ok (.getfield 94, 3) := by decide +kernel
theorem dX5_dynamic_60 : decode cX5_dynamic 60 = .ok (.iload_n 1, 1) := by decide +kernel
theorem dX5_dynamic_61 : decode cX5_dynamic 61 = .ok (.iastore, 1) := by decide +kernel
theorem dX5_dynamic_62 : decode cX5_dynamic 62 = .ok (.aload_n 0, 1) := by decide +kernel
theorem dX5_dynamic_63 : decode cX5_dynamic 63 = .ok (.getfield 62, 3) := by decide +kernel
theorem dX5_dynamic_66 : decode cX5_dynamic 66 = .ok (.aload_n 0, 1) := by decide +kernel
theorem dX5_dynamic_67 : decode cX5_dynamic 67 = .ok (.getfield 94, 3) := by decide +kernel
theorem dX5_dynamic_70 : decode cX5_dynamic 70 = .ok (.iload_n 2, 1) := by decide +kernel
theorem dX5_dynamic_71 : decode cX5_dynamic 71 = .ok (.iastore, 1) := by decide +kernel
theorem dX5_dynamic_72 : decode cX5_dynamic 72 = .ok (.aload_n 0, 1) := by decide +kernel
theorem dX5_dynamic_73 : decode cX5_dynamic 73 = .ok (.getfield 65, 3) := by decide +kernel
theorem dX5_dynamic_76 : decode cX5_dynamic 76 = .ok (.aload_n 0, 1) := by decide +kernel
theorem dX5_dynamic_77 : decode cX5_dynamic 77 = .ok (.getfield 94, 3) := by decide +kernel
theorem dX5_dynamic_80 : decode cX5_dynamic 80 = .ok (.iload_n 3, 1) := by decide +kernel
theorem dX5_dynamic_81 : decode cX5_dynamic 81 = .ok (.iastore, 1) := by decide +kernel
theorem dX5_dynamic_82 : decode cX5_dynamic 82 = .ok (.aload_n 0, 1) := by decide +kernel
theorem dX5_dynamic_83 : decode cX5_dynamic 83 = .ok (.dup, 1) := by decide +kernel
theorem dX5_dynamic_84 : decode cX5_dynamic 84 = .ok (.getfield 94, 3) := by decide +kernel
theorem dX5_dynamic_87 : decode cX5_dynamic 87 = .ok (.iconst 1, 1) := by decide +kernel
theorem dX5_dynamic_88 : decode cX5_dynamic 88 = .ok (.iadd, 1) := by decide +kernel
theorem dX5_dynamic_89 : decode cX5_dynamic 89 = .ok (.putfield 94, 3) := by decide +kernel
theorem dX5_dynamic_92 : decode cX5_dynamic 92 = .ok (.aload_n 0, 1) := by decide +kernel
theorem dX5_dynamic_93 : decode cX5_dynamic 93 = .ok (.getfield 94, 3) := by decide +kernel
theorem dX5_dynamic_96 : decode cX5_dynamic 96 = .ok (.ireturn, 1) := by decide +kernel
theorem dX5_drift_0 : decode cX5_drift 0 = .ok (.aload_n 0, 1) := by decide +kernel
theorem dX5_drift_1 : decode cX5_drift 1 = .ok (.iconst 0, 1) := by decide +kernel
theorem dX5_drift_2 : decode cX5_drift 2 = .ok (.putfield 81, 3) := by decide +kernel
theorem dX5_drift_5 : decode cX5_drift 5 = .ok (.aload_n 0, 1) := by decide +kernel
theorem dX5_drift_6 : decode cX5_drift 6 = .ok (.iload_n 1, 1) := by decide +kernel
theorem dX5_drift_7 : decode cX5_drift 7 = .ok (.invokevirtual 84, 3) := by decide +kernel
theorem dX5_drift_10 : decode cX5_drift 10 = .ok (.ifCond .ne 5, 3) := by decide +kernel
theorem dX5_drift_13 : decode cX5_drift 13 = .ok (.iconst (-1), 1) := by decide +kernel
theorem dX5_drift_14 : decode cX5_drift 14 = .ok (.ireturn, 1) := by decide +kernel
theorem dX5_drift_15 : decode cX5_drift 15 = .ok (.iload_n 2, 1) := by decide +kernel
theorem dX5_drift_16 : decode cX5_drift 16 = .ok (.sipush (-200), 3) := by decide +kernel
theorem dX5_drift_19 : decode cX5_drift 19 = .ok (.if_icmp .lt 10, 3) := by decide +kernel
theorem dX5_drift_22 : decode cX5_drift 22 = .ok (.iload_n 2, 1) := by decide +kernel
theorem dX5_drift_23 : decode cX5_drift 23 = .ok (.sipush 200, 3) := by decide +kernel
theorem dX5_drift_26 : decode cX5_drift 26 = .ok (.if_icmp .le 6, 3) := by decide +kernel
theorem dX5_drift_29 : decode cX5_drift 29 = .ok (.bipush (-2), 2) := by decide +kernel
theorem dX5_drift_31 : decode cX5_drift 31 = .ok (.ireturn, 1) := by decide +kernel
theorem dX5_drift_32 : decode cX5_drift 32 = .ok (.aload_n 0, 1) := by decide +kernel
theorem dX5_drift_33 : decode cX5_drift 33 = .ok (.getfield 20, 3) := by decide +kernel
theorem dX5_drift_36 : decode cX5_drift 36 = .ok (.iload_n 1, 1) := by decide +kernel
theorem dX5_drift_37 : decode cX5_drift 37 = .ok (.iload_n 2, 1) := by decide +kernel
theorem dX5_drift_38 : decode cX5_drift 38 = .ok (.iastore, 1) := by decide +kernel
theorem dX5_drift_39 : decode cX5_drift 39 = .ok (.iconst 1, 1) := by decide +kernel
theorem dX5_drift_40 : decode cX5_drift 40 = .ok (.ireturn, 1) := by decide +kernel
theorem dX5_startUp_0 : decode cX5_startUp 0 = .ok (.iconst 0, 1) := by decide +kernel
theorem dX5_startUp_1 : decode cX5_startUp 1 = .ok (.istore_n 1, 1) := by decide +kernel
theorem dX5_startUp_2 : decode cX5_startUp 2 = .ok (.iconst 0, 1) := by decide +kernel
theorem dX5_startUp_3 : decode cX5_startUp 3 = .ok (.istore_n 2, 1) := by decide +kernel
theorem dX5_startUp_4 : decode cX5_startUp 4 = .ok (.aload_n 0, 1) := by decide +kernel
theorem dX5_startUp_5 : decode cX5_startUp 5 = .ok (.getfield 71, 3) := by decide +kernel
theorem dX5_startUp_8 : decode cX5_startUp 8 = .ok (.istore_n 3, 1) := by decide +kernel
theorem dX5_startUp_9 : decode cX5_startUp 9 = .ok (.iload_n 3, 1) := by decide +kernel
theorem dX5_startUp_10 : decode cX5_startUp 10 = .ok (.ifCond .le 52, 3) := by decide +kernel
theorem dX5_startUp_13 : decode cX5_startUp 13 = .ok (.aload_n 0, 1) := by decide +kernel
theorem dX5_startUp_14 : decode cX5_startUp 14 = .ok (.getfield 7, 3) := by decide +kernel
theorem dX5_startUp_17 : decode cX5_startUp 17 = .ok (.iload_n 3, 1) := by decide +kernel
theorem dX5_startUp_18 : decode cX5_startUp 18 = .ok (.iaload, 1) := by decide +kernel
theorem dX5_startUp_19 : decode cX5_startUp 19 = .ok (.iconst 2, 1) := by decide +kernel
theorem dX5_startUp_20 : decode cX5_startUp 20 = .ok (.if_icmp .ne 7, 3) := by decide +kernel
theorem dX5_startUp_23 : decode cX5_startUp 23 = .ok (.iload_n 3, 1) := by decide +kernel
theorem dX5_startUp_24 : decode cX5_startUp 24 = .ok (.goto 4, 3) := by decide +kernel
theorem dX5_startUp_27 : decode cX5_startUp 27 = .ok (.iload_n 1, 1) := by decide +kernel
theorem dX5_startUp_28 : decode cX5_startUp 28 = .ok (.istore_n 1, 1) := by decide +kernel
theorem dX5_startUp_29 : decode cX5_startUp 29 = .ok (.iload_n 2, 1) := by decide +kernel
theorem dX5_startUp_30 : decode cX5_startUp 30 = .ok (.aload_n 0, 1) := by decide +kernel
theorem dX5_startUp_31 : decode cX5_startUp 31 = .ok (.getfield 13, 3) := by decide +kernel
theorem dX5_startUp_34 : decode cX5_startUp 34 = .ok (.iload_n 3, 1) := by decide +kernel
theorem dX5_startUp_35 : decode cX5_startUp 35 = .ok (.baload, 1) := by decide +kernel
theorem dX5_startUp_36 : decode cX5_startUp 36 = .ok (.ifCond .eq 17, 3) := by decide +kernel
theorem dX5_startUp_39 : decode cX5_startUp 39 = .ok (.aload_n 0, 1) := by decide +kernel
theorem dX5_startUp_40 : decode cX5_startUp 40 = .ok (.getfield 7, 3) := by decide +kernel
theorem dX5_startUp_43 : decode cX5_startUp 43 = .ok (.iload_n 3, 1) := by decide +kernel
theorem dX5_startUp_44 : decode cX5_startUp 44 = .ok (.iaload, 1) := by decide +kernel
theorem dX5_startUp_45 : decode cX5_startUp 45 = .ok (.iconst 2, 1) := by decide +kernel
theorem dX5_startUp_46 : decode cX5_startUp 46 = .ok (.if_icmp .ge 7, 3) := by decide +kernel
theorem dX5_startUp_49 : decode cX5_startUp 49 = .ok (.iconst 1, 1) := by decide +kernel
theorem dX5_startUp_50 : decode cX5_startUp 50 = .ok (.goto 4, 3) := by decide +kernel
theorem dX5_startUp_53 : decode cX5_startUp 53 = .ok (.iconst 0, 1) := by decide +kernel
theorem dX5_startUp_54 : decode cX5_startUp 54 = .ok (.iadd, 1) := by decide +kernel
theorem dX5_startUp_55 : decode cX5_startUp 55 = .ok (.istore_n 2, 1) := by decide +kernel
theorem dX5_startUp_56 : decode cX5_startUp 56 = .ok (.iinc 3 (-1), 3) := by decide +kernel
theorem dX5_startUp_59 : decode cX5_startUp 59 = .ok (.goto (-50), 3) := by decide +kernel
theorem dX5_startUp_62 : decode cX5_startUp 62 = .ok (.aload_n 0, 1) := by decide +kernel
theorem dX5_startUp_63 : decode cX5_startUp 63 = .ok (.getfield 17, 3) := by decide +kernel
theorem dX5_startUp_66 : decode cX5_startUp 66 = .ok (.iload_n 1, 1) := by decide +kernel
theorem dX5_startUp_67 : decode cX5_startUp 67 = .ok (.iaload, 1) := by decide +kernel
theorem dX5_startUp_68 : decode cX5_startUp 68 = .ok (.istore_n 3, 1) := by decide +kernel
theorem dX5_startUp_69 : decode cX5_startUp 69 = .ok (.iconst 1, 1) := by decide +kernel
theorem dX5_startUp_70 : decode cX5_startUp 70 = .ok (.istore 4, 2) := by decide +kernel
theorem dX5_startUp_72 : decode cX5_startUp 72 = .ok (.iload 4, 2) := by decide +kernel
theorem dX5_startUp_74 : decode cX5_startUp 74 = .ok (.aload_n 0, 1) := by decide +kernel
theorem dX5_startUp_75 : decode cX5_startUp 75 = .ok (.getfield 71, 3) := by decide +kernel
theorem dX5_startUp_78 : decode cX5_startUp 78 = .ok (.if_icmp .gt 138, 3) := by decide +kernel
theorem dX5_startUp_81 : decode cX5_startUp 81 = .ok (.iload_n 1, 1) := by decide +kernel
theorem dX5_startUp_82 : decode cX5_startUp 82 = .ok (.ifCond .ne 50, 3) := by decide +kernel
theorem dX5_startUp_85 : decode cX5_startUp 85 = .ok (.aload_n 0, 1) := by decide +kernel
theorem dX5_startUp_86 : decode cX5_startUp 86 = .ok (.getfield 7, 3) := by decide +kernel
theorem dX5_startUp_89 : decode cX5_startUp 89 = .ok (.iload 4, 2) := by decide +kernel
theorem dX5_startUp_91 : decode cX5_startUp 91 = .ok (.iload_n 2, 1) := by decide +kernel
theorem dX5_startUp_92 : decode cX5_startUp 92 = .ok (.iconst 1, 1) := by decide +kernel
theorem dX5_startUp_93 : decode cX5_startUp 93 = .ok (.if_icmp .le 28, 3) := by decide +kernel
theorem dX5_startUp_96 : decode cX5_startUp 96 = .ok (.aload_n 0, 1) := by decide +kernel
theorem dX5_startUp_97 : decode cX5_startUp 97 = .ok (.getfield 13, 3) := by decide +kernel
theorem dX5_startUp_100 : decode cX5_startUp 100 = .ok (.iload 4, 2) := by decide +kernel
theorem dX5_startUp_102 : decode cX5_startUp 102 = .ok (.baload, 1) := by decide +kernel
theorem dX5_startUp_103 : decode cX5_startUp 103 = .ok (.ifCond .eq 18, 3) := by decide +kernel
theorem dX5_startUp_106 : decode cX5_startUp 106 = .ok (.aload_n 0, 1) := by decide +kernel
theorem dX5_startUp_107 : decode cX5_startUp 107 = .ok (.getfield 7, 3) := by decide +kernel
theorem dX5_startUp_110 : decode cX5_startUp 110 = .ok (.iload 4, 2) := by decide +kernel
theorem dX5_startUp_112 : decode cX5_startUp 112 = .ok (.iaload, 1) := by decide +kernel
theorem dX5_startUp_113 : decode cX5_startUp 113 = .ok (.iconst 2, 1) := by decide +kernel
theorem dX5_startUp_114 : decode cX5_startUp 114 = .ok (.if_icmp .ge 7, 3) := by decide +kernel
theorem dX5_startUp_117 : decode cX5_startUp 117 = .ok (.iconst 2, 1) := by decide +kernel
theorem dX5_startUp_118 : decode cX5_startUp 118 = .ok (.goto 10, 3) := by decide +kernel
theorem dX5_startUp_121 : decode cX5_startUp 121 = .ok (.aload_n 0, 1) := by decide +kernel
theorem dX5_startUp_122 : decode cX5_startUp 122 = .ok (.getfield 7, 3) := by decide +kernel
theorem dX5_startUp_125 : decode cX5_startUp 125 = .ok (.iload 4, 2) := by decide +kernel
theorem dX5_startUp_127 : decode cX5_startUp 127 = .ok (.iaload, 1) := by decide +kernel
theorem dX5_startUp_128 : decode cX5_startUp 128 = .ok (.iastore, 1) := by decide +kernel
theorem dX5_startUp_129 : decode cX5_startUp 129 = .ok (.goto 81, 3) := by decide +kernel
theorem dX5_startUp_132 : decode cX5_startUp 132 = .ok (.aload_n 0, 1) := by decide +kernel
theorem dX5_startUp_133 : decode cX5_startUp 133 = .ok (.getfield 7, 3) := by decide +kernel
theorem dX5_startUp_136 : decode cX5_startUp 136 = .ok (.iload 4, 2) := by decide +kernel
theorem dX5_startUp_138 : decode cX5_startUp 138 = .ok (.iaload, 1) := by decide +kernel
theorem dX5_startUp_139 : decode cX5_startUp 139 = .ok (.ifCond .ne 22, 3) := by decide +kernel
theorem dX5_startUp_142 : decode cX5_startUp 142 = .ok (.aload_n 0, 1) := by decide +kernel
theorem dX5_startUp_143 : decode cX5_startUp 143 = .ok (.getfield 7, 3) := by decide +kernel
theorem dX5_startUp_146 : decode cX5_startUp 146 = .ok (.iload 4, 2) := by decide +kernel
theorem dX5_startUp_148 : decode cX5_startUp 148 = .ok (.iconst 1, 1) := by decide +kernel
theorem dX5_startUp_149 : decode cX5_startUp 149 = .ok (.iastore, 1) := by decide +kernel
theorem dX5_startUp_150 : decode cX5_startUp 150 = .ok (.aload_n 0, 1) := by decide +kernel
theorem dX5_startUp_151 : decode cX5_startUp 151 = .ok (.getfield 32, 3) := by decide +kernel
theorem dX5_startUp_154 : decode cX5_startUp 154 = .ok (.iload 4, 2) := by decide +kernel
theorem dX5_startUp_156 : decode cX5_startUp 156 = .ok (.iconst 0, 1) := by decide +kernel
theorem dX5_startUp_157 : decode cX5_startUp 157 = .ok (.iastore, 1) := by decide +kernel
theorem dX5_startUp_158 : decode cX5_startUp 158 = .ok (.goto 52, 3) := by decide +kernel
theorem dX5_startUp_161 : decode cX5_startUp 161 = .ok (.aload_n 0, 1) := by decide +kernel
theorem dX5_startUp_162 : decode cX5_startUp 162 = .ok (.getfield 7, 3) := by decide +kernel
theorem dX5_startUp_165 : decode cX5_startUp 165 = .ok (.iload 4, 2) := by decide +kernel
theorem dX5_startUp_167 : decode cX5_startUp 167 = .ok (.iaload, 1) := by decide +kernel
theorem dX5_startUp_168 : decode cX5_startUp 168 = .ok (.iconst 1, 1) := by decide +kernel
theorem dX5_startUp_169 : decode cX5_startUp 169 = .ok (.if_icmp .ne 41, 3) := by decide +kernel
theorem dX5_startUp_172 : decode cX5_startUp 172 = .ok (.aload_n 0, 1) := by decide +kernel
theorem dX5_startUp_173 : decode cX5_startUp 173 = .ok (.getfield 32, 3) := by decide +kernel
theorem dX5_startUp_176 : decode cX5_startUp 176 = .ok (.iload 4, 2) := by decide +kernel
theorem dX5_startUp_178 : decode cX5_startUp 178 = .ok (.dup2, 1) := by decide +kernel
theorem dX5_startUp_179 : decode cX5_startUp 179 = .ok (.iaload, 1) := by decide +kernel
theorem dX5_startUp_180 : decode cX5_startUp 180 = .ok (.iconst 1, 1) := by decide +kernel
theorem dX5_startUp_181 : decode cX5_startUp 181 = .ok (.iadd, 1) := by decide +kernel
theorem dX5_startUp_182 : decode cX5_startUp 182 = .ok (.iastore, 1) := by decide +kernel
theorem dX5_startUp_183 : decode cX5_startUp 183 = .ok (.aload_n 0, 1) := by decide +kernel
theorem dX5_startUp_184 : decode cX5_startUp 184 = .ok (.getfield 32, 3) := by decide +kernel
theorem dX5_startUp_187 : decode cX5_startUp 187 = .ok (.iload 4, 2) := by decide +kernel
theorem dX5_startUp_189 : decode cX5_startUp 189 = .ok (.iaload, 1) := by decide +kernel
theorem dX5_startUp_190 : decode cX5_startUp 190 = .ok (.iconst 2, 1) := by decide +kernel
theorem dX5_startUp_191 : decode cX5_startUp 191 = .ok (.if_icmp .ne 19, 3) := by decide +kernel
theorem dX5_startUp_194 : decode cX5_startUp 194 = .ok (.aload_n 0, 1) := by decide +kernel
theorem dX5_startUp_195 : decode cX5_startUp 195 = .ok (.getfield 7, 3) := by decide +kernel
theorem dX5_startUp_198 : decode cX5_startUp 198 = .ok (.iload 4, 2) := by decide +kernel
theorem dX5_startUp_200 : decode cX5_startUp 200 = .ok (.iconst 2, 1) := by decide +kernel
theorem dX5_startUp_201 : decode cX5_startUp 201 = .ok (.iastore, 1) := by decide +kernel
theorem dX5_startUp_202 : decode cX5_startUp 202 = .ok (.aload_n 0, 1) := by decide +kernel
theorem dX5_startUp_203 : decode cX5_startUp 203 = .ok (.getfield 17, 3) := by decide +kernel
theorem dX5_startUp_206 : decode cX5_startUp 206 = .ok (.iload 4, 2) := by decide +kernel
theorem dX5_startUp_208 : decode cX5_startUp 208 = .ok (.iload_n 3, 1) := by decide +kernel
theorem dX5_startUp_209 : decode cX5_startUp 209 = .ok (.iastore, 1) := by decide +kernel
theorem dX5_startUp_210 : decode cX5_startUp 210 = .ok (.iinc 4 1, 3) := by decide +kernel
theorem dX5_startUp_213 : decode cX5_startUp 213 = .ok (.goto (-141), 3) := by decide +kernel
theorem dX5_startUp_216 : decode cX5_startUp 216 = .ok (.return_, 1) := by decide +kernel
theorem dX5_sendStatic_0 : decode cX5_sendStatic 0 = .ok (.iconst 0, 1) := by decide +kernel
theorem dX5_sendStatic_1 : decode cX5_sendStatic 1 = .ok (.istore_n 1, 1) := by decide +kernel
theorem dX5_sendStatic_2 : decode cX5_sendStatic 2 = .ok (.iconst 1, 1) := by decide +kernel
theorem dX5_sendStatic_3 : decode cX5_sendStatic 3 = .ok (.istore_n 2, 1) := by decide +kernel
theorem dX5_sendStatic_4 : decode cX5_sendStatic 4 = .ok (.iload_n 2, 1) := by decide +kernel
theorem dX5_sendStatic_5 : decode cX5_sendStatic 5 = .ok (.aload_n 0, 1) := by decide +kernel
theorem dX5_sendStatic_6 : decode cX5_sendStatic 6 = .ok (.getfield 71, 3) := by decide +kernel
theorem dX5_sendStatic_9 : decode cX5_sendStatic 9 = .ok (.if_icmp .gt 16, 3) := by decide +kernel
theorem dX5_sendStatic_12 : decode cX5_sendStatic 12 = .ok (.aload_n 0, 1) := by decide +kernel
theorem dX5_sendStatic_13 : decode cX5_sendStatic 13 = .ok (.getfield 35, 3) := by decide +kernel
theorem dX5_sendStatic_16 : decode cX5_sendStatic 16 = .ok (.iload_n 2, 1) := by decide +kernel
theorem dX5_sendStatic_17 : decode cX5_sendStatic 17 = .ok (.iconst 0, 1) := by decide +kernel
theorem dX5_sendStatic_18 : decode cX5_sendStatic 18 = .ok (.bastore, 1) := by decide +kernel
theorem dX5_sendStatic_19 : decode cX5_sendStatic 19 = .ok (.iinc 2 1, 3) := by decide +kernel
theorem dX5_sendStatic_22 : decode cX5_sendStatic 22 = .ok (.goto (-18), 3) := by decide +kernel
theorem dX5_sendStatic_25 : decode cX5_sendStatic 25 = .ok (.iconst 0, 1) := by decide +kernel
theorem dX5_sendStatic_26 : decode cX5_sendStatic 26 = .ok (.istore_n 2, 1) := by decide +kernel
theorem dX5_sendStatic_27 : decode cX5_sendStatic 27 = .ok (.iload_n 2, 1) := by decide +kernel
theorem dX5_sendStatic_28 : decode cX5_sendStatic 28 = .ok (.aload_n 0, 1) := by decide +kernel
theorem dX5_sendStatic_29 : decode cX5_sendStatic 29 = .ok (.getfield 91, 3) := by decide +kernel
theorem dX5_sendStatic_32 : decode cX5_sendStatic 32 = .ok (.if_icmp .ge 91, 3) := by decide +kernel
theorem dX5_sendStatic_35 : decode cX5_sendStatic 35 = .ok (.aload_n 0, 1) := by decide +kernel
theorem dX5_sendStatic_36 : decode cX5_sendStatic 36 = .ok (.getfield 44, 3) := by decide +kernel
theorem dX5_sendStatic_39 : decode cX5_sendStatic 39 = .ok (.iload_n 2, 1) := by decide +kernel
theorem dX5_sendStatic_40 : decode cX5_sendStatic 40 = .ok (.iaload, 1) := by decide +kernel
theorem dX5_sendStatic_41 : decode cX5_sendStatic 41 = .ok (.istore_n 3, 1) := by decide +kernel
theorem dX5_sendStatic_42 : decode cX5_sendStatic 42 = .ok (.aload_n 0, 1) := by decide +kernel
theorem dX5_sendStatic_43 : decode cX5_sendStatic 43 = .ok (.getfield 7, 3) := by decide +kernel
theorem dX5_sendStatic_46 : decode cX5_sendStatic 46 = .ok (.iload_n 3, 1) := by decide +kernel
theorem dX5_sendStatic_47 : decode cX5_sendStatic 47 = .ok (.iaload, 1) := by decide +kernel
theorem dX5_sendStatic_48 : decode cX5_sendStatic 48 = .ok (.iconst 2, 1) := by decide +kernel
theorem dX5_sendStatic_49 : decode cX5_sendStatic 49 = .ok (.if_icmp .ne 27, 3) := by decide +kernel
theorem dX5_sendStatic_52 : decode cX5_sendStatic 52 = .ok (.aload_n 0, 1) := by decide +kernel
theorem dX5_sendStatic_53 : decode cX5_sendStatic 53 = .ok (.getfield 97, 3) := by decide +kernel
theorem dX5_sendStatic_56 : decode cX5_sendStatic 56 = .ok (.aload_n 0, 1) := by decide +kernel
theorem dX5_sendStatic_57 : decode cX5_sendStatic 57 = .ok (.getfield 56, 3) := by decide +kernel
theorem dX5_sendStatic_60 : decode cX5_sendStatic 60 = .ok (.iload_n 2, 1) := by decide +kernel
theorem dX5_sendStatic_61 : decode cX5_sendStatic 61 = .ok (.iaload, 1) := by decide +kernel
theorem dX5_sendStatic_62 : decode cX5_sendStatic 62 = .ok (.irem, 1) := by decide +kernel
theorem dX5_sendStatic_63 : decode cX5_sendStatic 63 = .ok (.aload_n 0, 1) := by decide +kernel
theorem dX5_sendStatic_64 : decode cX5_sendStatic 64 = .ok (.getfield 53, 3) := by decide +kernel
theorem dX5_sendStatic_67 : decode cX5_sendStatic 67 = .ok (.iload_n 2, 1) := by decide +kernel
theorem dX5_sendStatic_68 : decode cX5_sendStatic 68 = .ok (.iaload, 1) := by decide +kernel
theorem dX5_sendStatic_69 : decode cX5_sendStatic 69 = .ok (.if_icmp .ne 7, 3) := by decide +kernel
theorem dX5_sendStatic_72 : decode cX5_sendStatic 72 = .ok (.iconst 1, 1) := by decide +kernel
theorem dX5_sendStatic_73 : decode cX5_sendStatic 73 = .ok (.goto 4, 3) := by decide +kernel
theorem dX5_sendStatic_76 : decode cX5_sendStatic 76 = .ok (.iconst 0, 1) := by decide +kernel
theorem dX5_sendStatic_77 : decode cX5_sendStatic 77 = .ok (.istore 4, 2) := by decide +kernel
theorem dX5_sendStatic_79 : decode cX5_sendStatic 79 = .ok (.iload 4, 2) := by decide +kernel
theorem dX5_sendStatic_81 : decode cX5_sendStatic 81 = .ok (.ifCond .eq 36, 3) := by decide +kernel
theorem dX5_sendStatic_84 : decode cX5_sendStatic 84 = .ok (.aload_n 0, 1) := by decide +kernel
theorem dX5_sendStatic_85 : decode cX5_sendStatic 85 = .ok (.getfield 50, 3) := by decide +kernel
theorem dX5_sendStatic_88 : decode cX5_sendStatic 88 = .ok (.iload_n 2, 1) := by decide +kernel
theorem dX5_sendStatic_89 : decode cX5_sendStatic 89 = .ok (.iaload, 1) := by decide +kernel
theorem dX5_sendStatic_90 : decode cX5_sendStatic 90 = .ok (.aload_n 0, 1) := by decide +kernel
theorem dX5_sendStatic_91 : decode cX5_sendStatic 91 = .ok (.getfield 68, 3) := by decide +kernel
theorem dX5_sendStatic_94 : decode cX5_sendStatic 94 = .ok (.aload_n 0, 1) := by decide +kernel
theorem dX5_sendStatic_95 : decode cX5_sendStatic 95 = .ok (.getfield 47, 3) := by decide +kernel
theorem dX5_sendStatic_98 : decode cX5_sendStatic 98 = .ok (.iload_n 2, 1) := by decide +kernel
theorem dX5_sendStatic_99 : decode cX5_sendStatic 99 = .ok (.iaload, 1) := by decide +kernel
theorem dX5_sendStatic_100 : decode cX5_sendStatic 100 = .ok (.iaload, 1) := by decide +kernel
theorem dX5_sendStatic_101 : decode cX5_sendStatic 101 = .ok (.iconst (-1), 1) := by decide +kernel
theorem dX5_sendStatic_102 : decode cX5_sendStatic 102 = .ok (.ixor, 1) := by decide +kernel
theorem dX5_sendStatic_103 : decode cX5_sendStatic 103 = .ok (.iand, 1) := by decide +kernel
theorem dX5_sendStatic_104 : decode cX5_sendStatic 104 = .ok (.ifCond .eq 13, 3) := by decide +kernel
theorem dX5_sendStatic_107 : decode cX5_sendStatic 107 = .ok (.aload_n 0, 1) := by decide +kernel
theorem dX5_sendStatic_108 : decode cX5_sendStatic 108 = .ok (.getfield 35, 3) := by decide +kernel
theorem dX5_sendStatic_111 : decode cX5_sendStatic 111 = .ok (.iload_n 3, 1) := by decide +kernel
theorem dX5_sendStatic_112 : decode cX5_sendStatic 112 = .ok (.iconst 1, 1) := by decide +kernel
theorem dX5_sendStatic_113 : decode cX5_sendStatic 113 = .ok (.bastore, 1) := by decide +kernel
theorem dX5_sendStatic_114 : decode cX5_sendStatic 114 = .ok (.iinc 1 1, 3) := by decide +kernel
theorem dX5_sendStatic_117 : decode cX5_sendStatic 117 = .ok (.iinc 2 1, 3) := by decide +kernel
theorem dX5_sendStatic_120 : decode cX5_sendStatic 120 = .ok (.goto (-93), 3) := by decide +kernel
theorem dX5_sendStatic_123 : decode cX5_sendStatic 123 = .ok (.iload_n 1, 1) := by decide +kernel
theorem dX5_sendStatic_124 : decode cX5_sendStatic 124 = .ok (.ireturn, 1) := by decide +kernel
theorem dX5_waitingOne_0 : decode cX5_waitingOne 0 = .ok (.iconst 0, 1) := by decide +kernel
theorem dX5_waitingOne_1 : decode cX5_waitingOne 1 = .ok (.istore_n 2, 1) := by decide +kernel
theorem dX5_waitingOne_2 : decode cX5_waitingOne 2 = .ok (.iload_n 2, 1) := by decide +kernel
theorem dX5_waitingOne_3 : decode cX5_waitingOne 3 = .ok (.aload_n 0, 1) := by decide +kernel
theorem dX5_waitingOne_4 : decode cX5_waitingOne 4 = .ok (.getfield 94, 3) := by decide +kernel
theorem dX5_waitingOne_7 : decode cX5_waitingOne 7 = .ok (.if_icmp .ge 34, 3) := by decide +kernel
theorem dX5_waitingOne_10 : decode cX5_waitingOne 10 = .ok (.aload_n 0, 1) := by decide +kernel
theorem dX5_waitingOne_11 : decode cX5_waitingOne 11 = .ok (.getfield 62, 3) := by decide +kernel
theorem dX5_waitingOne_14 : decode cX5_waitingOne 14 = .ok (.iload_n 2, 1) := by decide +kernel
theorem dX5_waitingOne_15 : decode cX5_waitingOne 15 = .ok (.iaload, 1) := by decide +kernel
theorem dX5_waitingOne_16 : decode cX5_waitingOne 16 = .ok (.iload_n 1, 1) := by decide +kernel
theorem dX5_waitingOne_17 : decode cX5_waitingOne 17 = .ok (.if_icmp .ne 18, 3) := by decide +kernel
theorem dX5_waitingOne_20 : decode cX5_waitingOne 20 = .ok (.aload_n 0, 1) := by decide +kernel
theorem dX5_waitingOne_21 : decode cX5_waitingOne 21 = .ok (.getfield 7, 3) := by decide +kernel
theorem dX5_waitingOne_24 : decode cX5_waitingOne 24 = .ok (.aload_n 0, 1) := by decide +kernel
theorem dX5_waitingOne_25 : decode cX5_waitingOne 25 = .ok (.getfield 59, 3) := by decide +kernel
theorem dX5_waitingOne_28 : decode cX5_waitingOne 28 = .ok (.iload_n 2, 1) := by decide +kernel
theorem dX5_waitingOne_29 : decode cX5_waitingOne 29 = .ok (.iaload, 1) := by decide +kernel
theorem dX5_waitingOne_30 : decode cX5_waitingOne 30 = .ok (.iaload, 1) := by decide +kernel
theorem dX5_waitingOne_31 : decode cX5_waitingOne 31 = .ok (.iconst 2, 1) := by decide +kernel
theorem dX5_waitingOne_32 : decode cX5_waitingOne 32 = .ok (.if_icmp .eq 9, 3) := by decide +kernel
theorem dX5_waitingOne_35 : decode cX5_waitingOne 35 = .ok (.iinc 2 1, 3) := by decide +kernel
theorem dX5_waitingOne_38 : decode cX5_waitingOne 38 = .ok (.goto (-36), 3) := by decide +kernel
theorem dX5_waitingOne_41 : decode cX5_waitingOne 41 = .ok (.iload_n 2, 1) := by decide +kernel
theorem dX5_waitingOne_42 : decode cX5_waitingOne 42 = .ok (.aload_n 0, 1) := by decide +kernel
theorem dX5_waitingOne_43 : decode cX5_waitingOne 43 = .ok (.getfield 94, 3) := by decide +kernel
theorem dX5_waitingOne_46 : decode cX5_waitingOne 46 = .ok (.if_icmp .ge 7, 3) := by decide +kernel
theorem dX5_waitingOne_49 : decode cX5_waitingOne 49 = .ok (.iload_n 2, 1) := by decide +kernel
theorem dX5_waitingOne_50 : decode cX5_waitingOne 50 = .ok (.goto 4, 3) := by decide +kernel
theorem dX5_waitingOne_53 : decode cX5_waitingOne 53 = .ok (.iconst (-1), 1) := by decide +kernel
theorem dX5_waitingOne_54 : decode cX5_waitingOne 54 = .ok (.ireturn, 1) := by decide +kernel
theorem dX5_sendDynamic_0 : decode cX5_sendDynamic 0 = .ok (.iconst 0, 1) := by decide +kernel
theorem dX5_sendDynamic_1 : decode cX5_sendDynamic 1 = .ok (.istore_n 1, 1) := by decide +kernel
theorem dX5_sendDynamic_2 : decode cX5_sendDynamic 2 = .ok (.iconst 1, 1) := by decide +kernel
theorem dX5_sendDynamic_3 : decode cX5_sendDynamic 3 = .ok (.istore_n 2, 1) := by decide +kernel
theorem dX5_sendDynamic_4 : decode cX5_sendDynamic 4 = .ok (.iconst 1, 1) := by decide +kernel
theorem dX5_sendDynamic_5 : decode cX5_sendDynamic 5 = .ok (.istore_n 3, 1) := by decide +kernel
theorem dX5_sendDynamic_6 : decode cX5_sendDynamic 6 = .ok (.iload_n 2, 1) := by decide +kernel
theorem dX5_sendDynamic_7 : decode cX5_sendDynamic 7 = .ok (.aload_n 0, 1) := by decide +kernel
theorem dX5_sendDynamic_8 : decode cX5_sendDynamic 8 = .ok (.getfield 78, 3) := by decide +kernel
theorem dX5_sendDynamic_11 : decode cX5_sendDynamic 11 = .ok (.if_icmp .gt 135, 3) := by decide +kernel
theorem dX5_sendDynamic_14 : decode cX5_sendDynamic 14 = .ok (.aload_n 0, 1) := by decide +kernel
theorem dX5_sendDynamic_15 : decode cX5_sendDynamic 15 = .ok (.iload_n 3, 1) := by decide +kernel
theorem dX5_sendDynamic_16 : decode cX5_sendDynamic 16 = .ok (.invokevirtual 100, 3) := by decide +kernel
theorem dX5_sendDynamic_19 : decode cX5_sendDynamic 19 = .ok (.istore 4, 2) := by decide +kernel
theorem dX5_sendDynamic_21 : decode cX5_sendDynamic 21 = .ok (.iload 4, 2) := by decide +kernel
theorem dX5_sendDynamic_23 : decode cX5_sendDynamic 23 = .ok (.ifCond .lt 114, 3) := by decide +kernel
theorem dX5_sendDynamic_26 : decode cX5_sendDynamic 26 = .ok (.iload_n 2, 1) := by decide +kernel
theorem dX5_sendDynamic_27 : decode cX5_sendDynamic 27 = .ok (.aload_n 0, 1) := by decide +kernel
theorem dX5_sendDynamic_28 : decode cX5_sendDynamic 28 = .ok (.getfield 65, 3) := by decide +kernel
theorem dX5_sendDynamic_31 : decode cX5_sendDynamic 31 = .ok (.iload 4, 2) := by decide +kernel
theorem dX5_sendDynamic_33 : decode cX5_sendDynamic 33 = .ok (.iaload, 1) := by decide +kernel
theorem dX5_sendDynamic_34 : decode cX5_sendDynamic 34 = .ok (.iadd, 1) := by decide +kernel
theorem dX5_sendDynamic_35 : decode cX5_sendDynamic 35 = .ok (.iconst 1, 1) := by decide +kernel
theorem dX5_sendDynamic_36 : decode cX5_sendDynamic 36 = .ok (.isub, 1) := by decide +kernel
theorem dX5_sendDynamic_37 : decode cX5_sendDynamic 37 = .ok (.aload_n 0, 1) := by decide +kernel
theorem dX5_sendDynamic_38 : decode cX5_sendDynamic 38 = .ok (.getfield 78, 3) := by decide +kernel
theorem dX5_sendDynamic_41 : decode cX5_sendDynamic 41 = .ok (.if_icmp .gt 96, 3) := by decide +kernel
theorem dX5_sendDynamic_44 : decode cX5_sendDynamic 44 = .ok (.iload_n 2, 1) := by decide +kernel
theorem dX5_sendDynamic_45 : decode cX5_sendDynamic 45 = .ok (.aload_n 0, 1) := by decide +kernel
theorem dX5_sendDynamic_46 : decode cX5_sendDynamic 46 = .ok (.getfield 65, 3) := by decide +kernel
theorem dX5_sendDynamic_49 : decode cX5_sendDynamic 49 = .ok (.iload 4, 2) := by decide +kernel
theorem dX5_sendDynamic_51 : decode cX5_sendDynamic 51 = .ok (.iaload, 1) := by decide +kernel
theorem dX5_sendDynamic_52 : decode cX5_sendDynamic 52 = .ok (.iadd, 1) := by decide +kernel
theorem dX5_sendDynamic_53 : decode cX5_sendDynamic 53 = .ok (.istore_n 2, 1) := by decide +kernel
theorem dX5_sendDynamic_54 : decode cX5_sendDynamic 54 = .ok (.iinc 1 1, 3) := by decide +kernel
theorem dX5_sendDynamic_57 : decode cX5_sendDynamic 57 = .ok (.aload_n 0, 1) := by decide +kernel
theorem dX5_sendDynamic_58 : decode cX5_sendDynamic 58 = .ok (.dup, 1) := by decide +kernel
theorem dX5_sendDynamic_59 : decode cX5_sendDynamic 59 = .ok (.getfield 94, 3) := by decide +kernel
theorem dX5_sendDynamic_62 : decode cX5_sendDynamic 62 = .ok (.iconst 1, 1) := by decide +kernel
theorem dX5_sendDynamic_63 : decode cX5_sendDynamic 63 = .ok (.isub, 1) := by decide +kernel
theorem dX5_sendDynamic_64 : decode cX5_sendDynamic 64 = .ok (.putfield 94, 3) := by decide +kernel
theorem dX5_sendDynamic_67 : decode cX5_sendDynamic 67 = .ok (.iload 4, 2) := by decide +kernel
theorem dX5_sendDynamic_69 : decode cX5_sendDynamic 69 = .ok (.istore 5, 2) := by decide +kernel
theorem dX5_sendDynamic_71 : decode cX5_sendDynamic 71 = .ok (.iload 5, 2) := by decide +kernel
theorem dX5_sendDynamic_73 : decode cX5_sendDynamic 73 = .ok (.aload_n 0, 1) := by decide +kernel
theorem dX5_sendDynamic_74 : decode cX5_sendDynamic 74 = .ok (.getfield 94, 3) := by decide +kernel
theorem dX5_sendDynamic_77 : decode cX5_sendDynamic 77 = .ok (.if_icmp .ge 57, 3) := by decide +kernel
theorem dX5_sendDynamic_80 : decode cX5_sendDynamic 80 = .ok (.aload_n 0, 1) := by decide +kernel
theorem dX5_sendDynamic_81 : decode cX5_sendDynamic 81 = .ok (.getfield 59, 3) := by decide +kernel
theorem dX5_sendDynamic_84 : decode cX5_sendDynamic 84 = .ok (.iload 5, 2) := by decide +kernel
theorem dX5_sendDynamic_86 : decode cX5_sendDynamic 86 = .ok (.aload_n 0, 1) := by decide +kernel
theorem dX5_sendDynamic_87 : decode cX5_sendDynamic 87 = .ok (.getfield 59, 3) := by decide +kernel
theorem dX5_sendDynamic_90 : decode cX5_sendDynamic 90 = .ok (.iload 5, 2) := by decide +kernel
theorem dX5_sendDynamic_92 : decode cX5_sendDynamic 92 = .ok (.iconst 1, 1) := by decide +kernel
theorem dX5_sendDynamic_93 : decode cX5_sendDynamic 93 = .ok (.iadd, 1) := by decide +kernel
theorem dX5_sendDynamic_94 : decode cX5_sendDynamic 94 = .ok (.iaload, 1) := by decide +kernel
theorem dX5_sendDynamic_95 : decode cX5_sendDynamic 95 = .ok (.iastore, 1) := by decide +kernel
theorem dX5_sendDynamic_96 : decode cX5_sendDynamic 96 = .ok (.aload_n 0, 1) := by decide +kernel
theorem dX5_sendDynamic_97 : decode cX5_sendDynamic 97 = .ok (.getfield 62, 3) := by decide +kernel
theorem dX5_sendDynamic_100 : decode cX5_sendDynamic 100 = .ok (.iload 5, 2) := by decide +kernel
theorem dX5_sendDynamic_102 : decode cX5_sendDynamic 102 = .ok (.aload_n 0, 1) := by decide +kernel
theorem dX5_sendDynamic_103 : decode cX5_sendDynamic 103 = .ok (.getfield 62, 3) := by decide +kernel
theorem dX5_sendDynamic_106 : decode cX5_sendDynamic 106 = .ok (.iload 5, 2) := by decide +kernel
theorem dX5_sendDynamic_108 : decode cX5_sendDynamic 108 = .ok (.iconst 1, 1) := by decide +kernel
theorem dX5_sendDynamic_109 : decode cX5_sendDynamic 109 = .ok (.iadd, 1) := by decide +kernel
theorem dX5_sendDynamic_110 : decode cX5_sendDynamic 110 = .ok (.iaload, 1) := by decide +kernel
theorem dX5_sendDynamic_111 : decode cX5_sendDynamic 111 = .ok (.iastore, 1) := by decide +kernel
theorem dX5_sendDynamic_112 : decode cX5_sendDynamic 112 = .ok (.aload_n 0, 1) := by decide +kernel
theorem dX5_sendDynamic_113 : decode cX5_sendDynamic 113 = .ok (.getfield 65, 3) := by decide +kernel
theorem dX5_sendDynamic_116 : decode cX5_sendDynamic 116 = .ok (.iload 5, 2) := by decide +kernel
theorem dX5_sendDynamic_118 : decode cX5_sendDynamic 118 = .ok (.aload_n 0, 1) := by decide +kernel
theorem dX5_sendDynamic_119 : decode cX5_sendDynamic 119 = .ok (.getfield 65, 3) := by decide +kernel
theorem dX5_sendDynamic_122 : decode cX5_sendDynamic 122 = .ok (.iload 5, 2) := by decide +kernel
theorem dX5_sendDynamic_124 : decode cX5_sendDynamic 124 = .ok (.iconst 1, 1) := by decide +kernel
theorem dX5_sendDynamic_125 : decode cX5_sendDynamic 125 = .ok (.iadd, 1) := by decide +kernel
theorem dX5_sendDynamic_126 : decode cX5_sendDynamic 126 = .ok (.iaload, 1) := by decide +kernel
theorem dX5_sendDynamic_127 : decode cX5_sendDynamic 127 = .ok (.iastore, 1) := by decide +kernel
theorem dX5_sendDynamic_128 : decode cX5_sendDynamic 128 = .ok (.iinc 5 1, 3) := by decide +kernel
theorem dX5_sendDynamic_131 : decode cX5_sendDynamic 131 = .ok (.goto (-60), 3) := by decide +kernel
theorem dX5_sendDynamic_134 : decode cX5_sendDynamic 134 = .ok (.goto 6, 3) := by decide +kernel
theorem dX5_sendDynamic_137 : decode cX5_sendDynamic 137 = .ok (.iinc 2 1, 3) := by decide +kernel
theorem dX5_sendDynamic_140 : decode cX5_sendDynamic 140 = .ok (.iinc 3 1, 3) := by decide +kernel
theorem dX5_sendDynamic_143 : decode cX5_sendDynamic 143 = .ok (.goto (-137), 3) := by decide +kernel
theorem dX5_sendDynamic_146 : decode cX5_sendDynamic 146 = .ok (.iload_n 1, 1) := by decide +kernel
theorem dX5_sendDynamic_147 : decode cX5_sendDynamic 147 = .ok (.ireturn, 1) := by decide +kernel
theorem dX5_midpointOf_0 : decode cX5_midpointOf 0 = .ok (.iconst 0, 1) := by decide +kernel
theorem dX5_midpointOf_1 : decode cX5_midpointOf 1 = .ok (.istore_n 2, 1) := by decide +kernel
theorem dX5_midpointOf_2 : decode cX5_midpointOf 2 = .ok (.aload_n 0, 1) := by decide +kernel
theorem dX5_midpointOf_3 : decode cX5_midpointOf 3 = .ok (.getfield 41, 3) := by decide +kernel
theorem dX5_midpointOf_6 : decode cX5_midpointOf 6 = .ok (.iload_n 2, 1) := by decide +kernel
theorem dX5_midpointOf_7 : decode cX5_midpointOf 7 = .ok (.iconst 0, 1) := by decide +kernel
theorem dX5_midpointOf_8 : decode cX5_midpointOf 8 = .ok (.iastore, 1) := by decide +kernel
theorem dX5_midpointOf_9 : decode cX5_midpointOf 9 = .ok (.iinc 2 1, 3) := by decide +kernel
theorem dX5_midpointOf_12 : decode cX5_midpointOf 12 = .ok (.iconst 1, 1) := by decide +kernel
theorem dX5_midpointOf_13 : decode cX5_midpointOf 13 = .ok (.istore_n 3, 1) := by decide +kernel
theorem dX5_midpointOf_14 : decode cX5_midpointOf 14 = .ok (.iload_n 3, 1) := by decide +kernel
theorem dX5_midpointOf_15 : decode cX5_midpointOf 15 = .ok (.aload_n 0, 1) := by decide +kernel
theorem dX5_midpointOf_16 : decode cX5_midpointOf 16 = .ok (.getfield 71, 3) := by decide +kernel
theorem dX5_midpointOf_19 : decode cX5_midpointOf 19 = .ok (.if_icmp .gt 55, 3) := by decide +kernel
theorem dX5_midpointOf_22 : decode cX5_midpointOf 22 = .ok (.iload_n 3, 1) := by decide +kernel
theorem dX5_midpointOf_23 : decode cX5_midpointOf 23 = .ok (.iload_n 1, 1) := by decide +kernel
theorem dX5_midpointOf_24 : decode cX5_midpointOf 24 = .ok (.if_icmp .eq 44, 3) := by decide +kernel
theorem dX5_midpointOf_27 : decode cX5_midpointOf 27 = .ok (.aload_n 0, 1) := by decide +kernel
theorem dX5_midpointOf_28 : decode cX5_midpointOf 28 = .ok (.getfield 7, 3) := by decide +kernel
theorem dX5_midpointOf_31 : decode cX5_midpointOf 31 = .ok (.iload_n 3, 1) := by decide +kernel
theorem dX5_midpointOf_32 : decode cX5_midpointOf 32 = .ok (.iaload, 1) := by decide +kernel
theorem dX5_midpointOf_33 : decode cX5_midpointOf 33 = .ok (.iconst 2, 1) := by decide +kernel
theorem dX5_midpointOf_34 : decode cX5_midpointOf 34 = .ok (.if_icmp .ne 34, 3) := by decide +kernel
theorem dX5_midpointOf_37 : decode cX5_midpointOf 37 = .ok (.aload_n 0, 1) := by decide +kernel
theorem dX5_midpointOf_38 : decode cX5_midpointOf 38 = .ok (.getfield 35, 3) := by decide +kernel
theorem dX5_midpointOf_41 : decode cX5_midpointOf 41 = .ok (.iload_n 3, 1) := by decide +kernel
theorem dX5_midpointOf_42 : decode cX5_midpointOf 42 = .ok (.baload, 1) := by decide +kernel
theorem dX5_midpointOf_43 : decode cX5_midpointOf 43 = .ok (.ifCond .eq 25, 3) := by decide +kernel
theorem dX5_midpointOf_46 : decode cX5_midpointOf 46 = .ok (.aload_n 0, 1) := by decide +kernel
theorem dX5_midpointOf_47 : decode cX5_midpointOf 47 = .ok (.getfield 41, 3) := by decide +kernel
theorem dX5_midpointOf_50 : decode cX5_midpointOf 50 = .ok (.iload_n 2, 1) := by decide +kernel
theorem dX5_midpointOf_51 : decode cX5_midpointOf 51 = .ok (.aload_n 0, 1) := by decide +kernel
theorem dX5_midpointOf_52 : decode cX5_midpointOf 52 = .ok (.getfield 17, 3) := by decide +kernel
theorem dX5_midpointOf_55 : decode cX5_midpointOf 55 = .ok (.iload_n 3, 1) := by decide +kernel
theorem dX5_midpointOf_56 : decode cX5_midpointOf 56 = .ok (.iaload, 1) := by decide +kernel
theorem dX5_midpointOf_57 : decode cX5_midpointOf 57 = .ok (.aload_n 0, 1) := by decide +kernel
theorem dX5_midpointOf_58 : decode cX5_midpointOf 58 = .ok (.getfield 17, 3) := by decide +kernel
theorem dX5_midpointOf_61 : decode cX5_midpointOf 61 = .ok (.iload_n 1, 1) := by decide +kernel
theorem dX5_midpointOf_62 : decode cX5_midpointOf 62 = .ok (.iaload, 1) := by decide +kernel
theorem dX5_midpointOf_63 : decode cX5_midpointOf 63 = .ok (.isub, 1) := by decide +kernel
theorem dX5_midpointOf_64 : decode cX5_midpointOf 64 = .ok (.iastore, 1) := by decide +kernel
theorem dX5_midpointOf_65 : decode cX5_midpointOf 65 = .ok (.iinc 2 1, 3) := by decide +kernel
theorem dX5_midpointOf_68 : decode cX5_midpointOf 68 = .ok (.iinc 3 1, 3) := by decide +kernel
theorem dX5_midpointOf_71 : decode cX5_midpointOf 71 = .ok (.goto (-57), 3) := by decide +kernel
theorem dX5_midpointOf_74 : decode cX5_midpointOf 74 = .ok (.iconst 1, 1) := by decide +kernel
theorem dX5_midpointOf_75 : decode cX5_midpointOf 75 = .ok (.istore_n 3, 1) := by decide +kernel
theorem dX5_midpointOf_76 : decode cX5_midpointOf 76 = .ok (.iload_n 3, 1) := by decide +kernel
theorem dX5_midpointOf_77 : decode cX5_midpointOf 77 = .ok (.iload_n 2, 1) := by decide +kernel
theorem dX5_midpointOf_78 : decode cX5_midpointOf 78 = .ok (.if_icmp .ge 78, 3) := by decide +kernel
theorem dX5_midpointOf_81 : decode cX5_midpointOf 81 = .ok (.iload_n 3, 1) := by decide +kernel
theorem dX5_midpointOf_82 : decode cX5_midpointOf 82 = .ok (.istore 4, 2) := by decide +kernel
theorem dX5_midpointOf_84 : decode cX5_midpointOf 84 = .ok (.iload 4, 2) := by decide +kernel
theorem dX5_midpointOf_86 : decode cX5_midpointOf 86 = .ok (.ifCond .le 64, 3) := by decide +kernel
theorem dX5_midpointOf_89 : decode cX5_midpointOf 89 = .ok (.aload_n 0, 1) := by decide +kernel
theorem dX5_midpointOf_90 : decode cX5_midpointOf 90 = .ok (.getfield 41, 3) := by decide +kernel
theorem dX5_midpointOf_93 : decode cX5_midpointOf 93 = .ok (.iload 4, 2) := by decide +kernel
theorem dX5_midpointOf_95 : decode cX5_midpointOf 95 = .ok (.iconst 1, 1) := by decide +kernel
