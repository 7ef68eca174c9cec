theorem dX5_crash_34 : decode cX5_crash 34 = .ok (.ireturn, 1) := by decide +kernel
theorem dX5_tick_0 : decode cX5_tick 0 = .ok (.iload_n 1, 1) := by decide +kernel
theorem dX5_tick_1 : decode cX5_tick 1 = .ok (.invokestatic 93, 3) := by decide +kernel
theorem dX5_tick_4 : decode cX5_tick 4 = .ok (.ifCond .eq 14, 3) := by decide +kernel
theorem dX5_tick_7 : decode cX5_tick 7 = .ok (.iload_n 1, 1) := by decide +kernel
theorem dX5_tick_8 : decode cX5_tick 8 = .ok (.ldc 96, 2) := by decide +kernel
theorem dX5_tick_10 : decode cX5_tick 10 = .ok (.aload_n 0, 1) := by decide +kernel
theorem dX5_tick_11 : decode cX5_tick 11 = .ok (.getfield 41, 3) := by decide +kernel
theorem dX5_tick_14 : decode cX5_tick 14 = .ok (.isub, 1) := by decide +kernel
theorem dX5_tick_15 : decode cX5_tick 15 = .ok (.if_icmp .le 6, 3) := by decide +kernel
theorem dX5_tick_18 : decode cX5_tick 18 = .ok (.bipush (-2), 2) := by decide +kernel
theorem dX5_tick_20 : decode cX5_tick 20 = .ok (.ireturn, 1) := by decide +kernel
theorem dX5_tick_21 : decode cX5_tick 21 = .ok (.aload_n 0, 1) := by decide +kernel
theorem dX5_tick_22 : decode cX5_tick 22 = .ok (.dup, 1) := by decide +kernel
theorem dX5_tick_23 : decode cX5_tick 23 = .ok (.getfield 41, 3) := by decide +kernel
theorem dX5_tick_26 : decode cX5_tick 26 = .ok (.iload_n 1, 1) := by decide +kernel
theorem dX5_tick_27 : decode cX5_tick 27 = .ok (.iadd, 1) := by decide +kernel
theorem dX5_tick_28 : decode cX5_tick 28 = .ok (.putfield 41, 3) := by decide +kernel
theorem dX5_tick_31 : decode cX5_tick 31 = .ok (.aload_n 0, 1) := by decide +kernel
theorem dX5_tick_32 : decode cX5_tick 32 = .ok (.getfield 41, 3) := by decide +kernel
theorem dX5_tick_35 : decode cX5_tick 35 = .ok (.ireturn, 1) := by decide +kernel
theorem dX5_timeout_0 : decode cX5_timeout 0 = .ok (.iload_n 1, 1) := by decide +kernel
theorem dX5_timeout_1 : decode cX5_timeout 1 = .ok (.invokestatic 93, 3) := by decide +kernel
theorem dX5_timeout_4 : decode cX5_timeout 4 = .ok (.ifCond .ne 6, 3) := by decide +kernel
theorem dX5_timeout_7 : decode cX5_timeout 7 = .ok (.bipush (-2), 2) := by decide +kernel
theorem dX5_timeout_9 : decode cX5_timeout 9 = .ok (.ireturn, 1) := by decide +kernel
theorem dX5_timeout_10 : decode cX5_timeout 10 = .ok (.aload_n 0, 1) := by decide +kernel
theorem dX5_timeout_11 : decode cX5_timeout 11 = .ok (.getfield 30, 3) := by decide +kernel
theorem dX5_timeout_14 : decode cX5_timeout 14 = .ok (.istore_n 2, 1) := by decide +kernel
theorem dX5_timeout_15 : decode cX5_timeout 15 = .ok (.aload_n 0, 1) := by decide +kernel
theorem dX5_timeout_16 : decode cX5_timeout 16 = .ok (.iload_n 1, 1) := by decide +kernel
theorem dX5_timeout_17 : decode cX5_timeout 17 = .ok (.putfield 30, 3) := by decide +kernel
theorem dX5_timeout_20 : decode cX5_timeout 20 = .ok (.iload_n 2, 1) := by decide +kernel
theorem dX5_timeout_21 : decode cX5_timeout 21 = .ok (.ireturn, 1) := by decide +kernel
theorem dX5_fallOracle_0 : decode cX5_fallOracle 0 = .ok (.aload_n 0, 1) := by decide +kernel
theorem dX5_fallOracle_1 : decode cX5_fallOracle 1 = .ok (.getfield 19, 3) := by decide +kernel
theorem dX5_fallOracle_4 : decode cX5_fallOracle 4 = .ok (.invokevirtual 97, 3) := by decide +kernel
theorem dX5_fallOracle_7 : decode cX5_fallOracle 7 = .ok (.ireturn, 1) := by decide +kernel
theorem dX5_fall_0 : decode cX5_fall 0 = .ok (.aload_n 0, 1) := by decide +kernel
theorem dX5_fall_1 : decode cX5_fall 1 = .ok (.getfield 10, 3) := by decide +kernel
theorem dX5_fall_4 : decode cX5_fall 4 = .ok (.getfield 100, 3) := by decide +kernel
theorem dX5_fall_7 : decode cX5_fall 7 = .ok (.ireturn, 1) := by decide +kernel
theorem dX5_sweep_0 : decode cX5_sweep 0 = .ok (.iload_n 1, 1) := by decide +kernel
theorem dX5_sweep_1 : decode cX5_sweep 1 = .ok (.ifCond .lt 14, 3) := by decide +kernel
theorem dX5_sweep_4 : decode cX5_sweep 4 = .ok (.iload_n 1, 1) := by decide +kernel
theorem dX5_sweep_5 : decode cX5_sweep 5 = .ok (.aload_n 0, 1) := by decide +kernel
theorem dX5_sweep_6 : decode cX5_sweep 6 = .ok (.getfield 19, 3) := by decide +kernel
theorem dX5_sweep_9 : decode cX5_sweep 9 = .ok (.getfield 103, 3) := by decide +kernel
theorem dX5_sweep_12 : decode cX5_sweep 12 = .ok (.if_icmp .le 6, 3) := by decide +kernel
theorem dX5_sweep_15 : decode cX5_sweep 15 = .ok (.bipush (-2), 2) := by decide +kernel
theorem dX5_sweep_17 : decode cX5_sweep 17 = .ok (.ireturn, 1) := by decide +kernel
theorem dX5_sweep_18 : decode cX5_sweep 18 = .ok (.aload_n 0, 1) := by decide +kernel
theorem dX5_sweep_19 : decode cX5_sweep 19 = .ok (.iload_n 1, 1) := by decide +kernel
theorem dX5_sweep_20 : decode cX5_sweep 20 = .ok (.invokevirtual 106, 3) := by decide +kernel
theorem dX5_sweep_23 : decode cX5_sweep 23 = .ok (.ifCond .ne 14, 3) := by decide +kernel
theorem dX5_sweep_26 : decode cX5_sweep 26 = .ok (.aload_n 0, 1) := by decide +kernel
theorem dX5_sweep_27 : decode cX5_sweep 27 = .ok (.getfield 10, 3) := by decide +kernel
theorem dX5_sweep_30 : decode cX5_sweep 30 = .ok (.iload_n 1, 1) := by decide +kernel
theorem dX5_sweep_31 : decode cX5_sweep 31 = .ok (.invokevirtual 109, 3) := by decide +kernel
theorem dX5_sweep_34 : decode cX5_sweep 34 = .ok (.ifCond .eq 6, 3) := by decide +kernel
theorem dX5_sweep_37 : decode cX5_sweep 37 = .ok (.bipush (-3), 2) := by decide +kernel
theorem dX5_sweep_39 : decode cX5_sweep 39 = .ok (.ireturn, 1) := by decide +kernel
theorem dX5_sweep_40 : decode cX5_sweep 40 = .ok (.aload_n 0, 1) := by decide +kernel
theorem dX5_sweep_41 : decode cX5_sweep 41 = .ok (.getfield 10, 3) := by decide +kernel
theorem dX5_sweep_44 : decode cX5_sweep 44 = .ok (.iload_n 1, 1) := by decide +kernel
theorem dX5_sweep_45 : decode cX5_sweep 45 = .ok (.invokevirtual 112, 3) := by decide +kernel
theorem dX5_sweep_48 : decode cX5_sweep 48 = .ok (.istore_n 2, 1) := by decide +kernel
theorem dX5_sweep_49 : decode cX5_sweep 49 = .ok (.aload_n 0, 1) := by decide +kernel
theorem dX5_sweep_50 : decode cX5_sweep 50 = .ok (.getfield 10, 3) := by decide +kernel
theorem dX5_sweep_53 : decode cX5_sweep 53 = .ok (.invokevirtual 71, 3) := by decide +kernel
theorem dX5_sweep_56 : decode cX5_sweep 56 = .ok (.iload_n 2, 1) := by decide +kernel
theorem dX5_sweep_57 : decode cX5_sweep 57 = .ok (.ireturn, 1) := by decide +kernel
theorem dX5_state_0 : decode cX5_state 0 = .ok (.iload_n 1, 1) := by decide +kernel
theorem dX5_state_1 : decode cX5_state 1 = .ok (.invokestatic 34, 3) := by decide +kernel
theorem dX5_state_4 : decode cX5_state 4 = .ok (.ifCond .ne 5, 3) := by decide +kernel
theorem dX5_state_7 : decode cX5_state 7 = .ok (.iconst (-1), 1) := by decide +kernel
theorem dX5_state_8 : decode cX5_state 8 = .ok (.ireturn, 1) := by decide +kernel
theorem dX5_state_9 : decode cX5_state 9 = .ok (.aload_n 0, 1) := by decide +kernel
theorem dX5_state_10 : decode cX5_state 10 = .ok (.getfield 25, 3) := by decide +kernel
theorem dX5_state_13 : decode cX5_state 13 = .ok (.iload_n 1, 1) := by decide +kernel
theorem dX5_state_14 : decode cX5_state 14 = .ok (.aaload, 1) := by decide +kernel
theorem dX5_state_15 : decode cX5_state 15 = .ok (.astore_n 3, 1) := by decide +kernel
theorem dX5_state_16 : decode cX5_state 16 = .ok (.iload_n 2, 1) := by decide +kernel
theorem dX5_state_17 : decode cX5_state 17 = .ok (.tableswitch 69 0 5 #[39, 44, 49, 54, 59, 64], 39) := by decide +kernel
theorem dX5_state_56 : decode cX5_state 56 = .ok (.aload_n 3, 1) := by decide +kernel
theorem dX5_state_57 : decode cX5_state 57 = .ok (.getfield 38, 3) := by decide +kernel
theorem dX5_state_60 : decode cX5_state 60 = .ok (.ireturn, 1) := by decide +kernel
theorem dX5_state_61 : decode cX5_state 61 = .ok (.aload_n 3, 1) := by decide +kernel
theorem dX5_state_62 : decode cX5_state 62 = .ok (.getfield 56, 3) := by decide +kernel
theorem dX5_state_65 : decode cX5_state 65 = .ok (.ireturn, 1) := by decide +kernel
theorem dX5_state_66 : decode cX5_state 66 = .ok (.aload_n 3, 1) := by decide +kernel
theorem dX5_state_67 : decode cX5_state 67 = .ok (.getfield 116, 3) := by decide +kernel
theorem dX5_state_70 : decode cX5_state 70 = .ok (.ireturn, 1) := by decide +kernel
theorem dX5_state_71 : decode cX5_state 71 = .ok (.aload_n 3, 1) := by decide +kernel
theorem dX5_state_72 : decode cX5_state 72 = .ok (.getfield 83, 3) := by decide +kernel
theorem dX5_state_75 : decode cX5_state 75 = .ok (.ireturn, 1) := by decide +kernel
theorem dX5_state_76 : decode cX5_state 76 = .ok (.aload_n 3, 1) := by decide +kernel
theorem dX5_state_77 : decode cX5_state 77 = .ok (.getfield 119, 3) := by decide +kernel
theorem dX5_state_80 : decode cX5_state 80 = .ok (.ireturn, 1) := by decide +kernel
theorem dX5_state_81 : decode cX5_state 81 = .ok (.aload_n 3, 1) := by decide +kernel
theorem dX5_state_82 : decode cX5_state 82 = .ok (.getfield 122, 3) := by decide +kernel
theorem dX5_state_85 : decode cX5_state 85 = .ok (.ireturn, 1) := by decide +kernel
theorem dX5_state_86 : decode cX5_state 86 = .ok (.bipush (-2), 2) := by decide +kernel
theorem dX5_state_88 : decode cX5_state 88 = .ok (.ireturn, 1) := by decide +kernel
theorem dX5_lock_0 : decode cX5_lock 0 = .ok (.iload_n 1, 1) := by decide +kernel
theorem dX5_lock_1 : decode cX5_lock 1 = .ok (.iload_n 2, 1) := by decide +kernel
theorem dX5_lock_2 : decode cX5_lock 2 = .ok (.invokestatic 59, 3) := by decide +kernel
theorem dX5_lock_5 : decode cX5_lock 5 = .ok (.ifCond .ne 5, 3) := by decide +kernel
theorem dX5_lock_8 : decode cX5_lock 8 = .ok (.iconst (-1), 1) := by decide +kernel
theorem dX5_lock_9 : decode cX5_lock 9 = .ok (.ireturn, 1) := by decide +kernel
theorem dX5_lock_10 : decode cX5_lock 10 = .ok (.aload_n 0, 1) := by decide +kernel
theorem dX5_lock_11 : decode cX5_lock 11 = .ok (.getfield 10, 3) := by decide +kernel
theorem dX5_lock_14 : decode cX5_lock 14 = .ok (.getfield 125, 3) := by decide +kernel
theorem dX5_lock_17 : decode cX5_lock 17 = .ok (.iload_n 1, 1) := by decide +kernel
theorem dX5_lock_18 : decode cX5_lock 18 = .ok (.iload_n 2, 1) := by decide +kernel
theorem dX5_lock_19 : decode cX5_lock 19 = .ok (.invokestatic 63, 3) := by decide +kernel
theorem dX5_lock_22 : decode cX5_lock 22 = .ok (.aaload, 1) := by decide +kernel
theorem dX5_lock_23 : decode cX5_lock 23 = .ok (.astore 4, 2) := by decide +kernel
theorem dX5_lock_25 : decode cX5_lock 25 = .ok (.iload_n 3, 1) := by decide +kernel
theorem dX5_lock_26 : decode cX5_lock 26 = .ok (.tableswitch 101 0 4 #[34, 40, 46, 52, 75], 34) := by decide +kernel
theorem dX5_lock_60 : decode cX5_lock 60 = .ok (.aload 4, 2) := by decide +kernel
theorem dX5_lock_62 : decode cX5_lock 62 = .ok (.getfield 129, 3) := by decide +kernel
theorem dX5_lock_65 : decode cX5_lock 65 = .ok (.ireturn, 1) := by decide +kernel
theorem dX5_lock_66 : decode cX5_lock 66 = .ok (.aload 4, 2) := by decide +kernel
theorem dX5_lock_68 : decode cX5_lock 68 = .ok (.getfield 134, 3) := by decide +kernel
theorem dX5_lock_71 : decode cX5_lock 71 = .ok (.ireturn, 1) := by decide +kernel
theorem dX5_lock_72 : decode cX5_lock 72 = .ok (.aload 4, 2) := by decide +kernel
theorem dX5_lock_74 : decode cX5_lock 74 = .ok (.getfield 137, 3) := by decide +kernel
theorem dX5_lock_77 : decode cX5_lock 77 = .ok (.ireturn, 1) := by decide +kernel
theorem dX5_lock_78 : decode cX5_lock 78 = .ok (.aload 4, 2) := by decide +kernel
theorem dX5_lock_80 : decode cX5_lock 80 = .ok (.invokevirtual 140, 3) := by decide +kernel
theorem dX5_lock_83 : decode cX5_lock 83 = .ok (.ifCond .eq 16, 3) := by decide +kernel
theorem dX5_lock_86 : decode cX5_lock 86 = .ok (.aload_n 0, 1) := by decide +kernel
theorem dX5_lock_87 : decode cX5_lock 87 = .ok (.aload 4, 2) := by decide +kernel
theorem dX5_lock_89 : decode cX5_lock 89 = .ok (.invokevirtual 144, 3) := by decide +kernel
theorem dX5_lock_92 : decode cX5_lock 92 = .ok (.ifCond .eq 7, 3) := by decide +kernel
theorem dX5_lock_95 : decode cX5_lock 95 = .ok (.iconst 1, 1) := by decide +kernel
theorem dX5_lock_96 : decode cX5_lock 96 = .ok (.goto 4, 3) := by decide +kernel
theorem dX5_lock_99 : decode cX5_lock 99 = .ok (.iconst 0, 1) := by decide +kernel
theorem dX5_lock_100 : decode cX5_lock 100 = .ok (.ireturn, 1) := by decide +kernel
theorem dX5_lock_101 : decode cX5_lock 101 = .ok (.aload 4, 2) := by decide +kernel
theorem dX5_lock_103 : decode cX5_lock 103 = .ok (.invokevirtual 140, 3) := by decide +kernel
theorem dX5_lock_106 : decode cX5_lock 106 = .ok (.ifCond .eq 19, 3) := by decide +kernel
theorem dX5_lock_109 : decode cX5_lock 109 = .ok (.aload_n 0, 1) := by decide +kernel
theorem dX5_lock_110 : decode cX5_lock 110 = .ok (.getfield 10, 3) := by decide +kernel
theorem dX5_lock_113 : decode cX5_lock 113 = .ok (.aload 4, 2) := by decide +kernel
theorem dX5_lock_115 : decode cX5_lock 115 = .ok (.invokevirtual 148, 3) := by decide +kernel
theorem dX5_lock_118 : decode cX5_lock 118 = .ok (.ifCond .eq 7, 3) := by decide +kernel
theorem dX5_lock_121 : decode cX5_lock 121 = .ok (.iconst 1, 1) := by decide +kernel
theorem dX5_lock_122 : decode cX5_lock 122 = .ok (.goto 4, 3) := by decide +kernel
theorem dX5_lock_125 : decode cX5_lock 125 = .ok (.iconst 0, 1) := by decide +kernel
theorem dX5_lock_126 : decode cX5_lock 126 = .ok (.ireturn, 1) := by decide +kernel
theorem dX5_lock_127 : decode cX5_lock 127 = .ok (.bipush (-2), 2) := by decide +kernel
theorem dX5_lock_129 : decode cX5_lock 129 = .ok (.ireturn, 1) := by decide +kernel
theorem dX5_versions_0 : decode cX5_versions 0 = .ok (.iload_n 1, 1) := by decide +kernel
theorem dX5_versions_1 : decode cX5_versions 1 = .ok (.iload_n 2, 1) := by decide +kernel
theorem dX5_versions_2 : decode cX5_versions 2 = .ok (.invokestatic 59, 3) := by decide +kernel
theorem dX5_versions_5 : decode cX5_versions 5 = .ok (.ifCond .ne 5, 3) := by decide +kernel
theorem dX5_versions_8 : decode cX5_versions 8 = .ok (.iconst (-1), 1) := by decide +kernel
theorem dX5_versions_9 : decode cX5_versions 9 = .ok (.ireturn, 1) := by decide +kernel
theorem dX5_versions_10 : decode cX5_versions 10 = .ok (.aload_n 0, 1) := by decide +kernel
theorem dX5_versions_11 : decode cX5_versions 11 = .ok (.getfield 10, 3) := by decide +kernel
theorem dX5_versions_14 : decode cX5_versions 14 = .ok (.getfield 125, 3) := by decide +kernel
theorem dX5_versions_17 : decode cX5_versions 17 = .ok (.iload_n 1, 1) := by decide +kernel
theorem dX5_versions_18 : decode cX5_versions 18 = .ok (.iload_n 2, 1) := by decide +kernel
theorem dX5_versions_19 : decode cX5_versions 19 = .ok (.invokestatic 63, 3) := by decide +kernel
theorem dX5_versions_22 : decode cX5_versions 22 = .ok (.aaload, 1) := by decide +kernel
theorem dX5_versions_23 : decode cX5_versions 23 = .ok (.getfield 151, 3) := by decide +kernel
theorem dX5_versions_26 : decode cX5_versions 26 = .ok (.invokestatic 155, 3) := by decide +kernel
theorem dX5_versions_29 : decode cX5_versions 29 = .ok (.ireturn, 1) := by decide +kernel
theorem dX5_version_0 : decode cX5_version 0 = .ok (.iload_n 1, 1) := by decide +kernel
theorem dX5_version_1 : decode cX5_version 1 = .ok (.iload_n 2, 1) := by decide +kernel
theorem dX5_version_2 : decode cX5_version 2 = .ok (.invokestatic 59, 3) := by decide +kernel
theorem dX5_version_5 : decode cX5_version 5 = .ok (.ifCond .ne 5, 3) := by decide +kernel
theorem dX5_version_8 : decode cX5_version 8 = .ok (.iconst (-1), 1) := by decide +kernel
theorem dX5_version_9 : decode cX5_version 9 = .ok (.ireturn, 1) := by decide +kernel
theorem dX5_version_10 : decode cX5_version 10 = .ok (.aload_n 0, 1) := by decide +kernel
theorem dX5_version_11 : decode cX5_version 11 = .ok (.getfield 10, 3) := by decide +kernel
theorem dX5_version_14 : decode cX5_version 14 = .ok (.getfield 125, 3) := by decide +kernel
theorem dX5_version_17 : decode cX5_version 17 = .ok (.iload_n 1, 1) := by decide +kernel
theorem dX5_version_18 : decode cX5_version 18 = .ok (.iload_n 2, 1) := by decide +kernel
theorem dX5_version_19 : decode cX5_version 19 = .ok (.invokestatic 63, 3) := by decide +kernel
theorem dX5_version_22 : decode cX5_version 22 = .ok (.aaload, 1) := by decide +kernel
theorem dX5_version_23 : decode cX5_version 23 = .ok (.astore 5, 2) := by decide +kernel
theorem dX5_version_25 : decode cX5_version 25 = .ok (.aload 5, 2) := by decide +kernel
theorem dX5_version_27 : decode cX5_version 27 = .ok (.getfield 151, 3) := by decide +kernel
theorem dX5_version_30 : decode cX5_version 30 = .ok (.iload_n 3, 1) := by decide +kernel
theorem dX5_version_31 : decode cX5_version 31 = .ok (.invokestatic 161, 3) := by decide +kernel
theorem dX5_version_34 : decode cX5_version 34 = .ok (.astore 6, 2) := by decide +kernel
theorem dX5_version_36 : decode cX5_version 36 = .ok (.aload 6, 2) := by decide +kernel
theorem dX5_version_38 : decode cX5_version 38 = .ok (.ifnonnull 5, 3) := by decide +kernel
theorem dX5_version_41 : decode cX5_version 41 = .ok (.iconst (-1), 1) := by decide +kernel
theorem dX5_version_42 : decode cX5_version 42 = .ok (.ireturn, 1) := by decide +kernel
theorem dX5_version_43 : decode cX5_version 43 = .ok (.iload 4, 2) := by decide +kernel
theorem dX5_version_45 : decode cX5_version 45 = .ok (.tableswitch 62 0 2 #[27, 33, 39], 27) := by decide +kernel
theorem dX5_version_72 : decode cX5_version 72 = .ok (.aload 6, 2) := by decide +kernel
theorem dX5_version_74 : decode cX5_version 74 = .ok (.getfield 165, 3) := by decide +kernel
theorem dX5_version_77 : decode cX5_version 77 = .ok (.ireturn, 1) := by decide +kernel
theorem dX5_version_78 : decode cX5_version 78 = .ok (.aload 6, 2) := by decide +kernel
theorem dX5_version_80 : decode cX5_version 80 = .ok (.getfield 168, 3) := by decide +kernel
theorem dX5_version_83 : decode cX5_version 83 = .ok (.ireturn, 1) := by decide +kernel
theorem dX5_version_84 : decode cX5_version 84 = .ok (.aload 6, 2) := by decide +kernel
theorem dX5_version_86 : decode cX5_version 86 = .ok (.getfield 168, 3) := by decide +kernel
theorem dX5_version_89 : decode cX5_version 89 = .ok (.ifCond .ne 7, 3) := by decide +kernel
theorem dX5_version_92 : decode cX5_version 92 = .ok (.iconst 0, 1) := by decide +kernel
theorem dX5_version_93 : decode cX5_version 93 = .ok (.goto 13, 3) := by decide +kernel
theorem dX5_version_96 : decode cX5_version 96 = .ok (.aload 5, 2) := by decide +kernel
theorem dX5_version_98 : decode cX5_version 98 = .ok (.aload 6, 2) := by decide +kernel
theorem dX5_version_100 : decode cX5_version 100 = .ok (.getfield 168, 3) := by decide +kernel
theorem dX5_version_103 : decode cX5_version 103 = .ok (.invokevirtual 171, 3) := by decide +kernel
theorem dX5_version_106 : decode cX5_version 106 = .ok (.ireturn, 1) := by decide +kernel
theorem dX5_version_107 : decode cX5_version 107 = .ok (.bipush (-2), 2) := by decide +kernel
theorem dX5_version_109 : decode cX5_version 109 = .ok (.ireturn, 1) := by decide +kernel
theorem dX5_data_0 : decode cX5_data 0 = .ok (.iload_n 1, 1) := by decide +kernel
theorem dX5_data_1 : decode cX5_data 1 = .ok (.iload_n 2, 1) := by decide +kernel
theorem dX5_data_2 : decode cX5_data 2 = .ok (.invokestatic 59, 3) := by decide +kernel
theorem dX5_data_5 : decode cX5_data 5 = .ok (.ifCond .ne 5, 3) := by decide +kernel
theorem dX5_data_8 : decode cX5_data 8 = .ok (.iconst (-1), 1) := by decide +kernel
theorem dX5_data_9 : decode cX5_data 9 = .ok (.ireturn, 1) := by decide +kernel
theorem dX5_data_10 : decode cX5_data 10 = .ok (.aload_n 0, 1) := by decide +kernel
theorem dX5_data_11 : decode cX5_data 11 = .ok (.getfield 10, 3) := by decide +kernel
theorem dX5_data_14 : decode cX5_data 14 = .ok (.getfield 125, 3) := by decide +kernel
theorem dX5_data_17 : decode cX5_data 17 = .ok (.iload_n 1, 1) := by decide +kernel
theorem dX5_data_18 : decode cX5_data 18 = .ok (.iload_n 2, 1) := by decide +kernel
theorem dX5_data_19 : decode cX5_data 19 = .ok (.invokestatic 63, 3) := by decide +kernel
theorem dX5_data_22 : decode cX5_data 22 = .ok (.aaload, 1) := by decide +kernel
theorem dX5_data_23 : decode cX5_data 23 = .ok (.getfield 174, 3) := by decide +kernel
theorem dX5_data_26 : decode cX5_data 26 = .ok (.astore 4, 2) := by decide +kernel
theorem dX5_data_28 : decode cX5_data 28 = .ok (.iload_n 3, 1) := by decide +kernel
theorem dX5_data_29 : decode cX5_data 29 = .ok (.lookupswitch 48 #[(0, 27), (1, 33)], 27) := by decide +kernel
theorem dX5_data_56 : decode cX5_data 56 = .ok (.aload 4, 2) := by decide +kernel
theorem dX5_data_58 : decode cX5_data 58 = .ok (.invokestatic 155, 3) := by decide +kernel
theorem dX5_data_61 : decode cX5_data 61 = .ok (.ireturn, 1) := by decide +kernel
theorem dX5_data_62 : decode cX5_data 62 = .ok (.aload 4, 2) := by decide +kernel
theorem dX5_data_64 : decode cX5_data 64 = .ok (.ifnonnull 7, 3) := by decide +kernel
theorem dX5_data_67 : decode cX5_data 67 = .ok (.iconst 0, 1) := by decide +kernel
theorem dX5_data_68 : decode cX5_data 68 = .ok (.goto 8, 3) := by decide +kernel
theorem dX5_data_71 : decode cX5_data 71 = .ok (.aload 4, 2) := by decide +kernel
theorem dX5_data_73 : decode cX5_data 73 = .ok (.getfield 165, 3) := by decide +kernel
theorem dX5_data_76 : decode cX5_data 76 = .ok (.ireturn, 1) := by decide +kernel
theorem dX5_data_77 : decode cX5_data 77 = .ok (.bipush (-2), 2) := by decide +kernel
theorem dX5_data_79 : decode cX5_data 79 = .ok (.ireturn, 1) := by decide +kernel
theorem dX5_told_0 : decode cX5_told 0 = .ok (.iload_n 1, 1) := by decide +kernel
theorem dX5_told_1 : decode cX5_told 1 = .ok (.tableswitch 117 0 8 #[51, 59, 67, 75, 83, 91, 99, 104, 109], 51) := by decide +kernel
theorem dX5_told_52 : decode cX5_told 52 = .ok (.aload_n 0, 1) := by decide +kernel
theorem dX5_told_53 : decode cX5_told 53 = .ok (.getfield 19, 3) := by decide +kernel
theorem dX5_told_56 : decode cX5_told 56 = .ok (.getfield 103, 3) := by decide +kernel
theorem dX5_told_59 : decode cX5_told 59 = .ok (.ireturn, 1) := by decide +kernel
theorem dX5_told_60 : decode cX5_told 60 = .ok (.aload_n 0, 1) := by decide +kernel
theorem dX5_told_61 : decode cX5_told 61 = .ok (.getfield 19, 3) := by decide +kernel
theorem dX5_told_64 : decode cX5_told 64 = .ok (.getfield 177, 3) := by decide +kernel
theorem dX5_told_67 : decode cX5_told 67 = .ok (.ireturn, 1) := by decide +kernel
theorem dX5_told_68 : decode cX5_told 68 = .ok (.aload_n 0, 1) := by decide +kernel
theorem dX5_told_69 : decode cX5_told 69 = .ok (.getfield 10, 3) := by decide +kernel
theorem dX5_told_72 : decode cX5_told 72 = .ok (.getfield 180, 3) := by decide +kernel
theorem dX5_told_75 : decode cX5_told 75 = .ok (.ireturn, 1) := by decide +kernel
theorem dX5_told_76 : decode cX5_told 76 = .ok (.aload_n 0, 1) := by decide +kernel
theorem dX5_told_77 : decode cX5_told 77 = .ok (.getfield 10, 3) := by decide +kernel
theorem dX5_told_80 : decode cX5_told 80 = .ok (.getfield 100, 3) := by decide +kernel
theorem dX5_told_83 : decode cX5_told 83 = .ok (.ireturn, 1) := by decide +kernel
theorem dX5_told_84 : decode cX5_told 84 = .ok (.aload_n 0, 1) := by decide +kernel
theorem dX5_told_85 : decode cX5_told 85 = .ok (.getfield 10, 3) := by decide +kernel
theorem dX5_told_88 : decode cX5_told 88 = .ok (.getfield 183, 3) := by decide +kernel
theorem dX5_told_91 : decode cX5_told 91 = .ok (.ireturn, 1) := by decide +kernel
theorem dX5_told_92 : decode cX5_told 92 = .ok (.aload_n 0, 1) := by decide +kernel
theorem dX5_told_93 : decode cX5_told 93 = .ok (.getfield 10, 3) := by decide +kernel
theorem dX5_told_96 : decode cX5_told 96 = .ok (.getfield 186, 3) := by decide +kernel
theorem dX5_told_99 : decode cX5_told 99 = .ok (.ireturn, 1) := by decide +kernel
theorem dX5_told_100 : decode cX5_told 100 = .ok (.aload_n 0, 1) := by decide +kernel
theorem dX5_told_101 : decode cX5_told 101 = .ok (.getfield 41, 3) := by decide +kernel
theorem dX5_told_104 : decode cX5_told 104 = .ok (.ireturn, 1) := by decide +kernel
theorem dX5_told_105 : decode cX5_told 105 = .ok (.aload_n 0, 1) := by decide +kernel
theorem dX5_told_106 : decode cX5_told 106 = .ok (.getfield 189, 3) := by decide +kernel
theorem dX5_told_109 : decode cX5_told 109 = .ok (.ireturn, 1) := by decide +kernel
theorem dX5_told_110 : decode cX5_told 110 = .ok (.aload_n 0, 1) := by decide +kernel
theorem dX5_told_111 : decode cX5_told 111 = .ok (.getfield 10, 3) := by decide +kernel
theorem dX5_told_114 : decode cX5_told 114 = .ok (.getfield 192, 3) := by decide +kernel
theorem dX5_told_117 : decode cX5_told 117 = .ok (.ireturn, 1) := by decide +kernel
theorem dX5_told_118 : decode cX5_told 118 = .ok (.bipush (-2), 2) := by decide +kernel
theorem dX5_told_120 : decode cX5_told 120 = .ok (.ireturn, 1) := by decide +kernel
theorem dX5_isClient_0 : decode cX5_isClient 0 = .ok (.iload_n 0, 1) := by decide +kernel
theorem dX5_isClient_1 : decode cX5_isClient 1 = .ok (.ifCond .lt 13, 3) := by decide +kernel
theorem dX5_isClient_4 : decode cX5_isClient 4 = .ok (.iload_n 0, 1) := by decide +kernel
theorem dX5_isClient_5 : decode cX5_isClient 5 = .ok (.bipush 8, 2) := by decide +kernel
theorem dX5_isClient_7 : decode cX5_isClient 7 = .ok (.if_icmp .ge 7, 3) := by decide +kernel
theorem dX5_isClient_10 : decode cX5_isClient 10 = .ok (.iconst 1, 1) := by decide +kernel
theorem dX5_isClient_11 : decode cX5_isClient 11 = .ok (.goto 4, 3) := by decide +kernel
theorem dX5_isClient_14 : decode cX5_isClient 14 = .ok (.iconst 0, 1) := by decide +kernel
theorem dX5_isClient_15 : decode cX5_isClient 15 = .ok (.ireturn, 1) := by decide +kernel
theorem dX5_isRow_0 : decode cX5_isRow 0 = .ok (.iload_n 0, 1) := by decide +kernel
theorem dX5_isRow_1 : decode cX5_isRow 1 = .ok (.ifCond .lt 13, 3) := by decide +kernel
theorem dX5_isRow_4 : decode cX5_isRow 4 = .ok (.iload_n 0, 1) := by decide +kernel
theorem dX5_isRow_5 : decode cX5_isRow 5 = .ok (.bipush 64, 2) := by decide +kernel
theorem dX5_isRow_7 : decode cX5_isRow 7 = .ok (.if_icmp .ge 7, 3) := by decide +kernel
theorem dX5_isRow_10 : decode cX5_isRow 10 = .ok (.iconst 1, 1) := by decide +kernel
theorem dX5_isRow_11 : decode cX5_isRow 11 = .ok (.goto 4, 3) := by decide +kernel
theorem dX5_isRow_14 : decode cX5_isRow 14 = .ok (.iconst 0, 1) := by decide +kernel
theorem dX5_isRow_15 : decode cX5_isRow 15 = .ok (.ireturn, 1) := by decide +kernel
theorem dX5_isCell_0 : decode cX5_isCell 0 = .ok (.iload_n 0, 1) := by decide +kernel
theorem dX5_isCell_1 : decode cX5_isCell 1 = .ok (.invokestatic 74, 3) := by decide +kernel
theorem dX5_isCell_4 : decode cX5_isCell 4 = .ok (.ifCond .eq 16, 3) := by decide +kernel
theorem dX5_isCell_7 : decode cX5_isCell 7 = .ok (.iload_n 1, 1) := by decide +kernel
theorem dX5_isCell_8 : decode cX5_isCell 8 = .ok (.ifCond .lt 12, 3) := by decide +kernel
theorem dX5_isCell_11 : decode cX5_isCell 11 = .ok (.iload_n 1, 1) := by decide +kernel
theorem dX5_isCell_12 : decode cX5_isCell 12 = .ok (.iconst 4, 1) := by decide +kernel
theorem dX5_isCell_13 : decode cX5_isCell 13 = .ok (.if_icmp .ge 7, 3) := by decide +kernel
theorem dX5_isCell_16 : decode cX5_isCell 16 = .ok (.iconst 1, 1) := by decide +kernel
theorem dX5_isCell_17 : decode cX5_isCell 17 = .ok (.goto 4, 3) := by decide +kernel
theorem dX5_isCell_20 : decode cX5_isCell 20 = .ok (.iconst 0, 1) := by decide +kernel
theorem dX5_isCell_21 : decode cX5_isCell 21 = .ok (.ireturn, 1) := by decide +kernel
theorem dX5_isTime_0 : decode cX5_isTime 0 = .ok (.iload_n 0, 1) := by decide +kernel
theorem dX5_isTime_1 : decode cX5_isTime 1 = .ok (.ifCond .lt 13, 3) := by decide +kernel
theorem dX5_isTime_4 : decode cX5_isTime 4 = .ok (.iload_n 0, 1) := by decide +kernel
theorem dX5_isTime_5 : decode cX5_isTime 5 = .ok (.ldc 195, 2) := by decide +kernel
theorem dX5_isTime_7 : decode cX5_isTime 7 = .ok (.if_icmp .gt 7, 3) := by decide +kernel
theorem dX5_isTime_10 : decode cX5_isTime 10 = .ok (.iconst 1, 1) := by decide +kernel
theorem dX5_isTime_11 : decode cX5_isTime 11 = .ok (.goto 4, 3) := by decide +kernel
theorem dX5_isTime_14 : decode cX5_isTime 14 = .ok (.iconst 0, 1) := by decide +kernel
theorem dX5_isTime_15 : decode cX5_isTime 15 = .ok (.ireturn, 1) := by decide +kernel
theorem dX5_cellIndex_0 : decode cX5_cellIndex 0 = .ok (.iconst 4, 1) := by decide +kernel
theorem dX5_cellIndex_1 : decode cX5_cellIndex 1 = .ok (.iload_n 0, 1) := by decide +kernel
theorem dX5_cellIndex_2 : decode cX5_cellIndex 2 = .ok (.imul, 1) := by decide +kernel
theorem dX5_cellIndex_3 : decode cX5_cellIndex 3 = .ok (.iload_n 1, 1) := by decide +kernel
theorem dX5_cellIndex_4 : decode cX5_cellIndex 4 = .ok (.iadd, 1) := by decide +kernel
theorem dX5_cellIndex_5 : decode cX5_cellIndex 5 = .ok (.ireturn, 1) := by decide +kernel
theorem dX5_look_0 : decode cX5_look 0 = .ok (.aload_n 1, 1) := by decide +kernel
theorem dX5_look_1 : decode cX5_look 1 = .ok (.iload_n 2, 1) := by decide +kernel
theorem dX5_look_2 : decode cX5_look 2 = .ok (.invokevirtual 196, 3) := by decide +kernel
theorem dX5_look_5 : decode cX5_look 5 = .ok (.istore_n 3, 1) := by decide +kernel
theorem dX5_look_6 : decode cX5_look 6 = .ok (.iload_n 3, 1) := by decide +kernel
theorem dX5_look_7 : decode cX5_look 7 = .ok (.ifCond .lt 25, 3) := by decide +kernel
theorem dX5_look_10 : decode cX5_look 10 = .ok (.aload_n 1, 1) := by decide +kernel
theorem dX5_look_11 : decode cX5_look 11 = .ok (.getfield 199, 3) := by decide +kernel
theorem dX5_look_14 : decode cX5_look 14 = .ok (.iload_n 3, 1) := by decide +kernel
theorem dX5_look_15 : decode cX5_look 15 = .ok (.iaload, 1) := by decide +kernel
theorem dX5_look_16 : decode cX5_look 16 = .ok (.iconst (-1), 1) := by decide +kernel
theorem dX5_look_17 : decode cX5_look 17 = .ok (.if_icmp .ne 8, 3) := by decide +kernel
theorem dX5_look_20 : decode cX5_look 20 = .ok (.bipush (-7), 2) := by decide +kernel
theorem dX5_look_22 : decode cX5_look 22 = .ok (.goto 9, 3) := by decide +kernel
theorem dX5_look_25 : decode cX5_look 25 = .ok (.aload_n 1, 1) := by decide +kernel
theorem dX5_look_26 : decode cX5_look 26 = .ok (.getfield 199, 3) := by decide +kernel
theorem dX5_look_29 : decode cX5_look 29 = .ok (.iload_n 3, 1) := by decide +kernel
theorem dX5_look_30 : decode cX5_look 30 = .ok (.iaload, 1) := by decide +kernel
theorem dX5_look_31 : decode cX5_look 31 = .ok (.ireturn, 1) := by decide +kernel
theorem dX5_look_32 : decode cX5_look 32 = .ok (.aload_n 0, 1) := by decide +kernel
theorem dX5_look_33 : decode cX5_look 33 = .ok (.getfield 10, 3) := by decide +kernel
theorem dX5_look_36 : decode cX5_look 36 = .ok (.getfield 125, 3) := by decide +kernel
theorem dX5_look_39 : decode cX5_look 39 = .ok (.iload_n 2, 1) := by decide +kernel
theorem dX5_look_40 : decode cX5_look 40 = .ok (.aaload, 1) := by decide +kernel
theorem dX5_look_41 : decode cX5_look 41 = .ok (.astore 4, 2) := by decide +kernel
theorem dX5_look_43 : decode cX5_look 43 = .ok (.aload 4, 2) := by decide +kernel
theorem dX5_look_45 : decode cX5_look 45 = .ok (.invokevirtual 140, 3) := by decide +kernel
theorem dX5_look_48 : decode cX5_look 48 = .ok (.ifCond .eq 39, 3) := by decide +kernel
theorem dX5_look_51 : decode cX5_look 51 = .ok (.aload 4, 2) := by decide +kernel
theorem dX5_look_53 : decode cX5_look 53 = .ok (.getfield 129, 3) := by decide +kernel
theorem dX5_look_56 : decode cX5_look 56 = .ok (.aload_n 1, 1) := by decide +kernel
theorem dX5_look_57 : decode cX5_look 57 = .ok (.getfield 56, 3) := by decide +kernel
theorem dX5_look_60 : decode cX5_look 60 = .ok (.if_icmp .ge 27, 3) := by decide +kernel
theorem dX5_look_63 : decode cX5_look 63 = .ok (.aload_n 0, 1) := by decide +kernel
theorem dX5_look_64 : decode cX5_look 64 = .ok (.aload 4, 2) := by decide +kernel
theorem dX5_look_66 : decode cX5_look 66 = .ok (.invokevirtual 202, 3) := by decide +kernel
theorem dX5_look_69 : decode cX5_look 69 = .ok (.ifCond .ne 6, 3) := by decide +kernel
theorem dX5_look_72 : decode cX5_look 72 = .ok (.bipush (-6), 2) := by decide +kernel
theorem dX5_look_74 : decode cX5_look 74 = .ok (.ireturn, 1) := by decide +kernel
theorem dX5_look_75 : decode cX5_look 75 = .ok (.aload_n 0, 1) := by decide +kernel
theorem dX5_look_76 : decode cX5_look 76 = .ok (.getfield 10, 3) := by decide +kernel
theorem dX5_look_79 : decode cX5_look 79 = .ok (.aload 4, 2) := by decide +kernel
theorem dX5_look_81 : decode cX5_look 81 = .ok (.invokevirtual 205, 3) := by decide +kernel
theorem dX5_look_84 : decode cX5_look 84 = .ok (.bipush (-5), 2) := by decide +kernel
theorem dX5_look_86 : decode cX5_look 86 = .ok (.ireturn, 1) := by decide +kernel
theorem dX5_look_87 : decode cX5_look 87 = .ok (.aload 4, 2) := by decide +kernel
theorem dX5_look_89 : decode cX5_look 89 = .ok (.aload_n 1, 1) := by decide +kernel
theorem dX5_look_90 : decode cX5_look 90 = .ok (.getfield 56, 3) := by decide +kernel
theorem dX5_look_93 : decode cX5_look 93 = .ok (.invokevirtual 209, 3) := by decide +kernel
theorem dX5_look_96 : decode cX5_look 96 = .ok (.istore 5, 2) := by decide +kernel
theorem dX5_look_98 : decode cX5_look 98 = .ok (.iload 5, 2) := by decide +kernel
theorem dX5_look_100 : decode cX5_look 100 = .ok (.iconst (-1), 1) := by decide +kernel
theorem dX5_look_101 : decode cX5_look 101 = .ok (.if_icmp .ne 8, 3) := by decide +kernel
theorem dX5_look_104 : decode cX5_look 104 = .ok (.bipush (-7), 2) := by decide +kernel
theorem dX5_look_106 : decode cX5_look 106 = .ok (.goto 5, 3) := by decide +kernel
theorem dX5_look_109 : decode cX5_look 109 = .ok (.iload 5, 2) := by decide +kernel
theorem dX5_look_111 : decode cX5_look 111 = .ok (.ireturn, 1) := by decide +kernel
theorem dX5_lookFrom_0 : decode cX5_lookFrom 0 = .ok (.iload_n 2, 1) := by decide +kernel
theorem dX5_lookFrom_1 : decode cX5_lookFrom 1 = .ok (.iconst 0, 1) := by decide +kernel
theorem dX5_lookFrom_2 : decode cX5_lookFrom 2 = .ok (.invokestatic 63, 3) := by decide +kernel
theorem dX5_lookFrom_5 : decode cX5_lookFrom 5 = .ok (.istore_n 3, 1) := by decide +kernel
theorem dX5_lookFrom_6 : decode cX5_lookFrom 6 = .ok (.iload_n 3, 1) := by decide +kernel
theorem dX5_lookFrom_7 : decode cX5_lookFrom 7 = .ok (.sipush 256, 3) := by decide +kernel
theorem dX5_lookFrom_10 : decode cX5_lookFrom 10 = .ok (.if_icmp .ge 36, 3) := by decide +kernel
theorem dX5_lookFrom_13 : decode cX5_lookFrom 13 = .ok (.aload_n 0, 1) := by decide +kernel
theorem dX5_lookFrom_14 : decode cX5_lookFrom 14 = .ok (.aload_n 1, 1) := by decide +kernel
theorem dX5_lookFrom_15 : decode cX5_lookFrom 15 = .ok (.iload_n 3, 1) := by decide +kernel
theorem dX5_lookFrom_16 : decode cX5_lookFrom 16 = .ok (.invokevirtual 67, 3) := by decide +kernel
theorem dX5_lookFrom_19 : decode cX5_lookFrom 19 = .ok (.istore 4, 2) := by decide +kernel
theorem dX5_lookFrom_21 : decode cX5_lookFrom 21 = .ok (.iload 4, 2) := by decide +kernel
theorem dX5_lookFrom_23 : decode cX5_lookFrom 23 = .ok (.ifCond .lt 7, 3) := by decide +kernel
theorem dX5_lookFrom_26 : decode cX5_lookFrom 26 = .ok (.iload_n 3, 1) := by decide +kernel
theorem dX5_lookFrom_27 : decode cX5_lookFrom 27 = .ok (.iconst 4, 1) := by decide +kernel
theorem dX5_lookFrom_28 : decode cX5_lookFrom 28 = .ok (.idiv, 1) := by decide +kernel
theorem dX5_lookFrom_29 : decode cX5_lookFrom 29 = .ok (.ireturn, 1) := by decide +kernel
theorem dX5_lookFrom_30 : decode cX5_lookFrom 30 = .ok (.iload 4, 2) := by decide +kernel
theorem dX5_lookFrom_32 : decode cX5_lookFrom 32 = .ok (.bipush (-7), 2) := by decide +kernel
theorem dX5_lookFrom_34 : decode cX5_lookFrom 34 = .ok (.if_icmp .eq 6, 3) := by decide +kernel
theorem dX5_lookFrom_37 : decode cX5_lookFrom 37 = .ok (.iload 4, 2) := by decide +kernel
theorem dX5_lookFrom_39 : decode cX5_lookFrom 39 = .ok (.ireturn, 1) := by decide +kernel
theorem dX5_lookFrom_40 : decode cX5_lookFrom 40 = .ok (.iinc 3 1, 3) := by decide +kernel
theorem dX5_lookFrom_43 : decode cX5_lookFrom 43 = .ok (.goto (-37), 3) := by decide +kernel
theorem dX5_lookFrom_46 : decode cX5_lookFrom 46 = .ok (.bipush (-7), 2) := by decide +kernel
theorem dX5_lookFrom_48 : decode cX5_lookFrom 48 = .ok (.ireturn, 1) := by decide +kernel
theorem dX5_isForCleaning_0 : decode cX5_isForCleaning 0 = .ok (.aload_n 0, 1) := by decide +kernel
theorem dX5_isForCleaning_1 : decode cX5_isForCleaning 1 = .ok (.getfield 10, 3) := by decide +kernel
theorem dX5_isForCleaning_4 : decode cX5_isForCleaning 4 = .ok (.aload_n 1, 1) := by decide +kernel
theorem dX5_isForCleaning_5 : decode cX5_isForCleaning 5 = .ok (.invokevirtual 148, 3) := by decide +kernel
theorem dX5_isForCleaning_8 : decode cX5_isForCleaning 8 = .ok (.ifCond .ne 11, 3) := by decide +kernel
theorem dX5_isForCleaning_11 : decode cX5_isForCleaning 11 = .ok (.aload_n 0, 1) := by decide +kernel
theorem dX5_isForCleaning_12 : decode cX5_isForCleaning 12 = .ok (.aload_n 1, 1) := by decide +kernel
theorem dX5_isForCleaning_13 : decode cX5_isForCleaning 13 = .ok (.invokevirtual 144, 3) := by decide +kernel
theorem dX5_isForCleaning_16 : decode cX5_isForCleaning 16 = .ok (.ifCond .eq 7, 3) := by decide +kernel
theorem dX5_isForCleaning_19 : decode cX5_isForCleaning 19 = .ok (.iconst 1, 1) := by decide +kernel
theorem dX5_isForCleaning_20 : decode cX5_isForCleaning 20 = .ok (.goto 4, 3) := by decide +kernel
theorem dX5_isForCleaning_23 : decode cX5_isForCleaning 23 = .ok (.iconst 0, 1) := by decide +kernel
theorem dX5_isForCleaning_24 : decode cX5_isForCleaning 24 = .ok (.ireturn, 1) := by decide +kernel
theorem dX5_isLate_0 : decode cX5_isLate 0 = .ok (.iconst 0, 1) := by decide +kernel
theorem dX5_isLate_1 : decode cX5_isLate 1 = .ok (.istore_n 2, 1) := by decide +kernel
theorem dX5_isLate_2 : decode cX5_isLate 2 = .ok (.iload_n 2, 1) := by decide +kernel
theorem dX5_isLate_3 : decode cX5_isLate 3 = .ok (.bipush 8, 2) := by decide +kernel
theorem dX5_isLate_5 : decode cX5_isLate 5 = .ok (.if_icmp .ge 56, 3) := by decide +kernel
theorem dX5_isLate_8 : decode cX5_isLate 8 = .ok (.aload_n 0, 1) := by decide +kernel
theorem dX5_isLate_9 : decode cX5_isLate 9 = .ok (.getfield 25, 3) := by decide +kernel
theorem dX5_isLate_12 : decode cX5_isLate 12 = .ok (.iload_n 2, 1) := by decide +kernel
theorem dX5_isLate_13 : decode cX5_isLate 13 = .ok (.aaload, 1) := by decide +kernel
theorem dX5_isLate_14 : decode cX5_isLate 14 = .ok (.astore_n 3, 1) := by decide +kernel
theorem dX5_isLate_15 : decode cX5_isLate 15 = .ok (.aload_n 3, 1) := by decide +kernel
theorem dX5_isLate_16 : decode cX5_isLate 16 = .ok (.getfield 38, 3) := by decide +kernel
theorem dX5_isLate_19 : decode cX5_isLate 19 = .ok (.ifCond .eq 36, 3) := by decide +kernel
theorem dX5_isLate_22 : decode cX5_isLate 22 = .ok (.aload_n 3, 1) := by decide +kernel
theorem dX5_isLate_23 : decode cX5_isLate 23 = .ok (.getfield 56, 3) := by decide +kernel
theorem dX5_isLate_26 : decode cX5_isLate 26 = .ok (.aload_n 1, 1) := by decide +kernel
theorem dX5_isLate_27 : decode cX5_isLate 27 = .ok (.getfield 129, 3) := by decide +kernel
theorem dX5_isLate_30 : decode cX5_isLate 30 = .ok (.if_icmp .ne 25, 3) := by decide +kernel
theorem dX5_isLate_33 : decode cX5_isLate 33 = .ok (.aload_n 0, 1) := by decide +kernel
theorem dX5_isLate_34 : decode cX5_isLate 34 = .ok (.getfield 41, 3) := by decide +kernel
theorem dX5_isLate_37 : decode cX5_isLate 37 = .ok (.aload_n 3, 1) := by decide +kernel
theorem dX5_isLate_38 : decode cX5_isLate 38 = .ok (.getfield 116, 3) := by decide +kernel
theorem dX5_isLate_41 : decode cX5_isLate 41 = .ok (.isub, 1) := by decide +kernel
theorem dX5_isLate_42 : decode cX5_isLate 42 = .ok (.aload_n 0, 1) := by decide +kernel
theorem dX5_isLate_43 : decode cX5_isLate 43 = .ok (.getfield 30, 3) := by decide +kernel
theorem dX5_isLate_46 : decode cX5_isLate 46 = .ok (.if_icmp .le 7, 3) := by decide +kernel
theorem dX5_isLate_49 : decode cX5_isLate 49 = .ok (.iconst 1, 1) := by decide +kernel
theorem dX5_isLate_50 : decode cX5_isLate 50 = .ok (.goto 4, 3) := by decide +kernel
theorem dX5_isLate_53 : decode cX5_isLate 53 = .ok (.iconst 0, 1) := by decide +kernel
theorem dX5_isLate_54 : decode cX5_isLate 54 = .ok (.ireturn, 1) := by decide +kernel
theorem dX5_isLate_55 : decode cX5_isLate 55 = .ok (.iinc 2 1, 3) := by decide +kernel
theorem dX5_isLate_58 : decode cX5_isLate 58 = .ok (.goto (-56), 3) := by decide +kernel
theorem dX5_isLate_61 : decode cX5_isLate 61 = .ok (.aload_n 0, 1) := by decide +kernel
theorem dX5_isLate_62 : decode cX5_isLate 62 = .ok (.getfield 41, 3) := by decide +kernel
theorem dX5_isLate_65 : decode cX5_isLate 65 = .ok (.aload_n 1, 1) := by decide +kernel
theorem dX5_isLate_66 : decode cX5_isLate 66 = .ok (.getfield 137, 3) := by decide +kernel
theorem dX5_isLate_69 : decode cX5_isLate 69 = .ok (.isub, 1) := by decide +kernel
theorem dX5_isLate_70 : decode cX5_isLate 70 = .ok (.aload_n 0, 1) := by decide +kernel
theorem dX5_isLate_71 : decode cX5_isLate 71 = .ok (.getfield 30, 3) := by decide +kernel
theorem dX5_isLate_74 : decode cX5_isLate 74 = .ok (.if_icmp .le 7, 3) := by decide +kernel
theorem dX5_isLate_77 : decode cX5_isLate 77 = .ok (.iconst 1, 1) := by decide +kernel
theorem dX5_isLate_78 : decode cX5_isLate 78 = .ok (.goto 4, 3) := by decide +kernel
theorem dX5_isLate_81 : decode cX5_isLate 81 = .ok (.iconst 0, 1) := by decide +kernel
theorem dX5_isLate_82 : decode cX5_isLate 82 = .ok (.ireturn, 1) := by decide +kernel
theorem dX5_isBeginBelow_0 : decode cX5_isBeginBelow 0 = .ok (.iconst 0, 1) := by decide +kernel
theorem dX5_isBeginBelow_1 : decode cX5_isBeginBelow 1 = .ok (.istore_n 2, 1) := by decide +kernel
theorem dX5_isBeginBelow_2 : decode cX5_isBeginBelow 2 = .ok (.iload_n 2, 1) := by decide +kernel
theorem dX5_isBeginBelow_3 : decode cX5_isBeginBelow 3 = .ok (.bipush 8, 2) := by decide +kernel
theorem dX5_isBeginBelow_5 : decode cX5_isBeginBelow 5 = .ok (.if_icmp .ge 36, 3) := by decide +kernel
theorem dX5_isBeginBelow_8 : decode cX5_isBeginBelow 8 = .ok (.aload_n 0, 1) := by decide +kernel
theorem dX5_isBeginBelow_9 : decode cX5_isBeginBelow 9 = .ok (.getfield 25, 3) := by decide +kernel
theorem dX5_isBeginBelow_12 : decode cX5_isBeginBelow 12 = .ok (.iload_n 2, 1) := by decide +kernel
theorem dX5_isBeginBelow_13 : decode cX5_isBeginBelow 13 = .ok (.aaload, 1) := by decide +kernel
theorem dX5_isBeginBelow_14 : decode cX5_isBeginBelow 14 = .ok (.getfield 38, 3) := by decide +kernel
theorem dX5_isBeginBelow_17 : decode cX5_isBeginBelow 17 = .ok (.ifCond .eq 18, 3) := by decide +kernel
theorem dX5_isBeginBelow_20 : decode cX5_isBeginBelow 20 = .ok (.aload_n 0, 1) := by decide +kernel
theorem dX5_isBeginBelow_21 : decode cX5_isBeginBelow 21 = .ok (.getfield 25, 3) := by decide +kernel
theorem dX5_isBeginBelow_24 : decode cX5_isBeginBelow 24 = .ok (.iload_n 2, 1) := by decide +kernel
theorem dX5_isBeginBelow_25 : decode cX5_isBeginBelow 25 = .ok (.aaload, 1) := by decide +kernel
theorem dX5_isBeginBelow_26 : decode cX5_isBeginBelow 26 = .ok (.getfield 56, 3) := by decide +kernel
theorem dX5_isBeginBelow_29 : decode cX5_isBeginBelow 29 = .ok (.iload_n 1, 1) := by decide +kernel
theorem dX5_isBeginBelow_30 : decode cX5_isBeginBelow 30 = .ok (.if_icmp .ge 5, 3) := by decide +kernel
theorem dX5_isBeginBelow_33 : decode cX5_isBeginBelow 33 = .ok (.iconst 1, 1) := by decide +kernel
theorem dX5_isBeginBelow_34 : decode cX5_isBeginBelow 34 = .ok (.ireturn, 1) := by decide +kernel
theorem dX5_isBeginBelow_35 : decode cX5_isBeginBelow 35 = .ok (.iinc 2 1, 3) := by decide +kernel
theorem dX5_isBeginBelow_38 : decode cX5_isBeginBelow 38 = .ok (.goto (-36), 3) := by decide +kernel
theorem dX5_isBeginBelow_41 : decode cX5_isBeginBelow 41 = .ok (.iconst 0, 1) := by decide +kernel
theorem dX5_isBeginBelow_42 : decode cX5_isBeginBelow 42 = .ok (.ireturn, 1) := by decide +kernel
theorem dX5_goOn_0 : decode cX5_goOn 0 = .ok (.aload_n 1, 1) := by decide +kernel
theorem dX5_goOn_1 : decode cX5_goOn 1 = .ok (.getfield 38, 3) := by decide +kernel
theorem dX5_goOn_4 : decode cX5_goOn 4 = .ok (.tableswitch 65 2 4 #[28, 53, 59], 28) := by decide +kernel
theorem dX5_goOn_32 : decode cX5_goOn 32 = .ok (.aload_n 1, 1) := by decide +kernel
theorem dX5_goOn_33 : decode cX5_goOn 33 = .ok (.getfield 119, 3) := by decide +kernel
theorem dX5_goOn_36 : decode cX5_goOn 36 = .ok (.aload_n 1, 1) := by decide +kernel
theorem dX5_goOn_37 : decode cX5_goOn 37 = .ok (.getfield 212, 3) := by decide +kernel
theorem dX5_goOn_40 : decode cX5_goOn 40 = .ok (.if_icmp .ge 11, 3) := by decide +kernel
theorem dX5_goOn_43 : decode cX5_goOn 43 = .ok (.aload_n 0, 1) := by decide +kernel
theorem dX5_goOn_44 : decode cX5_goOn 44 = .ok (.aload_n 1, 1) := by decide +kernel
theorem dX5_goOn_45 : decode cX5_goOn 45 = .ok (.invokevirtual 215, 3) := by decide +kernel
theorem dX5_goOn_48 : decode cX5_goOn 48 = .ok (.goto 8, 3) := by decide +kernel
theorem dX5_goOn_51 : decode cX5_goOn 51 = .ok (.aload_n 0, 1) := by decide +kernel
theorem dX5_goOn_52 : decode cX5_goOn 52 = .ok (.aload_n 1, 1) := by decide +kernel
theorem dX5_goOn_53 : decode cX5_goOn 53 = .ok (.invokevirtual 218, 3) := by decide +kernel
theorem dX5_goOn_56 : decode cX5_goOn 56 = .ok (.ireturn, 1) := by decide +kernel
theorem dX5_goOn_57 : decode cX5_goOn 57 = .ok (.aload_n 0, 1) := by decide +kernel
theorem dX5_goOn_58 : decode cX5_goOn 58 = .ok (.aload_n 1, 1) := by decide +kernel
theorem dX5_goOn_59 : decode cX5_goOn 59 = .ok (.invokevirtual 221, 3) := by decide +kernel
theorem dX5_goOn_62 : decode cX5_goOn 62 = .ok (.ireturn, 1) := by decide +kernel
theorem dX5_goOn_63 : decode cX5_goOn 63 = .ok (.aload_n 0, 1) := by decide +kernel
theorem dX5_goOn_64 : decode cX5_goOn 64 = .ok (.aload_n 1, 1) := by decide +kernel
theorem dX5_goOn_65 : decode cX5_goOn 65 = .ok (.invokevirtual 224, 3) := by decide +kernel
theorem dX5_goOn_68 : decode cX5_goOn 68 = .ok (.ireturn, 1) := by decide +kernel
theorem dX5_goOn_69 : decode cX5_goOn 69 = .ok (.bipush (-3), 2) := by decide +kernel
theorem dX5_goOn_71 : decode cX5_goOn 71 = .ok (.ireturn, 1) := by decide +kernel
theorem dX5_lockRow_0 : decode cX5_lockRow 0 = .ok (.aload_n 1, 1) := by decide +kernel
theorem dX5_lockRow_1 : decode cX5_lockRow 1 = .ok (.getfield 227, 3) := by decide +kernel
theorem dX5_lockRow_4 : decode cX5_lockRow 4 = .ok (.aload_n 1, 1) := by decide +kernel
theorem dX5_lockRow_5 : decode cX5_lockRow 5 = .ok (.getfield 119, 3) := by decide +kernel
theorem dX5_lockRow_8 : decode cX5_lockRow 8 = .ok (.iaload, 1) := by decide +kernel
theorem dX5_lockRow_9 : decode cX5_lockRow 9 = .ok (.iconst 0, 1) := by decide +kernel
theorem dX5_lockRow_10 : decode cX5_lockRow 10 = .ok (.invokestatic 63, 3) := by decide +kernel
theorem dX5_lockRow_13 : decode cX5_lockRow 13 = .ok (.istore_n 2, 1) := by decide +kernel
theorem dX5_lockRow_14 : decode cX5_lockRow 14 = .ok (.iconst 0, 1) := by decide +kernel
theorem dX5_lockRow_15 : decode cX5_lockRow 15 = .ok (.istore_n 3, 1) := by decide +kernel
theorem dX5_lockRow_16 : decode cX5_lockRow 16 = .ok (.iload_n 2, 1) := by decide +kernel
theorem dX5_lockRow_17 : decode cX5_lockRow 17 = .ok (.istore 4, 2) := by decide +kernel
theorem dX5_lockRow_19 : decode cX5_lockRow 19 = .ok (.iload 4, 2) := by decide +kernel
theorem dX5_lockRow_21 : decode cX5_lockRow 21 = .ok (.iload_n 2, 1) := by decide +kernel
theorem dX5_lockRow_22 : decode cX5_lockRow 22 = .ok (.iconst 4, 1) := by decide +kernel
theorem dX5_lockRow_23 : decode cX5_lockRow 23 = .ok (.iadd, 1) := by decide +kernel
theorem dX5_lockRow_24 : decode cX5_lockRow 24 = .ok (.if_icmp .ge 99, 3) := by decide +kernel
theorem dX5_lockRow_27 : decode cX5_lockRow 27 = .ok (.aload_n 1, 1) := by decide +kernel
theorem dX5_lockRow_28 : decode cX5_lockRow 28 = .ok (.iload 4, 2) := by decide +kernel
theorem dX5_lockRow_30 : decode cX5_lockRow 30 = .ok (.invokevirtual 196, 3) := by decide +kernel
theorem dX5_lockRow_33 : decode cX5_lockRow 33 = .ok (.ifCond .ge 6, 3) := by decide +kernel
theorem dX5_lockRow_36 : decode cX5_lockRow 36 = .ok (.goto 81, 3) := by decide +kernel
theorem dX5_lockRow_39 : decode cX5_lockRow 39 = .ok (.iinc 3 1, 3) := by decide +kernel
theorem dX5_lockRow_42 : decode cX5_lockRow 42 = .ok (.aload_n 0, 1) := by decide +kernel
theorem dX5_lockRow_43 : decode cX5_lockRow 43 = .ok (.getfield 10, 3) := by decide +kernel
theorem dX5_lockRow_46 : decode cX5_lockRow 46 = .ok (.getfield 125, 3) := by decide +kernel
theorem dX5_lockRow_49 : decode cX5_lockRow 49 = .ok (.iload 4, 2) := by decide +kernel
theorem dX5_lockRow_51 : decode cX5_lockRow 51 = .ok (.aaload, 1) := by decide +kernel
theorem dX5_lockRow_52 : decode cX5_lockRow 52 = .ok (.astore 5, 2) := by decide +kernel
theorem dX5_lockRow_54 : decode cX5_lockRow 54 = .ok (.aload 5, 2) := by decide +kernel
theorem dX5_lockRow_56 : decode cX5_lockRow 56 = .ok (.getfield 151, 3) := by decide +kernel
theorem dX5_lockRow_59 : decode cX5_lockRow 59 = .ok (.ifnull 24, 3) := by decide +kernel
theorem dX5_lockRow_62 : decode cX5_lockRow 62 = .ok (.aload 5, 2) := by decide +kernel
theorem dX5_lockRow_64 : decode cX5_lockRow 64 = .ok (.getfield 151, 3) := by decide +kernel
theorem dX5_lockRow_67 : decode cX5_lockRow 67 = .ok (.getfield 165, 3) := by decide +kernel
theorem dX5_lockRow_70 : decode cX5_lockRow 70 = .ok (.aload_n 1, 1) := by decide +kernel
theorem dX5_lockRow_71 : decode cX5_lockRow 71 = .ok (.getfield 56, 3) := by decide +kernel
theorem dX5_lockRow_74 : decode cX5_lockRow 74 = .ok (.if_icmp .lt 9, 3) := by decide +kernel
theorem dX5_lockRow_77 : decode cX5_lockRow 77 = .ok (.aload_n 0, 1) := by decide +kernel
theorem dX5_lockRow_78 : decode cX5_lockRow 78 = .ok (.aload_n 1, 1) := by decide +kernel
theorem dX5_lockRow_79 : decode cX5_lockRow 79 = .ok (.invokevirtual 230, 3) := by decide +kernel
theorem dX5_lockRow_82 : decode cX5_lockRow 82 = .ok (.ireturn, 1) := by decide +kernel
theorem dX5_lockRow_83 : decode cX5_lockRow 83 = .ok (.aload 5, 2) := by decide +kernel
theorem dX5_lockRow_85 : decode cX5_lockRow 85 = .ok (.invokevirtual 140, 3) := by decide +kernel
theorem dX5_lockRow_88 : decode cX5_lockRow 88 = .ok (.ifCond .eq 29, 3) := by decide +kernel
theorem dX5_lockRow_91 : decode cX5_lockRow 91 = .ok (.aload_n 0, 1) := by decide +kernel
theorem dX5_lockRow_92 : decode cX5_lockRow 92 = .ok (.aload 5, 2) := by decide +kernel
theorem dX5_lockRow_94 : decode cX5_lockRow 94 = .ok (.invokevirtual 202, 3) := by decide +kernel
theorem dX5_lockRow_97 : decode cX5_lockRow 97 = .ok (.ifCond .ne 9, 3) := by decide +kernel
theorem dX5_lockRow_100 : decode cX5_lockRow 100 = .ok (.aload_n 0, 1) := by decide +kernel
theorem dX5_lockRow_101 : decode cX5_lockRow 101 = .ok (.aload_n 1, 1) := by decide +kernel
theorem dX5_lockRow_102 : decode cX5_lockRow 102 = .ok (.invokevirtual 230, 3) := by decide +kernel
theorem dX5_lockRow_105 : decode cX5_lockRow 105 = .ok (.ireturn, 1) := by decide +kernel
theorem dX5_lockRow_106 : decode cX5_lockRow 106 = .ok (.aload_n 0, 1) := by decide +kernel
theorem dX5_lockRow_107 : decode cX5_lockRow 107 = .ok (.getfield 10, 3) := by decide +kernel
theorem dX5_lockRow_110 : decode cX5_lockRow 110 = .ok (.aload 5, 2) := by decide +kernel
theorem dX5_lockRow_112 : decode cX5_lockRow 112 = .ok (.invokevirtual 205, 3) := by decide +kernel
theorem dX5_lockRow_115 : decode cX5_lockRow 115 = .ok (.iconst 5, 1) := by decide +kernel
theorem dX5_lockRow_116 : decode cX5_lockRow 116 = .ok (.ireturn, 1) := by decide +kernel
theorem dX5_lockRow_117 : decode cX5_lockRow 117 = .ok (.iinc 4 1, 3) := by decide +kernel
theorem dX5_lockRow_120 : decode cX5_lockRow 120 = .ok (.goto (-101), 3) := by decide +kernel
theorem dX5_lockRow_123 : decode cX5_lockRow 123 = .ok (.aload_n 0, 1) := by decide +kernel
theorem dX5_lockRow_124 : decode cX5_lockRow 124 = .ok (.getfield 10, 3) := by decide +kernel
theorem dX5_lockRow_127 : decode cX5_lockRow 127 = .ok (.getfield 180, 3) := by decide +kernel
theorem dX5_lockRow_130 : decode cX5_lockRow 130 = .ok (.iload_n 3, 1) := by decide +kernel
theorem dX5_lockRow_131 : decode cX5_lockRow 131 = .ok (.iconst 3, 1) := by decide +kernel
theorem dX5_lockRow_132 : decode cX5_lockRow 132 = .ok (.imul, 1) := by decide +kernel
theorem dX5_lockRow_133 : decode cX5_lockRow 133 = .ok (.iadd, 1) := by decide +kernel
theorem dX5_lockRow_134 : decode cX5_lockRow 134 = .ok (.sipush 3000, 3) := by decide +kernel
theorem dX5_lockRow_137 : decode cX5_lockRow 137 = .ok (.if_icmp .le 6, 3) := by decide +kernel
theorem dX5_lockRow_140 : decode cX5_lockRow 140 = .ok (.bipush (-4), 2) := by decide +kernel
theorem dX5_lockRow_142 : decode cX5_lockRow 142 = .ok (.ireturn, 1) := by decide +kernel
theorem dX5_lockRow_143 : decode cX5_lockRow 143 = .ok (.iload_n 2, 1) := by decide +kernel
theorem dX5_lockRow_144 : decode cX5_lockRow 144 = .ok (.istore 4, 2) := by decide +kernel
theorem dX5_lockRow_146 : decode cX5_lockRow 146 = .ok (.iload 4, 2) := by decide +kernel
theorem dX5_lockRow_148 : decode cX5_lockRow 148 = .ok (.iload_n 2, 1) := by decide +kernel
theorem dX5_lockRow_149 : decode cX5_lockRow 149 = .ok (.iconst 4, 1) := by decide +kernel
theorem dX5_lockRow_150 : decode cX5_lockRow 150 = .ok (.iadd, 1) := by decide +kernel
theorem dX5_lockRow_151 : decode cX5_lockRow 151 = .ok (.if_icmp .ge 81, 3) := by decide +kernel
theorem dX5_lockRow_154 : decode cX5_lockRow 154 = .ok (.aload_n 1, 1) := by decide +kernel
theorem dX5_lockRow_155 : decode cX5_lockRow 155 = .ok (.iload 4, 2) := by decide +kernel
theorem dX5_lockRow_157 : decode cX5_lockRow 157 = .ok (.invokevirtual 196, 3) := by decide +kernel
theorem dX5_lockRow_160 : decode cX5_lockRow 160 = .ok (.istore 5, 2) := by decide +kernel
theorem dX5_lockRow_162 : decode cX5_lockRow 162 = .ok (.iload 5, 2) := by decide +kernel
theorem dX5_lockRow_164 : decode cX5_lockRow 164 = .ok (.ifCond .lt 62, 3) := by decide +kernel
theorem dX5_lockRow_167 : decode cX5_lockRow 167 = .ok (.aload_n 0, 1) := by decide +kernel
theorem dX5_lockRow_168 : decode cX5_lockRow 168 = .ok (.getfield 10, 3) := by decide +kernel
theorem dX5_lockRow_171 : decode cX5_lockRow 171 = .ok (.aload_n 0, 1) := by decide +kernel
theorem dX5_lockRow_172 : decode cX5_lockRow 172 = .ok (.getfield 10, 3) := by decide +kernel
theorem dX5_lockRow_175 : decode cX5_lockRow 175 = .ok (.getfield 125, 3) := by decide +kernel
theorem dX5_lockRow_178 : decode cX5_lockRow 178 = .ok (.iload 4, 2) := by decide +kernel
theorem dX5_lockRow_180 : decode cX5_lockRow 180 = .ok (.aaload, 1) := by decide +kernel
theorem dX5_lockRow_181 : decode cX5_lockRow 181 = .ok (.aload_n 1, 1) := by decide +kernel
theorem dX5_lockRow_182 : decode cX5_lockRow 182 = .ok (.getfield 56, 3) := by decide +kernel
theorem dX5_lockRow_185 : decode cX5_lockRow 185 = .ok (.aload_n 1, 1) := by decide +kernel
theorem dX5_lockRow_186 : decode cX5_lockRow 186 = .ok (.getfield 199, 3) := by decide +kernel
theorem dX5_lockRow_189 : decode cX5_lockRow 189 = .ok (.iload 5, 2) := by decide +kernel
theorem dX5_lockRow_191 : decode cX5_lockRow 191 = .ok (.iaload, 1) := by decide +kernel
theorem dX5_lockRow_192 : decode cX5_lockRow 192 = .ok (.invokevirtual 233, 3) := by decide +kernel
theorem dX5_lockRow_195 : decode cX5_lockRow 195 = .ok (.aload_n 0, 1) := by decide +kernel
theorem dX5_lockRow_196 : decode cX5_lockRow 196 = .ok (.getfield 10, 3) := by decide +kernel
theorem dX5_lockRow_199 : decode cX5_lockRow 199 = .ok (.aload_n 0, 1) := by decide +kernel
theorem dX5_lockRow_200 : decode cX5_lockRow 200 = .ok (.getfield 10, 3) := by decide +kernel
theorem dX5_lockRow_203 : decode cX5_lockRow 203 = .ok (.getfield 125, 3) := by decide +kernel
theorem dX5_lockRow_206 : decode cX5_lockRow 206 = .ok (.iload 4, 2) := by decide +kernel
theorem dX5_lockRow_208 : decode cX5_lockRow 208 = .ok (.aaload, 1) := by decide +kernel
theorem dX5_lockRow_209 : decode cX5_lockRow 209 = .ok (.aload_n 1, 1) := by decide +kernel
theorem dX5_lockRow_210 : decode cX5_lockRow 210 = .ok (.getfield 56, 3) := by decide +kernel
theorem dX5_lockRow_213 : decode cX5_lockRow 213 = .ok (.aload_n 1, 1) := by decide +kernel
theorem dX5_lockRow_214 : decode cX5_lockRow 214 = .ok (.getfield 237, 3) := by decide +kernel
theorem dX5_lockRow_217 : decode cX5_lockRow 217 = .ok (.iconst 0, 1) := by decide +kernel
theorem dX5_lockRow_218 : decode cX5_lockRow 218 = .ok (.iaload, 1) := by decide +kernel
theorem dX5_lockRow_219 : decode cX5_lockRow 219 = .ok (.aload_n 0, 1) := by decide +kernel
theorem dX5_lockRow_220 : decode cX5_lockRow 220 = .ok (.getfield 41, 3) := by decide +kernel
theorem dX5_lockRow_223 : decode cX5_lockRow 223 = .ok (.invokevirtual 239, 3) := by decide +kernel
theorem dX5_lockRow_226 : decode cX5_lockRow 226 = .ok (.iinc 4 1, 3) := by decide +kernel
theorem dX5_lockRow_229 : decode cX5_lockRow 229 = .ok (.goto (-83), 3) := by decide +kernel
theorem dX5_lockRow_232 : decode cX5_lockRow 232 = .ok (.aload_n 1, 1) := by decide +kernel
theorem dX5_lockRow_233 : decode cX5_lockRow 233 = .ok (.dup, 1) := by decide +kernel
theorem dX5_lockRow_234 : decode cX5_lockRow 234 = .ok (.getfield 119, 3) := by decide +kernel
theorem dX5_lockRow_237 : decode cX5_lockRow 237 = .ok (.iconst 1, 1) := by decide +kernel
theorem dX5_lockRow_238 : decode cX5_lockRow 238 = .ok (.iadd, 1) := by decide +kernel
theorem dX5_lockRow_239 : decode cX5_lockRow 239 = .ok (.putfield 119, 3) := by decide +kernel
theorem dX5_lockRow_242 : decode cX5_lockRow 242 = .ok (.iconst 1, 1) := by decide +kernel
theorem dX5_lockRow_243 : decode cX5_lockRow 243 = .ok (.ireturn, 1) := by decide +kernel
theorem dX5_lose_0 : decode cX5_lose 0 = .ok (.aload_n 1, 1) := by decide +kernel
theorem dX5_lose_1 : decode cX5_lose 1 = .ok (.iconst 4, 1) := by decide +kernel
theorem dX5_lose_2 : decode cX5_lose 2 = .ok (.putfield 38, 3) := by decide +kernel
theorem dX5_lose_5 : decode cX5_lose 5 = .ok (.aload_n 1, 1) := by decide +kernel
theorem dX5_lose_6 : decode cX5_lose 6 = .ok (.iconst 0, 1) := by decide +kernel
theorem dX5_lose_7 : decode cX5_lose 7 = .ok (.putfield 119, 3) := by decide +kernel
theorem dX5_lose_10 : decode cX5_lose 10 = .ok (.iconst 4, 1) := by decide +kernel
theorem dX5_lose_11 : decode cX5_lose 11 = .ok (.ireturn, 1) := by decide +kernel
theorem dX5_decide_0 : decode cX5_decide 0 = .ok (.aload_n 0, 1) := by decide +kernel
theorem dX5_decide_1 : decode cX5_decide 1 = .ok (.getfield 19, 3) := by decide +kernel
theorem dX5_decide_4 : decode cX5_decide 4 = .ok (.invokevirtual 48, 3) := by decide +kernel
theorem dX5_decide_7 : decode cX5_decide 7 = .ok (.istore_n 2, 1) := by decide +kernel
theorem dX5_decide_8 : decode cX5_decide 8 = .ok (.aload_n 0, 1) := by decide +kernel
theorem dX5_decide_9 : decode cX5_decide 9 = .ok (.getfield 10, 3) := by decide +kernel
theorem dX5_decide_12 : decode cX5_decide 12 = .ok (.getfield 125, 3) := by decide +kernel
theorem dX5_decide_15 : decode cX5_decide 15 = .ok (.aload_n 1, 1) := by decide +kernel
theorem dX5_decide_16 : decode cX5_decide 16 = .ok (.getfield 237, 3) := by decide +kernel
theorem dX5_decide_19 : decode cX5_decide 19 = .ok (.iconst 0, 1) := by decide +kernel
theorem dX5_decide_20 : decode cX5_decide 20 = .ok (.iaload, 1) := by decide +kernel
theorem dX5_decide_21 : decode cX5_decide 21 = .ok (.aaload, 1) := by decide +kernel
theorem dX5_decide_22 : decode cX5_decide 22 = .ok (.getfield 129, 3) := by decide +kernel
theorem dX5_decide_25 : decode cX5_decide 25 = .ok (.aload_n 1, 1) := by decide +kernel
theorem dX5_decide_26 : decode cX5_decide 26 = .ok (.getfield 56, 3) := by decide +kernel
theorem dX5_decide_29 : decode cX5_decide 29 = .ok (.if_icmp .eq 9, 3) := by decide +kernel
theorem dX5_decide_32 : decode cX5_decide 32 = .ok (.aload_n 0, 1) := by decide +kernel
theorem dX5_decide_33 : decode cX5_decide 33 = .ok (.aload_n 1, 1) := by decide +kernel
theorem dX5_decide_34 : decode cX5_decide 34 = .ok (.invokevirtual 230, 3) := by decide +kernel
theorem dX5_decide_37 : decode cX5_decide 37 = .ok (.ireturn, 1) := by decide +kernel
theorem dX5_decide_38 : decode cX5_decide 38 = .ok (.aload_n 1, 1) := by decide +kernel
theorem dX5_decide_39 : decode cX5_decide 39 = .ok (.iload_n 2, 1) := by decide +kernel
theorem dX5_decide_40 : decode cX5_decide 40 = .ok (.putfield 122, 3) := by decide +kernel
theorem dX5_decide_43 : decode cX5_decide 43 = .ok (.aload_n 0, 1) := by decide +kernel
theorem dX5_decide_44 : decode cX5_decide 44 = .ok (.dup, 1) := by decide +kernel
theorem dX5_decide_45 : decode cX5_decide 45 = .ok (.getfield 189, 3) := by decide +kernel
theorem dX5_decide_48 : decode cX5_decide 48 = .ok (.iconst 1, 1) := by decide +kernel
theorem dX5_decide_49 : decode cX5_decide 49 = .ok (.iadd, 1) := by decide +kernel
theorem dX5_decide_50 : decode cX5_decide 50 = .ok (.putfield 189, 3) := by decide +kernel
theorem dX5_decide_53 : decode cX5_decide 53 = .ok (.aload_n 1, 1) := by decide +kernel
theorem dX5_decide_54 : decode cX5_decide 54 = .ok (.iconst 3, 1) := by decide +kernel
theorem dX5_decide_55 : decode cX5_decide 55 = .ok (.putfield 38, 3) := by decide +kernel
theorem dX5_decide_58 : decode cX5_decide 58 = .ok (.aload_n 0, 1) := by decide +kernel
theorem dX5_decide_59 : decode cX5_decide 59 = .ok (.aload_n 1, 1) := by decide +kernel
theorem dX5_decide_60 : decode cX5_decide 60 = .ok (.aload_n 1, 1) := by decide +kernel
theorem dX5_decide_61 : decode cX5_decide 61 = .ok (.getfield 227, 3) := by decide +kernel
theorem dX5_decide_64 : decode cX5_decide 64 = .ok (.iconst 0, 1) := by decide +kernel
theorem dX5_decide_65 : decode cX5_decide 65 = .ok (.iaload, 1) := by decide +kernel
theorem dX5_decide_66 : decode cX5_decide 66 = .ok (.invokevirtual 243, 3) := by decide +kernel
theorem dX5_decide_69 : decode cX5_decide 69 = .ok (.aload_n 1, 1) := by decide +kernel
theorem dX5_decide_70 : decode cX5_decide 70 = .ok (.iconst 1, 1) := by decide +kernel
theorem dX5_decide_71 : decode cX5_decide 71 = .ok (.putfield 119, 3) := by decide +kernel
theorem dX5_decide_74 : decode cX5_decide 74 = .ok (.aload_n 1, 1) := by decide +kernel
theorem dX5_decide_75 : decode cX5_decide 75 = .ok (.getfield 212, 3) := by decide +kernel
theorem dX5_decide_78 : decode cX5_decide 78 = .ok (.iconst 1, 1) := by decide +kernel
theorem dX5_decide_79 : decode cX5_decide 79 = .ok (.if_icmp .ne 7, 3) := by decide +kernel
theorem dX5_decide_82 : decode cX5_decide 82 = .ok (.aload_n 1, 1) := by decide +kernel
theorem dX5_decide_83 : decode cX5_decide 83 = .ok (.invokevirtual 86, 3) := by decide +kernel
theorem dX5_decide_86 : decode cX5_decide 86 = .ok (.iconst 2, 1) := by decide +kernel
theorem dX5_decide_87 : decode cX5_decide 87 = .ok (.ireturn, 1) := by decide +kernel
theorem dX5_settleRow_0 : decode cX5_settleRow 0 = .ok (.aload_n 1, 1) := by decide +kernel
theorem dX5_settleRow_1 : decode cX5_settleRow 1 = .ok (.getfield 119, 3) := by decide +kernel
theorem dX5_settleRow_4 : decode cX5_settleRow 4 = .ok (.aload_n 1, 1) := by decide +kernel
theorem dX5_settleRow_5 : decode cX5_settleRow 5 = .ok (.getfield 212, 3) := by decide +kernel
theorem dX5_settleRow_8 : decode cX5_settleRow 8 = .ok (.if_icmp .ge 27, 3) := by decide +kernel
theorem dX5_settleRow_11 : decode cX5_settleRow 11 = .ok (.aload_n 0, 1) := by decide +kernel
theorem dX5_settleRow_12 : decode cX5_settleRow 12 = .ok (.aload_n 1, 1) := by decide +kernel
theorem dX5_settleRow_13 : decode cX5_settleRow 13 = .ok (.aload_n 1, 1) := by decide +kernel
theorem dX5_settleRow_14 : decode cX5_settleRow 14 = .ok (.getfield 227, 3) := by decide +kernel
theorem dX5_settleRow_17 : decode cX5_settleRow 17 = .ok (.aload_n 1, 1) := by decide +kernel
theorem dX5_settleRow_18 : decode cX5_settleRow 18 = .ok (.getfield 119, 3) := by decide +kernel
theorem dX5_settleRow_21 : decode cX5_settleRow 21 = .ok (.iaload, 1) := by decide +kernel
theorem dX5_settleRow_22 : decode cX5_settleRow 22 = .ok (.invokevirtual 243, 3) := by decide +kernel
theorem dX5_settleRow_25 : decode cX5_settleRow 25 = .ok (.aload_n 1, 1) := by decide +kernel
theorem dX5_settleRow_26 : decode cX5_settleRow 26 = .ok (.dup, 1) := by decide +kernel
theorem dX5_settleRow_27 : decode cX5_settleRow 27 = .ok (.getfield 119, 3) := by decide +kernel
theorem dX5_settleRow_30 : decode cX5_settleRow 30 = .ok (.iconst 1, 1) := by decide +kernel
theorem dX5_settleRow_31 : decode cX5_settleRow 31 = .ok (.iadd, 1) := by decide +kernel
theorem dX5_settleRow_32 : decode cX5_settleRow 32 = .ok (.putfield 119, 3) := by decide +kernel
theorem dX5_settleRow_35 : decode cX5_settleRow 35 = .ok (.aload_n 1, 1) := by decide +kernel
theorem dX5_settleRow_36 : decode cX5_settleRow 36 = .ok (.getfield 119, 3) := by decide +kernel
theorem dX5_settleRow_39 : decode cX5_settleRow 39 = .ok (.aload_n 1, 1) := by decide +kernel
theorem dX5_settleRow_40 : decode cX5_settleRow 40 = .ok (.getfield 212, 3) := by decide +kernel
theorem dX5_settleRow_43 : decode cX5_settleRow 43 = .ok (.if_icmp .ge 5, 3) := by decide +kernel
theorem dX5_settleRow_46 : decode cX5_settleRow 46 = .ok (.iconst 1, 1) := by decide +kernel
theorem dX5_settleRow_47 : decode cX5_settleRow 47 = .ok (.ireturn, 1) := by decide +kernel
theorem dX5_settleRow_48 : decode cX5_settleRow 48 = .ok (.aload_n 1, 1) := by decide +kernel
theorem dX5_settleRow_49 : decode cX5_settleRow 49 = .ok (.invokevirtual 86, 3) := by decide +kernel
theorem dX5_settleRow_52 : decode cX5_settleRow 52 = .ok (.iconst 3, 1) := by decide +kernel
theorem dX5_settleRow_53 : decode cX5_settleRow 53 = .ok (.ireturn, 1) := by decide +kernel
theorem dX5_settleCells_0 : decode cX5_settleCells 0 = .ok (.iconst 0, 1) := by decide +kernel
theorem dX5_settleCells_1 : decode cX5_settleCells 1 = .ok (.istore_n 3, 1) := by decide +kernel
theorem dX5_settleCells_2 : decode cX5_settleCells 2 = .ok (.iload_n 3, 1) := by decide +kernel
theorem dX5_settleCells_3 : decode cX5_settleCells 3 = .ok (.iconst 4, 1) := by decide +kernel
theorem dX5_settleCells_4 : decode cX5_settleCells 4 = .ok (.if_icmp .ge 59, 3) := by decide +kernel
theorem dX5_settleCells_7 : decode cX5_settleCells 7 = .ok (.aload_n 0, 1) := by decide +kernel
theorem dX5_settleCells_8 : decode cX5_settleCells 8 = .ok (.getfield 10, 3) := by decide +kernel
theorem dX5_settleCells_11 : decode cX5_settleCells 11 = .ok (.getfield 125, 3) := by decide +kernel
theorem dX5_settleCells_14 : decode cX5_settleCells 14 = .ok (.iload_n 2, 1) := by decide +kernel
theorem dX5_settleCells_15 : decode cX5_settleCells 15 = .ok (.iload_n 3, 1) := by decide +kernel
theorem dX5_settleCells_16 : decode cX5_settleCells 16 = .ok (.invokestatic 63, 3) := by decide +kernel
theorem dX5_settleCells_19 : decode cX5_settleCells 19 = .ok (.aaload, 1) := by decide +kernel
theorem dX5_settleCells_20 : decode cX5_settleCells 20 = .ok (.astore 4, 2) := by decide +kernel
theorem dX5_settleCells_22 : decode cX5_settleCells 22 = .ok (.aload_n 1, 1) := by decide +kernel
theorem dX5_settleCells_23 : decode cX5_settleCells 23 = .ok (.aload 4, 2) := by decide +kernel
theorem dX5_settleCells_25 : decode cX5_settleCells 25 = .ok (.invokevirtual 247, 3) := by decide +kernel
theorem dX5_settleCells_28 : decode cX5_settleCells 28 = .ok (.ifCond .eq 29, 3) := by decide +kernel
theorem dX5_settleCells_31 : decode cX5_settleCells 31 = .ok (.aload_n 0, 1) := by decide +kernel
theorem dX5_settleCells_32 : decode cX5_settleCells 32 = .ok (.getfield 10, 3) := by decide +kernel
theorem dX5_settleCells_35 : decode cX5_settleCells 35 = .ok (.aload 4, 2) := by decide +kernel
theorem dX5_settleCells_37 : decode cX5_settleCells 37 = .ok (.aload_n 1, 1) := by decide +kernel
theorem dX5_settleCells_38 : decode cX5_settleCells 38 = .ok (.getfield 122, 3) := by decide +kernel
theorem dX5_settleCells_41 : decode cX5_settleCells 41 = .ok (.aload_n 1, 1) := by decide +kernel
theorem dX5_settleCells_42 : decode cX5_settleCells 42 = .ok (.getfield 56, 3) := by decide +kernel
theorem dX5_settleCells_45 : decode cX5_settleCells 45 = .ok (.invokevirtual 250, 3) := by decide +kernel
theorem dX5_settleCells_48 : decode cX5_settleCells 48 = .ok (.aload_n 0, 1) := by decide +kernel
theorem dX5_settleCells_49 : decode cX5_settleCells 49 = .ok (.getfield 10, 3) := by decide +kernel
theorem dX5_settleCells_52 : decode cX5_settleCells 52 = .ok (.aload 4, 2) := by decide +kernel
theorem dX5_settleCells_54 : decode cX5_settleCells 54 = .ok (.invokevirtual 253, 3) := by decide +kernel
theorem dX5_settleCells_57 : decode cX5_settleCells 57 = .ok (.iinc 3 1, 3) := by decide +kernel
theorem dX5_settleCells_60 : decode cX5_settleCells 60 = .ok (.goto (-58), 3) := by decide +kernel
theorem dX5_settleCells_63 : decode cX5_settleCells 63 = .ok (.return_, 1) := by decide +kernel
theorem dX5_undoRow_0 : decode cX5_undoRow 0 = .ok (.iconst 0, 1) := by decide +kernel
theorem dX5_undoRow_1 : decode cX5_undoRow 1 = .ok (.istore_n 2, 1) := by decide +kernel
theorem dX5_undoRow_2 : decode cX5_undoRow 2 = .ok (.iload_n 2, 1) := by decide +kernel
theorem dX5_undoRow_3 : decode cX5_undoRow 3 = .ok (.aload_n 1, 1) := by decide +kernel
theorem dX5_undoRow_4 : decode cX5_undoRow 4 = .ok (.getfield 212, 3) := by decide +kernel
theorem dX5_undoRow_7 : decode cX5_undoRow 7 = .ok (.if_icmp .ge 25, 3) := by decide +kernel
theorem dX5_undoRow_10 : decode cX5_undoRow 10 = .ok (.aload_n 0, 1) := by decide +kernel
theorem dX5_undoRow_11 : decode cX5_undoRow 11 = .ok (.aload_n 1, 1) := by decide +kernel
theorem dX5_undoRow_12 : decode cX5_undoRow 12 = .ok (.aload_n 1, 1) := by decide +kernel
theorem dX5_undoRow_13 : decode cX5_undoRow 13 = .ok (.getfield 227, 3) := by decide +kernel
theorem dX5_undoRow_16 : decode cX5_undoRow 16 = .ok (.iload_n 2, 1) := by decide +kernel
theorem dX5_undoRow_17 : decode cX5_undoRow 17 = .ok (.iaload, 1) := by decide +kernel
theorem dX5_undoRow_18 : decode cX5_undoRow 18 = .ok (.invokevirtual 256, 3) := by decide +kernel
theorem dX5_undoRow_21 : decode cX5_undoRow 21 = .ok (.ifCond .eq 5, 3) := by decide +kernel
theorem dX5_undoRow_24 : decode cX5_undoRow 24 = .ok (.iconst 1, 1) := by decide +kernel
theorem dX5_undoRow_25 : decode cX5_undoRow 25 = .ok (.ireturn, 1) := by decide +kernel
theorem dX5_undoRow_26 : decode cX5_undoRow 26 = .ok (.iinc 2 1, 3) := by decide +kernel
theorem dX5_undoRow_29 : decode cX5_undoRow 29 = .ok (.goto (-27), 3) := by decide +kernel
theorem dX5_undoRow_32 : decode cX5_undoRow 32 = .ok (.aload_n 1, 1) := by decide +kernel
theorem dX5_undoRow_33 : decode cX5_undoRow 33 = .ok (.invokevirtual 86, 3) := by decide +kernel
theorem dX5_undoRow_36 : decode cX5_undoRow 36 = .ok (.iconst 0, 1) := by decide +kernel
theorem dX5_undoRow_37 : decode cX5_undoRow 37 = .ok (.ireturn, 1) := by decide +kernel
theorem dX5_undoCells_0 : decode cX5_undoCells 0 = .ok (.iconst 0, 1) := by decide +kernel
theorem dX5_undoCells_1 : decode cX5_undoCells 1 = .ok (.istore_n 3, 1) := by decide +kernel
theorem dX5_undoCells_2 : decode cX5_undoCells 2 = .ok (.iconst 0, 1) := by decide +kernel
theorem dX5_undoCells_3 : decode cX5_undoCells 3 = .ok (.istore 4, 2) := by decide +kernel
theorem dX5_undoCells_5 : decode cX5_undoCells 5 = .ok (.iload 4, 2) := by decide +kernel
theorem dX5_undoCells_7 : decode cX5_undoCells 7 = .ok (.iconst 4, 1) := by decide +kernel
theorem dX5_undoCells_8 : decode cX5_undoCells 8 = .ok (.if_icmp .ge 65, 3) := by decide +kernel
theorem dX5_undoCells_11 : decode cX5_undoCells 11 = .ok (.iload_n 2, 1) := by decide +kernel
theorem dX5_undoCells_12 : decode cX5_undoCells 12 = .ok (.iload 4, 2) := by decide +kernel
theorem dX5_undoCells_14 : decode cX5_undoCells 14 = .ok (.invokestatic 63, 3) := by decide +kernel
theorem dX5_undoCells_17 : decode cX5_undoCells 17 = .ok (.istore 5, 2) := by decide +kernel
theorem dX5_undoCells_19 : decode cX5_undoCells 19 = .ok (.aload_n 0, 1) := by decide +kernel
theorem dX5_undoCells_20 : decode cX5_undoCells 20 = .ok (.getfield 10, 3) := by decide +kernel
theorem dX5_undoCells_23 : decode cX5_undoCells 23 = .ok (.getfield 125, 3) := by decide +kernel
theorem dX5_undoCells_26 : decode cX5_undoCells 26 = .ok (.iload 5, 2) := by decide +kernel
theorem dX5_undoCells_28 : decode cX5_undoCells 28 = .ok (.aaload, 1) := by decide +kernel
theorem dX5_undoCells_29 : decode cX5_undoCells 29 = .ok (.astore 6, 2) := by decide +kernel
theorem dX5_undoCells_31 : decode cX5_undoCells 31 = .ok (.aload_n 1, 1) := by decide +kernel
theorem dX5_undoCells_32 : decode cX5_undoCells 32 = .ok (.aload 6, 2) := by decide +kernel
theorem dX5_undoCells_34 : decode cX5_undoCells 34 = .ok (.invokevirtual 247, 3) := by decide +kernel
theorem dX5_undoCells_37 : decode cX5_undoCells 37 = .ok (.ifCond .eq 30, 3) := by decide +kernel
theorem dX5_undoCells_40 : decode cX5_undoCells 40 = .ok (.aload_n 0, 1) := by decide +kernel
theorem dX5_undoCells_41 : decode cX5_undoCells 41 = .ok (.getfield 10, 3) := by decide +kernel
theorem dX5_undoCells_44 : decode cX5_undoCells 44 = .ok (.aload 6, 2) := by decide +kernel
theorem dX5_undoCells_46 : decode cX5_undoCells 46 = .ok (.iload 5, 2) := by decide +kernel
theorem dX5_undoCells_48 : decode cX5_undoCells 48 = .ok (.aload_n 1, 1) := by decide +kernel
theorem dX5_undoCells_49 : decode cX5_undoCells 49 = .ok (.getfield 237, 3) := by decide +kernel
theorem dX5_undoCells_52 : decode cX5_undoCells 52 = .ok (.iconst 0, 1) := by decide +kernel
theorem dX5_undoCells_53 : decode cX5_undoCells 53 = .ok (.iaload, 1) := by decide +kernel
theorem dX5_undoCells_54 : decode cX5_undoCells 54 = .ok (.if_icmp .ne 7, 3) := by decide +kernel
theorem dX5_undoCells_57 : decode cX5_undoCells 57 = .ok (.iconst 1, 1) := by decide +kernel
theorem dX5_undoCells_58 : decode cX5_undoCells 58 = .ok (.goto 4, 3) := by decide +kernel
theorem dX5_undoCells_61 : decode cX5_undoCells 61 = .ok (.iconst 0, 1) := by decide +kernel
theorem dX5_undoCells_62 : decode cX5_undoCells 62 = .ok (.invokevirtual 260, 3) := by decide +kernel
theorem dX5_undoCells_65 : decode cX5_undoCells 65 = .ok (.iconst 1, 1) := by decide +kernel
theorem dX5_undoCells_66 : decode cX5_undoCells 66 = .ok (.istore_n 3, 1) := by decide +kernel
theorem dX5_undoCells_67 : decode cX5_undoCells 67 = .ok (.iinc 4 1, 3) := by decide +kernel
theorem dX5_undoCells_70 : decode cX5_undoCells 70 = .ok (.goto (-65), 3) := by decide +kernel
theorem dX5_undoCells_73 : decode cX5_undoCells 73 = .ok (.iload_n 3, 1) := by decide +kernel
theorem dX5_undoCells_74 : decode cX5_undoCells 74 = .ok (.ireturn, 1) := by decide +kernel
theorem dX6_init_0 : decode cX6_init 0 = .ok (.aload_n 0, 1) := by decide +kernel
theorem dX6_init_1 : decode cX6_init 1 = .ok (.invokespecial 1, 3) := by decide +kernel
theorem dX6_init_4 : decode cX6_init 4 = .ok (.aload_n 0, 1) := by decide +kernel
theorem dX6_init_5 : decode cX6_init 5 = .ok (.bipush 10, 2) := by decide +kernel
theorem dX6_init_7 : decode cX6_init 7 = .ok (.putfield 7, 3) := by decide +kernel
theorem dX6_init_10 : decode cX6_init 10 = .ok (.aload_n 0, 1) := by decide +kernel
theorem dX6_init_11 : decode cX6_init 11 = .ok (.iconst 1, 1) := by decide +kernel
theorem dX6_init_12 : decode cX6_init 12 = .ok (.putfield 13, 3) := by decide +kernel
theorem dX6_init_15 : decode cX6_init 15 = .ok (.aload_n 0, 1) := by decide +kernel
theorem dX6_init_16 : decode cX6_init 16 = .ok (.sipush 3000, 3) := by decide +kernel
theorem dX6_init_19 : decode cX6_init 19 = .ok (.newarray .int, 2) := by decide +kernel
theorem dX6_init_21 : decode cX6_init 21 = .ok (.putfield 16, 3) := by decide +kernel
theorem dX6_init_24 : decode cX6_init 24 = .ok (.aload_n 0, 1) := by decide +kernel
theorem dX6_init_25 : decode cX6_init 25 = .ok (.sipush 3000, 3) := by decide +kernel
theorem dX6_init_28 : decode cX6_init 28 = .ok (.newarray .int, 2) := by decide +kernel
theorem dX6_init_30 : decode cX6_init 30 = .ok (.putfield 20, 3) := by decide +kernel
theorem dX6_init_33 : decode cX6_init 33 = .ok (.aload_n 0, 1) := by decide +kernel
theorem dX6_init_34 : decode cX6_init 34 = .ok (.sipush 3000, 3) := by decide +kernel
theorem dX6_init_37 : decode cX6_init 37 = .ok (.newarray .int, 2) := by decide +kernel
theorem dX6_init_39 : decode cX6_init 39 = .ok (.putfield 23, 3) := by decide +kernel
theorem dX6_init_42 : decode cX6_init 42 = .ok (.aload_n 0, 1) := by decide +kernel
theorem dX6_init_43 : decode cX6_init 43 = .ok (.sipush 3000, 3) := by decide +kernel
theorem dX6_init_46 : decode cX6_init 46 = .ok (.newarray .int, 2) := by decide +kernel
theorem dX6_init_48 : decode cX6_init 48 = .ok (.putfield 26, 3) := by decide +kernel
theorem dX6_init_51 : decode cX6_init 51 = .ok (.aload_n 0, 1) := by decide +kernel
theorem dX6_init_52 : decode cX6_init 52 = .ok (.sipush 3000, 3) := by decide +kernel
theorem dX6_init_55 : decode cX6_init 55 = .ok (.newarray .int, 2) := by decide +kernel
theorem dX6_init_57 : decode cX6_init 57 = .ok (.putfield 29, 3) := by decide +kernel
theorem dX6_init_60 : decode cX6_init 60 = .ok (.aload_n 0, 1) := by decide +kernel
theorem dX6_init_61 : decode cX6_init 61 = .ok (.sipush 3000, 3) := by decide +kernel
theorem dX6_init_64 : decode cX6_init 64 = .ok (.newarray .int, 2) := by decide +kernel
theorem dX6_init_66 : decode cX6_init 66 = .ok (.putfield 32, 3) := by decide +kernel
theorem dX6_init_69 : decode cX6_init 69 = .ok (.aload_n 0, 1) := by decide +kernel
theorem dX6_init_70 : decode cX6_init 70 = .ok (.sipush 3000, 3) := by decide +kernel
theorem dX6_init_73 : decode cX6_init 73 = .ok (.newarray .boolean, 2) := by decide +kernel
theorem dX6_init_75 : decode cX6_init 75 = .ok (.putfield 35, 3) := by decide +kernel
theorem dX6_init_78 : decode cX6_init 78 = .ok (.aload_n 0, 1) := by decide +kernel
theorem dX6_init_79 : decode cX6_init 79 = .ok (.sipush 256, 3) := by decide +kernel
theorem dX6_init_82 : decode cX6_init 82 = .ok (.newarray .int, 2) := by decide +kernel
theorem dX6_init_84 : decode cX6_init 84 = .ok (.putfield 39, 3) := by decide +kernel
theorem dX6_init_87 : decode cX6_init 87 = .ok (.aload_n 0, 1) := by decide +kernel
theorem dX6_init_88 : decode cX6_init 88 = .ok (.sipush 256, 3) := by decide +kernel
theorem dX6_init_91 : decode cX6_init 91 = .ok (.newarray .int, 2) := by decide +kernel
theorem dX6_init_93 : decode cX6_init 93 = .ok (.putfield 42, 3) := by decide +kernel
theorem dX6_init_96 : decode cX6_init 96 = .ok (.aload_n 0, 1) := by decide +kernel
theorem dX6_init_97 : decode cX6_init 97 = .ok (.sipush 256, 3) := by decide +kernel
theorem dX6_init_100 : decode cX6_init 100 = .ok (.newarray .int, 2) := by decide +kernel
theorem dX6_init_102 : decode cX6_init 102 = .ok (.putfield 45, 3) := by decide +kernel
theorem dX6_init_105 : decode cX6_init 105 = .ok (.aload_n 0, 1) := by decide +kernel
theorem dX6_init_106 : decode cX6_init 106 = .ok (.bipush 8, 2) := by decide +kernel
theorem dX6_init_108 : decode cX6_init 108 = .ok (.newarray .int, 2) := by decide +kernel
theorem dX6_init_110 : decode cX6_init 110 = .ok (.putfield 48, 3) := by decide +kernel
theorem dX6_init_113 : decode cX6_init 113 = .ok (.aload_n 0, 1) := by decide +kernel
theorem dX6_init_114 : decode cX6_init 114 = .ok (.bipush 8, 2) := by decide +kernel
theorem dX6_init_116 : decode cX6_init 116 = .ok (.newarray .int, 2) := by decide +kernel
theorem dX6_init_118 : decode cX6_init 118 = .ok (.putfield 51, 3) := by decide +kernel
theorem dX6_init_121 : decode cX6_init 121 = .ok (.aload_n 0, 1) := by decide +kernel
theorem dX6_init_122 : decode cX6_init 122 = .ok (.bipush 8, 2) := by decide +kernel
theorem dX6_init_124 : decode cX6_init 124 = .ok (.newarray .int, 2) := by decide +kernel
theorem dX6_init_126 : decode cX6_init 126 = .ok (.putfield 54, 3) := by decide +kernel
theorem dX6_init_129 : decode cX6_init 129 = .ok (.aload_n 0, 1) := by decide +kernel
theorem dX6_init_130 : decode cX6_init 130 = .ok (.bipush 8, 2) := by decide +kernel
theorem dX6_init_132 : decode cX6_init 132 = .ok (.newarray .int, 2) := by decide +kernel
theorem dX6_init_134 : decode cX6_init 134 = .ok (.putfield 57, 3) := by decide +kernel
theorem dX6_init_137 : decode cX6_init 137 = .ok (.aload_n 0, 1) := by decide +kernel
theorem dX6_init_138 : decode cX6_init 138 = .ok (.sipush 128, 3) := by decide +kernel
theorem dX6_init_141 : decode cX6_init 141 = .ok (.newarray .int, 2) := by decide +kernel
theorem dX6_init_143 : decode cX6_init 143 = .ok (.putfield 60, 3) := by decide +kernel
theorem dX6_init_146 : decode cX6_init 146 = .ok (.aload_n 0, 1) := by decide +kernel
theorem dX6_init_147 : decode cX6_init 147 = .ok (.sipush 128, 3) := by decide +kernel
theorem dX6_init_150 : decode cX6_init 150 = .ok (.newarray .int, 2) := by decide +kernel
theorem dX6_init_152 : decode cX6_init 152 = .ok (.putfield 63, 3) := by decide +kernel
theorem dX6_init_155 : decode cX6_init 155 = .ok (.aload_n 0, 1) := by decide +kernel
theorem dX6_init_156 : decode cX6_init 156 = .ok (.bipush 8, 2) := by decide +kernel
theorem dX6_init_158 : decode cX6_init 158 = .ok (.newarray .int, 2) := by decide +kernel
theorem dX6_init_160 : decode cX6_init 160 = .ok (.putfield 66, 3) := by decide +kernel
theorem dX6_init_163 : decode cX6_init 163 = .ok (.aload_n 0, 1) := by decide +kernel
