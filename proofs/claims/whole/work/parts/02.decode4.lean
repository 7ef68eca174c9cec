theorem dX6_commit_34 : decode cX6_commit 34 = .ok (.bipush (-3), 2) := by decide +kernel
theorem dX6_commit_36 : decode cX6_commit 36 = .ok (.ireturn, 1) := by decide +kernel
theorem dX6_commit_37 : decode cX6_commit 37 = .ok (.aload_n 0, 1) := by decide +kernel
theorem dX6_commit_38 : decode cX6_commit 38 = .ok (.getfield 57, 3) := by decide +kernel
theorem dX6_commit_41 : decode cX6_commit 41 = .ok (.iload_n 1, 1) := by decide +kernel
theorem dX6_commit_42 : decode cX6_commit 42 = .ok (.iaload, 1) := by decide +kernel
theorem dX6_commit_43 : decode cX6_commit 43 = .ok (.ifCond .ne 12, 3) := by decide +kernel
theorem dX6_commit_46 : decode cX6_commit 46 = .ok (.aload_n 0, 1) := by decide +kernel
theorem dX6_commit_47 : decode cX6_commit 47 = .ok (.getfield 48, 3) := by decide +kernel
theorem dX6_commit_50 : decode cX6_commit 50 = .ok (.iload_n 1, 1) := by decide +kernel
theorem dX6_commit_51 : decode cX6_commit 51 = .ok (.iconst 0, 1) := by decide +kernel
theorem dX6_commit_52 : decode cX6_commit 52 = .ok (.iastore, 1) := by decide +kernel
theorem dX6_commit_53 : decode cX6_commit 53 = .ok (.iconst 3, 1) := by decide +kernel
theorem dX6_commit_54 : decode cX6_commit 54 = .ok (.ireturn, 1) := by decide +kernel
theorem dX6_commit_55 : decode cX6_commit 55 = .ok (.aload_n 0, 1) := by decide +kernel
theorem dX6_commit_56 : decode cX6_commit 56 = .ok (.getfield 48, 3) := by decide +kernel
theorem dX6_commit_59 : decode cX6_commit 59 = .ok (.iload_n 1, 1) := by decide +kernel
theorem dX6_commit_60 : decode cX6_commit 60 = .ok (.iconst 2, 1) := by decide +kernel
theorem dX6_commit_61 : decode cX6_commit 61 = .ok (.iastore, 1) := by decide +kernel
theorem dX6_commit_62 : decode cX6_commit 62 = .ok (.iconst 1, 1) := by decide +kernel
theorem dX6_commit_63 : decode cX6_commit 63 = .ok (.ireturn, 1) := by decide +kernel
theorem dX6_rowOf_0 : decode cX6_rowOf 0 = .ok (.iload_n 2, 1) := by decide +kernel
theorem dX6_rowOf_1 : decode cX6_rowOf 1 = .ok (.istore_n 3, 1) := by decide +kernel
theorem dX6_rowOf_2 : decode cX6_rowOf 2 = .ok (.iconst 0, 1) := by decide +kernel
theorem dX6_rowOf_3 : decode cX6_rowOf 3 = .ok (.istore 4, 2) := by decide +kernel
theorem dX6_rowOf_5 : decode cX6_rowOf 5 = .ok (.iload 4, 2) := by decide +kernel
theorem dX6_rowOf_7 : decode cX6_rowOf 7 = .ok (.aload_n 0, 1) := by decide +kernel
theorem dX6_rowOf_8 : decode cX6_rowOf 8 = .ok (.getfield 57, 3) := by decide +kernel
theorem dX6_rowOf_11 : decode cX6_rowOf 11 = .ok (.iload_n 1, 1) := by decide +kernel
theorem dX6_rowOf_12 : decode cX6_rowOf 12 = .ok (.iaload, 1) := by decide +kernel
theorem dX6_rowOf_13 : decode cX6_rowOf 13 = .ok (.if_icmp .ge 100, 3) := by decide +kernel
theorem dX6_rowOf_16 : decode cX6_rowOf 16 = .ok (.aload_n 0, 1) := by decide +kernel
theorem dX6_rowOf_17 : decode cX6_rowOf 17 = .ok (.getfield 60, 3) := by decide +kernel
theorem dX6_rowOf_20 : decode cX6_rowOf 20 = .ok (.bipush 16, 2) := by decide +kernel
theorem dX6_rowOf_22 : decode cX6_rowOf 22 = .ok (.iload_n 1, 1) := by decide +kernel
theorem dX6_rowOf_23 : decode cX6_rowOf 23 = .ok (.imul, 1) := by decide +kernel
theorem dX6_rowOf_24 : decode cX6_rowOf 24 = .ok (.iload 4, 2) := by decide +kernel
theorem dX6_rowOf_26 : decode cX6_rowOf 26 = .ok (.iadd, 1) := by decide +kernel
theorem dX6_rowOf_27 : decode cX6_rowOf 27 = .ok (.iaload, 1) := by decide +kernel
theorem dX6_rowOf_28 : decode cX6_rowOf 28 = .ok (.iconst 4, 1) := by decide +kernel
theorem dX6_rowOf_29 : decode cX6_rowOf 29 = .ok (.idiv, 1) := by decide +kernel
theorem dX6_rowOf_30 : decode cX6_rowOf 30 = .ok (.istore 5, 2) := by decide +kernel
theorem dX6_rowOf_32 : decode cX6_rowOf 32 = .ok (.iconst 1, 1) := by decide +kernel
theorem dX6_rowOf_33 : decode cX6_rowOf 33 = .ok (.istore 6, 2) := by decide +kernel
theorem dX6_rowOf_35 : decode cX6_rowOf 35 = .ok (.iconst 0, 1) := by decide +kernel
theorem dX6_rowOf_36 : decode cX6_rowOf 36 = .ok (.istore 7, 2) := by decide +kernel
theorem dX6_rowOf_38 : decode cX6_rowOf 38 = .ok (.iload 7, 2) := by decide +kernel
theorem dX6_rowOf_40 : decode cX6_rowOf 40 = .ok (.iload 4, 2) := by decide +kernel
theorem dX6_rowOf_42 : decode cX6_rowOf 42 = .ok (.if_icmp .ge 40, 3) := by decide +kernel
theorem dX6_rowOf_45 : decode cX6_rowOf 45 = .ok (.iload 6, 2) := by decide +kernel
theorem dX6_rowOf_47 : decode cX6_rowOf 47 = .ok (.ifCond .eq 26, 3) := by decide +kernel
theorem dX6_rowOf_50 : decode cX6_rowOf 50 = .ok (.aload_n 0, 1) := by decide +kernel
theorem dX6_rowOf_51 : decode cX6_rowOf 51 = .ok (.getfield 60, 3) := by decide +kernel
theorem dX6_rowOf_54 : decode cX6_rowOf 54 = .ok (.bipush 16, 2) := by decide +kernel
theorem dX6_rowOf_56 : decode cX6_rowOf 56 = .ok (.iload_n 1, 1) := by decide +kernel
theorem dX6_rowOf_57 : decode cX6_rowOf 57 = .ok (.imul, 1) := by decide +kernel
theorem dX6_rowOf_58 : decode cX6_rowOf 58 = .ok (.iload 7, 2) := by decide +kernel
theorem dX6_rowOf_60 : decode cX6_rowOf 60 = .ok (.iadd, 1) := by decide +kernel
theorem dX6_rowOf_61 : decode cX6_rowOf 61 = .ok (.iaload, 1) := by decide +kernel
theorem dX6_rowOf_62 : decode cX6_rowOf 62 = .ok (.iconst 4, 1) := by decide +kernel
theorem dX6_rowOf_63 : decode cX6_rowOf 63 = .ok (.idiv, 1) := by decide +kernel
theorem dX6_rowOf_64 : decode cX6_rowOf 64 = .ok (.iload 5, 2) := by decide +kernel
theorem dX6_rowOf_66 : decode cX6_rowOf 66 = .ok (.if_icmp .eq 7, 3) := by decide +kernel
theorem dX6_rowOf_69 : decode cX6_rowOf 69 = .ok (.iconst 1, 1) := by decide +kernel
theorem dX6_rowOf_70 : decode cX6_rowOf 70 = .ok (.goto 4, 3) := by decide +kernel
theorem dX6_rowOf_73 : decode cX6_rowOf 73 = .ok (.iconst 0, 1) := by decide +kernel
theorem dX6_rowOf_74 : decode cX6_rowOf 74 = .ok (.istore 6, 2) := by decide +kernel
theorem dX6_rowOf_76 : decode cX6_rowOf 76 = .ok (.iinc 7 1, 3) := by decide +kernel
theorem dX6_rowOf_79 : decode cX6_rowOf 79 = .ok (.goto (-41), 3) := by decide +kernel
theorem dX6_rowOf_82 : decode cX6_rowOf 82 = .ok (.iload 6, 2) := by decide +kernel
theorem dX6_rowOf_84 : decode cX6_rowOf 84 = .ok (.ifCond .eq 10, 3) := by decide +kernel
theorem dX6_rowOf_87 : decode cX6_rowOf 87 = .ok (.iload_n 3, 1) := by decide +kernel
theorem dX6_rowOf_88 : decode cX6_rowOf 88 = .ok (.ifCond .ne 6, 3) := by decide +kernel
theorem dX6_rowOf_91 : decode cX6_rowOf 91 = .ok (.iload 5, 2) := by decide +kernel
theorem dX6_rowOf_93 : decode cX6_rowOf 93 = .ok (.ireturn, 1) := by decide +kernel
theorem dX6_rowOf_94 : decode cX6_rowOf 94 = .ok (.iload_n 3, 1) := by decide +kernel
theorem dX6_rowOf_95 : decode cX6_rowOf 95 = .ok (.iload 6, 2) := by decide +kernel
theorem dX6_rowOf_97 : decode cX6_rowOf 97 = .ok (.ifCond .eq 7, 3) := by decide +kernel
theorem dX6_rowOf_100 : decode cX6_rowOf 100 = .ok (.iconst 1, 1) := by decide +kernel
theorem dX6_rowOf_101 : decode cX6_rowOf 101 = .ok (.goto 4, 3) := by decide +kernel
theorem dX6_rowOf_104 : decode cX6_rowOf 104 = .ok (.iconst 0, 1) := by decide +kernel
theorem dX6_rowOf_105 : decode cX6_rowOf 105 = .ok (.isub, 1) := by decide +kernel
theorem dX6_rowOf_106 : decode cX6_rowOf 106 = .ok (.istore_n 3, 1) := by decide +kernel
theorem dX6_rowOf_107 : decode cX6_rowOf 107 = .ok (.iinc 4 1, 3) := by decide +kernel
theorem dX6_rowOf_110 : decode cX6_rowOf 110 = .ok (.goto (-105), 3) := by decide +kernel
theorem dX6_rowOf_113 : decode cX6_rowOf 113 = .ok (.iconst (-1), 1) := by decide +kernel
theorem dX6_rowOf_114 : decode cX6_rowOf 114 = .ok (.ireturn, 1) := by decide +kernel
theorem dX6_step_0 : decode cX6_step 0 = .ok (.aload_n 0, 1) := by decide +kernel
theorem dX6_step_1 : decode cX6_step 1 = .ok (.iconst 0, 1) := by decide +kernel
theorem dX6_step_2 : decode cX6_step 2 = .ok (.putfield 75, 3) := by decide +kernel
theorem dX6_step_5 : decode cX6_step 5 = .ok (.iload_n 1, 1) := by decide +kernel
theorem dX6_step_6 : decode cX6_step 6 = .ok (.invokestatic 138, 3) := by decide +kernel
theorem dX6_step_9 : decode cX6_step 9 = .ok (.ifCond .eq 5, 3) := by decide +kernel
theorem dX6_step_12 : decode cX6_step 12 = .ok (.iconst (-1), 1) := by decide +kernel
theorem dX6_step_13 : decode cX6_step 13 = .ok (.ireturn, 1) := by decide +kernel
theorem dX6_step_14 : decode cX6_step 14 = .ok (.aload_n 0, 1) := by decide +kernel
theorem dX6_step_15 : decode cX6_step 15 = .ok (.getfield 54, 3) := by decide +kernel
theorem dX6_step_18 : decode cX6_step 18 = .ok (.iload_n 1, 1) := by decide +kernel
theorem dX6_step_19 : decode cX6_step 19 = .ok (.aload_n 0, 1) := by decide +kernel
theorem dX6_step_20 : decode cX6_step 20 = .ok (.getfield 103, 3) := by decide +kernel
theorem dX6_step_23 : decode cX6_step 23 = .ok (.iastore, 1) := by decide +kernel
theorem dX6_step_24 : decode cX6_step 24 = .ok (.aload_n 0, 1) := by decide +kernel
theorem dX6_step_25 : decode cX6_step 25 = .ok (.getfield 48, 3) := by decide +kernel
theorem dX6_step_28 : decode cX6_step 28 = .ok (.iload_n 1, 1) := by decide +kernel
theorem dX6_step_29 : decode cX6_step 29 = .ok (.iaload, 1) := by decide +kernel
theorem dX6_step_30 : decode cX6_step 30 = .ok (.tableswitch 56 2 4 #[26, 36, 46], 26) := by decide +kernel
theorem dX6_step_56 : decode cX6_step 56 = .ok (.aload_n 0, 1) := by decide +kernel
theorem dX6_step_57 : decode cX6_step 57 = .ok (.aload_n 0, 1) := by decide +kernel
theorem dX6_step_58 : decode cX6_step 58 = .ok (.iload_n 1, 1) := by decide +kernel
theorem dX6_step_59 : decode cX6_step 59 = .ok (.invokevirtual 156, 3) := by decide +kernel
theorem dX6_step_62 : decode cX6_step 62 = .ok (.invokevirtual 152, 3) := by decide +kernel
theorem dX6_step_65 : decode cX6_step 65 = .ok (.ireturn, 1) := by decide +kernel
theorem dX6_step_66 : decode cX6_step 66 = .ok (.aload_n 0, 1) := by decide +kernel
theorem dX6_step_67 : decode cX6_step 67 = .ok (.aload_n 0, 1) := by decide +kernel
theorem dX6_step_68 : decode cX6_step 68 = .ok (.iload_n 1, 1) := by decide +kernel
theorem dX6_step_69 : decode cX6_step 69 = .ok (.invokevirtual 159, 3) := by decide +kernel
theorem dX6_step_72 : decode cX6_step 72 = .ok (.invokevirtual 152, 3) := by decide +kernel
theorem dX6_step_75 : decode cX6_step 75 = .ok (.ireturn, 1) := by decide +kernel
theorem dX6_step_76 : decode cX6_step 76 = .ok (.aload_n 0, 1) := by decide +kernel
theorem dX6_step_77 : decode cX6_step 77 = .ok (.aload_n 0, 1) := by decide +kernel
theorem dX6_step_78 : decode cX6_step 78 = .ok (.iload_n 1, 1) := by decide +kernel
theorem dX6_step_79 : decode cX6_step 79 = .ok (.invokevirtual 162, 3) := by decide +kernel
theorem dX6_step_82 : decode cX6_step 82 = .ok (.invokevirtual 152, 3) := by decide +kernel
theorem dX6_step_85 : decode cX6_step 85 = .ok (.ireturn, 1) := by decide +kernel
theorem dX6_step_86 : decode cX6_step 86 = .ok (.bipush (-3), 2) := by decide +kernel
theorem dX6_step_88 : decode cX6_step 88 = .ok (.ireturn, 1) := by decide +kernel
theorem dX6_undoing_0 : decode cX6_undoing 0 = .ok (.aload_n 0, 1) := by decide +kernel
theorem dX6_undoing_1 : decode cX6_undoing 1 = .ok (.getfield 48, 3) := by decide +kernel
theorem dX6_undoing_4 : decode cX6_undoing 4 = .ok (.iload_n 1, 1) := by decide +kernel
theorem dX6_undoing_5 : decode cX6_undoing 5 = .ok (.iconst 4, 1) := by decide +kernel
theorem dX6_undoing_6 : decode cX6_undoing 6 = .ok (.iastore, 1) := by decide +kernel
theorem dX6_undoing_7 : decode cX6_undoing 7 = .ok (.iconst 4, 1) := by decide +kernel
theorem dX6_undoing_8 : decode cX6_undoing 8 = .ok (.ireturn, 1) := by decide +kernel
theorem dX6_lockRow_0 : decode cX6_lockRow 0 = .ok (.aload_n 0, 1) := by decide +kernel
theorem dX6_lockRow_1 : decode cX6_lockRow 1 = .ok (.iload_n 1, 1) := by decide +kernel
theorem dX6_lockRow_2 : decode cX6_lockRow 2 = .ok (.aload_n 0, 1) := by decide +kernel
theorem dX6_lockRow_3 : decode cX6_lockRow 3 = .ok (.getfield 66, 3) := by decide +kernel
theorem dX6_lockRow_6 : decode cX6_lockRow 6 = .ok (.iload_n 1, 1) := by decide +kernel
theorem dX6_lockRow_7 : decode cX6_lockRow 7 = .ok (.iaload, 1) := by decide +kernel
theorem dX6_lockRow_8 : decode cX6_lockRow 8 = .ok (.invokevirtual 165, 3) := by decide +kernel
theorem dX6_lockRow_11 : decode cX6_lockRow 11 = .ok (.istore_n 2, 1) := by decide +kernel
theorem dX6_lockRow_12 : decode cX6_lockRow 12 = .ok (.iload_n 2, 1) := by decide +kernel
theorem dX6_lockRow_13 : decode cX6_lockRow 13 = .ok (.ifCond .ge 9, 3) := by decide +kernel
theorem dX6_lockRow_16 : decode cX6_lockRow 16 = .ok (.aload_n 0, 1) := by decide +kernel
theorem dX6_lockRow_17 : decode cX6_lockRow 17 = .ok (.iload_n 1, 1) := by decide +kernel
theorem dX6_lockRow_18 : decode cX6_lockRow 18 = .ok (.invokevirtual 168, 3) := by decide +kernel
theorem dX6_lockRow_21 : decode cX6_lockRow 21 = .ok (.ireturn, 1) := by decide +kernel
theorem dX6_lockRow_22 : decode cX6_lockRow 22 = .ok (.iconst 0, 1) := by decide +kernel
theorem dX6_lockRow_23 : decode cX6_lockRow 23 = .ok (.istore_n 3, 1) := by decide +kernel
theorem dX6_lockRow_24 : decode cX6_lockRow 24 = .ok (.iconst 4, 1) := by decide +kernel
theorem dX6_lockRow_25 : decode cX6_lockRow 25 = .ok (.iload_n 2, 1) := by decide +kernel
theorem dX6_lockRow_26 : decode cX6_lockRow 26 = .ok (.imul, 1) := by decide +kernel
theorem dX6_lockRow_27 : decode cX6_lockRow 27 = .ok (.istore 4, 2) := by decide +kernel
theorem dX6_lockRow_29 : decode cX6_lockRow 29 = .ok (.iload 4, 2) := by decide +kernel
theorem dX6_lockRow_31 : decode cX6_lockRow 31 = .ok (.iconst 4, 1) := by decide +kernel
theorem dX6_lockRow_32 : decode cX6_lockRow 32 = .ok (.iload_n 2, 1) := by decide +kernel
theorem dX6_lockRow_33 : decode cX6_lockRow 33 = .ok (.imul, 1) := by decide +kernel
theorem dX6_lockRow_34 : decode cX6_lockRow 34 = .ok (.iconst 4, 1) := by decide +kernel
theorem dX6_lockRow_35 : decode cX6_lockRow 35 = .ok (.iadd, 1) := by decide +kernel
theorem dX6_lockRow_36 : decode cX6_lockRow 36 = .ok (.if_icmp .ge 119, 3) := by decide +kernel
theorem dX6_lockRow_39 : decode cX6_lockRow 39 = .ok (.aload_n 0, 1) := by decide +kernel
theorem dX6_lockRow_40 : decode cX6_lockRow 40 = .ok (.iload_n 1, 1) := by decide +kernel
theorem dX6_lockRow_41 : decode cX6_lockRow 41 = .ok (.iload 4, 2) := by decide +kernel
theorem dX6_lockRow_43 : decode cX6_lockRow 43 = .ok (.invokevirtual 121, 3) := by decide +kernel
theorem dX6_lockRow_46 : decode cX6_lockRow 46 = .ok (.ifCond .ge 6, 3) := by decide +kernel
theorem dX6_lockRow_49 : decode cX6_lockRow 49 = .ok (.goto 100, 3) := by decide +kernel
theorem dX6_lockRow_52 : decode cX6_lockRow 52 = .ok (.iinc 3 1, 3) := by decide +kernel
theorem dX6_lockRow_55 : decode cX6_lockRow 55 = .ok (.iconst 0, 1) := by decide +kernel
theorem dX6_lockRow_56 : decode cX6_lockRow 56 = .ok (.istore 5, 2) := by decide +kernel
theorem dX6_lockRow_58 : decode cX6_lockRow 58 = .ok (.iload 5, 2) := by decide +kernel
theorem dX6_lockRow_60 : decode cX6_lockRow 60 = .ok (.aload_n 0, 1) := by decide +kernel
theorem dX6_lockRow_61 : decode cX6_lockRow 61 = .ok (.getfield 81, 3) := by decide +kernel
theorem dX6_lockRow_64 : decode cX6_lockRow 64 = .ok (.if_icmp .ge 43, 3) := by decide +kernel
theorem dX6_lockRow_67 : decode cX6_lockRow 67 = .ok (.aload_n 0, 1) := by decide +kernel
theorem dX6_lockRow_68 : decode cX6_lockRow 68 = .ok (.getfield 26, 3) := by decide +kernel
theorem dX6_lockRow_71 : decode cX6_lockRow 71 = .ok (.iload 5, 2) := by decide +kernel
theorem dX6_lockRow_73 : decode cX6_lockRow 73 = .ok (.iaload, 1) := by decide +kernel
theorem dX6_lockRow_74 : decode cX6_lockRow 74 = .ok (.iload 4, 2) := by decide +kernel
theorem dX6_lockRow_76 : decode cX6_lockRow 76 = .ok (.if_icmp .ne 25, 3) := by decide +kernel
theorem dX6_lockRow_79 : decode cX6_lockRow 79 = .ok (.aload_n 0, 1) := by decide +kernel
theorem dX6_lockRow_80 : decode cX6_lockRow 80 = .ok (.getfield 29, 3) := by decide +kernel
theorem dX6_lockRow_83 : decode cX6_lockRow 83 = .ok (.iload 5, 2) := by decide +kernel
theorem dX6_lockRow_85 : decode cX6_lockRow 85 = .ok (.iaload, 1) := by decide +kernel
theorem dX6_lockRow_86 : decode cX6_lockRow 86 = .ok (.aload_n 0, 1) := by decide +kernel
theorem dX6_lockRow_87 : decode cX6_lockRow 87 = .ok (.getfield 51, 3) := by decide +kernel
theorem dX6_lockRow_90 : decode cX6_lockRow 90 = .ok (.iload_n 1, 1) := by decide +kernel
theorem dX6_lockRow_91 : decode cX6_lockRow 91 = .ok (.iaload, 1) := by decide +kernel
theorem dX6_lockRow_92 : decode cX6_lockRow 92 = .ok (.if_icmp .lt 9, 3) := by decide +kernel
theorem dX6_lockRow_95 : decode cX6_lockRow 95 = .ok (.aload_n 0, 1) := by decide +kernel
theorem dX6_lockRow_96 : decode cX6_lockRow 96 = .ok (.iload_n 1, 1) := by decide +kernel
theorem dX6_lockRow_97 : decode cX6_lockRow 97 = .ok (.invokevirtual 171, 3) := by decide +kernel
theorem dX6_lockRow_100 : decode cX6_lockRow 100 = .ok (.ireturn, 1) := by decide +kernel
theorem dX6_lockRow_101 : decode cX6_lockRow 101 = .ok (.iinc 5 1, 3) := by decide +kernel
theorem dX6_lockRow_104 : decode cX6_lockRow 104 = .ok (.goto (-46), 3) := by decide +kernel
theorem dX6_lockRow_107 : decode cX6_lockRow 107 = .ok (.aload_n 0, 1) := by decide +kernel
theorem dX6_lockRow_108 : decode cX6_lockRow 108 = .ok (.getfield 39, 3) := by decide +kernel
theorem dX6_lockRow_111 : decode cX6_lockRow 111 = .ok (.iload 4, 2) := by decide +kernel
theorem dX6_lockRow_113 : decode cX6_lockRow 113 = .ok (.iaload, 1) := by decide +kernel
theorem dX6_lockRow_114 : decode cX6_lockRow 114 = .ok (.ifCond .le 35, 3) := by decide +kernel
theorem dX6_lockRow_117 : decode cX6_lockRow 117 = .ok (.aload_n 0, 1) := by decide +kernel
theorem dX6_lockRow_118 : decode cX6_lockRow 118 = .ok (.iload 4, 2) := by decide +kernel
theorem dX6_lockRow_120 : decode cX6_lockRow 120 = .ok (.invokevirtual 124, 3) := by decide +kernel
theorem dX6_lockRow_123 : decode cX6_lockRow 123 = .ok (.ifCond .ne 18, 3) := by decide +kernel
theorem dX6_lockRow_126 : decode cX6_lockRow 126 = .ok (.aload_n 0, 1) := by decide +kernel
theorem dX6_lockRow_127 : decode cX6_lockRow 127 = .ok (.iload 4, 2) := by decide +kernel
theorem dX6_lockRow_129 : decode cX6_lockRow 129 = .ok (.invokevirtual 128, 3) := by decide +kernel
theorem dX6_lockRow_132 : decode cX6_lockRow 132 = .ok (.ifCond .ne 9, 3) := by decide +kernel
theorem dX6_lockRow_135 : decode cX6_lockRow 135 = .ok (.aload_n 0, 1) := by decide +kernel
theorem dX6_lockRow_136 : decode cX6_lockRow 136 = .ok (.iload_n 1, 1) := by decide +kernel
theorem dX6_lockRow_137 : decode cX6_lockRow 137 = .ok (.invokevirtual 171, 3) := by decide +kernel
theorem dX6_lockRow_140 : decode cX6_lockRow 140 = .ok (.ireturn, 1) := by decide +kernel
theorem dX6_lockRow_141 : decode cX6_lockRow 141 = .ok (.aload_n 0, 1) := by decide +kernel
theorem dX6_lockRow_142 : decode cX6_lockRow 142 = .ok (.iload 4, 2) := by decide +kernel
theorem dX6_lockRow_144 : decode cX6_lockRow 144 = .ok (.invokevirtual 131, 3) := by decide +kernel
theorem dX6_lockRow_147 : decode cX6_lockRow 147 = .ok (.iconst 5, 1) := by decide +kernel
theorem dX6_lockRow_148 : decode cX6_lockRow 148 = .ok (.ireturn, 1) := by decide +kernel
theorem dX6_lockRow_149 : decode cX6_lockRow 149 = .ok (.iinc 4 1, 3) := by decide +kernel
theorem dX6_lockRow_152 : decode cX6_lockRow 152 = .ok (.goto (-123), 3) := by decide +kernel
theorem dX6_lockRow_155 : decode cX6_lockRow 155 = .ok (.aload_n 0, 1) := by decide +kernel
theorem dX6_lockRow_156 : decode cX6_lockRow 156 = .ok (.invokevirtual 174, 3) := by decide +kernel
theorem dX6_lockRow_159 : decode cX6_lockRow 159 = .ok (.iconst 3, 1) := by decide +kernel
theorem dX6_lockRow_160 : decode cX6_lockRow 160 = .ok (.iload_n 3, 1) := by decide +kernel
theorem dX6_lockRow_161 : decode cX6_lockRow 161 = .ok (.imul, 1) := by decide +kernel
theorem dX6_lockRow_162 : decode cX6_lockRow 162 = .ok (.iadd, 1) := by decide +kernel
theorem dX6_lockRow_163 : decode cX6_lockRow 163 = .ok (.sipush 3000, 3) := by decide +kernel
theorem dX6_lockRow_166 : decode cX6_lockRow 166 = .ok (.if_icmp .le 6, 3) := by decide +kernel
theorem dX6_lockRow_169 : decode cX6_lockRow 169 = .ok (.bipush (-4), 2) := by decide +kernel
theorem dX6_lockRow_171 : decode cX6_lockRow 171 = .ok (.ireturn, 1) := by decide +kernel
theorem dX6_lockRow_172 : decode cX6_lockRow 172 = .ok (.iconst 4, 1) := by decide +kernel
theorem dX6_lockRow_173 : decode cX6_lockRow 173 = .ok (.iload_n 2, 1) := by decide +kernel
theorem dX6_lockRow_174 : decode cX6_lockRow 174 = .ok (.imul, 1) := by decide +kernel
theorem dX6_lockRow_175 : decode cX6_lockRow 175 = .ok (.istore 4, 2) := by decide +kernel
theorem dX6_lockRow_177 : decode cX6_lockRow 177 = .ok (.iload 4, 2) := by decide +kernel
theorem dX6_lockRow_179 : decode cX6_lockRow 179 = .ok (.iconst 4, 1) := by decide +kernel
theorem dX6_lockRow_180 : decode cX6_lockRow 180 = .ok (.iload_n 2, 1) := by decide +kernel
theorem dX6_lockRow_181 : decode cX6_lockRow 181 = .ok (.imul, 1) := by decide +kernel
theorem dX6_lockRow_182 : decode cX6_lockRow 182 = .ok (.iconst 4, 1) := by decide +kernel
theorem dX6_lockRow_183 : decode cX6_lockRow 183 = .ok (.iadd, 1) := by decide +kernel
theorem dX6_lockRow_184 : decode cX6_lockRow 184 = .ok (.if_icmp .ge 68, 3) := by decide +kernel
theorem dX6_lockRow_187 : decode cX6_lockRow 187 = .ok (.aload_n 0, 1) := by decide +kernel
theorem dX6_lockRow_188 : decode cX6_lockRow 188 = .ok (.iload_n 1, 1) := by decide +kernel
theorem dX6_lockRow_189 : decode cX6_lockRow 189 = .ok (.iload 4, 2) := by decide +kernel
theorem dX6_lockRow_191 : decode cX6_lockRow 191 = .ok (.invokevirtual 121, 3) := by decide +kernel
theorem dX6_lockRow_194 : decode cX6_lockRow 194 = .ok (.istore 5, 2) := by decide +kernel
theorem dX6_lockRow_196 : decode cX6_lockRow 196 = .ok (.iload 5, 2) := by decide +kernel
theorem dX6_lockRow_198 : decode cX6_lockRow 198 = .ok (.ifCond .lt 48, 3) := by decide +kernel
theorem dX6_lockRow_201 : decode cX6_lockRow 201 = .ok (.aload_n 0, 1) := by decide +kernel
theorem dX6_lockRow_202 : decode cX6_lockRow 202 = .ok (.iload 4, 2) := by decide +kernel
theorem dX6_lockRow_204 : decode cX6_lockRow 204 = .ok (.aload_n 0, 1) := by decide +kernel
theorem dX6_lockRow_205 : decode cX6_lockRow 205 = .ok (.getfield 51, 3) := by decide +kernel
theorem dX6_lockRow_208 : decode cX6_lockRow 208 = .ok (.iload_n 1, 1) := by decide +kernel
theorem dX6_lockRow_209 : decode cX6_lockRow 209 = .ok (.iaload, 1) := by decide +kernel
theorem dX6_lockRow_210 : decode cX6_lockRow 210 = .ok (.aload_n 0, 1) := by decide +kernel
theorem dX6_lockRow_211 : decode cX6_lockRow 211 = .ok (.getfield 63, 3) := by decide +kernel
theorem dX6_lockRow_214 : decode cX6_lockRow 214 = .ok (.bipush 16, 2) := by decide +kernel
theorem dX6_lockRow_216 : decode cX6_lockRow 216 = .ok (.iload_n 1, 1) := by decide +kernel
theorem dX6_lockRow_217 : decode cX6_lockRow 217 = .ok (.imul, 1) := by decide +kernel
theorem dX6_lockRow_218 : decode cX6_lockRow 218 = .ok (.iload 5, 2) := by decide +kernel
theorem dX6_lockRow_220 : decode cX6_lockRow 220 = .ok (.iadd, 1) := by decide +kernel
theorem dX6_lockRow_221 : decode cX6_lockRow 221 = .ok (.iaload, 1) := by decide +kernel
theorem dX6_lockRow_222 : decode cX6_lockRow 222 = .ok (.invokevirtual 177, 3) := by decide +kernel
theorem dX6_lockRow_225 : decode cX6_lockRow 225 = .ok (.aload_n 0, 1) := by decide +kernel
theorem dX6_lockRow_226 : decode cX6_lockRow 226 = .ok (.iload 4, 2) := by decide +kernel
theorem dX6_lockRow_228 : decode cX6_lockRow 228 = .ok (.aload_n 0, 1) := by decide +kernel
theorem dX6_lockRow_229 : decode cX6_lockRow 229 = .ok (.getfield 51, 3) := by decide +kernel
theorem dX6_lockRow_232 : decode cX6_lockRow 232 = .ok (.iload_n 1, 1) := by decide +kernel
theorem dX6_lockRow_233 : decode cX6_lockRow 233 = .ok (.iaload, 1) := by decide +kernel
theorem dX6_lockRow_234 : decode cX6_lockRow 234 = .ok (.aload_n 0, 1) := by decide +kernel
theorem dX6_lockRow_235 : decode cX6_lockRow 235 = .ok (.getfield 60, 3) := by decide +kernel
theorem dX6_lockRow_238 : decode cX6_lockRow 238 = .ok (.bipush 16, 2) := by decide +kernel
theorem dX6_lockRow_240 : decode cX6_lockRow 240 = .ok (.iload_n 1, 1) := by decide +kernel
theorem dX6_lockRow_241 : decode cX6_lockRow 241 = .ok (.imul, 1) := by decide +kernel
theorem dX6_lockRow_242 : decode cX6_lockRow 242 = .ok (.iaload, 1) := by decide +kernel
theorem dX6_lockRow_243 : decode cX6_lockRow 243 = .ok (.invokevirtual 181, 3) := by decide +kernel
theorem dX6_lockRow_246 : decode cX6_lockRow 246 = .ok (.iinc 4 1, 3) := by decide +kernel
theorem dX6_lockRow_249 : decode cX6_lockRow 249 = .ok (.goto (-72), 3) := by decide +kernel
theorem dX6_lockRow_252 : decode cX6_lockRow 252 = .ok (.aload_n 0, 1) := by decide +kernel
theorem dX6_lockRow_253 : decode cX6_lockRow 253 = .ok (.getfield 66, 3) := by decide +kernel
theorem dX6_lockRow_256 : decode cX6_lockRow 256 = .ok (.iload_n 1, 1) := by decide +kernel
theorem dX6_lockRow_257 : decode cX6_lockRow 257 = .ok (.dup2, 1) := by decide +kernel
theorem dX6_lockRow_258 : decode cX6_lockRow 258 = .ok (.iaload, 1) := by decide +kernel
theorem dX6_lockRow_259 : decode cX6_lockRow 259 = .ok (.iconst 1, 1) := by decide +kernel
theorem dX6_lockRow_260 : decode cX6_lockRow 260 = .ok (.iadd, 1) := by decide +kernel
theorem dX6_lockRow_261 : decode cX6_lockRow 261 = .ok (.iastore, 1) := by decide +kernel
theorem dX6_lockRow_262 : decode cX6_lockRow 262 = .ok (.iconst 1, 1) := by decide +kernel
theorem dX6_lockRow_263 : decode cX6_lockRow 263 = .ok (.ireturn, 1) := by decide +kernel
theorem dX6_decide_0 : decode cX6_decide 0 = .ok (.aload_n 0, 1) := by decide +kernel
theorem dX6_decide_1 : decode cX6_decide 1 = .ok (.invokevirtual 141, 3) := by decide +kernel
theorem dX6_decide_4 : decode cX6_decide 4 = .ok (.istore_n 2, 1) := by decide +kernel
theorem dX6_decide_5 : decode cX6_decide 5 = .ok (.aload_n 0, 1) := by decide +kernel
theorem dX6_decide_6 : decode cX6_decide 6 = .ok (.getfield 60, 3) := by decide +kernel
theorem dX6_decide_9 : decode cX6_decide 9 = .ok (.bipush 16, 2) := by decide +kernel
theorem dX6_decide_11 : decode cX6_decide 11 = .ok (.iload_n 1, 1) := by decide +kernel
theorem dX6_decide_12 : decode cX6_decide 12 = .ok (.imul, 1) := by decide +kernel
theorem dX6_decide_13 : decode cX6_decide 13 = .ok (.iaload, 1) := by decide +kernel
theorem dX6_decide_14 : decode cX6_decide 14 = .ok (.istore_n 3, 1) := by decide +kernel
theorem dX6_decide_15 : decode cX6_decide 15 = .ok (.aload_n 0, 1) := by decide +kernel
theorem dX6_decide_16 : decode cX6_decide 16 = .ok (.getfield 39, 3) := by decide +kernel
theorem dX6_decide_19 : decode cX6_decide 19 = .ok (.iload_n 3, 1) := by decide +kernel
theorem dX6_decide_20 : decode cX6_decide 20 = .ok (.iaload, 1) := by decide +kernel
theorem dX6_decide_21 : decode cX6_decide 21 = .ok (.aload_n 0, 1) := by decide +kernel
theorem dX6_decide_22 : decode cX6_decide 22 = .ok (.getfield 51, 3) := by decide +kernel
theorem dX6_decide_25 : decode cX6_decide 25 = .ok (.iload_n 1, 1) := by decide +kernel
theorem dX6_decide_26 : decode cX6_decide 26 = .ok (.iaload, 1) := by decide +kernel
theorem dX6_decide_27 : decode cX6_decide 27 = .ok (.if_icmp .eq 9, 3) := by decide +kernel
theorem dX6_decide_30 : decode cX6_decide 30 = .ok (.aload_n 0, 1) := by decide +kernel
theorem dX6_decide_31 : decode cX6_decide 31 = .ok (.iload_n 1, 1) := by decide +kernel
theorem dX6_decide_32 : decode cX6_decide 32 = .ok (.invokevirtual 171, 3) := by decide +kernel
theorem dX6_decide_35 : decode cX6_decide 35 = .ok (.ireturn, 1) := by decide +kernel
theorem dX6_decide_36 : decode cX6_decide 36 = .ok (.aload_n 0, 1) := by decide +kernel
theorem dX6_decide_37 : decode cX6_decide 37 = .ok (.iload_n 1, 1) := by decide +kernel
theorem dX6_decide_38 : decode cX6_decide 38 = .ok (.iload_n 3, 1) := by decide +kernel
theorem dX6_decide_39 : decode cX6_decide 39 = .ok (.iconst 4, 1) := by decide +kernel
theorem dX6_decide_40 : decode cX6_decide 40 = .ok (.idiv, 1) := by decide +kernel
theorem dX6_decide_41 : decode cX6_decide 41 = .ok (.iload_n 2, 1) := by decide +kernel
theorem dX6_decide_42 : decode cX6_decide 42 = .ok (.invokevirtual 184, 3) := by decide +kernel
theorem dX6_decide_45 : decode cX6_decide 45 = .ok (.aload_n 0, 1) := by decide +kernel
theorem dX6_decide_46 : decode cX6_decide 46 = .ok (.getfield 69, 3) := by decide +kernel
theorem dX6_decide_49 : decode cX6_decide 49 = .ok (.iload_n 1, 1) := by decide +kernel
theorem dX6_decide_50 : decode cX6_decide 50 = .ok (.iload_n 2, 1) := by decide +kernel
theorem dX6_decide_51 : decode cX6_decide 51 = .ok (.iastore, 1) := by decide +kernel
theorem dX6_decide_52 : decode cX6_decide 52 = .ok (.aload_n 0, 1) := by decide +kernel
theorem dX6_decide_53 : decode cX6_decide 53 = .ok (.dup, 1) := by decide +kernel
theorem dX6_decide_54 : decode cX6_decide 54 = .ok (.getfield 187, 3) := by decide +kernel
theorem dX6_decide_57 : decode cX6_decide 57 = .ok (.iconst 1, 1) := by decide +kernel
theorem dX6_decide_58 : decode cX6_decide 58 = .ok (.iadd, 1) := by decide +kernel
theorem dX6_decide_59 : decode cX6_decide 59 = .ok (.putfield 187, 3) := by decide +kernel
theorem dX6_decide_62 : decode cX6_decide 62 = .ok (.aload_n 0, 1) := by decide +kernel
theorem dX6_decide_63 : decode cX6_decide 63 = .ok (.getfield 66, 3) := by decide +kernel
theorem dX6_decide_66 : decode cX6_decide 66 = .ok (.iload_n 1, 1) := by decide +kernel
theorem dX6_decide_67 : decode cX6_decide 67 = .ok (.iconst 1, 1) := by decide +kernel
theorem dX6_decide_68 : decode cX6_decide 68 = .ok (.iastore, 1) := by decide +kernel
theorem dX6_decide_69 : decode cX6_decide 69 = .ok (.aload_n 0, 1) := by decide +kernel
theorem dX6_decide_70 : decode cX6_decide 70 = .ok (.getfield 48, 3) := by decide +kernel
theorem dX6_decide_73 : decode cX6_decide 73 = .ok (.iload_n 1, 1) := by decide +kernel
theorem dX6_decide_74 : decode cX6_decide 74 = .ok (.aload_n 0, 1) := by decide +kernel
theorem dX6_decide_75 : decode cX6_decide 75 = .ok (.iload_n 1, 1) := by decide +kernel
theorem dX6_decide_76 : decode cX6_decide 76 = .ok (.iconst 1, 1) := by decide +kernel
theorem dX6_decide_77 : decode cX6_decide 77 = .ok (.invokevirtual 165, 3) := by decide +kernel
theorem dX6_decide_80 : decode cX6_decide 80 = .ok (.ifCond .ge 7, 3) := by decide +kernel
theorem dX6_decide_83 : decode cX6_decide 83 = .ok (.iconst 0, 1) := by decide +kernel
theorem dX6_decide_84 : decode cX6_decide 84 = .ok (.goto 4, 3) := by decide +kernel
theorem dX6_decide_87 : decode cX6_decide 87 = .ok (.iconst 3, 1) := by decide +kernel
theorem dX6_decide_88 : decode cX6_decide 88 = .ok (.iastore, 1) := by decide +kernel
theorem dX6_decide_89 : decode cX6_decide 89 = .ok (.iconst 2, 1) := by decide +kernel
theorem dX6_decide_90 : decode cX6_decide 90 = .ok (.ireturn, 1) := by decide +kernel
theorem dX6_settleRow_0 : decode cX6_settleRow 0 = .ok (.iconst 4, 1) := by decide +kernel
theorem dX6_settleRow_1 : decode cX6_settleRow 1 = .ok (.iload_n 2, 1) := by decide +kernel
theorem dX6_settleRow_2 : decode cX6_settleRow 2 = .ok (.imul, 1) := by decide +kernel
theorem dX6_settleRow_3 : decode cX6_settleRow 3 = .ok (.istore 4, 2) := by decide +kernel
theorem dX6_settleRow_5 : decode cX6_settleRow 5 = .ok (.iload 4, 2) := by decide +kernel
theorem dX6_settleRow_7 : decode cX6_settleRow 7 = .ok (.iconst 4, 1) := by decide +kernel
theorem dX6_settleRow_8 : decode cX6_settleRow 8 = .ok (.iload_n 2, 1) := by decide +kernel
theorem dX6_settleRow_9 : decode cX6_settleRow 9 = .ok (.imul, 1) := by decide +kernel
theorem dX6_settleRow_10 : decode cX6_settleRow 10 = .ok (.iconst 4, 1) := by decide +kernel
theorem dX6_settleRow_11 : decode cX6_settleRow 11 = .ok (.iadd, 1) := by decide +kernel
theorem dX6_settleRow_12 : decode cX6_settleRow 12 = .ok (.if_icmp .ge 55, 3) := by decide +kernel
theorem dX6_settleRow_15 : decode cX6_settleRow 15 = .ok (.aload_n 0, 1) := by decide +kernel
theorem dX6_settleRow_16 : decode cX6_settleRow 16 = .ok (.iload_n 1, 1) := by decide +kernel
theorem dX6_settleRow_17 : decode cX6_settleRow 17 = .ok (.iload 4, 2) := by decide +kernel
theorem dX6_settleRow_19 : decode cX6_settleRow 19 = .ok (.invokevirtual 121, 3) := by decide +kernel
theorem dX6_settleRow_22 : decode cX6_settleRow 22 = .ok (.ifCond .lt 39, 3) := by decide +kernel
theorem dX6_settleRow_25 : decode cX6_settleRow 25 = .ok (.aload_n 0, 1) := by decide +kernel
theorem dX6_settleRow_26 : decode cX6_settleRow 26 = .ok (.getfield 39, 3) := by decide +kernel
theorem dX6_settleRow_29 : decode cX6_settleRow 29 = .ok (.iload 4, 2) := by decide +kernel
theorem dX6_settleRow_31 : decode cX6_settleRow 31 = .ok (.iaload, 1) := by decide +kernel
theorem dX6_settleRow_32 : decode cX6_settleRow 32 = .ok (.aload_n 0, 1) := by decide +kernel
theorem dX6_settleRow_33 : decode cX6_settleRow 33 = .ok (.getfield 51, 3) := by decide +kernel
theorem dX6_settleRow_36 : decode cX6_settleRow 36 = .ok (.iload_n 1, 1) := by decide +kernel
theorem dX6_settleRow_37 : decode cX6_settleRow 37 = .ok (.iaload, 1) := by decide +kernel
theorem dX6_settleRow_38 : decode cX6_settleRow 38 = .ok (.if_icmp .ne 23, 3) := by decide +kernel
theorem dX6_settleRow_41 : decode cX6_settleRow 41 = .ok (.aload_n 0, 1) := by decide +kernel
theorem dX6_settleRow_42 : decode cX6_settleRow 42 = .ok (.iload 4, 2) := by decide +kernel
theorem dX6_settleRow_44 : decode cX6_settleRow 44 = .ok (.iload_n 3, 1) := by decide +kernel
theorem dX6_settleRow_45 : decode cX6_settleRow 45 = .ok (.aload_n 0, 1) := by decide +kernel
theorem dX6_settleRow_46 : decode cX6_settleRow 46 = .ok (.getfield 51, 3) := by decide +kernel
theorem dX6_settleRow_49 : decode cX6_settleRow 49 = .ok (.iload_n 1, 1) := by decide +kernel
theorem dX6_settleRow_50 : decode cX6_settleRow 50 = .ok (.iaload, 1) := by decide +kernel
theorem dX6_settleRow_51 : decode cX6_settleRow 51 = .ok (.iconst 0, 1) := by decide +kernel
theorem dX6_settleRow_52 : decode cX6_settleRow 52 = .ok (.invokevirtual 117, 3) := by decide +kernel
theorem dX6_settleRow_55 : decode cX6_settleRow 55 = .ok (.aload_n 0, 1) := by decide +kernel
theorem dX6_settleRow_56 : decode cX6_settleRow 56 = .ok (.iload 4, 2) := by decide +kernel
theorem dX6_settleRow_58 : decode cX6_settleRow 58 = .ok (.invokevirtual 109, 3) := by decide +kernel
theorem dX6_settleRow_61 : decode cX6_settleRow 61 = .ok (.iinc 4 1, 3) := by decide +kernel
theorem dX6_settleRow_64 : decode cX6_settleRow 64 = .ok (.goto (-59), 3) := by decide +kernel
theorem dX6_settleRow_67 : decode cX6_settleRow 67 = .ok (.return_, 1) := by decide +kernel
theorem dX6_settle_0 : decode cX6_settle 0 = .ok (.aload_n 0, 1) := by decide +kernel
theorem dX6_settle_1 : decode cX6_settle 1 = .ok (.iload_n 1, 1) := by decide +kernel
theorem dX6_settle_2 : decode cX6_settle 2 = .ok (.aload_n 0, 1) := by decide +kernel
theorem dX6_settle_3 : decode cX6_settle 3 = .ok (.iload_n 1, 1) := by decide +kernel
theorem dX6_settle_4 : decode cX6_settle 4 = .ok (.aload_n 0, 1) := by decide +kernel
theorem dX6_settle_5 : decode cX6_settle 5 = .ok (.getfield 66, 3) := by decide +kernel
theorem dX6_settle_8 : decode cX6_settle 8 = .ok (.iload_n 1, 1) := by decide +kernel
theorem dX6_settle_9 : decode cX6_settle 9 = .ok (.iaload, 1) := by decide +kernel
theorem dX6_settle_10 : decode cX6_settle 10 = .ok (.invokevirtual 165, 3) := by decide +kernel
theorem dX6_settle_13 : decode cX6_settle 13 = .ok (.aload_n 0, 1) := by decide +kernel
theorem dX6_settle_14 : decode cX6_settle 14 = .ok (.getfield 69, 3) := by decide +kernel
theorem dX6_settle_17 : decode cX6_settle 17 = .ok (.iload_n 1, 1) := by decide +kernel
theorem dX6_settle_18 : decode cX6_settle 18 = .ok (.iaload, 1) := by decide +kernel
theorem dX6_settle_19 : decode cX6_settle 19 = .ok (.invokevirtual 184, 3) := by decide +kernel
theorem dX6_settle_22 : decode cX6_settle 22 = .ok (.aload_n 0, 1) := by decide +kernel
theorem dX6_settle_23 : decode cX6_settle 23 = .ok (.getfield 66, 3) := by decide +kernel
theorem dX6_settle_26 : decode cX6_settle 26 = .ok (.iload_n 1, 1) := by decide +kernel
theorem dX6_settle_27 : decode cX6_settle 27 = .ok (.dup2, 1) := by decide +kernel
theorem dX6_settle_28 : decode cX6_settle 28 = .ok (.iaload, 1) := by decide +kernel
theorem dX6_settle_29 : decode cX6_settle 29 = .ok (.iconst 1, 1) := by decide +kernel
theorem dX6_settle_30 : decode cX6_settle 30 = .ok (.iadd, 1) := by decide +kernel
theorem dX6_settle_31 : decode cX6_settle 31 = .ok (.iastore, 1) := by decide +kernel
theorem dX6_settle_32 : decode cX6_settle 32 = .ok (.aload_n 0, 1) := by decide +kernel
theorem dX6_settle_33 : decode cX6_settle 33 = .ok (.iload_n 1, 1) := by decide +kernel
theorem dX6_settle_34 : decode cX6_settle 34 = .ok (.aload_n 0, 1) := by decide +kernel
theorem dX6_settle_35 : decode cX6_settle 35 = .ok (.getfield 66, 3) := by decide +kernel
theorem dX6_settle_38 : decode cX6_settle 38 = .ok (.iload_n 1, 1) := by decide +kernel
theorem dX6_settle_39 : decode cX6_settle 39 = .ok (.iaload, 1) := by decide +kernel
theorem dX6_settle_40 : decode cX6_settle 40 = .ok (.invokevirtual 165, 3) := by decide +kernel
theorem dX6_settle_43 : decode cX6_settle 43 = .ok (.ifCond .lt 5, 3) := by decide +kernel
theorem dX6_settle_46 : decode cX6_settle 46 = .ok (.iconst 1, 1) := by decide +kernel
theorem dX6_settle_47 : decode cX6_settle 47 = .ok (.ireturn, 1) := by decide +kernel
theorem dX6_settle_48 : decode cX6_settle 48 = .ok (.aload_n 0, 1) := by decide +kernel
theorem dX6_settle_49 : decode cX6_settle 49 = .ok (.getfield 48, 3) := by decide +kernel
theorem dX6_settle_52 : decode cX6_settle 52 = .ok (.iload_n 1, 1) := by decide +kernel
theorem dX6_settle_53 : decode cX6_settle 53 = .ok (.iconst 0, 1) := by decide +kernel
theorem dX6_settle_54 : decode cX6_settle 54 = .ok (.iastore, 1) := by decide +kernel
theorem dX6_settle_55 : decode cX6_settle 55 = .ok (.iconst 3, 1) := by decide +kernel
theorem dX6_settle_56 : decode cX6_settle 56 = .ok (.ireturn, 1) := by decide +kernel
theorem dX6_undo_0 : decode cX6_undo 0 = .ok (.iconst 0, 1) := by decide +kernel
theorem dX6_undo_1 : decode cX6_undo 1 = .ok (.istore_n 2, 1) := by decide +kernel
theorem dX6_undo_2 : decode cX6_undo 2 = .ok (.aload_n 0, 1) := by decide +kernel
theorem dX6_undo_3 : decode cX6_undo 3 = .ok (.iload_n 1, 1) := by decide +kernel
theorem dX6_undo_4 : decode cX6_undo 4 = .ok (.iload_n 2, 1) := by decide +kernel
theorem dX6_undo_5 : decode cX6_undo 5 = .ok (.invokevirtual 165, 3) := by decide +kernel
theorem dX6_undo_8 : decode cX6_undo 8 = .ok (.ifCond .lt 189, 3) := by decide +kernel
theorem dX6_undo_11 : decode cX6_undo 11 = .ok (.aload_n 0, 1) := by decide +kernel
theorem dX6_undo_12 : decode cX6_undo 12 = .ok (.iload_n 1, 1) := by decide +kernel
theorem dX6_undo_13 : decode cX6_undo 13 = .ok (.iload_n 2, 1) := by decide +kernel
theorem dX6_undo_14 : decode cX6_undo 14 = .ok (.invokevirtual 165, 3) := by decide +kernel
theorem dX6_undo_17 : decode cX6_undo 17 = .ok (.istore_n 3, 1) := by decide +kernel
theorem dX6_undo_18 : decode cX6_undo 18 = .ok (.iconst 0, 1) := by decide +kernel
theorem dX6_undo_19 : decode cX6_undo 19 = .ok (.istore 4, 2) := by decide +kernel
theorem dX6_undo_21 : decode cX6_undo 21 = .ok (.iconst 4, 1) := by decide +kernel
theorem dX6_undo_22 : decode cX6_undo 22 = .ok (.iload_n 3, 1) := by decide +kernel
theorem dX6_undo_23 : decode cX6_undo 23 = .ok (.imul, 1) := by decide +kernel
theorem dX6_undo_24 : decode cX6_undo 24 = .ok (.istore 5, 2) := by decide +kernel
theorem dX6_undo_26 : decode cX6_undo 26 = .ok (.iload 5, 2) := by decide +kernel
theorem dX6_undo_28 : decode cX6_undo 28 = .ok (.iconst 4, 1) := by decide +kernel
theorem dX6_undo_29 : decode cX6_undo 29 = .ok (.iload_n 3, 1) := by decide +kernel
theorem dX6_undo_30 : decode cX6_undo 30 = .ok (.imul, 1) := by decide +kernel
theorem dX6_undo_31 : decode cX6_undo 31 = .ok (.iconst 4, 1) := by decide +kernel
theorem dX6_undo_32 : decode cX6_undo 32 = .ok (.iadd, 1) := by decide +kernel
theorem dX6_undo_33 : decode cX6_undo 33 = .ok (.if_icmp .ge 47, 3) := by decide +kernel
theorem dX6_undo_36 : decode cX6_undo 36 = .ok (.iload 4, 2) := by decide +kernel
theorem dX6_undo_38 : decode cX6_undo 38 = .ok (.ifCond .ne 29, 3) := by decide +kernel
theorem dX6_undo_41 : decode cX6_undo 41 = .ok (.aload_n 0, 1) := by decide +kernel
theorem dX6_undo_42 : decode cX6_undo 42 = .ok (.iload_n 1, 1) := by decide +kernel
theorem dX6_undo_43 : decode cX6_undo 43 = .ok (.iload 5, 2) := by decide +kernel
theorem dX6_undo_45 : decode cX6_undo 45 = .ok (.invokevirtual 121, 3) := by decide +kernel
theorem dX6_undo_48 : decode cX6_undo 48 = .ok (.ifCond .lt 23, 3) := by decide +kernel
theorem dX6_undo_51 : decode cX6_undo 51 = .ok (.aload_n 0, 1) := by decide +kernel
theorem dX6_undo_52 : decode cX6_undo 52 = .ok (.getfield 39, 3) := by decide +kernel
theorem dX6_undo_55 : decode cX6_undo 55 = .ok (.iload 5, 2) := by decide +kernel
theorem dX6_undo_57 : decode cX6_undo 57 = .ok (.iaload, 1) := by decide +kernel
theorem dX6_undo_58 : decode cX6_undo 58 = .ok (.aload_n 0, 1) := by decide +kernel
theorem dX6_undo_59 : decode cX6_undo 59 = .ok (.getfield 51, 3) := by decide +kernel
theorem dX6_undo_62 : decode cX6_undo 62 = .ok (.iload_n 1, 1) := by decide +kernel
theorem dX6_undo_63 : decode cX6_undo 63 = .ok (.iaload, 1) := by decide +kernel
theorem dX6_undo_64 : decode cX6_undo 64 = .ok (.if_icmp .ne 7, 3) := by decide +kernel
theorem dX6_undo_67 : decode cX6_undo 67 = .ok (.iconst 1, 1) := by decide +kernel
theorem dX6_undo_68 : decode cX6_undo 68 = .ok (.goto 4, 3) := by decide +kernel
theorem dX6_undo_71 : decode cX6_undo 71 = .ok (.iconst 0, 1) := by decide +kernel
theorem dX6_undo_72 : decode cX6_undo 72 = .ok (.istore 4, 2) := by decide +kernel
theorem dX6_undo_74 : decode cX6_undo 74 = .ok (.iinc 5 1, 3) := by decide +kernel
theorem dX6_undo_77 : decode cX6_undo 77 = .ok (.goto (-51), 3) := by decide +kernel
theorem dX6_undo_80 : decode cX6_undo 80 = .ok (.iload 4, 2) := by decide +kernel
theorem dX6_undo_82 : decode cX6_undo 82 = .ok (.ifCond .ne 6, 3) := by decide +kernel
theorem dX6_undo_85 : decode cX6_undo 85 = .ok (.goto 106, 3) := by decide +kernel
theorem dX6_undo_88 : decode cX6_undo 88 = .ok (.iconst 4, 1) := by decide +kernel
theorem dX6_undo_89 : decode cX6_undo 89 = .ok (.iload_n 3, 1) := by decide +kernel
theorem dX6_undo_90 : decode cX6_undo 90 = .ok (.imul, 1) := by decide +kernel
theorem dX6_undo_91 : decode cX6_undo 91 = .ok (.istore 5, 2) := by decide +kernel
theorem dX6_undo_93 : decode cX6_undo 93 = .ok (.iload 5, 2) := by decide +kernel
theorem dX6_undo_95 : decode cX6_undo 95 = .ok (.iconst 4, 1) := by decide +kernel
theorem dX6_undo_96 : decode cX6_undo 96 = .ok (.iload_n 3, 1) := by decide +kernel
theorem dX6_undo_97 : decode cX6_undo 97 = .ok (.imul, 1) := by decide +kernel
theorem dX6_undo_98 : decode cX6_undo 98 = .ok (.iconst 4, 1) := by decide +kernel
theorem dX6_undo_99 : decode cX6_undo 99 = .ok (.iadd, 1) := by decide +kernel
theorem dX6_undo_100 : decode cX6_undo 100 = .ok (.if_icmp .ge 89, 3) := by decide +kernel
theorem dX6_undo_103 : decode cX6_undo 103 = .ok (.aload_n 0, 1) := by decide +kernel
theorem dX6_undo_104 : decode cX6_undo 104 = .ok (.iload_n 1, 1) := by decide +kernel
theorem dX6_undo_105 : decode cX6_undo 105 = .ok (.iload 5, 2) := by decide +kernel
theorem dX6_undo_107 : decode cX6_undo 107 = .ok (.invokevirtual 121, 3) := by decide +kernel
theorem dX6_undo_110 : decode cX6_undo 110 = .ok (.ifCond .lt 73, 3) := by decide +kernel
theorem dX6_undo_113 : decode cX6_undo 113 = .ok (.aload_n 0, 1) := by decide +kernel
theorem dX6_undo_114 : decode cX6_undo 114 = .ok (.getfield 39, 3) := by decide +kernel
theorem dX6_undo_117 : decode cX6_undo 117 = .ok (.iload 5, 2) := by decide +kernel
theorem dX6_undo_119 : decode cX6_undo 119 = .ok (.iaload, 1) := by decide +kernel
theorem dX6_undo_120 : decode cX6_undo 120 = .ok (.aload_n 0, 1) := by decide +kernel
theorem dX6_undo_121 : decode cX6_undo 121 = .ok (.getfield 51, 3) := by decide +kernel
theorem dX6_undo_124 : decode cX6_undo 124 = .ok (.iload_n 1, 1) := by decide +kernel
theorem dX6_undo_125 : decode cX6_undo 125 = .ok (.iaload, 1) := by decide +kernel
theorem dX6_undo_126 : decode cX6_undo 126 = .ok (.if_icmp .eq 6, 3) := by decide +kernel
theorem dX6_undo_129 : decode cX6_undo 129 = .ok (.goto 54, 3) := by decide +kernel
theorem dX6_undo_132 : decode cX6_undo 132 = .ok (.aload_n 0, 1) := by decide +kernel
theorem dX6_undo_133 : decode cX6_undo 133 = .ok (.iload 5, 2) := by decide +kernel
theorem dX6_undo_135 : decode cX6_undo 135 = .ok (.invokevirtual 109, 3) := by decide +kernel
theorem dX6_undo_138 : decode cX6_undo 138 = .ok (.aload_n 0, 1) := by decide +kernel
theorem dX6_undo_139 : decode cX6_undo 139 = .ok (.iload 5, 2) := by decide +kernel
theorem dX6_undo_141 : decode cX6_undo 141 = .ok (.aload_n 0, 1) := by decide +kernel
theorem dX6_undo_142 : decode cX6_undo 142 = .ok (.getfield 51, 3) := by decide +kernel
theorem dX6_undo_145 : decode cX6_undo 145 = .ok (.iload_n 1, 1) := by decide +kernel
theorem dX6_undo_146 : decode cX6_undo 146 = .ok (.iaload, 1) := by decide +kernel
theorem dX6_undo_147 : decode cX6_undo 147 = .ok (.invokevirtual 113, 3) := by decide +kernel
theorem dX6_undo_150 : decode cX6_undo 150 = .ok (.iload 5, 2) := by decide +kernel
theorem dX6_undo_152 : decode cX6_undo 152 = .ok (.aload_n 0, 1) := by decide +kernel
theorem dX6_undo_153 : decode cX6_undo 153 = .ok (.getfield 60, 3) := by decide +kernel
theorem dX6_undo_156 : decode cX6_undo 156 = .ok (.bipush 16, 2) := by decide +kernel
theorem dX6_undo_158 : decode cX6_undo 158 = .ok (.iload_n 1, 1) := by decide +kernel
theorem dX6_undo_159 : decode cX6_undo 159 = .ok (.imul, 1) := by decide +kernel
theorem dX6_undo_160 : decode cX6_undo 160 = .ok (.iaload, 1) := by decide +kernel
theorem dX6_undo_161 : decode cX6_undo 161 = .ok (.if_icmp .ne 22, 3) := by decide +kernel
theorem dX6_undo_164 : decode cX6_undo 164 = .ok (.aload_n 0, 1) := by decide +kernel
theorem dX6_undo_165 : decode cX6_undo 165 = .ok (.iload 5, 2) := by decide +kernel
theorem dX6_undo_167 : decode cX6_undo 167 = .ok (.aload_n 0, 1) := by decide +kernel
theorem dX6_undo_168 : decode cX6_undo 168 = .ok (.getfield 51, 3) := by decide +kernel
theorem dX6_undo_171 : decode cX6_undo 171 = .ok (.iload_n 1, 1) := by decide +kernel
theorem dX6_undo_172 : decode cX6_undo 172 = .ok (.iaload, 1) := by decide +kernel
theorem dX6_undo_173 : decode cX6_undo 173 = .ok (.aload_n 0, 1) := by decide +kernel
theorem dX6_undo_174 : decode cX6_undo 174 = .ok (.getfield 51, 3) := by decide +kernel
theorem dX6_undo_177 : decode cX6_undo 177 = .ok (.iload_n 1, 1) := by decide +kernel
theorem dX6_undo_178 : decode cX6_undo 178 = .ok (.iaload, 1) := by decide +kernel
theorem dX6_undo_179 : decode cX6_undo 179 = .ok (.iconst 1, 1) := by decide +kernel
theorem dX6_undo_180 : decode cX6_undo 180 = .ok (.invokevirtual 117, 3) := by decide +kernel
theorem dX6_undo_183 : decode cX6_undo 183 = .ok (.iinc 5 1, 3) := by decide +kernel
theorem dX6_undo_186 : decode cX6_undo 186 = .ok (.goto (-93), 3) := by decide +kernel
theorem dX6_undo_189 : decode cX6_undo 189 = .ok (.iconst 1, 1) := by decide +kernel
theorem dX6_undo_190 : decode cX6_undo 190 = .ok (.ireturn, 1) := by decide +kernel
theorem dX6_undo_191 : decode cX6_undo 191 = .ok (.iinc 2 1, 3) := by decide +kernel
theorem dX6_undo_194 : decode cX6_undo 194 = .ok (.goto (-192), 3) := by decide +kernel
theorem dX6_undo_197 : decode cX6_undo 197 = .ok (.aload_n 0, 1) := by decide +kernel
theorem dX6_undo_198 : decode cX6_undo 198 = .ok (.getfield 48, 3) := by decide +kernel
theorem dX6_undo_201 : decode cX6_undo 201 = .ok (.iload_n 1, 1) := by decide +kernel
theorem dX6_undo_202 : decode cX6_undo 202 = .ok (.iconst 0, 1) := by decide +kernel
theorem dX6_undo_203 : decode cX6_undo 203 = .ok (.iastore, 1) := by decide +kernel
theorem dX6_undo_204 : decode cX6_undo 204 = .ok (.iconst 0, 1) := by decide +kernel
theorem dX6_undo_205 : decode cX6_undo 205 = .ok (.ireturn, 1) := by decide +kernel
theorem dX6_crash_0 : decode cX6_crash 0 = .ok (.aload_n 0, 1) := by decide +kernel
theorem dX6_crash_1 : decode cX6_crash 1 = .ok (.iconst 0, 1) := by decide +kernel
theorem dX6_crash_2 : decode cX6_crash 2 = .ok (.putfield 75, 3) := by decide +kernel
theorem dX6_crash_5 : decode cX6_crash 5 = .ok (.iload_n 1, 1) := by decide +kernel
theorem dX6_crash_6 : decode cX6_crash 6 = .ok (.invokestatic 138, 3) := by decide +kernel
theorem dX6_crash_9 : decode cX6_crash 9 = .ok (.ifCond .eq 5, 3) := by decide +kernel
theorem dX6_crash_12 : decode cX6_crash 12 = .ok (.iconst (-1), 1) := by decide +kernel
theorem dX6_crash_13 : decode cX6_crash 13 = .ok (.ireturn, 1) := by decide +kernel
theorem dX6_crash_14 : decode cX6_crash 14 = .ok (.aload_n 0, 1) := by decide +kernel
theorem dX6_crash_15 : decode cX6_crash 15 = .ok (.getfield 48, 3) := by decide +kernel
theorem dX6_crash_18 : decode cX6_crash 18 = .ok (.iload_n 1, 1) := by decide +kernel
theorem dX6_crash_19 : decode cX6_crash 19 = .ok (.iaload, 1) := by decide +kernel
theorem dX6_crash_20 : decode cX6_crash 20 = .ok (.ifCond .le 7, 3) := by decide +kernel
theorem dX6_crash_23 : decode cX6_crash 23 = .ok (.iconst 1, 1) := by decide +kernel
theorem dX6_crash_24 : decode cX6_crash 24 = .ok (.goto 4, 3) := by decide +kernel
theorem dX6_crash_27 : decode cX6_crash 27 = .ok (.iconst 0, 1) := by decide +kernel
theorem dX6_crash_28 : decode cX6_crash 28 = .ok (.istore_n 2, 1) := by decide +kernel
theorem dX6_crash_29 : decode cX6_crash 29 = .ok (.aload_n 0, 1) := by decide +kernel
theorem dX6_crash_30 : decode cX6_crash 30 = .ok (.getfield 48, 3) := by decide +kernel
theorem dX6_crash_33 : decode cX6_crash 33 = .ok (.iload_n 1, 1) := by decide +kernel
theorem dX6_crash_34 : decode cX6_crash 34 = .ok (.iconst 0, 1) := by decide +kernel
theorem dX6_crash_35 : decode cX6_crash 35 = .ok (.iastore, 1) := by decide +kernel
theorem dX6_crash_36 : decode cX6_crash 36 = .ok (.iload_n 2, 1) := by decide +kernel
theorem dX6_crash_37 : decode cX6_crash 37 = .ok (.ireturn, 1) := by decide +kernel
theorem dX6_tick_0 : decode cX6_tick 0 = .ok (.aload_n 0, 1) := by decide +kernel
theorem dX6_tick_1 : decode cX6_tick 1 = .ok (.iconst 0, 1) := by decide +kernel
theorem dX6_tick_2 : decode cX6_tick 2 = .ok (.putfield 75, 3) := by decide +kernel
theorem dX6_tick_5 : decode cX6_tick 5 = .ok (.iload_n 1, 1) := by decide +kernel
theorem dX6_tick_6 : decode cX6_tick 6 = .ok (.iconst 0, 1) := by decide +kernel
theorem dX6_tick_7 : decode cX6_tick 7 = .ok (.ldc 190, 2) := by decide +kernel
theorem dX6_tick_9 : decode cX6_tick 9 = .ok (.invokestatic 134, 3) := by decide +kernel
theorem dX6_tick_12 : decode cX6_tick 12 = .ok (.ifCond .eq 14, 3) := by decide +kernel
theorem dX6_tick_15 : decode cX6_tick 15 = .ok (.iload_n 1, 1) := by decide +kernel
theorem dX6_tick_16 : decode cX6_tick 16 = .ok (.ldc 191, 2) := by decide +kernel
theorem dX6_tick_18 : decode cX6_tick 18 = .ok (.aload_n 0, 1) := by decide +kernel
theorem dX6_tick_19 : decode cX6_tick 19 = .ok (.getfield 103, 3) := by decide +kernel
theorem dX6_tick_22 : decode cX6_tick 22 = .ok (.isub, 1) := by decide +kernel
theorem dX6_tick_23 : decode cX6_tick 23 = .ok (.if_icmp .le 6, 3) := by decide +kernel
theorem dX6_tick_26 : decode cX6_tick 26 = .ok (.bipush (-2), 2) := by decide +kernel
theorem dX6_tick_28 : decode cX6_tick 28 = .ok (.ireturn, 1) := by decide +kernel
theorem dX6_tick_29 : decode cX6_tick 29 = .ok (.aload_n 0, 1) := by decide +kernel
theorem dX6_tick_30 : decode cX6_tick 30 = .ok (.dup, 1) := by decide +kernel
theorem dX6_tick_31 : decode cX6_tick 31 = .ok (.getfield 103, 3) := by decide +kernel
theorem dX6_tick_34 : decode cX6_tick 34 = .ok (.iload_n 1, 1) := by decide +kernel
theorem dX6_tick_35 : decode cX6_tick 35 = .ok (.iadd, 1) := by decide +kernel
theorem dX6_tick_36 : decode cX6_tick 36 = .ok (.putfield 103, 3) := by decide +kernel
theorem dX6_tick_39 : decode cX6_tick 39 = .ok (.aload_n 0, 1) := by decide +kernel
theorem dX6_tick_40 : decode cX6_tick 40 = .ok (.getfield 103, 3) := by decide +kernel
theorem dX6_tick_43 : decode cX6_tick 43 = .ok (.ireturn, 1) := by decide +kernel
theorem dX6_timeout_0 : decode cX6_timeout 0 = .ok (.aload_n 0, 1) := by decide +kernel
theorem dX6_timeout_1 : decode cX6_timeout 1 = .ok (.iconst 0, 1) := by decide +kernel
theorem dX6_timeout_2 : decode cX6_timeout 2 = .ok (.putfield 75, 3) := by decide +kernel
theorem dX6_timeout_5 : decode cX6_timeout 5 = .ok (.iload_n 1, 1) := by decide +kernel
theorem dX6_timeout_6 : decode cX6_timeout 6 = .ok (.iconst 0, 1) := by decide +kernel
theorem dX6_timeout_7 : decode cX6_timeout 7 = .ok (.ldc 190, 2) := by decide +kernel
theorem dX6_timeout_9 : decode cX6_timeout 9 = .ok (.invokestatic 134, 3) := by decide +kernel
theorem dX6_timeout_12 : decode cX6_timeout 12 = .ok (.ifCond .ne 6, 3) := by decide +kernel
theorem dX6_timeout_15 : decode cX6_timeout 15 = .ok (.bipush (-2), 2) := by decide +kernel
theorem dX6_timeout_17 : decode cX6_timeout 17 = .ok (.ireturn, 1) := by decide +kernel
theorem dX6_timeout_18 : decode cX6_timeout 18 = .ok (.aload_n 0, 1) := by decide +kernel
theorem dX6_timeout_19 : decode cX6_timeout 19 = .ok (.getfield 7, 3) := by decide +kernel
theorem dX6_timeout_22 : decode cX6_timeout 22 = .ok (.istore_n 2, 1) := by decide +kernel
theorem dX6_timeout_23 : decode cX6_timeout 23 = .ok (.aload_n 0, 1) := by decide +kernel
theorem dX6_timeout_24 : decode cX6_timeout 24 = .ok (.iload_n 1, 1) := by decide +kernel
theorem dX6_timeout_25 : decode cX6_timeout 25 = .ok (.putfield 7, 3) := by decide +kernel
theorem dX6_timeout_28 : decode cX6_timeout 28 = .ok (.iload_n 2, 1) := by decide +kernel
theorem dX6_timeout_29 : decode cX6_timeout 29 = .ok (.ireturn, 1) := by decide +kernel
theorem dX6_fallOracle_0 : decode cX6_fallOracle 0 = .ok (.aload_n 0, 1) := by decide +kernel
theorem dX6_fallOracle_1 : decode cX6_fallOracle 1 = .ok (.iconst 0, 1) := by decide +kernel
theorem dX6_fallOracle_2 : decode cX6_fallOracle 2 = .ok (.putfield 75, 3) := by decide +kernel
theorem dX6_fallOracle_5 : decode cX6_fallOracle 5 = .ok (.aload_n 0, 1) := by decide +kernel
theorem dX6_fallOracle_6 : decode cX6_fallOracle 6 = .ok (.aload_n 0, 1) := by decide +kernel
theorem dX6_fallOracle_7 : decode cX6_fallOracle 7 = .ok (.getfield 93, 3) := by decide +kernel
theorem dX6_fallOracle_10 : decode cX6_fallOracle 10 = .ok (.iconst 1, 1) := by decide +kernel
theorem dX6_fallOracle_11 : decode cX6_fallOracle 11 = .ok (.iadd, 1) := by decide +kernel
theorem dX6_fallOracle_12 : decode cX6_fallOracle 12 = .ok (.putfield 13, 3) := by decide +kernel
theorem dX6_fallOracle_15 : decode cX6_fallOracle 15 = .ok (.aload_n 0, 1) := by decide +kernel
theorem dX6_fallOracle_16 : decode cX6_fallOracle 16 = .ok (.getfield 13, 3) := by decide +kernel
theorem dX6_fallOracle_19 : decode cX6_fallOracle 19 = .ok (.ireturn, 1) := by decide +kernel
theorem dX6_fall_0 : decode cX6_fall 0 = .ok (.aload_n 0, 1) := by decide +kernel
theorem dX6_fall_1 : decode cX6_fall 1 = .ok (.iconst 0, 1) := by decide +kernel
theorem dX6_fall_2 : decode cX6_fall 2 = .ok (.putfield 75, 3) := by decide +kernel
theorem dX6_fall_5 : decode cX6_fall 5 = .ok (.aload_n 0, 1) := by decide +kernel
theorem dX6_fall_6 : decode cX6_fall 6 = .ok (.getfield 72, 3) := by decide +kernel
theorem dX6_fall_9 : decode cX6_fall 9 = .ok (.ireturn, 1) := by decide +kernel
theorem dX6_sweep_0 : decode cX6_sweep 0 = .ok (.aload_n 0, 1) := by decide +kernel
theorem dX6_sweep_1 : decode cX6_sweep 1 = .ok (.iconst 0, 1) := by decide +kernel
theorem dX6_sweep_2 : decode cX6_sweep 2 = .ok (.putfield 75, 3) := by decide +kernel
theorem dX6_sweep_5 : decode cX6_sweep 5 = .ok (.iload_n 1, 1) := by decide +kernel
theorem dX6_sweep_6 : decode cX6_sweep 6 = .ok (.ifCond .lt 11, 3) := by decide +kernel
theorem dX6_sweep_9 : decode cX6_sweep 9 = .ok (.iload_n 1, 1) := by decide +kernel
theorem dX6_sweep_10 : decode cX6_sweep 10 = .ok (.aload_n 0, 1) := by decide +kernel
theorem dX6_sweep_11 : decode cX6_sweep 11 = .ok (.getfield 96, 3) := by decide +kernel
theorem dX6_sweep_14 : decode cX6_sweep 14 = .ok (.if_icmp .le 6, 3) := by decide +kernel
theorem dX6_sweep_17 : decode cX6_sweep 17 = .ok (.bipush (-2), 2) := by decide +kernel
theorem dX6_sweep_19 : decode cX6_sweep 19 = .ok (.ireturn, 1) := by decide +kernel
theorem dX6_sweep_20 : decode cX6_sweep 20 = .ok (.iconst 0, 1) := by decide +kernel
theorem dX6_sweep_21 : decode cX6_sweep 21 = .ok (.istore_n 2, 1) := by decide +kernel
theorem dX6_sweep_22 : decode cX6_sweep 22 = .ok (.iload_n 2, 1) := by decide +kernel
theorem dX6_sweep_23 : decode cX6_sweep 23 = .ok (.bipush 8, 2) := by decide +kernel
theorem dX6_sweep_25 : decode cX6_sweep 25 = .ok (.if_icmp .ge 31, 3) := by decide +kernel
theorem dX6_sweep_28 : decode cX6_sweep 28 = .ok (.aload_n 0, 1) := by decide +kernel
theorem dX6_sweep_29 : decode cX6_sweep 29 = .ok (.getfield 48, 3) := by decide +kernel
theorem dX6_sweep_32 : decode cX6_sweep 32 = .ok (.iload_n 2, 1) := by decide +kernel
theorem dX6_sweep_33 : decode cX6_sweep 33 = .ok (.iaload, 1) := by decide +kernel
theorem dX6_sweep_34 : decode cX6_sweep 34 = .ok (.ifCond .le 16, 3) := by decide +kernel
theorem dX6_sweep_37 : decode cX6_sweep 37 = .ok (.aload_n 0, 1) := by decide +kernel
theorem dX6_sweep_38 : decode cX6_sweep 38 = .ok (.getfield 51, 3) := by decide +kernel
theorem dX6_sweep_41 : decode cX6_sweep 41 = .ok (.iload_n 2, 1) := by decide +kernel
theorem dX6_sweep_42 : decode cX6_sweep 42 = .ok (.iaload, 1) := by decide +kernel
theorem dX6_sweep_43 : decode cX6_sweep 43 = .ok (.iload_n 1, 1) := by decide +kernel
theorem dX6_sweep_44 : decode cX6_sweep 44 = .ok (.if_icmp .ge 6, 3) := by decide +kernel
theorem dX6_sweep_47 : decode cX6_sweep 47 = .ok (.bipush (-3), 2) := by decide +kernel
theorem dX6_sweep_49 : decode cX6_sweep 49 = .ok (.ireturn, 1) := by decide +kernel
theorem dX6_sweep_50 : decode cX6_sweep 50 = .ok (.iinc 2 1, 3) := by decide +kernel
theorem dX6_sweep_53 : decode cX6_sweep 53 = .ok (.goto (-31), 3) := by decide +kernel
theorem dX6_sweep_56 : decode cX6_sweep 56 = .ok (.iconst 0, 1) := by decide +kernel
theorem dX6_sweep_57 : decode cX6_sweep 57 = .ok (.istore_n 2, 1) := by decide +kernel
theorem dX6_sweep_58 : decode cX6_sweep 58 = .ok (.iload_n 2, 1) := by decide +kernel
theorem dX6_sweep_59 : decode cX6_sweep 59 = .ok (.sipush 256, 3) := by decide +kernel
theorem dX6_sweep_62 : decode cX6_sweep 62 = .ok (.if_icmp .ge 31, 3) := by decide +kernel
theorem dX6_sweep_65 : decode cX6_sweep 65 = .ok (.aload_n 0, 1) := by decide +kernel
theorem dX6_sweep_66 : decode cX6_sweep 66 = .ok (.getfield 39, 3) := by decide +kernel
theorem dX6_sweep_69 : decode cX6_sweep 69 = .ok (.iload_n 2, 1) := by decide +kernel
theorem dX6_sweep_70 : decode cX6_sweep 70 = .ok (.iaload, 1) := by decide +kernel
theorem dX6_sweep_71 : decode cX6_sweep 71 = .ok (.ifCond .le 16, 3) := by decide +kernel
theorem dX6_sweep_74 : decode cX6_sweep 74 = .ok (.aload_n 0, 1) := by decide +kernel
theorem dX6_sweep_75 : decode cX6_sweep 75 = .ok (.getfield 39, 3) := by decide +kernel
theorem dX6_sweep_78 : decode cX6_sweep 78 = .ok (.iload_n 2, 1) := by decide +kernel
theorem dX6_sweep_79 : decode cX6_sweep 79 = .ok (.iaload, 1) := by decide +kernel
theorem dX6_sweep_80 : decode cX6_sweep 80 = .ok (.iload_n 1, 1) := by decide +kernel
theorem dX6_sweep_81 : decode cX6_sweep 81 = .ok (.if_icmp .gt 6, 3) := by decide +kernel
theorem dX6_sweep_84 : decode cX6_sweep 84 = .ok (.bipush (-3), 2) := by decide +kernel
theorem dX6_sweep_86 : decode cX6_sweep 86 = .ok (.ireturn, 1) := by decide +kernel
theorem dX6_sweep_87 : decode cX6_sweep 87 = .ok (.iinc 2 1, 3) := by decide +kernel
theorem dX6_sweep_90 : decode cX6_sweep 90 = .ok (.goto (-32), 3) := by decide +kernel
theorem dX6_sweep_93 : decode cX6_sweep 93 = .ok (.aload_n 0, 1) := by decide +kernel
theorem dX6_sweep_94 : decode cX6_sweep 94 = .ok (.invokevirtual 174, 3) := by decide +kernel
theorem dX6_sweep_97 : decode cX6_sweep 97 = .ok (.istore_n 2, 1) := by decide +kernel
theorem dX6_sweep_98 : decode cX6_sweep 98 = .ok (.iconst 0, 1) := by decide +kernel
theorem dX6_sweep_99 : decode cX6_sweep 99 = .ok (.istore_n 3, 1) := by decide +kernel
theorem dX6_sweep_100 : decode cX6_sweep 100 = .ok (.iload_n 3, 1) := by decide +kernel
theorem dX6_sweep_101 : decode cX6_sweep 101 = .ok (.sipush 256, 3) := by decide +kernel
theorem dX6_sweep_104 : decode cX6_sweep 104 = .ok (.if_icmp .ge 15, 3) := by decide +kernel
theorem dX6_sweep_107 : decode cX6_sweep 107 = .ok (.aload_n 0, 1) := by decide +kernel
theorem dX6_sweep_108 : decode cX6_sweep 108 = .ok (.iload_n 3, 1) := by decide +kernel
theorem dX6_sweep_109 : decode cX6_sweep 109 = .ok (.iload_n 1, 1) := by decide +kernel
theorem dX6_sweep_110 : decode cX6_sweep 110 = .ok (.invokevirtual 192, 3) := by decide +kernel
theorem dX6_sweep_113 : decode cX6_sweep 113 = .ok (.iinc 3 1, 3) := by decide +kernel
theorem dX6_sweep_116 : decode cX6_sweep 116 = .ok (.goto (-16), 3) := by decide +kernel
theorem dX6_sweep_119 : decode cX6_sweep 119 = .ok (.aload_n 0, 1) := by decide +kernel
theorem dX6_sweep_120 : decode cX6_sweep 120 = .ok (.iload_n 2, 1) := by decide +kernel
theorem dX6_sweep_121 : decode cX6_sweep 121 = .ok (.aload_n 0, 1) := by decide +kernel
theorem dX6_sweep_122 : decode cX6_sweep 122 = .ok (.invokevirtual 174, 3) := by decide +kernel
theorem dX6_sweep_125 : decode cX6_sweep 125 = .ok (.isub, 1) := by decide +kernel
theorem dX6_sweep_126 : decode cX6_sweep 126 = .ok (.invokevirtual 152, 3) := by decide +kernel
theorem dX6_sweep_129 : decode cX6_sweep 129 = .ok (.ireturn, 1) := by decide +kernel
theorem dX6_sweepCell_0 : decode cX6_sweepCell 0 = .ok (.iconst (-1), 1) := by decide +kernel
theorem dX6_sweepCell_1 : decode cX6_sweepCell 1 = .ok (.istore_n 3, 1) := by decide +kernel
theorem dX6_sweepCell_2 : decode cX6_sweepCell 2 = .ok (.iconst 0, 1) := by decide +kernel
theorem dX6_sweepCell_3 : decode cX6_sweepCell 3 = .ok (.istore 4, 2) := by decide +kernel
theorem dX6_sweepCell_5 : decode cX6_sweepCell 5 = .ok (.iload 4, 2) := by decide +kernel
theorem dX6_sweepCell_7 : decode cX6_sweepCell 7 = .ok (.aload_n 0, 1) := by decide +kernel
theorem dX6_sweepCell_8 : decode cX6_sweepCell 8 = .ok (.getfield 81, 3) := by decide +kernel
theorem dX6_sweepCell_11 : decode cX6_sweepCell 11 = .ok (.if_icmp .ge 76, 3) := by decide +kernel
theorem dX6_sweepCell_14 : decode cX6_sweepCell 14 = .ok (.aload_n 0, 1) := by decide +kernel
theorem dX6_sweepCell_15 : decode cX6_sweepCell 15 = .ok (.getfield 26, 3) := by decide +kernel
theorem dX6_sweepCell_18 : decode cX6_sweepCell 18 = .ok (.iload 4, 2) := by decide +kernel
theorem dX6_sweepCell_20 : decode cX6_sweepCell 20 = .ok (.iaload, 1) := by decide +kernel
theorem dX6_sweepCell_21 : decode cX6_sweepCell 21 = .ok (.iload_n 1, 1) := by decide +kernel
theorem dX6_sweepCell_22 : decode cX6_sweepCell 22 = .ok (.if_icmp .ne 28, 3) := by decide +kernel
theorem dX6_sweepCell_25 : decode cX6_sweepCell 25 = .ok (.aload_n 0, 1) := by decide +kernel
theorem dX6_sweepCell_26 : decode cX6_sweepCell 26 = .ok (.getfield 35, 3) := by decide +kernel
theorem dX6_sweepCell_29 : decode cX6_sweepCell 29 = .ok (.iload 4, 2) := by decide +kernel
theorem dX6_sweepCell_31 : decode cX6_sweepCell 31 = .ok (.baload, 1) := by decide +kernel
theorem dX6_sweepCell_32 : decode cX6_sweepCell 32 = .ok (.ifCond .ne 18, 3) := by decide +kernel
theorem dX6_sweepCell_35 : decode cX6_sweepCell 35 = .ok (.aload_n 0, 1) := by decide +kernel
theorem dX6_sweepCell_36 : decode cX6_sweepCell 36 = .ok (.getfield 29, 3) := by decide +kernel
theorem dX6_sweepCell_39 : decode cX6_sweepCell 39 = .ok (.iload 4, 2) := by decide +kernel
theorem dX6_sweepCell_41 : decode cX6_sweepCell 41 = .ok (.iaload, 1) := by decide +kernel
theorem dX6_sweepCell_42 : decode cX6_sweepCell 42 = .ok (.iload_n 2, 1) := by decide +kernel
theorem dX6_sweepCell_43 : decode cX6_sweepCell 43 = .ok (.if_icmp .gt 7, 3) := by decide +kernel
theorem dX6_sweepCell_46 : decode cX6_sweepCell 46 = .ok (.iconst 1, 1) := by decide +kernel
theorem dX6_sweepCell_47 : decode cX6_sweepCell 47 = .ok (.goto 4, 3) := by decide +kernel
theorem dX6_sweepCell_50 : decode cX6_sweepCell 50 = .ok (.iconst 0, 1) := by decide +kernel
theorem dX6_sweepCell_51 : decode cX6_sweepCell 51 = .ok (.istore 5, 2) := by decide +kernel
theorem dX6_sweepCell_53 : decode cX6_sweepCell 53 = .ok (.iload 5, 2) := by decide +kernel
theorem dX6_sweepCell_55 : decode cX6_sweepCell 55 = .ok (.ifCond .eq 24, 3) := by decide +kernel
theorem dX6_sweepCell_58 : decode cX6_sweepCell 58 = .ok (.aload_n 0, 1) := by decide +kernel
theorem dX6_sweepCell_59 : decode cX6_sweepCell 59 = .ok (.getfield 29, 3) := by decide +kernel
theorem dX6_sweepCell_62 : decode cX6_sweepCell 62 = .ok (.iload 4, 2) := by decide +kernel
theorem dX6_sweepCell_64 : decode cX6_sweepCell 64 = .ok (.iaload, 1) := by decide +kernel
theorem dX6_sweepCell_65 : decode cX6_sweepCell 65 = .ok (.iload_n 3, 1) := by decide +kernel
theorem dX6_sweepCell_66 : decode cX6_sweepCell 66 = .ok (.if_icmp .le 13, 3) := by decide +kernel
theorem dX6_sweepCell_69 : decode cX6_sweepCell 69 = .ok (.aload_n 0, 1) := by decide +kernel
theorem dX6_sweepCell_70 : decode cX6_sweepCell 70 = .ok (.getfield 29, 3) := by decide +kernel
theorem dX6_sweepCell_73 : decode cX6_sweepCell 73 = .ok (.iload 4, 2) := by decide +kernel
theorem dX6_sweepCell_75 : decode cX6_sweepCell 75 = .ok (.iaload, 1) := by decide +kernel
theorem dX6_sweepCell_76 : decode cX6_sweepCell 76 = .ok (.goto 4, 3) := by decide +kernel
theorem dX6_sweepCell_79 : decode cX6_sweepCell 79 = .ok (.iload_n 3, 1) := by decide +kernel
theorem dX6_sweepCell_80 : decode cX6_sweepCell 80 = .ok (.istore_n 3, 1) := by decide +kernel
theorem dX6_sweepCell_81 : decode cX6_sweepCell 81 = .ok (.iinc 4 1, 3) := by decide +kernel
theorem dX6_sweepCell_84 : decode cX6_sweepCell 84 = .ok (.goto (-79), 3) := by decide +kernel
theorem dX6_sweepCell_87 : decode cX6_sweepCell 87 = .ok (.iconst 0, 1) := by decide +kernel
theorem dX6_sweepCell_88 : decode cX6_sweepCell 88 = .ok (.istore 4, 2) := by decide +kernel
theorem dX6_sweepCell_90 : decode cX6_sweepCell 90 = .ok (.iload 4, 2) := by decide +kernel
theorem dX6_sweepCell_92 : decode cX6_sweepCell 92 = .ok (.aload_n 0, 1) := by decide +kernel
theorem dX6_sweepCell_93 : decode cX6_sweepCell 93 = .ok (.getfield 81, 3) := by decide +kernel
theorem dX6_sweepCell_96 : decode cX6_sweepCell 96 = .ok (.if_icmp .ge 131, 3) := by decide +kernel
theorem dX6_sweepCell_99 : decode cX6_sweepCell 99 = .ok (.aload_n 0, 1) := by decide +kernel
theorem dX6_sweepCell_100 : decode cX6_sweepCell 100 = .ok (.getfield 26, 3) := by decide +kernel
theorem dX6_sweepCell_103 : decode cX6_sweepCell 103 = .ok (.iload 4, 2) := by decide +kernel
theorem dX6_sweepCell_105 : decode cX6_sweepCell 105 = .ok (.iaload, 1) := by decide +kernel
theorem dX6_sweepCell_106 : decode cX6_sweepCell 106 = .ok (.iload_n 1, 1) := by decide +kernel
theorem dX6_sweepCell_107 : decode cX6_sweepCell 107 = .ok (.if_icmp .ne 18, 3) := by decide +kernel
theorem dX6_sweepCell_110 : decode cX6_sweepCell 110 = .ok (.aload_n 0, 1) := by decide +kernel
theorem dX6_sweepCell_111 : decode cX6_sweepCell 111 = .ok (.getfield 29, 3) := by decide +kernel
theorem dX6_sweepCell_114 : decode cX6_sweepCell 114 = .ok (.iload 4, 2) := by decide +kernel
theorem dX6_sweepCell_116 : decode cX6_sweepCell 116 = .ok (.iaload, 1) := by decide +kernel
theorem dX6_sweepCell_117 : decode cX6_sweepCell 117 = .ok (.iload_n 2, 1) := by decide +kernel
theorem dX6_sweepCell_118 : decode cX6_sweepCell 118 = .ok (.if_icmp .gt 7, 3) := by decide +kernel
theorem dX6_sweepCell_121 : decode cX6_sweepCell 121 = .ok (.iconst 1, 1) := by decide +kernel
theorem dX6_sweepCell_122 : decode cX6_sweepCell 122 = .ok (.goto 4, 3) := by decide +kernel
theorem dX6_sweepCell_125 : decode cX6_sweepCell 125 = .ok (.iconst 0, 1) := by decide +kernel
theorem dX6_sweepCell_126 : decode cX6_sweepCell 126 = .ok (.istore 5, 2) := by decide +kernel
theorem dX6_sweepCell_128 : decode cX6_sweepCell 128 = .ok (.iload 5, 2) := by decide +kernel
theorem dX6_sweepCell_130 : decode cX6_sweepCell 130 = .ok (.ifCond .eq 77, 3) := by decide +kernel
theorem dX6_sweepCell_133 : decode cX6_sweepCell 133 = .ok (.aload_n 0, 1) := by decide +kernel
theorem dX6_sweepCell_134 : decode cX6_sweepCell 134 = .ok (.getfield 35, 3) := by decide +kernel
theorem dX6_sweepCell_137 : decode cX6_sweepCell 137 = .ok (.iload 4, 2) := by decide +kernel
theorem dX6_sweepCell_139 : decode cX6_sweepCell 139 = .ok (.baload, 1) := by decide +kernel
theorem dX6_sweepCell_140 : decode cX6_sweepCell 140 = .ok (.ifCond .ne 67, 3) := by decide +kernel
theorem dX6_sweepCell_143 : decode cX6_sweepCell 143 = .ok (.aload_n 0, 1) := by decide +kernel
theorem dX6_sweepCell_144 : decode cX6_sweepCell 144 = .ok (.iload_n 1, 1) := by decide +kernel
theorem dX6_sweepCell_145 : decode cX6_sweepCell 145 = .ok (.aload_n 0, 1) := by decide +kernel
theorem dX6_sweepCell_146 : decode cX6_sweepCell 146 = .ok (.getfield 32, 3) := by decide +kernel
theorem dX6_sweepCell_149 : decode cX6_sweepCell 149 = .ok (.iload 4, 2) := by decide +kernel
theorem dX6_sweepCell_151 : decode cX6_sweepCell 151 = .ok (.iaload, 1) := by decide +kernel
theorem dX6_sweepCell_152 : decode cX6_sweepCell 152 = .ok (.invokevirtual 99, 3) := by decide +kernel
theorem dX6_sweepCell_155 : decode cX6_sweepCell 155 = .ok (.istore 6, 2) := by decide +kernel
theorem dX6_sweepCell_157 : decode cX6_sweepCell 157 = .ok (.aload_n 0, 1) := by decide +kernel
theorem dX6_sweepCell_158 : decode cX6_sweepCell 158 = .ok (.getfield 29, 3) := by decide +kernel
theorem dX6_sweepCell_161 : decode cX6_sweepCell 161 = .ok (.iload 4, 2) := by decide +kernel
theorem dX6_sweepCell_163 : decode cX6_sweepCell 163 = .ok (.iaload, 1) := by decide +kernel
theorem dX6_sweepCell_164 : decode cX6_sweepCell 164 = .ok (.iload_n 3, 1) := by decide +kernel
theorem dX6_sweepCell_165 : decode cX6_sweepCell 165 = .ok (.if_icmp .ne 18, 3) := by decide +kernel
theorem dX6_sweepCell_168 : decode cX6_sweepCell 168 = .ok (.iload 6, 2) := by decide +kernel
theorem dX6_sweepCell_170 : decode cX6_sweepCell 170 = .ok (.ifCond .lt 17, 3) := by decide +kernel
theorem dX6_sweepCell_173 : decode cX6_sweepCell 173 = .ok (.aload_n 0, 1) := by decide +kernel
theorem dX6_sweepCell_174 : decode cX6_sweepCell 174 = .ok (.getfield 23, 3) := by decide +kernel
theorem dX6_sweepCell_177 : decode cX6_sweepCell 177 = .ok (.iload 6, 2) := by decide +kernel
theorem dX6_sweepCell_179 : decode cX6_sweepCell 179 = .ok (.iaload, 1) := by decide +kernel
theorem dX6_sweepCell_180 : decode cX6_sweepCell 180 = .ok (.ifCond .ge 7, 3) := by decide +kernel
theorem dX6_sweepCell_183 : decode cX6_sweepCell 183 = .ok (.iconst 1, 1) := by decide +kernel
theorem dX6_sweepCell_184 : decode cX6_sweepCell 184 = .ok (.goto 4, 3) := by decide +kernel
theorem dX6_sweepCell_187 : decode cX6_sweepCell 187 = .ok (.iconst 0, 1) := by decide +kernel
theorem dX6_sweepCell_188 : decode cX6_sweepCell 188 = .ok (.istore 5, 2) := by decide +kernel
theorem dX6_sweepCell_190 : decode cX6_sweepCell 190 = .ok (.iload 5, 2) := by decide +kernel
theorem dX6_sweepCell_192 : decode cX6_sweepCell 192 = .ok (.ifCond .eq 15, 3) := by decide +kernel
theorem dX6_sweepCell_195 : decode cX6_sweepCell 195 = .ok (.aload_n 0, 1) := by decide +kernel
theorem dX6_sweepCell_196 : decode cX6_sweepCell 196 = .ok (.iload_n 1, 1) := by decide +kernel
theorem dX6_sweepCell_197 : decode cX6_sweepCell 197 = .ok (.aload_n 0, 1) := by decide +kernel
theorem dX6_sweepCell_198 : decode cX6_sweepCell 198 = .ok (.getfield 32, 3) := by decide +kernel
theorem dX6_sweepCell_201 : decode cX6_sweepCell 201 = .ok (.iload 4, 2) := by decide +kernel
theorem dX6_sweepCell_203 : decode cX6_sweepCell 203 = .ok (.iaload, 1) := by decide +kernel
theorem dX6_sweepCell_204 : decode cX6_sweepCell 204 = .ok (.invokevirtual 113, 3) := by decide +kernel
theorem dX6_sweepCell_207 : decode cX6_sweepCell 207 = .ok (.iload 5, 2) := by decide +kernel
theorem dX6_sweepCell_209 : decode cX6_sweepCell 209 = .ok (.ifCond .eq 12, 3) := by decide +kernel
theorem dX6_sweepCell_212 : decode cX6_sweepCell 212 = .ok (.aload_n 0, 1) := by decide +kernel
theorem dX6_sweepCell_213 : decode cX6_sweepCell 213 = .ok (.iload 4, 2) := by decide +kernel
theorem dX6_sweepCell_215 : decode cX6_sweepCell 215 = .ok (.invokevirtual 195, 3) := by decide +kernel
theorem dX6_sweepCell_218 : decode cX6_sweepCell 218 = .ok (.goto 6, 3) := by decide +kernel
theorem dX6_sweepCell_221 : decode cX6_sweepCell 221 = .ok (.iinc 4 1, 3) := by decide +kernel
theorem dX6_sweepCell_224 : decode cX6_sweepCell 224 = .ok (.goto (-134), 3) := by decide +kernel
theorem dX6_sweepCell_227 : decode cX6_sweepCell 227 = .ok (.return_, 1) := by decide +kernel
theorem dX6_state_0 : decode cX6_state 0 = .ok (.aload_n 0, 1) := by decide +kernel
theorem dX6_state_1 : decode cX6_state 1 = .ok (.iconst 0, 1) := by decide +kernel
theorem dX6_state_2 : decode cX6_state 2 = .ok (.putfield 75, 3) := by decide +kernel
theorem dX6_state_5 : decode cX6_state 5 = .ok (.iload_n 1, 1) := by decide +kernel
theorem dX6_state_6 : decode cX6_state 6 = .ok (.invokestatic 138, 3) := by decide +kernel
theorem dX6_state_9 : decode cX6_state 9 = .ok (.ifCond .eq 5, 3) := by decide +kernel
theorem dX6_state_12 : decode cX6_state 12 = .ok (.iconst (-1), 1) := by decide +kernel
theorem dX6_state_13 : decode cX6_state 13 = .ok (.ireturn, 1) := by decide +kernel
theorem dX6_state_14 : decode cX6_state 14 = .ok (.iload_n 2, 1) := by decide +kernel
theorem dX6_state_15 : decode cX6_state 15 = .ok (.iconst 0, 1) := by decide +kernel
theorem dX6_state_16 : decode cX6_state 16 = .ok (.iconst 5, 1) := by decide +kernel
theorem dX6_state_17 : decode cX6_state 17 = .ok (.invokestatic 134, 3) := by decide +kernel
theorem dX6_state_20 : decode cX6_state 20 = .ok (.ifCond .ne 6, 3) := by decide +kernel
theorem dX6_state_23 : decode cX6_state 23 = .ok (.bipush (-2), 2) := by decide +kernel
theorem dX6_state_25 : decode cX6_state 25 = .ok (.ireturn, 1) := by decide +kernel
theorem dX6_state_26 : decode cX6_state 26 = .ok (.aload_n 0, 1) := by decide +kernel
theorem dX6_state_27 : decode cX6_state 27 = .ok (.getfield 48, 3) := by decide +kernel
theorem dX6_state_30 : decode cX6_state 30 = .ok (.iload_n 1, 1) := by decide +kernel
theorem dX6_state_31 : decode cX6_state 31 = .ok (.iaload, 1) := by decide +kernel
theorem dX6_state_32 : decode cX6_state 32 = .ok (.ifCond .ne 5, 3) := by decide +kernel
theorem dX6_state_35 : decode cX6_state 35 = .ok (.iconst 0, 1) := by decide +kernel
theorem dX6_state_36 : decode cX6_state 36 = .ok (.ireturn, 1) := by decide +kernel
theorem dX6_state_37 : decode cX6_state 37 = .ok (.iload_n 2, 1) := by decide +kernel
theorem dX6_state_38 : decode cX6_state 38 = .ok (.tableswitch 93 0 4 #[34, 41, 48, 55, 62], 34) := by decide +kernel
theorem dX6_state_72 : decode cX6_state 72 = .ok (.aload_n 0, 1) := by decide +kernel
theorem dX6_state_73 : decode cX6_state 73 = .ok (.getfield 48, 3) := by decide +kernel
theorem dX6_state_76 : decode cX6_state 76 = .ok (.iload_n 1, 1) := by decide +kernel
theorem dX6_state_77 : decode cX6_state 77 = .ok (.iaload, 1) := by decide +kernel
theorem dX6_state_78 : decode cX6_state 78 = .ok (.ireturn, 1) := by decide +kernel
theorem dX6_state_79 : decode cX6_state 79 = .ok (.aload_n 0, 1) := by decide +kernel
theorem dX6_state_80 : decode cX6_state 80 = .ok (.getfield 51, 3) := by decide +kernel
theorem dX6_state_83 : decode cX6_state 83 = .ok (.iload_n 1, 1) := by decide +kernel
theorem dX6_state_84 : decode cX6_state 84 = .ok (.iaload, 1) := by decide +kernel
theorem dX6_state_85 : decode cX6_state 85 = .ok (.ireturn, 1) := by decide +kernel
theorem dX6_state_86 : decode cX6_state 86 = .ok (.aload_n 0, 1) := by decide +kernel
theorem dX6_state_87 : decode cX6_state 87 = .ok (.getfield 54, 3) := by decide +kernel
theorem dX6_state_90 : decode cX6_state 90 = .ok (.iload_n 1, 1) := by decide +kernel
theorem dX6_state_91 : decode cX6_state 91 = .ok (.iaload, 1) := by decide +kernel
theorem dX6_state_92 : decode cX6_state 92 = .ok (.ireturn, 1) := by decide +kernel
theorem dX6_state_93 : decode cX6_state 93 = .ok (.aload_n 0, 1) := by decide +kernel
theorem dX6_state_94 : decode cX6_state 94 = .ok (.getfield 57, 3) := by decide +kernel
theorem dX6_state_97 : decode cX6_state 97 = .ok (.iload_n 1, 1) := by decide +kernel
theorem dX6_state_98 : decode cX6_state 98 = .ok (.iaload, 1) := by decide +kernel
theorem dX6_state_99 : decode cX6_state 99 = .ok (.ireturn, 1) := by decide +kernel
theorem dX6_state_100 : decode cX6_state 100 = .ok (.aload_n 0, 1) := by decide +kernel
theorem dX6_state_101 : decode cX6_state 101 = .ok (.getfield 48, 3) := by decide +kernel
theorem dX6_state_104 : decode cX6_state 104 = .ok (.iload_n 1, 1) := by decide +kernel
theorem dX6_state_105 : decode cX6_state 105 = .ok (.iaload, 1) := by decide +kernel
theorem dX6_state_106 : decode cX6_state 106 = .ok (.iconst 2, 1) := by decide +kernel
theorem dX6_state_107 : decode cX6_state 107 = .ok (.if_icmp .eq 13, 3) := by decide +kernel
theorem dX6_state_110 : decode cX6_state 110 = .ok (.aload_n 0, 1) := by decide +kernel
theorem dX6_state_111 : decode cX6_state 111 = .ok (.getfield 48, 3) := by decide +kernel
theorem dX6_state_114 : decode cX6_state 114 = .ok (.iload_n 1, 1) := by decide +kernel
theorem dX6_state_115 : decode cX6_state 115 = .ok (.iaload, 1) := by decide +kernel
theorem dX6_state_116 : decode cX6_state 116 = .ok (.iconst 3, 1) := by decide +kernel
theorem dX6_state_117 : decode cX6_state 117 = .ok (.if_icmp .ne 12, 3) := by decide +kernel
theorem dX6_state_120 : decode cX6_state 120 = .ok (.aload_n 0, 1) := by decide +kernel
theorem dX6_state_121 : decode cX6_state 121 = .ok (.getfield 66, 3) := by decide +kernel
theorem dX6_state_124 : decode cX6_state 124 = .ok (.iload_n 1, 1) := by decide +kernel
theorem dX6_state_125 : decode cX6_state 125 = .ok (.iaload, 1) := by decide +kernel
theorem dX6_state_126 : decode cX6_state 126 = .ok (.goto 4, 3) := by decide +kernel
theorem dX6_state_129 : decode cX6_state 129 = .ok (.iconst 0, 1) := by decide +kernel
theorem dX6_state_130 : decode cX6_state 130 = .ok (.ireturn, 1) := by decide +kernel
theorem dX6_state_131 : decode cX6_state 131 = .ok (.aload_n 0, 1) := by decide +kernel
theorem dX6_state_132 : decode cX6_state 132 = .ok (.getfield 48, 3) := by decide +kernel
theorem dX6_state_135 : decode cX6_state 135 = .ok (.iload_n 1, 1) := by decide +kernel
theorem dX6_state_136 : decode cX6_state 136 = .ok (.iaload, 1) := by decide +kernel
theorem dX6_state_137 : decode cX6_state 137 = .ok (.iconst 3, 1) := by decide +kernel
theorem dX6_state_138 : decode cX6_state 138 = .ok (.if_icmp .ne 12, 3) := by decide +kernel
theorem dX6_state_141 : decode cX6_state 141 = .ok (.aload_n 0, 1) := by decide +kernel
theorem dX6_state_142 : decode cX6_state 142 = .ok (.getfield 69, 3) := by decide +kernel
theorem dX6_state_145 : decode cX6_state 145 = .ok (.iload_n 1, 1) := by decide +kernel
theorem dX6_state_146 : decode cX6_state 146 = .ok (.iaload, 1) := by decide +kernel
theorem dX6_state_147 : decode cX6_state 147 = .ok (.goto 4, 3) := by decide +kernel
theorem dX6_state_150 : decode cX6_state 150 = .ok (.iconst 0, 1) := by decide +kernel
theorem dX6_state_151 : decode cX6_state 151 = .ok (.ireturn, 1) := by decide +kernel
theorem dX6_lock_0 : decode cX6_lock 0 = .ok (.aload_n 0, 1) := by decide +kernel
theorem dX6_lock_1 : decode cX6_lock 1 = .ok (.iconst 0, 1) := by decide +kernel
theorem dX6_lock_2 : decode cX6_lock 2 = .ok (.putfield 75, 3) := by decide +kernel
theorem dX6_lock_5 : decode cX6_lock 5 = .ok (.iload_n 1, 1) := by decide +kernel
theorem dX6_lock_6 : decode cX6_lock 6 = .ok (.iload_n 2, 1) := by decide +kernel
