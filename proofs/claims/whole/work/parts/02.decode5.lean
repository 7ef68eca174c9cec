theorem dX6_lock_7 : decode cX6_lock 7 = .ok (.invokestatic 145, 3) := by decide +kernel
theorem dX6_lock_10 : decode cX6_lock 10 = .ok (.ifCond .eq 5, 3) := by decide +kernel
theorem dX6_lock_13 : decode cX6_lock 13 = .ok (.iconst (-1), 1) := by decide +kernel
theorem dX6_lock_14 : decode cX6_lock 14 = .ok (.ireturn, 1) := by decide +kernel
theorem dX6_lock_15 : decode cX6_lock 15 = .ok (.iload_n 3, 1) := by decide +kernel
theorem dX6_lock_16 : decode cX6_lock 16 = .ok (.iconst 0, 1) := by decide +kernel
theorem dX6_lock_17 : decode cX6_lock 17 = .ok (.iconst 4, 1) := by decide +kernel
theorem dX6_lock_18 : decode cX6_lock 18 = .ok (.invokestatic 134, 3) := by decide +kernel
theorem dX6_lock_21 : decode cX6_lock 21 = .ok (.ifCond .ne 6, 3) := by decide +kernel
theorem dX6_lock_24 : decode cX6_lock 24 = .ok (.bipush (-2), 2) := by decide +kernel
theorem dX6_lock_26 : decode cX6_lock 26 = .ok (.ireturn, 1) := by decide +kernel
theorem dX6_lock_27 : decode cX6_lock 27 = .ok (.iconst 4, 1) := by decide +kernel
theorem dX6_lock_28 : decode cX6_lock 28 = .ok (.iload_n 1, 1) := by decide +kernel
theorem dX6_lock_29 : decode cX6_lock 29 = .ok (.imul, 1) := by decide +kernel
theorem dX6_lock_30 : decode cX6_lock 30 = .ok (.iload_n 2, 1) := by decide +kernel
theorem dX6_lock_31 : decode cX6_lock 31 = .ok (.iadd, 1) := by decide +kernel
theorem dX6_lock_32 : decode cX6_lock 32 = .ok (.istore 4, 2) := by decide +kernel
theorem dX6_lock_34 : decode cX6_lock 34 = .ok (.aload_n 0, 1) := by decide +kernel
theorem dX6_lock_35 : decode cX6_lock 35 = .ok (.getfield 39, 3) := by decide +kernel
theorem dX6_lock_38 : decode cX6_lock 38 = .ok (.iload 4, 2) := by decide +kernel
theorem dX6_lock_40 : decode cX6_lock 40 = .ok (.iaload, 1) := by decide +kernel
theorem dX6_lock_41 : decode cX6_lock 41 = .ok (.ifCond .ne 5, 3) := by decide +kernel
theorem dX6_lock_44 : decode cX6_lock 44 = .ok (.iconst 0, 1) := by decide +kernel
theorem dX6_lock_45 : decode cX6_lock 45 = .ok (.ireturn, 1) := by decide +kernel
theorem dX6_lock_46 : decode cX6_lock 46 = .ok (.iload_n 3, 1) := by decide +kernel
theorem dX6_lock_47 : decode cX6_lock 47 = .ok (.tableswitch 68 0 3 #[29, 37, 45, 53], 29) := by decide +kernel
theorem dX6_lock_76 : decode cX6_lock 76 = .ok (.aload_n 0, 1) := by decide +kernel
theorem dX6_lock_77 : decode cX6_lock 77 = .ok (.getfield 39, 3) := by decide +kernel
theorem dX6_lock_80 : decode cX6_lock 80 = .ok (.iload 4, 2) := by decide +kernel
theorem dX6_lock_82 : decode cX6_lock 82 = .ok (.iaload, 1) := by decide +kernel
theorem dX6_lock_83 : decode cX6_lock 83 = .ok (.ireturn, 1) := by decide +kernel
theorem dX6_lock_84 : decode cX6_lock 84 = .ok (.aload_n 0, 1) := by decide +kernel
theorem dX6_lock_85 : decode cX6_lock 85 = .ok (.getfield 42, 3) := by decide +kernel
theorem dX6_lock_88 : decode cX6_lock 88 = .ok (.iload 4, 2) := by decide +kernel
theorem dX6_lock_90 : decode cX6_lock 90 = .ok (.iaload, 1) := by decide +kernel
theorem dX6_lock_91 : decode cX6_lock 91 = .ok (.ireturn, 1) := by decide +kernel
theorem dX6_lock_92 : decode cX6_lock 92 = .ok (.aload_n 0, 1) := by decide +kernel
theorem dX6_lock_93 : decode cX6_lock 93 = .ok (.getfield 45, 3) := by decide +kernel
theorem dX6_lock_96 : decode cX6_lock 96 = .ok (.iload 4, 2) := by decide +kernel
theorem dX6_lock_98 : decode cX6_lock 98 = .ok (.iaload, 1) := by decide +kernel
theorem dX6_lock_99 : decode cX6_lock 99 = .ok (.ireturn, 1) := by decide +kernel
theorem dX6_lock_100 : decode cX6_lock 100 = .ok (.aload_n 0, 1) := by decide +kernel
theorem dX6_lock_101 : decode cX6_lock 101 = .ok (.iload 4, 2) := by decide +kernel
theorem dX6_lock_103 : decode cX6_lock 103 = .ok (.invokevirtual 128, 3) := by decide +kernel
theorem dX6_lock_106 : decode cX6_lock 106 = .ok (.ifCond .eq 7, 3) := by decide +kernel
theorem dX6_lock_109 : decode cX6_lock 109 = .ok (.iconst 1, 1) := by decide +kernel
theorem dX6_lock_110 : decode cX6_lock 110 = .ok (.goto 4, 3) := by decide +kernel
theorem dX6_lock_113 : decode cX6_lock 113 = .ok (.iconst 0, 1) := by decide +kernel
theorem dX6_lock_114 : decode cX6_lock 114 = .ok (.ireturn, 1) := by decide +kernel
theorem dX6_lock_115 : decode cX6_lock 115 = .ok (.aload_n 0, 1) := by decide +kernel
theorem dX6_lock_116 : decode cX6_lock 116 = .ok (.iload 4, 2) := by decide +kernel
theorem dX6_lock_118 : decode cX6_lock 118 = .ok (.invokevirtual 124, 3) := by decide +kernel
theorem dX6_lock_121 : decode cX6_lock 121 = .ok (.ifCond .eq 7, 3) := by decide +kernel
theorem dX6_lock_124 : decode cX6_lock 124 = .ok (.iconst 1, 1) := by decide +kernel
theorem dX6_lock_125 : decode cX6_lock 125 = .ok (.goto 4, 3) := by decide +kernel
theorem dX6_lock_128 : decode cX6_lock 128 = .ok (.iconst 0, 1) := by decide +kernel
theorem dX6_lock_129 : decode cX6_lock 129 = .ok (.ireturn, 1) := by decide +kernel
theorem dX6_versions_0 : decode cX6_versions 0 = .ok (.aload_n 0, 1) := by decide +kernel
theorem dX6_versions_1 : decode cX6_versions 1 = .ok (.iconst 0, 1) := by decide +kernel
theorem dX6_versions_2 : decode cX6_versions 2 = .ok (.putfield 75, 3) := by decide +kernel
theorem dX6_versions_5 : decode cX6_versions 5 = .ok (.iload_n 1, 1) := by decide +kernel
theorem dX6_versions_6 : decode cX6_versions 6 = .ok (.iload_n 2, 1) := by decide +kernel
theorem dX6_versions_7 : decode cX6_versions 7 = .ok (.invokestatic 145, 3) := by decide +kernel
theorem dX6_versions_10 : decode cX6_versions 10 = .ok (.ifCond .eq 5, 3) := by decide +kernel
theorem dX6_versions_13 : decode cX6_versions 13 = .ok (.iconst (-1), 1) := by decide +kernel
theorem dX6_versions_14 : decode cX6_versions 14 = .ok (.ireturn, 1) := by decide +kernel
theorem dX6_versions_15 : decode cX6_versions 15 = .ok (.iconst 0, 1) := by decide +kernel
theorem dX6_versions_16 : decode cX6_versions 16 = .ok (.istore_n 3, 1) := by decide +kernel
theorem dX6_versions_17 : decode cX6_versions 17 = .ok (.iconst 0, 1) := by decide +kernel
theorem dX6_versions_18 : decode cX6_versions 18 = .ok (.istore 4, 2) := by decide +kernel
theorem dX6_versions_20 : decode cX6_versions 20 = .ok (.iload 4, 2) := by decide +kernel
theorem dX6_versions_22 : decode cX6_versions 22 = .ok (.aload_n 0, 1) := by decide +kernel
theorem dX6_versions_23 : decode cX6_versions 23 = .ok (.getfield 81, 3) := by decide +kernel
theorem dX6_versions_26 : decode cX6_versions 26 = .ok (.if_icmp .ge 32, 3) := by decide +kernel
theorem dX6_versions_29 : decode cX6_versions 29 = .ok (.iload_n 3, 1) := by decide +kernel
theorem dX6_versions_30 : decode cX6_versions 30 = .ok (.aload_n 0, 1) := by decide +kernel
theorem dX6_versions_31 : decode cX6_versions 31 = .ok (.getfield 26, 3) := by decide +kernel
theorem dX6_versions_34 : decode cX6_versions 34 = .ok (.iload 4, 2) := by decide +kernel
theorem dX6_versions_36 : decode cX6_versions 36 = .ok (.iaload, 1) := by decide +kernel
theorem dX6_versions_37 : decode cX6_versions 37 = .ok (.iconst 4, 1) := by decide +kernel
theorem dX6_versions_38 : decode cX6_versions 38 = .ok (.iload_n 1, 1) := by decide +kernel
theorem dX6_versions_39 : decode cX6_versions 39 = .ok (.imul, 1) := by decide +kernel
theorem dX6_versions_40 : decode cX6_versions 40 = .ok (.iload_n 2, 1) := by decide +kernel
theorem dX6_versions_41 : decode cX6_versions 41 = .ok (.iadd, 1) := by decide +kernel
theorem dX6_versions_42 : decode cX6_versions 42 = .ok (.if_icmp .ne 7, 3) := by decide +kernel
theorem dX6_versions_45 : decode cX6_versions 45 = .ok (.iconst 1, 1) := by decide +kernel
theorem dX6_versions_46 : decode cX6_versions 46 = .ok (.goto 4, 3) := by decide +kernel
theorem dX6_versions_49 : decode cX6_versions 49 = .ok (.iconst 0, 1) := by decide +kernel
theorem dX6_versions_50 : decode cX6_versions 50 = .ok (.iadd, 1) := by decide +kernel
theorem dX6_versions_51 : decode cX6_versions 51 = .ok (.istore_n 3, 1) := by decide +kernel
theorem dX6_versions_52 : decode cX6_versions 52 = .ok (.iinc 4 1, 3) := by decide +kernel
theorem dX6_versions_55 : decode cX6_versions 55 = .ok (.goto (-35), 3) := by decide +kernel
theorem dX6_versions_58 : decode cX6_versions 58 = .ok (.iload_n 3, 1) := by decide +kernel
theorem dX6_versions_59 : decode cX6_versions 59 = .ok (.ireturn, 1) := by decide +kernel
theorem dX6_version_0 : decode cX6_version 0 = .ok (.aload_n 0, 1) := by decide +kernel
theorem dX6_version_1 : decode cX6_version 1 = .ok (.iconst 0, 1) := by decide +kernel
theorem dX6_version_2 : decode cX6_version 2 = .ok (.putfield 75, 3) := by decide +kernel
theorem dX6_version_5 : decode cX6_version 5 = .ok (.iload_n 1, 1) := by decide +kernel
theorem dX6_version_6 : decode cX6_version 6 = .ok (.iload_n 2, 1) := by decide +kernel
theorem dX6_version_7 : decode cX6_version 7 = .ok (.invokestatic 145, 3) := by decide +kernel
theorem dX6_version_10 : decode cX6_version 10 = .ok (.ifCond .ne 7, 3) := by decide +kernel
theorem dX6_version_13 : decode cX6_version 13 = .ok (.iload_n 3, 1) := by decide +kernel
theorem dX6_version_14 : decode cX6_version 14 = .ok (.ifCond .ge 5, 3) := by decide +kernel
theorem dX6_version_17 : decode cX6_version 17 = .ok (.iconst (-1), 1) := by decide +kernel
theorem dX6_version_18 : decode cX6_version 18 = .ok (.ireturn, 1) := by decide +kernel
theorem dX6_version_19 : decode cX6_version 19 = .ok (.iconst 4, 1) := by decide +kernel
theorem dX6_version_20 : decode cX6_version 20 = .ok (.iload_n 1, 1) := by decide +kernel
theorem dX6_version_21 : decode cX6_version 21 = .ok (.imul, 1) := by decide +kernel
theorem dX6_version_22 : decode cX6_version 22 = .ok (.iload_n 2, 1) := by decide +kernel
theorem dX6_version_23 : decode cX6_version 23 = .ok (.iadd, 1) := by decide +kernel
theorem dX6_version_24 : decode cX6_version 24 = .ok (.istore 5, 2) := by decide +kernel
theorem dX6_version_26 : decode cX6_version 26 = .ok (.ldc 191, 2) := by decide +kernel
theorem dX6_version_28 : decode cX6_version 28 = .ok (.istore 6, 2) := by decide +kernel
theorem dX6_version_30 : decode cX6_version 30 = .ok (.iconst (-1), 1) := by decide +kernel
theorem dX6_version_31 : decode cX6_version 31 = .ok (.istore 7, 2) := by decide +kernel
theorem dX6_version_33 : decode cX6_version 33 = .ok (.iconst 0, 1) := by decide +kernel
theorem dX6_version_34 : decode cX6_version 34 = .ok (.istore 8, 2) := by decide +kernel
theorem dX6_version_36 : decode cX6_version 36 = .ok (.iload 8, 2) := by decide +kernel
theorem dX6_version_38 : decode cX6_version 38 = .ok (.iload_n 3, 1) := by decide +kernel
theorem dX6_version_39 : decode cX6_version 39 = .ok (.if_icmp .gt 113, 3) := by decide +kernel
theorem dX6_version_42 : decode cX6_version 42 = .ok (.iconst (-1), 1) := by decide +kernel
theorem dX6_version_43 : decode cX6_version 43 = .ok (.istore 7, 2) := by decide +kernel
theorem dX6_version_45 : decode cX6_version 45 = .ok (.iconst 0, 1) := by decide +kernel
theorem dX6_version_46 : decode cX6_version 46 = .ok (.istore 9, 2) := by decide +kernel
theorem dX6_version_48 : decode cX6_version 48 = .ok (.iload 9, 2) := by decide +kernel
theorem dX6_version_50 : decode cX6_version 50 = .ok (.aload_n 0, 1) := by decide +kernel
theorem dX6_version_51 : decode cX6_version 51 = .ok (.getfield 81, 3) := by decide +kernel
theorem dX6_version_54 : decode cX6_version 54 = .ok (.if_icmp .ge 76, 3) := by decide +kernel
theorem dX6_version_57 : decode cX6_version 57 = .ok (.aload_n 0, 1) := by decide +kernel
theorem dX6_version_58 : decode cX6_version 58 = .ok (.getfield 26, 3) := by decide +kernel
theorem dX6_version_61 : decode cX6_version 61 = .ok (.iload 9, 2) := by decide +kernel
theorem dX6_version_63 : decode cX6_version 63 = .ok (.iaload, 1) := by decide +kernel
theorem dX6_version_64 : decode cX6_version 64 = .ok (.iload 5, 2) := by decide +kernel
theorem dX6_version_66 : decode cX6_version 66 = .ok (.if_icmp .ne 19, 3) := by decide +kernel
theorem dX6_version_69 : decode cX6_version 69 = .ok (.aload_n 0, 1) := by decide +kernel
theorem dX6_version_70 : decode cX6_version 70 = .ok (.getfield 29, 3) := by decide +kernel
theorem dX6_version_73 : decode cX6_version 73 = .ok (.iload 9, 2) := by decide +kernel
theorem dX6_version_75 : decode cX6_version 75 = .ok (.iaload, 1) := by decide +kernel
theorem dX6_version_76 : decode cX6_version 76 = .ok (.iload 6, 2) := by decide +kernel
theorem dX6_version_78 : decode cX6_version 78 = .ok (.if_icmp .ge 7, 3) := by decide +kernel
theorem dX6_version_81 : decode cX6_version 81 = .ok (.iconst 1, 1) := by decide +kernel
theorem dX6_version_82 : decode cX6_version 82 = .ok (.goto 4, 3) := by decide +kernel
theorem dX6_version_85 : decode cX6_version 85 = .ok (.iconst 0, 1) := by decide +kernel
theorem dX6_version_86 : decode cX6_version 86 = .ok (.istore 10, 2) := by decide +kernel
theorem dX6_version_88 : decode cX6_version 88 = .ok (.iload 10, 2) := by decide +kernel
theorem dX6_version_90 : decode cX6_version 90 = .ok (.ifCond .eq 30, 3) := by decide +kernel
theorem dX6_version_93 : decode cX6_version 93 = .ok (.iload 7, 2) := by decide +kernel
theorem dX6_version_95 : decode cX6_version 95 = .ok (.ifCond .lt 20, 3) := by decide +kernel
theorem dX6_version_98 : decode cX6_version 98 = .ok (.aload_n 0, 1) := by decide +kernel
theorem dX6_version_99 : decode cX6_version 99 = .ok (.getfield 29, 3) := by decide +kernel
theorem dX6_version_102 : decode cX6_version 102 = .ok (.iload 9, 2) := by decide +kernel
theorem dX6_version_104 : decode cX6_version 104 = .ok (.iaload, 1) := by decide +kernel
theorem dX6_version_105 : decode cX6_version 105 = .ok (.aload_n 0, 1) := by decide +kernel
theorem dX6_version_106 : decode cX6_version 106 = .ok (.getfield 29, 3) := by decide +kernel
theorem dX6_version_109 : decode cX6_version 109 = .ok (.iload 7, 2) := by decide +kernel
theorem dX6_version_111 : decode cX6_version 111 = .ok (.iaload, 1) := by decide +kernel
theorem dX6_version_112 : decode cX6_version 112 = .ok (.if_icmp .le 8, 3) := by decide +kernel
theorem dX6_version_115 : decode cX6_version 115 = .ok (.iload 9, 2) := by decide +kernel
theorem dX6_version_117 : decode cX6_version 117 = .ok (.goto 5, 3) := by decide +kernel
theorem dX6_version_120 : decode cX6_version 120 = .ok (.iload 7, 2) := by decide +kernel
theorem dX6_version_122 : decode cX6_version 122 = .ok (.istore 7, 2) := by decide +kernel
theorem dX6_version_124 : decode cX6_version 124 = .ok (.iinc 9 1, 3) := by decide +kernel
theorem dX6_version_127 : decode cX6_version 127 = .ok (.goto (-79), 3) := by decide +kernel
theorem dX6_version_130 : decode cX6_version 130 = .ok (.iload 7, 2) := by decide +kernel
theorem dX6_version_132 : decode cX6_version 132 = .ok (.ifCond .ge 5, 3) := by decide +kernel
theorem dX6_version_135 : decode cX6_version 135 = .ok (.iconst (-1), 1) := by decide +kernel
theorem dX6_version_136 : decode cX6_version 136 = .ok (.ireturn, 1) := by decide +kernel
theorem dX6_version_137 : decode cX6_version 137 = .ok (.aload_n 0, 1) := by decide +kernel
theorem dX6_version_138 : decode cX6_version 138 = .ok (.getfield 29, 3) := by decide +kernel
theorem dX6_version_141 : decode cX6_version 141 = .ok (.iload 7, 2) := by decide +kernel
theorem dX6_version_143 : decode cX6_version 143 = .ok (.iaload, 1) := by decide +kernel
theorem dX6_version_144 : decode cX6_version 144 = .ok (.istore 6, 2) := by decide +kernel
theorem dX6_version_146 : decode cX6_version 146 = .ok (.iinc 8 1, 3) := by decide +kernel
theorem dX6_version_149 : decode cX6_version 149 = .ok (.goto (-113), 3) := by decide +kernel
theorem dX6_version_152 : decode cX6_version 152 = .ok (.iload 4, 2) := by decide +kernel
theorem dX6_version_154 : decode cX6_version 154 = .ok (.iconst 0, 1) := by decide +kernel
theorem dX6_version_155 : decode cX6_version 155 = .ok (.iconst 2, 1) := by decide +kernel
theorem dX6_version_156 : decode cX6_version 156 = .ok (.invokestatic 134, 3) := by decide +kernel
theorem dX6_version_159 : decode cX6_version 159 = .ok (.ifCond .ne 6, 3) := by decide +kernel
theorem dX6_version_162 : decode cX6_version 162 = .ok (.bipush (-2), 2) := by decide +kernel
theorem dX6_version_164 : decode cX6_version 164 = .ok (.ireturn, 1) := by decide +kernel
theorem dX6_version_165 : decode cX6_version 165 = .ok (.aload_n 0, 1) := by decide +kernel
theorem dX6_version_166 : decode cX6_version 166 = .ok (.iload 5, 2) := by decide +kernel
theorem dX6_version_168 : decode cX6_version 168 = .ok (.aload_n 0, 1) := by decide +kernel
theorem dX6_version_169 : decode cX6_version 169 = .ok (.getfield 32, 3) := by decide +kernel
theorem dX6_version_172 : decode cX6_version 172 = .ok (.iload 7, 2) := by decide +kernel
theorem dX6_version_174 : decode cX6_version 174 = .ok (.iaload, 1) := by decide +kernel
theorem dX6_version_175 : decode cX6_version 175 = .ok (.invokevirtual 99, 3) := by decide +kernel
theorem dX6_version_178 : decode cX6_version 178 = .ok (.istore 8, 2) := by decide +kernel
theorem dX6_version_180 : decode cX6_version 180 = .ok (.iload 4, 2) := by decide +kernel
theorem dX6_version_182 : decode cX6_version 182 = .ok (.ifCond .ne 13, 3) := by decide +kernel
theorem dX6_version_185 : decode cX6_version 185 = .ok (.aload_n 0, 1) := by decide +kernel
theorem dX6_version_186 : decode cX6_version 186 = .ok (.getfield 29, 3) := by decide +kernel
theorem dX6_version_189 : decode cX6_version 189 = .ok (.iload 7, 2) := by decide +kernel
theorem dX6_version_191 : decode cX6_version 191 = .ok (.iaload, 1) := by decide +kernel
theorem dX6_version_192 : decode cX6_version 192 = .ok (.goto 49, 3) := by decide +kernel
theorem dX6_version_195 : decode cX6_version 195 = .ok (.aload_n 0, 1) := by decide +kernel
theorem dX6_version_196 : decode cX6_version 196 = .ok (.getfield 35, 3) := by decide +kernel
theorem dX6_version_199 : decode cX6_version 199 = .ok (.iload 7, 2) := by decide +kernel
theorem dX6_version_201 : decode cX6_version 201 = .ok (.baload, 1) := by decide +kernel
theorem dX6_version_202 : decode cX6_version 202 = .ok (.ifCond .eq 7, 3) := by decide +kernel
theorem dX6_version_205 : decode cX6_version 205 = .ok (.iconst 0, 1) := by decide +kernel
theorem dX6_version_206 : decode cX6_version 206 = .ok (.goto 35, 3) := by decide +kernel
theorem dX6_version_209 : decode cX6_version 209 = .ok (.iload 4, 2) := by decide +kernel
theorem dX6_version_211 : decode cX6_version 211 = .ok (.iconst 1, 1) := by decide +kernel
theorem dX6_version_212 : decode cX6_version 212 = .ok (.if_icmp .ne 13, 3) := by decide +kernel
theorem dX6_version_215 : decode cX6_version 215 = .ok (.aload_n 0, 1) := by decide +kernel
theorem dX6_version_216 : decode cX6_version 216 = .ok (.getfield 32, 3) := by decide +kernel
theorem dX6_version_219 : decode cX6_version 219 = .ok (.iload 7, 2) := by decide +kernel
theorem dX6_version_221 : decode cX6_version 221 = .ok (.iaload, 1) := by decide +kernel
theorem dX6_version_222 : decode cX6_version 222 = .ok (.goto 19, 3) := by decide +kernel
theorem dX6_version_225 : decode cX6_version 225 = .ok (.iload 8, 2) := by decide +kernel
theorem dX6_version_227 : decode cX6_version 227 = .ok (.ifCond .ge 7, 3) := by decide +kernel
theorem dX6_version_230 : decode cX6_version 230 = .ok (.iconst 0, 1) := by decide +kernel
theorem dX6_version_231 : decode cX6_version 231 = .ok (.goto 10, 3) := by decide +kernel
theorem dX6_version_234 : decode cX6_version 234 = .ok (.aload_n 0, 1) := by decide +kernel
theorem dX6_version_235 : decode cX6_version 235 = .ok (.getfield 23, 3) := by decide +kernel
theorem dX6_version_238 : decode cX6_version 238 = .ok (.iload 8, 2) := by decide +kernel
theorem dX6_version_240 : decode cX6_version 240 = .ok (.iaload, 1) := by decide +kernel
theorem dX6_version_241 : decode cX6_version 241 = .ok (.ireturn, 1) := by decide +kernel
theorem dX6_data_0 : decode cX6_data 0 = .ok (.aload_n 0, 1) := by decide +kernel
theorem dX6_data_1 : decode cX6_data 1 = .ok (.iconst 0, 1) := by decide +kernel
theorem dX6_data_2 : decode cX6_data 2 = .ok (.putfield 75, 3) := by decide +kernel
theorem dX6_data_5 : decode cX6_data 5 = .ok (.iload_n 1, 1) := by decide +kernel
theorem dX6_data_6 : decode cX6_data 6 = .ok (.iload_n 2, 1) := by decide +kernel
theorem dX6_data_7 : decode cX6_data 7 = .ok (.invokestatic 145, 3) := by decide +kernel
theorem dX6_data_10 : decode cX6_data 10 = .ok (.ifCond .eq 5, 3) := by decide +kernel
theorem dX6_data_13 : decode cX6_data 13 = .ok (.iconst (-1), 1) := by decide +kernel
theorem dX6_data_14 : decode cX6_data 14 = .ok (.ireturn, 1) := by decide +kernel
theorem dX6_data_15 : decode cX6_data 15 = .ok (.iload_n 3, 1) := by decide +kernel
theorem dX6_data_16 : decode cX6_data 16 = .ok (.iconst 0, 1) := by decide +kernel
theorem dX6_data_17 : decode cX6_data 17 = .ok (.iconst 1, 1) := by decide +kernel
theorem dX6_data_18 : decode cX6_data 18 = .ok (.invokestatic 134, 3) := by decide +kernel
theorem dX6_data_21 : decode cX6_data 21 = .ok (.ifCond .ne 6, 3) := by decide +kernel
theorem dX6_data_24 : decode cX6_data 24 = .ok (.bipush (-2), 2) := by decide +kernel
theorem dX6_data_26 : decode cX6_data 26 = .ok (.ireturn, 1) := by decide +kernel
theorem dX6_data_27 : decode cX6_data 27 = .ok (.iconst 0, 1) := by decide +kernel
theorem dX6_data_28 : decode cX6_data 28 = .ok (.istore 4, 2) := by decide +kernel
theorem dX6_data_30 : decode cX6_data 30 = .ok (.iconst 0, 1) := by decide +kernel
theorem dX6_data_31 : decode cX6_data 31 = .ok (.istore 5, 2) := by decide +kernel
theorem dX6_data_33 : decode cX6_data 33 = .ok (.iconst 0, 1) := by decide +kernel
theorem dX6_data_34 : decode cX6_data 34 = .ok (.istore 6, 2) := by decide +kernel
theorem dX6_data_36 : decode cX6_data 36 = .ok (.iload 6, 2) := by decide +kernel
theorem dX6_data_38 : decode cX6_data 38 = .ok (.aload_n 0, 1) := by decide +kernel
theorem dX6_data_39 : decode cX6_data 39 = .ok (.getfield 78, 3) := by decide +kernel
theorem dX6_data_42 : decode cX6_data 42 = .ok (.if_icmp .ge 53, 3) := by decide +kernel
theorem dX6_data_45 : decode cX6_data 45 = .ok (.aload_n 0, 1) := by decide +kernel
theorem dX6_data_46 : decode cX6_data 46 = .ok (.getfield 16, 3) := by decide +kernel
theorem dX6_data_49 : decode cX6_data 49 = .ok (.iload 6, 2) := by decide +kernel
theorem dX6_data_51 : decode cX6_data 51 = .ok (.iaload, 1) := by decide +kernel
theorem dX6_data_52 : decode cX6_data 52 = .ok (.iconst 4, 1) := by decide +kernel
theorem dX6_data_53 : decode cX6_data 53 = .ok (.iload_n 1, 1) := by decide +kernel
theorem dX6_data_54 : decode cX6_data 54 = .ok (.imul, 1) := by decide +kernel
theorem dX6_data_55 : decode cX6_data 55 = .ok (.iload_n 2, 1) := by decide +kernel
theorem dX6_data_56 : decode cX6_data 56 = .ok (.iadd, 1) := by decide +kernel
theorem dX6_data_57 : decode cX6_data 57 = .ok (.if_icmp .ne 32, 3) := by decide +kernel
theorem dX6_data_60 : decode cX6_data 60 = .ok (.iinc 4 1, 3) := by decide +kernel
theorem dX6_data_63 : decode cX6_data 63 = .ok (.aload_n 0, 1) := by decide +kernel
theorem dX6_data_64 : decode cX6_data 64 = .ok (.getfield 20, 3) := by decide +kernel
theorem dX6_data_67 : decode cX6_data 67 = .ok (.iload 6, 2) := by decide +kernel
theorem dX6_data_69 : decode cX6_data 69 = .ok (.iaload, 1) := by decide +kernel
theorem dX6_data_70 : decode cX6_data 70 = .ok (.iload 5, 2) := by decide +kernel
theorem dX6_data_72 : decode cX6_data 72 = .ok (.if_icmp .le 13, 3) := by decide +kernel
theorem dX6_data_75 : decode cX6_data 75 = .ok (.aload_n 0, 1) := by decide +kernel
theorem dX6_data_76 : decode cX6_data 76 = .ok (.getfield 20, 3) := by decide +kernel
theorem dX6_data_79 : decode cX6_data 79 = .ok (.iload 6, 2) := by decide +kernel
theorem dX6_data_81 : decode cX6_data 81 = .ok (.iaload, 1) := by decide +kernel
theorem dX6_data_82 : decode cX6_data 82 = .ok (.goto 5, 3) := by decide +kernel
theorem dX6_data_85 : decode cX6_data 85 = .ok (.iload 5, 2) := by decide +kernel
theorem dX6_data_87 : decode cX6_data 87 = .ok (.istore 5, 2) := by decide +kernel
theorem dX6_data_89 : decode cX6_data 89 = .ok (.iinc 6 1, 3) := by decide +kernel
theorem dX6_data_92 : decode cX6_data 92 = .ok (.goto (-56), 3) := by decide +kernel
theorem dX6_data_95 : decode cX6_data 95 = .ok (.iload_n 3, 1) := by decide +kernel
theorem dX6_data_96 : decode cX6_data 96 = .ok (.ifCond .ne 8, 3) := by decide +kernel
theorem dX6_data_99 : decode cX6_data 99 = .ok (.iload 4, 2) := by decide +kernel
theorem dX6_data_101 : decode cX6_data 101 = .ok (.goto 5, 3) := by decide +kernel
theorem dX6_data_104 : decode cX6_data 104 = .ok (.iload 5, 2) := by decide +kernel
theorem dX6_data_106 : decode cX6_data 106 = .ok (.ireturn, 1) := by decide +kernel
theorem dX6_told_0 : decode cX6_told 0 = .ok (.aload_n 0, 1) := by decide +kernel
theorem dX6_told_1 : decode cX6_told 1 = .ok (.iconst 0, 1) := by decide +kernel
theorem dX6_told_2 : decode cX6_told 2 = .ok (.putfield 75, 3) := by decide +kernel
theorem dX6_told_5 : decode cX6_told 5 = .ok (.iload_n 1, 1) := by decide +kernel
theorem dX6_told_6 : decode cX6_told 6 = .ok (.tableswitch 95 0 8 #[50, 55, 60, 65, 70, 75, 80, 85, 90], 50) := by decide +kernel
theorem dX6_told_56 : decode cX6_told 56 = .ok (.aload_n 0, 1) := by decide +kernel
theorem dX6_told_57 : decode cX6_told 57 = .ok (.getfield 96, 3) := by decide +kernel
theorem dX6_told_60 : decode cX6_told 60 = .ok (.ireturn, 1) := by decide +kernel
theorem dX6_told_61 : decode cX6_told 61 = .ok (.aload_n 0, 1) := by decide +kernel
theorem dX6_told_62 : decode cX6_told 62 = .ok (.getfield 93, 3) := by decide +kernel
theorem dX6_told_65 : decode cX6_told 65 = .ok (.ireturn, 1) := by decide +kernel
theorem dX6_told_66 : decode cX6_told 66 = .ok (.aload_n 0, 1) := by decide +kernel
theorem dX6_told_67 : decode cX6_told 67 = .ok (.invokevirtual 174, 3) := by decide +kernel
theorem dX6_told_70 : decode cX6_told 70 = .ok (.ireturn, 1) := by decide +kernel
theorem dX6_told_71 : decode cX6_told 71 = .ok (.aload_n 0, 1) := by decide +kernel
theorem dX6_told_72 : decode cX6_told 72 = .ok (.getfield 72, 3) := by decide +kernel
theorem dX6_told_75 : decode cX6_told 75 = .ok (.ireturn, 1) := by decide +kernel
theorem dX6_told_76 : decode cX6_told 76 = .ok (.aload_n 0, 1) := by decide +kernel
theorem dX6_told_77 : decode cX6_told 77 = .ok (.getfield 87, 3) := by decide +kernel
theorem dX6_told_80 : decode cX6_told 80 = .ok (.ireturn, 1) := by decide +kernel
theorem dX6_told_81 : decode cX6_told 81 = .ok (.aload_n 0, 1) := by decide +kernel
theorem dX6_told_82 : decode cX6_told 82 = .ok (.getfield 90, 3) := by decide +kernel
theorem dX6_told_85 : decode cX6_told 85 = .ok (.ireturn, 1) := by decide +kernel
theorem dX6_told_86 : decode cX6_told 86 = .ok (.aload_n 0, 1) := by decide +kernel
theorem dX6_told_87 : decode cX6_told 87 = .ok (.getfield 103, 3) := by decide +kernel
theorem dX6_told_90 : decode cX6_told 90 = .ok (.ireturn, 1) := by decide +kernel
theorem dX6_told_91 : decode cX6_told 91 = .ok (.aload_n 0, 1) := by decide +kernel
theorem dX6_told_92 : decode cX6_told 92 = .ok (.getfield 187, 3) := by decide +kernel
theorem dX6_told_95 : decode cX6_told 95 = .ok (.ireturn, 1) := by decide +kernel
theorem dX6_told_96 : decode cX6_told 96 = .ok (.aload_n 0, 1) := by decide +kernel
theorem dX6_told_97 : decode cX6_told 97 = .ok (.getfield 106, 3) := by decide +kernel
theorem dX6_told_100 : decode cX6_told 100 = .ok (.ireturn, 1) := by decide +kernel
theorem dX6_told_101 : decode cX6_told 101 = .ok (.bipush (-2), 2) := by decide +kernel
theorem dX6_told_103 : decode cX6_told 103 = .ok (.ireturn, 1) := by decide +kernel
theorem dL_law_0 : decode cL_law 0 = .ok (.new 7, 3) := by decide +kernel
theorem dL_law_3 : decode cL_law 3 = .ok (.dup, 1) := by decide +kernel
theorem dL_law_4 : decode cL_law 4 = .ok (.invokespecial 9, 3) := by decide +kernel
theorem dL_law_7 : decode cL_law 7 = .ok (.astore_n 1, 1) := by decide +kernel
theorem dL_law_8 : decode cL_law 8 = .ok (.new 10, 3) := by decide +kernel
theorem dL_law_11 : decode cL_law 11 = .ok (.dup, 1) := by decide +kernel
theorem dL_law_12 : decode cL_law 12 = .ok (.invokespecial 12, 3) := by decide +kernel
theorem dL_law_15 : decode cL_law 15 = .ok (.astore_n 2, 1) := by decide +kernel
theorem dL_law_16 : decode cL_law 16 = .ok (.iconst 0, 1) := by decide +kernel
theorem dL_law_17 : decode cL_law 17 = .ok (.istore_n 3, 1) := by decide +kernel
theorem dL_law_18 : decode cL_law 18 = .ok (.iload_n 3, 1) := by decide +kernel
theorem dL_law_19 : decode cL_law 19 = .ok (.aload_n 0, 1) := by decide +kernel
theorem dL_law_20 : decode cL_law 20 = .ok (.arraylength, 1) := by decide +kernel
theorem dL_law_21 : decode cL_law 21 = .ok (.iconst 5, 1) := by decide +kernel
theorem dL_law_22 : decode cL_law 22 = .ok (.isub, 1) := by decide +kernel
theorem dL_law_23 : decode cL_law 23 = .ok (.if_icmp .gt 647, 3) := by decide +kernel
theorem dL_law_26 : decode cL_law 26 = .ok (.aload_n 0, 1) := by decide +kernel
theorem dL_law_27 : decode cL_law 27 = .ok (.iload_n 3, 1) := by decide +kernel
theorem dL_law_28 : decode cL_law 28 = .ok (.iaload, 1) := by decide +kernel
theorem dL_law_29 : decode cL_law 29 = .ok (.bipush 31, 2) := by decide +kernel
theorem dL_law_31 : decode cL_law 31 = .ok (.iand, 1) := by decide +kernel
theorem dL_law_32 : decode cL_law 32 = .ok (.tableswitch 632 0 17 #[88, 111, 154, 187, 240, 263, 286, 309, 332, 355, 368, 381, 404, 437, 480, 513, 566, 609], 88) := by decide +kernel
theorem dL_law_120 : decode cL_law 120 = .ok (.aload_n 1, 1) := by decide +kernel
theorem dL_law_121 : decode cL_law 121 = .ok (.aload_n 0, 1) := by decide +kernel
theorem dL_law_122 : decode cL_law 122 = .ok (.iload_n 3, 1) := by decide +kernel
theorem dL_law_123 : decode cL_law 123 = .ok (.iconst 1, 1) := by decide +kernel
theorem dL_law_124 : decode cL_law 124 = .ok (.iadd, 1) := by decide +kernel
theorem dL_law_125 : decode cL_law 125 = .ok (.iaload, 1) := by decide +kernel
theorem dL_law_126 : decode cL_law 126 = .ok (.invokevirtual 13, 3) := by decide +kernel
theorem dL_law_129 : decode cL_law 129 = .ok (.aload_n 2, 1) := by decide +kernel
theorem dL_law_130 : decode cL_law 130 = .ok (.aload_n 0, 1) := by decide +kernel
theorem dL_law_131 : decode cL_law 131 = .ok (.iload_n 3, 1) := by decide +kernel
theorem dL_law_132 : decode cL_law 132 = .ok (.iconst 1, 1) := by decide +kernel
theorem dL_law_133 : decode cL_law 133 = .ok (.iadd, 1) := by decide +kernel
theorem dL_law_134 : decode cL_law 134 = .ok (.iaload, 1) := by decide +kernel
theorem dL_law_135 : decode cL_law 135 = .ok (.invokevirtual 17, 3) := by decide +kernel
theorem dL_law_138 : decode cL_law 138 = .ok (.if_icmp .eq 526, 3) := by decide +kernel
theorem dL_law_141 : decode cL_law 141 = .ok (.iconst 0, 1) := by decide +kernel
theorem dL_law_142 : decode cL_law 142 = .ok (.ireturn, 1) := by decide +kernel
theorem dL_law_143 : decode cL_law 143 = .ok (.aload_n 1, 1) := by decide +kernel
theorem dL_law_144 : decode cL_law 144 = .ok (.aload_n 0, 1) := by decide +kernel
theorem dL_law_145 : decode cL_law 145 = .ok (.iload_n 3, 1) := by decide +kernel
theorem dL_law_146 : decode cL_law 146 = .ok (.iconst 1, 1) := by decide +kernel
theorem dL_law_147 : decode cL_law 147 = .ok (.iadd, 1) := by decide +kernel
theorem dL_law_148 : decode cL_law 148 = .ok (.iaload, 1) := by decide +kernel
theorem dL_law_149 : decode cL_law 149 = .ok (.aload_n 0, 1) := by decide +kernel
theorem dL_law_150 : decode cL_law 150 = .ok (.iload_n 3, 1) := by decide +kernel
theorem dL_law_151 : decode cL_law 151 = .ok (.iconst 2, 1) := by decide +kernel
theorem dL_law_152 : decode cL_law 152 = .ok (.iadd, 1) := by decide +kernel
theorem dL_law_153 : decode cL_law 153 = .ok (.iaload, 1) := by decide +kernel
theorem dL_law_154 : decode cL_law 154 = .ok (.aload_n 0, 1) := by decide +kernel
theorem dL_law_155 : decode cL_law 155 = .ok (.iload_n 3, 1) := by decide +kernel
theorem dL_law_156 : decode cL_law 156 = .ok (.iconst 3, 1) := by decide +kernel
theorem dL_law_157 : decode cL_law 157 = .ok (.iadd, 1) := by decide +kernel
theorem dL_law_158 : decode cL_law 158 = .ok (.iaload, 1) := by decide +kernel
theorem dL_law_159 : decode cL_law 159 = .ok (.invokevirtual 18, 3) := by decide +kernel
theorem dL_law_162 : decode cL_law 162 = .ok (.aload_n 2, 1) := by decide +kernel
theorem dL_law_163 : decode cL_law 163 = .ok (.aload_n 0, 1) := by decide +kernel
theorem dL_law_164 : decode cL_law 164 = .ok (.iload_n 3, 1) := by decide +kernel
theorem dL_law_165 : decode cL_law 165 = .ok (.iconst 1, 1) := by decide +kernel
theorem dL_law_166 : decode cL_law 166 = .ok (.iadd, 1) := by decide +kernel
theorem dL_law_167 : decode cL_law 167 = .ok (.iaload, 1) := by decide +kernel
theorem dL_law_168 : decode cL_law 168 = .ok (.aload_n 0, 1) := by decide +kernel
theorem dL_law_169 : decode cL_law 169 = .ok (.iload_n 3, 1) := by decide +kernel
theorem dL_law_170 : decode cL_law 170 = .ok (.iconst 2, 1) := by decide +kernel
theorem dL_law_171 : decode cL_law 171 = .ok (.iadd, 1) := by decide +kernel
theorem dL_law_172 : decode cL_law 172 = .ok (.iaload, 1) := by decide +kernel
theorem dL_law_173 : decode cL_law 173 = .ok (.aload_n 0, 1) := by decide +kernel
theorem dL_law_174 : decode cL_law 174 = .ok (.iload_n 3, 1) := by decide +kernel
theorem dL_law_175 : decode cL_law 175 = .ok (.iconst 3, 1) := by decide +kernel
theorem dL_law_176 : decode cL_law 176 = .ok (.iadd, 1) := by decide +kernel
theorem dL_law_177 : decode cL_law 177 = .ok (.iaload, 1) := by decide +kernel
theorem dL_law_178 : decode cL_law 178 = .ok (.invokevirtual 22, 3) := by decide +kernel
theorem dL_law_181 : decode cL_law 181 = .ok (.if_icmp .eq 483, 3) := by decide +kernel
theorem dL_law_184 : decode cL_law 184 = .ok (.iconst 0, 1) := by decide +kernel
theorem dL_law_185 : decode cL_law 185 = .ok (.ireturn, 1) := by decide +kernel
theorem dL_law_186 : decode cL_law 186 = .ok (.aload_n 1, 1) := by decide +kernel
theorem dL_law_187 : decode cL_law 187 = .ok (.aload_n 0, 1) := by decide +kernel
theorem dL_law_188 : decode cL_law 188 = .ok (.iload_n 3, 1) := by decide +kernel
theorem dL_law_189 : decode cL_law 189 = .ok (.iconst 1, 1) := by decide +kernel
theorem dL_law_190 : decode cL_law 190 = .ok (.iadd, 1) := by decide +kernel
theorem dL_law_191 : decode cL_law 191 = .ok (.iaload, 1) := by decide +kernel
theorem dL_law_192 : decode cL_law 192 = .ok (.aload_n 0, 1) := by decide +kernel
theorem dL_law_193 : decode cL_law 193 = .ok (.iload_n 3, 1) := by decide +kernel
theorem dL_law_194 : decode cL_law 194 = .ok (.iconst 2, 1) := by decide +kernel
theorem dL_law_195 : decode cL_law 195 = .ok (.iadd, 1) := by decide +kernel
theorem dL_law_196 : decode cL_law 196 = .ok (.iaload, 1) := by decide +kernel
theorem dL_law_197 : decode cL_law 197 = .ok (.invokevirtual 23, 3) := by decide +kernel
theorem dL_law_200 : decode cL_law 200 = .ok (.aload_n 2, 1) := by decide +kernel
theorem dL_law_201 : decode cL_law 201 = .ok (.aload_n 0, 1) := by decide +kernel
theorem dL_law_202 : decode cL_law 202 = .ok (.iload_n 3, 1) := by decide +kernel
theorem dL_law_203 : decode cL_law 203 = .ok (.iconst 1, 1) := by decide +kernel
theorem dL_law_204 : decode cL_law 204 = .ok (.iadd, 1) := by decide +kernel
theorem dL_law_205 : decode cL_law 205 = .ok (.iaload, 1) := by decide +kernel
theorem dL_law_206 : decode cL_law 206 = .ok (.aload_n 0, 1) := by decide +kernel
theorem dL_law_207 : decode cL_law 207 = .ok (.iload_n 3, 1) := by decide +kernel
theorem dL_law_208 : decode cL_law 208 = .ok (.iconst 2, 1) := by decide +kernel
theorem dL_law_209 : decode cL_law 209 = .ok (.iadd, 1) := by decide +kernel
theorem dL_law_210 : decode cL_law 210 = .ok (.iaload, 1) := by decide +kernel
theorem dL_law_211 : decode cL_law 211 = .ok (.invokevirtual 27, 3) := by decide +kernel
theorem dL_law_214 : decode cL_law 214 = .ok (.if_icmp .eq 450, 3) := by decide +kernel
theorem dL_law_217 : decode cL_law 217 = .ok (.iconst 0, 1) := by decide +kernel
theorem dL_law_218 : decode cL_law 218 = .ok (.ireturn, 1) := by decide +kernel
theorem dL_law_219 : decode cL_law 219 = .ok (.aload_n 1, 1) := by decide +kernel
theorem dL_law_220 : decode cL_law 220 = .ok (.aload_n 0, 1) := by decide +kernel
theorem dL_law_221 : decode cL_law 221 = .ok (.iload_n 3, 1) := by decide +kernel
theorem dL_law_222 : decode cL_law 222 = .ok (.iconst 1, 1) := by decide +kernel
theorem dL_law_223 : decode cL_law 223 = .ok (.iadd, 1) := by decide +kernel
theorem dL_law_224 : decode cL_law 224 = .ok (.iaload, 1) := by decide +kernel
theorem dL_law_225 : decode cL_law 225 = .ok (.aload_n 0, 1) := by decide +kernel
theorem dL_law_226 : decode cL_law 226 = .ok (.iload_n 3, 1) := by decide +kernel
theorem dL_law_227 : decode cL_law 227 = .ok (.iconst 2, 1) := by decide +kernel
theorem dL_law_228 : decode cL_law 228 = .ok (.iadd, 1) := by decide +kernel
theorem dL_law_229 : decode cL_law 229 = .ok (.iaload, 1) := by decide +kernel
theorem dL_law_230 : decode cL_law 230 = .ok (.aload_n 0, 1) := by decide +kernel
theorem dL_law_231 : decode cL_law 231 = .ok (.iload_n 3, 1) := by decide +kernel
theorem dL_law_232 : decode cL_law 232 = .ok (.iconst 3, 1) := by decide +kernel
theorem dL_law_233 : decode cL_law 233 = .ok (.iadd, 1) := by decide +kernel
theorem dL_law_234 : decode cL_law 234 = .ok (.iaload, 1) := by decide +kernel
theorem dL_law_235 : decode cL_law 235 = .ok (.aload_n 0, 1) := by decide +kernel
theorem dL_law_236 : decode cL_law 236 = .ok (.iload_n 3, 1) := by decide +kernel
theorem dL_law_237 : decode cL_law 237 = .ok (.iconst 4, 1) := by decide +kernel
theorem dL_law_238 : decode cL_law 238 = .ok (.iadd, 1) := by decide +kernel
theorem dL_law_239 : decode cL_law 239 = .ok (.iaload, 1) := by decide +kernel
theorem dL_law_240 : decode cL_law 240 = .ok (.invokevirtual 28, 3) := by decide +kernel
theorem dL_law_243 : decode cL_law 243 = .ok (.aload_n 2, 1) := by decide +kernel
theorem dL_law_244 : decode cL_law 244 = .ok (.aload_n 0, 1) := by decide +kernel
theorem dL_law_245 : decode cL_law 245 = .ok (.iload_n 3, 1) := by decide +kernel
theorem dL_law_246 : decode cL_law 246 = .ok (.iconst 1, 1) := by decide +kernel
theorem dL_law_247 : decode cL_law 247 = .ok (.iadd, 1) := by decide +kernel
theorem dL_law_248 : decode cL_law 248 = .ok (.iaload, 1) := by decide +kernel
theorem dL_law_249 : decode cL_law 249 = .ok (.aload_n 0, 1) := by decide +kernel
theorem dL_law_250 : decode cL_law 250 = .ok (.iload_n 3, 1) := by decide +kernel
theorem dL_law_251 : decode cL_law 251 = .ok (.iconst 2, 1) := by decide +kernel
theorem dL_law_252 : decode cL_law 252 = .ok (.iadd, 1) := by decide +kernel
theorem dL_law_253 : decode cL_law 253 = .ok (.iaload, 1) := by decide +kernel
theorem dL_law_254 : decode cL_law 254 = .ok (.aload_n 0, 1) := by decide +kernel
theorem dL_law_255 : decode cL_law 255 = .ok (.iload_n 3, 1) := by decide +kernel
theorem dL_law_256 : decode cL_law 256 = .ok (.iconst 3, 1) := by decide +kernel
theorem dL_law_257 : decode cL_law 257 = .ok (.iadd, 1) := by decide +kernel
theorem dL_law_258 : decode cL_law 258 = .ok (.iaload, 1) := by decide +kernel
theorem dL_law_259 : decode cL_law 259 = .ok (.aload_n 0, 1) := by decide +kernel
theorem dL_law_260 : decode cL_law 260 = .ok (.iload_n 3, 1) := by decide +kernel
theorem dL_law_261 : decode cL_law 261 = .ok (.iconst 4, 1) := by decide +kernel
theorem dL_law_262 : decode cL_law 262 = .ok (.iadd, 1) := by decide +kernel
theorem dL_law_263 : decode cL_law 263 = .ok (.iaload, 1) := by decide +kernel
theorem dL_law_264 : decode cL_law 264 = .ok (.invokevirtual 32, 3) := by decide +kernel
theorem dL_law_267 : decode cL_law 267 = .ok (.if_icmp .eq 397, 3) := by decide +kernel
theorem dL_law_270 : decode cL_law 270 = .ok (.iconst 0, 1) := by decide +kernel
theorem dL_law_271 : decode cL_law 271 = .ok (.ireturn, 1) := by decide +kernel
theorem dL_law_272 : decode cL_law 272 = .ok (.aload_n 1, 1) := by decide +kernel
theorem dL_law_273 : decode cL_law 273 = .ok (.aload_n 0, 1) := by decide +kernel
theorem dL_law_274 : decode cL_law 274 = .ok (.iload_n 3, 1) := by decide +kernel
theorem dL_law_275 : decode cL_law 275 = .ok (.iconst 1, 1) := by decide +kernel
theorem dL_law_276 : decode cL_law 276 = .ok (.iadd, 1) := by decide +kernel
theorem dL_law_277 : decode cL_law 277 = .ok (.iaload, 1) := by decide +kernel
theorem dL_law_278 : decode cL_law 278 = .ok (.invokevirtual 33, 3) := by decide +kernel
theorem dL_law_281 : decode cL_law 281 = .ok (.aload_n 2, 1) := by decide +kernel
theorem dL_law_282 : decode cL_law 282 = .ok (.aload_n 0, 1) := by decide +kernel
theorem dL_law_283 : decode cL_law 283 = .ok (.iload_n 3, 1) := by decide +kernel
theorem dL_law_284 : decode cL_law 284 = .ok (.iconst 1, 1) := by decide +kernel
theorem dL_law_285 : decode cL_law 285 = .ok (.iadd, 1) := by decide +kernel
theorem dL_law_286 : decode cL_law 286 = .ok (.iaload, 1) := by decide +kernel
theorem dL_law_287 : decode cL_law 287 = .ok (.invokevirtual 36, 3) := by decide +kernel
theorem dL_law_290 : decode cL_law 290 = .ok (.if_icmp .eq 374, 3) := by decide +kernel
theorem dL_law_293 : decode cL_law 293 = .ok (.iconst 0, 1) := by decide +kernel
theorem dL_law_294 : decode cL_law 294 = .ok (.ireturn, 1) := by decide +kernel
theorem dL_law_295 : decode cL_law 295 = .ok (.aload_n 1, 1) := by decide +kernel
theorem dL_law_296 : decode cL_law 296 = .ok (.aload_n 0, 1) := by decide +kernel
theorem dL_law_297 : decode cL_law 297 = .ok (.iload_n 3, 1) := by decide +kernel
theorem dL_law_298 : decode cL_law 298 = .ok (.iconst 1, 1) := by decide +kernel
theorem dL_law_299 : decode cL_law 299 = .ok (.iadd, 1) := by decide +kernel
theorem dL_law_300 : decode cL_law 300 = .ok (.iaload, 1) := by decide +kernel
theorem dL_law_301 : decode cL_law 301 = .ok (.invokevirtual 37, 3) := by decide +kernel
theorem dL_law_304 : decode cL_law 304 = .ok (.aload_n 2, 1) := by decide +kernel
theorem dL_law_305 : decode cL_law 305 = .ok (.aload_n 0, 1) := by decide +kernel
theorem dL_law_306 : decode cL_law 306 = .ok (.iload_n 3, 1) := by decide +kernel
theorem dL_law_307 : decode cL_law 307 = .ok (.iconst 1, 1) := by decide +kernel
theorem dL_law_308 : decode cL_law 308 = .ok (.iadd, 1) := by decide +kernel
theorem dL_law_309 : decode cL_law 309 = .ok (.iaload, 1) := by decide +kernel
theorem dL_law_310 : decode cL_law 310 = .ok (.invokevirtual 40, 3) := by decide +kernel
theorem dL_law_313 : decode cL_law 313 = .ok (.if_icmp .eq 351, 3) := by decide +kernel
theorem dL_law_316 : decode cL_law 316 = .ok (.iconst 0, 1) := by decide +kernel
theorem dL_law_317 : decode cL_law 317 = .ok (.ireturn, 1) := by decide +kernel
theorem dL_law_318 : decode cL_law 318 = .ok (.aload_n 1, 1) := by decide +kernel
theorem dL_law_319 : decode cL_law 319 = .ok (.aload_n 0, 1) := by decide +kernel
theorem dL_law_320 : decode cL_law 320 = .ok (.iload_n 3, 1) := by decide +kernel
theorem dL_law_321 : decode cL_law 321 = .ok (.iconst 1, 1) := by decide +kernel
theorem dL_law_322 : decode cL_law 322 = .ok (.iadd, 1) := by decide +kernel
theorem dL_law_323 : decode cL_law 323 = .ok (.iaload, 1) := by decide +kernel
theorem dL_law_324 : decode cL_law 324 = .ok (.invokevirtual 41, 3) := by decide +kernel
theorem dL_law_327 : decode cL_law 327 = .ok (.aload_n 2, 1) := by decide +kernel
theorem dL_law_328 : decode cL_law 328 = .ok (.aload_n 0, 1) := by decide +kernel
theorem dL_law_329 : decode cL_law 329 = .ok (.iload_n 3, 1) := by decide +kernel
theorem dL_law_330 : decode cL_law 330 = .ok (.iconst 1, 1) := by decide +kernel
theorem dL_law_331 : decode cL_law 331 = .ok (.iadd, 1) := by decide +kernel
theorem dL_law_332 : decode cL_law 332 = .ok (.iaload, 1) := by decide +kernel
theorem dL_law_333 : decode cL_law 333 = .ok (.invokevirtual 44, 3) := by decide +kernel
theorem dL_law_336 : decode cL_law 336 = .ok (.if_icmp .eq 328, 3) := by decide +kernel
theorem dL_law_339 : decode cL_law 339 = .ok (.iconst 0, 1) := by decide +kernel
theorem dL_law_340 : decode cL_law 340 = .ok (.ireturn, 1) := by decide +kernel
theorem dL_law_341 : decode cL_law 341 = .ok (.aload_n 1, 1) := by decide +kernel
theorem dL_law_342 : decode cL_law 342 = .ok (.aload_n 0, 1) := by decide +kernel
theorem dL_law_343 : decode cL_law 343 = .ok (.iload_n 3, 1) := by decide +kernel
theorem dL_law_344 : decode cL_law 344 = .ok (.iconst 1, 1) := by decide +kernel
theorem dL_law_345 : decode cL_law 345 = .ok (.iadd, 1) := by decide +kernel
theorem dL_law_346 : decode cL_law 346 = .ok (.iaload, 1) := by decide +kernel
theorem dL_law_347 : decode cL_law 347 = .ok (.invokevirtual 45, 3) := by decide +kernel
theorem dL_law_350 : decode cL_law 350 = .ok (.aload_n 2, 1) := by decide +kernel
theorem dL_law_351 : decode cL_law 351 = .ok (.aload_n 0, 1) := by decide +kernel
theorem dL_law_352 : decode cL_law 352 = .ok (.iload_n 3, 1) := by decide +kernel
theorem dL_law_353 : decode cL_law 353 = .ok (.iconst 1, 1) := by decide +kernel
theorem dL_law_354 : decode cL_law 354 = .ok (.iadd, 1) := by decide +kernel
theorem dL_law_355 : decode cL_law 355 = .ok (.iaload, 1) := by decide +kernel
theorem dL_law_356 : decode cL_law 356 = .ok (.invokevirtual 48, 3) := by decide +kernel
theorem dL_law_359 : decode cL_law 359 = .ok (.if_icmp .eq 305, 3) := by decide +kernel
theorem dL_law_362 : decode cL_law 362 = .ok (.iconst 0, 1) := by decide +kernel
theorem dL_law_363 : decode cL_law 363 = .ok (.ireturn, 1) := by decide +kernel
theorem dL_law_364 : decode cL_law 364 = .ok (.aload_n 1, 1) := by decide +kernel
theorem dL_law_365 : decode cL_law 365 = .ok (.aload_n 0, 1) := by decide +kernel
theorem dL_law_366 : decode cL_law 366 = .ok (.iload_n 3, 1) := by decide +kernel
theorem dL_law_367 : decode cL_law 367 = .ok (.iconst 1, 1) := by decide +kernel
theorem dL_law_368 : decode cL_law 368 = .ok (.iadd, 1) := by decide +kernel
theorem dL_law_369 : decode cL_law 369 = .ok (.iaload, 1) := by decide +kernel
theorem dL_law_370 : decode cL_law 370 = .ok (.invokevirtual 49, 3) := by decide +kernel
theorem dL_law_373 : decode cL_law 373 = .ok (.aload_n 2, 1) := by decide +kernel
theorem dL_law_374 : decode cL_law 374 = .ok (.aload_n 0, 1) := by decide +kernel
theorem dL_law_375 : decode cL_law 375 = .ok (.iload_n 3, 1) := by decide +kernel
theorem dL_law_376 : decode cL_law 376 = .ok (.iconst 1, 1) := by decide +kernel
theorem dL_law_377 : decode cL_law 377 = .ok (.iadd, 1) := by decide +kernel
theorem dL_law_378 : decode cL_law 378 = .ok (.iaload, 1) := by decide +kernel
theorem dL_law_379 : decode cL_law 379 = .ok (.invokevirtual 52, 3) := by decide +kernel
theorem dL_law_382 : decode cL_law 382 = .ok (.if_icmp .eq 282, 3) := by decide +kernel
theorem dL_law_385 : decode cL_law 385 = .ok (.iconst 0, 1) := by decide +kernel
theorem dL_law_386 : decode cL_law 386 = .ok (.ireturn, 1) := by decide +kernel
theorem dL_law_387 : decode cL_law 387 = .ok (.aload_n 1, 1) := by decide +kernel
theorem dL_law_388 : decode cL_law 388 = .ok (.invokevirtual 53, 3) := by decide +kernel
theorem dL_law_391 : decode cL_law 391 = .ok (.aload_n 2, 1) := by decide +kernel
theorem dL_law_392 : decode cL_law 392 = .ok (.invokevirtual 57, 3) := by decide +kernel
theorem dL_law_395 : decode cL_law 395 = .ok (.if_icmp .eq 269, 3) := by decide +kernel
theorem dL_law_398 : decode cL_law 398 = .ok (.iconst 0, 1) := by decide +kernel
theorem dL_law_399 : decode cL_law 399 = .ok (.ireturn, 1) := by decide +kernel
theorem dL_law_400 : decode cL_law 400 = .ok (.aload_n 1, 1) := by decide +kernel
theorem dL_law_401 : decode cL_law 401 = .ok (.invokevirtual 58, 3) := by decide +kernel
theorem dL_law_404 : decode cL_law 404 = .ok (.aload_n 2, 1) := by decide +kernel
theorem dL_law_405 : decode cL_law 405 = .ok (.invokevirtual 61, 3) := by decide +kernel
theorem dL_law_408 : decode cL_law 408 = .ok (.if_icmp .eq 256, 3) := by decide +kernel
theorem dL_law_411 : decode cL_law 411 = .ok (.iconst 0, 1) := by decide +kernel
theorem dL_law_412 : decode cL_law 412 = .ok (.ireturn, 1) := by decide +kernel
theorem dL_law_413 : decode cL_law 413 = .ok (.aload_n 1, 1) := by decide +kernel
theorem dL_law_414 : decode cL_law 414 = .ok (.aload_n 0, 1) := by decide +kernel
theorem dL_law_415 : decode cL_law 415 = .ok (.iload_n 3, 1) := by decide +kernel
theorem dL_law_416 : decode cL_law 416 = .ok (.iconst 1, 1) := by decide +kernel
theorem dL_law_417 : decode cL_law 417 = .ok (.iadd, 1) := by decide +kernel
theorem dL_law_418 : decode cL_law 418 = .ok (.iaload, 1) := by decide +kernel
theorem dL_law_419 : decode cL_law 419 = .ok (.invokevirtual 62, 3) := by decide +kernel
theorem dL_law_422 : decode cL_law 422 = .ok (.aload_n 2, 1) := by decide +kernel
theorem dL_law_423 : decode cL_law 423 = .ok (.aload_n 0, 1) := by decide +kernel
theorem dL_law_424 : decode cL_law 424 = .ok (.iload_n 3, 1) := by decide +kernel
theorem dL_law_425 : decode cL_law 425 = .ok (.iconst 1, 1) := by decide +kernel
theorem dL_law_426 : decode cL_law 426 = .ok (.iadd, 1) := by decide +kernel
theorem dL_law_427 : decode cL_law 427 = .ok (.iaload, 1) := by decide +kernel
theorem dL_law_428 : decode cL_law 428 = .ok (.invokevirtual 65, 3) := by decide +kernel
theorem dL_law_431 : decode cL_law 431 = .ok (.if_icmp .eq 233, 3) := by decide +kernel
theorem dL_law_434 : decode cL_law 434 = .ok (.iconst 0, 1) := by decide +kernel
theorem dL_law_435 : decode cL_law 435 = .ok (.ireturn, 1) := by decide +kernel
theorem dL_law_436 : decode cL_law 436 = .ok (.aload_n 1, 1) := by decide +kernel
theorem dL_law_437 : decode cL_law 437 = .ok (.aload_n 0, 1) := by decide +kernel
theorem dL_law_438 : decode cL_law 438 = .ok (.iload_n 3, 1) := by decide +kernel
theorem dL_law_439 : decode cL_law 439 = .ok (.iconst 1, 1) := by decide +kernel
theorem dL_law_440 : decode cL_law 440 = .ok (.iadd, 1) := by decide +kernel
theorem dL_law_441 : decode cL_law 441 = .ok (.iaload, 1) := by decide +kernel
theorem dL_law_442 : decode cL_law 442 = .ok (.aload_n 0, 1) := by decide +kernel
theorem dL_law_443 : decode cL_law 443 = .ok (.iload_n 3, 1) := by decide +kernel
theorem dL_law_444 : decode cL_law 444 = .ok (.iconst 2, 1) := by decide +kernel
theorem dL_law_445 : decode cL_law 445 = .ok (.iadd, 1) := by decide +kernel
theorem dL_law_446 : decode cL_law 446 = .ok (.iaload, 1) := by decide +kernel
theorem dL_law_447 : decode cL_law 447 = .ok (.invokevirtual 66, 3) := by decide +kernel
theorem dL_law_450 : decode cL_law 450 = .ok (.aload_n 2, 1) := by decide +kernel
theorem dL_law_451 : decode cL_law 451 = .ok (.aload_n 0, 1) := by decide +kernel
theorem dL_law_452 : decode cL_law 452 = .ok (.iload_n 3, 1) := by decide +kernel
theorem dL_law_453 : decode cL_law 453 = .ok (.iconst 1, 1) := by decide +kernel
theorem dL_law_454 : decode cL_law 454 = .ok (.iadd, 1) := by decide +kernel
theorem dL_law_455 : decode cL_law 455 = .ok (.iaload, 1) := by decide +kernel
theorem dL_law_456 : decode cL_law 456 = .ok (.aload_n 0, 1) := by decide +kernel
theorem dL_law_457 : decode cL_law 457 = .ok (.iload_n 3, 1) := by decide +kernel
theorem dL_law_458 : decode cL_law 458 = .ok (.iconst 2, 1) := by decide +kernel
theorem dL_law_459 : decode cL_law 459 = .ok (.iadd, 1) := by decide +kernel
theorem dL_law_460 : decode cL_law 460 = .ok (.iaload, 1) := by decide +kernel
theorem dL_law_461 : decode cL_law 461 = .ok (.invokevirtual 69, 3) := by decide +kernel
theorem dL_law_464 : decode cL_law 464 = .ok (.if_icmp .eq 200, 3) := by decide +kernel
theorem dL_law_467 : decode cL_law 467 = .ok (.iconst 0, 1) := by decide +kernel
theorem dL_law_468 : decode cL_law 468 = .ok (.ireturn, 1) := by decide +kernel
theorem dL_law_469 : decode cL_law 469 = .ok (.aload_n 1, 1) := by decide +kernel
theorem dL_law_470 : decode cL_law 470 = .ok (.aload_n 0, 1) := by decide +kernel
theorem dL_law_471 : decode cL_law 471 = .ok (.iload_n 3, 1) := by decide +kernel
theorem dL_law_472 : decode cL_law 472 = .ok (.iconst 1, 1) := by decide +kernel
theorem dL_law_473 : decode cL_law 473 = .ok (.iadd, 1) := by decide +kernel
theorem dL_law_474 : decode cL_law 474 = .ok (.iaload, 1) := by decide +kernel
theorem dL_law_475 : decode cL_law 475 = .ok (.aload_n 0, 1) := by decide +kernel
theorem dL_law_476 : decode cL_law 476 = .ok (.iload_n 3, 1) := by decide +kernel
theorem dL_law_477 : decode cL_law 477 = .ok (.iconst 2, 1) := by decide +kernel
theorem dL_law_478 : decode cL_law 478 = .ok (.iadd, 1) := by decide +kernel
theorem dL_law_479 : decode cL_law 479 = .ok (.iaload, 1) := by decide +kernel
theorem dL_law_480 : decode cL_law 480 = .ok (.aload_n 0, 1) := by decide +kernel
theorem dL_law_481 : decode cL_law 481 = .ok (.iload_n 3, 1) := by decide +kernel
theorem dL_law_482 : decode cL_law 482 = .ok (.iconst 3, 1) := by decide +kernel
theorem dL_law_483 : decode cL_law 483 = .ok (.iadd, 1) := by decide +kernel
theorem dL_law_484 : decode cL_law 484 = .ok (.iaload, 1) := by decide +kernel
theorem dL_law_485 : decode cL_law 485 = .ok (.invokevirtual 70, 3) := by decide +kernel
theorem dL_law_488 : decode cL_law 488 = .ok (.aload_n 2, 1) := by decide +kernel
theorem dL_law_489 : decode cL_law 489 = .ok (.aload_n 0, 1) := by decide +kernel
theorem dL_law_490 : decode cL_law 490 = .ok (.iload_n 3, 1) := by decide +kernel
theorem dL_law_491 : decode cL_law 491 = .ok (.iconst 1, 1) := by decide +kernel
theorem dL_law_492 : decode cL_law 492 = .ok (.iadd, 1) := by decide +kernel
theorem dL_law_493 : decode cL_law 493 = .ok (.iaload, 1) := by decide +kernel
theorem dL_law_494 : decode cL_law 494 = .ok (.aload_n 0, 1) := by decide +kernel
theorem dL_law_495 : decode cL_law 495 = .ok (.iload_n 3, 1) := by decide +kernel
theorem dL_law_496 : decode cL_law 496 = .ok (.iconst 2, 1) := by decide +kernel
theorem dL_law_497 : decode cL_law 497 = .ok (.iadd, 1) := by decide +kernel
theorem dL_law_498 : decode cL_law 498 = .ok (.iaload, 1) := by decide +kernel
theorem dL_law_499 : decode cL_law 499 = .ok (.aload_n 0, 1) := by decide +kernel
theorem dL_law_500 : decode cL_law 500 = .ok (.iload_n 3, 1) := by decide +kernel
theorem dL_law_501 : decode cL_law 501 = .ok (.iconst 3, 1) := by decide +kernel
theorem dL_law_502 : decode cL_law 502 = .ok (.iadd, 1) := by decide +kernel
theorem dL_law_503 : decode cL_law 503 = .ok (.iaload, 1) := by decide +kernel
theorem dL_law_504 : decode cL_law 504 = .ok (.invokevirtual 73, 3) := by decide +kernel
theorem dL_law_507 : decode cL_law 507 = .ok (.if_icmp .eq 157, 3) := by decide +kernel
theorem dL_law_510 : decode cL_law 510 = .ok (.iconst 0, 1) := by decide +kernel
theorem dL_law_511 : decode cL_law 511 = .ok (.ireturn, 1) := by decide +kernel
theorem dL_law_512 : decode cL_law 512 = .ok (.aload_n 1, 1) := by decide +kernel
theorem dL_law_513 : decode cL_law 513 = .ok (.aload_n 0, 1) := by decide +kernel
theorem dL_law_514 : decode cL_law 514 = .ok (.iload_n 3, 1) := by decide +kernel
theorem dL_law_515 : decode cL_law 515 = .ok (.iconst 1, 1) := by decide +kernel
theorem dL_law_516 : decode cL_law 516 = .ok (.iadd, 1) := by decide +kernel
theorem dL_law_517 : decode cL_law 517 = .ok (.iaload, 1) := by decide +kernel
theorem dL_law_518 : decode cL_law 518 = .ok (.aload_n 0, 1) := by decide +kernel
theorem dL_law_519 : decode cL_law 519 = .ok (.iload_n 3, 1) := by decide +kernel
theorem dL_law_520 : decode cL_law 520 = .ok (.iconst 2, 1) := by decide +kernel
theorem dL_law_521 : decode cL_law 521 = .ok (.iadd, 1) := by decide +kernel
theorem dL_law_522 : decode cL_law 522 = .ok (.iaload, 1) := by decide +kernel
theorem dL_law_523 : decode cL_law 523 = .ok (.invokevirtual 74, 3) := by decide +kernel
theorem dL_law_526 : decode cL_law 526 = .ok (.aload_n 2, 1) := by decide +kernel
theorem dL_law_527 : decode cL_law 527 = .ok (.aload_n 0, 1) := by decide +kernel
theorem dL_law_528 : decode cL_law 528 = .ok (.iload_n 3, 1) := by decide +kernel
theorem dL_law_529 : decode cL_law 529 = .ok (.iconst 1, 1) := by decide +kernel
theorem dL_law_530 : decode cL_law 530 = .ok (.iadd, 1) := by decide +kernel
theorem dL_law_531 : decode cL_law 531 = .ok (.iaload, 1) := by decide +kernel
theorem dL_law_532 : decode cL_law 532 = .ok (.aload_n 0, 1) := by decide +kernel
theorem dL_law_533 : decode cL_law 533 = .ok (.iload_n 3, 1) := by decide +kernel
theorem dL_law_534 : decode cL_law 534 = .ok (.iconst 2, 1) := by decide +kernel
theorem dL_law_535 : decode cL_law 535 = .ok (.iadd, 1) := by decide +kernel
theorem dL_law_536 : decode cL_law 536 = .ok (.iaload, 1) := by decide +kernel
theorem dL_law_537 : decode cL_law 537 = .ok (.invokevirtual 77, 3) := by decide +kernel
theorem dL_law_540 : decode cL_law 540 = .ok (.if_icmp .eq 124, 3) := by decide +kernel
theorem dL_law_543 : decode cL_law 543 = .ok (.iconst 0, 1) := by decide +kernel
theorem dL_law_544 : decode cL_law 544 = .ok (.ireturn, 1) := by decide +kernel
theorem dL_law_545 : decode cL_law 545 = .ok (.aload_n 1, 1) := by decide +kernel
theorem dL_law_546 : decode cL_law 546 = .ok (.aload_n 0, 1) := by decide +kernel
theorem dL_law_547 : decode cL_law 547 = .ok (.iload_n 3, 1) := by decide +kernel
theorem dL_law_548 : decode cL_law 548 = .ok (.iconst 1, 1) := by decide +kernel
theorem dL_law_549 : decode cL_law 549 = .ok (.iadd, 1) := by decide +kernel
theorem dL_law_550 : decode cL_law 550 = .ok (.iaload, 1) := by decide +kernel
theorem dL_law_551 : decode cL_law 551 = .ok (.aload_n 0, 1) := by decide +kernel
theorem dL_law_552 : decode cL_law 552 = .ok (.iload_n 3, 1) := by decide +kernel
theorem dL_law_553 : decode cL_law 553 = .ok (.iconst 2, 1) := by decide +kernel
theorem dL_law_554 : decode cL_law 554 = .ok (.iadd, 1) := by decide +kernel
theorem dL_law_555 : decode cL_law 555 = .ok (.iaload, 1) := by decide +kernel
theorem dL_law_556 : decode cL_law 556 = .ok (.aload_n 0, 1) := by decide +kernel
theorem dL_law_557 : decode cL_law 557 = .ok (.iload_n 3, 1) := by decide +kernel
theorem dL_law_558 : decode cL_law 558 = .ok (.iconst 3, 1) := by decide +kernel
theorem dL_law_559 : decode cL_law 559 = .ok (.iadd, 1) := by decide +kernel
theorem dL_law_560 : decode cL_law 560 = .ok (.iaload, 1) := by decide +kernel
theorem dL_law_561 : decode cL_law 561 = .ok (.aload_n 0, 1) := by decide +kernel
theorem dL_law_562 : decode cL_law 562 = .ok (.iload_n 3, 1) := by decide +kernel
theorem dL_law_563 : decode cL_law 563 = .ok (.iconst 4, 1) := by decide +kernel
theorem dL_law_564 : decode cL_law 564 = .ok (.iadd, 1) := by decide +kernel
theorem dL_law_565 : decode cL_law 565 = .ok (.iaload, 1) := by decide +kernel
theorem dL_law_566 : decode cL_law 566 = .ok (.invokevirtual 78, 3) := by decide +kernel
theorem dL_law_569 : decode cL_law 569 = .ok (.aload_n 2, 1) := by decide +kernel
theorem dL_law_570 : decode cL_law 570 = .ok (.aload_n 0, 1) := by decide +kernel
theorem dL_law_571 : decode cL_law 571 = .ok (.iload_n 3, 1) := by decide +kernel
theorem dL_law_572 : decode cL_law 572 = .ok (.iconst 1, 1) := by decide +kernel
theorem dL_law_573 : decode cL_law 573 = .ok (.iadd, 1) := by decide +kernel
theorem dL_law_574 : decode cL_law 574 = .ok (.iaload, 1) := by decide +kernel
theorem dL_law_575 : decode cL_law 575 = .ok (.aload_n 0, 1) := by decide +kernel
theorem dL_law_576 : decode cL_law 576 = .ok (.iload_n 3, 1) := by decide +kernel
theorem dL_law_577 : decode cL_law 577 = .ok (.iconst 2, 1) := by decide +kernel
theorem dL_law_578 : decode cL_law 578 = .ok (.iadd, 1) := by decide +kernel
theorem dL_law_579 : decode cL_law 579 = .ok (.iaload, 1) := by decide +kernel
theorem dL_law_580 : decode cL_law 580 = .ok (.aload_n 0, 1) := by decide +kernel
theorem dL_law_581 : decode cL_law 581 = .ok (.iload_n 3, 1) := by decide +kernel
theorem dL_law_582 : decode cL_law 582 = .ok (.iconst 3, 1) := by decide +kernel
theorem dL_law_583 : decode cL_law 583 = .ok (.iadd, 1) := by decide +kernel
theorem dL_law_584 : decode cL_law 584 = .ok (.iaload, 1) := by decide +kernel
theorem dL_law_585 : decode cL_law 585 = .ok (.aload_n 0, 1) := by decide +kernel
theorem dL_law_586 : decode cL_law 586 = .ok (.iload_n 3, 1) := by decide +kernel
theorem dL_law_587 : decode cL_law 587 = .ok (.iconst 4, 1) := by decide +kernel
theorem dL_law_588 : decode cL_law 588 = .ok (.iadd, 1) := by decide +kernel
theorem dL_law_589 : decode cL_law 589 = .ok (.iaload, 1) := by decide +kernel
theorem dL_law_590 : decode cL_law 590 = .ok (.invokevirtual 81, 3) := by decide +kernel
theorem dL_law_593 : decode cL_law 593 = .ok (.if_icmp .eq 71, 3) := by decide +kernel
theorem dL_law_596 : decode cL_law 596 = .ok (.iconst 0, 1) := by decide +kernel
theorem dL_law_597 : decode cL_law 597 = .ok (.ireturn, 1) := by decide +kernel
theorem dL_law_598 : decode cL_law 598 = .ok (.aload_n 1, 1) := by decide +kernel
theorem dL_law_599 : decode cL_law 599 = .ok (.aload_n 0, 1) := by decide +kernel
theorem dL_law_600 : decode cL_law 600 = .ok (.iload_n 3, 1) := by decide +kernel
theorem dL_law_601 : decode cL_law 601 = .ok (.iconst 1, 1) := by decide +kernel
theorem dL_law_602 : decode cL_law 602 = .ok (.iadd, 1) := by decide +kernel
theorem dL_law_603 : decode cL_law 603 = .ok (.iaload, 1) := by decide +kernel
theorem dL_law_604 : decode cL_law 604 = .ok (.aload_n 0, 1) := by decide +kernel
theorem dL_law_605 : decode cL_law 605 = .ok (.iload_n 3, 1) := by decide +kernel
theorem dL_law_606 : decode cL_law 606 = .ok (.iconst 2, 1) := by decide +kernel
theorem dL_law_607 : decode cL_law 607 = .ok (.iadd, 1) := by decide +kernel
theorem dL_law_608 : decode cL_law 608 = .ok (.iaload, 1) := by decide +kernel
theorem dL_law_609 : decode cL_law 609 = .ok (.aload_n 0, 1) := by decide +kernel
theorem dL_law_610 : decode cL_law 610 = .ok (.iload_n 3, 1) := by decide +kernel
theorem dL_law_611 : decode cL_law 611 = .ok (.iconst 3, 1) := by decide +kernel
theorem dL_law_612 : decode cL_law 612 = .ok (.iadd, 1) := by decide +kernel
theorem dL_law_613 : decode cL_law 613 = .ok (.iaload, 1) := by decide +kernel
theorem dL_law_614 : decode cL_law 614 = .ok (.invokevirtual 82, 3) := by decide +kernel
theorem dL_law_617 : decode cL_law 617 = .ok (.aload_n 2, 1) := by decide +kernel
theorem dL_law_618 : decode cL_law 618 = .ok (.aload_n 0, 1) := by decide +kernel
theorem dL_law_619 : decode cL_law 619 = .ok (.iload_n 3, 1) := by decide +kernel
theorem dL_law_620 : decode cL_law 620 = .ok (.iconst 1, 1) := by decide +kernel
theorem dL_law_621 : decode cL_law 621 = .ok (.iadd, 1) := by decide +kernel
theorem dL_law_622 : decode cL_law 622 = .ok (.iaload, 1) := by decide +kernel
theorem dL_law_623 : decode cL_law 623 = .ok (.aload_n 0, 1) := by decide +kernel
theorem dL_law_624 : decode cL_law 624 = .ok (.iload_n 3, 1) := by decide +kernel
theorem dL_law_625 : decode cL_law 625 = .ok (.iconst 2, 1) := by decide +kernel
theorem dL_law_626 : decode cL_law 626 = .ok (.iadd, 1) := by decide +kernel
theorem dL_law_627 : decode cL_law 627 = .ok (.iaload, 1) := by decide +kernel
theorem dL_law_628 : decode cL_law 628 = .ok (.aload_n 0, 1) := by decide +kernel
theorem dL_law_629 : decode cL_law 629 = .ok (.iload_n 3, 1) := by decide +kernel
theorem dL_law_630 : decode cL_law 630 = .ok (.iconst 3, 1) := by decide +kernel
theorem dL_law_631 : decode cL_law 631 = .ok (.iadd, 1) := by decide +kernel
theorem dL_law_632 : decode cL_law 632 = .ok (.iaload, 1) := by decide +kernel
theorem dL_law_633 : decode cL_law 633 = .ok (.invokevirtual 85, 3) := by decide +kernel
theorem dL_law_636 : decode cL_law 636 = .ok (.if_icmp .eq 28, 3) := by decide +kernel
theorem dL_law_639 : decode cL_law 639 = .ok (.iconst 0, 1) := by decide +kernel
theorem dL_law_640 : decode cL_law 640 = .ok (.ireturn, 1) := by decide +kernel
theorem dL_law_641 : decode cL_law 641 = .ok (.aload_n 1, 1) := by decide +kernel
theorem dL_law_642 : decode cL_law 642 = .ok (.aload_n 0, 1) := by decide +kernel
theorem dL_law_643 : decode cL_law 643 = .ok (.iload_n 3, 1) := by decide +kernel
theorem dL_law_644 : decode cL_law 644 = .ok (.iconst 1, 1) := by decide +kernel
theorem dL_law_645 : decode cL_law 645 = .ok (.iadd, 1) := by decide +kernel
theorem dL_law_646 : decode cL_law 646 = .ok (.iaload, 1) := by decide +kernel
theorem dL_law_647 : decode cL_law 647 = .ok (.invokevirtual 86, 3) := by decide +kernel
theorem dL_law_650 : decode cL_law 650 = .ok (.aload_n 2, 1) := by decide +kernel
theorem dL_law_651 : decode cL_law 651 = .ok (.aload_n 0, 1) := by decide +kernel
theorem dL_law_652 : decode cL_law 652 = .ok (.iload_n 3, 1) := by decide +kernel
theorem dL_law_653 : decode cL_law 653 = .ok (.iconst 1, 1) := by decide +kernel
theorem dL_law_654 : decode cL_law 654 = .ok (.iadd, 1) := by decide +kernel
theorem dL_law_655 : decode cL_law 655 = .ok (.iaload, 1) := by decide +kernel
theorem dL_law_656 : decode cL_law 656 = .ok (.invokevirtual 89, 3) := by decide +kernel
theorem dL_law_659 : decode cL_law 659 = .ok (.if_icmp .eq 5, 3) := by decide +kernel
theorem dL_law_662 : decode cL_law 662 = .ok (.iconst 0, 1) := by decide +kernel
theorem dL_law_663 : decode cL_law 663 = .ok (.ireturn, 1) := by decide +kernel
theorem dL_law_664 : decode cL_law 664 = .ok (.iinc 3 5, 3) := by decide +kernel
theorem dL_law_667 : decode cL_law 667 = .ok (.goto (-649), 3) := by decide +kernel
theorem dL_law_670 : decode cL_law 670 = .ok (.iconst 1, 1) := by decide +kernel
theorem dL_law_671 : decode cL_law 671 = .ok (.ireturn, 1) := by decide +kernel
