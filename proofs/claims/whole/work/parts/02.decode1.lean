theorem dX0_init_0 : decode cX0_init 0 = .ok (.aload_n 0, 1) := by decide +kernel
theorem dX0_init_1 : decode cX0_init 1 = .ok (.invokespecial 3, 3) := by decide +kernel
theorem dX0_init_4 : decode cX0_init 4 = .ok (.return_, 1) := by decide +kernel
theorem dX0_isLocked_0 : decode cX0_isLocked 0 = .ok (.aload_n 0, 1) := by decide +kernel
theorem dX0_isLocked_1 : decode cX0_isLocked 1 = .ok (.getfield 9, 3) := by decide +kernel
theorem dX0_isLocked_4 : decode cX0_isLocked 4 = .ok (.ifCond .eq 7, 3) := by decide +kernel
theorem dX0_isLocked_7 : decode cX0_isLocked 7 = .ok (.iconst 1, 1) := by decide +kernel
theorem dX0_isLocked_8 : decode cX0_isLocked 8 = .ok (.goto 4, 3) := by decide +kernel
theorem dX0_isLocked_11 : decode cX0_isLocked 11 = .ok (.iconst 0, 1) := by decide +kernel
theorem dX0_isLocked_12 : decode cX0_isLocked 12 = .ok (.ireturn, 1) := by decide +kernel
theorem dX0_valueOf_0 : decode cX0_valueOf 0 = .ok (.aload_n 0, 1) := by decide +kernel
theorem dX0_valueOf_1 : decode cX0_valueOf 1 = .ok (.getfield 15, 3) := by decide +kernel
theorem dX0_valueOf_4 : decode cX0_valueOf 4 = .ok (.iload_n 1, 1) := by decide +kernel
theorem dX0_valueOf_5 : decode cX0_valueOf 5 = .ok (.invokestatic 19, 3) := by decide +kernel
theorem dX0_valueOf_8 : decode cX0_valueOf 8 = .ok (.astore_n 2, 1) := by decide +kernel
theorem dX0_valueOf_9 : decode cX0_valueOf 9 = .ok (.aload_n 2, 1) := by decide +kernel
theorem dX0_valueOf_10 : decode cX0_valueOf 10 = .ok (.ifnonnull 7, 3) := by decide +kernel
theorem dX0_valueOf_13 : decode cX0_valueOf 13 = .ok (.iconst (-1), 1) := by decide +kernel
theorem dX0_valueOf_14 : decode cX0_valueOf 14 = .ok (.goto 7, 3) := by decide +kernel
theorem dX0_valueOf_17 : decode cX0_valueOf 17 = .ok (.aload_n 2, 1) := by decide +kernel
theorem dX0_valueOf_18 : decode cX0_valueOf 18 = .ok (.getfield 25, 3) := by decide +kernel
theorem dX0_valueOf_21 : decode cX0_valueOf 21 = .ok (.ireturn, 1) := by decide +kernel
theorem dX0_valueAt_0 : decode cX0_valueAt 0 = .ok (.aload_n 0, 1) := by decide +kernel
theorem dX0_valueAt_1 : decode cX0_valueAt 1 = .ok (.getfield 28, 3) := by decide +kernel
theorem dX0_valueAt_4 : decode cX0_valueAt 4 = .ok (.astore_n 2, 1) := by decide +kernel
theorem dX0_valueAt_5 : decode cX0_valueAt 5 = .ok (.aload_n 2, 1) := by decide +kernel
theorem dX0_valueAt_6 : decode cX0_valueAt 6 = .ok (.ifnull 35, 3) := by decide +kernel
theorem dX0_valueAt_9 : decode cX0_valueAt 9 = .ok (.aload_n 2, 1) := by decide +kernel
theorem dX0_valueAt_10 : decode cX0_valueAt 10 = .ok (.getfield 31, 3) := by decide +kernel
theorem dX0_valueAt_13 : decode cX0_valueAt 13 = .ok (.iload_n 1, 1) := by decide +kernel
theorem dX0_valueAt_14 : decode cX0_valueAt 14 = .ok (.if_icmp .gt 19, 3) := by decide +kernel
theorem dX0_valueAt_17 : decode cX0_valueAt 17 = .ok (.aload_n 2, 1) := by decide +kernel
theorem dX0_valueAt_18 : decode cX0_valueAt 18 = .ok (.getfield 25, 3) := by decide +kernel
theorem dX0_valueAt_21 : decode cX0_valueAt 21 = .ok (.ifCond .eq 12, 3) := by decide +kernel
theorem dX0_valueAt_24 : decode cX0_valueAt 24 = .ok (.aload_n 0, 1) := by decide +kernel
theorem dX0_valueAt_25 : decode cX0_valueAt 25 = .ok (.aload_n 2, 1) := by decide +kernel
theorem dX0_valueAt_26 : decode cX0_valueAt 26 = .ok (.getfield 25, 3) := by decide +kernel
theorem dX0_valueAt_29 : decode cX0_valueAt 29 = .ok (.invokevirtual 34, 3) := by decide +kernel
theorem dX0_valueAt_32 : decode cX0_valueAt 32 = .ok (.ireturn, 1) := by decide +kernel
theorem dX0_valueAt_33 : decode cX0_valueAt 33 = .ok (.aload_n 2, 1) := by decide +kernel
theorem dX0_valueAt_34 : decode cX0_valueAt 34 = .ok (.getfield 38, 3) := by decide +kernel
theorem dX0_valueAt_37 : decode cX0_valueAt 37 = .ok (.astore_n 2, 1) := by decide +kernel
theorem dX0_valueAt_38 : decode cX0_valueAt 38 = .ok (.goto (-33), 3) := by decide +kernel
theorem dX0_valueAt_41 : decode cX0_valueAt 41 = .ok (.iconst (-1), 1) := by decide +kernel
theorem dX0_valueAt_42 : decode cX0_valueAt 42 = .ok (.ireturn, 1) := by decide +kernel
theorem dX1_init_0 : decode cX1_init 0 = .ok (.aload_n 0, 1) := by decide +kernel
theorem dX1_init_1 : decode cX1_init 1 = .ok (.invokespecial 1, 3) := by decide +kernel
theorem dX1_init_4 : decode cX1_init 4 = .ok (.aload_n 0, 1) := by decide +kernel
theorem dX1_init_5 : decode cX1_init 5 = .ok (.iload_n 1, 1) := by decide +kernel
theorem dX1_init_6 : decode cX1_init 6 = .ok (.putfield 7, 3) := by decide +kernel
theorem dX1_init_9 : decode cX1_init 9 = .ok (.aload_n 0, 1) := by decide +kernel
theorem dX1_init_10 : decode cX1_init 10 = .ok (.iload_n 2, 1) := by decide +kernel
theorem dX1_init_11 : decode cX1_init 11 = .ok (.putfield 13, 3) := by decide +kernel
theorem dX1_init_14 : decode cX1_init 14 = .ok (.aload_n 0, 1) := by decide +kernel
theorem dX1_init_15 : decode cX1_init 15 = .ok (.aload_n 3, 1) := by decide +kernel
theorem dX1_init_16 : decode cX1_init 16 = .ok (.putfield 16, 3) := by decide +kernel
theorem dX1_init_19 : decode cX1_init 19 = .ok (.return_, 1) := by decide +kernel
theorem dX1_without_0 : decode cX1_without 0 = .ok (.aload_n 0, 1) := by decide +kernel
theorem dX1_without_1 : decode cX1_without 1 = .ok (.aload_n 1, 1) := by decide +kernel
theorem dX1_without_2 : decode cX1_without 2 = .ok (.if_acmp .ne 8, 3) := by decide +kernel
theorem dX1_without_5 : decode cX1_without 5 = .ok (.aload_n 1, 1) := by decide +kernel
theorem dX1_without_6 : decode cX1_without 6 = .ok (.getfield 16, 3) := by decide +kernel
theorem dX1_without_9 : decode cX1_without 9 = .ok (.areturn, 1) := by decide +kernel
theorem dX1_without_10 : decode cX1_without 10 = .ok (.aload_n 0, 1) := by decide +kernel
theorem dX1_without_11 : decode cX1_without 11 = .ok (.astore_n 2, 1) := by decide +kernel
theorem dX1_without_12 : decode cX1_without 12 = .ok (.aload_n 2, 1) := by decide +kernel
theorem dX1_without_13 : decode cX1_without 13 = .ok (.ifnull 29, 3) := by decide +kernel
theorem dX1_without_16 : decode cX1_without 16 = .ok (.aload_n 2, 1) := by decide +kernel
theorem dX1_without_17 : decode cX1_without 17 = .ok (.getfield 16, 3) := by decide +kernel
theorem dX1_without_20 : decode cX1_without 20 = .ok (.aload_n 1, 1) := by decide +kernel
theorem dX1_without_21 : decode cX1_without 21 = .ok (.if_acmp .ne 13, 3) := by decide +kernel
theorem dX1_without_24 : decode cX1_without 24 = .ok (.aload_n 2, 1) := by decide +kernel
theorem dX1_without_25 : decode cX1_without 25 = .ok (.aload_n 1, 1) := by decide +kernel
theorem dX1_without_26 : decode cX1_without 26 = .ok (.getfield 16, 3) := by decide +kernel
theorem dX1_without_29 : decode cX1_without 29 = .ok (.putfield 16, 3) := by decide +kernel
theorem dX1_without_32 : decode cX1_without 32 = .ok (.aload_n 0, 1) := by decide +kernel
theorem dX1_without_33 : decode cX1_without 33 = .ok (.areturn, 1) := by decide +kernel
theorem dX1_without_34 : decode cX1_without 34 = .ok (.aload_n 2, 1) := by decide +kernel
theorem dX1_without_35 : decode cX1_without 35 = .ok (.getfield 16, 3) := by decide +kernel
theorem dX1_without_38 : decode cX1_without 38 = .ok (.astore_n 2, 1) := by decide +kernel
theorem dX1_without_39 : decode cX1_without 39 = .ok (.goto (-27), 3) := by decide +kernel
theorem dX1_without_42 : decode cX1_without 42 = .ok (.aload_n 0, 1) := by decide +kernel
theorem dX1_without_43 : decode cX1_without 43 = .ok (.areturn, 1) := by decide +kernel
theorem dX1_withKey_0 : decode cX1_withKey 0 = .ok (.aload_n 0, 1) := by decide +kernel
theorem dX1_withKey_1 : decode cX1_withKey 1 = .ok (.astore_n 2, 1) := by decide +kernel
theorem dX1_withKey_2 : decode cX1_withKey 2 = .ok (.aload_n 2, 1) := by decide +kernel
theorem dX1_withKey_3 : decode cX1_withKey 3 = .ok (.ifnull 21, 3) := by decide +kernel
theorem dX1_withKey_6 : decode cX1_withKey 6 = .ok (.aload_n 2, 1) := by decide +kernel
theorem dX1_withKey_7 : decode cX1_withKey 7 = .ok (.getfield 7, 3) := by decide +kernel
theorem dX1_withKey_10 : decode cX1_withKey 10 = .ok (.iload_n 1, 1) := by decide +kernel
theorem dX1_withKey_11 : decode cX1_withKey 11 = .ok (.if_icmp .ne 5, 3) := by decide +kernel
theorem dX1_withKey_14 : decode cX1_withKey 14 = .ok (.aload_n 2, 1) := by decide +kernel
theorem dX1_withKey_15 : decode cX1_withKey 15 = .ok (.areturn, 1) := by decide +kernel
theorem dX1_withKey_16 : decode cX1_withKey 16 = .ok (.aload_n 2, 1) := by decide +kernel
theorem dX1_withKey_17 : decode cX1_withKey 17 = .ok (.getfield 16, 3) := by decide +kernel
theorem dX1_withKey_20 : decode cX1_withKey 20 = .ok (.astore_n 2, 1) := by decide +kernel
theorem dX1_withKey_21 : decode cX1_withKey 21 = .ok (.goto (-19), 3) := by decide +kernel
theorem dX1_withKey_24 : decode cX1_withKey 24 = .ok (.aconst_null, 1) := by decide +kernel
theorem dX1_withKey_25 : decode cX1_withKey 25 = .ok (.areturn, 1) := by decide +kernel
theorem dX1_withInfo_0 : decode cX1_withInfo 0 = .ok (.aload_n 0, 1) := by decide +kernel
theorem dX1_withInfo_1 : decode cX1_withInfo 1 = .ok (.astore_n 2, 1) := by decide +kernel
theorem dX1_withInfo_2 : decode cX1_withInfo 2 = .ok (.aload_n 2, 1) := by decide +kernel
theorem dX1_withInfo_3 : decode cX1_withInfo 3 = .ok (.ifnull 21, 3) := by decide +kernel
theorem dX1_withInfo_6 : decode cX1_withInfo 6 = .ok (.aload_n 2, 1) := by decide +kernel
theorem dX1_withInfo_7 : decode cX1_withInfo 7 = .ok (.getfield 13, 3) := by decide +kernel
theorem dX1_withInfo_10 : decode cX1_withInfo 10 = .ok (.iload_n 1, 1) := by decide +kernel
theorem dX1_withInfo_11 : decode cX1_withInfo 11 = .ok (.if_icmp .ne 5, 3) := by decide +kernel
theorem dX1_withInfo_14 : decode cX1_withInfo 14 = .ok (.aload_n 2, 1) := by decide +kernel
theorem dX1_withInfo_15 : decode cX1_withInfo 15 = .ok (.areturn, 1) := by decide +kernel
theorem dX1_withInfo_16 : decode cX1_withInfo 16 = .ok (.aload_n 2, 1) := by decide +kernel
theorem dX1_withInfo_17 : decode cX1_withInfo 17 = .ok (.getfield 16, 3) := by decide +kernel
theorem dX1_withInfo_20 : decode cX1_withInfo 20 = .ok (.astore_n 2, 1) := by decide +kernel
theorem dX1_withInfo_21 : decode cX1_withInfo 21 = .ok (.goto (-19), 3) := by decide +kernel
theorem dX1_withInfo_24 : decode cX1_withInfo 24 = .ok (.aconst_null, 1) := by decide +kernel
theorem dX1_withInfo_25 : decode cX1_withInfo 25 = .ok (.areturn, 1) := by decide +kernel
theorem dX1_atPlace_0 : decode cX1_atPlace 0 = .ok (.iconst 0, 1) := by decide +kernel
theorem dX1_atPlace_1 : decode cX1_atPlace 1 = .ok (.istore_n 2, 1) := by decide +kernel
theorem dX1_atPlace_2 : decode cX1_atPlace 2 = .ok (.aload_n 0, 1) := by decide +kernel
theorem dX1_atPlace_3 : decode cX1_atPlace 3 = .ok (.astore_n 3, 1) := by decide +kernel
theorem dX1_atPlace_4 : decode cX1_atPlace 4 = .ok (.aload_n 3, 1) := by decide +kernel
theorem dX1_atPlace_5 : decode cX1_atPlace 5 = .ok (.ifnull 21, 3) := by decide +kernel
theorem dX1_atPlace_8 : decode cX1_atPlace 8 = .ok (.iload_n 2, 1) := by decide +kernel
theorem dX1_atPlace_9 : decode cX1_atPlace 9 = .ok (.iload_n 1, 1) := by decide +kernel
theorem dX1_atPlace_10 : decode cX1_atPlace 10 = .ok (.if_icmp .ne 5, 3) := by decide +kernel
theorem dX1_atPlace_13 : decode cX1_atPlace 13 = .ok (.aload_n 3, 1) := by decide +kernel
theorem dX1_atPlace_14 : decode cX1_atPlace 14 = .ok (.areturn, 1) := by decide +kernel
theorem dX1_atPlace_15 : decode cX1_atPlace 15 = .ok (.iinc 2 1, 3) := by decide +kernel
theorem dX1_atPlace_18 : decode cX1_atPlace 18 = .ok (.aload_n 3, 1) := by decide +kernel
theorem dX1_atPlace_19 : decode cX1_atPlace 19 = .ok (.getfield 16, 3) := by decide +kernel
theorem dX1_atPlace_22 : decode cX1_atPlace 22 = .ok (.astore_n 3, 1) := by decide +kernel
theorem dX1_atPlace_23 : decode cX1_atPlace 23 = .ok (.goto (-19), 3) := by decide +kernel
theorem dX1_atPlace_26 : decode cX1_atPlace 26 = .ok (.aconst_null, 1) := by decide +kernel
theorem dX1_atPlace_27 : decode cX1_atPlace 27 = .ok (.areturn, 1) := by decide +kernel
theorem dX1_count_0 : decode cX1_count 0 = .ok (.iconst 0, 1) := by decide +kernel
theorem dX1_count_1 : decode cX1_count 1 = .ok (.istore_n 1, 1) := by decide +kernel
theorem dX1_count_2 : decode cX1_count 2 = .ok (.aload_n 0, 1) := by decide +kernel
theorem dX1_count_3 : decode cX1_count 3 = .ok (.astore_n 2, 1) := by decide +kernel
theorem dX1_count_4 : decode cX1_count 4 = .ok (.aload_n 2, 1) := by decide +kernel
theorem dX1_count_5 : decode cX1_count 5 = .ok (.ifnull 14, 3) := by decide +kernel
theorem dX1_count_8 : decode cX1_count 8 = .ok (.iinc 1 1, 3) := by decide +kernel
theorem dX1_count_11 : decode cX1_count 11 = .ok (.aload_n 2, 1) := by decide +kernel
theorem dX1_count_12 : decode cX1_count 12 = .ok (.getfield 16, 3) := by decide +kernel
theorem dX1_count_15 : decode cX1_count 15 = .ok (.astore_n 2, 1) := by decide +kernel
theorem dX1_count_16 : decode cX1_count 16 = .ok (.goto (-12), 3) := by decide +kernel
theorem dX1_count_19 : decode cX1_count 19 = .ok (.iload_n 1, 1) := by decide +kernel
theorem dX1_count_20 : decode cX1_count 20 = .ok (.ireturn, 1) := by decide +kernel
theorem dX2_init_0 : decode cX2_init 0 = .ok (.aload_n 0, 1) := by decide +kernel
theorem dX2_init_1 : decode cX2_init 1 = .ok (.invokespecial 3, 3) := by decide +kernel
theorem dX2_init_4 : decode cX2_init 4 = .ok (.aload_n 0, 1) := by decide +kernel
theorem dX2_init_5 : decode cX2_init 5 = .ok (.iconst 1, 1) := by decide +kernel
theorem dX2_init_6 : decode cX2_init 6 = .ok (.putfield 9, 3) := by decide +kernel
theorem dX2_init_9 : decode cX2_init 9 = .ok (.return_, 1) := by decide +kernel
theorem dX2_give_0 : decode cX2_give 0 = .ok (.aload_n 0, 1) := by decide +kernel
theorem dX2_give_1 : decode cX2_give 1 = .ok (.getfield 9, 3) := by decide +kernel
theorem dX2_give_4 : decode cX2_give 4 = .ok (.aload_n 0, 1) := by decide +kernel
theorem dX2_give_5 : decode cX2_give 5 = .ok (.getfield 15, 3) := by decide +kernel
theorem dX2_give_8 : decode cX2_give 8 = .ok (.if_icmp .le 14, 3) := by decide +kernel
theorem dX2_give_11 : decode cX2_give 11 = .ok (.aload_n 0, 1) := by decide +kernel
theorem dX2_give_12 : decode cX2_give 12 = .ok (.dup, 1) := by decide +kernel
theorem dX2_give_13 : decode cX2_give 13 = .ok (.getfield 15, 3) := by decide +kernel
theorem dX2_give_16 : decode cX2_give 16 = .ok (.bipush 16, 2) := by decide +kernel
theorem dX2_give_18 : decode cX2_give 18 = .ok (.iadd, 1) := by decide +kernel
theorem dX2_give_19 : decode cX2_give 19 = .ok (.putfield 15, 3) := by decide +kernel
theorem dX2_give_22 : decode cX2_give 22 = .ok (.aload_n 0, 1) := by decide +kernel
theorem dX2_give_23 : decode cX2_give 23 = .ok (.aload_n 0, 1) := by decide +kernel
theorem dX2_give_24 : decode cX2_give 24 = .ok (.getfield 9, 3) := by decide +kernel
theorem dX2_give_27 : decode cX2_give 27 = .ok (.putfield 18, 3) := by decide +kernel
theorem dX2_give_30 : decode cX2_give 30 = .ok (.aload_n 0, 1) := by decide +kernel
theorem dX2_give_31 : decode cX2_give 31 = .ok (.dup, 1) := by decide +kernel
theorem dX2_give_32 : decode cX2_give 32 = .ok (.getfield 9, 3) := by decide +kernel
theorem dX2_give_35 : decode cX2_give 35 = .ok (.iconst 1, 1) := by decide +kernel
theorem dX2_give_36 : decode cX2_give 36 = .ok (.iadd, 1) := by decide +kernel
theorem dX2_give_37 : decode cX2_give 37 = .ok (.putfield 9, 3) := by decide +kernel
theorem dX2_give_40 : decode cX2_give 40 = .ok (.aload_n 0, 1) := by decide +kernel
theorem dX2_give_41 : decode cX2_give 41 = .ok (.getfield 18, 3) := by decide +kernel
theorem dX2_give_44 : decode cX2_give 44 = .ok (.ireturn, 1) := by decide +kernel
theorem dX2_restart_0 : decode cX2_restart 0 = .ok (.aload_n 0, 1) := by decide +kernel
theorem dX2_restart_1 : decode cX2_restart 1 = .ok (.aload_n 0, 1) := by decide +kernel
theorem dX2_restart_2 : decode cX2_restart 2 = .ok (.getfield 15, 3) := by decide +kernel
theorem dX2_restart_5 : decode cX2_restart 5 = .ok (.iconst 1, 1) := by decide +kernel
theorem dX2_restart_6 : decode cX2_restart 6 = .ok (.iadd, 1) := by decide +kernel
theorem dX2_restart_7 : decode cX2_restart 7 = .ok (.putfield 9, 3) := by decide +kernel
theorem dX2_restart_10 : decode cX2_restart 10 = .ok (.aload_n 0, 1) := by decide +kernel
theorem dX2_restart_11 : decode cX2_restart 11 = .ok (.getfield 9, 3) := by decide +kernel
theorem dX2_restart_14 : decode cX2_restart 14 = .ok (.ireturn, 1) := by decide +kernel
theorem dX3_init_0 : decode cX3_init 0 = .ok (.aload_n 0, 1) := by decide +kernel
theorem dX3_init_1 : decode cX3_init 1 = .ok (.invokespecial 3, 3) := by decide +kernel
theorem dX3_init_4 : decode cX3_init 4 = .ok (.aload_n 0, 1) := by decide +kernel
theorem dX3_init_5 : decode cX3_init 5 = .ok (.sipush 256, 3) := by decide +kernel
theorem dX3_init_8 : decode cX3_init 8 = .ok (.anewarray 9, 3) := by decide +kernel
theorem dX3_init_11 : decode cX3_init 11 = .ok (.putfield 11, 3) := by decide +kernel
theorem dX3_init_14 : decode cX3_init 14 = .ok (.iconst 0, 1) := by decide +kernel
theorem dX3_init_15 : decode cX3_init 15 = .ok (.istore_n 1, 1) := by decide +kernel
theorem dX3_init_16 : decode cX3_init 16 = .ok (.iload_n 1, 1) := by decide +kernel
theorem dX3_init_17 : decode cX3_init 17 = .ok (.sipush 256, 3) := by decide +kernel
theorem dX3_init_20 : decode cX3_init 20 = .ok (.if_icmp .ge 22, 3) := by decide +kernel
theorem dX3_init_23 : decode cX3_init 23 = .ok (.aload_n 0, 1) := by decide +kernel
theorem dX3_init_24 : decode cX3_init 24 = .ok (.getfield 11, 3) := by decide +kernel
theorem dX3_init_27 : decode cX3_init 27 = .ok (.iload_n 1, 1) := by decide +kernel
theorem dX3_init_28 : decode cX3_init 28 = .ok (.new 9, 3) := by decide +kernel
theorem dX3_init_31 : decode cX3_init 31 = .ok (.dup, 1) := by decide +kernel
theorem dX3_init_32 : decode cX3_init 32 = .ok (.invokespecial 17, 3) := by decide +kernel
theorem dX3_init_35 : decode cX3_init 35 = .ok (.aastore, 1) := by decide +kernel
theorem dX3_init_36 : decode cX3_init 36 = .ok (.iinc 1 1, 3) := by decide +kernel
theorem dX3_init_39 : decode cX3_init 39 = .ok (.goto (-23), 3) := by decide +kernel
theorem dX3_init_42 : decode cX3_init 42 = .ok (.return_, 1) := by decide +kernel
theorem dX3_addData_0 : decode cX3_addData 0 = .ok (.aload_n 1, 1) := by decide +kernel
theorem dX3_addData_1 : decode cX3_addData 1 = .ok (.new 18, 3) := by decide +kernel
theorem dX3_addData_4 : decode cX3_addData 4 = .ok (.dup, 1) := by decide +kernel
theorem dX3_addData_5 : decode cX3_addData 5 = .ok (.iload_n 2, 1) := by decide +kernel
theorem dX3_addData_6 : decode cX3_addData 6 = .ok (.iload_n 3, 1) := by decide +kernel
theorem dX3_addData_7 : decode cX3_addData 7 = .ok (.aload_n 1, 1) := by decide +kernel
theorem dX3_addData_8 : decode cX3_addData 8 = .ok (.getfield 20, 3) := by decide +kernel
theorem dX3_addData_11 : decode cX3_addData 11 = .ok (.invokespecial 24, 3) := by decide +kernel
theorem dX3_addData_14 : decode cX3_addData 14 = .ok (.putfield 20, 3) := by decide +kernel
theorem dX3_addData_17 : decode cX3_addData 17 = .ok (.aload_n 0, 1) := by decide +kernel
theorem dX3_addData_18 : decode cX3_addData 18 = .ok (.iconst 1, 1) := by decide +kernel
theorem dX3_addData_19 : decode cX3_addData 19 = .ok (.invokevirtual 27, 3) := by decide +kernel
theorem dX3_addData_22 : decode cX3_addData 22 = .ok (.return_, 1) := by decide +kernel
theorem dX3_dropData_0 : decode cX3_dropData 0 = .ok (.aload_n 1, 1) := by decide +kernel
theorem dX3_dropData_1 : decode cX3_dropData 1 = .ok (.getfield 20, 3) := by decide +kernel
theorem dX3_dropData_4 : decode cX3_dropData 4 = .ok (.iload_n 2, 1) := by decide +kernel
theorem dX3_dropData_5 : decode cX3_dropData 5 = .ok (.invokestatic 31, 3) := by decide +kernel
theorem dX3_dropData_8 : decode cX3_dropData 8 = .ok (.astore_n 3, 1) := by decide +kernel
theorem dX3_dropData_9 : decode cX3_dropData 9 = .ok (.aload_n 3, 1) := by decide +kernel
theorem dX3_dropData_10 : decode cX3_dropData 10 = .ok (.ifnull 20, 3) := by decide +kernel
theorem dX3_dropData_13 : decode cX3_dropData 13 = .ok (.aload_n 1, 1) := by decide +kernel
theorem dX3_dropData_14 : decode cX3_dropData 14 = .ok (.aload_n 1, 1) := by decide +kernel
theorem dX3_dropData_15 : decode cX3_dropData 15 = .ok (.getfield 20, 3) := by decide +kernel
theorem dX3_dropData_18 : decode cX3_dropData 18 = .ok (.aload_n 3, 1) := by decide +kernel
theorem dX3_dropData_19 : decode cX3_dropData 19 = .ok (.invokestatic 35, 3) := by decide +kernel
theorem dX3_dropData_22 : decode cX3_dropData 22 = .ok (.putfield 20, 3) := by decide +kernel
theorem dX3_dropData_25 : decode cX3_dropData 25 = .ok (.aload_n 0, 1) := by decide +kernel
theorem dX3_dropData_26 : decode cX3_dropData 26 = .ok (.iconst (-1), 1) := by decide +kernel
theorem dX3_dropData_27 : decode cX3_dropData 27 = .ok (.invokevirtual 27, 3) := by decide +kernel
theorem dX3_dropData_30 : decode cX3_dropData 30 = .ok (.return_, 1) := by decide +kernel
theorem dX3_addWrite_0 : decode cX3_addWrite 0 = .ok (.aload_n 1, 1) := by decide +kernel
theorem dX3_addWrite_1 : decode cX3_addWrite 1 = .ok (.new 18, 3) := by decide +kernel
theorem dX3_addWrite_4 : decode cX3_addWrite 4 = .ok (.dup, 1) := by decide +kernel
theorem dX3_addWrite_5 : decode cX3_addWrite 5 = .ok (.iload_n 2, 1) := by decide +kernel
theorem dX3_addWrite_6 : decode cX3_addWrite 6 = .ok (.iload_n 3, 1) := by decide +kernel
theorem dX3_addWrite_7 : decode cX3_addWrite 7 = .ok (.aload_n 1, 1) := by decide +kernel
theorem dX3_addWrite_8 : decode cX3_addWrite 8 = .ok (.getfield 39, 3) := by decide +kernel
theorem dX3_addWrite_11 : decode cX3_addWrite 11 = .ok (.invokespecial 24, 3) := by decide +kernel
theorem dX3_addWrite_14 : decode cX3_addWrite 14 = .ok (.putfield 39, 3) := by decide +kernel
theorem dX3_addWrite_17 : decode cX3_addWrite 17 = .ok (.aload_n 0, 1) := by decide +kernel
theorem dX3_addWrite_18 : decode cX3_addWrite 18 = .ok (.iconst 1, 1) := by decide +kernel
theorem dX3_addWrite_19 : decode cX3_addWrite 19 = .ok (.invokevirtual 27, 3) := by decide +kernel
theorem dX3_addWrite_22 : decode cX3_addWrite 22 = .ok (.return_, 1) := by decide +kernel
theorem dX3_dropWrite_0 : decode cX3_dropWrite 0 = .ok (.aload_n 1, 1) := by decide +kernel
theorem dX3_dropWrite_1 : decode cX3_dropWrite 1 = .ok (.aload_n 1, 1) := by decide +kernel
theorem dX3_dropWrite_2 : decode cX3_dropWrite 2 = .ok (.getfield 39, 3) := by decide +kernel
theorem dX3_dropWrite_5 : decode cX3_dropWrite 5 = .ok (.aload_n 2, 1) := by decide +kernel
theorem dX3_dropWrite_6 : decode cX3_dropWrite 6 = .ok (.invokestatic 35, 3) := by decide +kernel
theorem dX3_dropWrite_9 : decode cX3_dropWrite 9 = .ok (.putfield 39, 3) := by decide +kernel
theorem dX3_dropWrite_12 : decode cX3_dropWrite 12 = .ok (.aload_n 0, 1) := by decide +kernel
theorem dX3_dropWrite_13 : decode cX3_dropWrite 13 = .ok (.iconst (-1), 1) := by decide +kernel
theorem dX3_dropWrite_14 : decode cX3_dropWrite 14 = .ok (.invokevirtual 27, 3) := by decide +kernel
theorem dX3_dropWrite_17 : decode cX3_dropWrite 17 = .ok (.return_, 1) := by decide +kernel
theorem dX3_addLock_0 : decode cX3_addLock 0 = .ok (.aload_n 1, 1) := by decide +kernel
theorem dX3_addLock_1 : decode cX3_addLock 1 = .ok (.iload_n 2, 1) := by decide +kernel
theorem dX3_addLock_2 : decode cX3_addLock 2 = .ok (.putfield 42, 3) := by decide +kernel
theorem dX3_addLock_5 : decode cX3_addLock 5 = .ok (.aload_n 1, 1) := by decide +kernel
theorem dX3_addLock_6 : decode cX3_addLock 6 = .ok (.iload_n 3, 1) := by decide +kernel
theorem dX3_addLock_7 : decode cX3_addLock 7 = .ok (.putfield 46, 3) := by decide +kernel
theorem dX3_addLock_10 : decode cX3_addLock 10 = .ok (.aload_n 1, 1) := by decide +kernel
theorem dX3_addLock_11 : decode cX3_addLock 11 = .ok (.iload 4, 2) := by decide +kernel
theorem dX3_addLock_13 : decode cX3_addLock 13 = .ok (.putfield 49, 3) := by decide +kernel
theorem dX3_addLock_16 : decode cX3_addLock 16 = .ok (.aload_n 0, 1) := by decide +kernel
theorem dX3_addLock_17 : decode cX3_addLock 17 = .ok (.iconst 2, 1) := by decide +kernel
theorem dX3_addLock_18 : decode cX3_addLock 18 = .ok (.invokevirtual 27, 3) := by decide +kernel
theorem dX3_addLock_21 : decode cX3_addLock 21 = .ok (.return_, 1) := by decide +kernel
theorem dX3_dropLock_0 : decode cX3_dropLock 0 = .ok (.aload_n 1, 1) := by decide +kernel
theorem dX3_dropLock_1 : decode cX3_dropLock 1 = .ok (.iconst 0, 1) := by decide +kernel
theorem dX3_dropLock_2 : decode cX3_dropLock 2 = .ok (.putfield 42, 3) := by decide +kernel
theorem dX3_dropLock_5 : decode cX3_dropLock 5 = .ok (.aload_n 1, 1) := by decide +kernel
theorem dX3_dropLock_6 : decode cX3_dropLock 6 = .ok (.iconst 0, 1) := by decide +kernel
theorem dX3_dropLock_7 : decode cX3_dropLock 7 = .ok (.putfield 46, 3) := by decide +kernel
theorem dX3_dropLock_10 : decode cX3_dropLock 10 = .ok (.aload_n 1, 1) := by decide +kernel
theorem dX3_dropLock_11 : decode cX3_dropLock 11 = .ok (.iconst 0, 1) := by decide +kernel
theorem dX3_dropLock_12 : decode cX3_dropLock 12 = .ok (.putfield 49, 3) := by decide +kernel
theorem dX3_dropLock_15 : decode cX3_dropLock 15 = .ok (.aload_n 0, 1) := by decide +kernel
theorem dX3_dropLock_16 : decode cX3_dropLock 16 = .ok (.bipush (-2), 2) := by decide +kernel
theorem dX3_dropLock_18 : decode cX3_dropLock 18 = .ok (.invokevirtual 27, 3) := by decide +kernel
theorem dX3_dropLock_21 : decode cX3_dropLock 21 = .ok (.return_, 1) := by decide +kernel
theorem dX3_addLine_0 : decode cX3_addLine 0 = .ok (.aload_n 0, 1) := by decide +kernel
theorem dX3_addLine_1 : decode cX3_addLine 1 = .ok (.dup, 1) := by decide +kernel
theorem dX3_addLine_2 : decode cX3_addLine 2 = .ok (.getfield 52, 3) := by decide +kernel
theorem dX3_addLine_5 : decode cX3_addLine 5 = .ok (.iload_n 1, 1) := by decide +kernel
theorem dX3_addLine_6 : decode cX3_addLine 6 = .ok (.iadd, 1) := by decide +kernel
theorem dX3_addLine_7 : decode cX3_addLine 7 = .ok (.putfield 52, 3) := by decide +kernel
theorem dX3_addLine_10 : decode cX3_addLine 10 = .ok (.aload_n 0, 1) := by decide +kernel
theorem dX3_addLine_11 : decode cX3_addLine 11 = .ok (.dup, 1) := by decide +kernel
theorem dX3_addLine_12 : decode cX3_addLine 12 = .ok (.getfield 55, 3) := by decide +kernel
theorem dX3_addLine_15 : decode cX3_addLine 15 = .ok (.iconst 1, 1) := by decide +kernel
theorem dX3_addLine_16 : decode cX3_addLine 16 = .ok (.iadd, 1) := by decide +kernel
theorem dX3_addLine_17 : decode cX3_addLine 17 = .ok (.putfield 55, 3) := by decide +kernel
theorem dX3_addLine_20 : decode cX3_addLine 20 = .ok (.return_, 1) := by decide +kernel
theorem dX3_putDownLog_0 : decode cX3_putDownLog 0 = .ok (.aload_n 0, 1) := by decide +kernel
theorem dX3_putDownLog_1 : decode cX3_putDownLog 1 = .ok (.getfield 55, 3) := by decide +kernel
theorem dX3_putDownLog_4 : decode cX3_putDownLog 4 = .ok (.bipush 64, 2) := by decide +kernel
theorem dX3_putDownLog_6 : decode cX3_putDownLog 6 = .ok (.if_icmp .ge 4, 3) := by decide +kernel
theorem dX3_putDownLog_9 : decode cX3_putDownLog 9 = .ok (.return_, 1) := by decide +kernel
theorem dX3_putDownLog_10 : decode cX3_putDownLog 10 = .ok (.aload_n 0, 1) := by decide +kernel
theorem dX3_putDownLog_11 : decode cX3_putDownLog 11 = .ok (.iconst 0, 1) := by decide +kernel
theorem dX3_putDownLog_12 : decode cX3_putDownLog 12 = .ok (.putfield 55, 3) := by decide +kernel
theorem dX3_putDownLog_15 : decode cX3_putDownLog 15 = .ok (.aload_n 0, 1) := by decide +kernel
theorem dX3_putDownLog_16 : decode cX3_putDownLog 16 = .ok (.dup, 1) := by decide +kernel
theorem dX3_putDownLog_17 : decode cX3_putDownLog 17 = .ok (.getfield 58, 3) := by decide +kernel
theorem dX3_putDownLog_20 : decode cX3_putDownLog 20 = .ok (.iconst 1, 1) := by decide +kernel
theorem dX3_putDownLog_21 : decode cX3_putDownLog 21 = .ok (.iadd, 1) := by decide +kernel
theorem dX3_putDownLog_22 : decode cX3_putDownLog 22 = .ok (.putfield 58, 3) := by decide +kernel
theorem dX3_putDownLog_25 : decode cX3_putDownLog 25 = .ok (.aload_n 0, 1) := by decide +kernel
theorem dX3_putDownLog_26 : decode cX3_putDownLog 26 = .ok (.getfield 58, 3) := by decide +kernel
theorem dX3_putDownLog_29 : decode cX3_putDownLog 29 = .ok (.iconst 4, 1) := by decide +kernel
theorem dX3_putDownLog_30 : decode cX3_putDownLog 30 = .ok (.if_icmp .ne 18, 3) := by decide +kernel
theorem dX3_putDownLog_33 : decode cX3_putDownLog 33 = .ok (.aload_n 0, 1) := by decide +kernel
theorem dX3_putDownLog_34 : decode cX3_putDownLog 34 = .ok (.iconst 1, 1) := by decide +kernel
theorem dX3_putDownLog_35 : decode cX3_putDownLog 35 = .ok (.putfield 58, 3) := by decide +kernel
theorem dX3_putDownLog_38 : decode cX3_putDownLog 38 = .ok (.aload_n 0, 1) := by decide +kernel
theorem dX3_putDownLog_39 : decode cX3_putDownLog 39 = .ok (.dup, 1) := by decide +kernel
theorem dX3_putDownLog_40 : decode cX3_putDownLog 40 = .ok (.getfield 61, 3) := by decide +kernel
theorem dX3_putDownLog_43 : decode cX3_putDownLog 43 = .ok (.iconst 1, 1) := by decide +kernel
theorem dX3_putDownLog_44 : decode cX3_putDownLog 44 = .ok (.iadd, 1) := by decide +kernel
theorem dX3_putDownLog_45 : decode cX3_putDownLog 45 = .ok (.putfield 61, 3) := by decide +kernel
theorem dX3_putDownLog_48 : decode cX3_putDownLog 48 = .ok (.return_, 1) := by decide +kernel
theorem dX3_isDecided_0 : decode cX3_isDecided 0 = .ok (.aload_n 0, 1) := by decide +kernel
theorem dX3_isDecided_1 : decode cX3_isDecided 1 = .ok (.getfield 11, 3) := by decide +kernel
theorem dX3_isDecided_4 : decode cX3_isDecided 4 = .ok (.aload_n 1, 1) := by decide +kernel
theorem dX3_isDecided_5 : decode cX3_isDecided 5 = .ok (.getfield 46, 3) := by decide +kernel
theorem dX3_isDecided_8 : decode cX3_isDecided 8 = .ok (.aaload, 1) := by decide +kernel
theorem dX3_isDecided_9 : decode cX3_isDecided 9 = .ok (.getfield 42, 3) := by decide +kernel
theorem dX3_isDecided_12 : decode cX3_isDecided 12 = .ok (.aload_n 1, 1) := by decide +kernel
theorem dX3_isDecided_13 : decode cX3_isDecided 13 = .ok (.getfield 42, 3) := by decide +kernel
theorem dX3_isDecided_16 : decode cX3_isDecided 16 = .ok (.if_icmp .eq 7, 3) := by decide +kernel
theorem dX3_isDecided_19 : decode cX3_isDecided 19 = .ok (.iconst 1, 1) := by decide +kernel
theorem dX3_isDecided_20 : decode cX3_isDecided 20 = .ok (.goto 4, 3) := by decide +kernel
theorem dX3_isDecided_23 : decode cX3_isDecided 23 = .ok (.iconst 0, 1) := by decide +kernel
theorem dX3_isDecided_24 : decode cX3_isDecided 24 = .ok (.ireturn, 1) := by decide +kernel
theorem dX3_clean_0 : decode cX3_clean 0 = .ok (.aload_n 0, 1) := by decide +kernel
theorem dX3_clean_1 : decode cX3_clean 1 = .ok (.dup, 1) := by decide +kernel
theorem dX3_clean_2 : decode cX3_clean 2 = .ok (.getfield 64, 3) := by decide +kernel
theorem dX3_clean_5 : decode cX3_clean 5 = .ok (.iconst 1, 1) := by decide +kernel
theorem dX3_clean_6 : decode cX3_clean 6 = .ok (.iadd, 1) := by decide +kernel
theorem dX3_clean_7 : decode cX3_clean 7 = .ok (.putfield 64, 3) := by decide +kernel
theorem dX3_clean_10 : decode cX3_clean 10 = .ok (.aload_n 0, 1) := by decide +kernel
theorem dX3_clean_11 : decode cX3_clean 11 = .ok (.getfield 11, 3) := by decide +kernel
theorem dX3_clean_14 : decode cX3_clean 14 = .ok (.aload_n 1, 1) := by decide +kernel
theorem dX3_clean_15 : decode cX3_clean 15 = .ok (.getfield 46, 3) := by decide +kernel
theorem dX3_clean_18 : decode cX3_clean 18 = .ok (.aaload, 1) := by decide +kernel
theorem dX3_clean_19 : decode cX3_clean 19 = .ok (.astore_n 2, 1) := by decide +kernel
theorem dX3_clean_20 : decode cX3_clean 20 = .ok (.aload_n 0, 1) := by decide +kernel
theorem dX3_clean_21 : decode cX3_clean 21 = .ok (.aload_n 1, 1) := by decide +kernel
theorem dX3_clean_22 : decode cX3_clean 22 = .ok (.invokevirtual 67, 3) := by decide +kernel
theorem dX3_clean_25 : decode cX3_clean 25 = .ok (.ifCond .ne 10, 3) := by decide +kernel
theorem dX3_clean_28 : decode cX3_clean 28 = .ok (.aload_n 0, 1) := by decide +kernel
theorem dX3_clean_29 : decode cX3_clean 29 = .ok (.aload_n 2, 1) := by decide +kernel
theorem dX3_clean_30 : decode cX3_clean 30 = .ok (.iconst 1, 1) := by decide +kernel
theorem dX3_clean_31 : decode cX3_clean 31 = .ok (.invokevirtual 71, 3) := by decide +kernel
theorem dX3_clean_34 : decode cX3_clean 34 = .ok (.return_, 1) := by decide +kernel
theorem dX3_clean_35 : decode cX3_clean 35 = .ok (.aload_n 2, 1) := by decide +kernel
theorem dX3_clean_36 : decode cX3_clean 36 = .ok (.getfield 39, 3) := by decide +kernel
theorem dX3_clean_39 : decode cX3_clean 39 = .ok (.aload_n 1, 1) := by decide +kernel
theorem dX3_clean_40 : decode cX3_clean 40 = .ok (.getfield 42, 3) := by decide +kernel
theorem dX3_clean_43 : decode cX3_clean 43 = .ok (.invokestatic 75, 3) := by decide +kernel
theorem dX3_clean_46 : decode cX3_clean 46 = .ok (.astore_n 3, 1) := by decide +kernel
theorem dX3_clean_47 : decode cX3_clean 47 = .ok (.aload_n 3, 1) := by decide +kernel
theorem dX3_clean_48 : decode cX3_clean 48 = .ok (.ifnonnull 10, 3) := by decide +kernel
theorem dX3_clean_51 : decode cX3_clean 51 = .ok (.aload_n 0, 1) := by decide +kernel
theorem dX3_clean_52 : decode cX3_clean 52 = .ok (.aload_n 1, 1) := by decide +kernel
theorem dX3_clean_53 : decode cX3_clean 53 = .ok (.iconst 0, 1) := by decide +kernel
theorem dX3_clean_54 : decode cX3_clean 54 = .ok (.invokevirtual 71, 3) := by decide +kernel
theorem dX3_clean_57 : decode cX3_clean 57 = .ok (.return_, 1) := by decide +kernel
theorem dX3_clean_58 : decode cX3_clean 58 = .ok (.aload_n 0, 1) := by decide +kernel
theorem dX3_clean_59 : decode cX3_clean 59 = .ok (.aload_n 1, 1) := by decide +kernel
theorem dX3_clean_60 : decode cX3_clean 60 = .ok (.aload_n 3, 1) := by decide +kernel
theorem dX3_clean_61 : decode cX3_clean 61 = .ok (.getfield 78, 3) := by decide +kernel
theorem dX3_clean_64 : decode cX3_clean 64 = .ok (.aload_n 1, 1) := by decide +kernel
theorem dX3_clean_65 : decode cX3_clean 65 = .ok (.getfield 42, 3) := by decide +kernel
theorem dX3_clean_68 : decode cX3_clean 68 = .ok (.invokevirtual 81, 3) := by decide +kernel
theorem dX3_clean_71 : decode cX3_clean 71 = .ok (.aload_n 0, 1) := by decide +kernel
theorem dX3_clean_72 : decode cX3_clean 72 = .ok (.aload_n 1, 1) := by decide +kernel
theorem dX3_clean_73 : decode cX3_clean 73 = .ok (.invokevirtual 85, 3) := by decide +kernel
theorem dX3_clean_76 : decode cX3_clean 76 = .ok (.return_, 1) := by decide +kernel
theorem dX3_undo_0 : decode cX3_undo 0 = .ok (.aload_n 1, 1) := by decide +kernel
theorem dX3_undo_1 : decode cX3_undo 1 = .ok (.getfield 42, 3) := by decide +kernel
theorem dX3_undo_4 : decode cX3_undo 4 = .ok (.istore_n 3, 1) := by decide +kernel
theorem dX3_undo_5 : decode cX3_undo 5 = .ok (.aload_n 0, 1) := by decide +kernel
theorem dX3_undo_6 : decode cX3_undo 6 = .ok (.aload_n 1, 1) := by decide +kernel
theorem dX3_undo_7 : decode cX3_undo 7 = .ok (.invokevirtual 85, 3) := by decide +kernel
theorem dX3_undo_10 : decode cX3_undo 10 = .ok (.aload_n 0, 1) := by decide +kernel
theorem dX3_undo_11 : decode cX3_undo 11 = .ok (.aload_n 1, 1) := by decide +kernel
theorem dX3_undo_12 : decode cX3_undo 12 = .ok (.iload_n 3, 1) := by decide +kernel
theorem dX3_undo_13 : decode cX3_undo 13 = .ok (.invokevirtual 89, 3) := by decide +kernel
theorem dX3_undo_16 : decode cX3_undo 16 = .ok (.iload_n 2, 1) := by decide +kernel
theorem dX3_undo_17 : decode cX3_undo 17 = .ok (.ifCond .eq 10, 3) := by decide +kernel
theorem dX3_undo_20 : decode cX3_undo 20 = .ok (.aload_n 0, 1) := by decide +kernel
theorem dX3_undo_21 : decode cX3_undo 21 = .ok (.aload_n 1, 1) := by decide +kernel
theorem dX3_undo_22 : decode cX3_undo 22 = .ok (.iload_n 3, 1) := by decide +kernel
theorem dX3_undo_23 : decode cX3_undo 23 = .ok (.iconst 0, 1) := by decide +kernel
theorem dX3_undo_24 : decode cX3_undo 24 = .ok (.invokevirtual 81, 3) := by decide +kernel
theorem dX3_undo_27 : decode cX3_undo 27 = .ok (.return_, 1) := by decide +kernel
theorem dX3_hasLockNotAbove_0 : decode cX3_hasLockNotAbove 0 = .ok (.iconst 0, 1) := by decide +kernel
theorem dX3_hasLockNotAbove_1 : decode cX3_hasLockNotAbove 1 = .ok (.istore_n 2, 1) := by decide +kernel
theorem dX3_hasLockNotAbove_2 : decode cX3_hasLockNotAbove 2 = .ok (.iload_n 2, 1) := by decide +kernel
theorem dX3_hasLockNotAbove_3 : decode cX3_hasLockNotAbove 3 = .ok (.sipush 256, 3) := by decide +kernel
theorem dX3_hasLockNotAbove_6 : decode cX3_hasLockNotAbove 6 = .ok (.if_icmp .ge 36, 3) := by decide +kernel
theorem dX3_hasLockNotAbove_9 : decode cX3_hasLockNotAbove 9 = .ok (.aload_n 0, 1) := by decide +kernel
theorem dX3_hasLockNotAbove_10 : decode cX3_hasLockNotAbove 10 = .ok (.getfield 11, 3) := by decide +kernel
theorem dX3_hasLockNotAbove_13 : decode cX3_hasLockNotAbove 13 = .ok (.iload_n 2, 1) := by decide +kernel
theorem dX3_hasLockNotAbove_14 : decode cX3_hasLockNotAbove 14 = .ok (.aaload, 1) := by decide +kernel
theorem dX3_hasLockNotAbove_15 : decode cX3_hasLockNotAbove 15 = .ok (.invokevirtual 93, 3) := by decide +kernel
theorem dX3_hasLockNotAbove_18 : decode cX3_hasLockNotAbove 18 = .ok (.ifCond .eq 18, 3) := by decide +kernel
theorem dX3_hasLockNotAbove_21 : decode cX3_hasLockNotAbove 21 = .ok (.aload_n 0, 1) := by decide +kernel
theorem dX3_hasLockNotAbove_22 : decode cX3_hasLockNotAbove 22 = .ok (.getfield 11, 3) := by decide +kernel
theorem dX3_hasLockNotAbove_25 : decode cX3_hasLockNotAbove 25 = .ok (.iload_n 2, 1) := by decide +kernel
theorem dX3_hasLockNotAbove_26 : decode cX3_hasLockNotAbove 26 = .ok (.aaload, 1) := by decide +kernel
theorem dX3_hasLockNotAbove_27 : decode cX3_hasLockNotAbove 27 = .ok (.getfield 42, 3) := by decide +kernel
theorem dX3_hasLockNotAbove_30 : decode cX3_hasLockNotAbove 30 = .ok (.iload_n 1, 1) := by decide +kernel
theorem dX3_hasLockNotAbove_31 : decode cX3_hasLockNotAbove 31 = .ok (.if_icmp .gt 5, 3) := by decide +kernel
theorem dX3_hasLockNotAbove_34 : decode cX3_hasLockNotAbove 34 = .ok (.iconst 1, 1) := by decide +kernel
theorem dX3_hasLockNotAbove_35 : decode cX3_hasLockNotAbove 35 = .ok (.ireturn, 1) := by decide +kernel
theorem dX3_hasLockNotAbove_36 : decode cX3_hasLockNotAbove 36 = .ok (.iinc 2 1, 3) := by decide +kernel
theorem dX3_hasLockNotAbove_39 : decode cX3_hasLockNotAbove 39 = .ok (.goto (-37), 3) := by decide +kernel
theorem dX3_hasLockNotAbove_42 : decode cX3_hasLockNotAbove 42 = .ok (.iconst 0, 1) := by decide +kernel
theorem dX3_hasLockNotAbove_43 : decode cX3_hasLockNotAbove 43 = .ok (.ireturn, 1) := by decide +kernel
theorem dX3_dropUnseen_0 : decode cX3_dropUnseen 0 = .ok (.aload_n 0, 1) := by decide +kernel
theorem dX3_dropUnseen_1 : decode cX3_dropUnseen 1 = .ok (.getfield 52, 3) := by decide +kernel
theorem dX3_dropUnseen_4 : decode cX3_dropUnseen 4 = .ok (.istore_n 2, 1) := by decide +kernel
theorem dX3_dropUnseen_5 : decode cX3_dropUnseen 5 = .ok (.iconst 0, 1) := by decide +kernel
theorem dX3_dropUnseen_6 : decode cX3_dropUnseen 6 = .ok (.istore_n 3, 1) := by decide +kernel
theorem dX3_dropUnseen_7 : decode cX3_dropUnseen 7 = .ok (.iload_n 3, 1) := by decide +kernel
theorem dX3_dropUnseen_8 : decode cX3_dropUnseen 8 = .ok (.sipush 256, 3) := by decide +kernel
theorem dX3_dropUnseen_11 : decode cX3_dropUnseen 11 = .ok (.if_icmp .ge 20, 3) := by decide +kernel
theorem dX3_dropUnseen_14 : decode cX3_dropUnseen 14 = .ok (.aload_n 0, 1) := by decide +kernel
theorem dX3_dropUnseen_15 : decode cX3_dropUnseen 15 = .ok (.aload_n 0, 1) := by decide +kernel
theorem dX3_dropUnseen_16 : decode cX3_dropUnseen 16 = .ok (.getfield 11, 3) := by decide +kernel
theorem dX3_dropUnseen_19 : decode cX3_dropUnseen 19 = .ok (.iload_n 3, 1) := by decide +kernel
theorem dX3_dropUnseen_20 : decode cX3_dropUnseen 20 = .ok (.aaload, 1) := by decide +kernel
theorem dX3_dropUnseen_21 : decode cX3_dropUnseen 21 = .ok (.iload_n 1, 1) := by decide +kernel
theorem dX3_dropUnseen_22 : decode cX3_dropUnseen 22 = .ok (.invokevirtual 97, 3) := by decide +kernel
theorem dX3_dropUnseen_25 : decode cX3_dropUnseen 25 = .ok (.iinc 3 1, 3) := by decide +kernel
theorem dX3_dropUnseen_28 : decode cX3_dropUnseen 28 = .ok (.goto (-21), 3) := by decide +kernel
theorem dX3_dropUnseen_31 : decode cX3_dropUnseen 31 = .ok (.iload_n 2, 1) := by decide +kernel
theorem dX3_dropUnseen_32 : decode cX3_dropUnseen 32 = .ok (.aload_n 0, 1) := by decide +kernel
theorem dX3_dropUnseen_33 : decode cX3_dropUnseen 33 = .ok (.getfield 52, 3) := by decide +kernel
theorem dX3_dropUnseen_36 : decode cX3_dropUnseen 36 = .ok (.isub, 1) := by decide +kernel
theorem dX3_dropUnseen_37 : decode cX3_dropUnseen 37 = .ok (.ireturn, 1) := by decide +kernel
theorem dX3_dropUnseenOf_0 : decode cX3_dropUnseenOf 0 = .ok (.iconst 0, 1) := by decide +kernel
theorem dX3_dropUnseenOf_1 : decode cX3_dropUnseenOf 1 = .ok (.istore_n 3, 1) := by decide +kernel
theorem dX3_dropUnseenOf_2 : decode cX3_dropUnseenOf 2 = .ok (.aload_n 1, 1) := by decide +kernel
theorem dX3_dropUnseenOf_3 : decode cX3_dropUnseenOf 3 = .ok (.getfield 39, 3) := by decide +kernel
theorem dX3_dropUnseenOf_6 : decode cX3_dropUnseenOf 6 = .ok (.astore 4, 2) := by decide +kernel
theorem dX3_dropUnseenOf_8 : decode cX3_dropUnseenOf 8 = .ok (.aload 4, 2) := by decide +kernel
theorem dX3_dropUnseenOf_10 : decode cX3_dropUnseenOf 10 = .ok (.ifnull 84, 3) := by decide +kernel
theorem dX3_dropUnseenOf_13 : decode cX3_dropUnseenOf 13 = .ok (.aload 4, 2) := by decide +kernel
theorem dX3_dropUnseenOf_15 : decode cX3_dropUnseenOf 15 = .ok (.getfield 78, 3) := by decide +kernel
theorem dX3_dropUnseenOf_18 : decode cX3_dropUnseenOf 18 = .ok (.iload_n 2, 1) := by decide +kernel
theorem dX3_dropUnseenOf_19 : decode cX3_dropUnseenOf 19 = .ok (.if_icmp .le 6, 3) := by decide +kernel
theorem dX3_dropUnseenOf_22 : decode cX3_dropUnseenOf 22 = .ok (.goto 62, 3) := by decide +kernel
theorem dX3_dropUnseenOf_25 : decode cX3_dropUnseenOf 25 = .ok (.aload 4, 2) := by decide +kernel
theorem dX3_dropUnseenOf_27 : decode cX3_dropUnseenOf 27 = .ok (.getfield 100, 3) := by decide +kernel
theorem dX3_dropUnseenOf_30 : decode cX3_dropUnseenOf 30 = .ok (.ifCond .ne 13, 3) := by decide +kernel
theorem dX3_dropUnseenOf_33 : decode cX3_dropUnseenOf 33 = .ok (.aload_n 0, 1) := by decide +kernel
theorem dX3_dropUnseenOf_34 : decode cX3_dropUnseenOf 34 = .ok (.aload_n 1, 1) := by decide +kernel
theorem dX3_dropUnseenOf_35 : decode cX3_dropUnseenOf 35 = .ok (.aload 4, 2) := by decide +kernel
theorem dX3_dropUnseenOf_37 : decode cX3_dropUnseenOf 37 = .ok (.invokevirtual 103, 3) := by decide +kernel
theorem dX3_dropUnseenOf_40 : decode cX3_dropUnseenOf 40 = .ok (.goto 44, 3) := by decide +kernel
theorem dX3_dropUnseenOf_43 : decode cX3_dropUnseenOf 43 = .ok (.iload_n 3, 1) := by decide +kernel
theorem dX3_dropUnseenOf_44 : decode cX3_dropUnseenOf 44 = .ok (.ifCond .ne 16, 3) := by decide +kernel
theorem dX3_dropUnseenOf_47 : decode cX3_dropUnseenOf 47 = .ok (.aload_n 1, 1) := by decide +kernel
theorem dX3_dropUnseenOf_48 : decode cX3_dropUnseenOf 48 = .ok (.aload 4, 2) := by decide +kernel
theorem dX3_dropUnseenOf_50 : decode cX3_dropUnseenOf 50 = .ok (.getfield 100, 3) := by decide +kernel
theorem dX3_dropUnseenOf_53 : decode cX3_dropUnseenOf 53 = .ok (.invokevirtual 107, 3) := by decide +kernel
theorem dX3_dropUnseenOf_56 : decode cX3_dropUnseenOf 56 = .ok (.iconst (-1), 1) := by decide +kernel
theorem dX3_dropUnseenOf_57 : decode cX3_dropUnseenOf 57 = .ok (.if_icmp .ne 25, 3) := by decide +kernel
theorem dX3_dropUnseenOf_60 : decode cX3_dropUnseenOf 60 = .ok (.iconst 1, 1) := by decide +kernel
theorem dX3_dropUnseenOf_61 : decode cX3_dropUnseenOf 61 = .ok (.istore_n 3, 1) := by decide +kernel
theorem dX3_dropUnseenOf_62 : decode cX3_dropUnseenOf 62 = .ok (.aload_n 0, 1) := by decide +kernel
theorem dX3_dropUnseenOf_63 : decode cX3_dropUnseenOf 63 = .ok (.aload_n 1, 1) := by decide +kernel
theorem dX3_dropUnseenOf_64 : decode cX3_dropUnseenOf 64 = .ok (.aload 4, 2) := by decide +kernel
theorem dX3_dropUnseenOf_66 : decode cX3_dropUnseenOf 66 = .ok (.invokevirtual 103, 3) := by decide +kernel
theorem dX3_dropUnseenOf_69 : decode cX3_dropUnseenOf 69 = .ok (.aload_n 0, 1) := by decide +kernel
theorem dX3_dropUnseenOf_70 : decode cX3_dropUnseenOf 70 = .ok (.aload_n 1, 1) := by decide +kernel
theorem dX3_dropUnseenOf_71 : decode cX3_dropUnseenOf 71 = .ok (.aload 4, 2) := by decide +kernel
theorem dX3_dropUnseenOf_73 : decode cX3_dropUnseenOf 73 = .ok (.getfield 100, 3) := by decide +kernel
theorem dX3_dropUnseenOf_76 : decode cX3_dropUnseenOf 76 = .ok (.invokevirtual 89, 3) := by decide +kernel
theorem dX3_dropUnseenOf_79 : decode cX3_dropUnseenOf 79 = .ok (.goto 5, 3) := by decide +kernel
theorem dX3_dropUnseenOf_82 : decode cX3_dropUnseenOf 82 = .ok (.iconst 1, 1) := by decide +kernel
theorem dX3_dropUnseenOf_83 : decode cX3_dropUnseenOf 83 = .ok (.istore_n 3, 1) := by decide +kernel
theorem dX3_dropUnseenOf_84 : decode cX3_dropUnseenOf 84 = .ok (.aload 4, 2) := by decide +kernel
theorem dX3_dropUnseenOf_86 : decode cX3_dropUnseenOf 86 = .ok (.getfield 111, 3) := by decide +kernel
theorem dX3_dropUnseenOf_89 : decode cX3_dropUnseenOf 89 = .ok (.astore 4, 2) := by decide +kernel
theorem dX3_dropUnseenOf_91 : decode cX3_dropUnseenOf 91 = .ok (.goto (-83), 3) := by decide +kernel
theorem dX3_dropUnseenOf_94 : decode cX3_dropUnseenOf 94 = .ok (.return_, 1) := by decide +kernel
theorem dX4_init_0 : decode cX4_init 0 = .ok (.aload_n 0, 1) := by decide +kernel
theorem dX4_init_1 : decode cX4_init 1 = .ok (.invokespecial 3, 3) := by decide +kernel
theorem dX4_init_4 : decode cX4_init 4 = .ok (.aload_n 0, 1) := by decide +kernel
theorem dX4_init_5 : decode cX4_init 5 = .ok (.bipush 16, 2) := by decide +kernel
theorem dX4_init_7 : decode cX4_init 7 = .ok (.newarray .int, 2) := by decide +kernel
theorem dX4_init_9 : decode cX4_init 9 = .ok (.putfield 9, 3) := by decide +kernel
theorem dX4_init_12 : decode cX4_init 12 = .ok (.aload_n 0, 1) := by decide +kernel
theorem dX4_init_13 : decode cX4_init 13 = .ok (.bipush 16, 2) := by decide +kernel
theorem dX4_init_15 : decode cX4_init 15 = .ok (.newarray .int, 2) := by decide +kernel
theorem dX4_init_17 : decode cX4_init 17 = .ok (.putfield 15, 3) := by decide +kernel
theorem dX4_init_20 : decode cX4_init 20 = .ok (.aload_n 0, 1) := by decide +kernel
theorem dX4_init_21 : decode cX4_init 21 = .ok (.bipush 16, 2) := by decide +kernel
theorem dX4_init_23 : decode cX4_init 23 = .ok (.newarray .int, 2) := by decide +kernel
theorem dX4_init_25 : decode cX4_init 25 = .ok (.putfield 18, 3) := by decide +kernel
theorem dX4_init_28 : decode cX4_init 28 = .ok (.return_, 1) := by decide +kernel
theorem dX4_open_0 : decode cX4_open 0 = .ok (.aload_n 0, 1) := by decide +kernel
theorem dX4_open_1 : decode cX4_open 1 = .ok (.iconst 1, 1) := by decide +kernel
theorem dX4_open_2 : decode cX4_open 2 = .ok (.putfield 21, 3) := by decide +kernel
theorem dX4_open_5 : decode cX4_open 5 = .ok (.aload_n 0, 1) := by decide +kernel
theorem dX4_open_6 : decode cX4_open 6 = .ok (.iload_n 1, 1) := by decide +kernel
theorem dX4_open_7 : decode cX4_open 7 = .ok (.putfield 25, 3) := by decide +kernel
theorem dX4_open_10 : decode cX4_open 10 = .ok (.aload_n 0, 1) := by decide +kernel
theorem dX4_open_11 : decode cX4_open 11 = .ok (.iload_n 2, 1) := by decide +kernel
theorem dX4_open_12 : decode cX4_open 12 = .ok (.putfield 28, 3) := by decide +kernel
theorem dX4_open_15 : decode cX4_open 15 = .ok (.return_, 1) := by decide +kernel
theorem dX4_end_0 : decode cX4_end 0 = .ok (.aload_n 0, 1) := by decide +kernel
theorem dX4_end_1 : decode cX4_end 1 = .ok (.iconst 0, 1) := by decide +kernel
theorem dX4_end_2 : decode cX4_end 2 = .ok (.putfield 21, 3) := by decide +kernel
theorem dX4_end_5 : decode cX4_end 5 = .ok (.aload_n 0, 1) := by decide +kernel
theorem dX4_end_6 : decode cX4_end 6 = .ok (.iconst 0, 1) := by decide +kernel
theorem dX4_end_7 : decode cX4_end 7 = .ok (.putfield 25, 3) := by decide +kernel
theorem dX4_end_10 : decode cX4_end 10 = .ok (.aload_n 0, 1) := by decide +kernel
theorem dX4_end_11 : decode cX4_end 11 = .ok (.iconst 0, 1) := by decide +kernel
theorem dX4_end_12 : decode cX4_end 12 = .ok (.putfield 28, 3) := by decide +kernel
theorem dX4_end_15 : decode cX4_end 15 = .ok (.aload_n 0, 1) := by decide +kernel
theorem dX4_end_16 : decode cX4_end 16 = .ok (.iconst 0, 1) := by decide +kernel
theorem dX4_end_17 : decode cX4_end 17 = .ok (.putfield 31, 3) := by decide +kernel
theorem dX4_end_20 : decode cX4_end 20 = .ok (.aload_n 0, 1) := by decide +kernel
theorem dX4_end_21 : decode cX4_end 21 = .ok (.iconst 0, 1) := by decide +kernel
theorem dX4_end_22 : decode cX4_end 22 = .ok (.putfield 34, 3) := by decide +kernel
theorem dX4_end_25 : decode cX4_end 25 = .ok (.aload_n 0, 1) := by decide +kernel
theorem dX4_end_26 : decode cX4_end 26 = .ok (.iconst 0, 1) := by decide +kernel
theorem dX4_end_27 : decode cX4_end 27 = .ok (.putfield 37, 3) := by decide +kernel
theorem dX4_end_30 : decode cX4_end 30 = .ok (.aload_n 0, 1) := by decide +kernel
theorem dX4_end_31 : decode cX4_end 31 = .ok (.iconst 0, 1) := by decide +kernel
theorem dX4_end_32 : decode cX4_end 32 = .ok (.putfield 40, 3) := by decide +kernel
theorem dX4_end_35 : decode cX4_end 35 = .ok (.return_, 1) := by decide +kernel
theorem dX4_touch_0 : decode cX4_touch 0 = .ok (.aload_n 0, 1) := by decide +kernel
theorem dX4_touch_1 : decode cX4_touch 1 = .ok (.getfield 21, 3) := by decide +kernel
theorem dX4_touch_4 : decode cX4_touch 4 = .ok (.ifCond .eq 8, 3) := by decide +kernel
theorem dX4_touch_7 : decode cX4_touch 7 = .ok (.aload_n 0, 1) := by decide +kernel
theorem dX4_touch_8 : decode cX4_touch 8 = .ok (.iload_n 1, 1) := by decide +kernel
theorem dX4_touch_9 : decode cX4_touch 9 = .ok (.putfield 28, 3) := by decide +kernel
theorem dX4_touch_12 : decode cX4_touch 12 = .ok (.return_, 1) := by decide +kernel
theorem dX4_placeOf_0 : decode cX4_placeOf 0 = .ok (.iconst 0, 1) := by decide +kernel
theorem dX4_placeOf_1 : decode cX4_placeOf 1 = .ok (.istore_n 2, 1) := by decide +kernel
theorem dX4_placeOf_2 : decode cX4_placeOf 2 = .ok (.iload_n 2, 1) := by decide +kernel
theorem dX4_placeOf_3 : decode cX4_placeOf 3 = .ok (.aload_n 0, 1) := by decide +kernel
theorem dX4_placeOf_4 : decode cX4_placeOf 4 = .ok (.getfield 34, 3) := by decide +kernel
theorem dX4_placeOf_7 : decode cX4_placeOf 7 = .ok (.if_icmp .ge 21, 3) := by decide +kernel
theorem dX4_placeOf_10 : decode cX4_placeOf 10 = .ok (.aload_n 0, 1) := by decide +kernel
theorem dX4_placeOf_11 : decode cX4_placeOf 11 = .ok (.getfield 9, 3) := by decide +kernel
theorem dX4_placeOf_14 : decode cX4_placeOf 14 = .ok (.iload_n 2, 1) := by decide +kernel
theorem dX4_placeOf_15 : decode cX4_placeOf 15 = .ok (.iaload, 1) := by decide +kernel
theorem dX4_placeOf_16 : decode cX4_placeOf 16 = .ok (.iload_n 1, 1) := by decide +kernel
theorem dX4_placeOf_17 : decode cX4_placeOf 17 = .ok (.if_icmp .ne 5, 3) := by decide +kernel
theorem dX4_placeOf_20 : decode cX4_placeOf 20 = .ok (.iload_n 2, 1) := by decide +kernel
theorem dX4_placeOf_21 : decode cX4_placeOf 21 = .ok (.ireturn, 1) := by decide +kernel
theorem dX4_placeOf_22 : decode cX4_placeOf 22 = .ok (.iinc 2 1, 3) := by decide +kernel
theorem dX4_placeOf_25 : decode cX4_placeOf 25 = .ok (.goto (-23), 3) := by decide +kernel
theorem dX4_placeOf_28 : decode cX4_placeOf 28 = .ok (.iconst (-1), 1) := by decide +kernel
theorem dX4_placeOf_29 : decode cX4_placeOf 29 = .ok (.ireturn, 1) := by decide +kernel
theorem dX4_put_0 : decode cX4_put 0 = .ok (.aload_n 0, 1) := by decide +kernel
theorem dX4_put_1 : decode cX4_put 1 = .ok (.iload_n 1, 1) := by decide +kernel
theorem dX4_put_2 : decode cX4_put 2 = .ok (.invokevirtual 43, 3) := by decide +kernel
theorem dX4_put_5 : decode cX4_put 5 = .ok (.istore_n 3, 1) := by decide +kernel
theorem dX4_put_6 : decode cX4_put 6 = .ok (.iload_n 3, 1) := by decide +kernel
theorem dX4_put_7 : decode cX4_put 7 = .ok (.ifCond .lt 12, 3) := by decide +kernel
theorem dX4_put_10 : decode cX4_put 10 = .ok (.aload_n 0, 1) := by decide +kernel
theorem dX4_put_11 : decode cX4_put 11 = .ok (.getfield 15, 3) := by decide +kernel
theorem dX4_put_14 : decode cX4_put 14 = .ok (.iload_n 3, 1) := by decide +kernel
theorem dX4_put_15 : decode cX4_put 15 = .ok (.iload_n 2, 1) := by decide +kernel
theorem dX4_put_16 : decode cX4_put 16 = .ok (.iastore, 1) := by decide +kernel
theorem dX4_put_17 : decode cX4_put 17 = .ok (.iconst 1, 1) := by decide +kernel
theorem dX4_put_18 : decode cX4_put 18 = .ok (.ireturn, 1) := by decide +kernel
theorem dX4_put_19 : decode cX4_put 19 = .ok (.aload_n 0, 1) := by decide +kernel
theorem dX4_put_20 : decode cX4_put 20 = .ok (.getfield 34, 3) := by decide +kernel
theorem dX4_put_23 : decode cX4_put 23 = .ok (.bipush 16, 2) := by decide +kernel
theorem dX4_put_25 : decode cX4_put 25 = .ok (.if_icmp .lt 5, 3) := by decide +kernel
theorem dX4_put_28 : decode cX4_put 28 = .ok (.iconst 0, 1) := by decide +kernel
theorem dX4_put_29 : decode cX4_put 29 = .ok (.ireturn, 1) := by decide +kernel
theorem dX4_put_30 : decode cX4_put 30 = .ok (.aload_n 0, 1) := by decide +kernel
theorem dX4_put_31 : decode cX4_put 31 = .ok (.getfield 9, 3) := by decide +kernel
theorem dX4_put_34 : decode cX4_put 34 = .ok (.aload_n 0, 1) := by decide +kernel
theorem dX4_put_35 : decode cX4_put 35 = .ok (.getfield 34, 3) := by decide +kernel
theorem dX4_put_38 : decode cX4_put 38 = .ok (.iload_n 1, 1) := by decide +kernel
theorem dX4_put_39 : decode cX4_put 39 = .ok (.iastore, 1) := by decide +kernel
theorem dX4_put_40 : decode cX4_put 40 = .ok (.aload_n 0, 1) := by decide +kernel
theorem dX4_put_41 : decode cX4_put 41 = .ok (.getfield 15, 3) := by decide +kernel
theorem dX4_put_44 : decode cX4_put 44 = .ok (.aload_n 0, 1) := by decide +kernel
theorem dX4_put_45 : decode cX4_put 45 = .ok (.getfield 34, 3) := by decide +kernel
theorem dX4_put_48 : decode cX4_put 48 = .ok (.iload_n 2, 1) := by decide +kernel
theorem dX4_put_49 : decode cX4_put 49 = .ok (.iastore, 1) := by decide +kernel
theorem dX4_put_50 : decode cX4_put 50 = .ok (.aload_n 0, 1) := by decide +kernel
theorem dX4_put_51 : decode cX4_put 51 = .ok (.dup, 1) := by decide +kernel
theorem dX4_put_52 : decode cX4_put 52 = .ok (.getfield 34, 3) := by decide +kernel
theorem dX4_put_55 : decode cX4_put 55 = .ok (.iconst 1, 1) := by decide +kernel
theorem dX4_put_56 : decode cX4_put 56 = .ok (.iadd, 1) := by decide +kernel
theorem dX4_put_57 : decode cX4_put 57 = .ok (.putfield 34, 3) := by decide +kernel
theorem dX4_put_60 : decode cX4_put 60 = .ok (.aload_n 0, 1) := by decide +kernel
theorem dX4_put_61 : decode cX4_put 61 = .ok (.iload_n 1, 1) := by decide +kernel
theorem dX4_put_62 : decode cX4_put 62 = .ok (.iconst 4, 1) := by decide +kernel
theorem dX4_put_63 : decode cX4_put 63 = .ok (.idiv, 1) := by decide +kernel
theorem dX4_put_64 : decode cX4_put 64 = .ok (.invokevirtual 47, 3) := by decide +kernel
theorem dX4_put_67 : decode cX4_put 67 = .ok (.iconst 1, 1) := by decide +kernel
theorem dX4_put_68 : decode cX4_put 68 = .ok (.ireturn, 1) := by decide +kernel
theorem dX4_putRow_0 : decode cX4_putRow 0 = .ok (.iconst 0, 1) := by decide +kernel
theorem dX4_putRow_1 : decode cX4_putRow 1 = .ok (.istore_n 2, 1) := by decide +kernel
theorem dX4_putRow_2 : decode cX4_putRow 2 = .ok (.iload_n 2, 1) := by decide +kernel
theorem dX4_putRow_3 : decode cX4_putRow 3 = .ok (.aload_n 0, 1) := by decide +kernel
theorem dX4_putRow_4 : decode cX4_putRow 4 = .ok (.getfield 37, 3) := by decide +kernel
theorem dX4_putRow_7 : decode cX4_putRow 7 = .ok (.if_icmp .ge 20, 3) := by decide +kernel
theorem dX4_putRow_10 : decode cX4_putRow 10 = .ok (.aload_n 0, 1) := by decide +kernel
theorem dX4_putRow_11 : decode cX4_putRow 11 = .ok (.getfield 18, 3) := by decide +kernel
theorem dX4_putRow_14 : decode cX4_putRow 14 = .ok (.iload_n 2, 1) := by decide +kernel
theorem dX4_putRow_15 : decode cX4_putRow 15 = .ok (.iaload, 1) := by decide +kernel
theorem dX4_putRow_16 : decode cX4_putRow 16 = .ok (.iload_n 1, 1) := by decide +kernel
theorem dX4_putRow_17 : decode cX4_putRow 17 = .ok (.if_icmp .ne 4, 3) := by decide +kernel
theorem dX4_putRow_20 : decode cX4_putRow 20 = .ok (.return_, 1) := by decide +kernel
theorem dX4_putRow_21 : decode cX4_putRow 21 = .ok (.iinc 2 1, 3) := by decide +kernel
theorem dX4_putRow_24 : decode cX4_putRow 24 = .ok (.goto (-22), 3) := by decide +kernel
theorem dX4_putRow_27 : decode cX4_putRow 27 = .ok (.aload_n 0, 1) := by decide +kernel
theorem dX4_putRow_28 : decode cX4_putRow 28 = .ok (.getfield 37, 3) := by decide +kernel
theorem dX4_putRow_31 : decode cX4_putRow 31 = .ok (.bipush 16, 2) := by decide +kernel
theorem dX4_putRow_33 : decode cX4_putRow 33 = .ok (.if_icmp .ge 23, 3) := by decide +kernel
theorem dX4_putRow_36 : decode cX4_putRow 36 = .ok (.aload_n 0, 1) := by decide +kernel
theorem dX4_putRow_37 : decode cX4_putRow 37 = .ok (.getfield 18, 3) := by decide +kernel
theorem dX4_putRow_40 : decode cX4_putRow 40 = .ok (.aload_n 0, 1) := by decide +kernel
theorem dX4_putRow_41 : decode cX4_putRow 41 = .ok (.getfield 37, 3) := by decide +kernel
theorem dX4_putRow_44 : decode cX4_putRow 44 = .ok (.iload_n 1, 1) := by decide +kernel
theorem dX4_putRow_45 : decode cX4_putRow 45 = .ok (.iastore, 1) := by decide +kernel
theorem dX4_putRow_46 : decode cX4_putRow 46 = .ok (.aload_n 0, 1) := by decide +kernel
theorem dX4_putRow_47 : decode cX4_putRow 47 = .ok (.dup, 1) := by decide +kernel
theorem dX4_putRow_48 : decode cX4_putRow 48 = .ok (.getfield 37, 3) := by decide +kernel
theorem dX4_putRow_51 : decode cX4_putRow 51 = .ok (.iconst 1, 1) := by decide +kernel
theorem dX4_putRow_52 : decode cX4_putRow 52 = .ok (.iadd, 1) := by decide +kernel
theorem dX4_putRow_53 : decode cX4_putRow 53 = .ok (.putfield 37, 3) := by decide +kernel
theorem dX4_putRow_56 : decode cX4_putRow 56 = .ok (.return_, 1) := by decide +kernel
theorem dX4_hasLockIn_0 : decode cX4_hasLockIn 0 = .ok (.aload_n 1, 1) := by decide +kernel
theorem dX4_hasLockIn_1 : decode cX4_hasLockIn 1 = .ok (.getfield 51, 3) := by decide +kernel
theorem dX4_hasLockIn_4 : decode cX4_hasLockIn 4 = .ok (.aload_n 0, 1) := by decide +kernel
theorem dX4_hasLockIn_5 : decode cX4_hasLockIn 5 = .ok (.getfield 25, 3) := by decide +kernel
theorem dX4_hasLockIn_8 : decode cX4_hasLockIn 8 = .ok (.if_icmp .ne 7, 3) := by decide +kernel
theorem dX4_hasLockIn_11 : decode cX4_hasLockIn 11 = .ok (.iconst 1, 1) := by decide +kernel
theorem dX4_hasLockIn_12 : decode cX4_hasLockIn 12 = .ok (.goto 4, 3) := by decide +kernel
theorem dX4_hasLockIn_15 : decode cX4_hasLockIn 15 = .ok (.iconst 0, 1) := by decide +kernel
theorem dX4_hasLockIn_16 : decode cX4_hasLockIn 16 = .ok (.ireturn, 1) := by decide +kernel
theorem dX5_init_0 : decode cX5_init 0 = .ok (.aload_n 0, 1) := by decide +kernel
theorem dX5_init_1 : decode cX5_init 1 = .ok (.invokespecial 1, 3) := by decide +kernel
theorem dX5_init_4 : decode cX5_init 4 = .ok (.aload_n 0, 1) := by decide +kernel
theorem dX5_init_5 : decode cX5_init 5 = .ok (.new 7, 3) := by decide +kernel
theorem dX5_init_8 : decode cX5_init 8 = .ok (.dup, 1) := by decide +kernel
theorem dX5_init_9 : decode cX5_init 9 = .ok (.invokespecial 9, 3) := by decide +kernel
theorem dX5_init_12 : decode cX5_init 12 = .ok (.putfield 10, 3) := by decide +kernel
theorem dX5_init_15 : decode cX5_init 15 = .ok (.aload_n 0, 1) := by decide +kernel
theorem dX5_init_16 : decode cX5_init 16 = .ok (.new 16, 3) := by decide +kernel
theorem dX5_init_19 : decode cX5_init 19 = .ok (.dup, 1) := by decide +kernel
theorem dX5_init_20 : decode cX5_init 20 = .ok (.invokespecial 18, 3) := by decide +kernel
theorem dX5_init_23 : decode cX5_init 23 = .ok (.putfield 19, 3) := by decide +kernel
theorem dX5_init_26 : decode cX5_init 26 = .ok (.aload_n 0, 1) := by decide +kernel
theorem dX5_init_27 : decode cX5_init 27 = .ok (.bipush 8, 2) := by decide +kernel
theorem dX5_init_29 : decode cX5_init 29 = .ok (.anewarray 23, 3) := by decide +kernel
theorem dX5_init_32 : decode cX5_init 32 = .ok (.putfield 25, 3) := by decide +kernel
theorem dX5_init_35 : decode cX5_init 35 = .ok (.iconst 0, 1) := by decide +kernel
theorem dX5_init_36 : decode cX5_init 36 = .ok (.istore_n 1, 1) := by decide +kernel
theorem dX5_init_37 : decode cX5_init 37 = .ok (.iload_n 1, 1) := by decide +kernel
theorem dX5_init_38 : decode cX5_init 38 = .ok (.bipush 8, 2) := by decide +kernel
theorem dX5_init_40 : decode cX5_init 40 = .ok (.if_icmp .ge 22, 3) := by decide +kernel
theorem dX5_init_43 : decode cX5_init 43 = .ok (.aload_n 0, 1) := by decide +kernel
theorem dX5_init_44 : decode cX5_init 44 = .ok (.getfield 25, 3) := by decide +kernel
theorem dX5_init_47 : decode cX5_init 47 = .ok (.iload_n 1, 1) := by decide +kernel
theorem dX5_init_48 : decode cX5_init 48 = .ok (.new 23, 3) := by decide +kernel
theorem dX5_init_51 : decode cX5_init 51 = .ok (.dup, 1) := by decide +kernel
theorem dX5_init_52 : decode cX5_init 52 = .ok (.invokespecial 29, 3) := by decide +kernel
theorem dX5_init_55 : decode cX5_init 55 = .ok (.aastore, 1) := by decide +kernel
theorem dX5_init_56 : decode cX5_init 56 = .ok (.iinc 1 1, 3) := by decide +kernel
theorem dX5_init_59 : decode cX5_init 59 = .ok (.goto (-22), 3) := by decide +kernel
theorem dX5_init_62 : decode cX5_init 62 = .ok (.aload_n 0, 1) := by decide +kernel
theorem dX5_init_63 : decode cX5_init 63 = .ok (.bipush 10, 2) := by decide +kernel
theorem dX5_init_65 : decode cX5_init 65 = .ok (.putfield 30, 3) := by decide +kernel
theorem dX5_init_68 : decode cX5_init 68 = .ok (.return_, 1) := by decide +kernel
theorem dX5_begin_0 : decode cX5_begin 0 = .ok (.iload_n 1, 1) := by decide +kernel
theorem dX5_begin_1 : decode cX5_begin 1 = .ok (.invokestatic 34, 3) := by decide +kernel
theorem dX5_begin_4 : decode cX5_begin 4 = .ok (.ifCond .ne 5, 3) := by decide +kernel
theorem dX5_begin_7 : decode cX5_begin 7 = .ok (.iconst (-1), 1) := by decide +kernel
theorem dX5_begin_8 : decode cX5_begin 8 = .ok (.ireturn, 1) := by decide +kernel
theorem dX5_begin_9 : decode cX5_begin 9 = .ok (.aload_n 0, 1) := by decide +kernel
theorem dX5_begin_10 : decode cX5_begin 10 = .ok (.getfield 25, 3) := by decide +kernel
theorem dX5_begin_13 : decode cX5_begin 13 = .ok (.iload_n 1, 1) := by decide +kernel
theorem dX5_begin_14 : decode cX5_begin 14 = .ok (.aaload, 1) := by decide +kernel
theorem dX5_begin_15 : decode cX5_begin 15 = .ok (.astore_n 2, 1) := by decide +kernel
theorem dX5_begin_16 : decode cX5_begin 16 = .ok (.aload_n 2, 1) := by decide +kernel
theorem dX5_begin_17 : decode cX5_begin 17 = .ok (.getfield 38, 3) := by decide +kernel
theorem dX5_begin_20 : decode cX5_begin 20 = .ok (.ifCond .eq 14, 3) := by decide +kernel
theorem dX5_begin_23 : decode cX5_begin 23 = .ok (.aload_n 2, 1) := by decide +kernel
theorem dX5_begin_24 : decode cX5_begin 24 = .ok (.aload_n 0, 1) := by decide +kernel
theorem dX5_begin_25 : decode cX5_begin 25 = .ok (.getfield 41, 3) := by decide +kernel
theorem dX5_begin_28 : decode cX5_begin 28 = .ok (.invokevirtual 44, 3) := by decide +kernel
theorem dX5_begin_31 : decode cX5_begin 31 = .ok (.bipush (-3), 2) := by decide +kernel
theorem dX5_begin_33 : decode cX5_begin 33 = .ok (.ireturn, 1) := by decide +kernel
theorem dX5_begin_34 : decode cX5_begin 34 = .ok (.aload_n 2, 1) := by decide +kernel
theorem dX5_begin_35 : decode cX5_begin 35 = .ok (.aload_n 0, 1) := by decide +kernel
theorem dX5_begin_36 : decode cX5_begin 36 = .ok (.getfield 19, 3) := by decide +kernel
theorem dX5_begin_39 : decode cX5_begin 39 = .ok (.invokevirtual 48, 3) := by decide +kernel
theorem dX5_begin_42 : decode cX5_begin 42 = .ok (.aload_n 0, 1) := by decide +kernel
theorem dX5_begin_43 : decode cX5_begin 43 = .ok (.getfield 41, 3) := by decide +kernel
theorem dX5_begin_46 : decode cX5_begin 46 = .ok (.invokevirtual 52, 3) := by decide +kernel
theorem dX5_begin_49 : decode cX5_begin 49 = .ok (.aload_n 2, 1) := by decide +kernel
theorem dX5_begin_50 : decode cX5_begin 50 = .ok (.getfield 56, 3) := by decide +kernel
theorem dX5_begin_53 : decode cX5_begin 53 = .ok (.ireturn, 1) := by decide +kernel
theorem dX5_read_0 : decode cX5_read 0 = .ok (.iload_n 1, 1) := by decide +kernel
theorem dX5_read_1 : decode cX5_read 1 = .ok (.invokestatic 34, 3) := by decide +kernel
theorem dX5_read_4 : decode cX5_read 4 = .ok (.ifCond .eq 11, 3) := by decide +kernel
theorem dX5_read_7 : decode cX5_read 7 = .ok (.iload_n 2, 1) := by decide +kernel
theorem dX5_read_8 : decode cX5_read 8 = .ok (.iload_n 3, 1) := by decide +kernel
theorem dX5_read_9 : decode cX5_read 9 = .ok (.invokestatic 59, 3) := by decide +kernel
theorem dX5_read_12 : decode cX5_read 12 = .ok (.ifCond .ne 5, 3) := by decide +kernel
theorem dX5_read_15 : decode cX5_read 15 = .ok (.iconst (-1), 1) := by decide +kernel
theorem dX5_read_16 : decode cX5_read 16 = .ok (.ireturn, 1) := by decide +kernel
theorem dX5_read_17 : decode cX5_read 17 = .ok (.aload_n 0, 1) := by decide +kernel
theorem dX5_read_18 : decode cX5_read 18 = .ok (.getfield 25, 3) := by decide +kernel
theorem dX5_read_21 : decode cX5_read 21 = .ok (.iload_n 1, 1) := by decide +kernel
theorem dX5_read_22 : decode cX5_read 22 = .ok (.aaload, 1) := by decide +kernel
theorem dX5_read_23 : decode cX5_read 23 = .ok (.astore 4, 2) := by decide +kernel
theorem dX5_read_25 : decode cX5_read 25 = .ok (.aload 4, 2) := by decide +kernel
theorem dX5_read_27 : decode cX5_read 27 = .ok (.aload_n 0, 1) := by decide +kernel
theorem dX5_read_28 : decode cX5_read 28 = .ok (.getfield 41, 3) := by decide +kernel
theorem dX5_read_31 : decode cX5_read 31 = .ok (.invokevirtual 44, 3) := by decide +kernel
theorem dX5_read_34 : decode cX5_read 34 = .ok (.aload 4, 2) := by decide +kernel
theorem dX5_read_36 : decode cX5_read 36 = .ok (.getfield 38, 3) := by decide +kernel
theorem dX5_read_39 : decode cX5_read 39 = .ok (.iconst 1, 1) := by decide +kernel
theorem dX5_read_40 : decode cX5_read 40 = .ok (.if_icmp .eq 6, 3) := by decide +kernel
theorem dX5_read_43 : decode cX5_read 43 = .ok (.bipush (-3), 2) := by decide +kernel
theorem dX5_read_45 : decode cX5_read 45 = .ok (.ireturn, 1) := by decide +kernel
theorem dX5_read_46 : decode cX5_read 46 = .ok (.aload_n 0, 1) := by decide +kernel
theorem dX5_read_47 : decode cX5_read 47 = .ok (.aload 4, 2) := by decide +kernel
theorem dX5_read_49 : decode cX5_read 49 = .ok (.iload_n 2, 1) := by decide +kernel
theorem dX5_read_50 : decode cX5_read 50 = .ok (.iload_n 3, 1) := by decide +kernel
theorem dX5_read_51 : decode cX5_read 51 = .ok (.invokestatic 63, 3) := by decide +kernel
theorem dX5_read_54 : decode cX5_read 54 = .ok (.invokevirtual 67, 3) := by decide +kernel
theorem dX5_read_57 : decode cX5_read 57 = .ok (.istore 5, 2) := by decide +kernel
theorem dX5_read_59 : decode cX5_read 59 = .ok (.aload_n 0, 1) := by decide +kernel
theorem dX5_read_60 : decode cX5_read 60 = .ok (.getfield 10, 3) := by decide +kernel
theorem dX5_read_63 : decode cX5_read 63 = .ok (.invokevirtual 71, 3) := by decide +kernel
theorem dX5_read_66 : decode cX5_read 66 = .ok (.iload 5, 2) := by decide +kernel
theorem dX5_read_68 : decode cX5_read 68 = .ok (.ireturn, 1) := by decide +kernel
theorem dX5_next_0 : decode cX5_next 0 = .ok (.iload_n 1, 1) := by decide +kernel
theorem dX5_next_1 : decode cX5_next 1 = .ok (.invokestatic 34, 3) := by decide +kernel
theorem dX5_next_4 : decode cX5_next 4 = .ok (.ifCond .eq 10, 3) := by decide +kernel
theorem dX5_next_7 : decode cX5_next 7 = .ok (.iload_n 2, 1) := by decide +kernel
theorem dX5_next_8 : decode cX5_next 8 = .ok (.invokestatic 74, 3) := by decide +kernel
theorem dX5_next_11 : decode cX5_next 11 = .ok (.ifCond .ne 5, 3) := by decide +kernel
theorem dX5_next_14 : decode cX5_next 14 = .ok (.iconst (-1), 1) := by decide +kernel
theorem dX5_next_15 : decode cX5_next 15 = .ok (.ireturn, 1) := by decide +kernel
theorem dX5_next_16 : decode cX5_next 16 = .ok (.aload_n 0, 1) := by decide +kernel
theorem dX5_next_17 : decode cX5_next 17 = .ok (.getfield 25, 3) := by decide +kernel
theorem dX5_next_20 : decode cX5_next 20 = .ok (.iload_n 1, 1) := by decide +kernel
theorem dX5_next_21 : decode cX5_next 21 = .ok (.aaload, 1) := by decide +kernel
theorem dX5_next_22 : decode cX5_next 22 = .ok (.astore_n 3, 1) := by decide +kernel
theorem dX5_next_23 : decode cX5_next 23 = .ok (.aload_n 3, 1) := by decide +kernel
theorem dX5_next_24 : decode cX5_next 24 = .ok (.aload_n 0, 1) := by decide +kernel
theorem dX5_next_25 : decode cX5_next 25 = .ok (.getfield 41, 3) := by decide +kernel
theorem dX5_next_28 : decode cX5_next 28 = .ok (.invokevirtual 44, 3) := by decide +kernel
theorem dX5_next_31 : decode cX5_next 31 = .ok (.aload_n 3, 1) := by decide +kernel
theorem dX5_next_32 : decode cX5_next 32 = .ok (.getfield 38, 3) := by decide +kernel
theorem dX5_next_35 : decode cX5_next 35 = .ok (.iconst 1, 1) := by decide +kernel
theorem dX5_next_36 : decode cX5_next 36 = .ok (.if_icmp .eq 6, 3) := by decide +kernel
theorem dX5_next_39 : decode cX5_next 39 = .ok (.bipush (-3), 2) := by decide +kernel
theorem dX5_next_41 : decode cX5_next 41 = .ok (.ireturn, 1) := by decide +kernel
theorem dX5_next_42 : decode cX5_next 42 = .ok (.aload_n 0, 1) := by decide +kernel
theorem dX5_next_43 : decode cX5_next 43 = .ok (.aload_n 3, 1) := by decide +kernel
theorem dX5_next_44 : decode cX5_next 44 = .ok (.iload_n 2, 1) := by decide +kernel
theorem dX5_next_45 : decode cX5_next 45 = .ok (.invokevirtual 77, 3) := by decide +kernel
theorem dX5_next_48 : decode cX5_next 48 = .ok (.istore 4, 2) := by decide +kernel
theorem dX5_next_50 : decode cX5_next 50 = .ok (.aload_n 0, 1) := by decide +kernel
theorem dX5_next_51 : decode cX5_next 51 = .ok (.getfield 10, 3) := by decide +kernel
theorem dX5_next_54 : decode cX5_next 54 = .ok (.invokevirtual 71, 3) := by decide +kernel
theorem dX5_next_57 : decode cX5_next 57 = .ok (.iload 4, 2) := by decide +kernel
theorem dX5_next_59 : decode cX5_next 59 = .ok (.ireturn, 1) := by decide +kernel
theorem dX5_write_0 : decode cX5_write 0 = .ok (.iload_n 1, 1) := by decide +kernel
theorem dX5_write_1 : decode cX5_write 1 = .ok (.invokestatic 34, 3) := by decide +kernel
theorem dX5_write_4 : decode cX5_write 4 = .ok (.ifCond .eq 11, 3) := by decide +kernel
theorem dX5_write_7 : decode cX5_write 7 = .ok (.iload_n 2, 1) := by decide +kernel
theorem dX5_write_8 : decode cX5_write 8 = .ok (.iload_n 3, 1) := by decide +kernel
theorem dX5_write_9 : decode cX5_write 9 = .ok (.invokestatic 59, 3) := by decide +kernel
theorem dX5_write_12 : decode cX5_write 12 = .ok (.ifCond .ne 5, 3) := by decide +kernel
theorem dX5_write_15 : decode cX5_write 15 = .ok (.iconst (-1), 1) := by decide +kernel
theorem dX5_write_16 : decode cX5_write 16 = .ok (.ireturn, 1) := by decide +kernel
theorem dX5_write_17 : decode cX5_write 17 = .ok (.aload_n 0, 1) := by decide +kernel
theorem dX5_write_18 : decode cX5_write 18 = .ok (.getfield 25, 3) := by decide +kernel
theorem dX5_write_21 : decode cX5_write 21 = .ok (.iload_n 1, 1) := by decide +kernel
theorem dX5_write_22 : decode cX5_write 22 = .ok (.aaload, 1) := by decide +kernel
theorem dX5_write_23 : decode cX5_write 23 = .ok (.astore 5, 2) := by decide +kernel
theorem dX5_write_25 : decode cX5_write 25 = .ok (.aload 5, 2) := by decide +kernel
theorem dX5_write_27 : decode cX5_write 27 = .ok (.aload_n 0, 1) := by decide +kernel
theorem dX5_write_28 : decode cX5_write 28 = .ok (.getfield 41, 3) := by decide +kernel
theorem dX5_write_31 : decode cX5_write 31 = .ok (.invokevirtual 44, 3) := by decide +kernel
theorem dX5_write_34 : decode cX5_write 34 = .ok (.iload 4, 2) := by decide +kernel
theorem dX5_write_36 : decode cX5_write 36 = .ok (.iconst (-1), 1) := by decide +kernel
theorem dX5_write_37 : decode cX5_write 37 = .ok (.if_icmp .ge 6, 3) := by decide +kernel
theorem dX5_write_40 : decode cX5_write 40 = .ok (.bipush (-2), 2) := by decide +kernel
theorem dX5_write_42 : decode cX5_write 42 = .ok (.ireturn, 1) := by decide +kernel
theorem dX5_write_43 : decode cX5_write 43 = .ok (.aload 5, 2) := by decide +kernel
theorem dX5_write_45 : decode cX5_write 45 = .ok (.getfield 38, 3) := by decide +kernel
theorem dX5_write_48 : decode cX5_write 48 = .ok (.iconst 1, 1) := by decide +kernel
theorem dX5_write_49 : decode cX5_write 49 = .ok (.if_icmp .eq 6, 3) := by decide +kernel
theorem dX5_write_52 : decode cX5_write 52 = .ok (.bipush (-3), 2) := by decide +kernel
theorem dX5_write_54 : decode cX5_write 54 = .ok (.ireturn, 1) := by decide +kernel
theorem dX5_write_55 : decode cX5_write 55 = .ok (.aload 5, 2) := by decide +kernel
theorem dX5_write_57 : decode cX5_write 57 = .ok (.iload_n 2, 1) := by decide +kernel
theorem dX5_write_58 : decode cX5_write 58 = .ok (.iload_n 3, 1) := by decide +kernel
theorem dX5_write_59 : decode cX5_write 59 = .ok (.invokestatic 63, 3) := by decide +kernel
theorem dX5_write_62 : decode cX5_write 62 = .ok (.iload 4, 2) := by decide +kernel
theorem dX5_write_64 : decode cX5_write 64 = .ok (.invokevirtual 80, 3) := by decide +kernel
theorem dX5_write_67 : decode cX5_write 67 = .ok (.ifCond .eq 11, 3) := by decide +kernel
theorem dX5_write_70 : decode cX5_write 70 = .ok (.aload 5, 2) := by decide +kernel
theorem dX5_write_72 : decode cX5_write 72 = .ok (.getfield 83, 3) := by decide +kernel
theorem dX5_write_75 : decode cX5_write 75 = .ok (.goto 5, 3) := by decide +kernel
theorem dX5_write_78 : decode cX5_write 78 = .ok (.bipush (-4), 2) := by decide +kernel
theorem dX5_write_80 : decode cX5_write 80 = .ok (.ireturn, 1) := by decide +kernel
theorem dX5_commit_0 : decode cX5_commit 0 = .ok (.iload_n 1, 1) := by decide +kernel
theorem dX5_commit_1 : decode cX5_commit 1 = .ok (.invokestatic 34, 3) := by decide +kernel
theorem dX5_commit_4 : decode cX5_commit 4 = .ok (.ifCond .ne 5, 3) := by decide +kernel
theorem dX5_commit_7 : decode cX5_commit 7 = .ok (.iconst (-1), 1) := by decide +kernel
theorem dX5_commit_8 : decode cX5_commit 8 = .ok (.ireturn, 1) := by decide +kernel
theorem dX5_commit_9 : decode cX5_commit 9 = .ok (.aload_n 0, 1) := by decide +kernel
theorem dX5_commit_10 : decode cX5_commit 10 = .ok (.getfield 25, 3) := by decide +kernel
theorem dX5_commit_13 : decode cX5_commit 13 = .ok (.iload_n 1, 1) := by decide +kernel
theorem dX5_commit_14 : decode cX5_commit 14 = .ok (.aaload, 1) := by decide +kernel
theorem dX5_commit_15 : decode cX5_commit 15 = .ok (.astore_n 2, 1) := by decide +kernel
theorem dX5_commit_16 : decode cX5_commit 16 = .ok (.aload_n 2, 1) := by decide +kernel
theorem dX5_commit_17 : decode cX5_commit 17 = .ok (.aload_n 0, 1) := by decide +kernel
theorem dX5_commit_18 : decode cX5_commit 18 = .ok (.getfield 41, 3) := by decide +kernel
theorem dX5_commit_21 : decode cX5_commit 21 = .ok (.invokevirtual 44, 3) := by decide +kernel
theorem dX5_commit_24 : decode cX5_commit 24 = .ok (.aload_n 2, 1) := by decide +kernel
theorem dX5_commit_25 : decode cX5_commit 25 = .ok (.getfield 38, 3) := by decide +kernel
theorem dX5_commit_28 : decode cX5_commit 28 = .ok (.iconst 1, 1) := by decide +kernel
theorem dX5_commit_29 : decode cX5_commit 29 = .ok (.if_icmp .eq 6, 3) := by decide +kernel
theorem dX5_commit_32 : decode cX5_commit 32 = .ok (.bipush (-3), 2) := by decide +kernel
theorem dX5_commit_34 : decode cX5_commit 34 = .ok (.ireturn, 1) := by decide +kernel
theorem dX5_commit_35 : decode cX5_commit 35 = .ok (.aload_n 2, 1) := by decide +kernel
theorem dX5_commit_36 : decode cX5_commit 36 = .ok (.getfield 83, 3) := by decide +kernel
theorem dX5_commit_39 : decode cX5_commit 39 = .ok (.ifCond .ne 9, 3) := by decide +kernel
theorem dX5_commit_42 : decode cX5_commit 42 = .ok (.aload_n 2, 1) := by decide +kernel
theorem dX5_commit_43 : decode cX5_commit 43 = .ok (.invokevirtual 86, 3) := by decide +kernel
theorem dX5_commit_46 : decode cX5_commit 46 = .ok (.iconst 3, 1) := by decide +kernel
theorem dX5_commit_47 : decode cX5_commit 47 = .ok (.ireturn, 1) := by decide +kernel
theorem dX5_commit_48 : decode cX5_commit 48 = .ok (.aload_n 2, 1) := by decide +kernel
theorem dX5_commit_49 : decode cX5_commit 49 = .ok (.iconst 2, 1) := by decide +kernel
theorem dX5_commit_50 : decode cX5_commit 50 = .ok (.putfield 38, 3) := by decide +kernel
theorem dX5_commit_53 : decode cX5_commit 53 = .ok (.iconst 1, 1) := by decide +kernel
theorem dX5_commit_54 : decode cX5_commit 54 = .ok (.ireturn, 1) := by decide +kernel
theorem dX5_step_0 : decode cX5_step 0 = .ok (.iload_n 1, 1) := by decide +kernel
theorem dX5_step_1 : decode cX5_step 1 = .ok (.invokestatic 34, 3) := by decide +kernel
theorem dX5_step_4 : decode cX5_step 4 = .ok (.ifCond .ne 5, 3) := by decide +kernel
theorem dX5_step_7 : decode cX5_step 7 = .ok (.iconst (-1), 1) := by decide +kernel
theorem dX5_step_8 : decode cX5_step 8 = .ok (.ireturn, 1) := by decide +kernel
theorem dX5_step_9 : decode cX5_step 9 = .ok (.aload_n 0, 1) := by decide +kernel
theorem dX5_step_10 : decode cX5_step 10 = .ok (.getfield 25, 3) := by decide +kernel
theorem dX5_step_13 : decode cX5_step 13 = .ok (.iload_n 1, 1) := by decide +kernel
theorem dX5_step_14 : decode cX5_step 14 = .ok (.aaload, 1) := by decide +kernel
theorem dX5_step_15 : decode cX5_step 15 = .ok (.astore_n 2, 1) := by decide +kernel
theorem dX5_step_16 : decode cX5_step 16 = .ok (.aload_n 2, 1) := by decide +kernel
theorem dX5_step_17 : decode cX5_step 17 = .ok (.aload_n 0, 1) := by decide +kernel
theorem dX5_step_18 : decode cX5_step 18 = .ok (.getfield 41, 3) := by decide +kernel
theorem dX5_step_21 : decode cX5_step 21 = .ok (.invokevirtual 44, 3) := by decide +kernel
theorem dX5_step_24 : decode cX5_step 24 = .ok (.aload_n 0, 1) := by decide +kernel
theorem dX5_step_25 : decode cX5_step 25 = .ok (.aload_n 2, 1) := by decide +kernel
theorem dX5_step_26 : decode cX5_step 26 = .ok (.invokevirtual 89, 3) := by decide +kernel
theorem dX5_step_29 : decode cX5_step 29 = .ok (.istore_n 3, 1) := by decide +kernel
theorem dX5_step_30 : decode cX5_step 30 = .ok (.aload_n 0, 1) := by decide +kernel
theorem dX5_step_31 : decode cX5_step 31 = .ok (.getfield 10, 3) := by decide +kernel
theorem dX5_step_34 : decode cX5_step 34 = .ok (.invokevirtual 71, 3) := by decide +kernel
theorem dX5_step_37 : decode cX5_step 37 = .ok (.iload_n 3, 1) := by decide +kernel
theorem dX5_step_38 : decode cX5_step 38 = .ok (.ireturn, 1) := by decide +kernel
theorem dX5_crash_0 : decode cX5_crash 0 = .ok (.iload_n 1, 1) := by decide +kernel
theorem dX5_crash_1 : decode cX5_crash 1 = .ok (.invokestatic 34, 3) := by decide +kernel
theorem dX5_crash_4 : decode cX5_crash 4 = .ok (.ifCond .ne 5, 3) := by decide +kernel
theorem dX5_crash_7 : decode cX5_crash 7 = .ok (.iconst (-1), 1) := by decide +kernel
theorem dX5_crash_8 : decode cX5_crash 8 = .ok (.ireturn, 1) := by decide +kernel
theorem dX5_crash_9 : decode cX5_crash 9 = .ok (.aload_n 0, 1) := by decide +kernel
theorem dX5_crash_10 : decode cX5_crash 10 = .ok (.getfield 25, 3) := by decide +kernel
theorem dX5_crash_13 : decode cX5_crash 13 = .ok (.iload_n 1, 1) := by decide +kernel
theorem dX5_crash_14 : decode cX5_crash 14 = .ok (.aaload, 1) := by decide +kernel
theorem dX5_crash_15 : decode cX5_crash 15 = .ok (.astore_n 2, 1) := by decide +kernel
theorem dX5_crash_16 : decode cX5_crash 16 = .ok (.aload_n 2, 1) := by decide +kernel
theorem dX5_crash_17 : decode cX5_crash 17 = .ok (.getfield 38, 3) := by decide +kernel
theorem dX5_crash_20 : decode cX5_crash 20 = .ok (.ifCond .ne 7, 3) := by decide +kernel
theorem dX5_crash_23 : decode cX5_crash 23 = .ok (.iconst 0, 1) := by decide +kernel
theorem dX5_crash_24 : decode cX5_crash 24 = .ok (.goto 4, 3) := by decide +kernel
theorem dX5_crash_27 : decode cX5_crash 27 = .ok (.iconst 1, 1) := by decide +kernel
theorem dX5_crash_28 : decode cX5_crash 28 = .ok (.istore_n 3, 1) := by decide +kernel
theorem dX5_crash_29 : decode cX5_crash 29 = .ok (.aload_n 2, 1) := by decide +kernel
theorem dX5_crash_30 : decode cX5_crash 30 = .ok (.invokevirtual 86, 3) := by decide +kernel
theorem dX5_crash_33 : decode cX5_crash 33 = .ok (.iload_n 3, 1) := by decide +kernel
