theorem dX6_init_164 : decode cX6_init 164 = .ok (.bipush 8, 2) := by decide +kernel
theorem dX6_init_166 : decode cX6_init 166 = .ok (.newarray .int, 2) := by decide +kernel
theorem dX6_init_168 : decode cX6_init 168 = .ok (.putfield 69, 3) := by decide +kernel
theorem dX6_init_171 : decode cX6_init 171 = .ok (.aload_n 0, 1) := by decide +kernel
theorem dX6_init_172 : decode cX6_init 172 = .ok (.iconst 0, 1) := by decide +kernel
theorem dX6_init_173 : decode cX6_init 173 = .ok (.putfield 72, 3) := by decide +kernel
theorem dX6_init_176 : decode cX6_init 176 = .ok (.return_, 1) := by decide +kernel
theorem dX6_in_0 : decode cX6_in 0 = .ok (.iload_n 0, 1) := by decide +kernel
theorem dX6_in_1 : decode cX6_in 1 = .ok (.iload_n 1, 1) := by decide +kernel
theorem dX6_in_2 : decode cX6_in 2 = .ok (.if_icmp .lt 12, 3) := by decide +kernel
theorem dX6_in_5 : decode cX6_in 5 = .ok (.iload_n 0, 1) := by decide +kernel
theorem dX6_in_6 : decode cX6_in 6 = .ok (.iload_n 2, 1) := by decide +kernel
theorem dX6_in_7 : decode cX6_in 7 = .ok (.if_icmp .gt 7, 3) := by decide +kernel
theorem dX6_in_10 : decode cX6_in 10 = .ok (.iconst 1, 1) := by decide +kernel
theorem dX6_in_11 : decode cX6_in 11 = .ok (.goto 4, 3) := by decide +kernel
theorem dX6_in_14 : decode cX6_in 14 = .ok (.iconst 0, 1) := by decide +kernel
theorem dX6_in_15 : decode cX6_in 15 = .ok (.ireturn, 1) := by decide +kernel
theorem dX6_records_0 : decode cX6_records 0 = .ok (.aload_n 0, 1) := by decide +kernel
theorem dX6_records_1 : decode cX6_records 1 = .ok (.getfield 78, 3) := by decide +kernel
theorem dX6_records_4 : decode cX6_records 4 = .ok (.aload_n 0, 1) := by decide +kernel
theorem dX6_records_5 : decode cX6_records 5 = .ok (.getfield 81, 3) := by decide +kernel
theorem dX6_records_8 : decode cX6_records 8 = .ok (.iadd, 1) := by decide +kernel
theorem dX6_records_9 : decode cX6_records 9 = .ok (.iconst 2, 1) := by decide +kernel
theorem dX6_records_10 : decode cX6_records 10 = .ok (.aload_n 0, 1) := by decide +kernel
theorem dX6_records_11 : decode cX6_records 11 = .ok (.getfield 84, 3) := by decide +kernel
theorem dX6_records_14 : decode cX6_records 14 = .ok (.imul, 1) := by decide +kernel
theorem dX6_records_15 : decode cX6_records 15 = .ok (.iadd, 1) := by decide +kernel
theorem dX6_records_16 : decode cX6_records 16 = .ok (.ireturn, 1) := by decide +kernel
theorem dX6_end_0 : decode cX6_end 0 = .ok (.aload_n 0, 1) := by decide +kernel
theorem dX6_end_1 : decode cX6_end 1 = .ok (.getfield 72, 3) := by decide +kernel
theorem dX6_end_4 : decode cX6_end 4 = .ok (.bipush 64, 2) := by decide +kernel
theorem dX6_end_6 : decode cX6_end 6 = .ok (.if_icmp .lt 41, 3) := by decide +kernel
theorem dX6_end_9 : decode cX6_end 9 = .ok (.aload_n 0, 1) := by decide +kernel
theorem dX6_end_10 : decode cX6_end 10 = .ok (.iconst 0, 1) := by decide +kernel
theorem dX6_end_11 : decode cX6_end 11 = .ok (.putfield 72, 3) := by decide +kernel
theorem dX6_end_14 : decode cX6_end 14 = .ok (.aload_n 0, 1) := by decide +kernel
theorem dX6_end_15 : decode cX6_end 15 = .ok (.dup, 1) := by decide +kernel
theorem dX6_end_16 : decode cX6_end 16 = .ok (.getfield 87, 3) := by decide +kernel
theorem dX6_end_19 : decode cX6_end 19 = .ok (.iconst 1, 1) := by decide +kernel
theorem dX6_end_20 : decode cX6_end 20 = .ok (.iadd, 1) := by decide +kernel
theorem dX6_end_21 : decode cX6_end 21 = .ok (.putfield 87, 3) := by decide +kernel
theorem dX6_end_24 : decode cX6_end 24 = .ok (.aload_n 0, 1) := by decide +kernel
theorem dX6_end_25 : decode cX6_end 25 = .ok (.getfield 87, 3) := by decide +kernel
theorem dX6_end_28 : decode cX6_end 28 = .ok (.iconst 4, 1) := by decide +kernel
theorem dX6_end_29 : decode cX6_end 29 = .ok (.if_icmp .ne 18, 3) := by decide +kernel
theorem dX6_end_32 : decode cX6_end 32 = .ok (.aload_n 0, 1) := by decide +kernel
theorem dX6_end_33 : decode cX6_end 33 = .ok (.iconst 1, 1) := by decide +kernel
theorem dX6_end_34 : decode cX6_end 34 = .ok (.putfield 87, 3) := by decide +kernel
theorem dX6_end_37 : decode cX6_end 37 = .ok (.aload_n 0, 1) := by decide +kernel
theorem dX6_end_38 : decode cX6_end 38 = .ok (.dup, 1) := by decide +kernel
theorem dX6_end_39 : decode cX6_end 39 = .ok (.getfield 90, 3) := by decide +kernel
theorem dX6_end_42 : decode cX6_end 42 = .ok (.iconst 1, 1) := by decide +kernel
theorem dX6_end_43 : decode cX6_end 43 = .ok (.iadd, 1) := by decide +kernel
theorem dX6_end_44 : decode cX6_end 44 = .ok (.putfield 90, 3) := by decide +kernel
theorem dX6_end_47 : decode cX6_end 47 = .ok (.iload_n 1, 1) := by decide +kernel
theorem dX6_end_48 : decode cX6_end 48 = .ok (.ireturn, 1) := by decide +kernel
theorem dX6_give_0 : decode cX6_give 0 = .ok (.aload_n 0, 1) := by decide +kernel
theorem dX6_give_1 : decode cX6_give 1 = .ok (.getfield 13, 3) := by decide +kernel
theorem dX6_give_4 : decode cX6_give 4 = .ok (.istore_n 1, 1) := by decide +kernel
theorem dX6_give_5 : decode cX6_give 5 = .ok (.iload_n 1, 1) := by decide +kernel
theorem dX6_give_6 : decode cX6_give 6 = .ok (.aload_n 0, 1) := by decide +kernel
theorem dX6_give_7 : decode cX6_give 7 = .ok (.getfield 93, 3) := by decide +kernel
theorem dX6_give_10 : decode cX6_give 10 = .ok (.if_icmp .le 14, 3) := by decide +kernel
theorem dX6_give_13 : decode cX6_give 13 = .ok (.aload_n 0, 1) := by decide +kernel
theorem dX6_give_14 : decode cX6_give 14 = .ok (.dup, 1) := by decide +kernel
theorem dX6_give_15 : decode cX6_give 15 = .ok (.getfield 93, 3) := by decide +kernel
theorem dX6_give_18 : decode cX6_give 18 = .ok (.bipush 16, 2) := by decide +kernel
theorem dX6_give_20 : decode cX6_give 20 = .ok (.iadd, 1) := by decide +kernel
theorem dX6_give_21 : decode cX6_give 21 = .ok (.putfield 93, 3) := by decide +kernel
theorem dX6_give_24 : decode cX6_give 24 = .ok (.aload_n 0, 1) := by decide +kernel
theorem dX6_give_25 : decode cX6_give 25 = .ok (.dup, 1) := by decide +kernel
theorem dX6_give_26 : decode cX6_give 26 = .ok (.getfield 13, 3) := by decide +kernel
theorem dX6_give_29 : decode cX6_give 29 = .ok (.iconst 1, 1) := by decide +kernel
theorem dX6_give_30 : decode cX6_give 30 = .ok (.iadd, 1) := by decide +kernel
theorem dX6_give_31 : decode cX6_give 31 = .ok (.putfield 13, 3) := by decide +kernel
theorem dX6_give_34 : decode cX6_give 34 = .ok (.aload_n 0, 1) := by decide +kernel
theorem dX6_give_35 : decode cX6_give 35 = .ok (.iload_n 1, 1) := by decide +kernel
theorem dX6_give_36 : decode cX6_give 36 = .ok (.putfield 96, 3) := by decide +kernel
theorem dX6_give_39 : decode cX6_give 39 = .ok (.iload_n 1, 1) := by decide +kernel
theorem dX6_give_40 : decode cX6_give 40 = .ok (.ireturn, 1) := by decide +kernel
theorem dX6_dataAt_0 : decode cX6_dataAt 0 = .ok (.iconst 0, 1) := by decide +kernel
theorem dX6_dataAt_1 : decode cX6_dataAt 1 = .ok (.istore_n 3, 1) := by decide +kernel
theorem dX6_dataAt_2 : decode cX6_dataAt 2 = .ok (.iload_n 3, 1) := by decide +kernel
theorem dX6_dataAt_3 : decode cX6_dataAt 3 = .ok (.aload_n 0, 1) := by decide +kernel
theorem dX6_dataAt_4 : decode cX6_dataAt 4 = .ok (.getfield 78, 3) := by decide +kernel
theorem dX6_dataAt_7 : decode cX6_dataAt 7 = .ok (.if_icmp .ge 31, 3) := by decide +kernel
theorem dX6_dataAt_10 : decode cX6_dataAt 10 = .ok (.aload_n 0, 1) := by decide +kernel
theorem dX6_dataAt_11 : decode cX6_dataAt 11 = .ok (.getfield 16, 3) := by decide +kernel
theorem dX6_dataAt_14 : decode cX6_dataAt 14 = .ok (.iload_n 3, 1) := by decide +kernel
theorem dX6_dataAt_15 : decode cX6_dataAt 15 = .ok (.iaload, 1) := by decide +kernel
theorem dX6_dataAt_16 : decode cX6_dataAt 16 = .ok (.iload_n 1, 1) := by decide +kernel
theorem dX6_dataAt_17 : decode cX6_dataAt 17 = .ok (.if_icmp .ne 15, 3) := by decide +kernel
theorem dX6_dataAt_20 : decode cX6_dataAt 20 = .ok (.aload_n 0, 1) := by decide +kernel
theorem dX6_dataAt_21 : decode cX6_dataAt 21 = .ok (.getfield 20, 3) := by decide +kernel
theorem dX6_dataAt_24 : decode cX6_dataAt 24 = .ok (.iload_n 3, 1) := by decide +kernel
theorem dX6_dataAt_25 : decode cX6_dataAt 25 = .ok (.iaload, 1) := by decide +kernel
theorem dX6_dataAt_26 : decode cX6_dataAt 26 = .ok (.iload_n 2, 1) := by decide +kernel
theorem dX6_dataAt_27 : decode cX6_dataAt 27 = .ok (.if_icmp .ne 5, 3) := by decide +kernel
theorem dX6_dataAt_30 : decode cX6_dataAt 30 = .ok (.iload_n 3, 1) := by decide +kernel
theorem dX6_dataAt_31 : decode cX6_dataAt 31 = .ok (.ireturn, 1) := by decide +kernel
theorem dX6_dataAt_32 : decode cX6_dataAt 32 = .ok (.iinc 3 1, 3) := by decide +kernel
theorem dX6_dataAt_35 : decode cX6_dataAt 35 = .ok (.goto (-33), 3) := by decide +kernel
theorem dX6_dataAt_38 : decode cX6_dataAt 38 = .ok (.iconst (-1), 1) := by decide +kernel
theorem dX6_dataAt_39 : decode cX6_dataAt 39 = .ok (.ireturn, 1) := by decide +kernel
theorem dX6_addData_0 : decode cX6_addData 0 = .ok (.aload_n 0, 1) := by decide +kernel
theorem dX6_addData_1 : decode cX6_addData 1 = .ok (.getfield 16, 3) := by decide +kernel
theorem dX6_addData_4 : decode cX6_addData 4 = .ok (.aload_n 0, 1) := by decide +kernel
theorem dX6_addData_5 : decode cX6_addData 5 = .ok (.getfield 78, 3) := by decide +kernel
theorem dX6_addData_8 : decode cX6_addData 8 = .ok (.iload_n 1, 1) := by decide +kernel
theorem dX6_addData_9 : decode cX6_addData 9 = .ok (.iastore, 1) := by decide +kernel
theorem dX6_addData_10 : decode cX6_addData 10 = .ok (.aload_n 0, 1) := by decide +kernel
theorem dX6_addData_11 : decode cX6_addData 11 = .ok (.getfield 20, 3) := by decide +kernel
theorem dX6_addData_14 : decode cX6_addData 14 = .ok (.aload_n 0, 1) := by decide +kernel
theorem dX6_addData_15 : decode cX6_addData 15 = .ok (.getfield 78, 3) := by decide +kernel
theorem dX6_addData_18 : decode cX6_addData 18 = .ok (.iload_n 2, 1) := by decide +kernel
theorem dX6_addData_19 : decode cX6_addData 19 = .ok (.iastore, 1) := by decide +kernel
theorem dX6_addData_20 : decode cX6_addData 20 = .ok (.aload_n 0, 1) := by decide +kernel
theorem dX6_addData_21 : decode cX6_addData 21 = .ok (.getfield 23, 3) := by decide +kernel
theorem dX6_addData_24 : decode cX6_addData 24 = .ok (.aload_n 0, 1) := by decide +kernel
theorem dX6_addData_25 : decode cX6_addData 25 = .ok (.getfield 78, 3) := by decide +kernel
theorem dX6_addData_28 : decode cX6_addData 28 = .ok (.iload_n 3, 1) := by decide +kernel
theorem dX6_addData_29 : decode cX6_addData 29 = .ok (.iastore, 1) := by decide +kernel
theorem dX6_addData_30 : decode cX6_addData 30 = .ok (.aload_n 0, 1) := by decide +kernel
theorem dX6_addData_31 : decode cX6_addData 31 = .ok (.dup, 1) := by decide +kernel
theorem dX6_addData_32 : decode cX6_addData 32 = .ok (.getfield 78, 3) := by decide +kernel
theorem dX6_addData_35 : decode cX6_addData 35 = .ok (.iconst 1, 1) := by decide +kernel
theorem dX6_addData_36 : decode cX6_addData 36 = .ok (.iadd, 1) := by decide +kernel
theorem dX6_addData_37 : decode cX6_addData 37 = .ok (.putfield 78, 3) := by decide +kernel
theorem dX6_addData_40 : decode cX6_addData 40 = .ok (.aload_n 0, 1) := by decide +kernel
theorem dX6_addData_41 : decode cX6_addData 41 = .ok (.dup, 1) := by decide +kernel
theorem dX6_addData_42 : decode cX6_addData 42 = .ok (.getfield 72, 3) := by decide +kernel
theorem dX6_addData_45 : decode cX6_addData 45 = .ok (.iconst 1, 1) := by decide +kernel
theorem dX6_addData_46 : decode cX6_addData 46 = .ok (.iadd, 1) := by decide +kernel
theorem dX6_addData_47 : decode cX6_addData 47 = .ok (.putfield 72, 3) := by decide +kernel
theorem dX6_addData_50 : decode cX6_addData 50 = .ok (.return_, 1) := by decide +kernel
theorem dX6_dropData_0 : decode cX6_dropData 0 = .ok (.aload_n 0, 1) := by decide +kernel
theorem dX6_dropData_1 : decode cX6_dropData 1 = .ok (.iload_n 1, 1) := by decide +kernel
theorem dX6_dropData_2 : decode cX6_dropData 2 = .ok (.iload_n 2, 1) := by decide +kernel
theorem dX6_dropData_3 : decode cX6_dropData 3 = .ok (.invokevirtual 99, 3) := by decide +kernel
theorem dX6_dropData_6 : decode cX6_dropData 6 = .ok (.istore_n 3, 1) := by decide +kernel
theorem dX6_dropData_7 : decode cX6_dropData 7 = .ok (.iload_n 3, 1) := by decide +kernel
theorem dX6_dropData_8 : decode cX6_dropData 8 = .ok (.ifCond .ge 4, 3) := by decide +kernel
theorem dX6_dropData_11 : decode cX6_dropData 11 = .ok (.return_, 1) := by decide +kernel
theorem dX6_dropData_12 : decode cX6_dropData 12 = .ok (.aload_n 0, 1) := by decide +kernel
theorem dX6_dropData_13 : decode cX6_dropData 13 = .ok (.dup, 1) := by decide +kernel
theorem dX6_dropData_14 : decode cX6_dropData 14 = .ok (.getfield 78, 3) := by decide +kernel
theorem dX6_dropData_17 : decode cX6_dropData 17 = .ok (.iconst 1, 1) := by decide +kernel
theorem dX6_dropData_18 : decode cX6_dropData 18 = .ok (.isub, 1) := by decide +kernel
theorem dX6_dropData_19 : decode cX6_dropData 19 = .ok (.putfield 78, 3) := by decide +kernel
theorem dX6_dropData_22 : decode cX6_dropData 22 = .ok (.aload_n 0, 1) := by decide +kernel
theorem dX6_dropData_23 : decode cX6_dropData 23 = .ok (.getfield 16, 3) := by decide +kernel
theorem dX6_dropData_26 : decode cX6_dropData 26 = .ok (.iload_n 3, 1) := by decide +kernel
theorem dX6_dropData_27 : decode cX6_dropData 27 = .ok (.aload_n 0, 1) := by decide +kernel
theorem dX6_dropData_28 : decode cX6_dropData 28 = .ok (.getfield 16, 3) := by decide +kernel
theorem dX6_dropData_31 : decode cX6_dropData 31 = .ok (.aload_n 0, 1) := by decide +kernel
theorem dX6_dropData_32 : decode cX6_dropData 32 = .ok (.getfield 78, 3) := by decide +kernel
theorem dX6_dropData_35 : decode cX6_dropData 35 = .ok (.iaload, 1) := by decide +kernel
theorem dX6_dropData_36 : decode cX6_dropData 36 = .ok (.iastore, 1) := by decide +kernel
theorem dX6_dropData_37 : decode cX6_dropData 37 = .ok (.aload_n 0, 1) := by decide +kernel
theorem dX6_dropData_38 : decode cX6_dropData 38 = .ok (.getfield 20, 3) := by decide +kernel
theorem dX6_dropData_41 : decode cX6_dropData 41 = .ok (.iload_n 3, 1) := by decide +kernel
theorem dX6_dropData_42 : decode cX6_dropData 42 = .ok (.aload_n 0, 1) := by decide +kernel
theorem dX6_dropData_43 : decode cX6_dropData 43 = .ok (.getfield 20, 3) := by decide +kernel
theorem dX6_dropData_46 : decode cX6_dropData 46 = .ok (.aload_n 0, 1) := by decide +kernel
theorem dX6_dropData_47 : decode cX6_dropData 47 = .ok (.getfield 78, 3) := by decide +kernel
theorem dX6_dropData_50 : decode cX6_dropData 50 = .ok (.iaload, 1) := by decide +kernel
theorem dX6_dropData_51 : decode cX6_dropData 51 = .ok (.iastore, 1) := by decide +kernel
theorem dX6_dropData_52 : decode cX6_dropData 52 = .ok (.aload_n 0, 1) := by decide +kernel
theorem dX6_dropData_53 : decode cX6_dropData 53 = .ok (.getfield 23, 3) := by decide +kernel
theorem dX6_dropData_56 : decode cX6_dropData 56 = .ok (.iload_n 3, 1) := by decide +kernel
theorem dX6_dropData_57 : decode cX6_dropData 57 = .ok (.aload_n 0, 1) := by decide +kernel
theorem dX6_dropData_58 : decode cX6_dropData 58 = .ok (.getfield 23, 3) := by decide +kernel
theorem dX6_dropData_61 : decode cX6_dropData 61 = .ok (.aload_n 0, 1) := by decide +kernel
theorem dX6_dropData_62 : decode cX6_dropData 62 = .ok (.getfield 78, 3) := by decide +kernel
theorem dX6_dropData_65 : decode cX6_dropData 65 = .ok (.iaload, 1) := by decide +kernel
theorem dX6_dropData_66 : decode cX6_dropData 66 = .ok (.iastore, 1) := by decide +kernel
theorem dX6_dropData_67 : decode cX6_dropData 67 = .ok (.aload_n 0, 1) := by decide +kernel
theorem dX6_dropData_68 : decode cX6_dropData 68 = .ok (.dup, 1) := by decide +kernel
theorem dX6_dropData_69 : decode cX6_dropData 69 = .ok (.getfield 72, 3) := by decide +kernel
theorem dX6_dropData_72 : decode cX6_dropData 72 = .ok (.iconst 1, 1) := by decide +kernel
theorem dX6_dropData_73 : decode cX6_dropData 73 = .ok (.iadd, 1) := by decide +kernel
theorem dX6_dropData_74 : decode cX6_dropData 74 = .ok (.putfield 72, 3) := by decide +kernel
theorem dX6_dropData_77 : decode cX6_dropData 77 = .ok (.return_, 1) := by decide +kernel
theorem dX6_addWrite_0 : decode cX6_addWrite 0 = .ok (.aload_n 0, 1) := by decide +kernel
theorem dX6_addWrite_1 : decode cX6_addWrite 1 = .ok (.getfield 26, 3) := by decide +kernel
theorem dX6_addWrite_4 : decode cX6_addWrite 4 = .ok (.aload_n 0, 1) := by decide +kernel
theorem dX6_addWrite_5 : decode cX6_addWrite 5 = .ok (.getfield 81, 3) := by decide +kernel
theorem dX6_addWrite_8 : decode cX6_addWrite 8 = .ok (.iload_n 1, 1) := by decide +kernel
theorem dX6_addWrite_9 : decode cX6_addWrite 9 = .ok (.iastore, 1) := by decide +kernel
theorem dX6_addWrite_10 : decode cX6_addWrite 10 = .ok (.aload_n 0, 1) := by decide +kernel
theorem dX6_addWrite_11 : decode cX6_addWrite 11 = .ok (.getfield 29, 3) := by decide +kernel
theorem dX6_addWrite_14 : decode cX6_addWrite 14 = .ok (.aload_n 0, 1) := by decide +kernel
theorem dX6_addWrite_15 : decode cX6_addWrite 15 = .ok (.getfield 81, 3) := by decide +kernel
theorem dX6_addWrite_18 : decode cX6_addWrite 18 = .ok (.iload_n 2, 1) := by decide +kernel
theorem dX6_addWrite_19 : decode cX6_addWrite 19 = .ok (.iastore, 1) := by decide +kernel
theorem dX6_addWrite_20 : decode cX6_addWrite 20 = .ok (.aload_n 0, 1) := by decide +kernel
theorem dX6_addWrite_21 : decode cX6_addWrite 21 = .ok (.getfield 32, 3) := by decide +kernel
theorem dX6_addWrite_24 : decode cX6_addWrite 24 = .ok (.aload_n 0, 1) := by decide +kernel
theorem dX6_addWrite_25 : decode cX6_addWrite 25 = .ok (.getfield 81, 3) := by decide +kernel
theorem dX6_addWrite_28 : decode cX6_addWrite 28 = .ok (.iload_n 3, 1) := by decide +kernel
theorem dX6_addWrite_29 : decode cX6_addWrite 29 = .ok (.iastore, 1) := by decide +kernel
theorem dX6_addWrite_30 : decode cX6_addWrite 30 = .ok (.aload_n 0, 1) := by decide +kernel
theorem dX6_addWrite_31 : decode cX6_addWrite 31 = .ok (.getfield 35, 3) := by decide +kernel
theorem dX6_addWrite_34 : decode cX6_addWrite 34 = .ok (.aload_n 0, 1) := by decide +kernel
theorem dX6_addWrite_35 : decode cX6_addWrite 35 = .ok (.getfield 81, 3) := by decide +kernel
theorem dX6_addWrite_38 : decode cX6_addWrite 38 = .ok (.iload 4, 2) := by decide +kernel
theorem dX6_addWrite_40 : decode cX6_addWrite 40 = .ok (.bastore, 1) := by decide +kernel
theorem dX6_addWrite_41 : decode cX6_addWrite 41 = .ok (.aload_n 0, 1) := by decide +kernel
theorem dX6_addWrite_42 : decode cX6_addWrite 42 = .ok (.dup, 1) := by decide +kernel
theorem dX6_addWrite_43 : decode cX6_addWrite 43 = .ok (.getfield 81, 3) := by decide +kernel
theorem dX6_addWrite_46 : decode cX6_addWrite 46 = .ok (.iconst 1, 1) := by decide +kernel
theorem dX6_addWrite_47 : decode cX6_addWrite 47 = .ok (.iadd, 1) := by decide +kernel
theorem dX6_addWrite_48 : decode cX6_addWrite 48 = .ok (.putfield 81, 3) := by decide +kernel
theorem dX6_addWrite_51 : decode cX6_addWrite 51 = .ok (.aload_n 0, 1) := by decide +kernel
theorem dX6_addWrite_52 : decode cX6_addWrite 52 = .ok (.dup, 1) := by decide +kernel
theorem dX6_addWrite_53 : decode cX6_addWrite 53 = .ok (.getfield 72, 3) := by decide +kernel
theorem dX6_addWrite_56 : decode cX6_addWrite 56 = .ok (.iconst 1, 1) := by decide +kernel
theorem dX6_addWrite_57 : decode cX6_addWrite 57 = .ok (.iadd, 1) := by decide +kernel
theorem dX6_addWrite_58 : decode cX6_addWrite 58 = .ok (.putfield 72, 3) := by decide +kernel
theorem dX6_addWrite_61 : decode cX6_addWrite 61 = .ok (.return_, 1) := by decide +kernel
theorem dX6_dropWrite_0 : decode cX6_dropWrite 0 = .ok (.aload_n 0, 1) := by decide +kernel
theorem dX6_dropWrite_1 : decode cX6_dropWrite 1 = .ok (.dup, 1) := by decide +kernel
theorem dX6_dropWrite_2 : decode cX6_dropWrite 2 = .ok (.getfield 81, 3) := by decide +kernel
theorem dX6_dropWrite_5 : decode cX6_dropWrite 5 = .ok (.iconst 1, 1) := by decide +kernel
theorem dX6_dropWrite_6 : decode cX6_dropWrite 6 = .ok (.isub, 1) := by decide +kernel
theorem dX6_dropWrite_7 : decode cX6_dropWrite 7 = .ok (.putfield 81, 3) := by decide +kernel
theorem dX6_dropWrite_10 : decode cX6_dropWrite 10 = .ok (.aload_n 0, 1) := by decide +kernel
theorem dX6_dropWrite_11 : decode cX6_dropWrite 11 = .ok (.getfield 26, 3) := by decide +kernel
theorem dX6_dropWrite_14 : decode cX6_dropWrite 14 = .ok (.iload_n 1, 1) := by decide +kernel
theorem dX6_dropWrite_15 : decode cX6_dropWrite 15 = .ok (.aload_n 0, 1) := by decide +kernel
theorem dX6_dropWrite_16 : decode cX6_dropWrite 16 = .ok (.getfield 26, 3) := by decide +kernel
theorem dX6_dropWrite_19 : decode cX6_dropWrite 19 = .ok (.aload_n 0, 1) := by decide +kernel
theorem dX6_dropWrite_20 : decode cX6_dropWrite 20 = .ok (.getfield 81, 3) := by decide +kernel
theorem dX6_dropWrite_23 : decode cX6_dropWrite 23 = .ok (.iaload, 1) := by decide +kernel
theorem dX6_dropWrite_24 : decode cX6_dropWrite 24 = .ok (.iastore, 1) := by decide +kernel
theorem dX6_dropWrite_25 : decode cX6_dropWrite 25 = .ok (.aload_n 0, 1) := by decide +kernel
theorem dX6_dropWrite_26 : decode cX6_dropWrite 26 = .ok (.getfield 29, 3) := by decide +kernel
theorem dX6_dropWrite_29 : decode cX6_dropWrite 29 = .ok (.iload_n 1, 1) := by decide +kernel
theorem dX6_dropWrite_30 : decode cX6_dropWrite 30 = .ok (.aload_n 0, 1) := by decide +kernel
theorem dX6_dropWrite_31 : decode cX6_dropWrite 31 = .ok (.getfield 29, 3) := by decide +kernel
theorem dX6_dropWrite_34 : decode cX6_dropWrite 34 = .ok (.aload_n 0, 1) := by decide +kernel
theorem dX6_dropWrite_35 : decode cX6_dropWrite 35 = .ok (.getfield 81, 3) := by decide +kernel
theorem dX6_dropWrite_38 : decode cX6_dropWrite 38 = .ok (.iaload, 1) := by decide +kernel
theorem dX6_dropWrite_39 : decode cX6_dropWrite 39 = .ok (.iastore, 1) := by decide +kernel
theorem dX6_dropWrite_40 : decode cX6_dropWrite 40 = .ok (.aload_n 0, 1) := by decide +kernel
theorem dX6_dropWrite_41 : decode cX6_dropWrite 41 = .ok (.getfield 32, 3) := by decide +kernel
theorem dX6_dropWrite_44 : decode cX6_dropWrite 44 = .ok (.iload_n 1, 1) := by decide +kernel
theorem dX6_dropWrite_45 : decode cX6_dropWrite 45 = .ok (.aload_n 0, 1) := by decide +kernel
theorem dX6_dropWrite_46 : decode cX6_dropWrite 46 = .ok (.getfield 32, 3) := by decide +kernel
theorem dX6_dropWrite_49 : decode cX6_dropWrite 49 = .ok (.aload_n 0, 1) := by decide +kernel
theorem dX6_dropWrite_50 : decode cX6_dropWrite 50 = .ok (.getfield 81, 3) := by decide +kernel
theorem dX6_dropWrite_53 : decode cX6_dropWrite 53 = .ok (.iaload, 1) := by decide +kernel
theorem dX6_dropWrite_54 : decode cX6_dropWrite 54 = .ok (.iastore, 1) := by decide +kernel
theorem dX6_dropWrite_55 : decode cX6_dropWrite 55 = .ok (.aload_n 0, 1) := by decide +kernel
theorem dX6_dropWrite_56 : decode cX6_dropWrite 56 = .ok (.getfield 35, 3) := by decide +kernel
theorem dX6_dropWrite_59 : decode cX6_dropWrite 59 = .ok (.iload_n 1, 1) := by decide +kernel
theorem dX6_dropWrite_60 : decode cX6_dropWrite 60 = .ok (.aload_n 0, 1) := by decide +kernel
theorem dX6_dropWrite_61 : decode cX6_dropWrite 61 = .ok (.getfield 35, 3) := by decide +kernel
theorem dX6_dropWrite_64 : decode cX6_dropWrite 64 = .ok (.aload_n 0, 1) := by decide +kernel
theorem dX6_dropWrite_65 : decode cX6_dropWrite 65 = .ok (.getfield 81, 3) := by decide +kernel
theorem dX6_dropWrite_68 : decode cX6_dropWrite 68 = .ok (.baload, 1) := by decide +kernel
theorem dX6_dropWrite_69 : decode cX6_dropWrite 69 = .ok (.bastore, 1) := by decide +kernel
theorem dX6_dropWrite_70 : decode cX6_dropWrite 70 = .ok (.aload_n 0, 1) := by decide +kernel
theorem dX6_dropWrite_71 : decode cX6_dropWrite 71 = .ok (.dup, 1) := by decide +kernel
theorem dX6_dropWrite_72 : decode cX6_dropWrite 72 = .ok (.getfield 72, 3) := by decide +kernel
theorem dX6_dropWrite_75 : decode cX6_dropWrite 75 = .ok (.iconst 1, 1) := by decide +kernel
theorem dX6_dropWrite_76 : decode cX6_dropWrite 76 = .ok (.iadd, 1) := by decide +kernel
theorem dX6_dropWrite_77 : decode cX6_dropWrite 77 = .ok (.putfield 72, 3) := by decide +kernel
theorem dX6_dropWrite_80 : decode cX6_dropWrite 80 = .ok (.return_, 1) := by decide +kernel
theorem dX6_addLock_0 : decode cX6_addLock 0 = .ok (.aload_n 0, 1) := by decide +kernel
theorem dX6_addLock_1 : decode cX6_addLock 1 = .ok (.getfield 39, 3) := by decide +kernel
theorem dX6_addLock_4 : decode cX6_addLock 4 = .ok (.iload_n 1, 1) := by decide +kernel
theorem dX6_addLock_5 : decode cX6_addLock 5 = .ok (.iload_n 2, 1) := by decide +kernel
theorem dX6_addLock_6 : decode cX6_addLock 6 = .ok (.iastore, 1) := by decide +kernel
theorem dX6_addLock_7 : decode cX6_addLock 7 = .ok (.aload_n 0, 1) := by decide +kernel
theorem dX6_addLock_8 : decode cX6_addLock 8 = .ok (.getfield 42, 3) := by decide +kernel
theorem dX6_addLock_11 : decode cX6_addLock 11 = .ok (.iload_n 1, 1) := by decide +kernel
theorem dX6_addLock_12 : decode cX6_addLock 12 = .ok (.iload_n 3, 1) := by decide +kernel
theorem dX6_addLock_13 : decode cX6_addLock 13 = .ok (.iastore, 1) := by decide +kernel
theorem dX6_addLock_14 : decode cX6_addLock 14 = .ok (.aload_n 0, 1) := by decide +kernel
theorem dX6_addLock_15 : decode cX6_addLock 15 = .ok (.getfield 45, 3) := by decide +kernel
theorem dX6_addLock_18 : decode cX6_addLock 18 = .ok (.iload_n 1, 1) := by decide +kernel
theorem dX6_addLock_19 : decode cX6_addLock 19 = .ok (.aload_n 0, 1) := by decide +kernel
theorem dX6_addLock_20 : decode cX6_addLock 20 = .ok (.getfield 103, 3) := by decide +kernel
theorem dX6_addLock_23 : decode cX6_addLock 23 = .ok (.iastore, 1) := by decide +kernel
theorem dX6_addLock_24 : decode cX6_addLock 24 = .ok (.aload_n 0, 1) := by decide +kernel
theorem dX6_addLock_25 : decode cX6_addLock 25 = .ok (.dup, 1) := by decide +kernel
theorem dX6_addLock_26 : decode cX6_addLock 26 = .ok (.getfield 84, 3) := by decide +kernel
theorem dX6_addLock_29 : decode cX6_addLock 29 = .ok (.iconst 1, 1) := by decide +kernel
theorem dX6_addLock_30 : decode cX6_addLock 30 = .ok (.iadd, 1) := by decide +kernel
theorem dX6_addLock_31 : decode cX6_addLock 31 = .ok (.putfield 84, 3) := by decide +kernel
theorem dX6_addLock_34 : decode cX6_addLock 34 = .ok (.aload_n 0, 1) := by decide +kernel
theorem dX6_addLock_35 : decode cX6_addLock 35 = .ok (.dup, 1) := by decide +kernel
theorem dX6_addLock_36 : decode cX6_addLock 36 = .ok (.getfield 72, 3) := by decide +kernel
theorem dX6_addLock_39 : decode cX6_addLock 39 = .ok (.iconst 1, 1) := by decide +kernel
theorem dX6_addLock_40 : decode cX6_addLock 40 = .ok (.iadd, 1) := by decide +kernel
theorem dX6_addLock_41 : decode cX6_addLock 41 = .ok (.putfield 72, 3) := by decide +kernel
theorem dX6_addLock_44 : decode cX6_addLock 44 = .ok (.return_, 1) := by decide +kernel
theorem dX6_dropLock_0 : decode cX6_dropLock 0 = .ok (.aload_n 0, 1) := by decide +kernel
theorem dX6_dropLock_1 : decode cX6_dropLock 1 = .ok (.getfield 39, 3) := by decide +kernel
theorem dX6_dropLock_4 : decode cX6_dropLock 4 = .ok (.iload_n 1, 1) := by decide +kernel
theorem dX6_dropLock_5 : decode cX6_dropLock 5 = .ok (.iconst 0, 1) := by decide +kernel
theorem dX6_dropLock_6 : decode cX6_dropLock 6 = .ok (.iastore, 1) := by decide +kernel
theorem dX6_dropLock_7 : decode cX6_dropLock 7 = .ok (.aload_n 0, 1) := by decide +kernel
theorem dX6_dropLock_8 : decode cX6_dropLock 8 = .ok (.dup, 1) := by decide +kernel
theorem dX6_dropLock_9 : decode cX6_dropLock 9 = .ok (.getfield 84, 3) := by decide +kernel
theorem dX6_dropLock_12 : decode cX6_dropLock 12 = .ok (.iconst 1, 1) := by decide +kernel
theorem dX6_dropLock_13 : decode cX6_dropLock 13 = .ok (.isub, 1) := by decide +kernel
theorem dX6_dropLock_14 : decode cX6_dropLock 14 = .ok (.putfield 84, 3) := by decide +kernel
theorem dX6_dropLock_17 : decode cX6_dropLock 17 = .ok (.aload_n 0, 1) := by decide +kernel
theorem dX6_dropLock_18 : decode cX6_dropLock 18 = .ok (.dup, 1) := by decide +kernel
theorem dX6_dropLock_19 : decode cX6_dropLock 19 = .ok (.getfield 72, 3) := by decide +kernel
theorem dX6_dropLock_22 : decode cX6_dropLock 22 = .ok (.iconst 1, 1) := by decide +kernel
theorem dX6_dropLock_23 : decode cX6_dropLock 23 = .ok (.iadd, 1) := by decide +kernel
theorem dX6_dropLock_24 : decode cX6_dropLock 24 = .ok (.putfield 72, 3) := by decide +kernel
theorem dX6_dropLock_27 : decode cX6_dropLock 27 = .ok (.return_, 1) := by decide +kernel
theorem dX6_isLate_0 : decode cX6_isLate 0 = .ok (.iconst 0, 1) := by decide +kernel
theorem dX6_isLate_1 : decode cX6_isLate 1 = .ok (.istore_n 2, 1) := by decide +kernel
theorem dX6_isLate_2 : decode cX6_isLate 2 = .ok (.iload_n 2, 1) := by decide +kernel
theorem dX6_isLate_3 : decode cX6_isLate 3 = .ok (.bipush 8, 2) := by decide +kernel
theorem dX6_isLate_5 : decode cX6_isLate 5 = .ok (.if_icmp .ge 57, 3) := by decide +kernel
theorem dX6_isLate_8 : decode cX6_isLate 8 = .ok (.aload_n 0, 1) := by decide +kernel
theorem dX6_isLate_9 : decode cX6_isLate 9 = .ok (.getfield 48, 3) := by decide +kernel
theorem dX6_isLate_12 : decode cX6_isLate 12 = .ok (.iload_n 2, 1) := by decide +kernel
theorem dX6_isLate_13 : decode cX6_isLate 13 = .ok (.iaload, 1) := by decide +kernel
theorem dX6_isLate_14 : decode cX6_isLate 14 = .ok (.ifCond .le 42, 3) := by decide +kernel
theorem dX6_isLate_17 : decode cX6_isLate 17 = .ok (.aload_n 0, 1) := by decide +kernel
theorem dX6_isLate_18 : decode cX6_isLate 18 = .ok (.getfield 51, 3) := by decide +kernel
theorem dX6_isLate_21 : decode cX6_isLate 21 = .ok (.iload_n 2, 1) := by decide +kernel
theorem dX6_isLate_22 : decode cX6_isLate 22 = .ok (.iaload, 1) := by decide +kernel
theorem dX6_isLate_23 : decode cX6_isLate 23 = .ok (.aload_n 0, 1) := by decide +kernel
theorem dX6_isLate_24 : decode cX6_isLate 24 = .ok (.getfield 39, 3) := by decide +kernel
theorem dX6_isLate_27 : decode cX6_isLate 27 = .ok (.iload_n 1, 1) := by decide +kernel
theorem dX6_isLate_28 : decode cX6_isLate 28 = .ok (.iaload, 1) := by decide +kernel
theorem dX6_isLate_29 : decode cX6_isLate 29 = .ok (.if_icmp .ne 27, 3) := by decide +kernel
theorem dX6_isLate_32 : decode cX6_isLate 32 = .ok (.aload_n 0, 1) := by decide +kernel
theorem dX6_isLate_33 : decode cX6_isLate 33 = .ok (.getfield 103, 3) := by decide +kernel
theorem dX6_isLate_36 : decode cX6_isLate 36 = .ok (.aload_n 0, 1) := by decide +kernel
theorem dX6_isLate_37 : decode cX6_isLate 37 = .ok (.getfield 54, 3) := by decide +kernel
theorem dX6_isLate_40 : decode cX6_isLate 40 = .ok (.iload_n 2, 1) := by decide +kernel
theorem dX6_isLate_41 : decode cX6_isLate 41 = .ok (.iaload, 1) := by decide +kernel
theorem dX6_isLate_42 : decode cX6_isLate 42 = .ok (.isub, 1) := by decide +kernel
theorem dX6_isLate_43 : decode cX6_isLate 43 = .ok (.aload_n 0, 1) := by decide +kernel
theorem dX6_isLate_44 : decode cX6_isLate 44 = .ok (.getfield 7, 3) := by decide +kernel
theorem dX6_isLate_47 : decode cX6_isLate 47 = .ok (.if_icmp .le 7, 3) := by decide +kernel
theorem dX6_isLate_50 : decode cX6_isLate 50 = .ok (.iconst 1, 1) := by decide +kernel
theorem dX6_isLate_51 : decode cX6_isLate 51 = .ok (.goto 4, 3) := by decide +kernel
theorem dX6_isLate_54 : decode cX6_isLate 54 = .ok (.iconst 0, 1) := by decide +kernel
theorem dX6_isLate_55 : decode cX6_isLate 55 = .ok (.ireturn, 1) := by decide +kernel
theorem dX6_isLate_56 : decode cX6_isLate 56 = .ok (.iinc 2 1, 3) := by decide +kernel
theorem dX6_isLate_59 : decode cX6_isLate 59 = .ok (.goto (-57), 3) := by decide +kernel
theorem dX6_isLate_62 : decode cX6_isLate 62 = .ok (.aload_n 0, 1) := by decide +kernel
theorem dX6_isLate_63 : decode cX6_isLate 63 = .ok (.getfield 103, 3) := by decide +kernel
theorem dX6_isLate_66 : decode cX6_isLate 66 = .ok (.aload_n 0, 1) := by decide +kernel
theorem dX6_isLate_67 : decode cX6_isLate 67 = .ok (.getfield 45, 3) := by decide +kernel
theorem dX6_isLate_70 : decode cX6_isLate 70 = .ok (.iload_n 1, 1) := by decide +kernel
theorem dX6_isLate_71 : decode cX6_isLate 71 = .ok (.iaload, 1) := by decide +kernel
theorem dX6_isLate_72 : decode cX6_isLate 72 = .ok (.isub, 1) := by decide +kernel
theorem dX6_isLate_73 : decode cX6_isLate 73 = .ok (.aload_n 0, 1) := by decide +kernel
theorem dX6_isLate_74 : decode cX6_isLate 74 = .ok (.getfield 7, 3) := by decide +kernel
theorem dX6_isLate_77 : decode cX6_isLate 77 = .ok (.if_icmp .le 7, 3) := by decide +kernel
theorem dX6_isLate_80 : decode cX6_isLate 80 = .ok (.iconst 1, 1) := by decide +kernel
theorem dX6_isLate_81 : decode cX6_isLate 81 = .ok (.goto 4, 3) := by decide +kernel
theorem dX6_isLate_84 : decode cX6_isLate 84 = .ok (.iconst 0, 1) := by decide +kernel
theorem dX6_isLate_85 : decode cX6_isLate 85 = .ok (.ireturn, 1) := by decide +kernel
theorem dX6_isDecided_0 : decode cX6_isDecided 0 = .ok (.aload_n 0, 1) := by decide +kernel
theorem dX6_isDecided_1 : decode cX6_isDecided 1 = .ok (.getfield 39, 3) := by decide +kernel
theorem dX6_isDecided_4 : decode cX6_isDecided 4 = .ok (.aload_n 0, 1) := by decide +kernel
theorem dX6_isDecided_5 : decode cX6_isDecided 5 = .ok (.getfield 42, 3) := by decide +kernel
theorem dX6_isDecided_8 : decode cX6_isDecided 8 = .ok (.iload_n 1, 1) := by decide +kernel
theorem dX6_isDecided_9 : decode cX6_isDecided 9 = .ok (.iaload, 1) := by decide +kernel
theorem dX6_isDecided_10 : decode cX6_isDecided 10 = .ok (.iaload, 1) := by decide +kernel
theorem dX6_isDecided_11 : decode cX6_isDecided 11 = .ok (.aload_n 0, 1) := by decide +kernel
theorem dX6_isDecided_12 : decode cX6_isDecided 12 = .ok (.getfield 39, 3) := by decide +kernel
theorem dX6_isDecided_15 : decode cX6_isDecided 15 = .ok (.iload_n 1, 1) := by decide +kernel
theorem dX6_isDecided_16 : decode cX6_isDecided 16 = .ok (.iaload, 1) := by decide +kernel
theorem dX6_isDecided_17 : decode cX6_isDecided 17 = .ok (.if_icmp .eq 7, 3) := by decide +kernel
theorem dX6_isDecided_20 : decode cX6_isDecided 20 = .ok (.iconst 1, 1) := by decide +kernel
theorem dX6_isDecided_21 : decode cX6_isDecided 21 = .ok (.goto 4, 3) := by decide +kernel
theorem dX6_isDecided_24 : decode cX6_isDecided 24 = .ok (.iconst 0, 1) := by decide +kernel
theorem dX6_isDecided_25 : decode cX6_isDecided 25 = .ok (.ireturn, 1) := by decide +kernel
theorem dX6_clean_0 : decode cX6_clean 0 = .ok (.aload_n 0, 1) := by decide +kernel
theorem dX6_clean_1 : decode cX6_clean 1 = .ok (.getfield 39, 3) := by decide +kernel
theorem dX6_clean_4 : decode cX6_clean 4 = .ok (.iload_n 1, 1) := by decide +kernel
theorem dX6_clean_5 : decode cX6_clean 5 = .ok (.iaload, 1) := by decide +kernel
theorem dX6_clean_6 : decode cX6_clean 6 = .ok (.istore_n 2, 1) := by decide +kernel
theorem dX6_clean_7 : decode cX6_clean 7 = .ok (.aload_n 0, 1) := by decide +kernel
theorem dX6_clean_8 : decode cX6_clean 8 = .ok (.getfield 42, 3) := by decide +kernel
theorem dX6_clean_11 : decode cX6_clean 11 = .ok (.iload_n 1, 1) := by decide +kernel
theorem dX6_clean_12 : decode cX6_clean 12 = .ok (.iaload, 1) := by decide +kernel
theorem dX6_clean_13 : decode cX6_clean 13 = .ok (.istore_n 3, 1) := by decide +kernel
theorem dX6_clean_14 : decode cX6_clean 14 = .ok (.aload_n 0, 1) := by decide +kernel
theorem dX6_clean_15 : decode cX6_clean 15 = .ok (.dup, 1) := by decide +kernel
theorem dX6_clean_16 : decode cX6_clean 16 = .ok (.getfield 106, 3) := by decide +kernel
theorem dX6_clean_19 : decode cX6_clean 19 = .ok (.iconst 1, 1) := by decide +kernel
theorem dX6_clean_20 : decode cX6_clean 20 = .ok (.iadd, 1) := by decide +kernel
theorem dX6_clean_21 : decode cX6_clean 21 = .ok (.putfield 106, 3) := by decide +kernel
theorem dX6_clean_24 : decode cX6_clean 24 = .ok (.aload_n 0, 1) := by decide +kernel
theorem dX6_clean_25 : decode cX6_clean 25 = .ok (.getfield 39, 3) := by decide +kernel
theorem dX6_clean_28 : decode cX6_clean 28 = .ok (.iload_n 3, 1) := by decide +kernel
theorem dX6_clean_29 : decode cX6_clean 29 = .ok (.iaload, 1) := by decide +kernel
theorem dX6_clean_30 : decode cX6_clean 30 = .ok (.iload_n 2, 1) := by decide +kernel
theorem dX6_clean_31 : decode cX6_clean 31 = .ok (.if_icmp .ne 23, 3) := by decide +kernel
theorem dX6_clean_34 : decode cX6_clean 34 = .ok (.aload_n 0, 1) := by decide +kernel
theorem dX6_clean_35 : decode cX6_clean 35 = .ok (.iload_n 3, 1) := by decide +kernel
theorem dX6_clean_36 : decode cX6_clean 36 = .ok (.invokevirtual 109, 3) := by decide +kernel
theorem dX6_clean_39 : decode cX6_clean 39 = .ok (.aload_n 0, 1) := by decide +kernel
theorem dX6_clean_40 : decode cX6_clean 40 = .ok (.iload_n 3, 1) := by decide +kernel
theorem dX6_clean_41 : decode cX6_clean 41 = .ok (.iload_n 2, 1) := by decide +kernel
theorem dX6_clean_42 : decode cX6_clean 42 = .ok (.invokevirtual 113, 3) := by decide +kernel
theorem dX6_clean_45 : decode cX6_clean 45 = .ok (.aload_n 0, 1) := by decide +kernel
theorem dX6_clean_46 : decode cX6_clean 46 = .ok (.iload_n 3, 1) := by decide +kernel
theorem dX6_clean_47 : decode cX6_clean 47 = .ok (.iload_n 2, 1) := by decide +kernel
theorem dX6_clean_48 : decode cX6_clean 48 = .ok (.iload_n 2, 1) := by decide +kernel
theorem dX6_clean_49 : decode cX6_clean 49 = .ok (.iconst 1, 1) := by decide +kernel
theorem dX6_clean_50 : decode cX6_clean 50 = .ok (.invokevirtual 117, 3) := by decide +kernel
theorem dX6_clean_53 : decode cX6_clean 53 = .ok (.return_, 1) := by decide +kernel
theorem dX6_clean_54 : decode cX6_clean 54 = .ok (.iconst 0, 1) := by decide +kernel
theorem dX6_clean_55 : decode cX6_clean 55 = .ok (.istore 4, 2) := by decide +kernel
theorem dX6_clean_57 : decode cX6_clean 57 = .ok (.iload 4, 2) := by decide +kernel
theorem dX6_clean_59 : decode cX6_clean 59 = .ok (.aload_n 0, 1) := by decide +kernel
theorem dX6_clean_60 : decode cX6_clean 60 = .ok (.getfield 81, 3) := by decide +kernel
theorem dX6_clean_63 : decode cX6_clean 63 = .ok (.if_icmp .ge 61, 3) := by decide +kernel
theorem dX6_clean_66 : decode cX6_clean 66 = .ok (.aload_n 0, 1) := by decide +kernel
theorem dX6_clean_67 : decode cX6_clean 67 = .ok (.getfield 26, 3) := by decide +kernel
theorem dX6_clean_70 : decode cX6_clean 70 = .ok (.iload 4, 2) := by decide +kernel
theorem dX6_clean_72 : decode cX6_clean 72 = .ok (.iaload, 1) := by decide +kernel
theorem dX6_clean_73 : decode cX6_clean 73 = .ok (.iload_n 3, 1) := by decide +kernel
theorem dX6_clean_74 : decode cX6_clean 74 = .ok (.if_icmp .ne 44, 3) := by decide +kernel
theorem dX6_clean_77 : decode cX6_clean 77 = .ok (.aload_n 0, 1) := by decide +kernel
theorem dX6_clean_78 : decode cX6_clean 78 = .ok (.getfield 35, 3) := by decide +kernel
theorem dX6_clean_81 : decode cX6_clean 81 = .ok (.iload 4, 2) := by decide +kernel
theorem dX6_clean_83 : decode cX6_clean 83 = .ok (.baload, 1) := by decide +kernel
theorem dX6_clean_84 : decode cX6_clean 84 = .ok (.ifCond .ne 34, 3) := by decide +kernel
theorem dX6_clean_87 : decode cX6_clean 87 = .ok (.aload_n 0, 1) := by decide +kernel
theorem dX6_clean_88 : decode cX6_clean 88 = .ok (.getfield 32, 3) := by decide +kernel
theorem dX6_clean_91 : decode cX6_clean 91 = .ok (.iload 4, 2) := by decide +kernel
theorem dX6_clean_93 : decode cX6_clean 93 = .ok (.iaload, 1) := by decide +kernel
theorem dX6_clean_94 : decode cX6_clean 94 = .ok (.iload_n 2, 1) := by decide +kernel
theorem dX6_clean_95 : decode cX6_clean 95 = .ok (.if_icmp .ne 23, 3) := by decide +kernel
theorem dX6_clean_98 : decode cX6_clean 98 = .ok (.aload_n 0, 1) := by decide +kernel
theorem dX6_clean_99 : decode cX6_clean 99 = .ok (.iload_n 1, 1) := by decide +kernel
theorem dX6_clean_100 : decode cX6_clean 100 = .ok (.aload_n 0, 1) := by decide +kernel
theorem dX6_clean_101 : decode cX6_clean 101 = .ok (.getfield 29, 3) := by decide +kernel
theorem dX6_clean_104 : decode cX6_clean 104 = .ok (.iload 4, 2) := by decide +kernel
theorem dX6_clean_106 : decode cX6_clean 106 = .ok (.iaload, 1) := by decide +kernel
theorem dX6_clean_107 : decode cX6_clean 107 = .ok (.iload_n 2, 1) := by decide +kernel
theorem dX6_clean_108 : decode cX6_clean 108 = .ok (.iconst 0, 1) := by decide +kernel
theorem dX6_clean_109 : decode cX6_clean 109 = .ok (.invokevirtual 117, 3) := by decide +kernel
theorem dX6_clean_112 : decode cX6_clean 112 = .ok (.aload_n 0, 1) := by decide +kernel
theorem dX6_clean_113 : decode cX6_clean 113 = .ok (.iload_n 1, 1) := by decide +kernel
theorem dX6_clean_114 : decode cX6_clean 114 = .ok (.invokevirtual 109, 3) := by decide +kernel
theorem dX6_clean_117 : decode cX6_clean 117 = .ok (.return_, 1) := by decide +kernel
theorem dX6_clean_118 : decode cX6_clean 118 = .ok (.iinc 4 1, 3) := by decide +kernel
theorem dX6_clean_121 : decode cX6_clean 121 = .ok (.goto (-64), 3) := by decide +kernel
theorem dX6_clean_124 : decode cX6_clean 124 = .ok (.aload_n 0, 1) := by decide +kernel
theorem dX6_clean_125 : decode cX6_clean 125 = .ok (.iload_n 1, 1) := by decide +kernel
theorem dX6_clean_126 : decode cX6_clean 126 = .ok (.invokevirtual 109, 3) := by decide +kernel
theorem dX6_clean_129 : decode cX6_clean 129 = .ok (.aload_n 0, 1) := by decide +kernel
theorem dX6_clean_130 : decode cX6_clean 130 = .ok (.iload_n 1, 1) := by decide +kernel
theorem dX6_clean_131 : decode cX6_clean 131 = .ok (.iload_n 2, 1) := by decide +kernel
theorem dX6_clean_132 : decode cX6_clean 132 = .ok (.invokevirtual 113, 3) := by decide +kernel
theorem dX6_clean_135 : decode cX6_clean 135 = .ok (.return_, 1) := by decide +kernel
theorem dX6_ownAt_0 : decode cX6_ownAt 0 = .ok (.iconst 0, 1) := by decide +kernel
theorem dX6_ownAt_1 : decode cX6_ownAt 1 = .ok (.istore_n 3, 1) := by decide +kernel
theorem dX6_ownAt_2 : decode cX6_ownAt 2 = .ok (.iload_n 3, 1) := by decide +kernel
theorem dX6_ownAt_3 : decode cX6_ownAt 3 = .ok (.aload_n 0, 1) := by decide +kernel
theorem dX6_ownAt_4 : decode cX6_ownAt 4 = .ok (.getfield 57, 3) := by decide +kernel
theorem dX6_ownAt_7 : decode cX6_ownAt 7 = .ok (.iload_n 1, 1) := by decide +kernel
theorem dX6_ownAt_8 : decode cX6_ownAt 8 = .ok (.iaload, 1) := by decide +kernel
theorem dX6_ownAt_9 : decode cX6_ownAt 9 = .ok (.if_icmp .ge 26, 3) := by decide +kernel
theorem dX6_ownAt_12 : decode cX6_ownAt 12 = .ok (.aload_n 0, 1) := by decide +kernel
theorem dX6_ownAt_13 : decode cX6_ownAt 13 = .ok (.getfield 60, 3) := by decide +kernel
theorem dX6_ownAt_16 : decode cX6_ownAt 16 = .ok (.bipush 16, 2) := by decide +kernel
theorem dX6_ownAt_18 : decode cX6_ownAt 18 = .ok (.iload_n 1, 1) := by decide +kernel
theorem dX6_ownAt_19 : decode cX6_ownAt 19 = .ok (.imul, 1) := by decide +kernel
theorem dX6_ownAt_20 : decode cX6_ownAt 20 = .ok (.iload_n 3, 1) := by decide +kernel
theorem dX6_ownAt_21 : decode cX6_ownAt 21 = .ok (.iadd, 1) := by decide +kernel
theorem dX6_ownAt_22 : decode cX6_ownAt 22 = .ok (.iaload, 1) := by decide +kernel
theorem dX6_ownAt_23 : decode cX6_ownAt 23 = .ok (.iload_n 2, 1) := by decide +kernel
theorem dX6_ownAt_24 : decode cX6_ownAt 24 = .ok (.if_icmp .ne 5, 3) := by decide +kernel
theorem dX6_ownAt_27 : decode cX6_ownAt 27 = .ok (.iload_n 3, 1) := by decide +kernel
theorem dX6_ownAt_28 : decode cX6_ownAt 28 = .ok (.ireturn, 1) := by decide +kernel
theorem dX6_ownAt_29 : decode cX6_ownAt 29 = .ok (.iinc 3 1, 3) := by decide +kernel
theorem dX6_ownAt_32 : decode cX6_ownAt 32 = .ok (.goto (-30), 3) := by decide +kernel
theorem dX6_ownAt_35 : decode cX6_ownAt 35 = .ok (.iconst (-1), 1) := by decide +kernel
theorem dX6_ownAt_36 : decode cX6_ownAt 36 = .ok (.ireturn, 1) := by decide +kernel
theorem dX6_see_0 : decode cX6_see 0 = .ok (.aload_n 0, 1) := by decide +kernel
theorem dX6_see_1 : decode cX6_see 1 = .ok (.iload_n 1, 1) := by decide +kernel
theorem dX6_see_2 : decode cX6_see 2 = .ok (.iload_n 2, 1) := by decide +kernel
theorem dX6_see_3 : decode cX6_see 3 = .ok (.invokevirtual 121, 3) := by decide +kernel
theorem dX6_see_6 : decode cX6_see 6 = .ok (.istore_n 3, 1) := by decide +kernel
theorem dX6_see_7 : decode cX6_see 7 = .ok (.iload_n 3, 1) := by decide +kernel
theorem dX6_see_8 : decode cX6_see 8 = .ok (.ifCond .lt 34, 3) := by decide +kernel
theorem dX6_see_11 : decode cX6_see 11 = .ok (.aload_n 0, 1) := by decide +kernel
theorem dX6_see_12 : decode cX6_see 12 = .ok (.getfield 63, 3) := by decide +kernel
theorem dX6_see_15 : decode cX6_see 15 = .ok (.bipush 16, 2) := by decide +kernel
theorem dX6_see_17 : decode cX6_see 17 = .ok (.iload_n 1, 1) := by decide +kernel
theorem dX6_see_18 : decode cX6_see 18 = .ok (.imul, 1) := by decide +kernel
theorem dX6_see_19 : decode cX6_see 19 = .ok (.iload_n 3, 1) := by decide +kernel
theorem dX6_see_20 : decode cX6_see 20 = .ok (.iadd, 1) := by decide +kernel
theorem dX6_see_21 : decode cX6_see 21 = .ok (.iaload, 1) := by decide +kernel
theorem dX6_see_22 : decode cX6_see 22 = .ok (.ifCond .ge 8, 3) := by decide +kernel
theorem dX6_see_25 : decode cX6_see 25 = .ok (.bipush (-7), 2) := by decide +kernel
theorem dX6_see_27 : decode cX6_see 27 = .ok (.goto 14, 3) := by decide +kernel
theorem dX6_see_30 : decode cX6_see 30 = .ok (.aload_n 0, 1) := by decide +kernel
theorem dX6_see_31 : decode cX6_see 31 = .ok (.getfield 63, 3) := by decide +kernel
theorem dX6_see_34 : decode cX6_see 34 = .ok (.bipush 16, 2) := by decide +kernel
theorem dX6_see_36 : decode cX6_see 36 = .ok (.iload_n 1, 1) := by decide +kernel
theorem dX6_see_37 : decode cX6_see 37 = .ok (.imul, 1) := by decide +kernel
theorem dX6_see_38 : decode cX6_see 38 = .ok (.iload_n 3, 1) := by decide +kernel
theorem dX6_see_39 : decode cX6_see 39 = .ok (.iadd, 1) := by decide +kernel
theorem dX6_see_40 : decode cX6_see 40 = .ok (.iaload, 1) := by decide +kernel
theorem dX6_see_41 : decode cX6_see 41 = .ok (.ireturn, 1) := by decide +kernel
theorem dX6_see_42 : decode cX6_see 42 = .ok (.aload_n 0, 1) := by decide +kernel
theorem dX6_see_43 : decode cX6_see 43 = .ok (.getfield 39, 3) := by decide +kernel
theorem dX6_see_46 : decode cX6_see 46 = .ok (.iload_n 2, 1) := by decide +kernel
theorem dX6_see_47 : decode cX6_see 47 = .ok (.iaload, 1) := by decide +kernel
theorem dX6_see_48 : decode cX6_see 48 = .ok (.ifCond .le 45, 3) := by decide +kernel
theorem dX6_see_51 : decode cX6_see 51 = .ok (.aload_n 0, 1) := by decide +kernel
theorem dX6_see_52 : decode cX6_see 52 = .ok (.getfield 39, 3) := by decide +kernel
theorem dX6_see_55 : decode cX6_see 55 = .ok (.iload_n 2, 1) := by decide +kernel
theorem dX6_see_56 : decode cX6_see 56 = .ok (.iaload, 1) := by decide +kernel
theorem dX6_see_57 : decode cX6_see 57 = .ok (.aload_n 0, 1) := by decide +kernel
theorem dX6_see_58 : decode cX6_see 58 = .ok (.getfield 51, 3) := by decide +kernel
theorem dX6_see_61 : decode cX6_see 61 = .ok (.iload_n 1, 1) := by decide +kernel
theorem dX6_see_62 : decode cX6_see 62 = .ok (.iaload, 1) := by decide +kernel
theorem dX6_see_63 : decode cX6_see 63 = .ok (.if_icmp .ge 30, 3) := by decide +kernel
theorem dX6_see_66 : decode cX6_see 66 = .ok (.aload_n 0, 1) := by decide +kernel
theorem dX6_see_67 : decode cX6_see 67 = .ok (.iload_n 2, 1) := by decide +kernel
theorem dX6_see_68 : decode cX6_see 68 = .ok (.invokevirtual 124, 3) := by decide +kernel
theorem dX6_see_71 : decode cX6_see 71 = .ok (.ifCond .ne 11, 3) := by decide +kernel
theorem dX6_see_74 : decode cX6_see 74 = .ok (.aload_n 0, 1) := by decide +kernel
theorem dX6_see_75 : decode cX6_see 75 = .ok (.iload_n 2, 1) := by decide +kernel
theorem dX6_see_76 : decode cX6_see 76 = .ok (.invokevirtual 128, 3) := by decide +kernel
theorem dX6_see_79 : decode cX6_see 79 = .ok (.ifCond .eq 11, 3) := by decide +kernel
theorem dX6_see_82 : decode cX6_see 82 = .ok (.aload_n 0, 1) := by decide +kernel
theorem dX6_see_83 : decode cX6_see 83 = .ok (.iload_n 2, 1) := by decide +kernel
theorem dX6_see_84 : decode cX6_see 84 = .ok (.invokevirtual 131, 3) := by decide +kernel
theorem dX6_see_87 : decode cX6_see 87 = .ok (.bipush (-5), 2) := by decide +kernel
theorem dX6_see_89 : decode cX6_see 89 = .ok (.ireturn, 1) := by decide +kernel
theorem dX6_see_90 : decode cX6_see 90 = .ok (.bipush (-6), 2) := by decide +kernel
theorem dX6_see_92 : decode cX6_see 92 = .ok (.ireturn, 1) := by decide +kernel
theorem dX6_see_93 : decode cX6_see 93 = .ok (.iconst (-1), 1) := by decide +kernel
theorem dX6_see_94 : decode cX6_see 94 = .ok (.istore 4, 2) := by decide +kernel
theorem dX6_see_96 : decode cX6_see 96 = .ok (.iconst 0, 1) := by decide +kernel
theorem dX6_see_97 : decode cX6_see 97 = .ok (.istore 5, 2) := by decide +kernel
theorem dX6_see_99 : decode cX6_see 99 = .ok (.iload 5, 2) := by decide +kernel
theorem dX6_see_101 : decode cX6_see 101 = .ok (.aload_n 0, 1) := by decide +kernel
theorem dX6_see_102 : decode cX6_see 102 = .ok (.getfield 81, 3) := by decide +kernel
theorem dX6_see_105 : decode cX6_see 105 = .ok (.if_icmp .ge 89, 3) := by decide +kernel
theorem dX6_see_108 : decode cX6_see 108 = .ok (.aload_n 0, 1) := by decide +kernel
theorem dX6_see_109 : decode cX6_see 109 = .ok (.getfield 26, 3) := by decide +kernel
theorem dX6_see_112 : decode cX6_see 112 = .ok (.iload 5, 2) := by decide +kernel
theorem dX6_see_114 : decode cX6_see 114 = .ok (.iaload, 1) := by decide +kernel
theorem dX6_see_115 : decode cX6_see 115 = .ok (.iload_n 2, 1) := by decide +kernel
theorem dX6_see_116 : decode cX6_see 116 = .ok (.if_icmp .ne 33, 3) := by decide +kernel
theorem dX6_see_119 : decode cX6_see 119 = .ok (.aload_n 0, 1) := by decide +kernel
theorem dX6_see_120 : decode cX6_see 120 = .ok (.getfield 35, 3) := by decide +kernel
theorem dX6_see_123 : decode cX6_see 123 = .ok (.iload 5, 2) := by decide +kernel
theorem dX6_see_125 : decode cX6_see 125 = .ok (.baload, 1) := by decide +kernel
theorem dX6_see_126 : decode cX6_see 126 = .ok (.ifCond .ne 23, 3) := by decide +kernel
theorem dX6_see_129 : decode cX6_see 129 = .ok (.aload_n 0, 1) := by decide +kernel
theorem dX6_see_130 : decode cX6_see 130 = .ok (.getfield 29, 3) := by decide +kernel
theorem dX6_see_133 : decode cX6_see 133 = .ok (.iload 5, 2) := by decide +kernel
theorem dX6_see_135 : decode cX6_see 135 = .ok (.iaload, 1) := by decide +kernel
theorem dX6_see_136 : decode cX6_see 136 = .ok (.aload_n 0, 1) := by decide +kernel
theorem dX6_see_137 : decode cX6_see 137 = .ok (.getfield 51, 3) := by decide +kernel
theorem dX6_see_140 : decode cX6_see 140 = .ok (.iload_n 1, 1) := by decide +kernel
theorem dX6_see_141 : decode cX6_see 141 = .ok (.iaload, 1) := by decide +kernel
theorem dX6_see_142 : decode cX6_see 142 = .ok (.if_icmp .gt 7, 3) := by decide +kernel
theorem dX6_see_145 : decode cX6_see 145 = .ok (.iconst 1, 1) := by decide +kernel
theorem dX6_see_146 : decode cX6_see 146 = .ok (.goto 4, 3) := by decide +kernel
theorem dX6_see_149 : decode cX6_see 149 = .ok (.iconst 0, 1) := by decide +kernel
theorem dX6_see_150 : decode cX6_see 150 = .ok (.istore 6, 2) := by decide +kernel
theorem dX6_see_152 : decode cX6_see 152 = .ok (.iload 6, 2) := by decide +kernel
theorem dX6_see_154 : decode cX6_see 154 = .ok (.ifCond .eq 30, 3) := by decide +kernel
theorem dX6_see_157 : decode cX6_see 157 = .ok (.iload 4, 2) := by decide +kernel
theorem dX6_see_159 : decode cX6_see 159 = .ok (.ifCond .lt 20, 3) := by decide +kernel
theorem dX6_see_162 : decode cX6_see 162 = .ok (.aload_n 0, 1) := by decide +kernel
theorem dX6_see_163 : decode cX6_see 163 = .ok (.getfield 29, 3) := by decide +kernel
theorem dX6_see_166 : decode cX6_see 166 = .ok (.iload 5, 2) := by decide +kernel
theorem dX6_see_168 : decode cX6_see 168 = .ok (.iaload, 1) := by decide +kernel
theorem dX6_see_169 : decode cX6_see 169 = .ok (.aload_n 0, 1) := by decide +kernel
theorem dX6_see_170 : decode cX6_see 170 = .ok (.getfield 29, 3) := by decide +kernel
theorem dX6_see_173 : decode cX6_see 173 = .ok (.iload 4, 2) := by decide +kernel
theorem dX6_see_175 : decode cX6_see 175 = .ok (.iaload, 1) := by decide +kernel
theorem dX6_see_176 : decode cX6_see 176 = .ok (.if_icmp .le 8, 3) := by decide +kernel
theorem dX6_see_179 : decode cX6_see 179 = .ok (.iload 5, 2) := by decide +kernel
theorem dX6_see_181 : decode cX6_see 181 = .ok (.goto 5, 3) := by decide +kernel
theorem dX6_see_184 : decode cX6_see 184 = .ok (.iload 4, 2) := by decide +kernel
theorem dX6_see_186 : decode cX6_see 186 = .ok (.istore 4, 2) := by decide +kernel
theorem dX6_see_188 : decode cX6_see 188 = .ok (.iinc 5 1, 3) := by decide +kernel
theorem dX6_see_191 : decode cX6_see 191 = .ok (.goto (-92), 3) := by decide +kernel
theorem dX6_see_194 : decode cX6_see 194 = .ok (.iload 4, 2) := by decide +kernel
theorem dX6_see_196 : decode cX6_see 196 = .ok (.ifCond .ge 6, 3) := by decide +kernel
theorem dX6_see_199 : decode cX6_see 199 = .ok (.bipush (-7), 2) := by decide +kernel
theorem dX6_see_201 : decode cX6_see 201 = .ok (.ireturn, 1) := by decide +kernel
theorem dX6_see_202 : decode cX6_see 202 = .ok (.aload_n 0, 1) := by decide +kernel
theorem dX6_see_203 : decode cX6_see 203 = .ok (.iload_n 2, 1) := by decide +kernel
theorem dX6_see_204 : decode cX6_see 204 = .ok (.aload_n 0, 1) := by decide +kernel
theorem dX6_see_205 : decode cX6_see 205 = .ok (.getfield 32, 3) := by decide +kernel
theorem dX6_see_208 : decode cX6_see 208 = .ok (.iload 4, 2) := by decide +kernel
theorem dX6_see_210 : decode cX6_see 210 = .ok (.iaload, 1) := by decide +kernel
theorem dX6_see_211 : decode cX6_see 211 = .ok (.invokevirtual 99, 3) := by decide +kernel
theorem dX6_see_214 : decode cX6_see 214 = .ok (.istore 5, 2) := by decide +kernel
theorem dX6_see_216 : decode cX6_see 216 = .ok (.iload 5, 2) := by decide +kernel
theorem dX6_see_218 : decode cX6_see 218 = .ok (.ifCond .lt 13, 3) := by decide +kernel
theorem dX6_see_221 : decode cX6_see 221 = .ok (.aload_n 0, 1) := by decide +kernel
theorem dX6_see_222 : decode cX6_see 222 = .ok (.getfield 23, 3) := by decide +kernel
theorem dX6_see_225 : decode cX6_see 225 = .ok (.iload 5, 2) := by decide +kernel
theorem dX6_see_227 : decode cX6_see 227 = .ok (.iaload, 1) := by decide +kernel
theorem dX6_see_228 : decode cX6_see 228 = .ok (.ifCond .ge 8, 3) := by decide +kernel
theorem dX6_see_231 : decode cX6_see 231 = .ok (.bipush (-7), 2) := by decide +kernel
theorem dX6_see_233 : decode cX6_see 233 = .ok (.goto 10, 3) := by decide +kernel
theorem dX6_see_236 : decode cX6_see 236 = .ok (.aload_n 0, 1) := by decide +kernel
theorem dX6_see_237 : decode cX6_see 237 = .ok (.getfield 23, 3) := by decide +kernel
theorem dX6_see_240 : decode cX6_see 240 = .ok (.iload 5, 2) := by decide +kernel
theorem dX6_see_242 : decode cX6_see 242 = .ok (.iaload, 1) := by decide +kernel
theorem dX6_see_243 : decode cX6_see 243 = .ok (.ireturn, 1) := by decide +kernel
theorem dX6_noClient_0 : decode cX6_noClient 0 = .ok (.iload_n 0, 1) := by decide +kernel
theorem dX6_noClient_1 : decode cX6_noClient 1 = .ok (.iconst 0, 1) := by decide +kernel
theorem dX6_noClient_2 : decode cX6_noClient 2 = .ok (.bipush 7, 2) := by decide +kernel
theorem dX6_noClient_4 : decode cX6_noClient 4 = .ok (.invokestatic 134, 3) := by decide +kernel
theorem dX6_noClient_7 : decode cX6_noClient 7 = .ok (.ifCond .ne 7, 3) := by decide +kernel
theorem dX6_noClient_10 : decode cX6_noClient 10 = .ok (.iconst 1, 1) := by decide +kernel
theorem dX6_noClient_11 : decode cX6_noClient 11 = .ok (.goto 4, 3) := by decide +kernel
theorem dX6_noClient_14 : decode cX6_noClient 14 = .ok (.iconst 0, 1) := by decide +kernel
theorem dX6_noClient_15 : decode cX6_noClient 15 = .ok (.ireturn, 1) := by decide +kernel
theorem dX6_noCell_0 : decode cX6_noCell 0 = .ok (.iload_n 0, 1) := by decide +kernel
theorem dX6_noCell_1 : decode cX6_noCell 1 = .ok (.iconst 0, 1) := by decide +kernel
theorem dX6_noCell_2 : decode cX6_noCell 2 = .ok (.bipush 63, 2) := by decide +kernel
theorem dX6_noCell_4 : decode cX6_noCell 4 = .ok (.invokestatic 134, 3) := by decide +kernel
theorem dX6_noCell_7 : decode cX6_noCell 7 = .ok (.ifCond .eq 12, 3) := by decide +kernel
theorem dX6_noCell_10 : decode cX6_noCell 10 = .ok (.iload_n 1, 1) := by decide +kernel
theorem dX6_noCell_11 : decode cX6_noCell 11 = .ok (.iconst 0, 1) := by decide +kernel
theorem dX6_noCell_12 : decode cX6_noCell 12 = .ok (.iconst 3, 1) := by decide +kernel
theorem dX6_noCell_13 : decode cX6_noCell 13 = .ok (.invokestatic 134, 3) := by decide +kernel
theorem dX6_noCell_16 : decode cX6_noCell 16 = .ok (.ifCond .ne 7, 3) := by decide +kernel
theorem dX6_noCell_19 : decode cX6_noCell 19 = .ok (.iconst 1, 1) := by decide +kernel
theorem dX6_noCell_20 : decode cX6_noCell 20 = .ok (.goto 4, 3) := by decide +kernel
theorem dX6_noCell_23 : decode cX6_noCell 23 = .ok (.iconst 0, 1) := by decide +kernel
theorem dX6_noCell_24 : decode cX6_noCell 24 = .ok (.ireturn, 1) := by decide +kernel
theorem dX6_begin_0 : decode cX6_begin 0 = .ok (.aload_n 0, 1) := by decide +kernel
theorem dX6_begin_1 : decode cX6_begin 1 = .ok (.iconst 0, 1) := by decide +kernel
theorem dX6_begin_2 : decode cX6_begin 2 = .ok (.putfield 75, 3) := by decide +kernel
theorem dX6_begin_5 : decode cX6_begin 5 = .ok (.iload_n 1, 1) := by decide +kernel
theorem dX6_begin_6 : decode cX6_begin 6 = .ok (.invokestatic 138, 3) := by decide +kernel
theorem dX6_begin_9 : decode cX6_begin 9 = .ok (.ifCond .eq 5, 3) := by decide +kernel
theorem dX6_begin_12 : decode cX6_begin 12 = .ok (.iconst (-1), 1) := by decide +kernel
theorem dX6_begin_13 : decode cX6_begin 13 = .ok (.ireturn, 1) := by decide +kernel
theorem dX6_begin_14 : decode cX6_begin 14 = .ok (.aload_n 0, 1) := by decide +kernel
theorem dX6_begin_15 : decode cX6_begin 15 = .ok (.getfield 54, 3) := by decide +kernel
theorem dX6_begin_18 : decode cX6_begin 18 = .ok (.iload_n 1, 1) := by decide +kernel
theorem dX6_begin_19 : decode cX6_begin 19 = .ok (.aload_n 0, 1) := by decide +kernel
theorem dX6_begin_20 : decode cX6_begin 20 = .ok (.getfield 103, 3) := by decide +kernel
theorem dX6_begin_23 : decode cX6_begin 23 = .ok (.iastore, 1) := by decide +kernel
theorem dX6_begin_24 : decode cX6_begin 24 = .ok (.aload_n 0, 1) := by decide +kernel
theorem dX6_begin_25 : decode cX6_begin 25 = .ok (.getfield 48, 3) := by decide +kernel
theorem dX6_begin_28 : decode cX6_begin 28 = .ok (.iload_n 1, 1) := by decide +kernel
theorem dX6_begin_29 : decode cX6_begin 29 = .ok (.iaload, 1) := by decide +kernel
theorem dX6_begin_30 : decode cX6_begin 30 = .ok (.ifCond .le 6, 3) := by decide +kernel
theorem dX6_begin_33 : decode cX6_begin 33 = .ok (.bipush (-3), 2) := by decide +kernel
theorem dX6_begin_35 : decode cX6_begin 35 = .ok (.ireturn, 1) := by decide +kernel
theorem dX6_begin_36 : decode cX6_begin 36 = .ok (.aload_n 0, 1) := by decide +kernel
theorem dX6_begin_37 : decode cX6_begin 37 = .ok (.getfield 48, 3) := by decide +kernel
theorem dX6_begin_40 : decode cX6_begin 40 = .ok (.iload_n 1, 1) := by decide +kernel
theorem dX6_begin_41 : decode cX6_begin 41 = .ok (.iconst 1, 1) := by decide +kernel
theorem dX6_begin_42 : decode cX6_begin 42 = .ok (.iastore, 1) := by decide +kernel
theorem dX6_begin_43 : decode cX6_begin 43 = .ok (.aload_n 0, 1) := by decide +kernel
theorem dX6_begin_44 : decode cX6_begin 44 = .ok (.getfield 51, 3) := by decide +kernel
theorem dX6_begin_47 : decode cX6_begin 47 = .ok (.iload_n 1, 1) := by decide +kernel
theorem dX6_begin_48 : decode cX6_begin 48 = .ok (.aload_n 0, 1) := by decide +kernel
theorem dX6_begin_49 : decode cX6_begin 49 = .ok (.invokevirtual 141, 3) := by decide +kernel
theorem dX6_begin_52 : decode cX6_begin 52 = .ok (.iastore, 1) := by decide +kernel
theorem dX6_begin_53 : decode cX6_begin 53 = .ok (.aload_n 0, 1) := by decide +kernel
theorem dX6_begin_54 : decode cX6_begin 54 = .ok (.getfield 57, 3) := by decide +kernel
theorem dX6_begin_57 : decode cX6_begin 57 = .ok (.iload_n 1, 1) := by decide +kernel
theorem dX6_begin_58 : decode cX6_begin 58 = .ok (.iconst 0, 1) := by decide +kernel
theorem dX6_begin_59 : decode cX6_begin 59 = .ok (.iastore, 1) := by decide +kernel
theorem dX6_begin_60 : decode cX6_begin 60 = .ok (.aload_n 0, 1) := by decide +kernel
theorem dX6_begin_61 : decode cX6_begin 61 = .ok (.getfield 66, 3) := by decide +kernel
theorem dX6_begin_64 : decode cX6_begin 64 = .ok (.iload_n 1, 1) := by decide +kernel
theorem dX6_begin_65 : decode cX6_begin 65 = .ok (.iconst 0, 1) := by decide +kernel
theorem dX6_begin_66 : decode cX6_begin 66 = .ok (.iastore, 1) := by decide +kernel
theorem dX6_begin_67 : decode cX6_begin 67 = .ok (.aload_n 0, 1) := by decide +kernel
theorem dX6_begin_68 : decode cX6_begin 68 = .ok (.getfield 69, 3) := by decide +kernel
theorem dX6_begin_71 : decode cX6_begin 71 = .ok (.iload_n 1, 1) := by decide +kernel
theorem dX6_begin_72 : decode cX6_begin 72 = .ok (.iconst 0, 1) := by decide +kernel
theorem dX6_begin_73 : decode cX6_begin 73 = .ok (.iastore, 1) := by decide +kernel
theorem dX6_begin_74 : decode cX6_begin 74 = .ok (.aload_n 0, 1) := by decide +kernel
theorem dX6_begin_75 : decode cX6_begin 75 = .ok (.getfield 51, 3) := by decide +kernel
theorem dX6_begin_78 : decode cX6_begin 78 = .ok (.iload_n 1, 1) := by decide +kernel
theorem dX6_begin_79 : decode cX6_begin 79 = .ok (.iaload, 1) := by decide +kernel
theorem dX6_begin_80 : decode cX6_begin 80 = .ok (.ireturn, 1) := by decide +kernel
theorem dX6_read_0 : decode cX6_read 0 = .ok (.aload_n 0, 1) := by decide +kernel
theorem dX6_read_1 : decode cX6_read 1 = .ok (.iconst 0, 1) := by decide +kernel
theorem dX6_read_2 : decode cX6_read 2 = .ok (.putfield 75, 3) := by decide +kernel
theorem dX6_read_5 : decode cX6_read 5 = .ok (.iload_n 1, 1) := by decide +kernel
theorem dX6_read_6 : decode cX6_read 6 = .ok (.invokestatic 138, 3) := by decide +kernel
theorem dX6_read_9 : decode cX6_read 9 = .ok (.ifCond .ne 11, 3) := by decide +kernel
theorem dX6_read_12 : decode cX6_read 12 = .ok (.iload_n 2, 1) := by decide +kernel
theorem dX6_read_13 : decode cX6_read 13 = .ok (.iload_n 3, 1) := by decide +kernel
theorem dX6_read_14 : decode cX6_read 14 = .ok (.invokestatic 145, 3) := by decide +kernel
theorem dX6_read_17 : decode cX6_read 17 = .ok (.ifCond .eq 5, 3) := by decide +kernel
theorem dX6_read_20 : decode cX6_read 20 = .ok (.iconst (-1), 1) := by decide +kernel
theorem dX6_read_21 : decode cX6_read 21 = .ok (.ireturn, 1) := by decide +kernel
theorem dX6_read_22 : decode cX6_read 22 = .ok (.aload_n 0, 1) := by decide +kernel
theorem dX6_read_23 : decode cX6_read 23 = .ok (.getfield 54, 3) := by decide +kernel
theorem dX6_read_26 : decode cX6_read 26 = .ok (.iload_n 1, 1) := by decide +kernel
theorem dX6_read_27 : decode cX6_read 27 = .ok (.aload_n 0, 1) := by decide +kernel
theorem dX6_read_28 : decode cX6_read 28 = .ok (.getfield 103, 3) := by decide +kernel
theorem dX6_read_31 : decode cX6_read 31 = .ok (.iastore, 1) := by decide +kernel
theorem dX6_read_32 : decode cX6_read 32 = .ok (.aload_n 0, 1) := by decide +kernel
theorem dX6_read_33 : decode cX6_read 33 = .ok (.getfield 48, 3) := by decide +kernel
theorem dX6_read_36 : decode cX6_read 36 = .ok (.iload_n 1, 1) := by decide +kernel
theorem dX6_read_37 : decode cX6_read 37 = .ok (.iaload, 1) := by decide +kernel
theorem dX6_read_38 : decode cX6_read 38 = .ok (.iconst 1, 1) := by decide +kernel
theorem dX6_read_39 : decode cX6_read 39 = .ok (.if_icmp .eq 8, 3) := by decide +kernel
theorem dX6_read_42 : decode cX6_read 42 = .ok (.bipush (-3), 2) := by decide +kernel
theorem dX6_read_44 : decode cX6_read 44 = .ok (.goto 17, 3) := by decide +kernel
theorem dX6_read_47 : decode cX6_read 47 = .ok (.aload_n 0, 1) := by decide +kernel
theorem dX6_read_48 : decode cX6_read 48 = .ok (.aload_n 0, 1) := by decide +kernel
theorem dX6_read_49 : decode cX6_read 49 = .ok (.iload_n 1, 1) := by decide +kernel
theorem dX6_read_50 : decode cX6_read 50 = .ok (.iconst 4, 1) := by decide +kernel
theorem dX6_read_51 : decode cX6_read 51 = .ok (.iload_n 2, 1) := by decide +kernel
theorem dX6_read_52 : decode cX6_read 52 = .ok (.imul, 1) := by decide +kernel
theorem dX6_read_53 : decode cX6_read 53 = .ok (.iload_n 3, 1) := by decide +kernel
theorem dX6_read_54 : decode cX6_read 54 = .ok (.iadd, 1) := by decide +kernel
theorem dX6_read_55 : decode cX6_read 55 = .ok (.invokevirtual 149, 3) := by decide +kernel
theorem dX6_read_58 : decode cX6_read 58 = .ok (.invokevirtual 152, 3) := by decide +kernel
theorem dX6_read_61 : decode cX6_read 61 = .ok (.ireturn, 1) := by decide +kernel
theorem dX6_next_0 : decode cX6_next 0 = .ok (.aload_n 0, 1) := by decide +kernel
theorem dX6_next_1 : decode cX6_next 1 = .ok (.iconst 0, 1) := by decide +kernel
theorem dX6_next_2 : decode cX6_next 2 = .ok (.putfield 75, 3) := by decide +kernel
theorem dX6_next_5 : decode cX6_next 5 = .ok (.iload_n 1, 1) := by decide +kernel
theorem dX6_next_6 : decode cX6_next 6 = .ok (.invokestatic 138, 3) := by decide +kernel
theorem dX6_next_9 : decode cX6_next 9 = .ok (.ifCond .ne 13, 3) := by decide +kernel
theorem dX6_next_12 : decode cX6_next 12 = .ok (.iload_n 2, 1) := by decide +kernel
theorem dX6_next_13 : decode cX6_next 13 = .ok (.iconst 0, 1) := by decide +kernel
theorem dX6_next_14 : decode cX6_next 14 = .ok (.bipush 63, 2) := by decide +kernel
theorem dX6_next_16 : decode cX6_next 16 = .ok (.invokestatic 134, 3) := by decide +kernel
theorem dX6_next_19 : decode cX6_next 19 = .ok (.ifCond .ne 5, 3) := by decide +kernel
theorem dX6_next_22 : decode cX6_next 22 = .ok (.iconst (-1), 1) := by decide +kernel
theorem dX6_next_23 : decode cX6_next 23 = .ok (.ireturn, 1) := by decide +kernel
theorem dX6_next_24 : decode cX6_next 24 = .ok (.aload_n 0, 1) := by decide +kernel
theorem dX6_next_25 : decode cX6_next 25 = .ok (.getfield 54, 3) := by decide +kernel
theorem dX6_next_28 : decode cX6_next 28 = .ok (.iload_n 1, 1) := by decide +kernel
theorem dX6_next_29 : decode cX6_next 29 = .ok (.aload_n 0, 1) := by decide +kernel
theorem dX6_next_30 : decode cX6_next 30 = .ok (.getfield 103, 3) := by decide +kernel
theorem dX6_next_33 : decode cX6_next 33 = .ok (.iastore, 1) := by decide +kernel
theorem dX6_next_34 : decode cX6_next 34 = .ok (.aload_n 0, 1) := by decide +kernel
theorem dX6_next_35 : decode cX6_next 35 = .ok (.getfield 48, 3) := by decide +kernel
theorem dX6_next_38 : decode cX6_next 38 = .ok (.iload_n 1, 1) := by decide +kernel
theorem dX6_next_39 : decode cX6_next 39 = .ok (.iaload, 1) := by decide +kernel
theorem dX6_next_40 : decode cX6_next 40 = .ok (.iconst 1, 1) := by decide +kernel
theorem dX6_next_41 : decode cX6_next 41 = .ok (.if_icmp .eq 6, 3) := by decide +kernel
theorem dX6_next_44 : decode cX6_next 44 = .ok (.bipush (-3), 2) := by decide +kernel
theorem dX6_next_46 : decode cX6_next 46 = .ok (.ireturn, 1) := by decide +kernel
theorem dX6_next_47 : decode cX6_next 47 = .ok (.iconst 4, 1) := by decide +kernel
theorem dX6_next_48 : decode cX6_next 48 = .ok (.iload_n 2, 1) := by decide +kernel
theorem dX6_next_49 : decode cX6_next 49 = .ok (.imul, 1) := by decide +kernel
theorem dX6_next_50 : decode cX6_next 50 = .ok (.istore_n 3, 1) := by decide +kernel
theorem dX6_next_51 : decode cX6_next 51 = .ok (.iload_n 3, 1) := by decide +kernel
theorem dX6_next_52 : decode cX6_next 52 = .ok (.sipush 256, 3) := by decide +kernel
theorem dX6_next_55 : decode cX6_next 55 = .ok (.if_icmp .ge 42, 3) := by decide +kernel
theorem dX6_next_58 : decode cX6_next 58 = .ok (.aload_n 0, 1) := by decide +kernel
theorem dX6_next_59 : decode cX6_next 59 = .ok (.iload_n 1, 1) := by decide +kernel
theorem dX6_next_60 : decode cX6_next 60 = .ok (.iload_n 3, 1) := by decide +kernel
theorem dX6_next_61 : decode cX6_next 61 = .ok (.invokevirtual 149, 3) := by decide +kernel
theorem dX6_next_64 : decode cX6_next 64 = .ok (.istore 4, 2) := by decide +kernel
theorem dX6_next_66 : decode cX6_next 66 = .ok (.iload 4, 2) := by decide +kernel
theorem dX6_next_68 : decode cX6_next 68 = .ok (.bipush (-7), 2) := by decide +kernel
theorem dX6_next_70 : decode cX6_next 70 = .ok (.if_icmp .eq 21, 3) := by decide +kernel
theorem dX6_next_73 : decode cX6_next 73 = .ok (.aload_n 0, 1) := by decide +kernel
theorem dX6_next_74 : decode cX6_next 74 = .ok (.iload 4, 2) := by decide +kernel
theorem dX6_next_76 : decode cX6_next 76 = .ok (.ifCond .ge 8, 3) := by decide +kernel
theorem dX6_next_79 : decode cX6_next 79 = .ok (.iload 4, 2) := by decide +kernel
theorem dX6_next_81 : decode cX6_next 81 = .ok (.goto 6, 3) := by decide +kernel
theorem dX6_next_84 : decode cX6_next 84 = .ok (.iload_n 3, 1) := by decide +kernel
theorem dX6_next_85 : decode cX6_next 85 = .ok (.iconst 4, 1) := by decide +kernel
theorem dX6_next_86 : decode cX6_next 86 = .ok (.idiv, 1) := by decide +kernel
theorem dX6_next_87 : decode cX6_next 87 = .ok (.invokevirtual 152, 3) := by decide +kernel
theorem dX6_next_90 : decode cX6_next 90 = .ok (.ireturn, 1) := by decide +kernel
theorem dX6_next_91 : decode cX6_next 91 = .ok (.iinc 3 1, 3) := by decide +kernel
theorem dX6_next_94 : decode cX6_next 94 = .ok (.goto (-43), 3) := by decide +kernel
theorem dX6_next_97 : decode cX6_next 97 = .ok (.bipush (-7), 2) := by decide +kernel
theorem dX6_next_99 : decode cX6_next 99 = .ok (.ireturn, 1) := by decide +kernel
theorem dX6_write_0 : decode cX6_write 0 = .ok (.aload_n 0, 1) := by decide +kernel
theorem dX6_write_1 : decode cX6_write 1 = .ok (.iconst 0, 1) := by decide +kernel
theorem dX6_write_2 : decode cX6_write 2 = .ok (.putfield 75, 3) := by decide +kernel
theorem dX6_write_5 : decode cX6_write 5 = .ok (.iload_n 1, 1) := by decide +kernel
theorem dX6_write_6 : decode cX6_write 6 = .ok (.invokestatic 138, 3) := by decide +kernel
theorem dX6_write_9 : decode cX6_write 9 = .ok (.ifCond .ne 11, 3) := by decide +kernel
theorem dX6_write_12 : decode cX6_write 12 = .ok (.iload_n 2, 1) := by decide +kernel
theorem dX6_write_13 : decode cX6_write 13 = .ok (.iload_n 3, 1) := by decide +kernel
theorem dX6_write_14 : decode cX6_write 14 = .ok (.invokestatic 145, 3) := by decide +kernel
theorem dX6_write_17 : decode cX6_write 17 = .ok (.ifCond .eq 5, 3) := by decide +kernel
theorem dX6_write_20 : decode cX6_write 20 = .ok (.iconst (-1), 1) := by decide +kernel
theorem dX6_write_21 : decode cX6_write 21 = .ok (.ireturn, 1) := by decide +kernel
theorem dX6_write_22 : decode cX6_write 22 = .ok (.aload_n 0, 1) := by decide +kernel
theorem dX6_write_23 : decode cX6_write 23 = .ok (.getfield 54, 3) := by decide +kernel
theorem dX6_write_26 : decode cX6_write 26 = .ok (.iload_n 1, 1) := by decide +kernel
theorem dX6_write_27 : decode cX6_write 27 = .ok (.aload_n 0, 1) := by decide +kernel
theorem dX6_write_28 : decode cX6_write 28 = .ok (.getfield 103, 3) := by decide +kernel
theorem dX6_write_31 : decode cX6_write 31 = .ok (.iastore, 1) := by decide +kernel
theorem dX6_write_32 : decode cX6_write 32 = .ok (.iload 4, 2) := by decide +kernel
theorem dX6_write_34 : decode cX6_write 34 = .ok (.iconst (-1), 1) := by decide +kernel
theorem dX6_write_35 : decode cX6_write 35 = .ok (.if_icmp .ge 6, 3) := by decide +kernel
theorem dX6_write_38 : decode cX6_write 38 = .ok (.bipush (-2), 2) := by decide +kernel
theorem dX6_write_40 : decode cX6_write 40 = .ok (.ireturn, 1) := by decide +kernel
theorem dX6_write_41 : decode cX6_write 41 = .ok (.aload_n 0, 1) := by decide +kernel
theorem dX6_write_42 : decode cX6_write 42 = .ok (.getfield 48, 3) := by decide +kernel
theorem dX6_write_45 : decode cX6_write 45 = .ok (.iload_n 1, 1) := by decide +kernel
theorem dX6_write_46 : decode cX6_write 46 = .ok (.iaload, 1) := by decide +kernel
theorem dX6_write_47 : decode cX6_write 47 = .ok (.iconst 1, 1) := by decide +kernel
theorem dX6_write_48 : decode cX6_write 48 = .ok (.if_icmp .eq 6, 3) := by decide +kernel
theorem dX6_write_51 : decode cX6_write 51 = .ok (.bipush (-3), 2) := by decide +kernel
theorem dX6_write_53 : decode cX6_write 53 = .ok (.ireturn, 1) := by decide +kernel
theorem dX6_write_54 : decode cX6_write 54 = .ok (.aload_n 0, 1) := by decide +kernel
theorem dX6_write_55 : decode cX6_write 55 = .ok (.iload_n 1, 1) := by decide +kernel
theorem dX6_write_56 : decode cX6_write 56 = .ok (.iconst 4, 1) := by decide +kernel
theorem dX6_write_57 : decode cX6_write 57 = .ok (.iload_n 2, 1) := by decide +kernel
theorem dX6_write_58 : decode cX6_write 58 = .ok (.imul, 1) := by decide +kernel
theorem dX6_write_59 : decode cX6_write 59 = .ok (.iload_n 3, 1) := by decide +kernel
theorem dX6_write_60 : decode cX6_write 60 = .ok (.iadd, 1) := by decide +kernel
theorem dX6_write_61 : decode cX6_write 61 = .ok (.invokevirtual 121, 3) := by decide +kernel
theorem dX6_write_64 : decode cX6_write 64 = .ok (.istore 5, 2) := by decide +kernel
theorem dX6_write_66 : decode cX6_write 66 = .ok (.iload 5, 2) := by decide +kernel
theorem dX6_write_68 : decode cX6_write 68 = .ok (.ifCond .ge 17, 3) := by decide +kernel
theorem dX6_write_71 : decode cX6_write 71 = .ok (.aload_n 0, 1) := by decide +kernel
theorem dX6_write_72 : decode cX6_write 72 = .ok (.getfield 57, 3) := by decide +kernel
theorem dX6_write_75 : decode cX6_write 75 = .ok (.iload_n 1, 1) := by decide +kernel
theorem dX6_write_76 : decode cX6_write 76 = .ok (.iaload, 1) := by decide +kernel
theorem dX6_write_77 : decode cX6_write 77 = .ok (.bipush 16, 2) := by decide +kernel
theorem dX6_write_79 : decode cX6_write 79 = .ok (.if_icmp .ne 6, 3) := by decide +kernel
theorem dX6_write_82 : decode cX6_write 82 = .ok (.bipush (-4), 2) := by decide +kernel
theorem dX6_write_84 : decode cX6_write 84 = .ok (.ireturn, 1) := by decide +kernel
theorem dX6_write_85 : decode cX6_write 85 = .ok (.iload 5, 2) := by decide +kernel
theorem dX6_write_87 : decode cX6_write 87 = .ok (.ifCond .ge 21, 3) := by decide +kernel
theorem dX6_write_90 : decode cX6_write 90 = .ok (.aload_n 0, 1) := by decide +kernel
theorem dX6_write_91 : decode cX6_write 91 = .ok (.getfield 57, 3) := by decide +kernel
theorem dX6_write_94 : decode cX6_write 94 = .ok (.iload_n 1, 1) := by decide +kernel
theorem dX6_write_95 : decode cX6_write 95 = .ok (.iaload, 1) := by decide +kernel
theorem dX6_write_96 : decode cX6_write 96 = .ok (.istore 5, 2) := by decide +kernel
theorem dX6_write_98 : decode cX6_write 98 = .ok (.aload_n 0, 1) := by decide +kernel
theorem dX6_write_99 : decode cX6_write 99 = .ok (.getfield 57, 3) := by decide +kernel
theorem dX6_write_102 : decode cX6_write 102 = .ok (.iload_n 1, 1) := by decide +kernel
theorem dX6_write_103 : decode cX6_write 103 = .ok (.dup2, 1) := by decide +kernel
theorem dX6_write_104 : decode cX6_write 104 = .ok (.iaload, 1) := by decide +kernel
theorem dX6_write_105 : decode cX6_write 105 = .ok (.iconst 1, 1) := by decide +kernel
theorem dX6_write_106 : decode cX6_write 106 = .ok (.iadd, 1) := by decide +kernel
theorem dX6_write_107 : decode cX6_write 107 = .ok (.iastore, 1) := by decide +kernel
theorem dX6_write_108 : decode cX6_write 108 = .ok (.aload_n 0, 1) := by decide +kernel
theorem dX6_write_109 : decode cX6_write 109 = .ok (.getfield 60, 3) := by decide +kernel
theorem dX6_write_112 : decode cX6_write 112 = .ok (.bipush 16, 2) := by decide +kernel
theorem dX6_write_114 : decode cX6_write 114 = .ok (.iload_n 1, 1) := by decide +kernel
theorem dX6_write_115 : decode cX6_write 115 = .ok (.imul, 1) := by decide +kernel
theorem dX6_write_116 : decode cX6_write 116 = .ok (.iload 5, 2) := by decide +kernel
theorem dX6_write_118 : decode cX6_write 118 = .ok (.iadd, 1) := by decide +kernel
theorem dX6_write_119 : decode cX6_write 119 = .ok (.iconst 4, 1) := by decide +kernel
theorem dX6_write_120 : decode cX6_write 120 = .ok (.iload_n 2, 1) := by decide +kernel
theorem dX6_write_121 : decode cX6_write 121 = .ok (.imul, 1) := by decide +kernel
theorem dX6_write_122 : decode cX6_write 122 = .ok (.iload_n 3, 1) := by decide +kernel
theorem dX6_write_123 : decode cX6_write 123 = .ok (.iadd, 1) := by decide +kernel
theorem dX6_write_124 : decode cX6_write 124 = .ok (.iastore, 1) := by decide +kernel
theorem dX6_write_125 : decode cX6_write 125 = .ok (.aload_n 0, 1) := by decide +kernel
theorem dX6_write_126 : decode cX6_write 126 = .ok (.getfield 63, 3) := by decide +kernel
theorem dX6_write_129 : decode cX6_write 129 = .ok (.bipush 16, 2) := by decide +kernel
theorem dX6_write_131 : decode cX6_write 131 = .ok (.iload_n 1, 1) := by decide +kernel
theorem dX6_write_132 : decode cX6_write 132 = .ok (.imul, 1) := by decide +kernel
theorem dX6_write_133 : decode cX6_write 133 = .ok (.iload 5, 2) := by decide +kernel
theorem dX6_write_135 : decode cX6_write 135 = .ok (.iadd, 1) := by decide +kernel
theorem dX6_write_136 : decode cX6_write 136 = .ok (.iload 4, 2) := by decide +kernel
theorem dX6_write_138 : decode cX6_write 138 = .ok (.iastore, 1) := by decide +kernel
theorem dX6_write_139 : decode cX6_write 139 = .ok (.aload_n 0, 1) := by decide +kernel
theorem dX6_write_140 : decode cX6_write 140 = .ok (.getfield 57, 3) := by decide +kernel
theorem dX6_write_143 : decode cX6_write 143 = .ok (.iload_n 1, 1) := by decide +kernel
theorem dX6_write_144 : decode cX6_write 144 = .ok (.iaload, 1) := by decide +kernel
theorem dX6_write_145 : decode cX6_write 145 = .ok (.ireturn, 1) := by decide +kernel
theorem dX6_commit_0 : decode cX6_commit 0 = .ok (.aload_n 0, 1) := by decide +kernel
theorem dX6_commit_1 : decode cX6_commit 1 = .ok (.iconst 0, 1) := by decide +kernel
theorem dX6_commit_2 : decode cX6_commit 2 = .ok (.putfield 75, 3) := by decide +kernel
theorem dX6_commit_5 : decode cX6_commit 5 = .ok (.iload_n 1, 1) := by decide +kernel
theorem dX6_commit_6 : decode cX6_commit 6 = .ok (.invokestatic 138, 3) := by decide +kernel
theorem dX6_commit_9 : decode cX6_commit 9 = .ok (.ifCond .eq 5, 3) := by decide +kernel
theorem dX6_commit_12 : decode cX6_commit 12 = .ok (.iconst (-1), 1) := by decide +kernel
theorem dX6_commit_13 : decode cX6_commit 13 = .ok (.ireturn, 1) := by decide +kernel
theorem dX6_commit_14 : decode cX6_commit 14 = .ok (.aload_n 0, 1) := by decide +kernel
theorem dX6_commit_15 : decode cX6_commit 15 = .ok (.getfield 54, 3) := by decide +kernel
theorem dX6_commit_18 : decode cX6_commit 18 = .ok (.iload_n 1, 1) := by decide +kernel
theorem dX6_commit_19 : decode cX6_commit 19 = .ok (.aload_n 0, 1) := by decide +kernel
theorem dX6_commit_20 : decode cX6_commit 20 = .ok (.getfield 103, 3) := by decide +kernel
theorem dX6_commit_23 : decode cX6_commit 23 = .ok (.iastore, 1) := by decide +kernel
theorem dX6_commit_24 : decode cX6_commit 24 = .ok (.aload_n 0, 1) := by decide +kernel
theorem dX6_commit_25 : decode cX6_commit 25 = .ok (.getfield 48, 3) := by decide +kernel
theorem dX6_commit_28 : decode cX6_commit 28 = .ok (.iload_n 1, 1) := by decide +kernel
theorem dX6_commit_29 : decode cX6_commit 29 = .ok (.iaload, 1) := by decide +kernel
theorem dX6_commit_30 : decode cX6_commit 30 = .ok (.iconst 1, 1) := by decide +kernel
theorem dX6_commit_31 : decode cX6_commit 31 = .ok (.if_icmp .eq 6, 3) := by decide +kernel
