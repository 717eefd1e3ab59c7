theorem dX5_init_0 : decode cX5_init 0 = .ok (.aload_n 0, 1) := by decide +kernel
theorem dX5_init_1 : decode cX5_init 1 = .ok (.invokespecial 1, 3) := by decide +kernel
theorem dX5_init_4 : decode cX5_init 4 = .ok (.aload_n 0, 1) := by decide +kernel
theorem dX5_init_5 : decode cX5_init 5 = .ok (.new 7, 3) := by decide +kernel
theorem dX5_init_8 : decode cX5_init 8 = .ok (.dup, 1) := by decide +kernel
theorem dX5_init_9 : decode cX5_init 9 = .ok (.invokespecial 9, 3) := by decide +kernel
theorem dX5_init_12 : decode cX5_init 12 = .ok (.putfield 10, 3) := by decide +kernel
theorem dX5_init_15 : decode cX5_init 15 = .ok (.aload_n 0, 1) := by decide +kernel
theorem dX5_init_16 : decode cX5_init 16 = .ok (.aconst_null, 1) := by decide +kernel
theorem dX5_init_17 : decode cX5_init 17 = .ok (.putfield 16, 3) := by decide +kernel
theorem dX5_init_20 : decode cX5_init 20 = .ok (.aload_n 0, 1) := by decide +kernel
theorem dX5_init_21 : decode cX5_init 21 = .ok (.new 19, 3) := by decide +kernel
theorem dX5_init_24 : decode cX5_init 24 = .ok (.dup, 1) := by decide +kernel
theorem dX5_init_25 : decode cX5_init 25 = .ok (.invokespecial 21, 3) := by decide +kernel
theorem dX5_init_28 : decode cX5_init 28 = .ok (.putfield 22, 3) := by decide +kernel
theorem dX5_init_31 : decode cX5_init 31 = .ok (.aload_n 0, 1) := by decide +kernel
theorem dX5_init_32 : decode cX5_init 32 = .ok (.new 26, 3) := by decide +kernel
theorem dX5_init_35 : decode cX5_init 35 = .ok (.dup, 1) := by decide +kernel
theorem dX5_init_36 : decode cX5_init 36 = .ok (.invokespecial 28, 3) := by decide +kernel
theorem dX5_init_39 : decode cX5_init 39 = .ok (.putfield 29, 3) := by decide +kernel
theorem dX5_init_42 : decode cX5_init 42 = .ok (.aload_n 0, 1) := by decide +kernel
theorem dX5_init_43 : decode cX5_init 43 = .ok (.new 33, 3) := by decide +kernel
theorem dX5_init_46 : decode cX5_init 46 = .ok (.dup, 1) := by decide +kernel
theorem dX5_init_47 : decode cX5_init 47 = .ok (.invokespecial 35, 3) := by decide +kernel
theorem dX5_init_50 : decode cX5_init 50 = .ok (.putfield 36, 3) := by decide +kernel
theorem dX5_init_53 : decode cX5_init 53 = .ok (.aload_n 0, 1) := by decide +kernel
theorem dX5_init_54 : decode cX5_init 54 = .ok (.iconst (-1), 1) := by decide +kernel
theorem dX5_init_55 : decode cX5_init 55 = .ok (.putfield 40, 3) := by decide +kernel
theorem dX5_init_58 : decode cX5_init 58 = .ok (.aload_n 0, 1) := by decide +kernel
theorem dX5_init_59 : decode cX5_init 59 = .ok (.iconst (-1), 1) := by decide +kernel
theorem dX5_init_60 : decode cX5_init 60 = .ok (.putfield 44, 3) := by decide +kernel
theorem dX5_init_63 : decode cX5_init 63 = .ok (.return_, 1) := by decide +kernel
theorem dX5_rows_0 : decode cX5_rows 0 = .ok (.iload_n 1, 1) := by decide +kernel
theorem dX5_rows_1 : decode cX5_rows 1 = .ok (.invokestatic 47, 3) := by decide +kernel
theorem dX5_rows_4 : decode cX5_rows 4 = .ok (.ifCond .eq 15, 3) := by decide +kernel
theorem dX5_rows_7 : decode cX5_rows 7 = .ok (.iload_n 2, 1) := by decide +kernel
theorem dX5_rows_8 : decode cX5_rows 8 = .ok (.iconst 1, 1) := by decide +kernel
theorem dX5_rows_9 : decode cX5_rows 9 = .ok (.if_icmp .lt 10, 3) := by decide +kernel
theorem dX5_rows_12 : decode cX5_rows 12 = .ok (.iload_n 2, 1) := by decide +kernel
theorem dX5_rows_13 : decode cX5_rows 13 = .ok (.sipush 500, 3) := by decide +kernel
theorem dX5_rows_16 : decode cX5_rows 16 = .ok (.if_icmp .le 5, 3) := by decide +kernel
theorem dX5_rows_19 : decode cX5_rows 19 = .ok (.iconst (-1), 1) := by decide +kernel
theorem dX5_rows_20 : decode cX5_rows 20 = .ok (.ireturn, 1) := by decide +kernel
theorem dX5_rows_21 : decode cX5_rows 21 = .ok (.aload_n 0, 1) := by decide +kernel
theorem dX5_rows_22 : decode cX5_rows 22 = .ok (.invokevirtual 51, 3) := by decide +kernel
theorem dX5_rows_25 : decode cX5_rows 25 = .ok (.aload_n 0, 1) := by decide +kernel
theorem dX5_rows_26 : decode cX5_rows 26 = .ok (.getfield 10, 3) := by decide +kernel
theorem dX5_rows_29 : decode cX5_rows 29 = .ok (.getfield 54, 3) := by decide +kernel
theorem dX5_rows_32 : decode cX5_rows 32 = .ok (.iload_n 1, 1) := by decide +kernel
theorem dX5_rows_33 : decode cX5_rows 33 = .ok (.iaload, 1) := by decide +kernel
theorem dX5_rows_34 : decode cX5_rows 34 = .ok (.istore_n 3, 1) := by decide +kernel
theorem dX5_rows_35 : decode cX5_rows 35 = .ok (.aload_n 0, 1) := by decide +kernel
theorem dX5_rows_36 : decode cX5_rows 36 = .ok (.getfield 10, 3) := by decide +kernel
theorem dX5_rows_39 : decode cX5_rows 39 = .ok (.getfield 54, 3) := by decide +kernel
theorem dX5_rows_42 : decode cX5_rows 42 = .ok (.iload_n 1, 1) := by decide +kernel
theorem dX5_rows_43 : decode cX5_rows 43 = .ok (.iload_n 2, 1) := by decide +kernel
theorem dX5_rows_44 : decode cX5_rows 44 = .ok (.iastore, 1) := by decide +kernel
theorem dX5_rows_45 : decode cX5_rows 45 = .ok (.iload_n 3, 1) := by decide +kernel
theorem dX5_rows_46 : decode cX5_rows 46 = .ok (.ireturn, 1) := by decide +kernel
theorem dX5_part_0 : decode cX5_part 0 = .ok (.iload_n 1, 1) := by decide +kernel
theorem dX5_part_1 : decode cX5_part 1 = .ok (.iload_n 2, 1) := by decide +kernel
theorem dX5_part_2 : decode cX5_part 2 = .ok (.invokestatic 58, 3) := by decide +kernel
theorem dX5_part_5 : decode cX5_part 5 = .ok (.ifCond .eq 14, 3) := by decide +kernel
theorem dX5_part_8 : decode cX5_part 8 = .ok (.iload_n 3, 1) := by decide +kernel
theorem dX5_part_9 : decode cX5_part 9 = .ok (.iconst 1, 1) := by decide +kernel
theorem dX5_part_10 : decode cX5_part 10 = .ok (.if_icmp .lt 9, 3) := by decide +kernel
theorem dX5_part_13 : decode cX5_part 13 = .ok (.iload_n 3, 1) := by decide +kernel
theorem dX5_part_14 : decode cX5_part 14 = .ok (.bipush 100, 2) := by decide +kernel
theorem dX5_part_16 : decode cX5_part 16 = .ok (.if_icmp .le 5, 3) := by decide +kernel
theorem dX5_part_19 : decode cX5_part 19 = .ok (.iconst (-1), 1) := by decide +kernel
theorem dX5_part_20 : decode cX5_part 20 = .ok (.ireturn, 1) := by decide +kernel
theorem dX5_part_21 : decode cX5_part 21 = .ok (.aload_n 0, 1) := by decide +kernel
theorem dX5_part_22 : decode cX5_part 22 = .ok (.invokevirtual 51, 3) := by decide +kernel
theorem dX5_part_25 : decode cX5_part 25 = .ok (.aload_n 0, 1) := by decide +kernel
theorem dX5_part_26 : decode cX5_part 26 = .ok (.getfield 10, 3) := by decide +kernel
theorem dX5_part_29 : decode cX5_part 29 = .ok (.getfield 62, 3) := by decide +kernel
theorem dX5_part_32 : decode cX5_part 32 = .ok (.iload_n 1, 1) := by decide +kernel
theorem dX5_part_33 : decode cX5_part 33 = .ok (.aaload, 1) := by decide +kernel
theorem dX5_part_34 : decode cX5_part 34 = .ok (.iload_n 2, 1) := by decide +kernel
theorem dX5_part_35 : decode cX5_part 35 = .ok (.iload_n 3, 1) := by decide +kernel
theorem dX5_part_36 : decode cX5_part 36 = .ok (.iastore, 1) := by decide +kernel
theorem dX5_part_37 : decode cX5_part 37 = .ok (.aload_n 0, 1) := by decide +kernel
theorem dX5_part_38 : decode cX5_part 38 = .ok (.getfield 10, 3) := by decide +kernel
theorem dX5_part_41 : decode cX5_part 41 = .ok (.getfield 62, 3) := by decide +kernel
theorem dX5_part_44 : decode cX5_part 44 = .ok (.iload_n 2, 1) := by decide +kernel
theorem dX5_part_45 : decode cX5_part 45 = .ok (.aaload, 1) := by decide +kernel
theorem dX5_part_46 : decode cX5_part 46 = .ok (.iload_n 1, 1) := by decide +kernel
theorem dX5_part_47 : decode cX5_part 47 = .ok (.iload_n 3, 1) := by decide +kernel
theorem dX5_part_48 : decode cX5_part 48 = .ok (.iastore, 1) := by decide +kernel
theorem dX5_part_49 : decode cX5_part 49 = .ok (.aload_n 0, 1) := by decide +kernel
theorem dX5_part_50 : decode cX5_part 50 = .ok (.getfield 10, 3) := by decide +kernel
theorem dX5_part_53 : decode cX5_part 53 = .ok (.iload_n 1, 1) := by decide +kernel
theorem dX5_part_54 : decode cX5_part 54 = .ok (.invokestatic 66, 3) := by decide +kernel
theorem dX5_part_57 : decode cX5_part 57 = .ok (.iload_n 2, 1) := by decide +kernel
theorem dX5_part_58 : decode cX5_part 58 = .ok (.invokestatic 66, 3) := by decide +kernel
theorem dX5_part_61 : decode cX5_part 61 = .ok (.ior, 1) := by decide +kernel
theorem dX5_part_62 : decode cX5_part 62 = .ok (.invokevirtual 70, 3) := by decide +kernel
theorem dX5_part_65 : decode cX5_part 65 = .ok (.ireturn, 1) := by decide +kernel
theorem dX5_count_0 : decode cX5_count 0 = .ok (.iload_n 1, 1) := by decide +kernel
theorem dX5_count_1 : decode cX5_count 1 = .ok (.invokestatic 47, 3) := by decide +kernel
theorem dX5_count_4 : decode cX5_count 4 = .ok (.ifCond .ne 5, 3) := by decide +kernel
theorem dX5_count_7 : decode cX5_count 7 = .ok (.iconst (-1), 1) := by decide +kernel
theorem dX5_count_8 : decode cX5_count 8 = .ok (.ireturn, 1) := by decide +kernel
theorem dX5_count_9 : decode cX5_count 9 = .ok (.aload_n 0, 1) := by decide +kernel
theorem dX5_count_10 : decode cX5_count 10 = .ok (.invokevirtual 51, 3) := by decide +kernel
theorem dX5_count_13 : decode cX5_count 13 = .ok (.aload_n 0, 1) := by decide +kernel
theorem dX5_count_14 : decode cX5_count 14 = .ok (.getfield 10, 3) := by decide +kernel
theorem dX5_count_17 : decode cX5_count 17 = .ok (.iload_n 1, 1) := by decide +kernel
theorem dX5_count_18 : decode cX5_count 18 = .ok (.invokestatic 66, 3) := by decide +kernel
theorem dX5_count_21 : decode cX5_count 21 = .ok (.invokevirtual 73, 3) := by decide +kernel
theorem dX5_count_24 : decode cX5_count 24 = .ok (.ireturn, 1) := by decide +kernel
theorem dX5_run_0 : decode cX5_run 0 = .ok (.iload_n 1, 1) := by decide +kernel
theorem dX5_run_1 : decode cX5_run 1 = .ok (.invokestatic 76, 3) := by decide +kernel
theorem dX5_run_4 : decode cX5_run 4 = .ok (.ifCond .ne 5, 3) := by decide +kernel
theorem dX5_run_7 : decode cX5_run 7 = .ok (.iconst (-1), 1) := by decide +kernel
theorem dX5_run_8 : decode cX5_run 8 = .ok (.ireturn, 1) := by decide +kernel
theorem dX5_run_9 : decode cX5_run 9 = .ok (.aload_n 0, 1) := by decide +kernel
theorem dX5_run_10 : decode cX5_run 10 = .ok (.invokevirtual 51, 3) := by decide +kernel
theorem dX5_run_13 : decode cX5_run 13 = .ok (.aload_n 0, 1) := by decide +kernel
theorem dX5_run_14 : decode cX5_run 14 = .ok (.iload_n 1, 1) := by decide +kernel
theorem dX5_run_15 : decode cX5_run 15 = .ok (.invokevirtual 79, 3) := by decide +kernel
theorem dX5_run_18 : decode cX5_run 18 = .ok (.invokestatic 83, 3) := by decide +kernel
theorem dX5_run_21 : decode cX5_run 21 = .ok (.ireturn, 1) := by decide +kernel
theorem dX5_pin_0 : decode cX5_pin 0 = .ok (.iload_n 1, 1) := by decide +kernel
theorem dX5_pin_1 : decode cX5_pin 1 = .ok (.invokestatic 76, 3) := by decide +kernel
theorem dX5_pin_4 : decode cX5_pin 4 = .ok (.ifCond .ne 5, 3) := by decide +kernel
theorem dX5_pin_7 : decode cX5_pin 7 = .ok (.iconst (-1), 1) := by decide +kernel
theorem dX5_pin_8 : decode cX5_pin 8 = .ok (.ireturn, 1) := by decide +kernel
theorem dX5_pin_9 : decode cX5_pin 9 = .ok (.aload_n 0, 1) := by decide +kernel
theorem dX5_pin_10 : decode cX5_pin 10 = .ok (.getfield 10, 3) := by decide +kernel
theorem dX5_pin_13 : decode cX5_pin 13 = .ok (.iload_n 1, 1) := by decide +kernel
theorem dX5_pin_14 : decode cX5_pin 14 = .ok (.invokevirtual 87, 3) := by decide +kernel
theorem dX5_pin_17 : decode cX5_pin 17 = .ok (.istore_n 2, 1) := by decide +kernel
theorem dX5_pin_18 : decode cX5_pin 18 = .ok (.iload_n 2, 1) := by decide +kernel
theorem dX5_pin_19 : decode cX5_pin 19 = .ok (.iconst (-1), 1) := by decide +kernel
theorem dX5_pin_20 : decode cX5_pin 20 = .ok (.if_icmp .ne 6, 3) := by decide +kernel
theorem dX5_pin_23 : decode cX5_pin 23 = .ok (.bipush (-2), 2) := by decide +kernel
theorem dX5_pin_25 : decode cX5_pin 25 = .ok (.ireturn, 1) := by decide +kernel
theorem dX5_pin_26 : decode cX5_pin 26 = .ok (.aload_n 0, 1) := by decide +kernel
theorem dX5_pin_27 : decode cX5_pin 27 = .ok (.invokevirtual 51, 3) := by decide +kernel
theorem dX5_pin_30 : decode cX5_pin 30 = .ok (.aload_n 0, 1) := by decide +kernel
theorem dX5_pin_31 : decode cX5_pin 31 = .ok (.getfield 10, 3) := by decide +kernel
theorem dX5_pin_34 : decode cX5_pin 34 = .ok (.getfield 90, 3) := by decide +kernel
theorem dX5_pin_37 : decode cX5_pin 37 = .ok (.iload_n 2, 1) := by decide +kernel
theorem dX5_pin_38 : decode cX5_pin 38 = .ok (.invokevirtual 93, 3) := by decide +kernel
theorem dX5_pin_41 : decode cX5_pin 41 = .ok (.checkcast 97, 3) := by decide +kernel
theorem dX5_pin_44 : decode cX5_pin 44 = .ok (.getfield 99, 3) := by decide +kernel
theorem dX5_pin_47 : decode cX5_pin 47 = .ok (.ifCond .ne 7, 3) := by decide +kernel
theorem dX5_pin_50 : decode cX5_pin 50 = .ok (.iconst 1, 1) := by decide +kernel
theorem dX5_pin_51 : decode cX5_pin 51 = .ok (.goto 4, 3) := by decide +kernel
theorem dX5_pin_54 : decode cX5_pin 54 = .ok (.iconst 0, 1) := by decide +kernel
theorem dX5_pin_55 : decode cX5_pin 55 = .ok (.istore_n 3, 1) := by decide +kernel
theorem dX5_pin_56 : decode cX5_pin 56 = .ok (.aload_n 0, 1) := by decide +kernel
theorem dX5_pin_57 : decode cX5_pin 57 = .ok (.getfield 10, 3) := by decide +kernel
theorem dX5_pin_60 : decode cX5_pin 60 = .ok (.iload_n 2, 1) := by decide +kernel
theorem dX5_pin_61 : decode cX5_pin 61 = .ok (.iload_n 3, 1) := by decide +kernel
theorem dX5_pin_62 : decode cX5_pin 62 = .ok (.invokevirtual 103, 3) := by decide +kernel
theorem dX5_pin_65 : decode cX5_pin 65 = .ok (.aload_n 0, 1) := by decide +kernel
theorem dX5_pin_66 : decode cX5_pin 66 = .ok (.getfield 10, 3) := by decide +kernel
theorem dX5_pin_69 : decode cX5_pin 69 = .ok (.invokevirtual 107, 3) := by decide +kernel
theorem dX5_pin_72 : decode cX5_pin 72 = .ok (.pop, 1) := by decide +kernel
theorem dX5_pin_73 : decode cX5_pin 73 = .ok (.iload_n 3, 1) := by decide +kernel
theorem dX5_pin_74 : decode cX5_pin 74 = .ok (.ifCond .eq 7, 3) := by decide +kernel
theorem dX5_pin_77 : decode cX5_pin 77 = .ok (.iconst 1, 1) := by decide +kernel
theorem dX5_pin_78 : decode cX5_pin 78 = .ok (.goto 4, 3) := by decide +kernel
theorem dX5_pin_81 : decode cX5_pin 81 = .ok (.iconst 0, 1) := by decide +kernel
theorem dX5_pin_82 : decode cX5_pin 82 = .ok (.ireturn, 1) := by decide +kernel
theorem dX5_forget_0 : decode cX5_forget 0 = .ok (.iload_n 1, 1) := by decide +kernel
theorem dX5_forget_1 : decode cX5_forget 1 = .ok (.invokestatic 76, 3) := by decide +kernel
theorem dX5_forget_4 : decode cX5_forget 4 = .ok (.ifCond .ne 5, 3) := by decide +kernel
theorem dX5_forget_7 : decode cX5_forget 7 = .ok (.iconst (-1), 1) := by decide +kernel
theorem dX5_forget_8 : decode cX5_forget 8 = .ok (.ireturn, 1) := by decide +kernel
theorem dX5_forget_9 : decode cX5_forget 9 = .ok (.aload_n 0, 1) := by decide +kernel
theorem dX5_forget_10 : decode cX5_forget 10 = .ok (.getfield 10, 3) := by decide +kernel
theorem dX5_forget_13 : decode cX5_forget 13 = .ok (.iload_n 1, 1) := by decide +kernel
theorem dX5_forget_14 : decode cX5_forget 14 = .ok (.invokevirtual 87, 3) := by decide +kernel
theorem dX5_forget_17 : decode cX5_forget 17 = .ok (.istore_n 2, 1) := by decide +kernel
theorem dX5_forget_18 : decode cX5_forget 18 = .ok (.iload_n 2, 1) := by decide +kernel
theorem dX5_forget_19 : decode cX5_forget 19 = .ok (.iconst (-1), 1) := by decide +kernel
theorem dX5_forget_20 : decode cX5_forget 20 = .ok (.if_icmp .ne 6, 3) := by decide +kernel
theorem dX5_forget_23 : decode cX5_forget 23 = .ok (.bipush (-2), 2) := by decide +kernel
theorem dX5_forget_25 : decode cX5_forget 25 = .ok (.ireturn, 1) := by decide +kernel
theorem dX5_forget_26 : decode cX5_forget 26 = .ok (.aload_n 0, 1) := by decide +kernel
theorem dX5_forget_27 : decode cX5_forget 27 = .ok (.invokevirtual 51, 3) := by decide +kernel
theorem dX5_forget_30 : decode cX5_forget 30 = .ok (.aload_n 0, 1) := by decide +kernel
theorem dX5_forget_31 : decode cX5_forget 31 = .ok (.getfield 10, 3) := by decide +kernel
theorem dX5_forget_34 : decode cX5_forget 34 = .ok (.dup, 1) := by decide +kernel
theorem dX5_forget_35 : decode cX5_forget 35 = .ok (.getfield 111, 3) := by decide +kernel
theorem dX5_forget_38 : decode cX5_forget 38 = .ok (.lconst 1, 1) := by decide +kernel
theorem dX5_forget_39 : decode cX5_forget 39 = .ok (.ladd, 1) := by decide +kernel
theorem dX5_forget_40 : decode cX5_forget 40 = .ok (.putfield 111, 3) := by decide +kernel
theorem dX5_forget_43 : decode cX5_forget 43 = .ok (.aload_n 0, 1) := by decide +kernel
theorem dX5_forget_44 : decode cX5_forget 44 = .ok (.getfield 10, 3) := by decide +kernel
theorem dX5_forget_47 : decode cX5_forget 47 = .ok (.getfield 90, 3) := by decide +kernel
theorem dX5_forget_50 : decode cX5_forget 50 = .ok (.iload_n 2, 1) := by decide +kernel
theorem dX5_forget_51 : decode cX5_forget 51 = .ok (.invokevirtual 115, 3) := by decide +kernel
theorem dX5_forget_54 : decode cX5_forget 54 = .ok (.checkcast 97, 3) := by decide +kernel
theorem dX5_forget_57 : decode cX5_forget 57 = .ok (.getfield 118, 3) := by decide +kernel
theorem dX5_forget_60 : decode cX5_forget 60 = .ok (.invokestatic 83, 3) := by decide +kernel
theorem dX5_forget_63 : decode cX5_forget 63 = .ok (.ireturn, 1) := by decide +kernel
theorem dX5_drift_0 : decode cX5_drift 0 = .ok (.iload_n 1, 1) := by decide +kernel
theorem dX5_drift_1 : decode cX5_drift 1 = .ok (.bipush 100, 2) := by decide +kernel
theorem dX5_drift_3 : decode cX5_drift 3 = .ok (.if_icmp .lt 10, 3) := by decide +kernel
theorem dX5_drift_6 : decode cX5_drift 6 = .ok (.iload_n 1, 1) := by decide +kernel
theorem dX5_drift_7 : decode cX5_drift 7 = .ok (.sipush 1000, 3) := by decide +kernel
theorem dX5_drift_10 : decode cX5_drift 10 = .ok (.if_icmp .le 5, 3) := by decide +kernel
theorem dX5_drift_13 : decode cX5_drift 13 = .ok (.iconst (-1), 1) := by decide +kernel
theorem dX5_drift_14 : decode cX5_drift 14 = .ok (.ireturn, 1) := by decide +kernel
theorem dX5_drift_15 : decode cX5_drift 15 = .ok (.aload_n 0, 1) := by decide +kernel
theorem dX5_drift_16 : decode cX5_drift 16 = .ok (.invokevirtual 51, 3) := by decide +kernel
theorem dX5_drift_19 : decode cX5_drift 19 = .ok (.aload_n 0, 1) := by decide +kernel
theorem dX5_drift_20 : decode cX5_drift 20 = .ok (.getfield 10, 3) := by decide +kernel
theorem dX5_drift_23 : decode cX5_drift 23 = .ok (.iload_n 1, 1) := by decide +kernel
theorem dX5_drift_24 : decode cX5_drift 24 = .ok (.putfield 121, 3) := by decide +kernel
theorem dX5_drift_27 : decode cX5_drift 27 = .ok (.aload_n 0, 1) := by decide +kernel
theorem dX5_drift_28 : decode cX5_drift 28 = .ok (.getfield 10, 3) := by decide +kernel
theorem dX5_drift_31 : decode cX5_drift 31 = .ok (.invokevirtual 107, 3) := by decide +kernel
theorem dX5_drift_34 : decode cX5_drift 34 = .ok (.ireturn, 1) := by decide +kernel
theorem dX5_table_0 : decode cX5_table 0 = .ok (.iload_n 1, 1) := by decide +kernel
theorem dX5_table_1 : decode cX5_table 1 = .ok (.invokestatic 47, 3) := by decide +kernel
theorem dX5_table_4 : decode cX5_table 4 = .ok (.ifCond .ne 5, 3) := by decide +kernel
theorem dX5_table_7 : decode cX5_table 7 = .ok (.iconst (-1), 1) := by decide +kernel
theorem dX5_table_8 : decode cX5_table 8 = .ok (.ireturn, 1) := by decide +kernel
theorem dX5_table_9 : decode cX5_table 9 = .ok (.iload_n 2, 1) := by decide +kernel
theorem dX5_table_10 : decode cX5_table 10 = .ok (.tableswitch 84 0 3 #[30, 40, 50, 72], 30) := by decide +kernel
theorem dX5_table_40 : decode cX5_table 40 = .ok (.aload_n 0, 1) := by decide +kernel
theorem dX5_table_41 : decode cX5_table 41 = .ok (.getfield 10, 3) := by decide +kernel
theorem dX5_table_44 : decode cX5_table 44 = .ok (.getfield 54, 3) := by decide +kernel
theorem dX5_table_47 : decode cX5_table 47 = .ok (.iload_n 1, 1) := by decide +kernel
theorem dX5_table_48 : decode cX5_table 48 = .ok (.iaload, 1) := by decide +kernel
theorem dX5_table_49 : decode cX5_table 49 = .ok (.ireturn, 1) := by decide +kernel
theorem dX5_table_50 : decode cX5_table 50 = .ok (.aload_n 0, 1) := by decide +kernel
theorem dX5_table_51 : decode cX5_table 51 = .ok (.getfield 10, 3) := by decide +kernel
theorem dX5_table_54 : decode cX5_table 54 = .ok (.getfield 153, 3) := by decide +kernel
theorem dX5_table_57 : decode cX5_table 57 = .ok (.iload_n 1, 1) := by decide +kernel
theorem dX5_table_58 : decode cX5_table 58 = .ok (.iaload, 1) := by decide +kernel
theorem dX5_table_59 : decode cX5_table 59 = .ok (.ireturn, 1) := by decide +kernel
theorem dX5_table_60 : decode cX5_table 60 = .ok (.aload_n 0, 1) := by decide +kernel
theorem dX5_table_61 : decode cX5_table 61 = .ok (.getfield 10, 3) := by decide +kernel
theorem dX5_table_64 : decode cX5_table 64 = .ok (.getfield 54, 3) := by decide +kernel
theorem dX5_table_67 : decode cX5_table 67 = .ok (.iload_n 1, 1) := by decide +kernel
theorem dX5_table_68 : decode cX5_table 68 = .ok (.iaload, 1) := by decide +kernel
theorem dX5_table_69 : decode cX5_table 69 = .ok (.aload_n 0, 1) := by decide +kernel
theorem dX5_table_70 : decode cX5_table 70 = .ok (.getfield 10, 3) := by decide +kernel
theorem dX5_table_73 : decode cX5_table 73 = .ok (.getfield 153, 3) := by decide +kernel
theorem dX5_table_76 : decode cX5_table 76 = .ok (.iload_n 1, 1) := by decide +kernel
theorem dX5_table_77 : decode cX5_table 77 = .ok (.iaload, 1) := by decide +kernel
theorem dX5_table_78 : decode cX5_table 78 = .ok (.invokestatic 156, 3) := by decide +kernel
theorem dX5_table_81 : decode cX5_table 81 = .ok (.ireturn, 1) := by decide +kernel
theorem dX5_table_82 : decode cX5_table 82 = .ok (.aload_n 0, 1) := by decide +kernel
theorem dX5_table_83 : decode cX5_table 83 = .ok (.getfield 10, 3) := by decide +kernel
theorem dX5_table_86 : decode cX5_table 86 = .ok (.iload_n 1, 1) := by decide +kernel
theorem dX5_table_87 : decode cX5_table 87 = .ok (.invokestatic 66, 3) := by decide +kernel
theorem dX5_table_90 : decode cX5_table 90 = .ok (.invokevirtual 160, 3) := by decide +kernel
theorem dX5_table_93 : decode cX5_table 93 = .ok (.ireturn, 1) := by decide +kernel
theorem dX5_table_94 : decode cX5_table 94 = .ok (.iconst (-1), 1) := by decide +kernel
theorem dX5_table_95 : decode cX5_table 95 = .ok (.ireturn, 1) := by decide +kernel
theorem dX5_partOf_0 : decode cX5_partOf 0 = .ok (.iload_n 1, 1) := by decide +kernel
theorem dX5_partOf_1 : decode cX5_partOf 1 = .ok (.iload_n 2, 1) := by decide +kernel
theorem dX5_partOf_2 : decode cX5_partOf 2 = .ok (.invokestatic 58, 3) := by decide +kernel
theorem dX5_partOf_5 : decode cX5_partOf 5 = .ok (.ifCond .eq 17, 3) := by decide +kernel
theorem dX5_partOf_8 : decode cX5_partOf 8 = .ok (.aload_n 0, 1) := by decide +kernel
theorem dX5_partOf_9 : decode cX5_partOf 9 = .ok (.getfield 10, 3) := by decide +kernel
theorem dX5_partOf_12 : decode cX5_partOf 12 = .ok (.getfield 62, 3) := by decide +kernel
theorem dX5_partOf_15 : decode cX5_partOf 15 = .ok (.iload_n 1, 1) := by decide +kernel
theorem dX5_partOf_16 : decode cX5_partOf 16 = .ok (.aaload, 1) := by decide +kernel
theorem dX5_partOf_17 : decode cX5_partOf 17 = .ok (.iload_n 2, 1) := by decide +kernel
theorem dX5_partOf_18 : decode cX5_partOf 18 = .ok (.iaload, 1) := by decide +kernel
theorem dX5_partOf_19 : decode cX5_partOf 19 = .ok (.goto 4, 3) := by decide +kernel
theorem dX5_partOf_22 : decode cX5_partOf 22 = .ok (.iconst (-1), 1) := by decide +kernel
theorem dX5_partOf_23 : decode cX5_partOf 23 = .ok (.ireturn, 1) := by decide +kernel
theorem dX5_size_0 : decode cX5_size 0 = .ok (.iload_n 1, 1) := by decide +kernel
theorem dX5_size_1 : decode cX5_size 1 = .ok (.invokestatic 76, 3) := by decide +kernel
theorem dX5_size_4 : decode cX5_size 4 = .ok (.ifCond .eq 18, 3) := by decide +kernel
theorem dX5_size_7 : decode cX5_size 7 = .ok (.aload_n 0, 1) := by decide +kernel
theorem dX5_size_8 : decode cX5_size 8 = .ok (.iload_n 2, 1) := by decide +kernel
theorem dX5_size_9 : decode cX5_size 9 = .ok (.invokevirtual 163, 3) := by decide +kernel
theorem dX5_size_12 : decode cX5_size 12 = .ok (.iload_n 1, 1) := by decide +kernel
theorem dX5_size_13 : decode cX5_size 13 = .ok (.invokevirtual 167, 3) := by decide +kernel
theorem dX5_size_16 : decode cX5_size 16 = .ok (.invokestatic 83, 3) := by decide +kernel
theorem dX5_size_19 : decode cX5_size 19 = .ok (.goto 4, 3) := by decide +kernel
theorem dX5_size_22 : decode cX5_size 22 = .ok (.iconst (-1), 1) := by decide +kernel
theorem dX5_size_23 : decode cX5_size 23 = .ok (.ireturn, 1) := by decide +kernel
theorem dX5_least_0 : decode cX5_least 0 = .ok (.iload_n 1, 1) := by decide +kernel
theorem dX5_least_1 : decode cX5_least 1 = .ok (.invokestatic 76, 3) := by decide +kernel
theorem dX5_least_4 : decode cX5_least 4 = .ok (.ifCond .eq 12, 3) := by decide +kernel
theorem dX5_least_7 : decode cX5_least 7 = .ok (.iload_n 3, 1) := by decide +kernel
theorem dX5_least_8 : decode cX5_least 8 = .ok (.ifCond .lt 8, 3) := by decide +kernel
theorem dX5_least_11 : decode cX5_least 11 = .ok (.iload_n 3, 1) := by decide +kernel
theorem dX5_least_12 : decode cX5_least 12 = .ok (.iconst 1, 1) := by decide +kernel
theorem dX5_least_13 : decode cX5_least 13 = .ok (.if_icmp .le 5, 3) := by decide +kernel
theorem dX5_least_16 : decode cX5_least 16 = .ok (.iconst (-1), 1) := by decide +kernel
theorem dX5_least_17 : decode cX5_least 17 = .ok (.ireturn, 1) := by decide +kernel
theorem dX5_least_18 : decode cX5_least 18 = .ok (.aload_n 0, 1) := by decide +kernel
theorem dX5_least_19 : decode cX5_least 19 = .ok (.iload_n 2, 1) := by decide +kernel
theorem dX5_least_20 : decode cX5_least 20 = .ok (.invokevirtual 163, 3) := by decide +kernel
theorem dX5_least_23 : decode cX5_least 23 = .ok (.astore 4, 2) := by decide +kernel
theorem dX5_least_25 : decode cX5_least 25 = .ok (.iload_n 3, 1) := by decide +kernel
theorem dX5_least_26 : decode cX5_least 26 = .ok (.ifCond .ne 12, 3) := by decide +kernel
theorem dX5_least_29 : decode cX5_least 29 = .ok (.aload 4, 2) := by decide +kernel
theorem dX5_least_31 : decode cX5_least 31 = .ok (.iload_n 1, 1) := by decide +kernel
theorem dX5_least_32 : decode cX5_least 32 = .ok (.invokevirtual 170, 3) := by decide +kernel
theorem dX5_least_35 : decode cX5_least 35 = .ok (.goto 9, 3) := by decide +kernel
theorem dX5_least_38 : decode cX5_least 38 = .ok (.aload 4, 2) := by decide +kernel
theorem dX5_least_40 : decode cX5_least 40 = .ok (.iload_n 1, 1) := by decide +kernel
theorem dX5_least_41 : decode cX5_least 41 = .ok (.invokevirtual 173, 3) := by decide +kernel
theorem dX5_least_44 : decode cX5_least 44 = .ok (.invokestatic 83, 3) := by decide +kernel
theorem dX5_least_47 : decode cX5_least 47 = .ok (.ireturn, 1) := by decide +kernel
theorem dX5_best_0 : decode cX5_best 0 = .ok (.iload_n 1, 1) := by decide +kernel
theorem dX5_best_1 : decode cX5_best 1 = .ok (.invokestatic 76, 3) := by decide +kernel
theorem dX5_best_4 : decode cX5_best 4 = .ok (.ifCond .eq 7, 3) := by decide +kernel
theorem dX5_best_7 : decode cX5_best 7 = .ok (.iload_n 3, 1) := by decide +kernel
theorem dX5_best_8 : decode cX5_best 8 = .ok (.ifCond .ge 5, 3) := by decide +kernel
theorem dX5_best_11 : decode cX5_best 11 = .ok (.iconst (-1), 1) := by decide +kernel
theorem dX5_best_12 : decode cX5_best 12 = .ok (.ireturn, 1) := by decide +kernel
theorem dX5_best_13 : decode cX5_best 13 = .ok (.iload_n 1, 1) := by decide +kernel
theorem dX5_best_14 : decode cX5_best 14 = .ok (.invokestatic 176, 3) := by decide +kernel
theorem dX5_best_17 : decode cX5_best 17 = .ok (.istore 4, 2) := by decide +kernel
theorem dX5_best_19 : decode cX5_best 19 = .ok (.iload_n 3, 1) := by decide +kernel
theorem dX5_best_20 : decode cX5_best 20 = .ok (.iload 4, 2) := by decide +kernel
theorem dX5_best_22 : decode cX5_best 22 = .ok (.if_icmp .ge 21, 3) := by decide +kernel
theorem dX5_best_25 : decode cX5_best 25 = .ok (.aload_n 0, 1) := by decide +kernel
theorem dX5_best_26 : decode cX5_best 26 = .ok (.iload_n 2, 1) := by decide +kernel
theorem dX5_best_27 : decode cX5_best 27 = .ok (.invokevirtual 163, 3) := by decide +kernel
theorem dX5_best_30 : decode cX5_best 30 = .ok (.iload_n 1, 1) := by decide +kernel
theorem dX5_best_31 : decode cX5_best 31 = .ok (.invokevirtual 181, 3) := by decide +kernel
theorem dX5_best_34 : decode cX5_best 34 = .ok (.iload 4, 2) := by decide +kernel
theorem dX5_best_36 : decode cX5_best 36 = .ok (.iload_n 3, 1) := by decide +kernel
theorem dX5_best_37 : decode cX5_best 37 = .ok (.invokestatic 184, 3) := by decide +kernel
theorem dX5_best_40 : decode cX5_best 40 = .ok (.goto 5, 3) := by decide +kernel
theorem dX5_best_43 : decode cX5_best 43 = .ok (.bipush (-4), 2) := by decide +kernel
theorem dX5_best_45 : decode cX5_best 45 = .ok (.ireturn, 1) := by decide +kernel
theorem dX5_plan_0 : decode cX5_plan 0 = .ok (.iload_n 1, 1) := by decide +kernel
theorem dX5_plan_1 : decode cX5_plan 1 = .ok (.invokestatic 76, 3) := by decide +kernel
theorem dX5_plan_4 : decode cX5_plan 4 = .ok (.ifCond .eq 13, 3) := by decide +kernel
theorem dX5_plan_7 : decode cX5_plan 7 = .ok (.iload_n 2, 1) := by decide +kernel
theorem dX5_plan_8 : decode cX5_plan 8 = .ok (.ifCond .lt 9, 3) := by decide +kernel
theorem dX5_plan_11 : decode cX5_plan 11 = .ok (.iload_n 2, 1) := by decide +kernel
theorem dX5_plan_12 : decode cX5_plan 12 = .ok (.bipush 11, 2) := by decide +kernel
theorem dX5_plan_14 : decode cX5_plan 14 = .ok (.if_icmp .le 5, 3) := by decide +kernel
theorem dX5_plan_17 : decode cX5_plan 17 = .ok (.iconst (-1), 1) := by decide +kernel
theorem dX5_plan_18 : decode cX5_plan 18 = .ok (.ireturn, 1) := by decide +kernel
theorem dX5_plan_19 : decode cX5_plan 19 = .ok (.aload_n 0, 1) := by decide +kernel
theorem dX5_plan_20 : decode cX5_plan 20 = .ok (.getfield 10, 3) := by decide +kernel
theorem dX5_plan_23 : decode cX5_plan 23 = .ok (.iload_n 1, 1) := by decide +kernel
theorem dX5_plan_24 : decode cX5_plan 24 = .ok (.invokevirtual 87, 3) := by decide +kernel
theorem dX5_plan_27 : decode cX5_plan 27 = .ok (.istore_n 3, 1) := by decide +kernel
theorem dX5_plan_28 : decode cX5_plan 28 = .ok (.iload_n 3, 1) := by decide +kernel
theorem dX5_plan_29 : decode cX5_plan 29 = .ok (.iconst (-1), 1) := by decide +kernel
theorem dX5_plan_30 : decode cX5_plan 30 = .ok (.if_icmp .ne 6, 3) := by decide +kernel
theorem dX5_plan_33 : decode cX5_plan 33 = .ok (.bipush (-4), 2) := by decide +kernel
theorem dX5_plan_35 : decode cX5_plan 35 = .ok (.ireturn, 1) := by decide +kernel
theorem dX5_plan_36 : decode cX5_plan 36 = .ok (.aload_n 0, 1) := by decide +kernel
theorem dX5_plan_37 : decode cX5_plan 37 = .ok (.getfield 10, 3) := by decide +kernel
theorem dX5_plan_40 : decode cX5_plan 40 = .ok (.getfield 90, 3) := by decide +kernel
theorem dX5_plan_43 : decode cX5_plan 43 = .ok (.iload_n 3, 1) := by decide +kernel
theorem dX5_plan_44 : decode cX5_plan 44 = .ok (.invokevirtual 93, 3) := by decide +kernel
theorem dX5_plan_47 : decode cX5_plan 47 = .ok (.checkcast 97, 3) := by decide +kernel
theorem dX5_plan_50 : decode cX5_plan 50 = .ok (.astore 4, 2) := by decide +kernel
theorem dX5_plan_52 : decode cX5_plan 52 = .ok (.iload_n 2, 1) := by decide +kernel
theorem dX5_plan_53 : decode cX5_plan 53 = .ok (.tableswitch 141 5 11 #[43, 61, 79, 88, 102, 120, 139], 43) := by decide +kernel
theorem dX5_plan_96 : decode cX5_plan 96 = .ok (.aload_n 0, 1) := by decide +kernel
theorem dX5_plan_97 : decode cX5_plan 97 = .ok (.iconst 1, 1) := by decide +kernel
theorem dX5_plan_98 : decode cX5_plan 98 = .ok (.invokevirtual 163, 3) := by decide +kernel
theorem dX5_plan_101 : decode cX5_plan 101 = .ok (.iload_n 1, 1) := by decide +kernel
theorem dX5_plan_102 : decode cX5_plan 102 = .ok (.aload 4, 2) := by decide +kernel
theorem dX5_plan_104 : decode cX5_plan 104 = .ok (.getfield 188, 3) := by decide +kernel
theorem dX5_plan_107 : decode cX5_plan 107 = .ok (.invokevirtual 191, 3) := by decide +kernel
theorem dX5_plan_110 : decode cX5_plan 110 = .ok (.invokestatic 83, 3) := by decide +kernel
theorem dX5_plan_113 : decode cX5_plan 113 = .ok (.ireturn, 1) := by decide +kernel
theorem dX5_plan_114 : decode cX5_plan 114 = .ok (.aload_n 0, 1) := by decide +kernel
theorem dX5_plan_115 : decode cX5_plan 115 = .ok (.iconst 0, 1) := by decide +kernel
theorem dX5_plan_116 : decode cX5_plan 116 = .ok (.invokevirtual 163, 3) := by decide +kernel
theorem dX5_plan_119 : decode cX5_plan 119 = .ok (.iload_n 1, 1) := by decide +kernel
theorem dX5_plan_120 : decode cX5_plan 120 = .ok (.aload 4, 2) := by decide +kernel
theorem dX5_plan_122 : decode cX5_plan 122 = .ok (.getfield 188, 3) := by decide +kernel
theorem dX5_plan_125 : decode cX5_plan 125 = .ok (.invokevirtual 191, 3) := by decide +kernel
theorem dX5_plan_128 : decode cX5_plan 128 = .ok (.invokestatic 83, 3) := by decide +kernel
theorem dX5_plan_131 : decode cX5_plan 131 = .ok (.ireturn, 1) := by decide +kernel
theorem dX5_plan_132 : decode cX5_plan 132 = .ok (.aload 4, 2) := by decide +kernel
theorem dX5_plan_134 : decode cX5_plan 134 = .ok (.getfield 118, 3) := by decide +kernel
theorem dX5_plan_137 : decode cX5_plan 137 = .ok (.invokestatic 83, 3) := by decide +kernel
theorem dX5_plan_140 : decode cX5_plan 140 = .ok (.ireturn, 1) := by decide +kernel
theorem dX5_plan_141 : decode cX5_plan 141 = .ok (.aload 4, 2) := by decide +kernel
theorem dX5_plan_143 : decode cX5_plan 143 = .ok (.getfield 99, 3) := by decide +kernel
theorem dX5_plan_146 : decode cX5_plan 146 = .ok (.ifCond .eq 7, 3) := by decide +kernel
theorem dX5_plan_149 : decode cX5_plan 149 = .ok (.iconst 1, 1) := by decide +kernel
theorem dX5_plan_150 : decode cX5_plan 150 = .ok (.goto 4, 3) := by decide +kernel
theorem dX5_plan_153 : decode cX5_plan 153 = .ok (.iconst 0, 1) := by decide +kernel
theorem dX5_plan_154 : decode cX5_plan 154 = .ok (.ireturn, 1) := by decide +kernel
theorem dX5_plan_155 : decode cX5_plan 155 = .ok (.aload_n 0, 1) := by decide +kernel
theorem dX5_plan_156 : decode cX5_plan 156 = .ok (.iconst 1, 1) := by decide +kernel
theorem dX5_plan_157 : decode cX5_plan 157 = .ok (.invokevirtual 163, 3) := by decide +kernel
theorem dX5_plan_160 : decode cX5_plan 160 = .ok (.iload_n 1, 1) := by decide +kernel
theorem dX5_plan_161 : decode cX5_plan 161 = .ok (.aload 4, 2) := by decide +kernel
theorem dX5_plan_163 : decode cX5_plan 163 = .ok (.getfield 188, 3) := by decide +kernel
theorem dX5_plan_166 : decode cX5_plan 166 = .ok (.invokevirtual 195, 3) := by decide +kernel
theorem dX5_plan_169 : decode cX5_plan 169 = .ok (.invokestatic 83, 3) := by decide +kernel
theorem dX5_plan_172 : decode cX5_plan 172 = .ok (.ireturn, 1) := by decide +kernel
theorem dX5_plan_173 : decode cX5_plan 173 = .ok (.aload_n 0, 1) := by decide +kernel
theorem dX5_plan_174 : decode cX5_plan 174 = .ok (.getfield 10, 3) := by decide +kernel
theorem dX5_plan_177 : decode cX5_plan 177 = .ok (.aload 4, 2) := by decide +kernel
theorem dX5_plan_179 : decode cX5_plan 179 = .ok (.iconst 0, 1) := by decide +kernel
theorem dX5_plan_180 : decode cX5_plan 180 = .ok (.invokevirtual 198, 3) := by decide +kernel
theorem dX5_plan_183 : decode cX5_plan 183 = .ok (.ifCond .eq 7, 3) := by decide +kernel
theorem dX5_plan_186 : decode cX5_plan 186 = .ok (.iconst 1, 1) := by decide +kernel
theorem dX5_plan_187 : decode cX5_plan 187 = .ok (.goto 4, 3) := by decide +kernel
theorem dX5_plan_190 : decode cX5_plan 190 = .ok (.iconst 0, 1) := by decide +kernel
theorem dX5_plan_191 : decode cX5_plan 191 = .ok (.ireturn, 1) := by decide +kernel
theorem dX5_plan_192 : decode cX5_plan 192 = .ok (.iload_n 3, 1) := by decide +kernel
theorem dX5_plan_193 : decode cX5_plan 193 = .ok (.ireturn, 1) := by decide +kernel
theorem dX5_plan_194 : decode cX5_plan 194 = .ok (.iload_n 1, 1) := by decide +kernel
theorem dX5_plan_195 : decode cX5_plan 195 = .ok (.invokestatic 176, 3) := by decide +kernel
theorem dX5_plan_198 : decode cX5_plan 198 = .ok (.istore 5, 2) := by decide +kernel
theorem dX5_plan_200 : decode cX5_plan 200 = .ok (.iload_n 2, 1) := by decide +kernel
theorem dX5_plan_201 : decode cX5_plan 201 = .ok (.iload 5, 2) := by decide +kernel
theorem dX5_plan_203 : decode cX5_plan 203 = .ok (.if_icmp .ge 17, 3) := by decide +kernel
theorem dX5_plan_206 : decode cX5_plan 206 = .ok (.aload 4, 2) := by decide +kernel
theorem dX5_plan_208 : decode cX5_plan 208 = .ok (.getfield 188, 3) := by decide +kernel
theorem dX5_plan_211 : decode cX5_plan 211 = .ok (.iload 5, 2) := by decide +kernel
theorem dX5_plan_213 : decode cX5_plan 213 = .ok (.iload_n 2, 1) := by decide +kernel
theorem dX5_plan_214 : decode cX5_plan 214 = .ok (.invokestatic 184, 3) := by decide +kernel
theorem dX5_plan_217 : decode cX5_plan 217 = .ok (.goto 5, 3) := by decide +kernel
theorem dX5_plan_220 : decode cX5_plan 220 = .ok (.bipush (-4), 2) := by decide +kernel
theorem dX5_plan_222 : decode cX5_plan 222 = .ok (.ireturn, 1) := by decide +kernel
theorem dX5_counted_0 : decode cX5_counted 0 = .ok (.iload_n 1, 1) := by decide +kernel
theorem dX5_counted_1 : decode cX5_counted 1 = .ok (.tableswitch 213 0 13 #[71, 82, 90, 98, 109, 120, 131, 142, 153, 164, 175, 186, 197, 205], 71) := by decide +kernel
theorem dX5_counted_72 : decode cX5_counted 72 = .ok (.aload_n 0, 1) := by decide +kernel
theorem dX5_counted_73 : decode cX5_counted 73 = .ok (.getfield 10, 3) := by decide +kernel
theorem dX5_counted_76 : decode cX5_counted 76 = .ok (.getfield 90, 3) := by decide +kernel
theorem dX5_counted_79 : decode cX5_counted 79 = .ok (.invokevirtual 202, 3) := by decide +kernel
theorem dX5_counted_82 : decode cX5_counted 82 = .ok (.ireturn, 1) := by decide +kernel
theorem dX5_counted_83 : decode cX5_counted 83 = .ok (.aload_n 0, 1) := by decide +kernel
theorem dX5_counted_84 : decode cX5_counted 84 = .ok (.getfield 10, 3) := by decide +kernel
theorem dX5_counted_87 : decode cX5_counted 87 = .ok (.invokevirtual 205, 3) := by decide +kernel
theorem dX5_counted_90 : decode cX5_counted 90 = .ok (.ireturn, 1) := by decide +kernel
theorem dX5_counted_91 : decode cX5_counted 91 = .ok (.aload_n 0, 1) := by decide +kernel
theorem dX5_counted_92 : decode cX5_counted 92 = .ok (.getfield 10, 3) := by decide +kernel
theorem dX5_counted_95 : decode cX5_counted 95 = .ok (.getfield 121, 3) := by decide +kernel
theorem dX5_counted_98 : decode cX5_counted 98 = .ok (.ireturn, 1) := by decide +kernel
theorem dX5_counted_99 : decode cX5_counted 99 = .ok (.aload_n 0, 1) := by decide +kernel
theorem dX5_counted_100 : decode cX5_counted 100 = .ok (.getfield 10, 3) := by decide +kernel
theorem dX5_counted_103 : decode cX5_counted 103 = .ok (.getfield 208, 3) := by decide +kernel
theorem dX5_counted_106 : decode cX5_counted 106 = .ok (.invokestatic 83, 3) := by decide +kernel
theorem dX5_counted_109 : decode cX5_counted 109 = .ok (.ireturn, 1) := by decide +kernel
theorem dX5_counted_110 : decode cX5_counted 110 = .ok (.aload_n 0, 1) := by decide +kernel
theorem dX5_counted_111 : decode cX5_counted 111 = .ok (.getfield 10, 3) := by decide +kernel
theorem dX5_counted_114 : decode cX5_counted 114 = .ok (.getfield 211, 3) := by decide +kernel
theorem dX5_counted_117 : decode cX5_counted 117 = .ok (.invokestatic 83, 3) := by decide +kernel
theorem dX5_counted_120 : decode cX5_counted 120 = .ok (.ireturn, 1) := by decide +kernel
theorem dX5_counted_121 : decode cX5_counted 121 = .ok (.aload_n 0, 1) := by decide +kernel
theorem dX5_counted_122 : decode cX5_counted 122 = .ok (.getfield 10, 3) := by decide +kernel
theorem dX5_counted_125 : decode cX5_counted 125 = .ok (.getfield 214, 3) := by decide +kernel
theorem dX5_counted_128 : decode cX5_counted 128 = .ok (.invokestatic 83, 3) := by decide +kernel
theorem dX5_counted_131 : decode cX5_counted 131 = .ok (.ireturn, 1) := by decide +kernel
theorem dX5_counted_132 : decode cX5_counted 132 = .ok (.aload_n 0, 1) := by decide +kernel
theorem dX5_counted_133 : decode cX5_counted 133 = .ok (.getfield 10, 3) := by decide +kernel
theorem dX5_counted_136 : decode cX5_counted 136 = .ok (.getfield 217, 3) := by decide +kernel
theorem dX5_counted_139 : decode cX5_counted 139 = .ok (.invokestatic 83, 3) := by decide +kernel
theorem dX5_counted_142 : decode cX5_counted 142 = .ok (.ireturn, 1) := by decide +kernel
theorem dX5_counted_143 : decode cX5_counted 143 = .ok (.aload_n 0, 1) := by decide +kernel
theorem dX5_counted_144 : decode cX5_counted 144 = .ok (.getfield 10, 3) := by decide +kernel
theorem dX5_counted_147 : decode cX5_counted 147 = .ok (.getfield 220, 3) := by decide +kernel
theorem dX5_counted_150 : decode cX5_counted 150 = .ok (.invokestatic 83, 3) := by decide +kernel
theorem dX5_counted_153 : decode cX5_counted 153 = .ok (.ireturn, 1) := by decide +kernel
theorem dX5_counted_154 : decode cX5_counted 154 = .ok (.aload_n 0, 1) := by decide +kernel
theorem dX5_counted_155 : decode cX5_counted 155 = .ok (.getfield 10, 3) := by decide +kernel
theorem dX5_counted_158 : decode cX5_counted 158 = .ok (.getfield 223, 3) := by decide +kernel
theorem dX5_counted_161 : decode cX5_counted 161 = .ok (.invokestatic 83, 3) := by decide +kernel
theorem dX5_counted_164 : decode cX5_counted 164 = .ok (.ireturn, 1) := by decide +kernel
theorem dX5_counted_165 : decode cX5_counted 165 = .ok (.aload_n 0, 1) := by decide +kernel
theorem dX5_counted_166 : decode cX5_counted 166 = .ok (.getfield 10, 3) := by decide +kernel
theorem dX5_counted_169 : decode cX5_counted 169 = .ok (.getfield 226, 3) := by decide +kernel
theorem dX5_counted_172 : decode cX5_counted 172 = .ok (.invokestatic 83, 3) := by decide +kernel
theorem dX5_counted_175 : decode cX5_counted 175 = .ok (.ireturn, 1) := by decide +kernel
theorem dX5_counted_176 : decode cX5_counted 176 = .ok (.aload_n 0, 1) := by decide +kernel
theorem dX5_counted_177 : decode cX5_counted 177 = .ok (.getfield 10, 3) := by decide +kernel
theorem dX5_counted_180 : decode cX5_counted 180 = .ok (.getfield 111, 3) := by decide +kernel
theorem dX5_counted_183 : decode cX5_counted 183 = .ok (.invokestatic 83, 3) := by decide +kernel
theorem dX5_counted_186 : decode cX5_counted 186 = .ok (.ireturn, 1) := by decide +kernel
theorem dX5_counted_187 : decode cX5_counted 187 = .ok (.aload_n 0, 1) := by decide +kernel
theorem dX5_counted_188 : decode cX5_counted 188 = .ok (.getfield 10, 3) := by decide +kernel
theorem dX5_counted_191 : decode cX5_counted 191 = .ok (.getfield 229, 3) := by decide +kernel
theorem dX5_counted_194 : decode cX5_counted 194 = .ok (.invokestatic 83, 3) := by decide +kernel
theorem dX5_counted_197 : decode cX5_counted 197 = .ok (.ireturn, 1) := by decide +kernel
theorem dX5_counted_198 : decode cX5_counted 198 = .ok (.aload_n 0, 1) := by decide +kernel
theorem dX5_counted_199 : decode cX5_counted 199 = .ok (.getfield 36, 3) := by decide +kernel
theorem dX5_counted_202 : decode cX5_counted 202 = .ok (.getfield 128, 3) := by decide +kernel
theorem dX5_counted_205 : decode cX5_counted 205 = .ok (.ireturn, 1) := by decide +kernel
theorem dX5_counted_206 : decode cX5_counted 206 = .ok (.aload_n 0, 1) := by decide +kernel
theorem dX5_counted_207 : decode cX5_counted 207 = .ok (.getfield 22, 3) := by decide +kernel
theorem dX5_counted_210 : decode cX5_counted 210 = .ok (.invokevirtual 202, 3) := by decide +kernel
theorem dX5_counted_213 : decode cX5_counted 213 = .ok (.ireturn, 1) := by decide +kernel
theorem dX5_counted_214 : decode cX5_counted 214 = .ok (.iconst (-1), 1) := by decide +kernel
theorem dX5_counted_215 : decode cX5_counted 215 = .ok (.ireturn, 1) := by decide +kernel
theorem dX5_fitness_0 : decode cX5_fitness 0 = .ok (.aload_n 0, 1) := by decide +kernel
theorem dX5_fitness_1 : decode cX5_fitness 1 = .ok (.iconst 1, 1) := by decide +kernel
theorem dX5_fitness_2 : decode cX5_fitness 2 = .ok (.invokevirtual 163, 3) := by decide +kernel
theorem dX5_fitness_5 : decode cX5_fitness 5 = .ok (.astore_n 1, 1) := by decide +kernel
theorem dX5_fitness_6 : decode cX5_fitness 6 = .ok (.lconst 0, 1) := by decide +kernel
theorem dX5_fitness_7 : decode cX5_fitness 7 = .ok (.lstore_n 2, 1) := by decide +kernel
theorem dX5_fitness_8 : decode cX5_fitness 8 = .ok (.lconst 0, 1) := by decide +kernel
theorem dX5_fitness_9 : decode cX5_fitness 9 = .ok (.lstore 4, 2) := by decide +kernel
theorem dX5_fitness_11 : decode cX5_fitness 11 = .ok (.iconst 0, 1) := by decide +kernel
theorem dX5_fitness_12 : decode cX5_fitness 12 = .ok (.istore 6, 2) := by decide +kernel
theorem dX5_fitness_14 : decode cX5_fitness 14 = .ok (.iload 6, 2) := by decide +kernel
theorem dX5_fitness_16 : decode cX5_fitness 16 = .ok (.aload_n 0, 1) := by decide +kernel
theorem dX5_fitness_17 : decode cX5_fitness 17 = .ok (.getfield 10, 3) := by decide +kernel
theorem dX5_fitness_20 : decode cX5_fitness 20 = .ok (.getfield 90, 3) := by decide +kernel
theorem dX5_fitness_23 : decode cX5_fitness 23 = .ok (.invokevirtual 202, 3) := by decide +kernel
theorem dX5_fitness_26 : decode cX5_fitness 26 = .ok (.if_icmp .ge 57, 3) := by decide +kernel
theorem dX5_fitness_29 : decode cX5_fitness 29 = .ok (.aload_n 0, 1) := by decide +kernel
theorem dX5_fitness_30 : decode cX5_fitness 30 = .ok (.getfield 10, 3) := by decide +kernel
theorem dX5_fitness_33 : decode cX5_fitness 33 = .ok (.getfield 90, 3) := by decide +kernel
theorem dX5_fitness_36 : decode cX5_fitness 36 = .ok (.iload 6, 2) := by decide +kernel
theorem dX5_fitness_38 : decode cX5_fitness 38 = .ok (.invokevirtual 93, 3) := by decide +kernel
theorem dX5_fitness_41 : decode cX5_fitness 41 = .ok (.checkcast 97, 3) := by decide +kernel
theorem dX5_fitness_44 : decode cX5_fitness 44 = .ok (.astore 7, 2) := by decide +kernel
theorem dX5_fitness_46 : decode cX5_fitness 46 = .ok (.lload_n 2, 1) := by decide +kernel
theorem dX5_fitness_47 : decode cX5_fitness 47 = .ok (.aload_n 1, 1) := by decide +kernel
theorem dX5_fitness_48 : decode cX5_fitness 48 = .ok (.aload 7, 2) := by decide +kernel
theorem dX5_fitness_50 : decode cX5_fitness 50 = .ok (.getfield 232, 3) := by decide +kernel
theorem dX5_fitness_53 : decode cX5_fitness 53 = .ok (.invokevirtual 173, 3) := by decide +kernel
theorem dX5_fitness_56 : decode cX5_fitness 56 = .ok (.ladd, 1) := by decide +kernel
theorem dX5_fitness_57 : decode cX5_fitness 57 = .ok (.lstore_n 2, 1) := by decide +kernel
theorem dX5_fitness_58 : decode cX5_fitness 58 = .ok (.lload 4, 2) := by decide +kernel
theorem dX5_fitness_60 : decode cX5_fitness 60 = .ok (.aload_n 1, 1) := by decide +kernel
theorem dX5_fitness_61 : decode cX5_fitness 61 = .ok (.aload 7, 2) := by decide +kernel
theorem dX5_fitness_63 : decode cX5_fitness 63 = .ok (.getfield 232, 3) := by decide +kernel
theorem dX5_fitness_66 : decode cX5_fitness 66 = .ok (.aload 7, 2) := by decide +kernel
theorem dX5_fitness_68 : decode cX5_fitness 68 = .ok (.getfield 188, 3) := by decide +kernel
theorem dX5_fitness_71 : decode cX5_fitness 71 = .ok (.invokevirtual 191, 3) := by decide +kernel
theorem dX5_fitness_74 : decode cX5_fitness 74 = .ok (.ladd, 1) := by decide +kernel
theorem dX5_fitness_75 : decode cX5_fitness 75 = .ok (.lstore 4, 2) := by decide +kernel
theorem dX5_fitness_77 : decode cX5_fitness 77 = .ok (.iinc 6 1, 3) := by decide +kernel
theorem dX5_fitness_80 : decode cX5_fitness 80 = .ok (.goto (-66), 3) := by decide +kernel
theorem dX5_fitness_83 : decode cX5_fitness 83 = .ok (.lload 4, 2) := by decide +kernel
theorem dX5_fitness_85 : decode cX5_fitness 85 = .ok (.lconst 0, 1) := by decide +kernel
theorem dX5_fitness_86 : decode cX5_fitness 86 = .ok (.lcmp, 1) := by decide +kernel
theorem dX5_fitness_87 : decode cX5_fitness 87 = .ok (.ifCond .le 12, 3) := by decide +kernel
theorem dX5_fitness_90 : decode cX5_fitness 90 = .ok (.lload_n 2, 1) := by decide +kernel
theorem dX5_fitness_91 : decode cX5_fitness 91 = .ok (.l2d, 1) := by decide +kernel
theorem dX5_fitness_92 : decode cX5_fitness 92 = .ok (.lload 4, 2) := by decide +kernel
theorem dX5_fitness_94 : decode cX5_fitness 94 = .ok (.l2d, 1) := by decide +kernel
theorem dX5_fitness_95 : decode cX5_fitness 95 = .ok (.ddiv, 1) := by decide +kernel
theorem dX5_fitness_96 : decode cX5_fitness 96 = .ok (.goto 4, 3) := by decide +kernel
theorem dX5_fitness_99 : decode cX5_fitness 99 = .ok (.dconst 1, 1) := by decide +kernel
theorem dX5_fitness_100 : decode cX5_fitness 100 = .ok (.dreturn, 1) := by decide +kernel
theorem dX5_remember_0 : decode cX5_remember 0 = .ok (.aload_n 0, 1) := by decide +kernel
theorem dX5_remember_1 : decode cX5_remember 1 = .ok (.getfield 22, 3) := by decide +kernel
theorem dX5_remember_4 : decode cX5_remember 4 = .ok (.new 7, 3) := by decide +kernel
theorem dX5_remember_7 : decode cX5_remember 7 = .ok (.dup, 1) := by decide +kernel
theorem dX5_remember_8 : decode cX5_remember 8 = .ok (.aload_n 0, 1) := by decide +kernel
theorem dX5_remember_9 : decode cX5_remember 9 = .ok (.getfield 10, 3) := by decide +kernel
theorem dX5_remember_12 : decode cX5_remember 12 = .ok (.invokespecial 247, 3) := by decide +kernel
theorem dX5_remember_15 : decode cX5_remember 15 = .ok (.invokevirtual 250, 3) := by decide +kernel
theorem dX5_remember_18 : decode cX5_remember 18 = .ok (.pop, 1) := by decide +kernel
theorem dX5_remember_19 : decode cX5_remember 19 = .ok (.aload_n 0, 1) := by decide +kernel
theorem dX5_remember_20 : decode cX5_remember 20 = .ok (.getfield 22, 3) := by decide +kernel
theorem dX5_remember_23 : decode cX5_remember 23 = .ok (.invokevirtual 202, 3) := by decide +kernel
theorem dX5_remember_26 : decode cX5_remember 26 = .ok (.iconst 4, 1) := by decide +kernel
theorem dX5_remember_27 : decode cX5_remember 27 = .ok (.if_icmp .le 12, 3) := by decide +kernel
theorem dX5_remember_30 : decode cX5_remember 30 = .ok (.aload_n 0, 1) := by decide +kernel
theorem dX5_remember_31 : decode cX5_remember 31 = .ok (.getfield 22, 3) := by decide +kernel
theorem dX5_remember_34 : decode cX5_remember 34 = .ok (.iconst 0, 1) := by decide +kernel
theorem dX5_remember_35 : decode cX5_remember 35 = .ok (.invokevirtual 115, 3) := by decide +kernel
theorem dX5_remember_38 : decode cX5_remember 38 = .ok (.pop, 1) := by decide +kernel
theorem dX5_remember_39 : decode cX5_remember 39 = .ok (.return_, 1) := by decide +kernel
theorem dX5_reckoned_0 : decode cX5_reckoned 0 = .ok (.aload_n 0, 1) := by decide +kernel
theorem dX5_reckoned_1 : decode cX5_reckoned 1 = .ok (.getfield 29, 3) := by decide +kernel
theorem dX5_reckoned_4 : decode cX5_reckoned 4 = .ok (.iload_n 1, 1) := by decide +kernel
theorem dX5_reckoned_5 : decode cX5_reckoned 5 = .ok (.ifCond .eq 13, 3) := by decide +kernel
theorem dX5_reckoned_8 : decode cX5_reckoned 8 = .ok (.aload_n 0, 1) := by decide +kernel
theorem dX5_reckoned_9 : decode cX5_reckoned 9 = .ok (.getfield 10, 3) := by decide +kernel
theorem dX5_reckoned_12 : decode cX5_reckoned 12 = .ok (.getfield 54, 3) := by decide +kernel
theorem dX5_reckoned_15 : decode cX5_reckoned 15 = .ok (.goto 10, 3) := by decide +kernel
theorem dX5_reckoned_18 : decode cX5_reckoned 18 = .ok (.aload_n 0, 1) := by decide +kernel
theorem dX5_reckoned_19 : decode cX5_reckoned 19 = .ok (.getfield 10, 3) := by decide +kernel
theorem dX5_reckoned_22 : decode cX5_reckoned 22 = .ok (.getfield 153, 3) := by decide +kernel
theorem dX5_reckoned_25 : decode cX5_reckoned 25 = .ok (.aload_n 0, 1) := by decide +kernel
theorem dX5_reckoned_26 : decode cX5_reckoned 26 = .ok (.getfield 10, 3) := by decide +kernel
theorem dX5_reckoned_29 : decode cX5_reckoned 29 = .ok (.getfield 62, 3) := by decide +kernel
theorem dX5_reckoned_32 : decode cX5_reckoned 32 = .ok (.invokevirtual 254, 3) := by decide +kernel
theorem dX5_reckoned_35 : decode cX5_reckoned 35 = .ok (.aload_n 0, 1) := by decide +kernel
theorem dX5_reckoned_36 : decode cX5_reckoned 36 = .ok (.getfield 29, 3) := by decide +kernel
theorem dX5_reckoned_39 : decode cX5_reckoned 39 = .ok (.areturn, 1) := by decide +kernel
theorem dX5_runQuery_0 : decode cX5_runQuery 0 = .ok (.aload_n 0, 1) := by decide +kernel
theorem dX5_runQuery_1 : decode cX5_runQuery 1 = .ok (.getfield 10, 3) := by decide +kernel
theorem dX5_runQuery_4 : decode cX5_runQuery 4 = .ok (.iload_n 1, 1) := by decide +kernel
theorem dX5_runQuery_5 : decode cX5_runQuery 5 = .ok (.invokevirtual 87, 3) := by decide +kernel
theorem dX5_runQuery_8 : decode cX5_runQuery 8 = .ok (.istore_n 2, 1) := by decide +kernel
theorem dX5_runQuery_9 : decode cX5_runQuery 9 = .ok (.lconst 0, 1) := by decide +kernel
theorem dX5_runQuery_10 : decode cX5_runQuery 10 = .ok (.lstore 4, 2) := by decide +kernel
theorem dX5_runQuery_12 : decode cX5_runQuery 12 = .ok (.iload_n 2, 1) := by decide +kernel
theorem dX5_runQuery_13 : decode cX5_runQuery 13 = .ok (.iconst (-1), 1) := by decide +kernel
theorem dX5_runQuery_14 : decode cX5_runQuery 14 = .ok (.if_icmp .eq 32, 3) := by decide +kernel
theorem dX5_runQuery_17 : decode cX5_runQuery 17 = .ok (.aload_n 0, 1) := by decide +kernel
theorem dX5_runQuery_18 : decode cX5_runQuery 18 = .ok (.getfield 10, 3) := by decide +kernel
theorem dX5_runQuery_21 : decode cX5_runQuery 21 = .ok (.getfield 90, 3) := by decide +kernel
theorem dX5_runQuery_24 : decode cX5_runQuery 24 = .ok (.iload_n 2, 1) := by decide +kernel
theorem dX5_runQuery_25 : decode cX5_runQuery 25 = .ok (.invokevirtual 93, 3) := by decide +kernel
theorem dX5_runQuery_28 : decode cX5_runQuery 28 = .ok (.checkcast 97, 3) := by decide +kernel
theorem dX5_runQuery_31 : decode cX5_runQuery 31 = .ok (.getfield 188, 3) := by decide +kernel
theorem dX5_runQuery_34 : decode cX5_runQuery 34 = .ok (.istore_n 3, 1) := by decide +kernel
theorem dX5_runQuery_35 : decode cX5_runQuery 35 = .ok (.aload_n 0, 1) := by decide +kernel
theorem dX5_runQuery_36 : decode cX5_runQuery 36 = .ok (.getfield 10, 3) := by decide +kernel
theorem dX5_runQuery_39 : decode cX5_runQuery 39 = .ok (.iload_n 2, 1) := by decide +kernel
theorem dX5_runQuery_40 : decode cX5_runQuery 40 = .ok (.invokevirtual 258, 3) := by decide +kernel
theorem dX5_runQuery_43 : decode cX5_runQuery 43 = .ok (.goto 30, 3) := by decide +kernel
theorem dX5_runQuery_46 : decode cX5_runQuery 46 = .ok (.aload_n 0, 1) := by decide +kernel
theorem dX5_runQuery_47 : decode cX5_runQuery 47 = .ok (.iconst 0, 1) := by decide +kernel
theorem dX5_runQuery_48 : decode cX5_runQuery 48 = .ok (.invokevirtual 163, 3) := by decide +kernel
theorem dX5_runQuery_51 : decode cX5_runQuery 51 = .ok (.iload_n 1, 1) := by decide +kernel
theorem dX5_runQuery_52 : decode cX5_runQuery 52 = .ok (.invokevirtual 181, 3) := by decide +kernel
theorem dX5_runQuery_55 : decode cX5_runQuery 55 = .ok (.istore_n 3, 1) := by decide +kernel
theorem dX5_runQuery_56 : decode cX5_runQuery 56 = .ok (.iload_n 1, 1) := by decide +kernel
theorem dX5_runQuery_57 : decode cX5_runQuery 57 = .ok (.invokestatic 235, 3) := by decide +kernel
theorem dX5_runQuery_60 : decode cX5_runQuery 60 = .ok (.lstore 4, 2) := by decide +kernel
theorem dX5_runQuery_62 : decode cX5_runQuery 62 = .ok (.aload_n 0, 1) := by decide +kernel
theorem dX5_runQuery_63 : decode cX5_runQuery 63 = .ok (.getfield 10, 3) := by decide +kernel
theorem dX5_runQuery_66 : decode cX5_runQuery 66 = .ok (.iload_n 1, 1) := by decide +kernel
theorem dX5_runQuery_67 : decode cX5_runQuery 67 = .ok (.iload_n 3, 1) := by decide +kernel
theorem dX5_runQuery_68 : decode cX5_runQuery 68 = .ok (.lload 4, 2) := by decide +kernel
theorem dX5_runQuery_70 : decode cX5_runQuery 70 = .ok (.invokevirtual 262, 3) := by decide +kernel
theorem dX5_runQuery_73 : decode cX5_runQuery 73 = .ok (.aload_n 0, 1) := by decide +kernel
theorem dX5_runQuery_74 : decode cX5_runQuery 74 = .ok (.iconst 1, 1) := by decide +kernel
theorem dX5_runQuery_75 : decode cX5_runQuery 75 = .ok (.invokevirtual 163, 3) := by decide +kernel
theorem dX5_runQuery_78 : decode cX5_runQuery 78 = .ok (.iload_n 1, 1) := by decide +kernel
theorem dX5_runQuery_79 : decode cX5_runQuery 79 = .ok (.iload_n 3, 1) := by decide +kernel
theorem dX5_runQuery_80 : decode cX5_runQuery 80 = .ok (.invokevirtual 191, 3) := by decide +kernel
theorem dX5_runQuery_83 : decode cX5_runQuery 83 = .ok (.lstore 6, 2) := by decide +kernel
theorem dX5_runQuery_85 : decode cX5_runQuery 85 = .ok (.aload_n 0, 1) := by decide +kernel
theorem dX5_runQuery_86 : decode cX5_runQuery 86 = .ok (.getfield 10, 3) := by decide +kernel
theorem dX5_runQuery_89 : decode cX5_runQuery 89 = .ok (.dup, 1) := by decide +kernel
theorem dX5_runQuery_90 : decode cX5_runQuery 90 = .ok (.getfield 214, 3) := by decide +kernel
theorem dX5_runQuery_93 : decode cX5_runQuery 93 = .ok (.lload 6, 2) := by decide +kernel
theorem dX5_runQuery_95 : decode cX5_runQuery 95 = .ok (.ladd, 1) := by decide +kernel
theorem dX5_runQuery_96 : decode cX5_runQuery 96 = .ok (.putfield 214, 3) := by decide +kernel
theorem dX5_runQuery_99 : decode cX5_runQuery 99 = .ok (.aload_n 0, 1) := by decide +kernel
theorem dX5_runQuery_100 : decode cX5_runQuery 100 = .ok (.getfield 10, 3) := by decide +kernel
theorem dX5_runQuery_103 : decode cX5_runQuery 103 = .ok (.iload_n 1, 1) := by decide +kernel
theorem dX5_runQuery_104 : decode cX5_runQuery 104 = .ok (.invokevirtual 73, 3) := by decide +kernel
theorem dX5_runQuery_107 : decode cX5_runQuery 107 = .ok (.pop, 1) := by decide +kernel
theorem dX5_runQuery_108 : decode cX5_runQuery 108 = .ok (.lload 4, 2) := by decide +kernel
theorem dX5_runQuery_110 : decode cX5_runQuery 110 = .ok (.lload 6, 2) := by decide +kernel
theorem dX5_runQuery_112 : decode cX5_runQuery 112 = .ok (.ladd, 1) := by decide +kernel
theorem dX5_runQuery_113 : decode cX5_runQuery 113 = .ok (.lreturn, 1) := by decide +kernel
theorem dX5_told_0 : decode cX5_told 0 = .ok (.lload_n 0, 1) := by decide +kernel
theorem dX5_told_1 : decode cX5_told 1 = .ok (.ldc2_w 279, 3) := by decide +kernel
theorem dX5_told_4 : decode cX5_told 4 = .ok (.invokestatic 281, 3) := by decide +kernel
theorem dX5_told_7 : decode cX5_told 7 = .ok (.l2i, 1) := by decide +kernel
theorem dX5_told_8 : decode cX5_told 8 = .ok (.ireturn, 1) := by decide +kernel
theorem dX5_isTable_0 : decode cX5_isTable 0 = .ok (.iload_n 0, 1) := by decide +kernel
theorem dX5_isTable_1 : decode cX5_isTable 1 = .ok (.ifCond .lt 12, 3) := by decide +kernel
theorem dX5_isTable_4 : decode cX5_isTable 4 = .ok (.iload_n 0, 1) := by decide +kernel
theorem dX5_isTable_5 : decode cX5_isTable 5 = .ok (.iconst 5, 1) := by decide +kernel
theorem dX5_isTable_6 : decode cX5_isTable 6 = .ok (.if_icmp .ge 7, 3) := by decide +kernel
theorem dX5_isTable_9 : decode cX5_isTable 9 = .ok (.iconst 1, 1) := by decide +kernel
theorem dX5_isTable_10 : decode cX5_isTable 10 = .ok (.goto 4, 3) := by decide +kernel
theorem dX5_isTable_13 : decode cX5_isTable 13 = .ok (.iconst 0, 1) := by decide +kernel
theorem dX5_isTable_14 : decode cX5_isTable 14 = .ok (.ireturn, 1) := by decide +kernel
theorem dX5_isJoin_0 : decode cX5_isJoin 0 = .ok (.iload_n 0, 1) := by decide +kernel
theorem dX5_isJoin_1 : decode cX5_isJoin 1 = .ok (.invokestatic 47, 3) := by decide +kernel
theorem dX5_isJoin_4 : decode cX5_isJoin 4 = .ok (.ifCond .eq 19, 3) := by decide +kernel
theorem dX5_isJoin_7 : decode cX5_isJoin 7 = .ok (.iload_n 1, 1) := by decide +kernel
theorem dX5_isJoin_8 : decode cX5_isJoin 8 = .ok (.invokestatic 47, 3) := by decide +kernel
theorem dX5_isJoin_11 : decode cX5_isJoin 11 = .ok (.ifCond .eq 12, 3) := by decide +kernel
theorem dX5_isJoin_14 : decode cX5_isJoin 14 = .ok (.iload_n 0, 1) := by decide +kernel
theorem dX5_isJoin_15 : decode cX5_isJoin 15 = .ok (.iload_n 1, 1) := by decide +kernel
theorem dX5_isJoin_16 : decode cX5_isJoin 16 = .ok (.if_icmp .eq 7, 3) := by decide +kernel
theorem dX5_isJoin_19 : decode cX5_isJoin 19 = .ok (.iconst 1, 1) := by decide +kernel
theorem dX5_isJoin_20 : decode cX5_isJoin 20 = .ok (.goto 4, 3) := by decide +kernel
theorem dX5_isJoin_23 : decode cX5_isJoin 23 = .ok (.iconst 0, 1) := by decide +kernel
theorem dX5_isJoin_24 : decode cX5_isJoin 24 = .ok (.ireturn, 1) := by decide +kernel
theorem dX5_isSet_0 : decode cX5_isSet 0 = .ok (.iload_n 0, 1) := by decide +kernel
theorem dX5_isSet_1 : decode cX5_isSet 1 = .ok (.ifCond .le 13, 3) := by decide +kernel
theorem dX5_isSet_4 : decode cX5_isSet 4 = .ok (.iload_n 0, 1) := by decide +kernel
theorem dX5_isSet_5 : decode cX5_isSet 5 = .ok (.bipush 32, 2) := by decide +kernel
theorem dX5_isSet_7 : decode cX5_isSet 7 = .ok (.if_icmp .ge 7, 3) := by decide +kernel
theorem dX5_isSet_10 : decode cX5_isSet 10 = .ok (.iconst 1, 1) := by decide +kernel
theorem dX5_isSet_11 : decode cX5_isSet 11 = .ok (.goto 4, 3) := by decide +kernel
theorem dX5_isSet_14 : decode cX5_isSet 14 = .ok (.iconst 0, 1) := by decide +kernel
theorem dX5_isSet_15 : decode cX5_isSet 15 = .ok (.ireturn, 1) := by decide +kernel
theorem dX5_bit_0 : decode cX5_bit 0 = .ok (.iconst 1, 1) := by decide +kernel
theorem dX5_bit_1 : decode cX5_bit 1 = .ok (.iload_n 0, 1) := by decide +kernel
theorem dX5_bit_2 : decode cX5_bit 2 = .ok (.ishl, 1) := by decide +kernel
theorem dX5_bit_3 : decode cX5_bit 3 = .ok (.ireturn, 1) := by decide +kernel
theorem dX5_has_0 : decode cX5_has 0 = .ok (.iload_n 0, 1) := by decide +kernel
theorem dX5_has_1 : decode cX5_has 1 = .ok (.iload_n 1, 1) := by decide +kernel
theorem dX5_has_2 : decode cX5_has 2 = .ok (.ishr, 1) := by decide +kernel
theorem dX5_has_3 : decode cX5_has 3 = .ok (.iconst 1, 1) := by decide +kernel
theorem dX5_has_4 : decode cX5_has 4 = .ok (.iand, 1) := by decide +kernel
theorem dX5_has_5 : decode cX5_has 5 = .ok (.iconst 1, 1) := by decide +kernel
theorem dX5_has_6 : decode cX5_has 6 = .ok (.if_icmp .ne 7, 3) := by decide +kernel
theorem dX5_has_9 : decode cX5_has 9 = .ok (.iconst 1, 1) := by decide +kernel
theorem dX5_has_10 : decode cX5_has 10 = .ok (.goto 4, 3) := by decide +kernel
theorem dX5_has_13 : decode cX5_has 13 = .ok (.iconst 0, 1) := by decide +kernel
theorem dX5_has_14 : decode cX5_has 14 = .ok (.ireturn, 1) := by decide +kernel
theorem dX5_hasAll_0 : decode cX5_hasAll 0 = .ok (.iload_n 0, 1) := by decide +kernel
theorem dX5_hasAll_1 : decode cX5_hasAll 1 = .ok (.iload_n 1, 1) := by decide +kernel
theorem dX5_hasAll_2 : decode cX5_hasAll 2 = .ok (.iand, 1) := by decide +kernel
theorem dX5_hasAll_3 : decode cX5_hasAll 3 = .ok (.iload_n 1, 1) := by decide +kernel
theorem dX5_hasAll_4 : decode cX5_hasAll 4 = .ok (.if_icmp .ne 7, 3) := by decide +kernel
theorem dX5_hasAll_7 : decode cX5_hasAll 7 = .ok (.iconst 1, 1) := by decide +kernel
theorem dX5_hasAll_8 : decode cX5_hasAll 8 = .ok (.goto 4, 3) := by decide +kernel
theorem dX5_hasAll_11 : decode cX5_hasAll 11 = .ok (.iconst 0, 1) := by decide +kernel
theorem dX5_hasAll_12 : decode cX5_hasAll 12 = .ok (.ireturn, 1) := by decide +kernel
theorem dX5_makingCost_0 : decode cX5_makingCost 0 = .ok (.ldc2_w 285, 3) := by decide +kernel
theorem dX5_makingCost_3 : decode cX5_makingCost 3 = .ok (.iload_n 0, 1) := by decide +kernel
theorem dX5_makingCost_4 : decode cX5_makingCost 4 = .ok (.invokestatic 176, 3) := by decide +kernel
theorem dX5_makingCost_7 : decode cX5_makingCost 7 = .ok (.i2l, 1) := by decide +kernel
theorem dX5_makingCost_8 : decode cX5_makingCost 8 = .ok (.lmul, 1) := by decide +kernel
theorem dX5_makingCost_9 : decode cX5_makingCost 9 = .ok (.lreturn, 1) := by decide +kernel
theorem dX5_longerOrder_0 : decode cX5_longerOrder 0 = .ok (.iload_n 0, 1) := by decide +kernel
theorem dX5_longerOrder_1 : decode cX5_longerOrder 1 = .ok (.iconst 3, 1) := by decide +kernel
theorem dX5_longerOrder_2 : decode cX5_longerOrder 2 = .ok (.ishl, 1) := by decide +kernel
theorem dX5_longerOrder_3 : decode cX5_longerOrder 3 = .ok (.iload_n 1, 1) := by decide +kernel
theorem dX5_longerOrder_4 : decode cX5_longerOrder 4 = .ok (.iadd, 1) := by decide +kernel
theorem dX5_longerOrder_5 : decode cX5_longerOrder 5 = .ok (.ireturn, 1) := by decide +kernel
theorem dX5_tableAt_0 : decode cX5_tableAt 0 = .ok (.iload_n 0, 1) := by decide +kernel
theorem dX5_tableAt_1 : decode cX5_tableAt 1 = .ok (.iconst 3, 1) := by decide +kernel
theorem dX5_tableAt_2 : decode cX5_tableAt 2 = .ok (.iload_n 1, 1) := by decide +kernel
theorem dX5_tableAt_3 : decode cX5_tableAt 3 = .ok (.iconst 1, 1) := by decide +kernel
theorem dX5_tableAt_4 : decode cX5_tableAt 4 = .ok (.isub, 1) := by decide +kernel
theorem dX5_tableAt_5 : decode cX5_tableAt 5 = .ok (.iload_n 2, 1) := by decide +kernel
theorem dX5_tableAt_6 : decode cX5_tableAt 6 = .ok (.isub, 1) := by decide +kernel
theorem dX5_tableAt_7 : decode cX5_tableAt 7 = .ok (.imul, 1) := by decide +kernel
theorem dX5_tableAt_8 : decode cX5_tableAt 8 = .ok (.ishr, 1) := by decide +kernel
theorem dX5_tableAt_9 : decode cX5_tableAt 9 = .ok (.bipush 7, 2) := by decide +kernel
theorem dX5_tableAt_11 : decode cX5_tableAt 11 = .ok (.iand, 1) := by decide +kernel
theorem dX5_tableAt_12 : decode cX5_tableAt 12 = .ok (.ireturn, 1) := by decide +kernel
theorem dX5_driftDown_0 : decode cX5_driftDown 0 = .ok (.iload_n 0, 1) := by decide +kernel
theorem dX5_driftDown_1 : decode cX5_driftDown 1 = .ok (.iload_n 1, 1) := by decide +kernel
theorem dX5_driftDown_2 : decode cX5_driftDown 2 = .ok (.invokestatic 287, 3) := by decide +kernel
theorem dX5_driftDown_5 : decode cX5_driftDown 5 = .ok (.istore_n 2, 1) := by decide +kernel
theorem dX5_driftDown_6 : decode cX5_driftDown 6 = .ok (.iload_n 2, 1) := by decide +kernel
theorem dX5_driftDown_7 : decode cX5_driftDown 7 = .ok (.ifCond .le 16, 3) := by decide +kernel
theorem dX5_driftDown_10 : decode cX5_driftDown 10 = .ok (.iload_n 0, 1) := by decide +kernel
theorem dX5_driftDown_11 : decode cX5_driftDown 11 = .ok (.iload_n 1, 1) := by decide +kernel
theorem dX5_driftDown_12 : decode cX5_driftDown 12 = .ok (.invokestatic 242, 3) := by decide +kernel
theorem dX5_driftDown_15 : decode cX5_driftDown 15 = .ok (.bipush 100, 2) := by decide +kernel
theorem dX5_driftDown_17 : decode cX5_driftDown 17 = .ok (.imul, 1) := by decide +kernel
theorem dX5_driftDown_18 : decode cX5_driftDown 18 = .ok (.iload_n 2, 1) := by decide +kernel
theorem dX5_driftDown_19 : decode cX5_driftDown 19 = .ok (.idiv, 1) := by decide +kernel
theorem dX5_driftDown_20 : decode cX5_driftDown 20 = .ok (.goto 4, 3) := by decide +kernel
theorem dX5_driftDown_23 : decode cX5_driftDown 23 = .ok (.iconst 0, 1) := by decide +kernel
theorem dX5_driftDown_24 : decode cX5_driftDown 24 = .ok (.ireturn, 1) := by decide +kernel
