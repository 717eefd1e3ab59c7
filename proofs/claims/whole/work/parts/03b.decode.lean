theorem dX6_pin_32 : decode cX6_pin 32 = .ok (.invokestatic 90, 3) := by decide +kernel
theorem dX6_pin_35 : decode cX6_pin 35 = .ok (.bipush 13, 2) := by decide +kernel
theorem dX6_pin_37 : decode cX6_pin 37 = .ok (.iadd, 1) := by decide +kernel
theorem dX6_pin_38 : decode cX6_pin 38 = .ok (.iaload, 1) := by decide +kernel
theorem dX6_pin_39 : decode cX6_pin 39 = .ok (.isub, 1) := by decide +kernel
theorem dX6_pin_40 : decode cX6_pin 40 = .ok (.istore_n 3, 1) := by decide +kernel
theorem dX6_pin_41 : decode cX6_pin 41 = .ok (.aload_n 0, 1) := by decide +kernel
theorem dX6_pin_42 : decode cX6_pin 42 = .ok (.getfield 7, 3) := by decide +kernel
theorem dX6_pin_45 : decode cX6_pin 45 = .ok (.iload_n 2, 1) := by decide +kernel
theorem dX6_pin_46 : decode cX6_pin 46 = .ok (.invokestatic 90, 3) := by decide +kernel
theorem dX6_pin_49 : decode cX6_pin 49 = .ok (.bipush 13, 2) := by decide +kernel
theorem dX6_pin_51 : decode cX6_pin 51 = .ok (.iadd, 1) := by decide +kernel
theorem dX6_pin_52 : decode cX6_pin 52 = .ok (.iload_n 3, 1) := by decide +kernel
theorem dX6_pin_53 : decode cX6_pin 53 = .ok (.iastore, 1) := by decide +kernel
theorem dX6_pin_54 : decode cX6_pin 54 = .ok (.iload_n 3, 1) := by decide +kernel
theorem dX6_pin_55 : decode cX6_pin 55 = .ok (.ifCond .ne 15, 3) := by decide +kernel
theorem dX6_pin_58 : decode cX6_pin 58 = .ok (.aload_n 0, 1) := by decide +kernel
theorem dX6_pin_59 : decode cX6_pin 59 = .ok (.invokevirtual 109, 3) := by decide +kernel
theorem dX6_pin_62 : decode cX6_pin 62 = .ok (.ifCond .ge 8, 3) := by decide +kernel
theorem dX6_pin_65 : decode cX6_pin 65 = .ok (.bipush (-4), 2) := by decide +kernel
theorem dX6_pin_67 : decode cX6_pin 67 = .ok (.goto 4, 3) := by decide +kernel
theorem dX6_pin_70 : decode cX6_pin 70 = .ok (.iload_n 3, 1) := by decide +kernel
theorem dX6_pin_71 : decode cX6_pin 71 = .ok (.ireturn, 1) := by decide +kernel
theorem dX6_forget_0 : decode cX6_forget 0 = .ok (.iload_n 1, 1) := by decide +kernel
theorem dX6_forget_1 : decode cX6_forget 1 = .ok (.invokestatic 142, 3) := by decide +kernel
theorem dX6_forget_4 : decode cX6_forget 4 = .ok (.ifCond .ne 5, 3) := by decide +kernel
theorem dX6_forget_7 : decode cX6_forget 7 = .ok (.iconst (-1), 1) := by decide +kernel
theorem dX6_forget_8 : decode cX6_forget 8 = .ok (.ireturn, 1) := by decide +kernel
theorem dX6_forget_9 : decode cX6_forget 9 = .ok (.aload_n 0, 1) := by decide +kernel
theorem dX6_forget_10 : decode cX6_forget 10 = .ok (.iload_n 1, 1) := by decide +kernel
theorem dX6_forget_11 : decode cX6_forget 11 = .ok (.invokevirtual 122, 3) := by decide +kernel
theorem dX6_forget_14 : decode cX6_forget 14 = .ok (.istore_n 2, 1) := by decide +kernel
theorem dX6_forget_15 : decode cX6_forget 15 = .ok (.iload_n 2, 1) := by decide +kernel
theorem dX6_forget_16 : decode cX6_forget 16 = .ok (.ifCond .ge 6, 3) := by decide +kernel
theorem dX6_forget_19 : decode cX6_forget 19 = .ok (.bipush (-2), 2) := by decide +kernel
theorem dX6_forget_21 : decode cX6_forget 21 = .ok (.ireturn, 1) := by decide +kernel
theorem dX6_forget_22 : decode cX6_forget 22 = .ok (.aload_n 0, 1) := by decide +kernel
theorem dX6_forget_23 : decode cX6_forget 23 = .ok (.invokevirtual 116, 3) := by decide +kernel
theorem dX6_forget_26 : decode cX6_forget 26 = .ok (.aload_n 0, 1) := by decide +kernel
theorem dX6_forget_27 : decode cX6_forget 27 = .ok (.getfield 7, 3) := by decide +kernel
theorem dX6_forget_30 : decode cX6_forget 30 = .ok (.iload_n 2, 1) := by decide +kernel
theorem dX6_forget_31 : decode cX6_forget 31 = .ok (.invokestatic 90, 3) := by decide +kernel
theorem dX6_forget_34 : decode cX6_forget 34 = .ok (.bipush 11, 2) := by decide +kernel
theorem dX6_forget_36 : decode cX6_forget 36 = .ok (.iadd, 1) := by decide +kernel
theorem dX6_forget_37 : decode cX6_forget 37 = .ok (.iaload, 1) := by decide +kernel
theorem dX6_forget_38 : decode cX6_forget 38 = .ok (.istore_n 3, 1) := by decide +kernel
theorem dX6_forget_39 : decode cX6_forget 39 = .ok (.aload_n 0, 1) := by decide +kernel
theorem dX6_forget_40 : decode cX6_forget 40 = .ok (.iload_n 2, 1) := by decide +kernel
theorem dX6_forget_41 : decode cX6_forget 41 = .ok (.invokevirtual 105, 3) := by decide +kernel
theorem dX6_forget_44 : decode cX6_forget 44 = .ok (.aload_n 0, 1) := by decide +kernel
theorem dX6_forget_45 : decode cX6_forget 45 = .ok (.getfield 7, 3) := by decide +kernel
theorem dX6_forget_48 : decode cX6_forget 48 = .ok (.bipush 98, 2) := by decide +kernel
theorem dX6_forget_50 : decode cX6_forget 50 = .ok (.dup2, 1) := by decide +kernel
theorem dX6_forget_51 : decode cX6_forget 51 = .ok (.iaload, 1) := by decide +kernel
theorem dX6_forget_52 : decode cX6_forget 52 = .ok (.iconst 1, 1) := by decide +kernel
theorem dX6_forget_53 : decode cX6_forget 53 = .ok (.iadd, 1) := by decide +kernel
theorem dX6_forget_54 : decode cX6_forget 54 = .ok (.iastore, 1) := by decide +kernel
theorem dX6_forget_55 : decode cX6_forget 55 = .ok (.iload_n 3, 1) := by decide +kernel
theorem dX6_forget_56 : decode cX6_forget 56 = .ok (.ireturn, 1) := by decide +kernel
theorem dX6_drift_0 : decode cX6_drift 0 = .ok (.iload_n 1, 1) := by decide +kernel
theorem dX6_drift_1 : decode cX6_drift 1 = .ok (.bipush 100, 2) := by decide +kernel
theorem dX6_drift_3 : decode cX6_drift 3 = .ok (.sipush 1000, 3) := by decide +kernel
theorem dX6_drift_6 : decode cX6_drift 6 = .ok (.invokestatic 63, 3) := by decide +kernel
theorem dX6_drift_9 : decode cX6_drift 9 = .ok (.ifCond .ne 5, 3) := by decide +kernel
theorem dX6_drift_12 : decode cX6_drift 12 = .ok (.iconst (-1), 1) := by decide +kernel
theorem dX6_drift_13 : decode cX6_drift 13 = .ok (.ireturn, 1) := by decide +kernel
theorem dX6_drift_14 : decode cX6_drift 14 = .ok (.aload_n 0, 1) := by decide +kernel
theorem dX6_drift_15 : decode cX6_drift 15 = .ok (.invokevirtual 116, 3) := by decide +kernel
theorem dX6_drift_18 : decode cX6_drift 18 = .ok (.aload_n 0, 1) := by decide +kernel
theorem dX6_drift_19 : decode cX6_drift 19 = .ok (.getfield 7, 3) := by decide +kernel
theorem dX6_drift_22 : decode cX6_drift 22 = .ok (.bipush 35, 2) := by decide +kernel
theorem dX6_drift_24 : decode cX6_drift 24 = .ok (.iload_n 1, 1) := by decide +kernel
theorem dX6_drift_25 : decode cX6_drift 25 = .ok (.iastore, 1) := by decide +kernel
theorem dX6_drift_26 : decode cX6_drift 26 = .ok (.aload_n 0, 1) := by decide +kernel
theorem dX6_drift_27 : decode cX6_drift 27 = .ok (.invokevirtual 109, 3) := by decide +kernel
theorem dX6_drift_30 : decode cX6_drift 30 = .ok (.ireturn, 1) := by decide +kernel
theorem dX6_append_0 : decode cX6_append 0 = .ok (.iload_n 1, 1) := by decide +kernel
theorem dX6_append_1 : decode cX6_append 1 = .ok (.bipush 33, 2) := by decide +kernel
theorem dX6_append_3 : decode cX6_append 3 = .ok (.bipush 126, 2) := by decide +kernel
theorem dX6_append_5 : decode cX6_append 5 = .ok (.invokestatic 63, 3) := by decide +kernel
theorem dX6_append_8 : decode cX6_append 8 = .ok (.ifCond .ne 5, 3) := by decide +kernel
theorem dX6_append_11 : decode cX6_append 11 = .ok (.iconst (-1), 1) := by decide +kernel
theorem dX6_append_12 : decode cX6_append 12 = .ok (.ireturn, 1) := by decide +kernel
theorem dX6_append_13 : decode cX6_append 13 = .ok (.aload_n 0, 1) := by decide +kernel
theorem dX6_append_14 : decode cX6_append 14 = .ok (.getfield 152, 3) := by decide +kernel
theorem dX6_append_17 : decode cX6_append 17 = .ok (.bipush 60, 2) := by decide +kernel
theorem dX6_append_19 : decode cX6_append 19 = .ok (.if_icmp .ne 6, 3) := by decide +kernel
theorem dX6_append_22 : decode cX6_append 22 = .ok (.bipush (-3), 2) := by decide +kernel
theorem dX6_append_24 : decode cX6_append 24 = .ok (.ireturn, 1) := by decide +kernel
theorem dX6_append_25 : decode cX6_append 25 = .ok (.aload_n 0, 1) := by decide +kernel
theorem dX6_append_26 : decode cX6_append 26 = .ok (.getfield 35, 3) := by decide +kernel
theorem dX6_append_29 : decode cX6_append 29 = .ok (.aload_n 0, 1) := by decide +kernel
theorem dX6_append_30 : decode cX6_append 30 = .ok (.getfield 152, 3) := by decide +kernel
theorem dX6_append_33 : decode cX6_append 33 = .ok (.iload_n 1, 1) := by decide +kernel
theorem dX6_append_34 : decode cX6_append 34 = .ok (.iastore, 1) := by decide +kernel
theorem dX6_append_35 : decode cX6_append 35 = .ok (.aload_n 0, 1) := by decide +kernel
theorem dX6_append_36 : decode cX6_append 36 = .ok (.dup, 1) := by decide +kernel
theorem dX6_append_37 : decode cX6_append 37 = .ok (.getfield 152, 3) := by decide +kernel
theorem dX6_append_40 : decode cX6_append 40 = .ok (.iconst 1, 1) := by decide +kernel
theorem dX6_append_41 : decode cX6_append 41 = .ok (.iadd, 1) := by decide +kernel
theorem dX6_append_42 : decode cX6_append 42 = .ok (.putfield 152, 3) := by decide +kernel
theorem dX6_append_45 : decode cX6_append 45 = .ok (.aload_n 0, 1) := by decide +kernel
theorem dX6_append_46 : decode cX6_append 46 = .ok (.getfield 152, 3) := by decide +kernel
theorem dX6_append_49 : decode cX6_append 49 = .ok (.ireturn, 1) := by decide +kernel
theorem dX6_clear_0 : decode cX6_clear 0 = .ok (.aload_n 0, 1) := by decide +kernel
theorem dX6_clear_1 : decode cX6_clear 1 = .ok (.getfield 152, 3) := by decide +kernel
theorem dX6_clear_4 : decode cX6_clear 4 = .ok (.istore_n 1, 1) := by decide +kernel
theorem dX6_clear_5 : decode cX6_clear 5 = .ok (.aload_n 0, 1) := by decide +kernel
theorem dX6_clear_6 : decode cX6_clear 6 = .ok (.iconst 0, 1) := by decide +kernel
theorem dX6_clear_7 : decode cX6_clear 7 = .ok (.putfield 152, 3) := by decide +kernel
theorem dX6_clear_10 : decode cX6_clear 10 = .ok (.iload_n 1, 1) := by decide +kernel
theorem dX6_clear_11 : decode cX6_clear 11 = .ok (.ireturn, 1) := by decide +kernel
theorem dX6_isAt_0 : decode cX6_isAt 0 = .ok (.aload_n 0, 1) := by decide +kernel
theorem dX6_isAt_1 : decode cX6_isAt 1 = .ok (.getfield 155, 3) := by decide +kernel
theorem dX6_isAt_4 : decode cX6_isAt 4 = .ok (.aload_n 0, 1) := by decide +kernel
theorem dX6_isAt_5 : decode cX6_isAt 5 = .ok (.getfield 152, 3) := by decide +kernel
theorem dX6_isAt_8 : decode cX6_isAt 8 = .ok (.if_icmp .ge 24, 3) := by decide +kernel
theorem dX6_isAt_11 : decode cX6_isAt 11 = .ok (.aload_n 0, 1) := by decide +kernel
theorem dX6_isAt_12 : decode cX6_isAt 12 = .ok (.getfield 35, 3) := by decide +kernel
theorem dX6_isAt_15 : decode cX6_isAt 15 = .ok (.aload_n 0, 1) := by decide +kernel
theorem dX6_isAt_16 : decode cX6_isAt 16 = .ok (.getfield 155, 3) := by decide +kernel
theorem dX6_isAt_19 : decode cX6_isAt 19 = .ok (.iaload, 1) := by decide +kernel
theorem dX6_isAt_20 : decode cX6_isAt 20 = .ok (.iload_n 1, 1) := by decide +kernel
theorem dX6_isAt_21 : decode cX6_isAt 21 = .ok (.iload_n 2, 1) := by decide +kernel
theorem dX6_isAt_22 : decode cX6_isAt 22 = .ok (.invokestatic 63, 3) := by decide +kernel
theorem dX6_isAt_25 : decode cX6_isAt 25 = .ok (.ifCond .eq 7, 3) := by decide +kernel
theorem dX6_isAt_28 : decode cX6_isAt 28 = .ok (.iconst 1, 1) := by decide +kernel
theorem dX6_isAt_29 : decode cX6_isAt 29 = .ok (.goto 4, 3) := by decide +kernel
theorem dX6_isAt_32 : decode cX6_isAt 32 = .ok (.iconst 0, 1) := by decide +kernel
theorem dX6_isAt_33 : decode cX6_isAt 33 = .ok (.ireturn, 1) := by decide +kernel
theorem dX6_sign_0 : decode cX6_sign 0 = .ok (.aload_n 0, 1) := by decide +kernel
theorem dX6_sign_1 : decode cX6_sign 1 = .ok (.iload_n 1, 1) := by decide +kernel
theorem dX6_sign_2 : decode cX6_sign 2 = .ok (.iload_n 1, 1) := by decide +kernel
theorem dX6_sign_3 : decode cX6_sign 3 = .ok (.invokevirtual 158, 3) := by decide +kernel
theorem dX6_sign_6 : decode cX6_sign 6 = .ok (.istore_n 2, 1) := by decide +kernel
theorem dX6_sign_7 : decode cX6_sign 7 = .ok (.aload_n 0, 1) := by decide +kernel
theorem dX6_sign_8 : decode cX6_sign 8 = .ok (.dup, 1) := by decide +kernel
theorem dX6_sign_9 : decode cX6_sign 9 = .ok (.getfield 155, 3) := by decide +kernel
theorem dX6_sign_12 : decode cX6_sign 12 = .ok (.iload_n 2, 1) := by decide +kernel
theorem dX6_sign_13 : decode cX6_sign 13 = .ok (.ifCond .eq 7, 3) := by decide +kernel
theorem dX6_sign_16 : decode cX6_sign 16 = .ok (.iconst 1, 1) := by decide +kernel
theorem dX6_sign_17 : decode cX6_sign 17 = .ok (.goto 4, 3) := by decide +kernel
theorem dX6_sign_20 : decode cX6_sign 20 = .ok (.iconst 0, 1) := by decide +kernel
theorem dX6_sign_21 : decode cX6_sign 21 = .ok (.iadd, 1) := by decide +kernel
theorem dX6_sign_22 : decode cX6_sign 22 = .ok (.putfield 155, 3) := by decide +kernel
theorem dX6_sign_25 : decode cX6_sign 25 = .ok (.iload_n 2, 1) := by decide +kernel
theorem dX6_sign_26 : decode cX6_sign 26 = .ok (.ireturn, 1) := by decide +kernel
theorem dX6_digits_0 : decode cX6_digits 0 = .ok (.iconst 0, 1) := by decide +kernel
theorem dX6_digits_1 : decode cX6_digits 1 = .ok (.istore_n 1, 1) := by decide +kernel
theorem dX6_digits_2 : decode cX6_digits 2 = .ok (.bipush 48, 2) := by decide +kernel
theorem dX6_digits_4 : decode cX6_digits 4 = .ok (.istore_n 2, 1) := by decide +kernel
theorem dX6_digits_5 : decode cX6_digits 5 = .ok (.aload_n 0, 1) := by decide +kernel
theorem dX6_digits_6 : decode cX6_digits 6 = .ok (.iload_n 2, 1) := by decide +kernel
theorem dX6_digits_7 : decode cX6_digits 7 = .ok (.bipush 52, 2) := by decide +kernel
theorem dX6_digits_9 : decode cX6_digits 9 = .ok (.invokevirtual 158, 3) := by decide +kernel
theorem dX6_digits_12 : decode cX6_digits 12 = .ok (.ifCond .eq 45, 3) := by decide +kernel
theorem dX6_digits_15 : decode cX6_digits 15 = .ok (.iload_n 1, 1) := by decide +kernel
theorem dX6_digits_16 : decode cX6_digits 16 = .ok (.iconst 1, 1) := by decide +kernel
theorem dX6_digits_17 : decode cX6_digits 17 = .ok (.aload_n 0, 1) := by decide +kernel
theorem dX6_digits_18 : decode cX6_digits 18 = .ok (.getfield 35, 3) := by decide +kernel
theorem dX6_digits_21 : decode cX6_digits 21 = .ok (.aload_n 0, 1) := by decide +kernel
theorem dX6_digits_22 : decode cX6_digits 22 = .ok (.getfield 155, 3) := by decide +kernel
theorem dX6_digits_25 : decode cX6_digits 25 = .ok (.iaload, 1) := by decide +kernel
theorem dX6_digits_26 : decode cX6_digits 26 = .ok (.bipush 48, 2) := by decide +kernel
theorem dX6_digits_28 : decode cX6_digits 28 = .ok (.isub, 1) := by decide +kernel
theorem dX6_digits_29 : decode cX6_digits 29 = .ok (.ishl, 1) := by decide +kernel
theorem dX6_digits_30 : decode cX6_digits 30 = .ok (.ior, 1) := by decide +kernel
theorem dX6_digits_31 : decode cX6_digits 31 = .ok (.istore_n 1, 1) := by decide +kernel
theorem dX6_digits_32 : decode cX6_digits 32 = .ok (.aload_n 0, 1) := by decide +kernel
theorem dX6_digits_33 : decode cX6_digits 33 = .ok (.getfield 35, 3) := by decide +kernel
theorem dX6_digits_36 : decode cX6_digits 36 = .ok (.aload_n 0, 1) := by decide +kernel
theorem dX6_digits_37 : decode cX6_digits 37 = .ok (.getfield 155, 3) := by decide +kernel
theorem dX6_digits_40 : decode cX6_digits 40 = .ok (.iaload, 1) := by decide +kernel
theorem dX6_digits_41 : decode cX6_digits 41 = .ok (.iconst 1, 1) := by decide +kernel
theorem dX6_digits_42 : decode cX6_digits 42 = .ok (.iadd, 1) := by decide +kernel
theorem dX6_digits_43 : decode cX6_digits 43 = .ok (.istore_n 2, 1) := by decide +kernel
theorem dX6_digits_44 : decode cX6_digits 44 = .ok (.aload_n 0, 1) := by decide +kernel
theorem dX6_digits_45 : decode cX6_digits 45 = .ok (.dup, 1) := by decide +kernel
theorem dX6_digits_46 : decode cX6_digits 46 = .ok (.getfield 155, 3) := by decide +kernel
theorem dX6_digits_49 : decode cX6_digits 49 = .ok (.iconst 1, 1) := by decide +kernel
theorem dX6_digits_50 : decode cX6_digits 50 = .ok (.iadd, 1) := by decide +kernel
theorem dX6_digits_51 : decode cX6_digits 51 = .ok (.putfield 155, 3) := by decide +kernel
theorem dX6_digits_54 : decode cX6_digits 54 = .ok (.goto (-49), 3) := by decide +kernel
theorem dX6_digits_57 : decode cX6_digits 57 = .ok (.aload_n 0, 1) := by decide +kernel
theorem dX6_digits_58 : decode cX6_digits 58 = .ok (.getfield 50, 3) := by decide +kernel
theorem dX6_digits_61 : decode cX6_digits 61 = .ok (.iconst 4, 1) := by decide +kernel
theorem dX6_digits_62 : decode cX6_digits 62 = .ok (.aload_n 0, 1) := by decide +kernel
theorem dX6_digits_63 : decode cX6_digits 63 = .ok (.getfield 161, 3) := by decide +kernel
theorem dX6_digits_66 : decode cX6_digits 66 = .ok (.imul, 1) := by decide +kernel
theorem dX6_digits_67 : decode cX6_digits 67 = .ok (.iconst 1, 1) := by decide +kernel
theorem dX6_digits_68 : decode cX6_digits 68 = .ok (.iadd, 1) := by decide +kernel
theorem dX6_digits_69 : decode cX6_digits 69 = .ok (.iload_n 1, 1) := by decide +kernel
theorem dX6_digits_70 : decode cX6_digits 70 = .ok (.iastore, 1) := by decide +kernel
theorem dX6_digits_71 : decode cX6_digits 71 = .ok (.iload_n 1, 1) := by decide +kernel
theorem dX6_digits_72 : decode cX6_digits 72 = .ok (.ifCond .le 7, 3) := by decide +kernel
theorem dX6_digits_75 : decode cX6_digits 75 = .ok (.iconst 1, 1) := by decide +kernel
theorem dX6_digits_76 : decode cX6_digits 76 = .ok (.goto 4, 3) := by decide +kernel
theorem dX6_digits_79 : decode cX6_digits 79 = .ok (.iconst 0, 1) := by decide +kernel
theorem dX6_digits_80 : decode cX6_digits 80 = .ok (.ireturn, 1) := by decide +kernel
theorem dX6_oneTable_0 : decode cX6_oneTable 0 = .ok (.aload_n 0, 1) := by decide +kernel
theorem dX6_oneTable_1 : decode cX6_oneTable 1 = .ok (.bipush 48, 2) := by decide +kernel
theorem dX6_oneTable_3 : decode cX6_oneTable 3 = .ok (.bipush 52, 2) := by decide +kernel
theorem dX6_oneTable_5 : decode cX6_oneTable 5 = .ok (.invokevirtual 158, 3) := by decide +kernel
theorem dX6_oneTable_8 : decode cX6_oneTable 8 = .ok (.istore_n 1, 1) := by decide +kernel
theorem dX6_oneTable_9 : decode cX6_oneTable 9 = .ok (.aload_n 0, 1) := by decide +kernel
theorem dX6_oneTable_10 : decode cX6_oneTable 10 = .ok (.getfield 50, 3) := by decide +kernel
theorem dX6_oneTable_13 : decode cX6_oneTable 13 = .ok (.iconst 4, 1) := by decide +kernel
theorem dX6_oneTable_14 : decode cX6_oneTable 14 = .ok (.aload_n 0, 1) := by decide +kernel
theorem dX6_oneTable_15 : decode cX6_oneTable 15 = .ok (.getfield 161, 3) := by decide +kernel
theorem dX6_oneTable_18 : decode cX6_oneTable 18 = .ok (.imul, 1) := by decide +kernel
theorem dX6_oneTable_19 : decode cX6_oneTable 19 = .ok (.iconst 1, 1) := by decide +kernel
theorem dX6_oneTable_20 : decode cX6_oneTable 20 = .ok (.iadd, 1) := by decide +kernel
theorem dX6_oneTable_21 : decode cX6_oneTable 21 = .ok (.iload_n 1, 1) := by decide +kernel
theorem dX6_oneTable_22 : decode cX6_oneTable 22 = .ok (.ifCond .eq 18, 3) := by decide +kernel
theorem dX6_oneTable_25 : decode cX6_oneTable 25 = .ok (.aload_n 0, 1) := by decide +kernel
theorem dX6_oneTable_26 : decode cX6_oneTable 26 = .ok (.getfield 35, 3) := by decide +kernel
theorem dX6_oneTable_29 : decode cX6_oneTable 29 = .ok (.aload_n 0, 1) := by decide +kernel
theorem dX6_oneTable_30 : decode cX6_oneTable 30 = .ok (.getfield 155, 3) := by decide +kernel
theorem dX6_oneTable_33 : decode cX6_oneTable 33 = .ok (.iaload, 1) := by decide +kernel
theorem dX6_oneTable_34 : decode cX6_oneTable 34 = .ok (.bipush 48, 2) := by decide +kernel
theorem dX6_oneTable_36 : decode cX6_oneTable 36 = .ok (.isub, 1) := by decide +kernel
theorem dX6_oneTable_37 : decode cX6_oneTable 37 = .ok (.goto 4, 3) := by decide +kernel
theorem dX6_oneTable_40 : decode cX6_oneTable 40 = .ok (.iconst 0, 1) := by decide +kernel
theorem dX6_oneTable_41 : decode cX6_oneTable 41 = .ok (.iastore, 1) := by decide +kernel
theorem dX6_oneTable_42 : decode cX6_oneTable 42 = .ok (.aload_n 0, 1) := by decide +kernel
theorem dX6_oneTable_43 : decode cX6_oneTable 43 = .ok (.dup, 1) := by decide +kernel
theorem dX6_oneTable_44 : decode cX6_oneTable 44 = .ok (.getfield 155, 3) := by decide +kernel
theorem dX6_oneTable_47 : decode cX6_oneTable 47 = .ok (.iload_n 1, 1) := by decide +kernel
theorem dX6_oneTable_48 : decode cX6_oneTable 48 = .ok (.ifCond .eq 7, 3) := by decide +kernel
theorem dX6_oneTable_51 : decode cX6_oneTable 51 = .ok (.iconst 1, 1) := by decide +kernel
theorem dX6_oneTable_52 : decode cX6_oneTable 52 = .ok (.goto 4, 3) := by decide +kernel
theorem dX6_oneTable_55 : decode cX6_oneTable 55 = .ok (.iconst 0, 1) := by decide +kernel
theorem dX6_oneTable_56 : decode cX6_oneTable 56 = .ok (.iadd, 1) := by decide +kernel
theorem dX6_oneTable_57 : decode cX6_oneTable 57 = .ok (.putfield 155, 3) := by decide +kernel
theorem dX6_oneTable_60 : decode cX6_oneTable 60 = .ok (.iload_n 1, 1) := by decide +kernel
theorem dX6_oneTable_61 : decode cX6_oneTable 61 = .ok (.ireturn, 1) := by decide +kernel
theorem dX6_number_0 : decode cX6_number 0 = .ok (.aload_n 0, 1) := by decide +kernel
theorem dX6_number_1 : decode cX6_number 1 = .ok (.bipush 49, 2) := by decide +kernel
theorem dX6_number_3 : decode cX6_number 3 = .ok (.bipush 57, 2) := by decide +kernel
theorem dX6_number_5 : decode cX6_number 5 = .ok (.invokevirtual 158, 3) := by decide +kernel
theorem dX6_number_8 : decode cX6_number 8 = .ok (.ifCond .ne 5, 3) := by decide +kernel
theorem dX6_number_11 : decode cX6_number 11 = .ok (.iconst 0, 1) := by decide +kernel
theorem dX6_number_12 : decode cX6_number 12 = .ok (.ireturn, 1) := by decide +kernel
theorem dX6_number_13 : decode cX6_number 13 = .ok (.iconst 0, 1) := by decide +kernel
theorem dX6_number_14 : decode cX6_number 14 = .ok (.istore_n 1, 1) := by decide +kernel
theorem dX6_number_15 : decode cX6_number 15 = .ok (.aload_n 0, 1) := by decide +kernel
theorem dX6_number_16 : decode cX6_number 16 = .ok (.bipush 48, 2) := by decide +kernel
theorem dX6_number_18 : decode cX6_number 18 = .ok (.bipush 57, 2) := by decide +kernel
theorem dX6_number_20 : decode cX6_number 20 = .ok (.invokevirtual 158, 3) := by decide +kernel
theorem dX6_number_23 : decode cX6_number 23 = .ok (.ifCond .eq 57, 3) := by decide +kernel
theorem dX6_number_26 : decode cX6_number 26 = .ok (.bipush 10, 2) := by decide +kernel
theorem dX6_number_28 : decode cX6_number 28 = .ok (.iload_n 1, 1) := by decide +kernel
theorem dX6_number_29 : decode cX6_number 29 = .ok (.imul, 1) := by decide +kernel
theorem dX6_number_30 : decode cX6_number 30 = .ok (.aload_n 0, 1) := by decide +kernel
theorem dX6_number_31 : decode cX6_number 31 = .ok (.getfield 35, 3) := by decide +kernel
theorem dX6_number_34 : decode cX6_number 34 = .ok (.aload_n 0, 1) := by decide +kernel
theorem dX6_number_35 : decode cX6_number 35 = .ok (.getfield 155, 3) := by decide +kernel
theorem dX6_number_38 : decode cX6_number 38 = .ok (.iaload, 1) := by decide +kernel
theorem dX6_number_39 : decode cX6_number 39 = .ok (.iadd, 1) := by decide +kernel
theorem dX6_number_40 : decode cX6_number 40 = .ok (.bipush 48, 2) := by decide +kernel
theorem dX6_number_42 : decode cX6_number 42 = .ok (.isub, 1) := by decide +kernel
theorem dX6_number_43 : decode cX6_number 43 = .ok (.sipush 500, 3) := by decide +kernel
theorem dX6_number_46 : decode cX6_number 46 = .ok (.if_icmp .gt 34, 3) := by decide +kernel
theorem dX6_number_49 : decode cX6_number 49 = .ok (.bipush 10, 2) := by decide +kernel
theorem dX6_number_51 : decode cX6_number 51 = .ok (.iload_n 1, 1) := by decide +kernel
theorem dX6_number_52 : decode cX6_number 52 = .ok (.imul, 1) := by decide +kernel
theorem dX6_number_53 : decode cX6_number 53 = .ok (.aload_n 0, 1) := by decide +kernel
theorem dX6_number_54 : decode cX6_number 54 = .ok (.getfield 35, 3) := by decide +kernel
theorem dX6_number_57 : decode cX6_number 57 = .ok (.aload_n 0, 1) := by decide +kernel
theorem dX6_number_58 : decode cX6_number 58 = .ok (.getfield 155, 3) := by decide +kernel
theorem dX6_number_61 : decode cX6_number 61 = .ok (.iaload, 1) := by decide +kernel
theorem dX6_number_62 : decode cX6_number 62 = .ok (.iadd, 1) := by decide +kernel
theorem dX6_number_63 : decode cX6_number 63 = .ok (.bipush 48, 2) := by decide +kernel
theorem dX6_number_65 : decode cX6_number 65 = .ok (.isub, 1) := by decide +kernel
theorem dX6_number_66 : decode cX6_number 66 = .ok (.istore_n 1, 1) := by decide +kernel
theorem dX6_number_67 : decode cX6_number 67 = .ok (.aload_n 0, 1) := by decide +kernel
theorem dX6_number_68 : decode cX6_number 68 = .ok (.dup, 1) := by decide +kernel
theorem dX6_number_69 : decode cX6_number 69 = .ok (.getfield 155, 3) := by decide +kernel
theorem dX6_number_72 : decode cX6_number 72 = .ok (.iconst 1, 1) := by decide +kernel
theorem dX6_number_73 : decode cX6_number 73 = .ok (.iadd, 1) := by decide +kernel
theorem dX6_number_74 : decode cX6_number 74 = .ok (.putfield 155, 3) := by decide +kernel
theorem dX6_number_77 : decode cX6_number 77 = .ok (.goto (-62), 3) := by decide +kernel
theorem dX6_number_80 : decode cX6_number 80 = .ok (.aload_n 0, 1) := by decide +kernel
theorem dX6_number_81 : decode cX6_number 81 = .ok (.getfield 50, 3) := by decide +kernel
theorem dX6_number_84 : decode cX6_number 84 = .ok (.iconst 4, 1) := by decide +kernel
theorem dX6_number_85 : decode cX6_number 85 = .ok (.aload_n 0, 1) := by decide +kernel
theorem dX6_number_86 : decode cX6_number 86 = .ok (.getfield 161, 3) := by decide +kernel
theorem dX6_number_89 : decode cX6_number 89 = .ok (.imul, 1) := by decide +kernel
theorem dX6_number_90 : decode cX6_number 90 = .ok (.iconst 2, 1) := by decide +kernel
theorem dX6_number_91 : decode cX6_number 91 = .ok (.iadd, 1) := by decide +kernel
theorem dX6_number_92 : decode cX6_number 92 = .ok (.iload_n 1, 1) := by decide +kernel
theorem dX6_number_93 : decode cX6_number 93 = .ok (.iastore, 1) := by decide +kernel
theorem dX6_number_94 : decode cX6_number 94 = .ok (.iconst 1, 1) := by decide +kernel
theorem dX6_number_95 : decode cX6_number 95 = .ok (.ireturn, 1) := by decide +kernel
theorem dX6_reads_0 : decode cX6_reads 0 = .ok (.aload_n 0, 1) := by decide +kernel
theorem dX6_reads_1 : decode cX6_reads 1 = .ok (.getfield 155, 3) := by decide +kernel
theorem dX6_reads_4 : decode cX6_reads 4 = .ok (.aload_n 0, 1) := by decide +kernel
theorem dX6_reads_5 : decode cX6_reads 5 = .ok (.getfield 152, 3) := by decide +kernel
theorem dX6_reads_8 : decode cX6_reads 8 = .ok (.if_icmp .ge 15, 3) := by decide +kernel
theorem dX6_reads_11 : decode cX6_reads 11 = .ok (.aload_n 0, 1) := by decide +kernel
theorem dX6_reads_12 : decode cX6_reads 12 = .ok (.getfield 35, 3) := by decide +kernel
theorem dX6_reads_15 : decode cX6_reads 15 = .ok (.aload_n 0, 1) := by decide +kernel
theorem dX6_reads_16 : decode cX6_reads 16 = .ok (.getfield 155, 3) := by decide +kernel
theorem dX6_reads_19 : decode cX6_reads 19 = .ok (.iaload, 1) := by decide +kernel
theorem dX6_reads_20 : decode cX6_reads 20 = .ok (.goto 4, 3) := by decide +kernel
theorem dX6_reads_23 : decode cX6_reads 23 = .ok (.iconst 0, 1) := by decide +kernel
theorem dX6_reads_24 : decode cX6_reads 24 = .ok (.istore_n 1, 1) := by decide +kernel
theorem dX6_reads_25 : decode cX6_reads 25 = .ok (.aload_n 0, 1) := by decide +kernel
theorem dX6_reads_26 : decode cX6_reads 26 = .ok (.getfield 50, 3) := by decide +kernel
theorem dX6_reads_29 : decode cX6_reads 29 = .ok (.iconst 4, 1) := by decide +kernel
theorem dX6_reads_30 : decode cX6_reads 30 = .ok (.aload_n 0, 1) := by decide +kernel
theorem dX6_reads_31 : decode cX6_reads 31 = .ok (.getfield 161, 3) := by decide +kernel
theorem dX6_reads_34 : decode cX6_reads 34 = .ok (.imul, 1) := by decide +kernel
theorem dX6_reads_35 : decode cX6_reads 35 = .ok (.iload_n 1, 1) := by decide +kernel
theorem dX6_reads_36 : decode cX6_reads 36 = .ok (.iastore, 1) := by decide +kernel
theorem dX6_reads_37 : decode cX6_reads 37 = .ok (.aload_n 0, 1) := by decide +kernel
theorem dX6_reads_38 : decode cX6_reads 38 = .ok (.getfield 50, 3) := by decide +kernel
theorem dX6_reads_41 : decode cX6_reads 41 = .ok (.iconst 4, 1) := by decide +kernel
theorem dX6_reads_42 : decode cX6_reads 42 = .ok (.aload_n 0, 1) := by decide +kernel
theorem dX6_reads_43 : decode cX6_reads 43 = .ok (.getfield 161, 3) := by decide +kernel
theorem dX6_reads_46 : decode cX6_reads 46 = .ok (.imul, 1) := by decide +kernel
theorem dX6_reads_47 : decode cX6_reads 47 = .ok (.iconst 3, 1) := by decide +kernel
theorem dX6_reads_48 : decode cX6_reads 48 = .ok (.iadd, 1) := by decide +kernel
theorem dX6_reads_49 : decode cX6_reads 49 = .ok (.aload_n 0, 1) := by decide +kernel
theorem dX6_reads_50 : decode cX6_reads 50 = .ok (.getfield 155, 3) := by decide +kernel
theorem dX6_reads_53 : decode cX6_reads 53 = .ok (.iastore, 1) := by decide +kernel
theorem dX6_reads_54 : decode cX6_reads 54 = .ok (.iload_n 1, 1) := by decide +kernel
theorem dX6_reads_55 : decode cX6_reads 55 = .ok (.lookupswitch 110 #[(99, 56), (112, 41), (113, 41), (114, 71)], 41) := by decide +kernel
theorem dX6_reads_96 : decode cX6_reads 96 = .ok (.aload_n 0, 1) := by decide +kernel
theorem dX6_reads_97 : decode cX6_reads 97 = .ok (.dup, 1) := by decide +kernel
theorem dX6_reads_98 : decode cX6_reads 98 = .ok (.getfield 155, 3) := by decide +kernel
theorem dX6_reads_101 : decode cX6_reads 101 = .ok (.iconst 1, 1) := by decide +kernel
theorem dX6_reads_102 : decode cX6_reads 102 = .ok (.iadd, 1) := by decide +kernel
theorem dX6_reads_103 : decode cX6_reads 103 = .ok (.putfield 155, 3) := by decide +kernel
theorem dX6_reads_106 : decode cX6_reads 106 = .ok (.aload_n 0, 1) := by decide +kernel
theorem dX6_reads_107 : decode cX6_reads 107 = .ok (.invokevirtual 164, 3) := by decide +kernel
theorem dX6_reads_110 : decode cX6_reads 110 = .ok (.ireturn, 1) := by decide +kernel
theorem dX6_reads_111 : decode cX6_reads 111 = .ok (.aload_n 0, 1) := by decide +kernel
theorem dX6_reads_112 : decode cX6_reads 112 = .ok (.dup, 1) := by decide +kernel
theorem dX6_reads_113 : decode cX6_reads 113 = .ok (.getfield 155, 3) := by decide +kernel
theorem dX6_reads_116 : decode cX6_reads 116 = .ok (.iconst 1, 1) := by decide +kernel
theorem dX6_reads_117 : decode cX6_reads 117 = .ok (.iadd, 1) := by decide +kernel
theorem dX6_reads_118 : decode cX6_reads 118 = .ok (.putfield 155, 3) := by decide +kernel
theorem dX6_reads_121 : decode cX6_reads 121 = .ok (.aload_n 0, 1) := by decide +kernel
theorem dX6_reads_122 : decode cX6_reads 122 = .ok (.invokevirtual 167, 3) := by decide +kernel
theorem dX6_reads_125 : decode cX6_reads 125 = .ok (.ireturn, 1) := by decide +kernel
theorem dX6_reads_126 : decode cX6_reads 126 = .ok (.aload_n 0, 1) := by decide +kernel
theorem dX6_reads_127 : decode cX6_reads 127 = .ok (.dup, 1) := by decide +kernel
theorem dX6_reads_128 : decode cX6_reads 128 = .ok (.getfield 155, 3) := by decide +kernel
theorem dX6_reads_131 : decode cX6_reads 131 = .ok (.iconst 1, 1) := by decide +kernel
theorem dX6_reads_132 : decode cX6_reads 132 = .ok (.iadd, 1) := by decide +kernel
theorem dX6_reads_133 : decode cX6_reads 133 = .ok (.putfield 155, 3) := by decide +kernel
theorem dX6_reads_136 : decode cX6_reads 136 = .ok (.aload_n 0, 1) := by decide +kernel
theorem dX6_reads_137 : decode cX6_reads 137 = .ok (.invokevirtual 167, 3) := by decide +kernel
theorem dX6_reads_140 : decode cX6_reads 140 = .ok (.ifCond .eq 23, 3) := by decide +kernel
theorem dX6_reads_143 : decode cX6_reads 143 = .ok (.aload_n 0, 1) := by decide +kernel
theorem dX6_reads_144 : decode cX6_reads 144 = .ok (.bipush 61, 2) := by decide +kernel
theorem dX6_reads_146 : decode cX6_reads 146 = .ok (.invokevirtual 170, 3) := by decide +kernel
theorem dX6_reads_149 : decode cX6_reads 149 = .ok (.ifCond .eq 14, 3) := by decide +kernel
theorem dX6_reads_152 : decode cX6_reads 152 = .ok (.aload_n 0, 1) := by decide +kernel
theorem dX6_reads_153 : decode cX6_reads 153 = .ok (.invokevirtual 173, 3) := by decide +kernel
theorem dX6_reads_156 : decode cX6_reads 156 = .ok (.ifCond .eq 7, 3) := by decide +kernel
theorem dX6_reads_159 : decode cX6_reads 159 = .ok (.iconst 1, 1) := by decide +kernel
theorem dX6_reads_160 : decode cX6_reads 160 = .ok (.goto 4, 3) := by decide +kernel
theorem dX6_reads_163 : decode cX6_reads 163 = .ok (.iconst 0, 1) := by decide +kernel
theorem dX6_reads_164 : decode cX6_reads 164 = .ok (.ireturn, 1) := by decide +kernel
theorem dX6_reads_165 : decode cX6_reads 165 = .ok (.iconst 0, 1) := by decide +kernel
theorem dX6_reads_166 : decode cX6_reads 166 = .ok (.ireturn, 1) := by decide +kernel
theorem dX6_fault_0 : decode cX6_fault 0 = .ok (.aload_n 0, 1) := by decide +kernel
theorem dX6_fault_1 : decode cX6_fault 1 = .ok (.iconst 0, 1) := by decide +kernel
theorem dX6_fault_2 : decode cX6_fault 2 = .ok (.putfield 155, 3) := by decide +kernel
theorem dX6_fault_5 : decode cX6_fault 5 = .ok (.aload_n 0, 1) := by decide +kernel
theorem dX6_fault_6 : decode cX6_fault 6 = .ok (.iconst 0, 1) := by decide +kernel
theorem dX6_fault_7 : decode cX6_fault 7 = .ok (.putfield 161, 3) := by decide +kernel
theorem dX6_fault_10 : decode cX6_fault 10 = .ok (.iconst 1, 1) := by decide +kernel
theorem dX6_fault_11 : decode cX6_fault 11 = .ok (.istore_n 1, 1) := by decide +kernel
theorem dX6_fault_12 : decode cX6_fault 12 = .ok (.iload_n 1, 1) := by decide +kernel
theorem dX6_fault_13 : decode cX6_fault 13 = .ok (.ifCond .eq 35, 3) := by decide +kernel
theorem dX6_fault_16 : decode cX6_fault 16 = .ok (.aload_n 0, 1) := by decide +kernel
theorem dX6_fault_17 : decode cX6_fault 17 = .ok (.invokevirtual 176, 3) := by decide +kernel
theorem dX6_fault_20 : decode cX6_fault 20 = .ok (.ifCond .ne 8, 3) := by decide +kernel
theorem dX6_fault_23 : decode cX6_fault 23 = .ok (.aload_n 0, 1) := by decide +kernel
theorem dX6_fault_24 : decode cX6_fault 24 = .ok (.getfield 155, 3) := by decide +kernel
theorem dX6_fault_27 : decode cX6_fault 27 = .ok (.ireturn, 1) := by decide +kernel
theorem dX6_fault_28 : decode cX6_fault 28 = .ok (.aload_n 0, 1) := by decide +kernel
theorem dX6_fault_29 : decode cX6_fault 29 = .ok (.dup, 1) := by decide +kernel
theorem dX6_fault_30 : decode cX6_fault 30 = .ok (.getfield 161, 3) := by decide +kernel
theorem dX6_fault_33 : decode cX6_fault 33 = .ok (.iconst 1, 1) := by decide +kernel
theorem dX6_fault_34 : decode cX6_fault 34 = .ok (.iadd, 1) := by decide +kernel
theorem dX6_fault_35 : decode cX6_fault 35 = .ok (.putfield 161, 3) := by decide +kernel
theorem dX6_fault_38 : decode cX6_fault 38 = .ok (.aload_n 0, 1) := by decide +kernel
theorem dX6_fault_39 : decode cX6_fault 39 = .ok (.bipush 59, 2) := by decide +kernel
theorem dX6_fault_41 : decode cX6_fault 41 = .ok (.invokevirtual 170, 3) := by decide +kernel
theorem dX6_fault_44 : decode cX6_fault 44 = .ok (.istore_n 1, 1) := by decide +kernel
theorem dX6_fault_45 : decode cX6_fault 45 = .ok (.goto (-33), 3) := by decide +kernel
theorem dX6_fault_48 : decode cX6_fault 48 = .ok (.aload_n 0, 1) := by decide +kernel
theorem dX6_fault_49 : decode cX6_fault 49 = .ok (.getfield 155, 3) := by decide +kernel
theorem dX6_fault_52 : decode cX6_fault 52 = .ok (.aload_n 0, 1) := by decide +kernel
theorem dX6_fault_53 : decode cX6_fault 53 = .ok (.getfield 152, 3) := by decide +kernel
theorem dX6_fault_56 : decode cX6_fault 56 = .ok (.if_icmp .ne 8, 3) := by decide +kernel
theorem dX6_fault_59 : decode cX6_fault 59 = .ok (.bipush (-4), 2) := by decide +kernel
theorem dX6_fault_61 : decode cX6_fault 61 = .ok (.goto 7, 3) := by decide +kernel
theorem dX6_fault_64 : decode cX6_fault 64 = .ok (.aload_n 0, 1) := by decide +kernel
theorem dX6_fault_65 : decode cX6_fault 65 = .ok (.getfield 155, 3) := by decide +kernel
theorem dX6_fault_68 : decode cX6_fault 68 = .ok (.ireturn, 1) := by decide +kernel
theorem dX6_pins_0 : decode cX6_pins 0 = .ok (.aload_n 0, 1) := by decide +kernel
theorem dX6_pins_1 : decode cX6_pins 1 = .ok (.iload_n 1, 1) := by decide +kernel
theorem dX6_pins_2 : decode cX6_pins 2 = .ok (.invokevirtual 122, 3) := by decide +kernel
theorem dX6_pins_5 : decode cX6_pins 5 = .ok (.istore_n 2, 1) := by decide +kernel
theorem dX6_pins_6 : decode cX6_pins 6 = .ok (.iload_n 2, 1) := by decide +kernel
theorem dX6_pins_7 : decode cX6_pins 7 = .ok (.ifCond .ge 6, 3) := by decide +kernel
theorem dX6_pins_10 : decode cX6_pins 10 = .ok (.bipush (-2), 2) := by decide +kernel
theorem dX6_pins_12 : decode cX6_pins 12 = .ok (.ireturn, 1) := by decide +kernel
theorem dX6_pins_13 : decode cX6_pins 13 = .ok (.aload_n 0, 1) := by decide +kernel
theorem dX6_pins_14 : decode cX6_pins 14 = .ok (.getfield 7, 3) := by decide +kernel
theorem dX6_pins_17 : decode cX6_pins 17 = .ok (.iload_n 2, 1) := by decide +kernel
theorem dX6_pins_18 : decode cX6_pins 18 = .ok (.invokestatic 90, 3) := by decide +kernel
theorem dX6_pins_21 : decode cX6_pins 21 = .ok (.bipush 13, 2) := by decide +kernel
theorem dX6_pins_23 : decode cX6_pins 23 = .ok (.iadd, 1) := by decide +kernel
theorem dX6_pins_24 : decode cX6_pins 24 = .ok (.iconst 1, 1) := by decide +kernel
theorem dX6_pins_25 : decode cX6_pins 25 = .ok (.iastore, 1) := by decide +kernel
theorem dX6_pins_26 : decode cX6_pins 26 = .ok (.iconst 1, 1) := by decide +kernel
theorem dX6_pins_27 : decode cX6_pins 27 = .ok (.ireturn, 1) := by decide +kernel
theorem dX6_does_0 : decode cX6_does 0 = .ok (.aload_n 0, 1) := by decide +kernel
theorem dX6_does_1 : decode cX6_does 1 = .ok (.getfield 50, 3) := by decide +kernel
theorem dX6_does_4 : decode cX6_does 4 = .ok (.iconst 4, 1) := by decide +kernel
theorem dX6_does_5 : decode cX6_does 5 = .ok (.iload_n 1, 1) := by decide +kernel
theorem dX6_does_6 : decode cX6_does 6 = .ok (.imul, 1) := by decide +kernel
theorem dX6_does_7 : decode cX6_does 7 = .ok (.iconst 1, 1) := by decide +kernel
theorem dX6_does_8 : decode cX6_does 8 = .ok (.iadd, 1) := by decide +kernel
theorem dX6_does_9 : decode cX6_does 9 = .ok (.iaload, 1) := by decide +kernel
theorem dX6_does_10 : decode cX6_does 10 = .ok (.istore_n 2, 1) := by decide +kernel
theorem dX6_does_11 : decode cX6_does 11 = .ok (.aload_n 0, 1) := by decide +kernel
theorem dX6_does_12 : decode cX6_does 12 = .ok (.getfield 50, 3) := by decide +kernel
theorem dX6_does_15 : decode cX6_does 15 = .ok (.iconst 4, 1) := by decide +kernel
theorem dX6_does_16 : decode cX6_does 16 = .ok (.iload_n 1, 1) := by decide +kernel
theorem dX6_does_17 : decode cX6_does 17 = .ok (.imul, 1) := by decide +kernel
theorem dX6_does_18 : decode cX6_does 18 = .ok (.iaload, 1) := by decide +kernel
theorem dX6_does_19 : decode cX6_does 19 = .ok (.lookupswitch 51 #[(99, 45), (112, 39), (113, 33)], 33) := by decide +kernel
theorem dX6_does_52 : decode cX6_does 52 = .ok (.aload_n 0, 1) := by decide +kernel
theorem dX6_does_53 : decode cX6_does 53 = .ok (.iload_n 2, 1) := by decide +kernel
theorem dX6_does_54 : decode cX6_does 54 = .ok (.invokevirtual 179, 3) := by decide +kernel
theorem dX6_does_57 : decode cX6_does 57 = .ok (.ireturn, 1) := by decide +kernel
theorem dX6_does_58 : decode cX6_does 58 = .ok (.aload_n 0, 1) := by decide +kernel
theorem dX6_does_59 : decode cX6_does 59 = .ok (.iload_n 2, 1) := by decide +kernel
theorem dX6_does_60 : decode cX6_does 60 = .ok (.invokevirtual 182, 3) := by decide +kernel
theorem dX6_does_63 : decode cX6_does 63 = .ok (.ireturn, 1) := by decide +kernel
theorem dX6_does_64 : decode cX6_does 64 = .ok (.aload_n 0, 1) := by decide +kernel
theorem dX6_does_65 : decode cX6_does 65 = .ok (.iload_n 2, 1) := by decide +kernel
theorem dX6_does_66 : decode cX6_does 66 = .ok (.invokevirtual 185, 3) := by decide +kernel
theorem dX6_does_69 : decode cX6_does 69 = .ok (.ireturn, 1) := by decide +kernel
theorem dX6_does_70 : decode cX6_does 70 = .ok (.aload_n 0, 1) := by decide +kernel
theorem dX6_does_71 : decode cX6_does 71 = .ok (.iload_n 2, 1) := by decide +kernel
theorem dX6_does_72 : decode cX6_does 72 = .ok (.aload_n 0, 1) := by decide +kernel
theorem dX6_does_73 : decode cX6_does 73 = .ok (.getfield 50, 3) := by decide +kernel
theorem dX6_does_76 : decode cX6_does 76 = .ok (.iconst 4, 1) := by decide +kernel
theorem dX6_does_77 : decode cX6_does 77 = .ok (.iload_n 1, 1) := by decide +kernel
theorem dX6_does_78 : decode cX6_does 78 = .ok (.imul, 1) := by decide +kernel
theorem dX6_does_79 : decode cX6_does 79 = .ok (.iconst 2, 1) := by decide +kernel
theorem dX6_does_80 : decode cX6_does 80 = .ok (.iadd, 1) := by decide +kernel
theorem dX6_does_81 : decode cX6_does 81 = .ok (.iaload, 1) := by decide +kernel
theorem dX6_does_82 : decode cX6_does 82 = .ok (.invokevirtual 188, 3) := by decide +kernel
theorem dX6_does_85 : decode cX6_does 85 = .ok (.ireturn, 1) := by decide +kernel
theorem dX6_carryOut_0 : decode cX6_carryOut 0 = .ok (.aload_n 0, 1) := by decide +kernel
theorem dX6_carryOut_1 : decode cX6_carryOut 1 = .ok (.invokevirtual 192, 3) := by decide +kernel
theorem dX6_carryOut_4 : decode cX6_carryOut 4 = .ok (.bipush (-4), 2) := by decide +kernel
theorem dX6_carryOut_6 : decode cX6_carryOut 6 = .ok (.if_icmp .eq 6, 3) := by decide +kernel
theorem dX6_carryOut_9 : decode cX6_carryOut 9 = .ok (.bipush (-2), 2) := by decide +kernel
theorem dX6_carryOut_11 : decode cX6_carryOut 11 = .ok (.ireturn, 1) := by decide +kernel
theorem dX6_carryOut_12 : decode cX6_carryOut 12 = .ok (.aload_n 0, 1) := by decide +kernel
theorem dX6_carryOut_13 : decode cX6_carryOut 13 = .ok (.invokevirtual 116, 3) := by decide +kernel
theorem dX6_carryOut_16 : decode cX6_carryOut 16 = .ok (.aload_n 0, 1) := by decide +kernel
theorem dX6_carryOut_17 : decode cX6_carryOut 17 = .ok (.iconst 0, 1) := by decide +kernel
theorem dX6_carryOut_18 : decode cX6_carryOut 18 = .ok (.putfield 152, 3) := by decide +kernel
theorem dX6_carryOut_21 : decode cX6_carryOut 21 = .ok (.aload_n 0, 1) := by decide +kernel
theorem dX6_carryOut_22 : decode cX6_carryOut 22 = .ok (.iconst 1, 1) := by decide +kernel
theorem dX6_carryOut_23 : decode cX6_carryOut 23 = .ok (.putfield 55, 3) := by decide +kernel
theorem dX6_carryOut_26 : decode cX6_carryOut 26 = .ok (.aload_n 0, 1) := by decide +kernel
theorem dX6_carryOut_27 : decode cX6_carryOut 27 = .ok (.iconst 0, 1) := by decide +kernel
theorem dX6_carryOut_28 : decode cX6_carryOut 28 = .ok (.putfield 195, 3) := by decide +kernel
theorem dX6_carryOut_31 : decode cX6_carryOut 31 = .ok (.iconst 0, 1) := by decide +kernel
theorem dX6_carryOut_32 : decode cX6_carryOut 32 = .ok (.istore_n 1, 1) := by decide +kernel
theorem dX6_carryOut_33 : decode cX6_carryOut 33 = .ok (.iload_n 1, 1) := by decide +kernel
theorem dX6_carryOut_34 : decode cX6_carryOut 34 = .ok (.aload_n 0, 1) := by decide +kernel
theorem dX6_carryOut_35 : decode cX6_carryOut 35 = .ok (.getfield 161, 3) := by decide +kernel
theorem dX6_carryOut_38 : decode cX6_carryOut 38 = .ok (.if_icmp .ge 68, 3) := by decide +kernel
theorem dX6_carryOut_41 : decode cX6_carryOut 41 = .ok (.aload_n 0, 1) := by decide +kernel
theorem dX6_carryOut_42 : decode cX6_carryOut 42 = .ok (.getfield 195, 3) := by decide +kernel
theorem dX6_carryOut_45 : decode cX6_carryOut 45 = .ok (.ifCond .ne 61, 3) := by decide +kernel
theorem dX6_carryOut_48 : decode cX6_carryOut 48 = .ok (.aload_n 0, 1) := by decide +kernel
theorem dX6_carryOut_49 : decode cX6_carryOut 49 = .ok (.aload_n 0, 1) := by decide +kernel
theorem dX6_carryOut_50 : decode cX6_carryOut 50 = .ok (.iload_n 1, 1) := by decide +kernel
theorem dX6_carryOut_51 : decode cX6_carryOut 51 = .ok (.invokevirtual 198, 3) := by decide +kernel
theorem dX6_carryOut_54 : decode cX6_carryOut 54 = .ok (.ifCond .ge 7, 3) := by decide +kernel
theorem dX6_carryOut_57 : decode cX6_carryOut 57 = .ok (.iconst 1, 1) := by decide +kernel
theorem dX6_carryOut_58 : decode cX6_carryOut 58 = .ok (.goto 4, 3) := by decide +kernel
theorem dX6_carryOut_61 : decode cX6_carryOut 61 = .ok (.iconst 0, 1) := by decide +kernel
theorem dX6_carryOut_62 : decode cX6_carryOut 62 = .ok (.putfield 195, 3) := by decide +kernel
theorem dX6_carryOut_65 : decode cX6_carryOut 65 = .ok (.aload_n 0, 1) := by decide +kernel
theorem dX6_carryOut_66 : decode cX6_carryOut 66 = .ok (.getfield 38, 3) := by decide +kernel
theorem dX6_carryOut_69 : decode cX6_carryOut 69 = .ok (.iconst 0, 1) := by decide +kernel
theorem dX6_carryOut_70 : decode cX6_carryOut 70 = .ok (.iload_n 1, 1) := by decide +kernel
theorem dX6_carryOut_71 : decode cX6_carryOut 71 = .ok (.iastore, 1) := by decide +kernel
theorem dX6_carryOut_72 : decode cX6_carryOut 72 = .ok (.aload_n 0, 1) := by decide +kernel
theorem dX6_carryOut_73 : decode cX6_carryOut 73 = .ok (.getfield 38, 3) := by decide +kernel
theorem dX6_carryOut_76 : decode cX6_carryOut 76 = .ok (.iconst 1, 1) := by decide +kernel
theorem dX6_carryOut_77 : decode cX6_carryOut 77 = .ok (.aload_n 0, 1) := by decide +kernel
theorem dX6_carryOut_78 : decode cX6_carryOut 78 = .ok (.getfield 50, 3) := by decide +kernel
theorem dX6_carryOut_81 : decode cX6_carryOut 81 = .ok (.iconst 4, 1) := by decide +kernel
theorem dX6_carryOut_82 : decode cX6_carryOut 82 = .ok (.iload_n 1, 1) := by decide +kernel
theorem dX6_carryOut_83 : decode cX6_carryOut 83 = .ok (.imul, 1) := by decide +kernel
theorem dX6_carryOut_84 : decode cX6_carryOut 84 = .ok (.iconst 3, 1) := by decide +kernel
theorem dX6_carryOut_85 : decode cX6_carryOut 85 = .ok (.iadd, 1) := by decide +kernel
theorem dX6_carryOut_86 : decode cX6_carryOut 86 = .ok (.iaload, 1) := by decide +kernel
theorem dX6_carryOut_87 : decode cX6_carryOut 87 = .ok (.iastore, 1) := by decide +kernel
theorem dX6_carryOut_88 : decode cX6_carryOut 88 = .ok (.iload_n 1, 1) := by decide +kernel
theorem dX6_carryOut_89 : decode cX6_carryOut 89 = .ok (.aload_n 0, 1) := by decide +kernel
theorem dX6_carryOut_90 : decode cX6_carryOut 90 = .ok (.getfield 195, 3) := by decide +kernel
theorem dX6_carryOut_93 : decode cX6_carryOut 93 = .ok (.ifCond .eq 7, 3) := by decide +kernel
theorem dX6_carryOut_96 : decode cX6_carryOut 96 = .ok (.iconst 0, 1) := by decide +kernel
theorem dX6_carryOut_97 : decode cX6_carryOut 97 = .ok (.goto 4, 3) := by decide +kernel
theorem dX6_carryOut_100 : decode cX6_carryOut 100 = .ok (.iconst 1, 1) := by decide +kernel
theorem dX6_carryOut_101 : decode cX6_carryOut 101 = .ok (.iadd, 1) := by decide +kernel
theorem dX6_carryOut_102 : decode cX6_carryOut 102 = .ok (.istore_n 1, 1) := by decide +kernel
theorem dX6_carryOut_103 : decode cX6_carryOut 103 = .ok (.goto (-70), 3) := by decide +kernel
theorem dX6_carryOut_106 : decode cX6_carryOut 106 = .ok (.aload_n 0, 1) := by decide +kernel
theorem dX6_carryOut_107 : decode cX6_carryOut 107 = .ok (.iconst 0, 1) := by decide +kernel
theorem dX6_carryOut_108 : decode cX6_carryOut 108 = .ok (.putfield 55, 3) := by decide +kernel
theorem dX6_carryOut_111 : decode cX6_carryOut 111 = .ok (.iload_n 1, 1) := by decide +kernel
theorem dX6_carryOut_112 : decode cX6_carryOut 112 = .ok (.ireturn, 1) := by decide +kernel
theorem dX6_why_0 : decode cX6_why 0 = .ok (.iload_n 1, 1) := by decide +kernel
theorem dX6_why_1 : decode cX6_why 1 = .ok (.iconst 0, 1) := by decide +kernel
theorem dX6_why_2 : decode cX6_why 2 = .ok (.iconst 1, 1) := by decide +kernel
theorem dX6_why_3 : decode cX6_why 3 = .ok (.invokestatic 63, 3) := by decide +kernel
theorem dX6_why_6 : decode cX6_why 6 = .ok (.ifCond .ne 7, 3) := by decide +kernel
theorem dX6_why_9 : decode cX6_why 9 = .ok (.iconst (-1), 1) := by decide +kernel
theorem dX6_why_10 : decode cX6_why 10 = .ok (.goto 21, 3) := by decide +kernel
theorem dX6_why_13 : decode cX6_why 13 = .ok (.aload_n 0, 1) := by decide +kernel
theorem dX6_why_14 : decode cX6_why 14 = .ok (.getfield 195, 3) := by decide +kernel
theorem dX6_why_17 : decode cX6_why 17 = .ok (.ifCond .eq 12, 3) := by decide +kernel
theorem dX6_why_20 : decode cX6_why 20 = .ok (.aload_n 0, 1) := by decide +kernel
theorem dX6_why_21 : decode cX6_why 21 = .ok (.getfield 38, 3) := by decide +kernel
theorem dX6_why_24 : decode cX6_why 24 = .ok (.iload_n 1, 1) := by decide +kernel
theorem dX6_why_25 : decode cX6_why 25 = .ok (.iaload, 1) := by decide +kernel
theorem dX6_why_26 : decode cX6_why 26 = .ok (.goto 5, 3) := by decide +kernel
theorem dX6_why_29 : decode cX6_why 29 = .ok (.bipush (-4), 2) := by decide +kernel
theorem dX6_why_31 : decode cX6_why 31 = .ok (.ireturn, 1) := by decide +kernel
theorem dX6_plansWith_0 : decode cX6_plansWith 0 = .ok (.iconst 0, 1) := by decide +kernel
theorem dX6_plansWith_1 : decode cX6_plansWith 1 = .ok (.istore_n 2, 1) := by decide +kernel
theorem dX6_plansWith_2 : decode cX6_plansWith 2 = .ok (.iconst 0, 1) := by decide +kernel
theorem dX6_plansWith_3 : decode cX6_plansWith 3 = .ok (.istore_n 3, 1) := by decide +kernel
theorem dX6_plansWith_4 : decode cX6_plansWith 4 = .ok (.iload_n 3, 1) := by decide +kernel
theorem dX6_plansWith_5 : decode cX6_plansWith 5 = .ok (.iconst 4, 1) := by decide +kernel
theorem dX6_plansWith_6 : decode cX6_plansWith 6 = .ok (.if_icmp .ge 25, 3) := by decide +kernel
theorem dX6_plansWith_9 : decode cX6_plansWith 9 = .ok (.iload_n 2, 1) := by decide +kernel
theorem dX6_plansWith_10 : decode cX6_plansWith 10 = .ok (.aload_n 0, 1) := by decide +kernel
theorem dX6_plansWith_11 : decode cX6_plansWith 11 = .ok (.getfield 7, 3) := by decide +kernel
theorem dX6_plansWith_14 : decode cX6_plansWith 14 = .ok (.iload_n 3, 1) := by decide +kernel
theorem dX6_plansWith_15 : decode cX6_plansWith 15 = .ok (.invokestatic 90, 3) := by decide +kernel
theorem dX6_plansWith_18 : decode cX6_plansWith 18 = .ok (.iaload, 1) := by decide +kernel
theorem dX6_plansWith_19 : decode cX6_plansWith 19 = .ok (.iload_n 1, 1) := by decide +kernel
theorem dX6_plansWith_20 : decode cX6_plansWith 20 = .ok (.ishr, 1) := by decide +kernel
theorem dX6_plansWith_21 : decode cX6_plansWith 21 = .ok (.iconst 1, 1) := by decide +kernel
theorem dX6_plansWith_22 : decode cX6_plansWith 22 = .ok (.iand, 1) := by decide +kernel
theorem dX6_plansWith_23 : decode cX6_plansWith 23 = .ok (.iadd, 1) := by decide +kernel
theorem dX6_plansWith_24 : decode cX6_plansWith 24 = .ok (.istore_n 2, 1) := by decide +kernel
theorem dX6_plansWith_25 : decode cX6_plansWith 25 = .ok (.iinc 3 1, 3) := by decide +kernel
theorem dX6_plansWith_28 : decode cX6_plansWith 28 = .ok (.goto (-24), 3) := by decide +kernel
theorem dX6_plansWith_31 : decode cX6_plansWith 31 = .ok (.iload_n 2, 1) := by decide +kernel
theorem dX6_plansWith_32 : decode cX6_plansWith 32 = .ok (.ireturn, 1) := by decide +kernel
theorem dX6_table_0 : decode cX6_table 0 = .ok (.iload_n 1, 1) := by decide +kernel
theorem dX6_table_1 : decode cX6_table 1 = .ok (.invokestatic 113, 3) := by decide +kernel
theorem dX6_table_4 : decode cX6_table 4 = .ok (.ifCond .eq 12, 3) := by decide +kernel
theorem dX6_table_7 : decode cX6_table 7 = .ok (.iload_n 2, 1) := by decide +kernel
theorem dX6_table_8 : decode cX6_table 8 = .ok (.iconst 0, 1) := by decide +kernel
theorem dX6_table_9 : decode cX6_table 9 = .ok (.iconst 3, 1) := by decide +kernel
theorem dX6_table_10 : decode cX6_table 10 = .ok (.invokestatic 63, 3) := by decide +kernel
theorem dX6_table_13 : decode cX6_table 13 = .ok (.ifCond .ne 5, 3) := by decide +kernel
theorem dX6_table_16 : decode cX6_table 16 = .ok (.iconst (-1), 1) := by decide +kernel
theorem dX6_table_17 : decode cX6_table 17 = .ok (.ireturn, 1) := by decide +kernel
theorem dX6_table_18 : decode cX6_table 18 = .ok (.aload_n 0, 1) := by decide +kernel
theorem dX6_table_19 : decode cX6_table 19 = .ok (.getfield 7, 3) := by decide +kernel
theorem dX6_table_22 : decode cX6_table 22 = .ok (.iconst 0, 1) := by decide +kernel
theorem dX6_table_23 : decode cX6_table 23 = .ok (.iload_n 1, 1) := by decide +kernel
theorem dX6_table_24 : decode cX6_table 24 = .ok (.iadd, 1) := by decide +kernel
theorem dX6_table_25 : decode cX6_table 25 = .ok (.iaload, 1) := by decide +kernel
theorem dX6_table_26 : decode cX6_table 26 = .ok (.istore_n 3, 1) := by decide +kernel
theorem dX6_table_27 : decode cX6_table 27 = .ok (.aload_n 0, 1) := by decide +kernel
theorem dX6_table_28 : decode cX6_table 28 = .ok (.getfield 7, 3) := by decide +kernel
theorem dX6_table_31 : decode cX6_table 31 = .ok (.iconst 5, 1) := by decide +kernel
theorem dX6_table_32 : decode cX6_table 32 = .ok (.iload_n 1, 1) := by decide +kernel
theorem dX6_table_33 : decode cX6_table 33 = .ok (.iadd, 1) := by decide +kernel
theorem dX6_table_34 : decode cX6_table 34 = .ok (.iaload, 1) := by decide +kernel
theorem dX6_table_35 : decode cX6_table 35 = .ok (.istore 4, 2) := by decide +kernel
theorem dX6_table_37 : decode cX6_table 37 = .ok (.iload_n 2, 1) := by decide +kernel
theorem dX6_table_38 : decode cX6_table 38 = .ok (.iconst 3, 1) := by decide +kernel
theorem dX6_table_39 : decode cX6_table 39 = .ok (.if_icmp .ne 9, 3) := by decide +kernel
theorem dX6_table_42 : decode cX6_table 42 = .ok (.aload_n 0, 1) := by decide +kernel
theorem dX6_table_43 : decode cX6_table 43 = .ok (.iload_n 1, 1) := by decide +kernel
theorem dX6_table_44 : decode cX6_table 44 = .ok (.invokevirtual 201, 3) := by decide +kernel
theorem dX6_table_47 : decode cX6_table 47 = .ok (.ireturn, 1) := by decide +kernel
theorem dX6_table_48 : decode cX6_table 48 = .ok (.iload_n 2, 1) := by decide +kernel
theorem dX6_table_49 : decode cX6_table 49 = .ok (.ifCond .ne 7, 3) := by decide +kernel
theorem dX6_table_52 : decode cX6_table 52 = .ok (.iload_n 3, 1) := by decide +kernel
theorem dX6_table_53 : decode cX6_table 53 = .ok (.goto 36, 3) := by decide +kernel
theorem dX6_table_56 : decode cX6_table 56 = .ok (.iload_n 2, 1) := by decide +kernel
theorem dX6_table_57 : decode cX6_table 57 = .ok (.iconst 1, 1) := by decide +kernel
theorem dX6_table_58 : decode cX6_table 58 = .ok (.if_icmp .ne 8, 3) := by decide +kernel
theorem dX6_table_61 : decode cX6_table 61 = .ok (.iload 4, 2) := by decide +kernel
theorem dX6_table_63 : decode cX6_table 63 = .ok (.goto 26, 3) := by decide +kernel
theorem dX6_table_66 : decode cX6_table 66 = .ok (.iload_n 3, 1) := by decide +kernel
theorem dX6_table_67 : decode cX6_table 67 = .ok (.iload 4, 2) := by decide +kernel
theorem dX6_table_69 : decode cX6_table 69 = .ok (.if_icmp .le 13, 3) := by decide +kernel
theorem dX6_table_72 : decode cX6_table 72 = .ok (.bipush 100, 2) := by decide +kernel
theorem dX6_table_74 : decode cX6_table 74 = .ok (.iload_n 3, 1) := by decide +kernel
theorem dX6_table_75 : decode cX6_table 75 = .ok (.imul, 1) := by decide +kernel
theorem dX6_table_76 : decode cX6_table 76 = .ok (.iload 4, 2) := by decide +kernel
theorem dX6_table_78 : decode cX6_table 78 = .ok (.idiv, 1) := by decide +kernel
theorem dX6_table_79 : decode cX6_table 79 = .ok (.goto 10, 3) := by decide +kernel
theorem dX6_table_82 : decode cX6_table 82 = .ok (.bipush 100, 2) := by decide +kernel
theorem dX6_table_84 : decode cX6_table 84 = .ok (.iload 4, 2) := by decide +kernel
theorem dX6_table_86 : decode cX6_table 86 = .ok (.imul, 1) := by decide +kernel
theorem dX6_table_87 : decode cX6_table 87 = .ok (.iload_n 3, 1) := by decide +kernel
theorem dX6_table_88 : decode cX6_table 88 = .ok (.idiv, 1) := by decide +kernel
theorem dX6_table_89 : decode cX6_table 89 = .ok (.ireturn, 1) := by decide +kernel
theorem dX6_partOf_0 : decode cX6_partOf 0 = .ok (.iload_n 1, 1) := by decide +kernel
theorem dX6_partOf_1 : decode cX6_partOf 1 = .ok (.invokestatic 113, 3) := by decide +kernel
theorem dX6_partOf_4 : decode cX6_partOf 4 = .ok (.ifCond .eq 31, 3) := by decide +kernel
theorem dX6_partOf_7 : decode cX6_partOf 7 = .ok (.iload_n 2, 1) := by decide +kernel
theorem dX6_partOf_8 : decode cX6_partOf 8 = .ok (.invokestatic 113, 3) := by decide +kernel
theorem dX6_partOf_11 : decode cX6_partOf 11 = .ok (.ifCond .eq 24, 3) := by decide +kernel
theorem dX6_partOf_14 : decode cX6_partOf 14 = .ok (.iload_n 1, 1) := by decide +kernel
theorem dX6_partOf_15 : decode cX6_partOf 15 = .ok (.iload_n 2, 1) := by decide +kernel
theorem dX6_partOf_16 : decode cX6_partOf 16 = .ok (.if_icmp .eq 19, 3) := by decide +kernel
theorem dX6_partOf_19 : decode cX6_partOf 19 = .ok (.aload_n 0, 1) := by decide +kernel
theorem dX6_partOf_20 : decode cX6_partOf 20 = .ok (.getfield 7, 3) := by decide +kernel
theorem dX6_partOf_23 : decode cX6_partOf 23 = .ok (.bipush 10, 2) := by decide +kernel
theorem dX6_partOf_25 : decode cX6_partOf 25 = .ok (.iconst 5, 1) := by decide +kernel
theorem dX6_partOf_26 : decode cX6_partOf 26 = .ok (.iload_n 1, 1) := by decide +kernel
theorem dX6_partOf_27 : decode cX6_partOf 27 = .ok (.imul, 1) := by decide +kernel
theorem dX6_partOf_28 : decode cX6_partOf 28 = .ok (.iadd, 1) := by decide +kernel
theorem dX6_partOf_29 : decode cX6_partOf 29 = .ok (.iload_n 2, 1) := by decide +kernel
theorem dX6_partOf_30 : decode cX6_partOf 30 = .ok (.iadd, 1) := by decide +kernel
theorem dX6_partOf_31 : decode cX6_partOf 31 = .ok (.iaload, 1) := by decide +kernel
theorem dX6_partOf_32 : decode cX6_partOf 32 = .ok (.goto 4, 3) := by decide +kernel
theorem dX6_partOf_35 : decode cX6_partOf 35 = .ok (.iconst (-1), 1) := by decide +kernel
theorem dX6_partOf_36 : decode cX6_partOf 36 = .ok (.ireturn, 1) := by decide +kernel
theorem dX6_size_0 : decode cX6_size 0 = .ok (.iload_n 1, 1) := by decide +kernel
theorem dX6_size_1 : decode cX6_size 1 = .ok (.invokestatic 142, 3) := by decide +kernel
theorem dX6_size_4 : decode cX6_size 4 = .ok (.ifCond .eq 18, 3) := by decide +kernel
theorem dX6_size_7 : decode cX6_size 7 = .ok (.aload_n 0, 1) := by decide +kernel
theorem dX6_size_8 : decode cX6_size 8 = .ok (.iload_n 1, 1) := by decide +kernel
theorem dX6_size_9 : decode cX6_size 9 = .ok (.iload_n 2, 1) := by decide +kernel
theorem dX6_size_10 : decode cX6_size 10 = .ok (.invokestatic 204, 3) := by decide +kernel
theorem dX6_size_13 : decode cX6_size 13 = .ok (.invokevirtual 72, 3) := by decide +kernel
theorem dX6_size_16 : decode cX6_size 16 = .ok (.invokestatic 148, 3) := by decide +kernel
theorem dX6_size_19 : decode cX6_size 19 = .ok (.goto 4, 3) := by decide +kernel
theorem dX6_size_22 : decode cX6_size 22 = .ok (.iconst (-1), 1) := by decide +kernel
theorem dX6_size_23 : decode cX6_size 23 = .ok (.ireturn, 1) := by decide +kernel
theorem dX6_least_0 : decode cX6_least 0 = .ok (.iload_n 1, 1) := by decide +kernel
theorem dX6_least_1 : decode cX6_least 1 = .ok (.invokestatic 142, 3) := by decide +kernel
theorem dX6_least_4 : decode cX6_least 4 = .ok (.ifCond .eq 12, 3) := by decide +kernel
theorem dX6_least_7 : decode cX6_least 7 = .ok (.iload_n 3, 1) := by decide +kernel
theorem dX6_least_8 : decode cX6_least 8 = .ok (.iconst 0, 1) := by decide +kernel
theorem dX6_least_9 : decode cX6_least 9 = .ok (.iconst 1, 1) := by decide +kernel
theorem dX6_least_10 : decode cX6_least 10 = .ok (.invokestatic 63, 3) := by decide +kernel
theorem dX6_least_13 : decode cX6_least 13 = .ok (.ifCond .ne 5, 3) := by decide +kernel
theorem dX6_least_16 : decode cX6_least 16 = .ok (.iconst (-1), 1) := by decide +kernel
theorem dX6_least_17 : decode cX6_least 17 = .ok (.ireturn, 1) := by decide +kernel
theorem dX6_least_18 : decode cX6_least 18 = .ok (.iload_n 3, 1) := by decide +kernel
theorem dX6_least_19 : decode cX6_least 19 = .ok (.ifCond .ne 15, 3) := by decide +kernel
theorem dX6_least_22 : decode cX6_least 22 = .ok (.aload_n 0, 1) := by decide +kernel
theorem dX6_least_23 : decode cX6_least 23 = .ok (.iload_n 1, 1) := by decide +kernel
theorem dX6_least_24 : decode cX6_least 24 = .ok (.iload_n 2, 1) := by decide +kernel
theorem dX6_least_25 : decode cX6_least 25 = .ok (.invokestatic 204, 3) := by decide +kernel
theorem dX6_least_28 : decode cX6_least 28 = .ok (.invokevirtual 125, 3) := by decide +kernel
theorem dX6_least_31 : decode cX6_least 31 = .ok (.goto 12, 3) := by decide +kernel
theorem dX6_least_34 : decode cX6_least 34 = .ok (.aload_n 0, 1) := by decide +kernel
theorem dX6_least_35 : decode cX6_least 35 = .ok (.iload_n 1, 1) := by decide +kernel
theorem dX6_least_36 : decode cX6_least 36 = .ok (.iload_n 2, 1) := by decide +kernel
theorem dX6_least_37 : decode cX6_least 37 = .ok (.invokestatic 204, 3) := by decide +kernel
theorem dX6_least_40 : decode cX6_least 40 = .ok (.invokevirtual 208, 3) := by decide +kernel
theorem dX6_least_43 : decode cX6_least 43 = .ok (.invokestatic 148, 3) := by decide +kernel
theorem dX6_least_46 : decode cX6_least 46 = .ok (.ireturn, 1) := by decide +kernel
theorem dX6_best_0 : decode cX6_best 0 = .ok (.iload_n 1, 1) := by decide +kernel
theorem dX6_best_1 : decode cX6_best 1 = .ok (.invokestatic 142, 3) := by decide +kernel
theorem dX6_best_4 : decode cX6_best 4 = .ok (.ifCond .eq 7, 3) := by decide +kernel
theorem dX6_best_7 : decode cX6_best 7 = .ok (.iload_n 3, 1) := by decide +kernel
theorem dX6_best_8 : decode cX6_best 8 = .ok (.ifCond .ge 5, 3) := by decide +kernel
theorem dX6_best_11 : decode cX6_best 11 = .ok (.iconst (-1), 1) := by decide +kernel
theorem dX6_best_12 : decode cX6_best 12 = .ok (.ireturn, 1) := by decide +kernel
theorem dX6_best_13 : decode cX6_best 13 = .ok (.aload_n 0, 1) := by decide +kernel
theorem dX6_best_14 : decode cX6_best 14 = .ok (.iload_n 1, 1) := by decide +kernel
theorem dX6_best_15 : decode cX6_best 15 = .ok (.iload_n 2, 1) := by decide +kernel
theorem dX6_best_16 : decode cX6_best 16 = .ok (.invokestatic 204, 3) := by decide +kernel
theorem dX6_best_19 : decode cX6_best 19 = .ok (.invokevirtual 125, 3) := by decide +kernel
theorem dX6_best_22 : decode cX6_best 22 = .ok (.lconst 0, 1) := by decide +kernel
theorem dX6_best_23 : decode cX6_best 23 = .ok (.lcmp, 1) := by decide +kernel
theorem dX6_best_24 : decode cX6_best 24 = .ok (.ifCond .lt 20, 3) := by decide +kernel
theorem dX6_best_27 : decode cX6_best 27 = .ok (.iload_n 3, 1) := by decide +kernel
theorem dX6_best_28 : decode cX6_best 28 = .ok (.aload_n 0, 1) := by decide +kernel
theorem dX6_best_29 : decode cX6_best 29 = .ok (.getfield 69, 3) := by decide +kernel
theorem dX6_best_32 : decode cX6_best 32 = .ok (.if_icmp .ge 12, 3) := by decide +kernel
theorem dX6_best_35 : decode cX6_best 35 = .ok (.aload_n 0, 1) := by decide +kernel
theorem dX6_best_36 : decode cX6_best 36 = .ok (.getfield 44, 3) := by decide +kernel
theorem dX6_best_39 : decode cX6_best 39 = .ok (.iload_n 3, 1) := by decide +kernel
theorem dX6_best_40 : decode cX6_best 40 = .ok (.iaload, 1) := by decide +kernel
theorem dX6_best_41 : decode cX6_best 41 = .ok (.goto 5, 3) := by decide +kernel
theorem dX6_best_44 : decode cX6_best 44 = .ok (.bipush (-4), 2) := by decide +kernel
theorem dX6_best_46 : decode cX6_best 46 = .ok (.ireturn, 1) := by decide +kernel
theorem dX6_orderOf_0 : decode cX6_orderOf 0 = .ok (.iconst 0, 1) := by decide +kernel
theorem dX6_orderOf_1 : decode cX6_orderOf 1 = .ok (.istore_n 2, 1) := by decide +kernel
theorem dX6_orderOf_2 : decode cX6_orderOf 2 = .ok (.iconst 0, 1) := by decide +kernel
theorem dX6_orderOf_3 : decode cX6_orderOf 3 = .ok (.istore_n 3, 1) := by decide +kernel
theorem dX6_orderOf_4 : decode cX6_orderOf 4 = .ok (.iload_n 3, 1) := by decide +kernel
theorem dX6_orderOf_5 : decode cX6_orderOf 5 = .ok (.iconst 4, 1) := by decide +kernel
theorem dX6_orderOf_6 : decode cX6_orderOf 6 = .ok (.if_icmp .ge 56, 3) := by decide +kernel
theorem dX6_orderOf_9 : decode cX6_orderOf 9 = .ok (.iload_n 2, 1) := by decide +kernel
theorem dX6_orderOf_10 : decode cX6_orderOf 10 = .ok (.aload_n 0, 1) := by decide +kernel
theorem dX6_orderOf_11 : decode cX6_orderOf 11 = .ok (.getfield 7, 3) := by decide +kernel
theorem dX6_orderOf_14 : decode cX6_orderOf 14 = .ok (.iload_n 3, 1) := by decide +kernel
theorem dX6_orderOf_15 : decode cX6_orderOf 15 = .ok (.invokestatic 90, 3) := by decide +kernel
theorem dX6_orderOf_18 : decode cX6_orderOf 18 = .ok (.iaload, 1) := by decide +kernel
theorem dX6_orderOf_19 : decode cX6_orderOf 19 = .ok (.ifCond .le 34, 3) := by decide +kernel
theorem dX6_orderOf_22 : decode cX6_orderOf 22 = .ok (.aload_n 0, 1) := by decide +kernel
theorem dX6_orderOf_23 : decode cX6_orderOf 23 = .ok (.getfield 7, 3) := by decide +kernel
theorem dX6_orderOf_26 : decode cX6_orderOf 26 = .ok (.iload_n 3, 1) := by decide +kernel
theorem dX6_orderOf_27 : decode cX6_orderOf 27 = .ok (.invokestatic 90, 3) := by decide +kernel
theorem dX6_orderOf_30 : decode cX6_orderOf 30 = .ok (.bipush 12, 2) := by decide +kernel
theorem dX6_orderOf_32 : decode cX6_orderOf 32 = .ok (.iadd, 1) := by decide +kernel
theorem dX6_orderOf_33 : decode cX6_orderOf 33 = .ok (.iaload, 1) := by decide +kernel
theorem dX6_orderOf_34 : decode cX6_orderOf 34 = .ok (.aload_n 0, 1) := by decide +kernel
theorem dX6_orderOf_35 : decode cX6_orderOf 35 = .ok (.getfield 7, 3) := by decide +kernel
theorem dX6_orderOf_38 : decode cX6_orderOf 38 = .ok (.iload_n 1, 1) := by decide +kernel
theorem dX6_orderOf_39 : decode cX6_orderOf 39 = .ok (.invokestatic 90, 3) := by decide +kernel
theorem dX6_orderOf_42 : decode cX6_orderOf 42 = .ok (.bipush 12, 2) := by decide +kernel
theorem dX6_orderOf_44 : decode cX6_orderOf 44 = .ok (.iadd, 1) := by decide +kernel
theorem dX6_orderOf_45 : decode cX6_orderOf 45 = .ok (.iaload, 1) := by decide +kernel
theorem dX6_orderOf_46 : decode cX6_orderOf 46 = .ok (.if_icmp .ge 7, 3) := by decide +kernel
theorem dX6_orderOf_49 : decode cX6_orderOf 49 = .ok (.iconst 1, 1) := by decide +kernel
theorem dX6_orderOf_50 : decode cX6_orderOf 50 = .ok (.goto 4, 3) := by decide +kernel
theorem dX6_orderOf_53 : decode cX6_orderOf 53 = .ok (.iconst 0, 1) := by decide +kernel
theorem dX6_orderOf_54 : decode cX6_orderOf 54 = .ok (.iadd, 1) := by decide +kernel
theorem dX6_orderOf_55 : decode cX6_orderOf 55 = .ok (.istore_n 2, 1) := by decide +kernel
theorem dX6_orderOf_56 : decode cX6_orderOf 56 = .ok (.iinc 3 1, 3) := by decide +kernel
theorem dX6_orderOf_59 : decode cX6_orderOf 59 = .ok (.goto (-55), 3) := by decide +kernel
theorem dX6_orderOf_62 : decode cX6_orderOf 62 = .ok (.iload_n 2, 1) := by decide +kernel
theorem dX6_orderOf_63 : decode cX6_orderOf 63 = .ok (.ireturn, 1) := by decide +kernel
theorem dX6_over_0 : decode cX6_over 0 = .ok (.aload_n 0, 1) := by decide +kernel
theorem dX6_over_1 : decode cX6_over 1 = .ok (.iload_n 1, 1) := by decide +kernel
theorem dX6_over_2 : decode cX6_over 2 = .ok (.iconst 0, 1) := by decide +kernel
theorem dX6_over_3 : decode cX6_over 3 = .ok (.invokevirtual 131, 3) := by decide +kernel
theorem dX6_over_6 : decode cX6_over 6 = .ok (.lstore_n 2, 1) := by decide +kernel
theorem dX6_over_7 : decode cX6_over 7 = .ok (.lload_n 2, 1) := by decide +kernel
theorem dX6_over_8 : decode cX6_over 8 = .ok (.aload_n 0, 1) := by decide +kernel
theorem dX6_over_9 : decode cX6_over 9 = .ok (.aload_n 0, 1) := by decide +kernel
theorem dX6_over_10 : decode cX6_over 10 = .ok (.getfield 7, 3) := by decide +kernel
theorem dX6_over_13 : decode cX6_over 13 = .ok (.iload_n 1, 1) := by decide +kernel
theorem dX6_over_14 : decode cX6_over 14 = .ok (.invokestatic 90, 3) := by decide +kernel
theorem dX6_over_17 : decode cX6_over 17 = .ok (.iaload, 1) := by decide +kernel
theorem dX6_over_18 : decode cX6_over 18 = .ok (.iconst 0, 1) := by decide +kernel
theorem dX6_over_19 : decode cX6_over 19 = .ok (.invokevirtual 125, 3) := by decide +kernel
theorem dX6_over_22 : decode cX6_over 22 = .ok (.lsub, 1) := by decide +kernel
theorem dX6_over_23 : decode cX6_over 23 = .ok (.lreturn, 1) := by decide +kernel
theorem dX6_plan_0 : decode cX6_plan 0 = .ok (.iload_n 1, 1) := by decide +kernel
theorem dX6_plan_1 : decode cX6_plan 1 = .ok (.invokestatic 142, 3) := by decide +kernel
theorem dX6_plan_4 : decode cX6_plan 4 = .ok (.ifCond .eq 13, 3) := by decide +kernel
theorem dX6_plan_7 : decode cX6_plan 7 = .ok (.iload_n 2, 1) := by decide +kernel
theorem dX6_plan_8 : decode cX6_plan 8 = .ok (.iconst 0, 1) := by decide +kernel
theorem dX6_plan_9 : decode cX6_plan 9 = .ok (.bipush 11, 2) := by decide +kernel
theorem dX6_plan_11 : decode cX6_plan 11 = .ok (.invokestatic 63, 3) := by decide +kernel
theorem dX6_plan_14 : decode cX6_plan 14 = .ok (.ifCond .ne 5, 3) := by decide +kernel
theorem dX6_plan_17 : decode cX6_plan 17 = .ok (.iconst (-1), 1) := by decide +kernel
theorem dX6_plan_18 : decode cX6_plan 18 = .ok (.ireturn, 1) := by decide +kernel
theorem dX6_plan_19 : decode cX6_plan 19 = .ok (.aload_n 0, 1) := by decide +kernel
theorem dX6_plan_20 : decode cX6_plan 20 = .ok (.iload_n 1, 1) := by decide +kernel
theorem dX6_plan_21 : decode cX6_plan 21 = .ok (.invokevirtual 122, 3) := by decide +kernel
theorem dX6_plan_24 : decode cX6_plan 24 = .ok (.istore_n 3, 1) := by decide +kernel
theorem dX6_plan_25 : decode cX6_plan 25 = .ok (.iload_n 3, 1) := by decide +kernel
theorem dX6_plan_26 : decode cX6_plan 26 = .ok (.ifCond .ge 6, 3) := by decide +kernel
theorem dX6_plan_29 : decode cX6_plan 29 = .ok (.bipush (-4), 2) := by decide +kernel
theorem dX6_plan_31 : decode cX6_plan 31 = .ok (.ireturn, 1) := by decide +kernel
theorem dX6_plan_32 : decode cX6_plan 32 = .ok (.iload_n 2, 1) := by decide +kernel
theorem dX6_plan_33 : decode cX6_plan 33 = .ok (.tableswitch 125 5 11 #[43, 53, 63, 76, 89, 98, 119], 43) := by decide +kernel
theorem dX6_plan_76 : decode cX6_plan 76 = .ok (.aload_n 0, 1) := by decide +kernel
theorem dX6_plan_77 : decode cX6_plan 77 = .ok (.iload_n 3, 1) := by decide +kernel
theorem dX6_plan_78 : decode cX6_plan 78 = .ok (.iconst 0, 1) := by decide +kernel
theorem dX6_plan_79 : decode cX6_plan 79 = .ok (.invokevirtual 131, 3) := by decide +kernel
theorem dX6_plan_82 : decode cX6_plan 82 = .ok (.invokestatic 148, 3) := by decide +kernel
theorem dX6_plan_85 : decode cX6_plan 85 = .ok (.ireturn, 1) := by decide +kernel
theorem dX6_plan_86 : decode cX6_plan 86 = .ok (.aload_n 0, 1) := by decide +kernel
theorem dX6_plan_87 : decode cX6_plan 87 = .ok (.iload_n 3, 1) := by decide +kernel
theorem dX6_plan_88 : decode cX6_plan 88 = .ok (.iconst 5, 1) := by decide +kernel
theorem dX6_plan_89 : decode cX6_plan 89 = .ok (.invokevirtual 131, 3) := by decide +kernel
theorem dX6_plan_92 : decode cX6_plan 92 = .ok (.invokestatic 148, 3) := by decide +kernel
theorem dX6_plan_95 : decode cX6_plan 95 = .ok (.ireturn, 1) := by decide +kernel
theorem dX6_plan_96 : decode cX6_plan 96 = .ok (.aload_n 0, 1) := by decide +kernel
theorem dX6_plan_97 : decode cX6_plan 97 = .ok (.getfield 7, 3) := by decide +kernel
theorem dX6_plan_100 : decode cX6_plan 100 = .ok (.iload_n 3, 1) := by decide +kernel
theorem dX6_plan_101 : decode cX6_plan 101 = .ok (.invokestatic 90, 3) := by decide +kernel
theorem dX6_plan_104 : decode cX6_plan 104 = .ok (.bipush 11, 2) := by decide +kernel
theorem dX6_plan_106 : decode cX6_plan 106 = .ok (.iadd, 1) := by decide +kernel
theorem dX6_plan_107 : decode cX6_plan 107 = .ok (.iaload, 1) := by decide +kernel
theorem dX6_plan_108 : decode cX6_plan 108 = .ok (.ireturn, 1) := by decide +kernel
theorem dX6_plan_109 : decode cX6_plan 109 = .ok (.aload_n 0, 1) := by decide +kernel
theorem dX6_plan_110 : decode cX6_plan 110 = .ok (.getfield 7, 3) := by decide +kernel
theorem dX6_plan_113 : decode cX6_plan 113 = .ok (.iload_n 3, 1) := by decide +kernel
theorem dX6_plan_114 : decode cX6_plan 114 = .ok (.invokestatic 90, 3) := by decide +kernel
theorem dX6_plan_117 : decode cX6_plan 117 = .ok (.bipush 13, 2) := by decide +kernel
theorem dX6_plan_119 : decode cX6_plan 119 = .ok (.iadd, 1) := by decide +kernel
theorem dX6_plan_120 : decode cX6_plan 120 = .ok (.iaload, 1) := by decide +kernel
theorem dX6_plan_121 : decode cX6_plan 121 = .ok (.ireturn, 1) := by decide +kernel
theorem dX6_plan_122 : decode cX6_plan 122 = .ok (.aload_n 0, 1) := by decide +kernel
theorem dX6_plan_123 : decode cX6_plan 123 = .ok (.iload_n 3, 1) := by decide +kernel
theorem dX6_plan_124 : decode cX6_plan 124 = .ok (.invokevirtual 211, 3) := by decide +kernel
theorem dX6_plan_127 : decode cX6_plan 127 = .ok (.invokestatic 148, 3) := by decide +kernel
theorem dX6_plan_130 : decode cX6_plan 130 = .ok (.ireturn, 1) := by decide +kernel
theorem dX6_plan_131 : decode cX6_plan 131 = .ok (.aload_n 0, 1) := by decide +kernel
theorem dX6_plan_132 : decode cX6_plan 132 = .ok (.iload_n 3, 1) := by decide +kernel
theorem dX6_plan_133 : decode cX6_plan 133 = .ok (.aload_n 0, 1) := by decide +kernel
theorem dX6_plan_134 : decode cX6_plan 134 = .ok (.getfield 7, 3) := by decide +kernel
theorem dX6_plan_137 : decode cX6_plan 137 = .ok (.bipush 35, 2) := by decide +kernel
theorem dX6_plan_139 : decode cX6_plan 139 = .ok (.iaload, 1) := by decide +kernel
theorem dX6_plan_140 : decode cX6_plan 140 = .ok (.invokevirtual 101, 3) := by decide +kernel
theorem dX6_plan_143 : decode cX6_plan 143 = .ok (.ifCond .eq 7, 3) := by decide +kernel
theorem dX6_plan_146 : decode cX6_plan 146 = .ok (.iconst 1, 1) := by decide +kernel
theorem dX6_plan_147 : decode cX6_plan 147 = .ok (.goto 4, 3) := by decide +kernel
theorem dX6_plan_150 : decode cX6_plan 150 = .ok (.iconst 0, 1) := by decide +kernel
theorem dX6_plan_151 : decode cX6_plan 151 = .ok (.ireturn, 1) := by decide +kernel
theorem dX6_plan_152 : decode cX6_plan 152 = .ok (.aload_n 0, 1) := by decide +kernel
theorem dX6_plan_153 : decode cX6_plan 153 = .ok (.iload_n 3, 1) := by decide +kernel
theorem dX6_plan_154 : decode cX6_plan 154 = .ok (.invokevirtual 214, 3) := by decide +kernel
theorem dX6_plan_157 : decode cX6_plan 157 = .ok (.ireturn, 1) := by decide +kernel
theorem dX6_plan_158 : decode cX6_plan 158 = .ok (.iload_n 2, 1) := by decide +kernel
theorem dX6_plan_159 : decode cX6_plan 159 = .ok (.iload_n 1, 1) := by decide +kernel
theorem dX6_plan_160 : decode cX6_plan 160 = .ok (.invokestatic 94, 3) := by decide +kernel
theorem dX6_plan_163 : decode cX6_plan 163 = .ok (.if_icmp .ge 19, 3) := by decide +kernel
theorem dX6_plan_166 : decode cX6_plan 166 = .ok (.aload_n 0, 1) := by decide +kernel
theorem dX6_plan_167 : decode cX6_plan 167 = .ok (.getfield 7, 3) := by decide +kernel
theorem dX6_plan_170 : decode cX6_plan 170 = .ok (.iload_n 3, 1) := by decide +kernel
theorem dX6_plan_171 : decode cX6_plan 171 = .ok (.invokestatic 90, 3) := by decide +kernel
theorem dX6_plan_174 : decode cX6_plan 174 = .ok (.iconst 1, 1) := by decide +kernel
theorem dX6_plan_175 : decode cX6_plan 175 = .ok (.iadd, 1) := by decide +kernel
theorem dX6_plan_176 : decode cX6_plan 176 = .ok (.iload_n 2, 1) := by decide +kernel
theorem dX6_plan_177 : decode cX6_plan 177 = .ok (.iadd, 1) := by decide +kernel
theorem dX6_plan_178 : decode cX6_plan 178 = .ok (.iaload, 1) := by decide +kernel
theorem dX6_plan_179 : decode cX6_plan 179 = .ok (.goto 5, 3) := by decide +kernel
theorem dX6_plan_182 : decode cX6_plan 182 = .ok (.bipush (-4), 2) := by decide +kernel
theorem dX6_plan_184 : decode cX6_plan 184 = .ok (.ireturn, 1) := by decide +kernel
theorem dX6_plans_0 : decode cX6_plans 0 = .ok (.iconst 0, 1) := by decide +kernel
theorem dX6_plans_1 : decode cX6_plans 1 = .ok (.istore_n 1, 1) := by decide +kernel
theorem dX6_plans_2 : decode cX6_plans 2 = .ok (.iconst 0, 1) := by decide +kernel
theorem dX6_plans_3 : decode cX6_plans 3 = .ok (.istore_n 2, 1) := by decide +kernel
theorem dX6_plans_4 : decode cX6_plans 4 = .ok (.iload_n 2, 1) := by decide +kernel
theorem dX6_plans_5 : decode cX6_plans 5 = .ok (.iconst 4, 1) := by decide +kernel
theorem dX6_plans_6 : decode cX6_plans 6 = .ok (.if_icmp .ge 29, 3) := by decide +kernel
theorem dX6_plans_9 : decode cX6_plans 9 = .ok (.iload_n 1, 1) := by decide +kernel
theorem dX6_plans_10 : decode cX6_plans 10 = .ok (.aload_n 0, 1) := by decide +kernel
theorem dX6_plans_11 : decode cX6_plans 11 = .ok (.getfield 7, 3) := by decide +kernel
theorem dX6_plans_14 : decode cX6_plans 14 = .ok (.iload_n 2, 1) := by decide +kernel
theorem dX6_plans_15 : decode cX6_plans 15 = .ok (.invokestatic 90, 3) := by decide +kernel
theorem dX6_plans_18 : decode cX6_plans 18 = .ok (.iaload, 1) := by decide +kernel
theorem dX6_plans_19 : decode cX6_plans 19 = .ok (.ifCond .le 7, 3) := by decide +kernel
theorem dX6_plans_22 : decode cX6_plans 22 = .ok (.iconst 1, 1) := by decide +kernel
theorem dX6_plans_23 : decode cX6_plans 23 = .ok (.goto 4, 3) := by decide +kernel
theorem dX6_plans_26 : decode cX6_plans 26 = .ok (.iconst 0, 1) := by decide +kernel
theorem dX6_plans_27 : decode cX6_plans 27 = .ok (.iadd, 1) := by decide +kernel
theorem dX6_plans_28 : decode cX6_plans 28 = .ok (.istore_n 1, 1) := by decide +kernel
theorem dX6_plans_29 : decode cX6_plans 29 = .ok (.iinc 2 1, 3) := by decide +kernel
theorem dX6_plans_32 : decode cX6_plans 32 = .ok (.goto (-28), 3) := by decide +kernel
theorem dX6_plans_35 : decode cX6_plans 35 = .ok (.iload_n 1, 1) := by decide +kernel
theorem dX6_plans_36 : decode cX6_plans 36 = .ok (.ireturn, 1) := by decide +kernel
theorem dX6_pinned_0 : decode cX6_pinned 0 = .ok (.iconst 0, 1) := by decide +kernel
theorem dX6_pinned_1 : decode cX6_pinned 1 = .ok (.istore_n 1, 1) := by decide +kernel
theorem dX6_pinned_2 : decode cX6_pinned 2 = .ok (.iconst 0, 1) := by decide +kernel
theorem dX6_pinned_3 : decode cX6_pinned 3 = .ok (.istore_n 2, 1) := by decide +kernel
theorem dX6_pinned_4 : decode cX6_pinned 4 = .ok (.iload_n 2, 1) := by decide +kernel
theorem dX6_pinned_5 : decode cX6_pinned 5 = .ok (.iconst 4, 1) := by decide +kernel
theorem dX6_pinned_6 : decode cX6_pinned 6 = .ok (.if_icmp .ge 24, 3) := by decide +kernel
theorem dX6_pinned_9 : decode cX6_pinned 9 = .ok (.iload_n 1, 1) := by decide +kernel
theorem dX6_pinned_10 : decode cX6_pinned 10 = .ok (.aload_n 0, 1) := by decide +kernel
theorem dX6_pinned_11 : decode cX6_pinned 11 = .ok (.getfield 7, 3) := by decide +kernel
theorem dX6_pinned_14 : decode cX6_pinned 14 = .ok (.iload_n 2, 1) := by decide +kernel
theorem dX6_pinned_15 : decode cX6_pinned 15 = .ok (.invokestatic 90, 3) := by decide +kernel
theorem dX6_pinned_18 : decode cX6_pinned 18 = .ok (.bipush 13, 2) := by decide +kernel
theorem dX6_pinned_20 : decode cX6_pinned 20 = .ok (.iadd, 1) := by decide +kernel
theorem dX6_pinned_21 : decode cX6_pinned 21 = .ok (.iaload, 1) := by decide +kernel
theorem dX6_pinned_22 : decode cX6_pinned 22 = .ok (.iadd, 1) := by decide +kernel
theorem dX6_pinned_23 : decode cX6_pinned 23 = .ok (.istore_n 1, 1) := by decide +kernel
theorem dX6_pinned_24 : decode cX6_pinned 24 = .ok (.iinc 2 1, 3) := by decide +kernel
theorem dX6_pinned_27 : decode cX6_pinned 27 = .ok (.goto (-23), 3) := by decide +kernel
theorem dX6_pinned_30 : decode cX6_pinned 30 = .ok (.iload_n 1, 1) := by decide +kernel
theorem dX6_pinned_31 : decode cX6_pinned 31 = .ok (.ireturn, 1) := by decide +kernel
theorem dX6_counted_0 : decode cX6_counted 0 = .ok (.iload_n 1, 1) := by decide +kernel
theorem dX6_counted_1 : decode cX6_counted 1 = .ok (.tableswitch 136 0 13 #[71, 76, 81, 89, 89, 101, 101, 113, 113, 113, 113, 113, 126, 131], 71) := by decide +kernel
theorem dX6_counted_72 : decode cX6_counted 72 = .ok (.aload_n 0, 1) := by decide +kernel
theorem dX6_counted_73 : decode cX6_counted 73 = .ok (.invokevirtual 217, 3) := by decide +kernel
theorem dX6_counted_76 : decode cX6_counted 76 = .ok (.ireturn, 1) := by decide +kernel
theorem dX6_counted_77 : decode cX6_counted 77 = .ok (.aload_n 0, 1) := by decide +kernel
theorem dX6_counted_78 : decode cX6_counted 78 = .ok (.invokevirtual 220, 3) := by decide +kernel
theorem dX6_counted_81 : decode cX6_counted 81 = .ok (.ireturn, 1) := by decide +kernel
theorem dX6_counted_82 : decode cX6_counted 82 = .ok (.aload_n 0, 1) := by decide +kernel
theorem dX6_counted_83 : decode cX6_counted 83 = .ok (.getfield 7, 3) := by decide +kernel
theorem dX6_counted_86 : decode cX6_counted 86 = .ok (.bipush 35, 2) := by decide +kernel
theorem dX6_counted_88 : decode cX6_counted 88 = .ok (.iaload, 1) := by decide +kernel
theorem dX6_counted_89 : decode cX6_counted 89 = .ok (.ireturn, 1) := by decide +kernel
theorem dX6_counted_90 : decode cX6_counted 90 = .ok (.aload_n 0, 1) := by decide +kernel
theorem dX6_counted_91 : decode cX6_counted 91 = .ok (.getfield 7, 3) := by decide +kernel
theorem dX6_counted_94 : decode cX6_counted 94 = .ok (.bipush 93, 2) := by decide +kernel
theorem dX6_counted_96 : decode cX6_counted 96 = .ok (.iload_n 1, 1) := by decide +kernel
theorem dX6_counted_97 : decode cX6_counted 97 = .ok (.iadd, 1) := by decide +kernel
theorem dX6_counted_98 : decode cX6_counted 98 = .ok (.iconst 3, 1) := by decide +kernel
theorem dX6_counted_99 : decode cX6_counted 99 = .ok (.isub, 1) := by decide +kernel
theorem dX6_counted_100 : decode cX6_counted 100 = .ok (.iaload, 1) := by decide +kernel
theorem dX6_counted_101 : decode cX6_counted 101 = .ok (.ireturn, 1) := by decide +kernel
theorem dX6_counted_102 : decode cX6_counted 102 = .ok (.aload_n 0, 1) := by decide +kernel
theorem dX6_counted_103 : decode cX6_counted 103 = .ok (.getfield 22, 3) := by decide +kernel
theorem dX6_counted_106 : decode cX6_counted 106 = .ok (.iload_n 1, 1) := by decide +kernel
theorem dX6_counted_107 : decode cX6_counted 107 = .ok (.iconst 5, 1) := by decide +kernel
theorem dX6_counted_108 : decode cX6_counted 108 = .ok (.isub, 1) := by decide +kernel
theorem dX6_counted_109 : decode cX6_counted 109 = .ok (.laload, 1) := by decide +kernel
theorem dX6_counted_110 : decode cX6_counted 110 = .ok (.invokestatic 148, 3) := by decide +kernel
theorem dX6_counted_113 : decode cX6_counted 113 = .ok (.ireturn, 1) := by decide +kernel
theorem dX6_counted_114 : decode cX6_counted 114 = .ok (.aload_n 0, 1) := by decide +kernel
theorem dX6_counted_115 : decode cX6_counted 115 = .ok (.getfield 7, 3) := by decide +kernel
theorem dX6_counted_118 : decode cX6_counted 118 = .ok (.bipush 95, 2) := by decide +kernel
theorem dX6_counted_120 : decode cX6_counted 120 = .ok (.iload_n 1, 1) := by decide +kernel
theorem dX6_counted_121 : decode cX6_counted 121 = .ok (.iadd, 1) := by decide +kernel
theorem dX6_counted_122 : decode cX6_counted 122 = .ok (.bipush 7, 2) := by decide +kernel
theorem dX6_counted_124 : decode cX6_counted 124 = .ok (.isub, 1) := by decide +kernel
theorem dX6_counted_125 : decode cX6_counted 125 = .ok (.iaload, 1) := by decide +kernel
theorem dX6_counted_126 : decode cX6_counted 126 = .ok (.ireturn, 1) := by decide +kernel
theorem dX6_counted_127 : decode cX6_counted 127 = .ok (.aload_n 0, 1) := by decide +kernel
theorem dX6_counted_128 : decode cX6_counted 128 = .ok (.getfield 152, 3) := by decide +kernel
theorem dX6_counted_131 : decode cX6_counted 131 = .ok (.ireturn, 1) := by decide +kernel
theorem dX6_counted_132 : decode cX6_counted 132 = .ok (.aload_n 0, 1) := by decide +kernel
theorem dX6_counted_133 : decode cX6_counted 133 = .ok (.getfield 59, 3) := by decide +kernel
theorem dX6_counted_136 : decode cX6_counted 136 = .ok (.ireturn, 1) := by decide +kernel
theorem dX6_counted_137 : decode cX6_counted 137 = .ok (.iconst (-1), 1) := by decide +kernel
theorem dX6_counted_138 : decode cX6_counted 138 = .ok (.ireturn, 1) := by decide +kernel
theorem dX6_fitness_0 : decode cX6_fitness 0 = .ok (.lconst 0, 1) := by decide +kernel
theorem dX6_fitness_1 : decode cX6_fitness 1 = .ok (.lstore_n 1, 1) := by decide +kernel
theorem dX6_fitness_2 : decode cX6_fitness 2 = .ok (.lconst 0, 1) := by decide +kernel
theorem dX6_fitness_3 : decode cX6_fitness 3 = .ok (.lstore_n 3, 1) := by decide +kernel
theorem dX6_fitness_4 : decode cX6_fitness 4 = .ok (.iconst 0, 1) := by decide +kernel
theorem dX6_fitness_5 : decode cX6_fitness 5 = .ok (.istore 5, 2) := by decide +kernel
theorem dX6_fitness_7 : decode cX6_fitness 7 = .ok (.iload 5, 2) := by decide +kernel
theorem dX6_fitness_9 : decode cX6_fitness 9 = .ok (.iconst 4, 1) := by decide +kernel
theorem dX6_fitness_10 : decode cX6_fitness 10 = .ok (.if_icmp .ge 50, 3) := by decide +kernel
theorem dX6_fitness_13 : decode cX6_fitness 13 = .ok (.aload_n 0, 1) := by decide +kernel
theorem dX6_fitness_14 : decode cX6_fitness 14 = .ok (.getfield 7, 3) := by decide +kernel
theorem dX6_fitness_17 : decode cX6_fitness 17 = .ok (.iload 5, 2) := by decide +kernel
theorem dX6_fitness_19 : decode cX6_fitness 19 = .ok (.invokestatic 90, 3) := by decide +kernel
theorem dX6_fitness_22 : decode cX6_fitness 22 = .ok (.iaload, 1) := by decide +kernel
theorem dX6_fitness_23 : decode cX6_fitness 23 = .ok (.ifCond .le 31, 3) := by decide +kernel
theorem dX6_fitness_26 : decode cX6_fitness 26 = .ok (.lload_n 3, 1) := by decide +kernel
theorem dX6_fitness_27 : decode cX6_fitness 27 = .ok (.aload_n 0, 1) := by decide +kernel
theorem dX6_fitness_28 : decode cX6_fitness 28 = .ok (.iload 5, 2) := by decide +kernel
theorem dX6_fitness_30 : decode cX6_fitness 30 = .ok (.iconst 0, 1) := by decide +kernel
theorem dX6_fitness_31 : decode cX6_fitness 31 = .ok (.invokevirtual 131, 3) := by decide +kernel
theorem dX6_fitness_34 : decode cX6_fitness 34 = .ok (.ladd, 1) := by decide +kernel
theorem dX6_fitness_35 : decode cX6_fitness 35 = .ok (.lstore_n 3, 1) := by decide +kernel
theorem dX6_fitness_36 : decode cX6_fitness 36 = .ok (.lload_n 1, 1) := by decide +kernel
theorem dX6_fitness_37 : decode cX6_fitness 37 = .ok (.aload_n 0, 1) := by decide +kernel
theorem dX6_fitness_38 : decode cX6_fitness 38 = .ok (.aload_n 0, 1) := by decide +kernel
theorem dX6_fitness_39 : decode cX6_fitness 39 = .ok (.getfield 7, 3) := by decide +kernel
theorem dX6_fitness_42 : decode cX6_fitness 42 = .ok (.iload 5, 2) := by decide +kernel
theorem dX6_fitness_44 : decode cX6_fitness 44 = .ok (.invokestatic 90, 3) := by decide +kernel
theorem dX6_fitness_47 : decode cX6_fitness 47 = .ok (.iaload, 1) := by decide +kernel
theorem dX6_fitness_48 : decode cX6_fitness 48 = .ok (.iconst 0, 1) := by decide +kernel
theorem dX6_fitness_49 : decode cX6_fitness 49 = .ok (.invokevirtual 125, 3) := by decide +kernel
theorem dX6_fitness_52 : decode cX6_fitness 52 = .ok (.ladd, 1) := by decide +kernel
theorem dX6_fitness_53 : decode cX6_fitness 53 = .ok (.lstore_n 1, 1) := by decide +kernel
theorem dX6_fitness_54 : decode cX6_fitness 54 = .ok (.iinc 5 1, 3) := by decide +kernel
theorem dX6_fitness_57 : decode cX6_fitness 57 = .ok (.goto (-50), 3) := by decide +kernel
theorem dX6_fitness_60 : decode cX6_fitness 60 = .ok (.lload_n 1, 1) := by decide +kernel
theorem dX6_fitness_61 : decode cX6_fitness 61 = .ok (.l2d, 1) := by decide +kernel
theorem dX6_fitness_62 : decode cX6_fitness 62 = .ok (.dstore 5, 2) := by decide +kernel
theorem dX6_fitness_64 : decode cX6_fitness 64 = .ok (.lload_n 3, 1) := by decide +kernel
theorem dX6_fitness_65 : decode cX6_fitness 65 = .ok (.l2d, 1) := by decide +kernel
theorem dX6_fitness_66 : decode cX6_fitness 66 = .ok (.dstore 7, 2) := by decide +kernel
theorem dX6_fitness_68 : decode cX6_fitness 68 = .ok (.lload_n 3, 1) := by decide +kernel
theorem dX6_fitness_69 : decode cX6_fitness 69 = .ok (.lconst 0, 1) := by decide +kernel
theorem dX6_fitness_70 : decode cX6_fitness 70 = .ok (.lcmp, 1) := by decide +kernel
theorem dX6_fitness_71 : decode cX6_fitness 71 = .ok (.ifCond .ne 7, 3) := by decide +kernel
theorem dX6_fitness_74 : decode cX6_fitness 74 = .ok (.dconst 1, 1) := by decide +kernel
theorem dX6_fitness_75 : decode cX6_fitness 75 = .ok (.goto 8, 3) := by decide +kernel
theorem dX6_fitness_78 : decode cX6_fitness 78 = .ok (.dload 5, 2) := by decide +kernel
theorem dX6_fitness_80 : decode cX6_fitness 80 = .ok (.dload 7, 2) := by decide +kernel
theorem dX6_fitness_82 : decode cX6_fitness 82 = .ok (.ddiv, 1) := by decide +kernel
theorem dX6_fitness_83 : decode cX6_fitness 83 = .ok (.dreturn, 1) := by decide +kernel
theorem dX6_dearer_0 : decode cX6_dearer 0 = .ok (.iconst 0, 1) := by decide +kernel
theorem dX6_dearer_1 : decode cX6_dearer 1 = .ok (.istore_n 1, 1) := by decide +kernel
theorem dX6_dearer_2 : decode cX6_dearer 2 = .ok (.iconst 0, 1) := by decide +kernel
theorem dX6_dearer_3 : decode cX6_dearer 3 = .ok (.istore_n 2, 1) := by decide +kernel
theorem dX6_dearer_4 : decode cX6_dearer 4 = .ok (.iload_n 2, 1) := by decide +kernel
theorem dX6_dearer_5 : decode cX6_dearer 5 = .ok (.iconst 4, 1) := by decide +kernel
theorem dX6_dearer_6 : decode cX6_dearer 6 = .ok (.if_icmp .ge 39, 3) := by decide +kernel
theorem dX6_dearer_9 : decode cX6_dearer 9 = .ok (.iload_n 1, 1) := by decide +kernel
theorem dX6_dearer_10 : decode cX6_dearer 10 = .ok (.aload_n 0, 1) := by decide +kernel
theorem dX6_dearer_11 : decode cX6_dearer 11 = .ok (.getfield 7, 3) := by decide +kernel
theorem dX6_dearer_14 : decode cX6_dearer 14 = .ok (.iload_n 2, 1) := by decide +kernel
theorem dX6_dearer_15 : decode cX6_dearer 15 = .ok (.invokestatic 90, 3) := by decide +kernel
theorem dX6_dearer_18 : decode cX6_dearer 18 = .ok (.iaload, 1) := by decide +kernel
theorem dX6_dearer_19 : decode cX6_dearer 19 = .ok (.ifCond .le 17, 3) := by decide +kernel
theorem dX6_dearer_22 : decode cX6_dearer 22 = .ok (.aload_n 0, 1) := by decide +kernel
theorem dX6_dearer_23 : decode cX6_dearer 23 = .ok (.iload_n 2, 1) := by decide +kernel
theorem dX6_dearer_24 : decode cX6_dearer 24 = .ok (.invokevirtual 211, 3) := by decide +kernel
theorem dX6_dearer_27 : decode cX6_dearer 27 = .ok (.lconst 0, 1) := by decide +kernel
theorem dX6_dearer_28 : decode cX6_dearer 28 = .ok (.lcmp, 1) := by decide +kernel
theorem dX6_dearer_29 : decode cX6_dearer 29 = .ok (.ifCond .le 7, 3) := by decide +kernel
theorem dX6_dearer_32 : decode cX6_dearer 32 = .ok (.iconst 1, 1) := by decide +kernel
theorem dX6_dearer_33 : decode cX6_dearer 33 = .ok (.goto 4, 3) := by decide +kernel
theorem dX6_dearer_36 : decode cX6_dearer 36 = .ok (.iconst 0, 1) := by decide +kernel
theorem dX6_dearer_37 : decode cX6_dearer 37 = .ok (.iadd, 1) := by decide +kernel
theorem dX6_dearer_38 : decode cX6_dearer 38 = .ok (.istore_n 1, 1) := by decide +kernel
theorem dX6_dearer_39 : decode cX6_dearer 39 = .ok (.iinc 2 1, 3) := by decide +kernel
theorem dX6_dearer_42 : decode cX6_dearer 42 = .ok (.goto (-38), 3) := by decide +kernel
theorem dX6_dearer_45 : decode cX6_dearer 45 = .ok (.iload_n 1, 1) := by decide +kernel
theorem dX6_dearer_46 : decode cX6_dearer 46 = .ok (.ireturn, 1) := by decide +kernel
theorem dX6_ifCounted_0 : decode cX6_ifCounted 0 = .ok (.iload_n 1, 1) := by decide +kernel
theorem dX6_ifCounted_1 : decode cX6_ifCounted 1 = .ok (.invokestatic 142, 3) := by decide +kernel
theorem dX6_ifCounted_4 : decode cX6_ifCounted 4 = .ok (.ifCond .eq 12, 3) := by decide +kernel
theorem dX6_ifCounted_7 : decode cX6_ifCounted 7 = .ok (.iload_n 2, 1) := by decide +kernel
theorem dX6_ifCounted_8 : decode cX6_ifCounted 8 = .ok (.iconst 0, 1) := by decide +kernel
theorem dX6_ifCounted_9 : decode cX6_ifCounted 9 = .ok (.iconst 1, 1) := by decide +kernel
theorem dX6_ifCounted_10 : decode cX6_ifCounted 10 = .ok (.invokestatic 63, 3) := by decide +kernel
theorem dX6_ifCounted_13 : decode cX6_ifCounted 13 = .ok (.ifCond .ne 5, 3) := by decide +kernel
theorem dX6_ifCounted_16 : decode cX6_ifCounted 16 = .ok (.iconst (-1), 1) := by decide +kernel
theorem dX6_ifCounted_17 : decode cX6_ifCounted 17 = .ok (.ireturn, 1) := by decide +kernel
theorem dX6_ifCounted_18 : decode cX6_ifCounted 18 = .ok (.aload_n 0, 1) := by decide +kernel
theorem dX6_ifCounted_19 : decode cX6_ifCounted 19 = .ok (.invokevirtual 223, 3) := by decide +kernel
theorem dX6_ifCounted_22 : decode cX6_ifCounted 22 = .ok (.iconst 0, 1) := by decide +kernel
theorem dX6_ifCounted_23 : decode cX6_ifCounted 23 = .ok (.istore_n 3, 1) := by decide +kernel
theorem dX6_ifCounted_24 : decode cX6_ifCounted 24 = .ok (.iconst 0, 1) := by decide +kernel
theorem dX6_ifCounted_25 : decode cX6_ifCounted 25 = .ok (.istore 4, 2) := by decide +kernel
theorem dX6_ifCounted_27 : decode cX6_ifCounted 27 = .ok (.iload 4, 2) := by decide +kernel
theorem dX6_ifCounted_29 : decode cX6_ifCounted 29 = .ok (.iconst 5, 1) := by decide +kernel
theorem dX6_ifCounted_30 : decode cX6_ifCounted 30 = .ok (.if_icmp .ge 32, 3) := by decide +kernel
theorem dX6_ifCounted_33 : decode cX6_ifCounted 33 = .ok (.iload_n 3, 1) := by decide +kernel
theorem dX6_ifCounted_34 : decode cX6_ifCounted 34 = .ok (.iload_n 1, 1) := by decide +kernel
theorem dX6_ifCounted_35 : decode cX6_ifCounted 35 = .ok (.iload 4, 2) := by decide +kernel
theorem dX6_ifCounted_37 : decode cX6_ifCounted 37 = .ok (.ishr, 1) := by decide +kernel
theorem dX6_ifCounted_38 : decode cX6_ifCounted 38 = .ok (.iconst 1, 1) := by decide +kernel
theorem dX6_ifCounted_39 : decode cX6_ifCounted 39 = .ok (.iand, 1) := by decide +kernel
theorem dX6_ifCounted_40 : decode cX6_ifCounted 40 = .ok (.iconst 1, 1) := by decide +kernel
theorem dX6_ifCounted_41 : decode cX6_ifCounted 41 = .ok (.if_icmp .ne 12, 3) := by decide +kernel
theorem dX6_ifCounted_44 : decode cX6_ifCounted 44 = .ok (.aload_n 0, 1) := by decide +kernel
theorem dX6_ifCounted_45 : decode cX6_ifCounted 45 = .ok (.iload 4, 2) := by decide +kernel
theorem dX6_ifCounted_47 : decode cX6_ifCounted 47 = .ok (.invokevirtual 119, 3) := by decide +kernel
theorem dX6_ifCounted_50 : decode cX6_ifCounted 50 = .ok (.goto 4, 3) := by decide +kernel
theorem dX6_ifCounted_53 : decode cX6_ifCounted 53 = .ok (.iconst 0, 1) := by decide +kernel
theorem dX6_ifCounted_54 : decode cX6_ifCounted 54 = .ok (.iadd, 1) := by decide +kernel
theorem dX6_ifCounted_55 : decode cX6_ifCounted 55 = .ok (.istore_n 3, 1) := by decide +kernel
theorem dX6_ifCounted_56 : decode cX6_ifCounted 56 = .ok (.iinc 4 1, 3) := by decide +kernel
theorem dX6_ifCounted_59 : decode cX6_ifCounted 59 = .ok (.goto (-32), 3) := by decide +kernel
theorem dX6_ifCounted_62 : decode cX6_ifCounted 62 = .ok (.iload_n 2, 1) := by decide +kernel
theorem dX6_ifCounted_63 : decode cX6_ifCounted 63 = .ok (.ifCond .ne 7, 3) := by decide +kernel
theorem dX6_ifCounted_66 : decode cX6_ifCounted 66 = .ok (.iload_n 3, 1) := by decide +kernel
theorem dX6_ifCounted_67 : decode cX6_ifCounted 67 = .ok (.goto 7, 3) := by decide +kernel
theorem dX6_ifCounted_70 : decode cX6_ifCounted 70 = .ok (.aload_n 0, 1) := by decide +kernel
theorem dX6_ifCounted_71 : decode cX6_ifCounted 71 = .ok (.invokevirtual 226, 3) := by decide +kernel
theorem dX6_ifCounted_74 : decode cX6_ifCounted 74 = .ok (.istore_n 3, 1) := by decide +kernel
theorem dX6_ifCounted_75 : decode cX6_ifCounted 75 = .ok (.aload_n 0, 1) := by decide +kernel
theorem dX6_ifCounted_76 : decode cX6_ifCounted 76 = .ok (.invokevirtual 229, 3) := by decide +kernel
theorem dX6_ifCounted_79 : decode cX6_ifCounted 79 = .ok (.iload_n 3, 1) := by decide +kernel
theorem dX6_ifCounted_80 : decode cX6_ifCounted 80 = .ok (.ireturn, 1) := by decide +kernel
theorem dX6_ifRun_0 : decode cX6_ifRun 0 = .ok (.iload_n 1, 1) := by decide +kernel
theorem dX6_ifRun_1 : decode cX6_ifRun 1 = .ok (.invokestatic 142, 3) := by decide +kernel
theorem dX6_ifRun_4 : decode cX6_ifRun 4 = .ok (.ifCond .ne 5, 3) := by decide +kernel
theorem dX6_ifRun_7 : decode cX6_ifRun 7 = .ok (.iconst (-1), 1) := by decide +kernel
theorem dX6_ifRun_8 : decode cX6_ifRun 8 = .ok (.ireturn, 1) := by decide +kernel
theorem dX6_ifRun_9 : decode cX6_ifRun 9 = .ok (.aload_n 0, 1) := by decide +kernel
theorem dX6_ifRun_10 : decode cX6_ifRun 10 = .ok (.invokevirtual 223, 3) := by decide +kernel
theorem dX6_ifRun_13 : decode cX6_ifRun 13 = .ok (.aload_n 0, 1) := by decide +kernel
theorem dX6_ifRun_14 : decode cX6_ifRun 14 = .ok (.iload_n 1, 1) := by decide +kernel
theorem dX6_ifRun_15 : decode cX6_ifRun 15 = .ok (.invokevirtual 145, 3) := by decide +kernel
theorem dX6_ifRun_18 : decode cX6_ifRun 18 = .ok (.invokestatic 148, 3) := by decide +kernel
theorem dX6_ifRun_21 : decode cX6_ifRun 21 = .ok (.istore_n 2, 1) := by decide +kernel
theorem dX6_ifRun_22 : decode cX6_ifRun 22 = .ok (.aload_n 0, 1) := by decide +kernel
theorem dX6_ifRun_23 : decode cX6_ifRun 23 = .ok (.invokevirtual 229, 3) := by decide +kernel
theorem dX6_ifRun_26 : decode cX6_ifRun 26 = .ok (.iload_n 2, 1) := by decide +kernel
theorem dX6_ifRun_27 : decode cX6_ifRun 27 = .ok (.ireturn, 1) := by decide +kernel
theorem dX6_leastDrift_0 : decode cX6_leastDrift 0 = .ok (.bipush 100, 2) := by decide +kernel
theorem dX6_leastDrift_2 : decode cX6_leastDrift 2 = .ok (.istore_n 1, 1) := by decide +kernel
theorem dX6_leastDrift_3 : decode cX6_leastDrift 3 = .ok (.iload_n 1, 1) := by decide +kernel
theorem dX6_leastDrift_4 : decode cX6_leastDrift 4 = .ok (.sipush 1000, 3) := by decide +kernel
theorem dX6_leastDrift_7 : decode cX6_leastDrift 7 = .ok (.if_icmp .gt 57, 3) := by decide +kernel
theorem dX6_leastDrift_10 : decode cX6_leastDrift 10 = .ok (.iconst 1, 1) := by decide +kernel
theorem dX6_leastDrift_11 : decode cX6_leastDrift 11 = .ok (.istore_n 2, 1) := by decide +kernel
theorem dX6_leastDrift_12 : decode cX6_leastDrift 12 = .ok (.iconst 0, 1) := by decide +kernel
theorem dX6_leastDrift_13 : decode cX6_leastDrift 13 = .ok (.istore_n 3, 1) := by decide +kernel
theorem dX6_leastDrift_14 : decode cX6_leastDrift 14 = .ok (.iload_n 3, 1) := by decide +kernel
theorem dX6_leastDrift_15 : decode cX6_leastDrift 15 = .ok (.iconst 4, 1) := by decide +kernel
theorem dX6_leastDrift_16 : decode cX6_leastDrift 16 = .ok (.if_icmp .ge 36, 3) := by decide +kernel
theorem dX6_leastDrift_19 : decode cX6_leastDrift 19 = .ok (.iload_n 2, 1) := by decide +kernel
theorem dX6_leastDrift_20 : decode cX6_leastDrift 20 = .ok (.ifCond .eq 24, 3) := by decide +kernel
theorem dX6_leastDrift_23 : decode cX6_leastDrift 23 = .ok (.aload_n 0, 1) := by decide +kernel
theorem dX6_leastDrift_24 : decode cX6_leastDrift 24 = .ok (.iload_n 3, 1) := by decide +kernel
theorem dX6_leastDrift_25 : decode cX6_leastDrift 25 = .ok (.invokevirtual 97, 3) := by decide +kernel
theorem dX6_leastDrift_28 : decode cX6_leastDrift 28 = .ok (.ifCond .eq 12, 3) := by decide +kernel
theorem dX6_leastDrift_31 : decode cX6_leastDrift 31 = .ok (.aload_n 0, 1) := by decide +kernel
theorem dX6_leastDrift_32 : decode cX6_leastDrift 32 = .ok (.iload_n 3, 1) := by decide +kernel
theorem dX6_leastDrift_33 : decode cX6_leastDrift 33 = .ok (.iload_n 1, 1) := by decide +kernel
theorem dX6_leastDrift_34 : decode cX6_leastDrift 34 = .ok (.invokevirtual 101, 3) := by decide +kernel
theorem dX6_leastDrift_37 : decode cX6_leastDrift 37 = .ok (.ifCond .ne 7, 3) := by decide +kernel
theorem dX6_leastDrift_40 : decode cX6_leastDrift 40 = .ok (.iconst 1, 1) := by decide +kernel
theorem dX6_leastDrift_41 : decode cX6_leastDrift 41 = .ok (.goto 4, 3) := by decide +kernel
theorem dX6_leastDrift_44 : decode cX6_leastDrift 44 = .ok (.iconst 0, 1) := by decide +kernel
theorem dX6_leastDrift_45 : decode cX6_leastDrift 45 = .ok (.istore_n 2, 1) := by decide +kernel
theorem dX6_leastDrift_46 : decode cX6_leastDrift 46 = .ok (.iinc 3 1, 3) := by decide +kernel
theorem dX6_leastDrift_49 : decode cX6_leastDrift 49 = .ok (.goto (-35), 3) := by decide +kernel
theorem dX6_leastDrift_52 : decode cX6_leastDrift 52 = .ok (.iload_n 2, 1) := by decide +kernel
theorem dX6_leastDrift_53 : decode cX6_leastDrift 53 = .ok (.ifCond .eq 5, 3) := by decide +kernel
theorem dX6_leastDrift_56 : decode cX6_leastDrift 56 = .ok (.iload_n 1, 1) := by decide +kernel
theorem dX6_leastDrift_57 : decode cX6_leastDrift 57 = .ok (.ireturn, 1) := by decide +kernel
theorem dX6_leastDrift_58 : decode cX6_leastDrift 58 = .ok (.iinc 1 1, 3) := by decide +kernel
theorem dX6_leastDrift_61 : decode cX6_leastDrift 61 = .ok (.goto (-58), 3) := by decide +kernel
theorem dX6_leastDrift_64 : decode cX6_leastDrift 64 = .ok (.bipush (-4), 2) := by decide +kernel
theorem dX6_leastDrift_66 : decode cX6_leastDrift 66 = .ok (.ireturn, 1) := by decide +kernel
theorem dX6_undo_0 : decode cX6_undo 0 = .ok (.aload_n 0, 1) := by decide +kernel
theorem dX6_undo_1 : decode cX6_undo 1 = .ok (.getfield 59, 3) := by decide +kernel
theorem dX6_undo_4 : decode cX6_undo 4 = .ok (.ifCond .ne 6, 3) := by decide +kernel
theorem dX6_undo_7 : decode cX6_undo 7 = .ok (.bipush (-2), 2) := by decide +kernel
theorem dX6_undo_9 : decode cX6_undo 9 = .ok (.ireturn, 1) := by decide +kernel
theorem dX6_undo_10 : decode cX6_undo 10 = .ok (.aload_n 0, 1) := by decide +kernel
theorem dX6_undo_11 : decode cX6_undo 11 = .ok (.dup, 1) := by decide +kernel
theorem dX6_undo_12 : decode cX6_undo 12 = .ok (.getfield 59, 3) := by decide +kernel
theorem dX6_undo_15 : decode cX6_undo 15 = .ok (.iconst 1, 1) := by decide +kernel
theorem dX6_undo_16 : decode cX6_undo 16 = .ok (.isub, 1) := by decide +kernel
theorem dX6_undo_17 : decode cX6_undo 17 = .ok (.putfield 59, 3) := by decide +kernel
theorem dX6_undo_20 : decode cX6_undo 20 = .ok (.iconst 0, 1) := by decide +kernel
theorem dX6_undo_21 : decode cX6_undo 21 = .ok (.istore_n 1, 1) := by decide +kernel
theorem dX6_undo_22 : decode cX6_undo 22 = .ok (.iload_n 1, 1) := by decide +kernel
theorem dX6_undo_23 : decode cX6_undo 23 = .ok (.bipush 100, 2) := by decide +kernel
theorem dX6_undo_25 : decode cX6_undo 25 = .ok (.if_icmp .ge 29, 3) := by decide +kernel
theorem dX6_undo_28 : decode cX6_undo 28 = .ok (.aload_n 0, 1) := by decide +kernel
theorem dX6_undo_29 : decode cX6_undo 29 = .ok (.getfield 7, 3) := by decide +kernel
theorem dX6_undo_32 : decode cX6_undo 32 = .ok (.iload_n 1, 1) := by decide +kernel
theorem dX6_undo_33 : decode cX6_undo 33 = .ok (.aload_n 0, 1) := by decide +kernel
theorem dX6_undo_34 : decode cX6_undo 34 = .ok (.getfield 13, 3) := by decide +kernel
theorem dX6_undo_37 : decode cX6_undo 37 = .ok (.bipush 100, 2) := by decide +kernel
theorem dX6_undo_39 : decode cX6_undo 39 = .ok (.aload_n 0, 1) := by decide +kernel
theorem dX6_undo_40 : decode cX6_undo 40 = .ok (.getfield 59, 3) := by decide +kernel
theorem dX6_undo_43 : decode cX6_undo 43 = .ok (.imul, 1) := by decide +kernel
theorem dX6_undo_44 : decode cX6_undo 44 = .ok (.iload_n 1, 1) := by decide +kernel
theorem dX6_undo_45 : decode cX6_undo 45 = .ok (.iadd, 1) := by decide +kernel
theorem dX6_undo_46 : decode cX6_undo 46 = .ok (.iaload, 1) := by decide +kernel
theorem dX6_undo_47 : decode cX6_undo 47 = .ok (.iastore, 1) := by decide +kernel
theorem dX6_undo_48 : decode cX6_undo 48 = .ok (.iinc 1 1, 3) := by decide +kernel
theorem dX6_undo_51 : decode cX6_undo 51 = .ok (.goto (-29), 3) := by decide +kernel
theorem dX6_undo_54 : decode cX6_undo 54 = .ok (.aload_n 0, 1) := by decide +kernel
theorem dX6_undo_55 : decode cX6_undo 55 = .ok (.getfield 22, 3) := by decide +kernel
theorem dX6_undo_58 : decode cX6_undo 58 = .ok (.iconst 0, 1) := by decide +kernel
theorem dX6_undo_59 : decode cX6_undo 59 = .ok (.aload_n 0, 1) := by decide +kernel
theorem dX6_undo_60 : decode cX6_undo 60 = .ok (.getfield 26, 3) := by decide +kernel
theorem dX6_undo_63 : decode cX6_undo 63 = .ok (.iconst 2, 1) := by decide +kernel
theorem dX6_undo_64 : decode cX6_undo 64 = .ok (.aload_n 0, 1) := by decide +kernel
theorem dX6_undo_65 : decode cX6_undo 65 = .ok (.getfield 59, 3) := by decide +kernel
theorem dX6_undo_68 : decode cX6_undo 68 = .ok (.imul, 1) := by decide +kernel
theorem dX6_undo_69 : decode cX6_undo 69 = .ok (.laload, 1) := by decide +kernel
theorem dX6_undo_70 : decode cX6_undo 70 = .ok (.lastore, 1) := by decide +kernel
theorem dX6_undo_71 : decode cX6_undo 71 = .ok (.aload_n 0, 1) := by decide +kernel
theorem dX6_undo_72 : decode cX6_undo 72 = .ok (.getfield 22, 3) := by decide +kernel
theorem dX6_undo_75 : decode cX6_undo 75 = .ok (.iconst 1, 1) := by decide +kernel
theorem dX6_undo_76 : decode cX6_undo 76 = .ok (.aload_n 0, 1) := by decide +kernel
theorem dX6_undo_77 : decode cX6_undo 77 = .ok (.getfield 26, 3) := by decide +kernel
theorem dX6_undo_80 : decode cX6_undo 80 = .ok (.iconst 2, 1) := by decide +kernel
theorem dX6_undo_81 : decode cX6_undo 81 = .ok (.aload_n 0, 1) := by decide +kernel
theorem dX6_undo_82 : decode cX6_undo 82 = .ok (.getfield 59, 3) := by decide +kernel
theorem dX6_undo_85 : decode cX6_undo 85 = .ok (.imul, 1) := by decide +kernel
theorem dX6_undo_86 : decode cX6_undo 86 = .ok (.iconst 1, 1) := by decide +kernel
theorem dX6_undo_87 : decode cX6_undo 87 = .ok (.iadd, 1) := by decide +kernel
theorem dX6_undo_88 : decode cX6_undo 88 = .ok (.laload, 1) := by decide +kernel
theorem dX6_undo_89 : decode cX6_undo 89 = .ok (.lastore, 1) := by decide +kernel
theorem dX6_undo_90 : decode cX6_undo 90 = .ok (.aload_n 0, 1) := by decide +kernel
theorem dX6_undo_91 : decode cX6_undo 91 = .ok (.getfield 59, 3) := by decide +kernel
theorem dX6_undo_94 : decode cX6_undo 94 = .ok (.ireturn, 1) := by decide +kernel
theorem dX6_save_0 : decode cX6_save 0 = .ok (.aload_n 0, 1) := by decide +kernel
theorem dX6_save_1 : decode cX6_save 1 = .ok (.iconst 1, 1) := by decide +kernel
theorem dX6_save_2 : decode cX6_save 2 = .ok (.putfield 232, 3) := by decide +kernel
theorem dX6_save_5 : decode cX6_save 5 = .ok (.iconst 0, 1) := by decide +kernel
theorem dX6_save_6 : decode cX6_save 6 = .ok (.istore_n 1, 1) := by decide +kernel
theorem dX6_save_7 : decode cX6_save 7 = .ok (.iload_n 1, 1) := by decide +kernel
theorem dX6_save_8 : decode cX6_save 8 = .ok (.bipush 100, 2) := by decide +kernel
theorem dX6_save_10 : decode cX6_save 10 = .ok (.if_icmp .ge 21, 3) := by decide +kernel
theorem dX6_save_13 : decode cX6_save 13 = .ok (.aload_n 0, 1) := by decide +kernel
theorem dX6_save_14 : decode cX6_save 14 = .ok (.getfield 16, 3) := by decide +kernel
theorem dX6_save_17 : decode cX6_save 17 = .ok (.iload_n 1, 1) := by decide +kernel
theorem dX6_save_18 : decode cX6_save 18 = .ok (.aload_n 0, 1) := by decide +kernel
theorem dX6_save_19 : decode cX6_save 19 = .ok (.getfield 7, 3) := by decide +kernel
theorem dX6_save_22 : decode cX6_save 22 = .ok (.iload_n 1, 1) := by decide +kernel
theorem dX6_save_23 : decode cX6_save 23 = .ok (.iaload, 1) := by decide +kernel
theorem dX6_save_24 : decode cX6_save 24 = .ok (.iastore, 1) := by decide +kernel
theorem dX6_save_25 : decode cX6_save 25 = .ok (.iinc 1 1, 3) := by decide +kernel
theorem dX6_save_28 : decode cX6_save 28 = .ok (.goto (-21), 3) := by decide +kernel
theorem dX6_save_31 : decode cX6_save 31 = .ok (.aload_n 0, 1) := by decide +kernel
theorem dX6_save_32 : decode cX6_save 32 = .ok (.getfield 29, 3) := by decide +kernel
theorem dX6_save_35 : decode cX6_save 35 = .ok (.iconst 0, 1) := by decide +kernel
theorem dX6_save_36 : decode cX6_save 36 = .ok (.aload_n 0, 1) := by decide +kernel
theorem dX6_save_37 : decode cX6_save 37 = .ok (.getfield 22, 3) := by decide +kernel
theorem dX6_save_40 : decode cX6_save 40 = .ok (.iconst 0, 1) := by decide +kernel
theorem dX6_save_41 : decode cX6_save 41 = .ok (.laload, 1) := by decide +kernel
theorem dX6_save_42 : decode cX6_save 42 = .ok (.lastore, 1) := by decide +kernel
theorem dX6_save_43 : decode cX6_save 43 = .ok (.aload_n 0, 1) := by decide +kernel
theorem dX6_save_44 : decode cX6_save 44 = .ok (.getfield 29, 3) := by decide +kernel
theorem dX6_save_47 : decode cX6_save 47 = .ok (.iconst 1, 1) := by decide +kernel
theorem dX6_save_48 : decode cX6_save 48 = .ok (.aload_n 0, 1) := by decide +kernel
theorem dX6_save_49 : decode cX6_save 49 = .ok (.getfield 22, 3) := by decide +kernel
theorem dX6_save_52 : decode cX6_save 52 = .ok (.iconst 1, 1) := by decide +kernel
theorem dX6_save_53 : decode cX6_save 53 = .ok (.laload, 1) := by decide +kernel
theorem dX6_save_54 : decode cX6_save 54 = .ok (.lastore, 1) := by decide +kernel
theorem dX6_save_55 : decode cX6_save 55 = .ok (.aload_n 0, 1) := by decide +kernel
theorem dX6_save_56 : decode cX6_save 56 = .ok (.invokevirtual 217, 3) := by decide +kernel
theorem dX6_save_59 : decode cX6_save 59 = .ok (.ireturn, 1) := by decide +kernel
theorem dX6_restore_0 : decode cX6_restore 0 = .ok (.aload_n 0, 1) := by decide +kernel
theorem dX6_restore_1 : decode cX6_restore 1 = .ok (.getfield 232, 3) := by decide +kernel
theorem dX6_restore_4 : decode cX6_restore 4 = .ok (.ifCond .ne 6, 3) := by decide +kernel
theorem dX6_restore_7 : decode cX6_restore 7 = .ok (.bipush (-2), 2) := by decide +kernel
theorem dX6_restore_9 : decode cX6_restore 9 = .ok (.ireturn, 1) := by decide +kernel
theorem dX6_restore_10 : decode cX6_restore 10 = .ok (.aload_n 0, 1) := by decide +kernel
theorem dX6_restore_11 : decode cX6_restore 11 = .ok (.invokevirtual 116, 3) := by decide +kernel
theorem dX6_restore_14 : decode cX6_restore 14 = .ok (.iconst 0, 1) := by decide +kernel
theorem dX6_restore_15 : decode cX6_restore 15 = .ok (.istore_n 1, 1) := by decide +kernel
theorem dX6_restore_16 : decode cX6_restore 16 = .ok (.iload_n 1, 1) := by decide +kernel
theorem dX6_restore_17 : decode cX6_restore 17 = .ok (.bipush 100, 2) := by decide +kernel
theorem dX6_restore_19 : decode cX6_restore 19 = .ok (.if_icmp .ge 21, 3) := by decide +kernel
theorem dX6_restore_22 : decode cX6_restore 22 = .ok (.aload_n 0, 1) := by decide +kernel
theorem dX6_restore_23 : decode cX6_restore 23 = .ok (.getfield 7, 3) := by decide +kernel
theorem dX6_restore_26 : decode cX6_restore 26 = .ok (.iload_n 1, 1) := by decide +kernel
theorem dX6_restore_27 : decode cX6_restore 27 = .ok (.aload_n 0, 1) := by decide +kernel
theorem dX6_restore_28 : decode cX6_restore 28 = .ok (.getfield 16, 3) := by decide +kernel
theorem dX6_restore_31 : decode cX6_restore 31 = .ok (.iload_n 1, 1) := by decide +kernel
theorem dX6_restore_32 : decode cX6_restore 32 = .ok (.iaload, 1) := by decide +kernel
theorem dX6_restore_33 : decode cX6_restore 33 = .ok (.iastore, 1) := by decide +kernel
theorem dX6_restore_34 : decode cX6_restore 34 = .ok (.iinc 1 1, 3) := by decide +kernel
theorem dX6_restore_37 : decode cX6_restore 37 = .ok (.goto (-21), 3) := by decide +kernel
theorem dX6_restore_40 : decode cX6_restore 40 = .ok (.aload_n 0, 1) := by decide +kernel
theorem dX6_restore_41 : decode cX6_restore 41 = .ok (.getfield 22, 3) := by decide +kernel
theorem dX6_restore_44 : decode cX6_restore 44 = .ok (.iconst 0, 1) := by decide +kernel
theorem dX6_restore_45 : decode cX6_restore 45 = .ok (.aload_n 0, 1) := by decide +kernel
theorem dX6_restore_46 : decode cX6_restore 46 = .ok (.getfield 29, 3) := by decide +kernel
theorem dX6_restore_49 : decode cX6_restore 49 = .ok (.iconst 0, 1) := by decide +kernel
theorem dX6_restore_50 : decode cX6_restore 50 = .ok (.laload, 1) := by decide +kernel
theorem dX6_restore_51 : decode cX6_restore 51 = .ok (.lastore, 1) := by decide +kernel
theorem dX6_restore_52 : decode cX6_restore 52 = .ok (.aload_n 0, 1) := by decide +kernel
theorem dX6_restore_53 : decode cX6_restore 53 = .ok (.getfield 22, 3) := by decide +kernel
theorem dX6_restore_56 : decode cX6_restore 56 = .ok (.iconst 1, 1) := by decide +kernel
theorem dX6_restore_57 : decode cX6_restore 57 = .ok (.aload_n 0, 1) := by decide +kernel
theorem dX6_restore_58 : decode cX6_restore 58 = .ok (.getfield 29, 3) := by decide +kernel
theorem dX6_restore_61 : decode cX6_restore 61 = .ok (.iconst 1, 1) := by decide +kernel
theorem dX6_restore_62 : decode cX6_restore 62 = .ok (.laload, 1) := by decide +kernel
theorem dX6_restore_63 : decode cX6_restore 63 = .ok (.lastore, 1) := by decide +kernel
theorem dX6_restore_64 : decode cX6_restore 64 = .ok (.aload_n 0, 1) := by decide +kernel
theorem dX6_restore_65 : decode cX6_restore 65 = .ok (.invokevirtual 217, 3) := by decide +kernel
theorem dX6_restore_68 : decode cX6_restore 68 = .ok (.ireturn, 1) := by decide +kernel
