theorem dX6_bestHour_25 : decode cX6_bestHour 25 = .ok (.invokevirtual 76, 3) := by decide +kernel
theorem dX6_bestHour_28 : decode cX6_bestHour 28 = .ok (.iconst 0, 1) := by decide +kernel
theorem dX6_bestHour_29 : decode cX6_bestHour 29 = .ok (.istore_n 2, 1) := by decide +kernel
theorem dX6_bestHour_30 : decode cX6_bestHour 30 = .ok (.ldc 188, 2) := by decide +kernel
theorem dX6_bestHour_32 : decode cX6_bestHour 32 = .ok (.istore_n 3, 1) := by decide +kernel
theorem dX6_bestHour_33 : decode cX6_bestHour 33 = .ok (.iconst 0, 1) := by decide +kernel
theorem dX6_bestHour_34 : decode cX6_bestHour 34 = .ok (.istore 4, 2) := by decide +kernel
theorem dX6_bestHour_36 : decode cX6_bestHour 36 = .ok (.iload 4, 2) := by decide +kernel
theorem dX6_bestHour_38 : decode cX6_bestHour 38 = .ok (.bipush 12, 2) := by decide +kernel
theorem dX6_bestHour_40 : decode cX6_bestHour 40 = .ok (.if_icmp .ge 47, 3) := by decide +kernel
theorem dX6_bestHour_43 : decode cX6_bestHour 43 = .ok (.aload_n 0, 1) := by decide +kernel
theorem dX6_bestHour_44 : decode cX6_bestHour 44 = .ok (.getfield 19, 3) := by decide +kernel
theorem dX6_bestHour_47 : decode cX6_bestHour 47 = .ok (.getfield 106, 3) := by decide +kernel
theorem dX6_bestHour_50 : decode cX6_bestHour 50 = .ok (.iload_n 1, 1) := by decide +kernel
theorem dX6_bestHour_51 : decode cX6_bestHour 51 = .ok (.iload 4, 2) := by decide +kernel
theorem dX6_bestHour_53 : decode cX6_bestHour 53 = .ok (.invokestatic 115, 3) := by decide +kernel
theorem dX6_bestHour_56 : decode cX6_bestHour 56 = .ok (.aload_n 0, 1) := by decide +kernel
theorem dX6_bestHour_57 : decode cX6_bestHour 57 = .ok (.getfield 32, 3) := by decide +kernel
theorem dX6_bestHour_60 : decode cX6_bestHour 60 = .ok (.aload_n 0, 1) := by decide +kernel
theorem dX6_bestHour_61 : decode cX6_bestHour 61 = .ok (.getfield 19, 3) := by decide +kernel
theorem dX6_bestHour_64 : decode cX6_bestHour 64 = .ok (.invokevirtual 126, 3) := by decide +kernel
theorem dX6_bestHour_67 : decode cX6_bestHour 67 = .ok (.istore 5, 2) := by decide +kernel
theorem dX6_bestHour_69 : decode cX6_bestHour 69 = .ok (.iload 5, 2) := by decide +kernel
theorem dX6_bestHour_71 : decode cX6_bestHour 71 = .ok (.iload_n 3, 1) := by decide +kernel
theorem dX6_bestHour_72 : decode cX6_bestHour 72 = .ok (.if_icmp .ge 9, 3) := by decide +kernel
theorem dX6_bestHour_75 : decode cX6_bestHour 75 = .ok (.iload 5, 2) := by decide +kernel
theorem dX6_bestHour_77 : decode cX6_bestHour 77 = .ok (.istore_n 3, 1) := by decide +kernel
theorem dX6_bestHour_78 : decode cX6_bestHour 78 = .ok (.iload 4, 2) := by decide +kernel
theorem dX6_bestHour_80 : decode cX6_bestHour 80 = .ok (.istore_n 2, 1) := by decide +kernel
theorem dX6_bestHour_81 : decode cX6_bestHour 81 = .ok (.iinc 4 1, 3) := by decide +kernel
theorem dX6_bestHour_84 : decode cX6_bestHour 84 = .ok (.goto (-48), 3) := by decide +kernel
theorem dX6_bestHour_87 : decode cX6_bestHour 87 = .ok (.iload_n 2, 1) := by decide +kernel
theorem dX6_bestHour_88 : decode cX6_bestHour 88 = .ok (.ireturn, 1) := by decide +kernel
theorem dX6_without_0 : decode cX6_without 0 = .ok (.aload_n 0, 1) := by decide +kernel
theorem dX6_without_1 : decode cX6_without 1 = .ok (.getfield 10, 3) := by decide +kernel
theorem dX6_without_4 : decode cX6_without 4 = .ok (.iload_n 1, 1) := by decide +kernel
theorem dX6_without_5 : decode cX6_without 5 = .ok (.invokevirtual 84, 3) := by decide +kernel
theorem dX6_without_8 : decode cX6_without 8 = .ok (.ifCond .ne 9, 3) := by decide +kernel
theorem dX6_without_11 : decode cX6_without 11 = .ok (.aload_n 0, 1) := by decide +kernel
theorem dX6_without_12 : decode cX6_without 12 = .ok (.iconst (-1), 1) := by decide +kernel
theorem dX6_without_13 : decode cX6_without 13 = .ok (.invokevirtual 189, 3) := by decide +kernel
theorem dX6_without_16 : decode cX6_without 16 = .ok (.ireturn, 1) := by decide +kernel
theorem dX6_without_17 : decode cX6_without 17 = .ok (.aload_n 0, 1) := by decide +kernel
theorem dX6_without_18 : decode cX6_without 18 = .ok (.getfield 19, 3) := by decide +kernel
theorem dX6_without_21 : decode cX6_without 21 = .ok (.aload_n 0, 1) := by decide +kernel
theorem dX6_without_22 : decode cX6_without 22 = .ok (.getfield 10, 3) := by decide +kernel
theorem dX6_without_25 : decode cX6_without 25 = .ok (.invokevirtual 76, 3) := by decide +kernel
theorem dX6_without_28 : decode cX6_without 28 = .ok (.aload_n 0, 1) := by decide +kernel
theorem dX6_without_29 : decode cX6_without 29 = .ok (.getfield 19, 3) := by decide +kernel
theorem dX6_without_32 : decode cX6_without 32 = .ok (.iload_n 1, 1) := by decide +kernel
theorem dX6_without_33 : decode cX6_without 33 = .ok (.invokevirtual 192, 3) := by decide +kernel
theorem dX6_without_36 : decode cX6_without 36 = .ok (.aload_n 0, 1) := by decide +kernel
theorem dX6_without_37 : decode cX6_without 37 = .ok (.getfield 32, 3) := by decide +kernel
theorem dX6_without_40 : decode cX6_without 40 = .ok (.aload_n 0, 1) := by decide +kernel
theorem dX6_without_41 : decode cX6_without 41 = .ok (.getfield 10, 3) := by decide +kernel
theorem dX6_without_44 : decode cX6_without 44 = .ok (.invokevirtual 126, 3) := by decide +kernel
theorem dX6_without_47 : decode cX6_without 47 = .ok (.aload_n 0, 1) := by decide +kernel
theorem dX6_without_48 : decode cX6_without 48 = .ok (.getfield 32, 3) := by decide +kernel
theorem dX6_without_51 : decode cX6_without 51 = .ok (.aload_n 0, 1) := by decide +kernel
theorem dX6_without_52 : decode cX6_without 52 = .ok (.getfield 19, 3) := by decide +kernel
theorem dX6_without_55 : decode cX6_without 55 = .ok (.invokevirtual 126, 3) := by decide +kernel
theorem dX6_without_58 : decode cX6_without 58 = .ok (.isub, 1) := by decide +kernel
theorem dX6_without_59 : decode cX6_without 59 = .ok (.ireturn, 1) := by decide +kernel
theorem dX6_second_0 : decode cX6_second 0 = .ok (.iload_n 1, 1) := by decide +kernel
theorem dX6_second_1 : decode cX6_second 1 = .ok (.invokestatic 195, 3) := by decide +kernel
theorem dX6_second_4 : decode cX6_second 4 = .ok (.ifCond .ne 9, 3) := by decide +kernel
theorem dX6_second_7 : decode cX6_second 7 = .ok (.aload_n 0, 1) := by decide +kernel
theorem dX6_second_8 : decode cX6_second 8 = .ok (.iconst (-1), 1) := by decide +kernel
theorem dX6_second_9 : decode cX6_second 9 = .ok (.invokevirtual 189, 3) := by decide +kernel
theorem dX6_second_12 : decode cX6_second 12 = .ok (.ireturn, 1) := by decide +kernel
theorem dX6_second_13 : decode cX6_second 13 = .ok (.aload_n 0, 1) := by decide +kernel
theorem dX6_second_14 : decode cX6_second 14 = .ok (.getfield 19, 3) := by decide +kernel
theorem dX6_second_17 : decode cX6_second 17 = .ok (.aload_n 0, 1) := by decide +kernel
theorem dX6_second_18 : decode cX6_second 18 = .ok (.getfield 10, 3) := by decide +kernel
theorem dX6_second_21 : decode cX6_second 21 = .ok (.invokevirtual 76, 3) := by decide +kernel
theorem dX6_second_24 : decode cX6_second 24 = .ok (.aload_n 0, 1) := by decide +kernel
theorem dX6_second_25 : decode cX6_second 25 = .ok (.getfield 19, 3) := by decide +kernel
theorem dX6_second_28 : decode cX6_second 28 = .ok (.iload_n 1, 1) := by decide +kernel
theorem dX6_second_29 : decode cX6_second 29 = .ok (.putfield 198, 3) := by decide +kernel
theorem dX6_second_32 : decode cX6_second 32 = .ok (.aload_n 0, 1) := by decide +kernel
theorem dX6_second_33 : decode cX6_second 33 = .ok (.getfield 32, 3) := by decide +kernel
theorem dX6_second_36 : decode cX6_second 36 = .ok (.aload_n 0, 1) := by decide +kernel
theorem dX6_second_37 : decode cX6_second 37 = .ok (.getfield 10, 3) := by decide +kernel
theorem dX6_second_40 : decode cX6_second 40 = .ok (.invokevirtual 126, 3) := by decide +kernel
theorem dX6_second_43 : decode cX6_second 43 = .ok (.aload_n 0, 1) := by decide +kernel
theorem dX6_second_44 : decode cX6_second 44 = .ok (.getfield 32, 3) := by decide +kernel
theorem dX6_second_47 : decode cX6_second 47 = .ok (.aload_n 0, 1) := by decide +kernel
theorem dX6_second_48 : decode cX6_second 48 = .ok (.getfield 19, 3) := by decide +kernel
theorem dX6_second_51 : decode cX6_second 51 = .ok (.invokevirtual 126, 3) := by decide +kernel
theorem dX6_second_54 : decode cX6_second 54 = .ok (.isub, 1) := by decide +kernel
theorem dX6_second_55 : decode cX6_second 55 = .ok (.ireturn, 1) := by decide +kernel
theorem dX6_bestSecond_0 : decode cX6_bestSecond 0 = .ok (.aload_n 0, 1) := by decide +kernel
theorem dX6_bestSecond_1 : decode cX6_bestSecond 1 = .ok (.getfield 19, 3) := by decide +kernel
theorem dX6_bestSecond_4 : decode cX6_bestSecond 4 = .ok (.aload_n 0, 1) := by decide +kernel
theorem dX6_bestSecond_5 : decode cX6_bestSecond 5 = .ok (.getfield 10, 3) := by decide +kernel
theorem dX6_bestSecond_8 : decode cX6_bestSecond 8 = .ok (.invokevirtual 76, 3) := by decide +kernel
theorem dX6_bestSecond_11 : decode cX6_bestSecond 11 = .ok (.iconst 0, 1) := by decide +kernel
theorem dX6_bestSecond_12 : decode cX6_bestSecond 12 = .ok (.istore_n 1, 1) := by decide +kernel
theorem dX6_bestSecond_13 : decode cX6_bestSecond 13 = .ok (.ldc 188, 2) := by decide +kernel
theorem dX6_bestSecond_15 : decode cX6_bestSecond 15 = .ok (.istore_n 2, 1) := by decide +kernel
theorem dX6_bestSecond_16 : decode cX6_bestSecond 16 = .ok (.iconst 0, 1) := by decide +kernel
theorem dX6_bestSecond_17 : decode cX6_bestSecond 17 = .ok (.istore_n 3, 1) := by decide +kernel
theorem dX6_bestSecond_18 : decode cX6_bestSecond 18 = .ok (.iload_n 3, 1) := by decide +kernel
theorem dX6_bestSecond_19 : decode cX6_bestSecond 19 = .ok (.bipush 40, 2) := by decide +kernel
theorem dX6_bestSecond_21 : decode cX6_bestSecond 21 = .ok (.if_icmp .ge 41, 3) := by decide +kernel
theorem dX6_bestSecond_24 : decode cX6_bestSecond 24 = .ok (.aload_n 0, 1) := by decide +kernel
theorem dX6_bestSecond_25 : decode cX6_bestSecond 25 = .ok (.getfield 19, 3) := by decide +kernel
theorem dX6_bestSecond_28 : decode cX6_bestSecond 28 = .ok (.iload_n 3, 1) := by decide +kernel
theorem dX6_bestSecond_29 : decode cX6_bestSecond 29 = .ok (.putfield 198, 3) := by decide +kernel
theorem dX6_bestSecond_32 : decode cX6_bestSecond 32 = .ok (.aload_n 0, 1) := by decide +kernel
theorem dX6_bestSecond_33 : decode cX6_bestSecond 33 = .ok (.getfield 32, 3) := by decide +kernel
theorem dX6_bestSecond_36 : decode cX6_bestSecond 36 = .ok (.aload_n 0, 1) := by decide +kernel
theorem dX6_bestSecond_37 : decode cX6_bestSecond 37 = .ok (.getfield 19, 3) := by decide +kernel
theorem dX6_bestSecond_40 : decode cX6_bestSecond 40 = .ok (.invokevirtual 126, 3) := by decide +kernel
theorem dX6_bestSecond_43 : decode cX6_bestSecond 43 = .ok (.istore 4, 2) := by decide +kernel
theorem dX6_bestSecond_45 : decode cX6_bestSecond 45 = .ok (.iload 4, 2) := by decide +kernel
theorem dX6_bestSecond_47 : decode cX6_bestSecond 47 = .ok (.iload_n 2, 1) := by decide +kernel
theorem dX6_bestSecond_48 : decode cX6_bestSecond 48 = .ok (.if_icmp .ge 8, 3) := by decide +kernel
theorem dX6_bestSecond_51 : decode cX6_bestSecond 51 = .ok (.iload 4, 2) := by decide +kernel
theorem dX6_bestSecond_53 : decode cX6_bestSecond 53 = .ok (.istore_n 2, 1) := by decide +kernel
theorem dX6_bestSecond_54 : decode cX6_bestSecond 54 = .ok (.iload_n 3, 1) := by decide +kernel
theorem dX6_bestSecond_55 : decode cX6_bestSecond 55 = .ok (.istore_n 1, 1) := by decide +kernel
theorem dX6_bestSecond_56 : decode cX6_bestSecond 56 = .ok (.iinc 3 1, 3) := by decide +kernel
theorem dX6_bestSecond_59 : decode cX6_bestSecond 59 = .ok (.goto (-41), 3) := by decide +kernel
theorem dX6_bestSecond_62 : decode cX6_bestSecond 62 = .ok (.iload_n 1, 1) := by decide +kernel
theorem dX6_bestSecond_63 : decode cX6_bestSecond 63 = .ok (.ireturn, 1) := by decide +kernel
theorem dX6_net_0 : decode cX6_net 0 = .ok (.aload_n 0, 1) := by decide +kernel
theorem dX6_net_1 : decode cX6_net 1 = .ok (.getfield 10, 3) := by decide +kernel
theorem dX6_net_4 : decode cX6_net 4 = .ok (.iload_n 1, 1) := by decide +kernel
theorem dX6_net_5 : decode cX6_net 5 = .ok (.invokevirtual 84, 3) := by decide +kernel
theorem dX6_net_8 : decode cX6_net 8 = .ok (.ifCond .ne 9, 3) := by decide +kernel
theorem dX6_net_11 : decode cX6_net 11 = .ok (.aload_n 0, 1) := by decide +kernel
theorem dX6_net_12 : decode cX6_net 12 = .ok (.iconst (-1), 1) := by decide +kernel
theorem dX6_net_13 : decode cX6_net 13 = .ok (.invokevirtual 189, 3) := by decide +kernel
theorem dX6_net_16 : decode cX6_net 16 = .ok (.ireturn, 1) := by decide +kernel
theorem dX6_net_17 : decode cX6_net 17 = .ok (.aload_n 0, 1) := by decide +kernel
theorem dX6_net_18 : decode cX6_net 18 = .ok (.getfield 32, 3) := by decide +kernel
theorem dX6_net_21 : decode cX6_net 21 = .ok (.aload_n 0, 1) := by decide +kernel
theorem dX6_net_22 : decode cX6_net 22 = .ok (.getfield 10, 3) := by decide +kernel
theorem dX6_net_25 : decode cX6_net 25 = .ok (.invokevirtual 126, 3) := by decide +kernel
theorem dX6_net_28 : decode cX6_net 28 = .ok (.pop, 1) := by decide +kernel
theorem dX6_net_29 : decode cX6_net 29 = .ok (.aload_n 0, 1) := by decide +kernel
theorem dX6_net_30 : decode cX6_net 30 = .ok (.getfield 46, 3) := by decide +kernel
theorem dX6_net_33 : decode cX6_net 33 = .ok (.aload_n 0, 1) := by decide +kernel
theorem dX6_net_34 : decode cX6_net 34 = .ok (.getfield 10, 3) := by decide +kernel
theorem dX6_net_37 : decode cX6_net 37 = .ok (.aload_n 0, 1) := by decide +kernel
theorem dX6_net_38 : decode cX6_net 38 = .ok (.getfield 32, 3) := by decide +kernel
theorem dX6_net_41 : decode cX6_net 41 = .ok (.invokevirtual 201, 3) := by decide +kernel
theorem dX6_net_44 : decode cX6_net 44 = .ok (.aload_n 0, 1) := by decide +kernel
theorem dX6_net_45 : decode cX6_net 45 = .ok (.getfield 46, 3) := by decide +kernel
theorem dX6_net_48 : decode cX6_net 48 = .ok (.getfield 205, 3) := by decide +kernel
theorem dX6_net_51 : decode cX6_net 51 = .ok (.iload_n 1, 1) := by decide +kernel
theorem dX6_net_52 : decode cX6_net 52 = .ok (.invokestatic 91, 3) := by decide +kernel
theorem dX6_net_55 : decode cX6_net 55 = .ok (.ireturn, 1) := by decide +kernel
theorem dX6_payments_0 : decode cX6_payments 0 = .ok (.aload_n 0, 1) := by decide +kernel
theorem dX6_payments_1 : decode cX6_payments 1 = .ok (.getfield 32, 3) := by decide +kernel
theorem dX6_payments_4 : decode cX6_payments 4 = .ok (.aload_n 0, 1) := by decide +kernel
theorem dX6_payments_5 : decode cX6_payments 5 = .ok (.getfield 10, 3) := by decide +kernel
theorem dX6_payments_8 : decode cX6_payments 8 = .ok (.invokevirtual 126, 3) := by decide +kernel
theorem dX6_payments_11 : decode cX6_payments 11 = .ok (.pop, 1) := by decide +kernel
theorem dX6_payments_12 : decode cX6_payments 12 = .ok (.aload_n 0, 1) := by decide +kernel
theorem dX6_payments_13 : decode cX6_payments 13 = .ok (.getfield 46, 3) := by decide +kernel
theorem dX6_payments_16 : decode cX6_payments 16 = .ok (.aload_n 0, 1) := by decide +kernel
theorem dX6_payments_17 : decode cX6_payments 17 = .ok (.getfield 10, 3) := by decide +kernel
theorem dX6_payments_20 : decode cX6_payments 20 = .ok (.aload_n 0, 1) := by decide +kernel
theorem dX6_payments_21 : decode cX6_payments 21 = .ok (.getfield 32, 3) := by decide +kernel
theorem dX6_payments_24 : decode cX6_payments 24 = .ok (.invokevirtual 201, 3) := by decide +kernel
theorem dX6_payments_27 : decode cX6_payments 27 = .ok (.aload_n 0, 1) := by decide +kernel
theorem dX6_payments_28 : decode cX6_payments 28 = .ok (.getfield 46, 3) := by decide +kernel
theorem dX6_payments_31 : decode cX6_payments 31 = .ok (.aload_n 0, 1) := by decide +kernel
theorem dX6_payments_32 : decode cX6_payments 32 = .ok (.getfield 10, 3) := by decide +kernel
theorem dX6_payments_35 : decode cX6_payments 35 = .ok (.getfield 172, 3) := by decide +kernel
theorem dX6_payments_38 : decode cX6_payments 38 = .ok (.invokevirtual 208, 3) := by decide +kernel
theorem dX6_payments_41 : decode cX6_payments 41 = .ok (.ireturn, 1) := by decide +kernel
theorem dX6_near_0 : decode cX6_near 0 = .ok (.iload_n 1, 1) := by decide +kernel
theorem dX6_near_1 : decode cX6_near 1 = .ok (.invokestatic 166, 3) := by decide +kernel
theorem dX6_near_4 : decode cX6_near 4 = .ok (.istore_n 3, 1) := by decide +kernel
theorem dX6_near_5 : decode cX6_near 5 = .ok (.iload_n 3, 1) := by decide +kernel
theorem dX6_near_6 : decode cX6_near 6 = .ok (.ifCond .eq 9, 3) := by decide +kernel
theorem dX6_near_9 : decode cX6_near 9 = .ok (.aload_n 0, 1) := by decide +kernel
theorem dX6_near_10 : decode cX6_near 10 = .ok (.iload_n 3, 1) := by decide +kernel
theorem dX6_near_11 : decode cX6_near 11 = .ok (.invokevirtual 65, 3) := by decide +kernel
theorem dX6_near_14 : decode cX6_near 14 = .ok (.ireturn, 1) := by decide +kernel
theorem dX6_near_15 : decode cX6_near 15 = .ok (.iload_n 2, 1) := by decide +kernel
theorem dX6_near_16 : decode cX6_near 16 = .ok (.invokestatic 195, 3) := by decide +kernel
theorem dX6_near_19 : decode cX6_near 19 = .ok (.ifCond .ne 9, 3) := by decide +kernel
theorem dX6_near_22 : decode cX6_near 22 = .ok (.aload_n 0, 1) := by decide +kernel
theorem dX6_near_23 : decode cX6_near 23 = .ok (.iconst (-1), 1) := by decide +kernel
theorem dX6_near_24 : decode cX6_near 24 = .ok (.invokevirtual 65, 3) := by decide +kernel
theorem dX6_near_27 : decode cX6_near 27 = .ok (.ireturn, 1) := by decide +kernel
theorem dX6_near_28 : decode cX6_near 28 = .ok (.aload_n 0, 1) := by decide +kernel
theorem dX6_near_29 : decode cX6_near 29 = .ok (.getfield 32, 3) := by decide +kernel
theorem dX6_near_32 : decode cX6_near 32 = .ok (.aload_n 0, 1) := by decide +kernel
theorem dX6_near_33 : decode cX6_near 33 = .ok (.getfield 10, 3) := by decide +kernel
theorem dX6_near_36 : decode cX6_near 36 = .ok (.invokevirtual 126, 3) := by decide +kernel
theorem dX6_near_39 : decode cX6_near 39 = .ok (.pop, 1) := by decide +kernel
theorem dX6_near_40 : decode cX6_near 40 = .ok (.aload_n 0, 1) := by decide +kernel
theorem dX6_near_41 : decode cX6_near 41 = .ok (.getfield 32, 3) := by decide +kernel
theorem dX6_near_44 : decode cX6_near 44 = .ok (.getfield 169, 3) := by decide +kernel
theorem dX6_near_47 : decode cX6_near 47 = .ok (.iload_n 1, 1) := by decide +kernel
theorem dX6_near_48 : decode cX6_near 48 = .ok (.invokestatic 91, 3) := by decide +kernel
theorem dX6_near_51 : decode cX6_near 51 = .ok (.iload_n 2, 1) := by decide +kernel
theorem dX6_near_52 : decode cX6_near 52 = .ok (.isub, 1) := by decide +kernel
theorem dX6_near_53 : decode cX6_near 53 = .ok (.invokestatic 211, 3) := by decide +kernel
theorem dX6_near_56 : decode cX6_near 56 = .ok (.ireturn, 1) := by decide +kernel
theorem dX6_midwife_0 : decode cX6_midwife 0 = .ok (.iload_n 1, 1) := by decide +kernel
theorem dX6_midwife_1 : decode cX6_midwife 1 = .ok (.invokestatic 195, 3) := by decide +kernel
theorem dX6_midwife_4 : decode cX6_midwife 4 = .ok (.ifCond .ne 9, 3) := by decide +kernel
theorem dX6_midwife_7 : decode cX6_midwife 7 = .ok (.aload_n 0, 1) := by decide +kernel
theorem dX6_midwife_8 : decode cX6_midwife 8 = .ok (.iconst (-1), 1) := by decide +kernel
theorem dX6_midwife_9 : decode cX6_midwife 9 = .ok (.invokevirtual 65, 3) := by decide +kernel
theorem dX6_midwife_12 : decode cX6_midwife 12 = .ok (.ireturn, 1) := by decide +kernel
theorem dX6_midwife_13 : decode cX6_midwife 13 = .ok (.aload_n 0, 1) := by decide +kernel
theorem dX6_midwife_14 : decode cX6_midwife 14 = .ok (.getfield 32, 3) := by decide +kernel
theorem dX6_midwife_17 : decode cX6_midwife 17 = .ok (.aload_n 0, 1) := by decide +kernel
theorem dX6_midwife_18 : decode cX6_midwife 18 = .ok (.getfield 10, 3) := by decide +kernel
theorem dX6_midwife_21 : decode cX6_midwife 21 = .ok (.invokevirtual 126, 3) := by decide +kernel
theorem dX6_midwife_24 : decode cX6_midwife 24 = .ok (.pop, 1) := by decide +kernel
theorem dX6_midwife_25 : decode cX6_midwife 25 = .ok (.iconst (-1), 1) := by decide +kernel
theorem dX6_midwife_26 : decode cX6_midwife 26 = .ok (.istore_n 2, 1) := by decide +kernel
theorem dX6_midwife_27 : decode cX6_midwife 27 = .ok (.iconst 0, 1) := by decide +kernel
theorem dX6_midwife_28 : decode cX6_midwife 28 = .ok (.istore_n 3, 1) := by decide +kernel
theorem dX6_midwife_29 : decode cX6_midwife 29 = .ok (.iconst 0, 1) := by decide +kernel
theorem dX6_midwife_30 : decode cX6_midwife 30 = .ok (.istore 4, 2) := by decide +kernel
theorem dX6_midwife_32 : decode cX6_midwife 32 = .ok (.iload 4, 2) := by decide +kernel
theorem dX6_midwife_34 : decode cX6_midwife 34 = .ok (.bipush 12, 2) := by decide +kernel
theorem dX6_midwife_36 : decode cX6_midwife 36 = .ok (.if_icmp .ge 40, 3) := by decide +kernel
theorem dX6_midwife_39 : decode cX6_midwife 39 = .ok (.aload_n 0, 1) := by decide +kernel
theorem dX6_midwife_40 : decode cX6_midwife 40 = .ok (.getfield 32, 3) := by decide +kernel
theorem dX6_midwife_43 : decode cX6_midwife 43 = .ok (.getfield 169, 3) := by decide +kernel
theorem dX6_midwife_46 : decode cX6_midwife 46 = .ok (.iload 4, 2) := by decide +kernel
theorem dX6_midwife_48 : decode cX6_midwife 48 = .ok (.invokestatic 91, 3) := by decide +kernel
theorem dX6_midwife_51 : decode cX6_midwife 51 = .ok (.iload_n 1, 1) := by decide +kernel
theorem dX6_midwife_52 : decode cX6_midwife 52 = .ok (.isub, 1) := by decide +kernel
theorem dX6_midwife_53 : decode cX6_midwife 53 = .ok (.invokestatic 211, 3) := by decide +kernel
theorem dX6_midwife_56 : decode cX6_midwife 56 = .ok (.istore 5, 2) := by decide +kernel
theorem dX6_midwife_58 : decode cX6_midwife 58 = .ok (.iload 5, 2) := by decide +kernel
theorem dX6_midwife_60 : decode cX6_midwife 60 = .ok (.iload_n 2, 1) := by decide +kernel
theorem dX6_midwife_61 : decode cX6_midwife 61 = .ok (.if_icmp .le 9, 3) := by decide +kernel
theorem dX6_midwife_64 : decode cX6_midwife 64 = .ok (.iload 5, 2) := by decide +kernel
theorem dX6_midwife_66 : decode cX6_midwife 66 = .ok (.istore_n 2, 1) := by decide +kernel
theorem dX6_midwife_67 : decode cX6_midwife 67 = .ok (.iload 4, 2) := by decide +kernel
theorem dX6_midwife_69 : decode cX6_midwife 69 = .ok (.istore_n 3, 1) := by decide +kernel
theorem dX6_midwife_70 : decode cX6_midwife 70 = .ok (.iinc 4 1, 3) := by decide +kernel
theorem dX6_midwife_73 : decode cX6_midwife 73 = .ok (.goto (-41), 3) := by decide +kernel
theorem dX6_midwife_76 : decode cX6_midwife 76 = .ok (.iload_n 3, 1) := by decide +kernel
theorem dX6_midwife_77 : decode cX6_midwife 77 = .ok (.ireturn, 1) := by decide +kernel
theorem dX6_watch_0 : decode cX6_watch 0 = .ok (.aload_n 0, 1) := by decide +kernel
theorem dX6_watch_1 : decode cX6_watch 1 = .ok (.getfield 32, 3) := by decide +kernel
theorem dX6_watch_4 : decode cX6_watch 4 = .ok (.aload_n 0, 1) := by decide +kernel
theorem dX6_watch_5 : decode cX6_watch 5 = .ok (.getfield 10, 3) := by decide +kernel
theorem dX6_watch_8 : decode cX6_watch 8 = .ok (.invokevirtual 126, 3) := by decide +kernel
theorem dX6_watch_11 : decode cX6_watch 11 = .ok (.pop, 1) := by decide +kernel
theorem dX6_watch_12 : decode cX6_watch 12 = .ok (.iconst 0, 1) := by decide +kernel
theorem dX6_watch_13 : decode cX6_watch 13 = .ok (.istore_n 1, 1) := by decide +kernel
theorem dX6_watch_14 : decode cX6_watch 14 = .ok (.iconst 0, 1) := by decide +kernel
theorem dX6_watch_15 : decode cX6_watch 15 = .ok (.istore_n 2, 1) := by decide +kernel
theorem dX6_watch_16 : decode cX6_watch 16 = .ok (.iload_n 2, 1) := by decide +kernel
theorem dX6_watch_17 : decode cX6_watch 17 = .ok (.bipush 12, 2) := by decide +kernel
theorem dX6_watch_19 : decode cX6_watch 19 = .ok (.if_icmp .ge 37, 3) := by decide +kernel
theorem dX6_watch_22 : decode cX6_watch 22 = .ok (.aload_n 0, 1) := by decide +kernel
theorem dX6_watch_23 : decode cX6_watch 23 = .ok (.getfield 10, 3) := by decide +kernel
theorem dX6_watch_26 : decode cX6_watch 26 = .ok (.iconst 3, 1) := by decide +kernel
theorem dX6_watch_27 : decode cX6_watch 27 = .ok (.aload_n 0, 1) := by decide +kernel
theorem dX6_watch_28 : decode cX6_watch 28 = .ok (.getfield 32, 3) := by decide +kernel
theorem dX6_watch_31 : decode cX6_watch 31 = .ok (.getfield 169, 3) := by decide +kernel
theorem dX6_watch_34 : decode cX6_watch 34 = .ok (.iload_n 2, 1) := by decide +kernel
theorem dX6_watch_35 : decode cX6_watch 35 = .ok (.invokestatic 91, 3) := by decide +kernel
theorem dX6_watch_38 : decode cX6_watch 38 = .ok (.invokevirtual 216, 3) := by decide +kernel
theorem dX6_watch_41 : decode cX6_watch 41 = .ok (.ifCond .ne 9, 3) := by decide +kernel
theorem dX6_watch_44 : decode cX6_watch 44 = .ok (.iload_n 1, 1) := by decide +kernel
theorem dX6_watch_45 : decode cX6_watch 45 = .ok (.iconst 1, 1) := by decide +kernel
theorem dX6_watch_46 : decode cX6_watch 46 = .ok (.iload_n 2, 1) := by decide +kernel
theorem dX6_watch_47 : decode cX6_watch 47 = .ok (.ishl, 1) := by decide +kernel
theorem dX6_watch_48 : decode cX6_watch 48 = .ok (.ior, 1) := by decide +kernel
theorem dX6_watch_49 : decode cX6_watch 49 = .ok (.istore_n 1, 1) := by decide +kernel
theorem dX6_watch_50 : decode cX6_watch 50 = .ok (.iinc 2 1, 3) := by decide +kernel
theorem dX6_watch_53 : decode cX6_watch 53 = .ok (.goto (-37), 3) := by decide +kernel
theorem dX6_watch_56 : decode cX6_watch 56 = .ok (.iload_n 1, 1) := by decide +kernel
theorem dX6_watch_57 : decode cX6_watch 57 = .ok (.ireturn, 1) := by decide +kernel
theorem dX6_whoHad_0 : decode cX6_whoHad 0 = .ok (.aload_n 0, 1) := by decide +kernel
theorem dX6_whoHad_1 : decode cX6_whoHad 1 = .ok (.getfield 10, 3) := by decide +kernel
theorem dX6_whoHad_4 : decode cX6_whoHad 4 = .ok (.iload_n 1, 1) := by decide +kernel
theorem dX6_whoHad_5 : decode cX6_whoHad 5 = .ok (.invokevirtual 84, 3) := by decide +kernel
theorem dX6_whoHad_8 : decode cX6_whoHad 8 = .ok (.ifCond .ne 9, 3) := by decide +kernel
theorem dX6_whoHad_11 : decode cX6_whoHad 11 = .ok (.aload_n 0, 1) := by decide +kernel
theorem dX6_whoHad_12 : decode cX6_whoHad 12 = .ok (.iconst (-1), 1) := by decide +kernel
theorem dX6_whoHad_13 : decode cX6_whoHad 13 = .ok (.invokevirtual 65, 3) := by decide +kernel
theorem dX6_whoHad_16 : decode cX6_whoHad 16 = .ok (.ireturn, 1) := by decide +kernel
theorem dX6_whoHad_17 : decode cX6_whoHad 17 = .ok (.iload_n 2, 1) := by decide +kernel
theorem dX6_whoHad_18 : decode cX6_whoHad 18 = .ok (.lookupswitch 78 #[(0, 26), (1, 52)], 26) := by decide +kernel
theorem dX6_whoHad_44 : decode cX6_whoHad 44 = .ok (.aload_n 0, 1) := by decide +kernel
theorem dX6_whoHad_45 : decode cX6_whoHad 45 = .ok (.getfield 19, 3) := by decide +kernel
theorem dX6_whoHad_48 : decode cX6_whoHad 48 = .ok (.aload_n 0, 1) := by decide +kernel
theorem dX6_whoHad_49 : decode cX6_whoHad 49 = .ok (.getfield 10, 3) := by decide +kernel
theorem dX6_whoHad_52 : decode cX6_whoHad 52 = .ok (.invokevirtual 76, 3) := by decide +kernel
theorem dX6_whoHad_55 : decode cX6_whoHad 55 = .ok (.aload_n 0, 1) := by decide +kernel
theorem dX6_whoHad_56 : decode cX6_whoHad 56 = .ok (.aload_n 0, 1) := by decide +kernel
theorem dX6_whoHad_57 : decode cX6_whoHad 57 = .ok (.getfield 19, 3) := by decide +kernel
theorem dX6_whoHad_60 : decode cX6_whoHad 60 = .ok (.getfield 88, 3) := by decide +kernel
theorem dX6_whoHad_63 : decode cX6_whoHad 63 = .ok (.iload_n 1, 1) := by decide +kernel
theorem dX6_whoHad_64 : decode cX6_whoHad 64 = .ok (.bipush 6, 2) := by decide +kernel
theorem dX6_whoHad_66 : decode cX6_whoHad 66 = .ok (.invokevirtual 219, 3) := by decide +kernel
theorem dX6_whoHad_69 : decode cX6_whoHad 69 = .ok (.ireturn, 1) := by decide +kernel
theorem dX6_whoHad_70 : decode cX6_whoHad 70 = .ok (.aload_n 0, 1) := by decide +kernel
theorem dX6_whoHad_71 : decode cX6_whoHad 71 = .ok (.getfield 19, 3) := by decide +kernel
theorem dX6_whoHad_74 : decode cX6_whoHad 74 = .ok (.aload_n 0, 1) := by decide +kernel
theorem dX6_whoHad_75 : decode cX6_whoHad 75 = .ok (.getfield 10, 3) := by decide +kernel
theorem dX6_whoHad_78 : decode cX6_whoHad 78 = .ok (.invokevirtual 76, 3) := by decide +kernel
theorem dX6_whoHad_81 : decode cX6_whoHad 81 = .ok (.aload_n 0, 1) := by decide +kernel
theorem dX6_whoHad_82 : decode cX6_whoHad 82 = .ok (.aload_n 0, 1) := by decide +kernel
theorem dX6_whoHad_83 : decode cX6_whoHad 83 = .ok (.getfield 19, 3) := by decide +kernel
theorem dX6_whoHad_86 : decode cX6_whoHad 86 = .ok (.getfield 97, 3) := by decide +kernel
theorem dX6_whoHad_89 : decode cX6_whoHad 89 = .ok (.iload_n 1, 1) := by decide +kernel
theorem dX6_whoHad_90 : decode cX6_whoHad 90 = .ok (.bipush 10, 2) := by decide +kernel
theorem dX6_whoHad_92 : decode cX6_whoHad 92 = .ok (.invokevirtual 219, 3) := by decide +kernel
theorem dX6_whoHad_95 : decode cX6_whoHad 95 = .ok (.ireturn, 1) := by decide +kernel
theorem dX6_whoHad_96 : decode cX6_whoHad 96 = .ok (.aload_n 0, 1) := by decide +kernel
theorem dX6_whoHad_97 : decode cX6_whoHad 97 = .ok (.bipush (-2), 2) := by decide +kernel
theorem dX6_whoHad_99 : decode cX6_whoHad 99 = .ok (.invokevirtual 65, 3) := by decide +kernel
theorem dX6_whoHad_102 : decode cX6_whoHad 102 = .ok (.ireturn, 1) := by decide +kernel
theorem dX6_leastOil_0 : decode cX6_leastOil 0 = .ok (.aload_n 0, 1) := by decide +kernel
theorem dX6_leastOil_1 : decode cX6_leastOil 1 = .ok (.getfield 19, 3) := by decide +kernel
theorem dX6_leastOil_4 : decode cX6_leastOil 4 = .ok (.aload_n 0, 1) := by decide +kernel
theorem dX6_leastOil_5 : decode cX6_leastOil 5 = .ok (.getfield 10, 3) := by decide +kernel
theorem dX6_leastOil_8 : decode cX6_leastOil 8 = .ok (.invokevirtual 76, 3) := by decide +kernel
theorem dX6_leastOil_11 : decode cX6_leastOil 11 = .ok (.aload_n 0, 1) := by decide +kernel
theorem dX6_leastOil_12 : decode cX6_leastOil 12 = .ok (.getfield 19, 3) := by decide +kernel
theorem dX6_leastOil_15 : decode cX6_leastOil 15 = .ok (.iconst 1, 1) := by decide +kernel
theorem dX6_leastOil_16 : decode cX6_leastOil 16 = .ok (.sipush 200, 3) := by decide +kernel
theorem dX6_leastOil_19 : decode cX6_leastOil 19 = .ok (.invokevirtual 122, 3) := by decide +kernel
theorem dX6_leastOil_22 : decode cX6_leastOil 22 = .ok (.pop, 1) := by decide +kernel
theorem dX6_leastOil_23 : decode cX6_leastOil 23 = .ok (.aload_n 0, 1) := by decide +kernel
theorem dX6_leastOil_24 : decode cX6_leastOil 24 = .ok (.getfield 32, 3) := by decide +kernel
theorem dX6_leastOil_27 : decode cX6_leastOil 27 = .ok (.aload_n 0, 1) := by decide +kernel
theorem dX6_leastOil_28 : decode cX6_leastOil 28 = .ok (.getfield 19, 3) := by decide +kernel
theorem dX6_leastOil_31 : decode cX6_leastOil 31 = .ok (.invokevirtual 126, 3) := by decide +kernel
theorem dX6_leastOil_34 : decode cX6_leastOil 34 = .ok (.istore_n 1, 1) := by decide +kernel
theorem dX6_leastOil_35 : decode cX6_leastOil 35 = .ok (.iconst 0, 1) := by decide +kernel
theorem dX6_leastOil_36 : decode cX6_leastOil 36 = .ok (.istore_n 2, 1) := by decide +kernel
theorem dX6_leastOil_37 : decode cX6_leastOil 37 = .ok (.iload_n 2, 1) := by decide +kernel
theorem dX6_leastOil_38 : decode cX6_leastOil 38 = .ok (.sipush 200, 3) := by decide +kernel
theorem dX6_leastOil_41 : decode cX6_leastOil 41 = .ok (.if_icmp .ge 36, 3) := by decide +kernel
theorem dX6_leastOil_44 : decode cX6_leastOil 44 = .ok (.aload_n 0, 1) := by decide +kernel
theorem dX6_leastOil_45 : decode cX6_leastOil 45 = .ok (.getfield 19, 3) := by decide +kernel
theorem dX6_leastOil_48 : decode cX6_leastOil 48 = .ok (.iconst 1, 1) := by decide +kernel
theorem dX6_leastOil_49 : decode cX6_leastOil 49 = .ok (.iload_n 2, 1) := by decide +kernel
theorem dX6_leastOil_50 : decode cX6_leastOil 50 = .ok (.invokevirtual 122, 3) := by decide +kernel
theorem dX6_leastOil_53 : decode cX6_leastOil 53 = .ok (.pop, 1) := by decide +kernel
theorem dX6_leastOil_54 : decode cX6_leastOil 54 = .ok (.aload_n 0, 1) := by decide +kernel
theorem dX6_leastOil_55 : decode cX6_leastOil 55 = .ok (.getfield 32, 3) := by decide +kernel
theorem dX6_leastOil_58 : decode cX6_leastOil 58 = .ok (.aload_n 0, 1) := by decide +kernel
theorem dX6_leastOil_59 : decode cX6_leastOil 59 = .ok (.getfield 19, 3) := by decide +kernel
theorem dX6_leastOil_62 : decode cX6_leastOil 62 = .ok (.invokevirtual 126, 3) := by decide +kernel
theorem dX6_leastOil_65 : decode cX6_leastOil 65 = .ok (.iload_n 1, 1) := by decide +kernel
theorem dX6_leastOil_66 : decode cX6_leastOil 66 = .ok (.if_icmp .ne 5, 3) := by decide +kernel
theorem dX6_leastOil_69 : decode cX6_leastOil 69 = .ok (.iload_n 2, 1) := by decide +kernel
theorem dX6_leastOil_70 : decode cX6_leastOil 70 = .ok (.ireturn, 1) := by decide +kernel
theorem dX6_leastOil_71 : decode cX6_leastOil 71 = .ok (.iinc 2 1, 3) := by decide +kernel
theorem dX6_leastOil_74 : decode cX6_leastOil 74 = .ok (.goto (-37), 3) := by decide +kernel
theorem dX6_leastOil_77 : decode cX6_leastOil 77 = .ok (.sipush 200, 3) := by decide +kernel
theorem dX6_leastOil_80 : decode cX6_leastOil 80 = .ok (.ireturn, 1) := by decide +kernel
theorem dX6_row_0 : decode cX6_row 0 = .ok (.iload_n 1, 1) := by decide +kernel
theorem dX6_row_1 : decode cX6_row 1 = .ok (.ifCond .ge 10, 3) := by decide +kernel
theorem dX6_row_4 : decode cX6_row 4 = .ok (.aload_n 0, 1) := by decide +kernel
theorem dX6_row_5 : decode cX6_row 5 = .ok (.bipush (-4), 2) := by decide +kernel
theorem dX6_row_7 : decode cX6_row 7 = .ok (.invokevirtual 65, 3) := by decide +kernel
theorem dX6_row_10 : decode cX6_row 10 = .ok (.ireturn, 1) := by decide +kernel
theorem dX6_row_11 : decode cX6_row 11 = .ok (.iload_n 1, 1) := by decide +kernel
theorem dX6_row_12 : decode cX6_row 12 = .ok (.bipush 99, 2) := by decide +kernel
theorem dX6_row_14 : decode cX6_row 14 = .ok (.if_icmp .gt 12, 3) := by decide +kernel
theorem dX6_row_17 : decode cX6_row 17 = .ok (.aload_n 0, 1) := by decide +kernel
theorem dX6_row_18 : decode cX6_row 18 = .ok (.getfield 57, 3) := by decide +kernel
theorem dX6_row_21 : decode cX6_row 21 = .ok (.bipush 12, 2) := by decide +kernel
theorem dX6_row_23 : decode cX6_row 23 = .ok (.if_icmp .lt 10, 3) := by decide +kernel
theorem dX6_row_26 : decode cX6_row 26 = .ok (.aload_n 0, 1) := by decide +kernel
theorem dX6_row_27 : decode cX6_row 27 = .ok (.bipush (-6), 2) := by decide +kernel
theorem dX6_row_29 : decode cX6_row 29 = .ok (.invokevirtual 65, 3) := by decide +kernel
theorem dX6_row_32 : decode cX6_row 32 = .ok (.ireturn, 1) := by decide +kernel
theorem dX6_row_33 : decode cX6_row 33 = .ok (.aload_n 0, 1) := by decide +kernel
theorem dX6_row_34 : decode cX6_row 34 = .ok (.getfield 50, 3) := by decide +kernel
theorem dX6_row_37 : decode cX6_row 37 = .ok (.aload_n 0, 1) := by decide +kernel
theorem dX6_row_38 : decode cX6_row 38 = .ok (.getfield 57, 3) := by decide +kernel
theorem dX6_row_41 : decode cX6_row 41 = .ok (.iload_n 1, 1) := by decide +kernel
theorem dX6_row_42 : decode cX6_row 42 = .ok (.invokestatic 115, 3) := by decide +kernel
theorem dX6_row_45 : decode cX6_row 45 = .ok (.aload_n 0, 1) := by decide +kernel
theorem dX6_row_46 : decode cX6_row 46 = .ok (.dup, 1) := by decide +kernel
theorem dX6_row_47 : decode cX6_row 47 = .ok (.getfield 57, 3) := by decide +kernel
theorem dX6_row_50 : decode cX6_row 50 = .ok (.iconst 1, 1) := by decide +kernel
theorem dX6_row_51 : decode cX6_row 51 = .ok (.iadd, 1) := by decide +kernel
theorem dX6_row_52 : decode cX6_row 52 = .ok (.putfield 57, 3) := by decide +kernel
theorem dX6_row_55 : decode cX6_row 55 = .ok (.aload_n 0, 1) := by decide +kernel
theorem dX6_row_56 : decode cX6_row 56 = .ok (.getfield 57, 3) := by decide +kernel
theorem dX6_row_59 : decode cX6_row 59 = .ok (.ireturn, 1) := by decide +kernel
theorem dX6_judge_0 : decode cX6_judge 0 = .ok (.aload_n 0, 1) := by decide +kernel
theorem dX6_judge_1 : decode cX6_judge 1 = .ok (.getfield 32, 3) := by decide +kernel
theorem dX6_judge_4 : decode cX6_judge 4 = .ok (.aload_n 0, 1) := by decide +kernel
theorem dX6_judge_5 : decode cX6_judge 5 = .ok (.getfield 10, 3) := by decide +kernel
theorem dX6_judge_8 : decode cX6_judge 8 = .ok (.invokevirtual 126, 3) := by decide +kernel
theorem dX6_judge_11 : decode cX6_judge 11 = .ok (.pop, 1) := by decide +kernel
theorem dX6_judge_12 : decode cX6_judge 12 = .ok (.aload_n 0, 1) := by decide +kernel
theorem dX6_judge_13 : decode cX6_judge 13 = .ok (.invokevirtual 223, 3) := by decide +kernel
theorem dX6_judge_16 : decode cX6_judge 16 = .ok (.istore_n 1, 1) := by decide +kernel
theorem dX6_judge_17 : decode cX6_judge 17 = .ok (.aload_n 0, 1) := by decide +kernel
theorem dX6_judge_18 : decode cX6_judge 18 = .ok (.iconst 0, 1) := by decide +kernel
theorem dX6_judge_19 : decode cX6_judge 19 = .ok (.putfield 57, 3) := by decide +kernel
theorem dX6_judge_22 : decode cX6_judge 22 = .ok (.iload_n 1, 1) := by decide +kernel
theorem dX6_judge_23 : decode cX6_judge 23 = .ok (.ireturn, 1) := by decide +kernel
theorem dX6_clear_0 : decode cX6_clear 0 = .ok (.aload_n 0, 1) := by decide +kernel
theorem dX6_clear_1 : decode cX6_clear 1 = .ok (.getfield 57, 3) := by decide +kernel
theorem dX6_clear_4 : decode cX6_clear 4 = .ok (.istore_n 1, 1) := by decide +kernel
theorem dX6_clear_5 : decode cX6_clear 5 = .ok (.aload_n 0, 1) := by decide +kernel
theorem dX6_clear_6 : decode cX6_clear 6 = .ok (.iconst 0, 1) := by decide +kernel
theorem dX6_clear_7 : decode cX6_clear 7 = .ok (.putfield 57, 3) := by decide +kernel
theorem dX6_clear_10 : decode cX6_clear 10 = .ok (.iload_n 1, 1) := by decide +kernel
theorem dX6_clear_11 : decode cX6_clear 11 = .ok (.ireturn, 1) := by decide +kernel
theorem dX6_lots_0 : decode cX6_lots 0 = .ok (.iload_n 1, 1) := by decide +kernel
theorem dX6_lots_1 : decode cX6_lots 1 = .ok (.iconst 1, 1) := by decide +kernel
theorem dX6_lots_2 : decode cX6_lots 2 = .ok (.if_icmp .ge 10, 3) := by decide +kernel
theorem dX6_lots_5 : decode cX6_lots 5 = .ok (.aload_n 0, 1) := by decide +kernel
theorem dX6_lots_6 : decode cX6_lots 6 = .ok (.bipush (-4), 2) := by decide +kernel
theorem dX6_lots_8 : decode cX6_lots 8 = .ok (.invokevirtual 65, 3) := by decide +kernel
theorem dX6_lots_11 : decode cX6_lots 11 = .ok (.ireturn, 1) := by decide +kernel
theorem dX6_lots_12 : decode cX6_lots 12 = .ok (.iload_n 1, 1) := by decide +kernel
theorem dX6_lots_13 : decode cX6_lots 13 = .ok (.bipush 20, 2) := by decide +kernel
theorem dX6_lots_15 : decode cX6_lots 15 = .ok (.if_icmp .le 10, 3) := by decide +kernel
theorem dX6_lots_18 : decode cX6_lots 18 = .ok (.aload_n 0, 1) := by decide +kernel
theorem dX6_lots_19 : decode cX6_lots 19 = .ok (.bipush (-6), 2) := by decide +kernel
theorem dX6_lots_21 : decode cX6_lots 21 = .ok (.invokevirtual 65, 3) := by decide +kernel
theorem dX6_lots_24 : decode cX6_lots 24 = .ok (.ireturn, 1) := by decide +kernel
theorem dX6_lots_25 : decode cX6_lots 25 = .ok (.iload_n 3, 1) := by decide +kernel
theorem dX6_lots_26 : decode cX6_lots 26 = .ok (.ifCond .eq 15, 3) := by decide +kernel
theorem dX6_lots_29 : decode cX6_lots 29 = .ok (.iload_n 3, 1) := by decide +kernel
theorem dX6_lots_30 : decode cX6_lots 30 = .ok (.iconst 1, 1) := by decide +kernel
theorem dX6_lots_31 : decode cX6_lots 31 = .ok (.if_icmp .eq 10, 3) := by decide +kernel
theorem dX6_lots_34 : decode cX6_lots 34 = .ok (.aload_n 0, 1) := by decide +kernel
theorem dX6_lots_35 : decode cX6_lots 35 = .ok (.bipush (-2), 2) := by decide +kernel
theorem dX6_lots_37 : decode cX6_lots 37 = .ok (.invokevirtual 65, 3) := by decide +kernel
theorem dX6_lots_40 : decode cX6_lots 40 = .ok (.ireturn, 1) := by decide +kernel
theorem dX6_lots_41 : decode cX6_lots 41 = .ok (.aload_n 0, 1) := by decide +kernel
theorem dX6_lots_42 : decode cX6_lots 42 = .ok (.getfield 19, 3) := by decide +kernel
theorem dX6_lots_45 : decode cX6_lots 45 = .ok (.aload_n 0, 1) := by decide +kernel
theorem dX6_lots_46 : decode cX6_lots 46 = .ok (.getfield 10, 3) := by decide +kernel
theorem dX6_lots_49 : decode cX6_lots 49 = .ok (.invokevirtual 76, 3) := by decide +kernel
theorem dX6_lots_52 : decode cX6_lots 52 = .ok (.iload_n 2, 1) := by decide +kernel
theorem dX6_lots_53 : decode cX6_lots 53 = .ok (.istore 4, 2) := by decide +kernel
theorem dX6_lots_55 : decode cX6_lots 55 = .ok (.iconst 0, 1) := by decide +kernel
theorem dX6_lots_56 : decode cX6_lots 56 = .ok (.istore 5, 2) := by decide +kernel
theorem dX6_lots_58 : decode cX6_lots 58 = .ok (.iconst 0, 1) := by decide +kernel
theorem dX6_lots_59 : decode cX6_lots 59 = .ok (.istore 6, 2) := by decide +kernel
theorem dX6_lots_61 : decode cX6_lots 61 = .ok (.iconst 0, 1) := by decide +kernel
theorem dX6_lots_62 : decode cX6_lots 62 = .ok (.istore 7, 2) := by decide +kernel
theorem dX6_lots_64 : decode cX6_lots 64 = .ok (.iload 7, 2) := by decide +kernel
theorem dX6_lots_66 : decode cX6_lots 66 = .ok (.iload_n 1, 1) := by decide +kernel
theorem dX6_lots_67 : decode cX6_lots 67 = .ok (.if_icmp .ge 56, 3) := by decide +kernel
theorem dX6_lots_70 : decode cX6_lots 70 = .ok (.aload_n 0, 1) := by decide +kernel
theorem dX6_lots_71 : decode cX6_lots 71 = .ok (.getfield 19, 3) := by decide +kernel
theorem dX6_lots_74 : decode cX6_lots 74 = .ok (.iload 4, 2) := by decide +kernel
theorem dX6_lots_76 : decode cX6_lots 76 = .ok (.invokevirtual 226, 3) := by decide +kernel
theorem dX6_lots_79 : decode cX6_lots 79 = .ok (.istore 4, 2) := by decide +kernel
theorem dX6_lots_81 : decode cX6_lots 81 = .ok (.iload 5, 2) := by decide +kernel
theorem dX6_lots_83 : decode cX6_lots 83 = .ok (.aload_n 0, 1) := by decide +kernel
theorem dX6_lots_84 : decode cX6_lots 84 = .ok (.getfield 32, 3) := by decide +kernel
theorem dX6_lots_87 : decode cX6_lots 87 = .ok (.aload_n 0, 1) := by decide +kernel
theorem dX6_lots_88 : decode cX6_lots 88 = .ok (.getfield 19, 3) := by decide +kernel
theorem dX6_lots_91 : decode cX6_lots 91 = .ok (.invokevirtual 126, 3) := by decide +kernel
theorem dX6_lots_94 : decode cX6_lots 94 = .ok (.iadd, 1) := by decide +kernel
theorem dX6_lots_95 : decode cX6_lots 95 = .ok (.istore 5, 2) := by decide +kernel
theorem dX6_lots_97 : decode cX6_lots 97 = .ok (.aload_n 0, 1) := by decide +kernel
theorem dX6_lots_98 : decode cX6_lots 98 = .ok (.getfield 32, 3) := by decide +kernel
theorem dX6_lots_101 : decode cX6_lots 101 = .ok (.invokevirtual 138, 3) := by decide +kernel
theorem dX6_lots_104 : decode cX6_lots 104 = .ok (.aload_n 0, 1) := by decide +kernel
theorem dX6_lots_105 : decode cX6_lots 105 = .ok (.getfield 19, 3) := by decide +kernel
theorem dX6_lots_108 : decode cX6_lots 108 = .ok (.invokevirtual 229, 3) := by decide +kernel
theorem dX6_lots_111 : decode cX6_lots 111 = .ok (.if_icmp .ne 6, 3) := by decide +kernel
theorem dX6_lots_114 : decode cX6_lots 114 = .ok (.iinc 6 1, 3) := by decide +kernel
theorem dX6_lots_117 : decode cX6_lots 117 = .ok (.iinc 7 1, 3) := by decide +kernel
theorem dX6_lots_120 : decode cX6_lots 120 = .ok (.goto (-56), 3) := by decide +kernel
theorem dX6_lots_123 : decode cX6_lots 123 = .ok (.iload_n 3, 1) := by decide +kernel
theorem dX6_lots_124 : decode cX6_lots 124 = .ok (.ifCond .ne 8, 3) := by decide +kernel
theorem dX6_lots_127 : decode cX6_lots 127 = .ok (.iload 5, 2) := by decide +kernel
theorem dX6_lots_129 : decode cX6_lots 129 = .ok (.goto 5, 3) := by decide +kernel
theorem dX6_lots_132 : decode cX6_lots 132 = .ok (.iload 6, 2) := by decide +kernel
theorem dX6_lots_134 : decode cX6_lots 134 = .ok (.ireturn, 1) := by decide +kernel
theorem dX6_image_0 : decode cX6_image 0 = .ok (.aload_n 0, 1) := by decide +kernel
theorem dX6_image_1 : decode cX6_image 1 = .ok (.getfield 16, 3) := by decide +kernel
theorem dX6_image_4 : decode cX6_image 4 = .ok (.aload_n 0, 1) := by decide +kernel
theorem dX6_image_5 : decode cX6_image 5 = .ok (.getfield 10, 3) := by decide +kernel
theorem dX6_image_8 : decode cX6_image 8 = .ok (.invokevirtual 76, 3) := by decide +kernel
theorem dX6_image_11 : decode cX6_image 11 = .ok (.aload_n 0, 1) := by decide +kernel
theorem dX6_image_12 : decode cX6_image 12 = .ok (.iconst 1, 1) := by decide +kernel
theorem dX6_image_13 : decode cX6_image 13 = .ok (.putfield 61, 3) := by decide +kernel
theorem dX6_image_16 : decode cX6_image 16 = .ok (.aload_n 0, 1) := by decide +kernel
theorem dX6_image_17 : decode cX6_image 17 = .ok (.getfield 10, 3) := by decide +kernel
theorem dX6_image_20 : decode cX6_image 20 = .ok (.getfield 172, 3) := by decide +kernel
theorem dX6_image_23 : decode cX6_image 23 = .ok (.ireturn, 1) := by decide +kernel
theorem dX6_on_0 : decode cX6_on 0 = .ok (.aload_n 0, 1) := by decide +kernel
theorem dX6_on_1 : decode cX6_on 1 = .ok (.getfield 61, 3) := by decide +kernel
theorem dX6_on_4 : decode cX6_on 4 = .ok (.ifCond .ne 10, 3) := by decide +kernel
theorem dX6_on_7 : decode cX6_on 7 = .ok (.aload_n 0, 1) := by decide +kernel
theorem dX6_on_8 : decode cX6_on 8 = .ok (.bipush (-3), 2) := by decide +kernel
theorem dX6_on_10 : decode cX6_on 10 = .ok (.invokevirtual 65, 3) := by decide +kernel
theorem dX6_on_13 : decode cX6_on 13 = .ok (.ireturn, 1) := by decide +kernel
theorem dX6_on_14 : decode cX6_on 14 = .ok (.aload_n 0, 1) := by decide +kernel
theorem dX6_on_15 : decode cX6_on 15 = .ok (.getfield 10, 3) := by decide +kernel
theorem dX6_on_18 : decode cX6_on 18 = .ok (.aload_n 0, 1) := by decide +kernel
theorem dX6_on_19 : decode cX6_on 19 = .ok (.getfield 16, 3) := by decide +kernel
theorem dX6_on_22 : decode cX6_on 22 = .ok (.invokevirtual 76, 3) := by decide +kernel
theorem dX6_on_25 : decode cX6_on 25 = .ok (.aload_n 0, 1) := by decide +kernel
theorem dX6_on_26 : decode cX6_on 26 = .ok (.getfield 10, 3) := by decide +kernel
theorem dX6_on_29 : decode cX6_on 29 = .ok (.getfield 172, 3) := by decide +kernel
theorem dX6_on_32 : decode cX6_on 32 = .ok (.ireturn, 1) := by decide +kernel
theorem dX6_count_0 : decode cX6_count 0 = .ok (.iload_n 1, 1) := by decide +kernel
theorem dX6_count_1 : decode cX6_count 1 = .ok (.tableswitch 96 0 6 #[43, 51, 59, 67, 75, 83, 88], 43) := by decide +kernel
theorem dX6_count_44 : decode cX6_count 44 = .ok (.aload_n 0, 1) := by decide +kernel
theorem dX6_count_45 : decode cX6_count 45 = .ok (.getfield 10, 3) := by decide +kernel
theorem dX6_count_48 : decode cX6_count 48 = .ok (.getfield 172, 3) := by decide +kernel
theorem dX6_count_51 : decode cX6_count 51 = .ok (.ireturn, 1) := by decide +kernel
theorem dX6_count_52 : decode cX6_count 52 = .ok (.aload_n 0, 1) := by decide +kernel
theorem dX6_count_53 : decode cX6_count 53 = .ok (.getfield 10, 3) := by decide +kernel
theorem dX6_count_56 : decode cX6_count 56 = .ok (.invokevirtual 229, 3) := by decide +kernel
theorem dX6_count_59 : decode cX6_count 59 = .ok (.ireturn, 1) := by decide +kernel
theorem dX6_count_60 : decode cX6_count 60 = .ok (.aload_n 0, 1) := by decide +kernel
theorem dX6_count_61 : decode cX6_count 61 = .ok (.getfield 10, 3) := by decide +kernel
theorem dX6_count_64 : decode cX6_count 64 = .ok (.invokevirtual 232, 3) := by decide +kernel
theorem dX6_count_67 : decode cX6_count 67 = .ok (.ireturn, 1) := by decide +kernel
theorem dX6_count_68 : decode cX6_count 68 = .ok (.aload_n 0, 1) := by decide +kernel
theorem dX6_count_69 : decode cX6_count 69 = .ok (.getfield 10, 3) := by decide +kernel
theorem dX6_count_72 : decode cX6_count 72 = .ok (.invokevirtual 235, 3) := by decide +kernel
theorem dX6_count_75 : decode cX6_count 75 = .ok (.ireturn, 1) := by decide +kernel
theorem dX6_count_76 : decode cX6_count 76 = .ok (.aload_n 0, 1) := by decide +kernel
theorem dX6_count_77 : decode cX6_count 77 = .ok (.getfield 10, 3) := by decide +kernel
theorem dX6_count_80 : decode cX6_count 80 = .ok (.invokevirtual 237, 3) := by decide +kernel
theorem dX6_count_83 : decode cX6_count 83 = .ok (.ireturn, 1) := by decide +kernel
theorem dX6_count_84 : decode cX6_count 84 = .ok (.aload_n 0, 1) := by decide +kernel
theorem dX6_count_85 : decode cX6_count 85 = .ok (.getfield 57, 3) := by decide +kernel
theorem dX6_count_88 : decode cX6_count 88 = .ok (.ireturn, 1) := by decide +kernel
theorem dX6_count_89 : decode cX6_count 89 = .ok (.aload_n 0, 1) := by decide +kernel
theorem dX6_count_90 : decode cX6_count 90 = .ok (.getfield 25, 3) := by decide +kernel
theorem dX6_count_93 : decode cX6_count 93 = .ok (.getfield 69, 3) := by decide +kernel
theorem dX6_count_96 : decode cX6_count 96 = .ok (.ireturn, 1) := by decide +kernel
theorem dX6_count_97 : decode cX6_count 97 = .ok (.iload_n 1, 1) := by decide +kernel
theorem dX6_count_98 : decode cX6_count 98 = .ok (.bipush 10, 2) := by decide +kernel
theorem dX6_count_100 : decode cX6_count 100 = .ok (.if_icmp .le 21, 3) := by decide +kernel
theorem dX6_count_103 : decode cX6_count 103 = .ok (.iload_n 1, 1) := by decide +kernel
theorem dX6_count_104 : decode cX6_count 104 = .ok (.bipush 16, 2) := by decide +kernel
theorem dX6_count_106 : decode cX6_count 106 = .ok (.if_icmp .gt 15, 3) := by decide +kernel
theorem dX6_count_109 : decode cX6_count 109 = .ok (.aload_n 0, 1) := by decide +kernel
theorem dX6_count_110 : decode cX6_count 110 = .ok (.getfield 54, 3) := by decide +kernel
theorem dX6_count_113 : decode cX6_count 113 = .ok (.iload_n 1, 1) := by decide +kernel
theorem dX6_count_114 : decode cX6_count 114 = .ok (.bipush 10, 2) := by decide +kernel
theorem dX6_count_116 : decode cX6_count 116 = .ok (.isub, 1) := by decide +kernel
theorem dX6_count_117 : decode cX6_count 117 = .ok (.invokestatic 91, 3) := by decide +kernel
theorem dX6_count_120 : decode cX6_count 120 = .ok (.ireturn, 1) := by decide +kernel
theorem dX6_count_121 : decode cX6_count 121 = .ok (.bipush (-9), 2) := by decide +kernel
theorem dX6_count_123 : decode cX6_count 123 = .ok (.ireturn, 1) := by decide +kernel
theorem dX6_refuse_0 : decode cX6_refuse 0 = .ok (.aload_n 0, 1) := by decide +kernel
theorem dX6_refuse_1 : decode cX6_refuse 1 = .ok (.getfield 54, 3) := by decide +kernel
theorem dX6_refuse_4 : decode cX6_refuse 4 = .ok (.iload_n 1, 1) := by decide +kernel
theorem dX6_refuse_5 : decode cX6_refuse 5 = .ok (.ineg, 1) := by decide +kernel
theorem dX6_refuse_6 : decode cX6_refuse 6 = .ok (.aload_n 0, 1) := by decide +kernel
theorem dX6_refuse_7 : decode cX6_refuse 7 = .ok (.getfield 54, 3) := by decide +kernel
theorem dX6_refuse_10 : decode cX6_refuse 10 = .ok (.iload_n 1, 1) := by decide +kernel
theorem dX6_refuse_11 : decode cX6_refuse 11 = .ok (.ineg, 1) := by decide +kernel
theorem dX6_refuse_12 : decode cX6_refuse 12 = .ok (.invokestatic 91, 3) := by decide +kernel
theorem dX6_refuse_15 : decode cX6_refuse 15 = .ok (.iconst 1, 1) := by decide +kernel
theorem dX6_refuse_16 : decode cX6_refuse 16 = .ok (.iadd, 1) := by decide +kernel
theorem dX6_refuse_17 : decode cX6_refuse 17 = .ok (.invokestatic 115, 3) := by decide +kernel
theorem dX6_refuse_20 : decode cX6_refuse 20 = .ok (.iload_n 1, 1) := by decide +kernel
theorem dX6_refuse_21 : decode cX6_refuse 21 = .ok (.ireturn, 1) := by decide +kernel
theorem dX6_refuseAmongAll_0 : decode cX6_refuseAmongAll 0 = .ok (.ldc 240, 2) := by decide +kernel
theorem dX6_refuseAmongAll_2 : decode cX6_refuseAmongAll 2 = .ok (.aload_n 0, 1) := by decide +kernel
theorem dX6_refuseAmongAll_3 : decode cX6_refuseAmongAll 3 = .ok (.iload_n 1, 1) := by decide +kernel
theorem dX6_refuseAmongAll_4 : decode cX6_refuseAmongAll 4 = .ok (.invokevirtual 65, 3) := by decide +kernel
theorem dX6_refuseAmongAll_7 : decode cX6_refuseAmongAll 7 = .ok (.isub, 1) := by decide +kernel
theorem dX6_refuseAmongAll_8 : decode cX6_refuseAmongAll 8 = .ok (.ireturn, 1) := by decide +kernel
theorem dX6_hourRefusal_0 : decode cX6_hourRefusal 0 = .ok (.iload_n 0, 1) := by decide +kernel
theorem dX6_hourRefusal_1 : decode cX6_hourRefusal 1 = .ok (.ifCond .ge 6, 3) := by decide +kernel
theorem dX6_hourRefusal_4 : decode cX6_hourRefusal 4 = .ok (.bipush (-4), 2) := by decide +kernel
theorem dX6_hourRefusal_6 : decode cX6_hourRefusal 6 = .ok (.ireturn, 1) := by decide +kernel
theorem dX6_hourRefusal_7 : decode cX6_hourRefusal 7 = .ok (.iload_n 0, 1) := by decide +kernel
theorem dX6_hourRefusal_8 : decode cX6_hourRefusal 8 = .ok (.bipush 12, 2) := by decide +kernel
theorem dX6_hourRefusal_10 : decode cX6_hourRefusal 10 = .ok (.if_icmp .lt 8, 3) := by decide +kernel
theorem dX6_hourRefusal_13 : decode cX6_hourRefusal 13 = .ok (.bipush (-6), 2) := by decide +kernel
theorem dX6_hourRefusal_15 : decode cX6_hourRefusal 15 = .ok (.goto 4, 3) := by decide +kernel
theorem dX6_hourRefusal_18 : decode cX6_hourRefusal 18 = .ok (.iconst 0, 1) := by decide +kernel
theorem dX6_hourRefusal_19 : decode cX6_hourRefusal 19 = .ok (.ireturn, 1) := by decide +kernel
theorem dX6_isCell_0 : decode cX6_isCell 0 = .ok (.iload_n 0, 1) := by decide +kernel
theorem dX6_isCell_1 : decode cX6_isCell 1 = .ok (.ifCond .lt 13, 3) := by decide +kernel
theorem dX6_isCell_4 : decode cX6_isCell 4 = .ok (.iload_n 0, 1) := by decide +kernel
theorem dX6_isCell_5 : decode cX6_isCell 5 = .ok (.bipush 40, 2) := by decide +kernel
theorem dX6_isCell_7 : decode cX6_isCell 7 = .ok (.if_icmp .ge 7, 3) := by decide +kernel
theorem dX6_isCell_10 : decode cX6_isCell 10 = .ok (.iconst 1, 1) := by decide +kernel
theorem dX6_isCell_11 : decode cX6_isCell 11 = .ok (.goto 4, 3) := by decide +kernel
theorem dX6_isCell_14 : decode cX6_isCell 14 = .ok (.iconst 0, 1) := by decide +kernel
theorem dX6_isCell_15 : decode cX6_isCell 15 = .ok (.ireturn, 1) := by decide +kernel
theorem dX6_valuesThatFitTheRow_0 : decode cX6_valuesThatFitTheRow 0 = .ok (.iconst 0, 1) := by decide +kernel
theorem dX6_valuesThatFitTheRow_1 : decode cX6_valuesThatFitTheRow 1 = .ok (.istore 4, 2) := by decide +kernel
theorem dX6_valuesThatFitTheRow_3 : decode cX6_valuesThatFitTheRow 3 = .ok (.iconst 0, 1) := by decide +kernel
theorem dX6_valuesThatFitTheRow_4 : decode cX6_valuesThatFitTheRow 4 = .ok (.istore 5, 2) := by decide +kernel
theorem dX6_valuesThatFitTheRow_6 : decode cX6_valuesThatFitTheRow 6 = .ok (.iload 5, 2) := by decide +kernel
theorem dX6_valuesThatFitTheRow_8 : decode cX6_valuesThatFitTheRow 8 = .ok (.iload_n 3, 1) := by decide +kernel
theorem dX6_valuesThatFitTheRow_9 : decode cX6_valuesThatFitTheRow 9 = .ok (.if_icmp .ge 46, 3) := by decide +kernel
theorem dX6_valuesThatFitTheRow_12 : decode cX6_valuesThatFitTheRow 12 = .ok (.aload_n 1, 1) := by decide +kernel
theorem dX6_valuesThatFitTheRow_13 : decode cX6_valuesThatFitTheRow 13 = .ok (.iload_n 2, 1) := by decide +kernel
theorem dX6_valuesThatFitTheRow_14 : decode cX6_valuesThatFitTheRow 14 = .ok (.iload 5, 2) := by decide +kernel
theorem dX6_valuesThatFitTheRow_16 : decode cX6_valuesThatFitTheRow 16 = .ok (.invokestatic 115, 3) := by decide +kernel
theorem dX6_valuesThatFitTheRow_19 : decode cX6_valuesThatFitTheRow 19 = .ok (.aload_n 0, 1) := by decide +kernel
theorem dX6_valuesThatFitTheRow_20 : decode cX6_valuesThatFitTheRow 20 = .ok (.getfield 32, 3) := by decide +kernel
theorem dX6_valuesThatFitTheRow_23 : decode cX6_valuesThatFitTheRow 23 = .ok (.aload_n 0, 1) := by decide +kernel
theorem dX6_valuesThatFitTheRow_24 : decode cX6_valuesThatFitTheRow 24 = .ok (.getfield 19, 3) := by decide +kernel
theorem dX6_valuesThatFitTheRow_27 : decode cX6_valuesThatFitTheRow 27 = .ok (.invokevirtual 126, 3) := by decide +kernel
theorem dX6_valuesThatFitTheRow_30 : decode cX6_valuesThatFitTheRow 30 = .ok (.pop, 1) := by decide +kernel
theorem dX6_valuesThatFitTheRow_31 : decode cX6_valuesThatFitTheRow 31 = .ok (.aload_n 0, 1) := by decide +kernel
theorem dX6_valuesThatFitTheRow_32 : decode cX6_valuesThatFitTheRow 32 = .ok (.invokevirtual 223, 3) := by decide +kernel
theorem dX6_valuesThatFitTheRow_35 : decode cX6_valuesThatFitTheRow 35 = .ok (.bipush (-9), 2) := by decide +kernel
theorem dX6_valuesThatFitTheRow_37 : decode cX6_valuesThatFitTheRow 37 = .ok (.if_icmp .ne 12, 3) := by decide +kernel
theorem dX6_valuesThatFitTheRow_40 : decode cX6_valuesThatFitTheRow 40 = .ok (.iload 4, 2) := by decide +kernel
theorem dX6_valuesThatFitTheRow_42 : decode cX6_valuesThatFitTheRow 42 = .ok (.iconst 1, 1) := by decide +kernel
theorem dX6_valuesThatFitTheRow_43 : decode cX6_valuesThatFitTheRow 43 = .ok (.iload 5, 2) := by decide +kernel
theorem dX6_valuesThatFitTheRow_45 : decode cX6_valuesThatFitTheRow 45 = .ok (.ishl, 1) := by decide +kernel
theorem dX6_valuesThatFitTheRow_46 : decode cX6_valuesThatFitTheRow 46 = .ok (.ior, 1) := by decide +kernel
theorem dX6_valuesThatFitTheRow_47 : decode cX6_valuesThatFitTheRow 47 = .ok (.istore 4, 2) := by decide +kernel
theorem dX6_valuesThatFitTheRow_49 : decode cX6_valuesThatFitTheRow 49 = .ok (.iinc 5 1, 3) := by decide +kernel
theorem dX6_valuesThatFitTheRow_52 : decode cX6_valuesThatFitTheRow 52 = .ok (.goto (-46), 3) := by decide +kernel
theorem dX6_valuesThatFitTheRow_55 : decode cX6_valuesThatFitTheRow 55 = .ok (.iload 4, 2) := by decide +kernel
theorem dX6_valuesThatFitTheRow_57 : decode cX6_valuesThatFitTheRow 57 = .ok (.ireturn, 1) := by decide +kernel
theorem dX6_firstNotSo_0 : decode cX6_firstNotSo 0 = .ok (.iconst 0, 1) := by decide +kernel
theorem dX6_firstNotSo_1 : decode cX6_firstNotSo 1 = .ok (.istore_n 1, 1) := by decide +kernel
theorem dX6_firstNotSo_2 : decode cX6_firstNotSo 2 = .ok (.iload_n 1, 1) := by decide +kernel
theorem dX6_firstNotSo_3 : decode cX6_firstNotSo 3 = .ok (.aload_n 0, 1) := by decide +kernel
theorem dX6_firstNotSo_4 : decode cX6_firstNotSo 4 = .ok (.getfield 57, 3) := by decide +kernel
theorem dX6_firstNotSo_7 : decode cX6_firstNotSo 7 = .ok (.if_icmp .ge 39, 3) := by decide +kernel
theorem dX6_firstNotSo_10 : decode cX6_firstNotSo 10 = .ok (.iload_n 1, 1) := by decide +kernel
theorem dX6_firstNotSo_11 : decode cX6_firstNotSo 11 = .ok (.bipush 12, 2) := by decide +kernel
theorem dX6_firstNotSo_13 : decode cX6_firstNotSo 13 = .ok (.if_icmp .ge 25, 3) := by decide +kernel
theorem dX6_firstNotSo_16 : decode cX6_firstNotSo 16 = .ok (.aload_n 0, 1) := by decide +kernel
theorem dX6_firstNotSo_17 : decode cX6_firstNotSo 17 = .ok (.getfield 50, 3) := by decide +kernel
theorem dX6_firstNotSo_20 : decode cX6_firstNotSo 20 = .ok (.iload_n 1, 1) := by decide +kernel
theorem dX6_firstNotSo_21 : decode cX6_firstNotSo 21 = .ok (.invokestatic 91, 3) := by decide +kernel
theorem dX6_firstNotSo_24 : decode cX6_firstNotSo 24 = .ok (.aload_n 0, 1) := by decide +kernel
theorem dX6_firstNotSo_25 : decode cX6_firstNotSo 25 = .ok (.getfield 32, 3) := by decide +kernel
theorem dX6_firstNotSo_28 : decode cX6_firstNotSo 28 = .ok (.getfield 169, 3) := by decide +kernel
theorem dX6_firstNotSo_31 : decode cX6_firstNotSo 31 = .ok (.iload_n 1, 1) := by decide +kernel
theorem dX6_firstNotSo_32 : decode cX6_firstNotSo 32 = .ok (.invokestatic 91, 3) := by decide +kernel
theorem dX6_firstNotSo_35 : decode cX6_firstNotSo 35 = .ok (.if_icmp .eq 5, 3) := by decide +kernel
theorem dX6_firstNotSo_38 : decode cX6_firstNotSo 38 = .ok (.iload_n 1, 1) := by decide +kernel
theorem dX6_firstNotSo_39 : decode cX6_firstNotSo 39 = .ok (.ireturn, 1) := by decide +kernel
theorem dX6_firstNotSo_40 : decode cX6_firstNotSo 40 = .ok (.iinc 1 1, 3) := by decide +kernel
theorem dX6_firstNotSo_43 : decode cX6_firstNotSo 43 = .ok (.goto (-41), 3) := by decide +kernel
theorem dX6_firstNotSo_46 : decode cX6_firstNotSo 46 = .ok (.bipush (-9), 2) := by decide +kernel
theorem dX6_firstNotSo_48 : decode cX6_firstNotSo 48 = .ok (.ireturn, 1) := by decide +kernel
theorem dX7_init_0 : decode cX7_init 0 = .ok (.aload_n 0, 1) := by decide +kernel
theorem dX7_init_1 : decode cX7_init 1 = .ok (.invokespecial 1, 3) := by decide +kernel
theorem dX7_init_4 : decode cX7_init 4 = .ok (.aload_n 0, 1) := by decide +kernel
theorem dX7_init_5 : decode cX7_init 5 = .ok (.bipush 7, 2) := by decide +kernel
theorem dX7_init_7 : decode cX7_init 7 = .ok (.newarray .int, 2) := by decide +kernel
theorem dX7_init_9 : decode cX7_init 9 = .ok (.putfield 7, 3) := by decide +kernel
theorem dX7_init_12 : decode cX7_init 12 = .ok (.aload_n 0, 1) := by decide +kernel
theorem dX7_init_13 : decode cX7_init 13 = .ok (.bipush 7, 2) := by decide +kernel
theorem dX7_init_15 : decode cX7_init 15 = .ok (.newarray .int, 2) := by decide +kernel
theorem dX7_init_17 : decode cX7_init 17 = .ok (.putfield 13, 3) := by decide +kernel
theorem dX7_init_20 : decode cX7_init 20 = .ok (.aload_n 0, 1) := by decide +kernel
theorem dX7_init_21 : decode cX7_init 21 = .ok (.bipush 7, 2) := by decide +kernel
theorem dX7_init_23 : decode cX7_init 23 = .ok (.newarray .int, 2) := by decide +kernel
theorem dX7_init_25 : decode cX7_init 25 = .ok (.putfield 16, 3) := by decide +kernel
theorem dX7_init_28 : decode cX7_init 28 = .ok (.aload_n 0, 1) := by decide +kernel
theorem dX7_init_29 : decode cX7_init 29 = .ok (.bipush 7, 2) := by decide +kernel
theorem dX7_init_31 : decode cX7_init 31 = .ok (.newarray .int, 2) := by decide +kernel
theorem dX7_init_33 : decode cX7_init 33 = .ok (.putfield 19, 3) := by decide +kernel
theorem dX7_init_36 : decode cX7_init 36 = .ok (.aload_n 0, 1) := by decide +kernel
theorem dX7_init_37 : decode cX7_init 37 = .ok (.bipush 7, 2) := by decide +kernel
theorem dX7_init_39 : decode cX7_init 39 = .ok (.newarray .int, 2) := by decide +kernel
theorem dX7_init_41 : decode cX7_init 41 = .ok (.putfield 22, 3) := by decide +kernel
theorem dX7_init_44 : decode cX7_init 44 = .ok (.aload_n 0, 1) := by decide +kernel
theorem dX7_init_45 : decode cX7_init 45 = .ok (.iconst 3, 1) := by decide +kernel
theorem dX7_init_46 : decode cX7_init 46 = .ok (.newarray .int, 2) := by decide +kernel
theorem dX7_init_48 : decode cX7_init 48 = .ok (.putfield 25, 3) := by decide +kernel
theorem dX7_init_51 : decode cX7_init 51 = .ok (.aload_n 0, 1) := by decide +kernel
theorem dX7_init_52 : decode cX7_init 52 = .ok (.bipush 96, 2) := by decide +kernel
theorem dX7_init_54 : decode cX7_init 54 = .ok (.newarray .int, 2) := by decide +kernel
theorem dX7_init_56 : decode cX7_init 56 = .ok (.putfield 28, 3) := by decide +kernel
theorem dX7_init_59 : decode cX7_init 59 = .ok (.aload_n 0, 1) := by decide +kernel
theorem dX7_init_60 : decode cX7_init 60 = .ok (.bipush 8, 2) := by decide +kernel
theorem dX7_init_62 : decode cX7_init 62 = .ok (.newarray .int, 2) := by decide +kernel
theorem dX7_init_64 : decode cX7_init 64 = .ok (.putfield 31, 3) := by decide +kernel
theorem dX7_init_67 : decode cX7_init 67 = .ok (.aload_n 0, 1) := by decide +kernel
theorem dX7_init_68 : decode cX7_init 68 = .ok (.bipush 12, 2) := by decide +kernel
theorem dX7_init_70 : decode cX7_init 70 = .ok (.newarray .int, 2) := by decide +kernel
theorem dX7_init_72 : decode cX7_init 72 = .ok (.putfield 34, 3) := by decide +kernel
theorem dX7_init_75 : decode cX7_init 75 = .ok (.aload_n 0, 1) := by decide +kernel
theorem dX7_init_76 : decode cX7_init 76 = .ok (.bipush 7, 2) := by decide +kernel
theorem dX7_init_78 : decode cX7_init 78 = .ok (.newarray .int, 2) := by decide +kernel
theorem dX7_init_80 : decode cX7_init 80 = .ok (.putfield 37, 3) := by decide +kernel
theorem dX7_init_83 : decode cX7_init 83 = .ok (.aload_n 0, 1) := by decide +kernel
theorem dX7_init_84 : decode cX7_init 84 = .ok (.bipush 39, 2) := by decide +kernel
theorem dX7_init_86 : decode cX7_init 86 = .ok (.newarray .int, 2) := by decide +kernel
theorem dX7_init_88 : decode cX7_init 88 = .ok (.putfield 40, 3) := by decide +kernel
theorem dX7_init_91 : decode cX7_init 91 = .ok (.aload_n 0, 1) := by decide +kernel
theorem dX7_init_92 : decode cX7_init 92 = .ok (.bipush 39, 2) := by decide +kernel
theorem dX7_init_94 : decode cX7_init 94 = .ok (.newarray .int, 2) := by decide +kernel
theorem dX7_init_96 : decode cX7_init 96 = .ok (.putfield 43, 3) := by decide +kernel
theorem dX7_init_99 : decode cX7_init 99 = .ok (.aload_n 0, 1) := by decide +kernel
theorem dX7_init_100 : decode cX7_init 100 = .ok (.bipush 7, 2) := by decide +kernel
theorem dX7_init_102 : decode cX7_init 102 = .ok (.newarray .int, 2) := by decide +kernel
theorem dX7_init_104 : decode cX7_init 104 = .ok (.putfield 46, 3) := by decide +kernel
theorem dX7_init_107 : decode cX7_init 107 = .ok (.aload_n 0, 1) := by decide +kernel
theorem dX7_init_108 : decode cX7_init 108 = .ok (.iconst 2, 1) := by decide +kernel
theorem dX7_init_109 : decode cX7_init 109 = .ok (.newarray .int, 2) := by decide +kernel
theorem dX7_init_111 : decode cX7_init 111 = .ok (.putfield 49, 3) := by decide +kernel
theorem dX7_init_114 : decode cX7_init 114 = .ok (.aload_n 0, 1) := by decide +kernel
theorem dX7_init_115 : decode cX7_init 115 = .ok (.iconst 2, 1) := by decide +kernel
theorem dX7_init_116 : decode cX7_init 116 = .ok (.newarray .int, 2) := by decide +kernel
theorem dX7_init_118 : decode cX7_init 118 = .ok (.putfield 52, 3) := by decide +kernel
theorem dX7_init_121 : decode cX7_init 121 = .ok (.aload_n 0, 1) := by decide +kernel
theorem dX7_init_122 : decode cX7_init 122 = .ok (.bipush 7, 2) := by decide +kernel
theorem dX7_init_124 : decode cX7_init 124 = .ok (.newarray .int, 2) := by decide +kernel
theorem dX7_init_126 : decode cX7_init 126 = .ok (.putfield 55, 3) := by decide +kernel
theorem dX7_init_129 : decode cX7_init 129 = .ok (.aload_n 0, 1) := by decide +kernel
theorem dX7_init_130 : decode cX7_init 130 = .ok (.bipush 7, 2) := by decide +kernel
theorem dX7_init_132 : decode cX7_init 132 = .ok (.newarray .int, 2) := by decide +kernel
theorem dX7_init_134 : decode cX7_init 134 = .ok (.putfield 58, 3) := by decide +kernel
theorem dX7_init_137 : decode cX7_init 137 = .ok (.aload_n 0, 1) := by decide +kernel
theorem dX7_init_138 : decode cX7_init 138 = .ok (.bipush 7, 2) := by decide +kernel
theorem dX7_init_140 : decode cX7_init 140 = .ok (.newarray .int, 2) := by decide +kernel
theorem dX7_init_142 : decode cX7_init 142 = .ok (.putfield 61, 3) := by decide +kernel
theorem dX7_init_145 : decode cX7_init 145 = .ok (.aload_n 0, 1) := by decide +kernel
theorem dX7_init_146 : decode cX7_init 146 = .ok (.bipush 7, 2) := by decide +kernel
theorem dX7_init_148 : decode cX7_init 148 = .ok (.newarray .int, 2) := by decide +kernel
theorem dX7_init_150 : decode cX7_init 150 = .ok (.putfield 64, 3) := by decide +kernel
theorem dX7_init_153 : decode cX7_init 153 = .ok (.aload_n 0, 1) := by decide +kernel
theorem dX7_init_154 : decode cX7_init 154 = .ok (.bipush 12, 2) := by decide +kernel
theorem dX7_init_156 : decode cX7_init 156 = .ok (.newarray .int, 2) := by decide +kernel
theorem dX7_init_158 : decode cX7_init 158 = .ok (.putfield 67, 3) := by decide +kernel
theorem dX7_init_161 : decode cX7_init 161 = .ok (.aload_n 0, 1) := by decide +kernel
theorem dX7_init_162 : decode cX7_init 162 = .ok (.bipush 7, 2) := by decide +kernel
theorem dX7_init_164 : decode cX7_init 164 = .ok (.newarray .int, 2) := by decide +kernel
theorem dX7_init_166 : decode cX7_init 166 = .ok (.putfield 70, 3) := by decide +kernel
theorem dX7_init_169 : decode cX7_init 169 = .ok (.aload_n 0, 1) := by decide +kernel
theorem dX7_init_170 : decode cX7_init 170 = .ok (.bipush 7, 2) := by decide +kernel
theorem dX7_init_172 : decode cX7_init 172 = .ok (.newarray .int, 2) := by decide +kernel
theorem dX7_init_174 : decode cX7_init 174 = .ok (.putfield 73, 3) := by decide +kernel
theorem dX7_init_177 : decode cX7_init 177 = .ok (.aload_n 0, 1) := by decide +kernel
theorem dX7_init_178 : decode cX7_init 178 = .ok (.sipush 128, 3) := by decide +kernel
theorem dX7_init_181 : decode cX7_init 181 = .ok (.newarray .int, 2) := by decide +kernel
theorem dX7_init_183 : decode cX7_init 183 = .ok (.putfield 76, 3) := by decide +kernel
theorem dX7_init_186 : decode cX7_init 186 = .ok (.aload_n 0, 1) := by decide +kernel
theorem dX7_init_187 : decode cX7_init 187 = .ok (.getfield 25, 3) := by decide +kernel
theorem dX7_init_190 : decode cX7_init 190 = .ok (.iconst 0, 1) := by decide +kernel
theorem dX7_init_191 : decode cX7_init 191 = .ok (.bipush 20, 2) := by decide +kernel
theorem dX7_init_193 : decode cX7_init 193 = .ok (.iastore, 1) := by decide +kernel
theorem dX7_init_194 : decode cX7_init 194 = .ok (.aload_n 0, 1) := by decide +kernel
theorem dX7_init_195 : decode cX7_init 195 = .ok (.getfield 25, 3) := by decide +kernel
theorem dX7_init_198 : decode cX7_init 198 = .ok (.iconst 1, 1) := by decide +kernel
theorem dX7_init_199 : decode cX7_init 199 = .ok (.bipush 100, 2) := by decide +kernel
theorem dX7_init_201 : decode cX7_init 201 = .ok (.iastore, 1) := by decide +kernel
theorem dX7_init_202 : decode cX7_init 202 = .ok (.aload_n 0, 1) := by decide +kernel
theorem dX7_init_203 : decode cX7_init 203 = .ok (.getfield 25, 3) := by decide +kernel
theorem dX7_init_206 : decode cX7_init 206 = .ok (.iconst 2, 1) := by decide +kernel
theorem dX7_init_207 : decode cX7_init 207 = .ok (.iconst 3, 1) := by decide +kernel
theorem dX7_init_208 : decode cX7_init 208 = .ok (.iastore, 1) := by decide +kernel
theorem dX7_init_209 : decode cX7_init 209 = .ok (.return_, 1) := by decide +kernel
theorem dX7_no_0 : decode cX7_no 0 = .ok (.aload_n 0, 1) := by decide +kernel
theorem dX7_no_1 : decode cX7_no 1 = .ok (.getfield 37, 3) := by decide +kernel
theorem dX7_no_4 : decode cX7_no 4 = .ok (.iload_n 1, 1) := by decide +kernel
theorem dX7_no_5 : decode cX7_no 5 = .ok (.ineg, 1) := by decide +kernel
theorem dX7_no_6 : decode cX7_no 6 = .ok (.dup2, 1) := by decide +kernel
theorem dX7_no_7 : decode cX7_no 7 = .ok (.iaload, 1) := by decide +kernel
theorem dX7_no_8 : decode cX7_no 8 = .ok (.iconst 1, 1) := by decide +kernel
theorem dX7_no_9 : decode cX7_no 9 = .ok (.iadd, 1) := by decide +kernel
theorem dX7_no_10 : decode cX7_no 10 = .ok (.iastore, 1) := by decide +kernel
theorem dX7_no_11 : decode cX7_no 11 = .ok (.iload_n 1, 1) := by decide +kernel
theorem dX7_no_12 : decode cX7_no 12 = .ok (.ireturn, 1) := by decide +kernel
theorem dX7_noMuch_0 : decode cX7_noMuch 0 = .ok (.ldc 79, 2) := by decide +kernel
theorem dX7_noMuch_2 : decode cX7_noMuch 2 = .ok (.aload_n 0, 1) := by decide +kernel
theorem dX7_noMuch_3 : decode cX7_noMuch 3 = .ok (.iload_n 1, 1) := by decide +kernel
theorem dX7_noMuch_4 : decode cX7_noMuch 4 = .ok (.invokevirtual 80, 3) := by decide +kernel
theorem dX7_noMuch_7 : decode cX7_noMuch 7 = .ok (.isub, 1) := by decide +kernel
theorem dX7_noMuch_8 : decode cX7_noMuch 8 = .ok (.ireturn, 1) := by decide +kernel
theorem dX7_within_0 : decode cX7_within 0 = .ok (.iload_n 0, 1) := by decide +kernel
theorem dX7_within_1 : decode cX7_within 1 = .ok (.iload_n 1, 1) := by decide +kernel
theorem dX7_within_2 : decode cX7_within 2 = .ok (.if_icmp .lt 12, 3) := by decide +kernel
theorem dX7_within_5 : decode cX7_within 5 = .ok (.iload_n 0, 1) := by decide +kernel
theorem dX7_within_6 : decode cX7_within 6 = .ok (.iload_n 2, 1) := by decide +kernel
theorem dX7_within_7 : decode cX7_within 7 = .ok (.if_icmp .gt 7, 3) := by decide +kernel
theorem dX7_within_10 : decode cX7_within 10 = .ok (.iconst 1, 1) := by decide +kernel
theorem dX7_within_11 : decode cX7_within 11 = .ok (.goto 4, 3) := by decide +kernel
theorem dX7_within_14 : decode cX7_within 14 = .ok (.iconst 0, 1) := by decide +kernel
theorem dX7_within_15 : decode cX7_within 15 = .ok (.ireturn, 1) := by decide +kernel
theorem dX7_isGoer_0 : decode cX7_isGoer 0 = .ok (.iload_n 1, 1) := by decide +kernel
theorem dX7_isGoer_1 : decode cX7_isGoer 1 = .ok (.iconst 0, 1) := by decide +kernel
theorem dX7_isGoer_2 : decode cX7_isGoer 2 = .ok (.aload_n 0, 1) := by decide +kernel
theorem dX7_isGoer_3 : decode cX7_isGoer 3 = .ok (.getfield 84, 3) := by decide +kernel
theorem dX7_isGoer_6 : decode cX7_isGoer 6 = .ok (.iconst 1, 1) := by decide +kernel
theorem dX7_isGoer_7 : decode cX7_isGoer 7 = .ok (.isub, 1) := by decide +kernel
theorem dX7_isGoer_8 : decode cX7_isGoer 8 = .ok (.invokestatic 88, 3) := by decide +kernel
theorem dX7_isGoer_11 : decode cX7_isGoer 11 = .ok (.ireturn, 1) := by decide +kernel
theorem dX7_isCell_0 : decode cX7_isCell 0 = .ok (.iload_n 0, 1) := by decide +kernel
theorem dX7_isCell_1 : decode cX7_isCell 1 = .ok (.iconst 0, 1) := by decide +kernel
theorem dX7_isCell_2 : decode cX7_isCell 2 = .ok (.bipush 39, 2) := by decide +kernel
theorem dX7_isCell_4 : decode cX7_isCell 4 = .ok (.invokestatic 88, 3) := by decide +kernel
theorem dX7_isCell_7 : decode cX7_isCell 7 = .ok (.ireturn, 1) := by decide +kernel
theorem dX7_isHour_0 : decode cX7_isHour 0 = .ok (.iload_n 0, 1) := by decide +kernel
theorem dX7_isHour_1 : decode cX7_isHour 1 = .ok (.iconst 0, 1) := by decide +kernel
theorem dX7_isHour_2 : decode cX7_isHour 2 = .ok (.bipush 11, 2) := by decide +kernel
theorem dX7_isHour_4 : decode cX7_isHour 4 = .ok (.invokestatic 88, 3) := by decide +kernel
theorem dX7_isHour_7 : decode cX7_isHour 7 = .ok (.ireturn, 1) := by decide +kernel
theorem dX7_mostOf_0 : decode cX7_mostOf 0 = .ok (.iload_n 0, 1) := by decide +kernel
theorem dX7_mostOf_1 : decode cX7_mostOf 1 = .ok (.ifCond .ne 8, 3) := by decide +kernel
theorem dX7_mostOf_4 : decode cX7_mostOf 4 = .ok (.bipush 39, 2) := by decide +kernel
theorem dX7_mostOf_6 : decode cX7_mostOf 6 = .ok (.goto 16, 3) := by decide +kernel
theorem dX7_mostOf_9 : decode cX7_mostOf 9 = .ok (.iload_n 0, 1) := by decide +kernel
theorem dX7_mostOf_10 : decode cX7_mostOf 10 = .ok (.iconst 1, 1) := by decide +kernel
theorem dX7_mostOf_11 : decode cX7_mostOf 11 = .ok (.if_icmp .ne 9, 3) := by decide +kernel
theorem dX7_mostOf_14 : decode cX7_mostOf 14 = .ok (.sipush 200, 3) := by decide +kernel
theorem dX7_mostOf_17 : decode cX7_mostOf 17 = .ok (.goto 5, 3) := by decide +kernel
theorem dX7_mostOf_20 : decode cX7_mostOf 20 = .ok (.bipush 9, 2) := by decide +kernel
theorem dX7_mostOf_22 : decode cX7_mostOf 22 = .ok (.ireturn, 1) := by decide +kernel
theorem dX7_letter_0 : decode cX7_letter 0 = .ok (.iload_n 1, 1) := by decide +kernel
theorem dX7_letter_1 : decode cX7_letter 1 = .ok (.ifCond .ge 10, 3) := by decide +kernel
theorem dX7_letter_4 : decode cX7_letter 4 = .ok (.aload_n 0, 1) := by decide +kernel
theorem dX7_letter_5 : decode cX7_letter 5 = .ok (.bipush (-4), 2) := by decide +kernel
theorem dX7_letter_7 : decode cX7_letter 7 = .ok (.invokevirtual 80, 3) := by decide +kernel
theorem dX7_letter_10 : decode cX7_letter 10 = .ok (.ireturn, 1) := by decide +kernel
theorem dX7_letter_11 : decode cX7_letter 11 = .ok (.iload_n 1, 1) := by decide +kernel
theorem dX7_letter_12 : decode cX7_letter 12 = .ok (.sipush 255, 3) := by decide +kernel
theorem dX7_letter_15 : decode cX7_letter 15 = .ok (.if_icmp .gt 12, 3) := by decide +kernel
theorem dX7_letter_18 : decode cX7_letter 18 = .ok (.aload_n 0, 1) := by decide +kernel
theorem dX7_letter_19 : decode cX7_letter 19 = .ok (.getfield 92, 3) := by decide +kernel
theorem dX7_letter_22 : decode cX7_letter 22 = .ok (.bipush 96, 2) := by decide +kernel
theorem dX7_letter_24 : decode cX7_letter 24 = .ok (.if_icmp .ne 10, 3) := by decide +kernel
theorem dX7_letter_27 : decode cX7_letter 27 = .ok (.aload_n 0, 1) := by decide +kernel
theorem dX7_letter_28 : decode cX7_letter 28 = .ok (.bipush (-6), 2) := by decide +kernel
theorem dX7_letter_30 : decode cX7_letter 30 = .ok (.invokevirtual 80, 3) := by decide +kernel
theorem dX7_letter_33 : decode cX7_letter 33 = .ok (.ireturn, 1) := by decide +kernel
theorem dX7_letter_34 : decode cX7_letter 34 = .ok (.aload_n 0, 1) := by decide +kernel
theorem dX7_letter_35 : decode cX7_letter 35 = .ok (.getfield 28, 3) := by decide +kernel
theorem dX7_letter_38 : decode cX7_letter 38 = .ok (.aload_n 0, 1) := by decide +kernel
theorem dX7_letter_39 : decode cX7_letter 39 = .ok (.dup, 1) := by decide +kernel
theorem dX7_letter_40 : decode cX7_letter 40 = .ok (.getfield 92, 3) := by decide +kernel
theorem dX7_letter_43 : decode cX7_letter 43 = .ok (.dup_x1, 1) := by decide +kernel
theorem dX7_letter_44 : decode cX7_letter 44 = .ok (.iconst 1, 1) := by decide +kernel
theorem dX7_letter_45 : decode cX7_letter 45 = .ok (.iadd, 1) := by decide +kernel
theorem dX7_letter_46 : decode cX7_letter 46 = .ok (.putfield 92, 3) := by decide +kernel
theorem dX7_letter_49 : decode cX7_letter 49 = .ok (.iload_n 1, 1) := by decide +kernel
theorem dX7_letter_50 : decode cX7_letter 50 = .ok (.iastore, 1) := by decide +kernel
theorem dX7_letter_51 : decode cX7_letter 51 = .ok (.aload_n 0, 1) := by decide +kernel
theorem dX7_letter_52 : decode cX7_letter 52 = .ok (.getfield 92, 3) := by decide +kernel
theorem dX7_letter_55 : decode cX7_letter 55 = .ok (.ireturn, 1) := by decide +kernel
theorem dX7_is_0 : decode cX7_is 0 = .ok (.aload_n 0, 1) := by decide +kernel
theorem dX7_is_1 : decode cX7_is 1 = .ok (.getfield 95, 3) := by decide +kernel
theorem dX7_is_4 : decode cX7_is 4 = .ok (.aload_n 0, 1) := by decide +kernel
theorem dX7_is_5 : decode cX7_is 5 = .ok (.getfield 92, 3) := by decide +kernel
theorem dX7_is_8 : decode cX7_is 8 = .ok (.if_icmp .eq 16, 3) := by decide +kernel
theorem dX7_is_11 : decode cX7_is 11 = .ok (.aload_n 0, 1) := by decide +kernel
theorem dX7_is_12 : decode cX7_is 12 = .ok (.getfield 28, 3) := by decide +kernel
theorem dX7_is_15 : decode cX7_is 15 = .ok (.aload_n 0, 1) := by decide +kernel
theorem dX7_is_16 : decode cX7_is 16 = .ok (.getfield 95, 3) := by decide +kernel
theorem dX7_is_19 : decode cX7_is 19 = .ok (.iaload, 1) := by decide +kernel
theorem dX7_is_20 : decode cX7_is 20 = .ok (.iload_n 1, 1) := by decide +kernel
theorem dX7_is_21 : decode cX7_is 21 = .ok (.if_icmp .eq 5, 3) := by decide +kernel
theorem dX7_is_24 : decode cX7_is 24 = .ok (.iconst 0, 1) := by decide +kernel
theorem dX7_is_25 : decode cX7_is 25 = .ok (.ireturn, 1) := by decide +kernel
theorem dX7_is_26 : decode cX7_is 26 = .ok (.aload_n 0, 1) := by decide +kernel
theorem dX7_is_27 : decode cX7_is 27 = .ok (.dup, 1) := by decide +kernel
theorem dX7_is_28 : decode cX7_is 28 = .ok (.getfield 95, 3) := by decide +kernel
theorem dX7_is_31 : decode cX7_is 31 = .ok (.iconst 1, 1) := by decide +kernel
theorem dX7_is_32 : decode cX7_is 32 = .ok (.iadd, 1) := by decide +kernel
theorem dX7_is_33 : decode cX7_is 33 = .ok (.putfield 95, 3) := by decide +kernel
theorem dX7_is_36 : decode cX7_is 36 = .ok (.iconst 1, 1) := by decide +kernel
theorem dX7_is_37 : decode cX7_is 37 = .ok (.ireturn, 1) := by decide +kernel
theorem dX7_digits_0 : decode cX7_digits 0 = .ok (.iconst 0, 1) := by decide +kernel
theorem dX7_digits_1 : decode cX7_digits 1 = .ok (.istore_n 2, 1) := by decide +kernel
theorem dX7_digits_2 : decode cX7_digits 2 = .ok (.iload_n 2, 1) := by decide +kernel
theorem dX7_digits_3 : decode cX7_digits 3 = .ok (.iload_n 1, 1) := by decide +kernel
theorem dX7_digits_4 : decode cX7_digits 4 = .ok (.if_icmp .ge 75, 3) := by decide +kernel
theorem dX7_digits_7 : decode cX7_digits 7 = .ok (.aload_n 0, 1) := by decide +kernel
theorem dX7_digits_8 : decode cX7_digits 8 = .ok (.getfield 95, 3) := by decide +kernel
theorem dX7_digits_11 : decode cX7_digits 11 = .ok (.aload_n 0, 1) := by decide +kernel
theorem dX7_digits_12 : decode cX7_digits 12 = .ok (.getfield 92, 3) := by decide +kernel
theorem dX7_digits_15 : decode cX7_digits 15 = .ok (.if_icmp .eq 31, 3) := by decide +kernel
theorem dX7_digits_18 : decode cX7_digits 18 = .ok (.aload_n 0, 1) := by decide +kernel
theorem dX7_digits_19 : decode cX7_digits 19 = .ok (.getfield 28, 3) := by decide +kernel
theorem dX7_digits_22 : decode cX7_digits 22 = .ok (.aload_n 0, 1) := by decide +kernel
theorem dX7_digits_23 : decode cX7_digits 23 = .ok (.getfield 95, 3) := by decide +kernel
theorem dX7_digits_26 : decode cX7_digits 26 = .ok (.iaload, 1) := by decide +kernel
theorem dX7_digits_27 : decode cX7_digits 27 = .ok (.bipush 48, 2) := by decide +kernel
theorem dX7_digits_29 : decode cX7_digits 29 = .ok (.if_icmp .lt 17, 3) := by decide +kernel
theorem dX7_digits_32 : decode cX7_digits 32 = .ok (.aload_n 0, 1) := by decide +kernel
theorem dX7_digits_33 : decode cX7_digits 33 = .ok (.getfield 28, 3) := by decide +kernel
theorem dX7_digits_36 : decode cX7_digits 36 = .ok (.aload_n 0, 1) := by decide +kernel
theorem dX7_digits_37 : decode cX7_digits 37 = .ok (.getfield 95, 3) := by decide +kernel
theorem dX7_digits_40 : decode cX7_digits 40 = .ok (.iaload, 1) := by decide +kernel
theorem dX7_digits_41 : decode cX7_digits 41 = .ok (.bipush 57, 2) := by decide +kernel
theorem dX7_digits_43 : decode cX7_digits 43 = .ok (.if_icmp .le 5, 3) := by decide +kernel
theorem dX7_digits_46 : decode cX7_digits 46 = .ok (.iconst 0, 1) := by decide +kernel
theorem dX7_digits_47 : decode cX7_digits 47 = .ok (.ireturn, 1) := by decide +kernel
theorem dX7_digits_48 : decode cX7_digits 48 = .ok (.aload_n 0, 1) := by decide +kernel
theorem dX7_digits_49 : decode cX7_digits 49 = .ok (.getfield 31, 3) := by decide +kernel
theorem dX7_digits_52 : decode cX7_digits 52 = .ok (.iload_n 2, 1) := by decide +kernel
theorem dX7_digits_53 : decode cX7_digits 53 = .ok (.aload_n 0, 1) := by decide +kernel
theorem dX7_digits_54 : decode cX7_digits 54 = .ok (.getfield 28, 3) := by decide +kernel
theorem dX7_digits_57 : decode cX7_digits 57 = .ok (.aload_n 0, 1) := by decide +kernel
theorem dX7_digits_58 : decode cX7_digits 58 = .ok (.dup, 1) := by decide +kernel
theorem dX7_digits_59 : decode cX7_digits 59 = .ok (.getfield 95, 3) := by decide +kernel
theorem dX7_digits_62 : decode cX7_digits 62 = .ok (.dup_x1, 1) := by decide +kernel
theorem dX7_digits_63 : decode cX7_digits 63 = .ok (.iconst 1, 1) := by decide +kernel
theorem dX7_digits_64 : decode cX7_digits 64 = .ok (.iadd, 1) := by decide +kernel
theorem dX7_digits_65 : decode cX7_digits 65 = .ok (.putfield 95, 3) := by decide +kernel
theorem dX7_digits_68 : decode cX7_digits 68 = .ok (.iaload, 1) := by decide +kernel
theorem dX7_digits_69 : decode cX7_digits 69 = .ok (.bipush 48, 2) := by decide +kernel
theorem dX7_digits_71 : decode cX7_digits 71 = .ok (.isub, 1) := by decide +kernel
theorem dX7_digits_72 : decode cX7_digits 72 = .ok (.iastore, 1) := by decide +kernel
theorem dX7_digits_73 : decode cX7_digits 73 = .ok (.iinc 2 1, 3) := by decide +kernel
theorem dX7_digits_76 : decode cX7_digits 76 = .ok (.goto (-74), 3) := by decide +kernel
theorem dX7_digits_79 : decode cX7_digits 79 = .ok (.iconst 1, 1) := by decide +kernel
theorem dX7_digits_80 : decode cX7_digits 80 = .ok (.ireturn, 1) := by decide +kernel
theorem dX7_two_0 : decode cX7_two 0 = .ok (.bipush 10, 2) := by decide +kernel
theorem dX7_two_2 : decode cX7_two 2 = .ok (.aload_n 0, 1) := by decide +kernel
theorem dX7_two_3 : decode cX7_two 3 = .ok (.getfield 31, 3) := by decide +kernel
theorem dX7_two_6 : decode cX7_two 6 = .ok (.iload_n 1, 1) := by decide +kernel
theorem dX7_two_7 : decode cX7_two 7 = .ok (.iaload, 1) := by decide +kernel
theorem dX7_two_8 : decode cX7_two 8 = .ok (.imul, 1) := by decide +kernel
theorem dX7_two_9 : decode cX7_two 9 = .ok (.aload_n 0, 1) := by decide +kernel
theorem dX7_two_10 : decode cX7_two 10 = .ok (.getfield 31, 3) := by decide +kernel
theorem dX7_two_13 : decode cX7_two 13 = .ok (.iload_n 1, 1) := by decide +kernel
theorem dX7_two_14 : decode cX7_two 14 = .ok (.iconst 1, 1) := by decide +kernel
theorem dX7_two_15 : decode cX7_two 15 = .ok (.iadd, 1) := by decide +kernel
theorem dX7_two_16 : decode cX7_two 16 = .ok (.iaload, 1) := by decide +kernel
theorem dX7_two_17 : decode cX7_two 17 = .ok (.iadd, 1) := by decide +kernel
theorem dX7_two_18 : decode cX7_two 18 = .ok (.ireturn, 1) := by decide +kernel
theorem dX7_statement_0 : decode cX7_statement 0 = .ok (.aload_n 0, 1) := by decide +kernel
theorem dX7_statement_1 : decode cX7_statement 1 = .ok (.bipush 103, 2) := by decide +kernel
theorem dX7_statement_3 : decode cX7_statement 3 = .ok (.invokevirtual 98, 3) := by decide +kernel
theorem dX7_statement_6 : decode cX7_statement 6 = .ok (.ifCond .eq 201, 3) := by decide +kernel
theorem dX7_statement_9 : decode cX7_statement 9 = .ok (.aload_n 0, 1) := by decide +kernel
theorem dX7_statement_10 : decode cX7_statement 10 = .ok (.getfield 95, 3) := by decide +kernel
theorem dX7_statement_13 : decode cX7_statement 13 = .ok (.aload_n 0, 1) := by decide +kernel
theorem dX7_statement_14 : decode cX7_statement 14 = .ok (.getfield 92, 3) := by decide +kernel
theorem dX7_statement_17 : decode cX7_statement 17 = .ok (.if_icmp .ge 32, 3) := by decide +kernel
theorem dX7_statement_20 : decode cX7_statement 20 = .ok (.aload_n 0, 1) := by decide +kernel
theorem dX7_statement_21 : decode cX7_statement 21 = .ok (.getfield 28, 3) := by decide +kernel
theorem dX7_statement_24 : decode cX7_statement 24 = .ok (.aload_n 0, 1) := by decide +kernel
theorem dX7_statement_25 : decode cX7_statement 25 = .ok (.getfield 95, 3) := by decide +kernel
theorem dX7_statement_28 : decode cX7_statement 28 = .ok (.iaload, 1) := by decide +kernel
theorem dX7_statement_29 : decode cX7_statement 29 = .ok (.ifCond .le 20, 3) := by decide +kernel
theorem dX7_statement_32 : decode cX7_statement 32 = .ok (.ldc 102, 2) := by decide +kernel
theorem dX7_statement_34 : decode cX7_statement 34 = .ok (.aload_n 0, 1) := by decide +kernel
theorem dX7_statement_35 : decode cX7_statement 35 = .ok (.getfield 28, 3) := by decide +kernel
theorem dX7_statement_38 : decode cX7_statement 38 = .ok (.aload_n 0, 1) := by decide +kernel
theorem dX7_statement_39 : decode cX7_statement 39 = .ok (.getfield 95, 3) := by decide +kernel
theorem dX7_statement_42 : decode cX7_statement 42 = .ok (.iaload, 1) := by decide +kernel
theorem dX7_statement_43 : decode cX7_statement 43 = .ok (.invokevirtual 104, 3) := by decide +kernel
theorem dX7_statement_46 : decode cX7_statement 46 = .ok (.goto 4, 3) := by decide +kernel
theorem dX7_statement_49 : decode cX7_statement 49 = .ok (.iconst (-1), 1) := by decide +kernel
theorem dX7_statement_50 : decode cX7_statement 50 = .ok (.istore_n 2, 1) := by decide +kernel
theorem dX7_statement_51 : decode cX7_statement 51 = .ok (.iload_n 2, 1) := by decide +kernel
theorem dX7_statement_52 : decode cX7_statement 52 = .ok (.ifCond .ge 5, 3) := by decide +kernel
theorem dX7_statement_55 : decode cX7_statement 55 = .ok (.iconst (-1), 1) := by decide +kernel
theorem dX7_statement_56 : decode cX7_statement 56 = .ok (.ireturn, 1) := by decide +kernel
theorem dX7_statement_57 : decode cX7_statement 57 = .ok (.aload_n 0, 1) := by decide +kernel
theorem dX7_statement_58 : decode cX7_statement 58 = .ok (.dup, 1) := by decide +kernel
theorem dX7_statement_59 : decode cX7_statement 59 = .ok (.getfield 95, 3) := by decide +kernel
theorem dX7_statement_62 : decode cX7_statement 62 = .ok (.iconst 1, 1) := by decide +kernel
theorem dX7_statement_63 : decode cX7_statement 63 = .ok (.iadd, 1) := by decide +kernel
theorem dX7_statement_64 : decode cX7_statement 64 = .ok (.putfield 95, 3) := by decide +kernel
theorem dX7_statement_67 : decode cX7_statement 67 = .ok (.aload_n 0, 1) := by decide +kernel
theorem dX7_statement_68 : decode cX7_statement 68 = .ok (.bipush 7, 2) := by decide +kernel
theorem dX7_statement_70 : decode cX7_statement 70 = .ok (.invokevirtual 109, 3) := by decide +kernel
theorem dX7_statement_73 : decode cX7_statement 73 = .ok (.ifCond .ne 5, 3) := by decide +kernel
theorem dX7_statement_76 : decode cX7_statement 76 = .ok (.iconst (-1), 1) := by decide +kernel
theorem dX7_statement_77 : decode cX7_statement 77 = .ok (.ireturn, 1) := by decide +kernel
theorem dX7_statement_78 : decode cX7_statement 78 = .ok (.iload_n 1, 1) := by decide +kernel
theorem dX7_statement_79 : decode cX7_statement 79 = .ok (.ifCond .ne 5, 3) := by decide +kernel
theorem dX7_statement_82 : decode cX7_statement 82 = .ok (.iconst 1, 1) := by decide +kernel
theorem dX7_statement_83 : decode cX7_statement 83 = .ok (.ireturn, 1) := by decide +kernel
theorem dX7_statement_84 : decode cX7_statement 84 = .ok (.aload_n 0, 1) := by decide +kernel
theorem dX7_statement_85 : decode cX7_statement 85 = .ok (.iconst 1, 1) := by decide +kernel
theorem dX7_statement_86 : decode cX7_statement 86 = .ok (.invokevirtual 112, 3) := by decide +kernel
theorem dX7_statement_89 : decode cX7_statement 89 = .ok (.invokestatic 115, 3) := by decide +kernel
theorem dX7_statement_92 : decode cX7_statement 92 = .ok (.ifCond .eq 34, 3) := by decide +kernel
theorem dX7_statement_95 : decode cX7_statement 95 = .ok (.aload_n 0, 1) := by decide +kernel
theorem dX7_statement_96 : decode cX7_statement 96 = .ok (.iconst 3, 1) := by decide +kernel
theorem dX7_statement_97 : decode cX7_statement 97 = .ok (.invokevirtual 112, 3) := by decide +kernel
theorem dX7_statement_100 : decode cX7_statement 100 = .ok (.invokestatic 115, 3) := by decide +kernel
theorem dX7_statement_103 : decode cX7_statement 103 = .ok (.ifCond .eq 23, 3) := by decide +kernel
theorem dX7_statement_106 : decode cX7_statement 106 = .ok (.aload_n 0, 1) := by decide +kernel
theorem dX7_statement_107 : decode cX7_statement 107 = .ok (.iconst 5, 1) := by decide +kernel
theorem dX7_statement_108 : decode cX7_statement 108 = .ok (.invokevirtual 112, 3) := by decide +kernel
theorem dX7_statement_111 : decode cX7_statement 111 = .ok (.invokestatic 118, 3) := by decide +kernel
theorem dX7_statement_114 : decode cX7_statement 114 = .ok (.ifCond .eq 12, 3) := by decide +kernel
theorem dX7_statement_117 : decode cX7_statement 117 = .ok (.aload_n 0, 1) := by decide +kernel
theorem dX7_statement_118 : decode cX7_statement 118 = .ok (.getfield 84, 3) := by decide +kernel
theorem dX7_statement_121 : decode cX7_statement 121 = .ok (.bipush 7, 2) := by decide +kernel
theorem dX7_statement_123 : decode cX7_statement 123 = .ok (.if_icmp .ne 5, 3) := by decide +kernel
theorem dX7_statement_126 : decode cX7_statement 126 = .ok (.iconst 0, 1) := by decide +kernel
theorem dX7_statement_127 : decode cX7_statement 127 = .ok (.ireturn, 1) := by decide +kernel
theorem dX7_statement_128 : decode cX7_statement 128 = .ok (.aload_n 0, 1) := by decide +kernel
theorem dX7_statement_129 : decode cX7_statement 129 = .ok (.getfield 7, 3) := by decide +kernel
theorem dX7_statement_132 : decode cX7_statement 132 = .ok (.aload_n 0, 1) := by decide +kernel
theorem dX7_statement_133 : decode cX7_statement 133 = .ok (.getfield 84, 3) := by decide +kernel
theorem dX7_statement_136 : decode cX7_statement 136 = .ok (.iload_n 2, 1) := by decide +kernel
theorem dX7_statement_137 : decode cX7_statement 137 = .ok (.iastore, 1) := by decide +kernel
theorem dX7_statement_138 : decode cX7_statement 138 = .ok (.aload_n 0, 1) := by decide +kernel
theorem dX7_statement_139 : decode cX7_statement 139 = .ok (.getfield 13, 3) := by decide +kernel
theorem dX7_statement_142 : decode cX7_statement 142 = .ok (.aload_n 0, 1) := by decide +kernel
theorem dX7_statement_143 : decode cX7_statement 143 = .ok (.getfield 84, 3) := by decide +kernel
theorem dX7_statement_146 : decode cX7_statement 146 = .ok (.aload_n 0, 1) := by decide +kernel
theorem dX7_statement_147 : decode cX7_statement 147 = .ok (.getfield 31, 3) := by decide +kernel
theorem dX7_statement_150 : decode cX7_statement 150 = .ok (.iconst 0, 1) := by decide +kernel
theorem dX7_statement_151 : decode cX7_statement 151 = .ok (.iaload, 1) := by decide +kernel
theorem dX7_statement_152 : decode cX7_statement 152 = .ok (.iastore, 1) := by decide +kernel
theorem dX7_statement_153 : decode cX7_statement 153 = .ok (.aload_n 0, 1) := by decide +kernel
theorem dX7_statement_154 : decode cX7_statement 154 = .ok (.getfield 16, 3) := by decide +kernel
theorem dX7_statement_157 : decode cX7_statement 157 = .ok (.aload_n 0, 1) := by decide +kernel
theorem dX7_statement_158 : decode cX7_statement 158 = .ok (.getfield 84, 3) := by decide +kernel
theorem dX7_statement_161 : decode cX7_statement 161 = .ok (.aload_n 0, 1) := by decide +kernel
theorem dX7_statement_162 : decode cX7_statement 162 = .ok (.iconst 1, 1) := by decide +kernel
theorem dX7_statement_163 : decode cX7_statement 163 = .ok (.invokevirtual 112, 3) := by decide +kernel
theorem dX7_statement_166 : decode cX7_statement 166 = .ok (.iastore, 1) := by decide +kernel
theorem dX7_statement_167 : decode cX7_statement 167 = .ok (.aload_n 0, 1) := by decide +kernel
theorem dX7_statement_168 : decode cX7_statement 168 = .ok (.getfield 19, 3) := by decide +kernel
theorem dX7_statement_171 : decode cX7_statement 171 = .ok (.aload_n 0, 1) := by decide +kernel
theorem dX7_statement_172 : decode cX7_statement 172 = .ok (.getfield 84, 3) := by decide +kernel
theorem dX7_statement_175 : decode cX7_statement 175 = .ok (.aload_n 0, 1) := by decide +kernel
theorem dX7_statement_176 : decode cX7_statement 176 = .ok (.iconst 3, 1) := by decide +kernel
theorem dX7_statement_177 : decode cX7_statement 177 = .ok (.invokevirtual 112, 3) := by decide +kernel
theorem dX7_statement_180 : decode cX7_statement 180 = .ok (.iastore, 1) := by decide +kernel
theorem dX7_statement_181 : decode cX7_statement 181 = .ok (.aload_n 0, 1) := by decide +kernel
theorem dX7_statement_182 : decode cX7_statement 182 = .ok (.getfield 22, 3) := by decide +kernel
theorem dX7_statement_185 : decode cX7_statement 185 = .ok (.aload_n 0, 1) := by decide +kernel
theorem dX7_statement_186 : decode cX7_statement 186 = .ok (.getfield 84, 3) := by decide +kernel
theorem dX7_statement_189 : decode cX7_statement 189 = .ok (.aload_n 0, 1) := by decide +kernel
theorem dX7_statement_190 : decode cX7_statement 190 = .ok (.iconst 5, 1) := by decide +kernel
theorem dX7_statement_191 : decode cX7_statement 191 = .ok (.invokevirtual 112, 3) := by decide +kernel
theorem dX7_statement_194 : decode cX7_statement 194 = .ok (.iastore, 1) := by decide +kernel
theorem dX7_statement_195 : decode cX7_statement 195 = .ok (.aload_n 0, 1) := by decide +kernel
theorem dX7_statement_196 : decode cX7_statement 196 = .ok (.dup, 1) := by decide +kernel
theorem dX7_statement_197 : decode cX7_statement 197 = .ok (.getfield 84, 3) := by decide +kernel
theorem dX7_statement_200 : decode cX7_statement 200 = .ok (.iconst 1, 1) := by decide +kernel
theorem dX7_statement_201 : decode cX7_statement 201 = .ok (.iadd, 1) := by decide +kernel
theorem dX7_statement_202 : decode cX7_statement 202 = .ok (.putfield 84, 3) := by decide +kernel
theorem dX7_statement_205 : decode cX7_statement 205 = .ok (.iconst 1, 1) := by decide +kernel
theorem dX7_statement_206 : decode cX7_statement 206 = .ok (.ireturn, 1) := by decide +kernel
theorem dX7_statement_207 : decode cX7_statement 207 = .ok (.aload_n 0, 1) := by decide +kernel
theorem dX7_statement_208 : decode cX7_statement 208 = .ok (.bipush 112, 2) := by decide +kernel
theorem dX7_statement_210 : decode cX7_statement 210 = .ok (.invokevirtual 98, 3) := by decide +kernel
theorem dX7_statement_213 : decode cX7_statement 213 = .ok (.ifCond .eq 45, 3) := by decide +kernel
theorem dX7_statement_216 : decode cX7_statement 216 = .ok (.aload_n 0, 1) := by decide +kernel
theorem dX7_statement_217 : decode cX7_statement 217 = .ok (.iconst 2, 1) := by decide +kernel
theorem dX7_statement_218 : decode cX7_statement 218 = .ok (.invokevirtual 109, 3) := by decide +kernel
theorem dX7_statement_221 : decode cX7_statement 221 = .ok (.ifCond .ne 5, 3) := by decide +kernel
theorem dX7_statement_224 : decode cX7_statement 224 = .ok (.iconst (-1), 1) := by decide +kernel
theorem dX7_statement_225 : decode cX7_statement 225 = .ok (.ireturn, 1) := by decide +kernel
theorem dX7_statement_226 : decode cX7_statement 226 = .ok (.iload_n 1, 1) := by decide +kernel
theorem dX7_statement_227 : decode cX7_statement 227 = .ok (.ifCond .ne 5, 3) := by decide +kernel
theorem dX7_statement_230 : decode cX7_statement 230 = .ok (.iconst 1, 1) := by decide +kernel
theorem dX7_statement_231 : decode cX7_statement 231 = .ok (.ireturn, 1) := by decide +kernel
theorem dX7_statement_232 : decode cX7_statement 232 = .ok (.aload_n 0, 1) := by decide +kernel
theorem dX7_statement_233 : decode cX7_statement 233 = .ok (.iconst 0, 1) := by decide +kernel
theorem dX7_statement_234 : decode cX7_statement 234 = .ok (.invokevirtual 112, 3) := by decide +kernel
theorem dX7_statement_237 : decode cX7_statement 237 = .ok (.invokestatic 115, 3) := by decide +kernel
theorem dX7_statement_240 : decode cX7_statement 240 = .ok (.ifCond .ne 5, 3) := by decide +kernel
theorem dX7_statement_243 : decode cX7_statement 243 = .ok (.iconst 0, 1) := by decide +kernel
theorem dX7_statement_244 : decode cX7_statement 244 = .ok (.ireturn, 1) := by decide +kernel
theorem dX7_statement_245 : decode cX7_statement 245 = .ok (.aload_n 0, 1) := by decide +kernel
theorem dX7_statement_246 : decode cX7_statement 246 = .ok (.getfield 25, 3) := by decide +kernel
theorem dX7_statement_249 : decode cX7_statement 249 = .ok (.iconst 0, 1) := by decide +kernel
theorem dX7_statement_250 : decode cX7_statement 250 = .ok (.aload_n 0, 1) := by decide +kernel
theorem dX7_statement_251 : decode cX7_statement 251 = .ok (.iconst 0, 1) := by decide +kernel
theorem dX7_statement_252 : decode cX7_statement 252 = .ok (.invokevirtual 112, 3) := by decide +kernel
theorem dX7_statement_255 : decode cX7_statement 255 = .ok (.iastore, 1) := by decide +kernel
theorem dX7_statement_256 : decode cX7_statement 256 = .ok (.iconst 1, 1) := by decide +kernel
theorem dX7_statement_257 : decode cX7_statement 257 = .ok (.ireturn, 1) := by decide +kernel
theorem dX7_statement_258 : decode cX7_statement 258 = .ok (.aload_n 0, 1) := by decide +kernel
theorem dX7_statement_259 : decode cX7_statement 259 = .ok (.bipush 111, 2) := by decide +kernel
theorem dX7_statement_261 : decode cX7_statement 261 = .ok (.invokevirtual 98, 3) := by decide +kernel
theorem dX7_statement_264 : decode cX7_statement 264 = .ok (.ifCond .eq 53, 3) := by decide +kernel
theorem dX7_statement_267 : decode cX7_statement 267 = .ok (.aload_n 0, 1) := by decide +kernel
theorem dX7_statement_268 : decode cX7_statement 268 = .ok (.iconst 3, 1) := by decide +kernel
theorem dX7_statement_269 : decode cX7_statement 269 = .ok (.invokevirtual 109, 3) := by decide +kernel
theorem dX7_statement_272 : decode cX7_statement 272 = .ok (.ifCond .ne 5, 3) := by decide +kernel
theorem dX7_statement_275 : decode cX7_statement 275 = .ok (.iconst (-1), 1) := by decide +kernel
theorem dX7_statement_276 : decode cX7_statement 276 = .ok (.ireturn, 1) := by decide +kernel
theorem dX7_statement_277 : decode cX7_statement 277 = .ok (.iload_n 1, 1) := by decide +kernel
theorem dX7_statement_278 : decode cX7_statement 278 = .ok (.ifCond .ne 5, 3) := by decide +kernel
theorem dX7_statement_281 : decode cX7_statement 281 = .ok (.iconst 1, 1) := by decide +kernel
theorem dX7_statement_282 : decode cX7_statement 282 = .ok (.ireturn, 1) := by decide +kernel
theorem dX7_statement_283 : decode cX7_statement 283 = .ok (.bipush 100, 2) := by decide +kernel
theorem dX7_statement_285 : decode cX7_statement 285 = .ok (.aload_n 0, 1) := by decide +kernel
theorem dX7_statement_286 : decode cX7_statement 286 = .ok (.getfield 31, 3) := by decide +kernel
theorem dX7_statement_289 : decode cX7_statement 289 = .ok (.iconst 0, 1) := by decide +kernel
theorem dX7_statement_290 : decode cX7_statement 290 = .ok (.iaload, 1) := by decide +kernel
theorem dX7_statement_291 : decode cX7_statement 291 = .ok (.imul, 1) := by decide +kernel
theorem dX7_statement_292 : decode cX7_statement 292 = .ok (.aload_n 0, 1) := by decide +kernel
theorem dX7_statement_293 : decode cX7_statement 293 = .ok (.iconst 1, 1) := by decide +kernel
theorem dX7_statement_294 : decode cX7_statement 294 = .ok (.invokevirtual 112, 3) := by decide +kernel
theorem dX7_statement_297 : decode cX7_statement 297 = .ok (.iadd, 1) := by decide +kernel
theorem dX7_statement_298 : decode cX7_statement 298 = .ok (.istore_n 2, 1) := by decide +kernel
theorem dX7_statement_299 : decode cX7_statement 299 = .ok (.iload_n 2, 1) := by decide +kernel
theorem dX7_statement_300 : decode cX7_statement 300 = .ok (.sipush 200, 3) := by decide +kernel
theorem dX7_statement_303 : decode cX7_statement 303 = .ok (.if_icmp .le 5, 3) := by decide +kernel
theorem dX7_statement_306 : decode cX7_statement 306 = .ok (.iconst 0, 1) := by decide +kernel
theorem dX7_statement_307 : decode cX7_statement 307 = .ok (.ireturn, 1) := by decide +kernel
theorem dX7_statement_308 : decode cX7_statement 308 = .ok (.aload_n 0, 1) := by decide +kernel
theorem dX7_statement_309 : decode cX7_statement 309 = .ok (.getfield 25, 3) := by decide +kernel
theorem dX7_statement_312 : decode cX7_statement 312 = .ok (.iconst 1, 1) := by decide +kernel
theorem dX7_statement_313 : decode cX7_statement 313 = .ok (.iload_n 2, 1) := by decide +kernel
theorem dX7_statement_314 : decode cX7_statement 314 = .ok (.iastore, 1) := by decide +kernel
theorem dX7_statement_315 : decode cX7_statement 315 = .ok (.iconst 1, 1) := by decide +kernel
theorem dX7_statement_316 : decode cX7_statement 316 = .ok (.ireturn, 1) := by decide +kernel
theorem dX7_statement_317 : decode cX7_statement 317 = .ok (.aload_n 0, 1) := by decide +kernel
theorem dX7_statement_318 : decode cX7_statement 318 = .ok (.bipush 100, 2) := by decide +kernel
theorem dX7_statement_320 : decode cX7_statement 320 = .ok (.invokevirtual 98, 3) := by decide +kernel
theorem dX7_statement_323 : decode cX7_statement 323 = .ok (.ifCond .eq 31, 3) := by decide +kernel
theorem dX7_statement_326 : decode cX7_statement 326 = .ok (.aload_n 0, 1) := by decide +kernel
theorem dX7_statement_327 : decode cX7_statement 327 = .ok (.iconst 1, 1) := by decide +kernel
theorem dX7_statement_328 : decode cX7_statement 328 = .ok (.invokevirtual 109, 3) := by decide +kernel
theorem dX7_statement_331 : decode cX7_statement 331 = .ok (.ifCond .ne 5, 3) := by decide +kernel
theorem dX7_statement_334 : decode cX7_statement 334 = .ok (.iconst (-1), 1) := by decide +kernel
theorem dX7_statement_335 : decode cX7_statement 335 = .ok (.ireturn, 1) := by decide +kernel
theorem dX7_statement_336 : decode cX7_statement 336 = .ok (.iload_n 1, 1) := by decide +kernel
theorem dX7_statement_337 : decode cX7_statement 337 = .ok (.ifCond .eq 15, 3) := by decide +kernel
theorem dX7_statement_340 : decode cX7_statement 340 = .ok (.aload_n 0, 1) := by decide +kernel
theorem dX7_statement_341 : decode cX7_statement 341 = .ok (.getfield 25, 3) := by decide +kernel
theorem dX7_statement_344 : decode cX7_statement 344 = .ok (.iconst 2, 1) := by decide +kernel
theorem dX7_statement_345 : decode cX7_statement 345 = .ok (.aload_n 0, 1) := by decide +kernel
theorem dX7_statement_346 : decode cX7_statement 346 = .ok (.getfield 31, 3) := by decide +kernel
theorem dX7_statement_349 : decode cX7_statement 349 = .ok (.iconst 0, 1) := by decide +kernel
theorem dX7_statement_350 : decode cX7_statement 350 = .ok (.iaload, 1) := by decide +kernel
theorem dX7_statement_351 : decode cX7_statement 351 = .ok (.iastore, 1) := by decide +kernel
theorem dX7_statement_352 : decode cX7_statement 352 = .ok (.iconst 1, 1) := by decide +kernel
theorem dX7_statement_353 : decode cX7_statement 353 = .ok (.ireturn, 1) := by decide +kernel
theorem dX7_statement_354 : decode cX7_statement 354 = .ok (.aload_n 0, 1) := by decide +kernel
theorem dX7_statement_355 : decode cX7_statement 355 = .ok (.bipush 120, 2) := by decide +kernel
theorem dX7_statement_357 : decode cX7_statement 357 = .ok (.invokevirtual 98, 3) := by decide +kernel
theorem dX7_statement_360 : decode cX7_statement 360 = .ok (.ifCond .eq 110, 3) := by decide +kernel
theorem dX7_statement_363 : decode cX7_statement 363 = .ok (.aload_n 0, 1) := by decide +kernel
theorem dX7_statement_364 : decode cX7_statement 364 = .ok (.iconst 2, 1) := by decide +kernel
theorem dX7_statement_365 : decode cX7_statement 365 = .ok (.invokevirtual 109, 3) := by decide +kernel
theorem dX7_statement_368 : decode cX7_statement 368 = .ok (.ifCond .ne 5, 3) := by decide +kernel
theorem dX7_statement_371 : decode cX7_statement 371 = .ok (.iconst (-1), 1) := by decide +kernel
theorem dX7_statement_372 : decode cX7_statement 372 = .ok (.ireturn, 1) := by decide +kernel
theorem dX7_statement_373 : decode cX7_statement 373 = .ok (.iload_n 1, 1) := by decide +kernel
theorem dX7_statement_374 : decode cX7_statement 374 = .ok (.ifCond .ne 5, 3) := by decide +kernel
theorem dX7_statement_377 : decode cX7_statement 377 = .ok (.iconst 1, 1) := by decide +kernel
theorem dX7_statement_378 : decode cX7_statement 378 = .ok (.ireturn, 1) := by decide +kernel
theorem dX7_statement_379 : decode cX7_statement 379 = .ok (.aload_n 0, 1) := by decide +kernel
theorem dX7_statement_380 : decode cX7_statement 380 = .ok (.aload_n 0, 1) := by decide +kernel
theorem dX7_statement_381 : decode cX7_statement 381 = .ok (.getfield 31, 3) := by decide +kernel
theorem dX7_statement_384 : decode cX7_statement 384 = .ok (.iconst 0, 1) := by decide +kernel
theorem dX7_statement_385 : decode cX7_statement 385 = .ok (.iaload, 1) := by decide +kernel
theorem dX7_statement_386 : decode cX7_statement 386 = .ok (.invokevirtual 121, 3) := by decide +kernel
theorem dX7_statement_389 : decode cX7_statement 389 = .ok (.ifCond .eq 31, 3) := by decide +kernel
theorem dX7_statement_392 : decode cX7_statement 392 = .ok (.aload_n 0, 1) := by decide +kernel
theorem dX7_statement_393 : decode cX7_statement 393 = .ok (.aload_n 0, 1) := by decide +kernel
theorem dX7_statement_394 : decode cX7_statement 394 = .ok (.getfield 31, 3) := by decide +kernel
theorem dX7_statement_397 : decode cX7_statement 397 = .ok (.iconst 1, 1) := by decide +kernel
theorem dX7_statement_398 : decode cX7_statement 398 = .ok (.iaload, 1) := by decide +kernel
theorem dX7_statement_399 : decode cX7_statement 399 = .ok (.invokevirtual 121, 3) := by decide +kernel
theorem dX7_statement_402 : decode cX7_statement 402 = .ok (.ifCond .eq 18, 3) := by decide +kernel
theorem dX7_statement_405 : decode cX7_statement 405 = .ok (.aload_n 0, 1) := by decide +kernel
theorem dX7_statement_406 : decode cX7_statement 406 = .ok (.getfield 31, 3) := by decide +kernel
theorem dX7_statement_409 : decode cX7_statement 409 = .ok (.iconst 0, 1) := by decide +kernel
theorem dX7_statement_410 : decode cX7_statement 410 = .ok (.iaload, 1) := by decide +kernel
theorem dX7_statement_411 : decode cX7_statement 411 = .ok (.aload_n 0, 1) := by decide +kernel
theorem dX7_statement_412 : decode cX7_statement 412 = .ok (.getfield 31, 3) := by decide +kernel
theorem dX7_statement_415 : decode cX7_statement 415 = .ok (.iconst 1, 1) := by decide +kernel
theorem dX7_statement_416 : decode cX7_statement 416 = .ok (.iaload, 1) := by decide +kernel
theorem dX7_statement_417 : decode cX7_statement 417 = .ok (.if_icmp .ne 5, 3) := by decide +kernel
theorem dX7_statement_420 : decode cX7_statement 420 = .ok (.iconst 0, 1) := by decide +kernel
theorem dX7_statement_421 : decode cX7_statement 421 = .ok (.ireturn, 1) := by decide +kernel
theorem dX7_statement_422 : decode cX7_statement 422 = .ok (.aload_n 0, 1) := by decide +kernel
theorem dX7_statement_423 : decode cX7_statement 423 = .ok (.getfield 22, 3) := by decide +kernel
theorem dX7_statement_426 : decode cX7_statement 426 = .ok (.aload_n 0, 1) := by decide +kernel
theorem dX7_statement_427 : decode cX7_statement 427 = .ok (.getfield 31, 3) := by decide +kernel
theorem dX7_statement_430 : decode cX7_statement 430 = .ok (.iconst 0, 1) := by decide +kernel
theorem dX7_statement_431 : decode cX7_statement 431 = .ok (.iaload, 1) := by decide +kernel
theorem dX7_statement_432 : decode cX7_statement 432 = .ok (.iaload, 1) := by decide +kernel
theorem dX7_statement_433 : decode cX7_statement 433 = .ok (.istore_n 2, 1) := by decide +kernel
theorem dX7_statement_434 : decode cX7_statement 434 = .ok (.aload_n 0, 1) := by decide +kernel
theorem dX7_statement_435 : decode cX7_statement 435 = .ok (.getfield 22, 3) := by decide +kernel
theorem dX7_statement_438 : decode cX7_statement 438 = .ok (.aload_n 0, 1) := by decide +kernel
theorem dX7_statement_439 : decode cX7_statement 439 = .ok (.getfield 31, 3) := by decide +kernel
theorem dX7_statement_442 : decode cX7_statement 442 = .ok (.iconst 0, 1) := by decide +kernel
theorem dX7_statement_443 : decode cX7_statement 443 = .ok (.iaload, 1) := by decide +kernel
theorem dX7_statement_444 : decode cX7_statement 444 = .ok (.aload_n 0, 1) := by decide +kernel
theorem dX7_statement_445 : decode cX7_statement 445 = .ok (.getfield 22, 3) := by decide +kernel
theorem dX7_statement_448 : decode cX7_statement 448 = .ok (.aload_n 0, 1) := by decide +kernel
theorem dX7_statement_449 : decode cX7_statement 449 = .ok (.getfield 31, 3) := by decide +kernel
theorem dX7_statement_452 : decode cX7_statement 452 = .ok (.iconst 1, 1) := by decide +kernel
theorem dX7_statement_453 : decode cX7_statement 453 = .ok (.iaload, 1) := by decide +kernel
theorem dX7_statement_454 : decode cX7_statement 454 = .ok (.iaload, 1) := by decide +kernel
theorem dX7_statement_455 : decode cX7_statement 455 = .ok (.iastore, 1) := by decide +kernel
theorem dX7_statement_456 : decode cX7_statement 456 = .ok (.aload_n 0, 1) := by decide +kernel
theorem dX7_statement_457 : decode cX7_statement 457 = .ok (.getfield 22, 3) := by decide +kernel
theorem dX7_statement_460 : decode cX7_statement 460 = .ok (.aload_n 0, 1) := by decide +kernel
theorem dX7_statement_461 : decode cX7_statement 461 = .ok (.getfield 31, 3) := by decide +kernel
theorem dX7_statement_464 : decode cX7_statement 464 = .ok (.iconst 1, 1) := by decide +kernel
theorem dX7_statement_465 : decode cX7_statement 465 = .ok (.iaload, 1) := by decide +kernel
theorem dX7_statement_466 : decode cX7_statement 466 = .ok (.iload_n 2, 1) := by decide +kernel
theorem dX7_statement_467 : decode cX7_statement 467 = .ok (.iastore, 1) := by decide +kernel
theorem dX7_statement_468 : decode cX7_statement 468 = .ok (.iconst 1, 1) := by decide +kernel
theorem dX7_statement_469 : decode cX7_statement 469 = .ok (.ireturn, 1) := by decide +kernel
theorem dX7_statement_470 : decode cX7_statement 470 = .ok (.aload_n 0, 1) := by decide +kernel
theorem dX7_statement_471 : decode cX7_statement 471 = .ok (.bipush 104, 2) := by decide +kernel
theorem dX7_statement_473 : decode cX7_statement 473 = .ok (.invokevirtual 98, 3) := by decide +kernel
theorem dX7_statement_476 : decode cX7_statement 476 = .ok (.ifCond .eq 11, 3) := by decide +kernel
theorem dX7_statement_479 : decode cX7_statement 479 = .ok (.aload_n 0, 1) := by decide +kernel
theorem dX7_statement_480 : decode cX7_statement 480 = .ok (.iconst 3, 1) := by decide +kernel
theorem dX7_statement_481 : decode cX7_statement 481 = .ok (.invokevirtual 109, 3) := by decide +kernel
theorem dX7_statement_484 : decode cX7_statement 484 = .ok (.ifCond .ne 5, 3) := by decide +kernel
theorem dX7_statement_487 : decode cX7_statement 487 = .ok (.iconst (-1), 1) := by decide +kernel
theorem dX7_statement_488 : decode cX7_statement 488 = .ok (.ireturn, 1) := by decide +kernel
theorem dX7_statement_489 : decode cX7_statement 489 = .ok (.iload_n 1, 1) := by decide +kernel
theorem dX7_statement_490 : decode cX7_statement 490 = .ok (.ifCond .ne 5, 3) := by decide +kernel
theorem dX7_statement_493 : decode cX7_statement 493 = .ok (.iconst 1, 1) := by decide +kernel
theorem dX7_statement_494 : decode cX7_statement 494 = .ok (.ireturn, 1) := by decide +kernel
theorem dX7_statement_495 : decode cX7_statement 495 = .ok (.aload_n 0, 1) := by decide +kernel
theorem dX7_statement_496 : decode cX7_statement 496 = .ok (.aload_n 0, 1) := by decide +kernel
theorem dX7_statement_497 : decode cX7_statement 497 = .ok (.getfield 31, 3) := by decide +kernel
theorem dX7_statement_500 : decode cX7_statement 500 = .ok (.iconst 0, 1) := by decide +kernel
theorem dX7_statement_501 : decode cX7_statement 501 = .ok (.iaload, 1) := by decide +kernel
theorem dX7_statement_502 : decode cX7_statement 502 = .ok (.invokevirtual 121, 3) := by decide +kernel
theorem dX7_statement_505 : decode cX7_statement 505 = .ok (.ifCond .eq 14, 3) := by decide +kernel
theorem dX7_statement_508 : decode cX7_statement 508 = .ok (.aload_n 0, 1) := by decide +kernel
theorem dX7_statement_509 : decode cX7_statement 509 = .ok (.iconst 1, 1) := by decide +kernel
theorem dX7_statement_510 : decode cX7_statement 510 = .ok (.invokevirtual 112, 3) := by decide +kernel
theorem dX7_statement_513 : decode cX7_statement 513 = .ok (.invokestatic 118, 3) := by decide +kernel
theorem dX7_statement_516 : decode cX7_statement 516 = .ok (.ifCond .ne 5, 3) := by decide +kernel
theorem dX7_statement_519 : decode cX7_statement 519 = .ok (.iconst 0, 1) := by decide +kernel
theorem dX7_statement_520 : decode cX7_statement 520 = .ok (.ireturn, 1) := by decide +kernel
theorem dX7_statement_521 : decode cX7_statement 521 = .ok (.aload_n 0, 1) := by decide +kernel
theorem dX7_statement_522 : decode cX7_statement 522 = .ok (.getfield 22, 3) := by decide +kernel
theorem dX7_statement_525 : decode cX7_statement 525 = .ok (.aload_n 0, 1) := by decide +kernel
theorem dX7_statement_526 : decode cX7_statement 526 = .ok (.getfield 31, 3) := by decide +kernel
theorem dX7_statement_529 : decode cX7_statement 529 = .ok (.iconst 0, 1) := by decide +kernel
theorem dX7_statement_530 : decode cX7_statement 530 = .ok (.iaload, 1) := by decide +kernel
theorem dX7_statement_531 : decode cX7_statement 531 = .ok (.aload_n 0, 1) := by decide +kernel
theorem dX7_statement_532 : decode cX7_statement 532 = .ok (.iconst 1, 1) := by decide +kernel
theorem dX7_statement_533 : decode cX7_statement 533 = .ok (.invokevirtual 112, 3) := by decide +kernel
theorem dX7_statement_536 : decode cX7_statement 536 = .ok (.iastore, 1) := by decide +kernel
theorem dX7_statement_537 : decode cX7_statement 537 = .ok (.iconst 1, 1) := by decide +kernel
theorem dX7_statement_538 : decode cX7_statement 538 = .ok (.ireturn, 1) := by decide +kernel
theorem dX7_night_0 : decode cX7_night 0 = .ok (.aload_n 0, 1) := by decide +kernel
theorem dX7_night_1 : decode cX7_night 1 = .ok (.iconst 0, 1) := by decide +kernel
theorem dX7_night_2 : decode cX7_night 2 = .ok (.putfield 95, 3) := by decide +kernel
theorem dX7_night_5 : decode cX7_night 5 = .ok (.iconst 1, 1) := by decide +kernel
theorem dX7_night_6 : decode cX7_night 6 = .ok (.istore_n 1, 1) := by decide +kernel
theorem dX7_night_7 : decode cX7_night 7 = .ok (.iload_n 1, 1) := by decide +kernel
theorem dX7_night_8 : decode cX7_night 8 = .ok (.ifCond .eq 45, 3) := by decide +kernel
theorem dX7_night_11 : decode cX7_night 11 = .ok (.aload_n 0, 1) := by decide +kernel
theorem dX7_night_12 : decode cX7_night 12 = .ok (.iconst 0, 1) := by decide +kernel
theorem dX7_night_13 : decode cX7_night 13 = .ok (.invokevirtual 124, 3) := by decide +kernel
theorem dX7_night_16 : decode cX7_night 16 = .ok (.iconst 1, 1) := by decide +kernel
theorem dX7_night_17 : decode cX7_night 17 = .ok (.if_icmp .ne 16, 3) := by decide +kernel
theorem dX7_night_20 : decode cX7_night 20 = .ok (.aload_n 0, 1) := by decide +kernel
theorem dX7_night_21 : decode cX7_night 21 = .ok (.bipush 59, 2) := by decide +kernel
theorem dX7_night_23 : decode cX7_night 23 = .ok (.invokevirtual 98, 3) := by decide +kernel
theorem dX7_night_26 : decode cX7_night 26 = .ok (.ifCond .eq 7, 3) := by decide +kernel
theorem dX7_night_29 : decode cX7_night 29 = .ok (.iconst 1, 1) := by decide +kernel
theorem dX7_night_30 : decode cX7_night 30 = .ok (.goto 4, 3) := by decide +kernel
theorem dX7_night_33 : decode cX7_night 33 = .ok (.iconst 0, 1) := by decide +kernel
theorem dX7_night_34 : decode cX7_night 34 = .ok (.istore_n 1, 1) := by decide +kernel
theorem dX7_night_35 : decode cX7_night 35 = .ok (.iload_n 1, 1) := by decide +kernel
theorem dX7_night_36 : decode cX7_night 36 = .ok (.ifCond .eq (-29), 3) := by decide +kernel
theorem dX7_night_39 : decode cX7_night 39 = .ok (.aload_n 0, 1) := by decide +kernel
theorem dX7_night_40 : decode cX7_night 40 = .ok (.getfield 95, 3) := by decide +kernel
theorem dX7_night_43 : decode cX7_night 43 = .ok (.aload_n 0, 1) := by decide +kernel
theorem dX7_night_44 : decode cX7_night 44 = .ok (.getfield 92, 3) := by decide +kernel
theorem dX7_night_47 : decode cX7_night 47 = .ok (.if_icmp .ne (-40), 3) := by decide +kernel
theorem dX7_night_50 : decode cX7_night 50 = .ok (.goto 3, 3) := by decide +kernel
theorem dX7_night_53 : decode cX7_night 53 = .ok (.iload_n 1, 1) := by decide +kernel
theorem dX7_night_54 : decode cX7_night 54 = .ok (.ifCond .ne 17, 3) := by decide +kernel
theorem dX7_night_57 : decode cX7_night 57 = .ok (.aload_n 0, 1) := by decide +kernel
theorem dX7_night_58 : decode cX7_night 58 = .ok (.iconst 0, 1) := by decide +kernel
theorem dX7_night_59 : decode cX7_night 59 = .ok (.putfield 92, 3) := by decide +kernel
theorem dX7_night_62 : decode cX7_night 62 = .ok (.sipush (-1000), 3) := by decide +kernel
theorem dX7_night_65 : decode cX7_night 65 = .ok (.aload_n 0, 1) := by decide +kernel
theorem dX7_night_66 : decode cX7_night 66 = .ok (.getfield 95, 3) := by decide +kernel
theorem dX7_night_69 : decode cX7_night 69 = .ok (.isub, 1) := by decide +kernel
theorem dX7_night_70 : decode cX7_night 70 = .ok (.ireturn, 1) := by decide +kernel
theorem dX7_night_71 : decode cX7_night 71 = .ok (.aload_n 0, 1) := by decide +kernel
theorem dX7_night_72 : decode cX7_night 72 = .ok (.aload_n 0, 1) := by decide +kernel
theorem dX7_night_73 : decode cX7_night 73 = .ok (.getfield 43, 3) := by decide +kernel
theorem dX7_night_76 : decode cX7_night 76 = .ok (.invokevirtual 128, 3) := by decide +kernel
theorem dX7_night_79 : decode cX7_night 79 = .ok (.aload_n 0, 1) := by decide +kernel
theorem dX7_night_80 : decode cX7_night 80 = .ok (.iconst 0, 1) := by decide +kernel
theorem dX7_night_81 : decode cX7_night 81 = .ok (.putfield 95, 3) := by decide +kernel
theorem dX7_night_84 : decode cX7_night 84 = .ok (.iconst 0, 1) := by decide +kernel
theorem dX7_night_85 : decode cX7_night 85 = .ok (.istore_n 2, 1) := by decide +kernel
theorem dX7_night_86 : decode cX7_night 86 = .ok (.aload_n 0, 1) := by decide +kernel
theorem dX7_night_87 : decode cX7_night 87 = .ok (.getfield 95, 3) := by decide +kernel
theorem dX7_night_90 : decode cX7_night 90 = .ok (.aload_n 0, 1) := by decide +kernel
theorem dX7_night_91 : decode cX7_night 91 = .ok (.getfield 92, 3) := by decide +kernel
theorem dX7_night_94 : decode cX7_night 94 = .ok (.if_icmp .ge 48, 3) := by decide +kernel
theorem dX7_night_97 : decode cX7_night 97 = .ok (.aload_n 0, 1) := by decide +kernel
theorem dX7_night_98 : decode cX7_night 98 = .ok (.getfield 95, 3) := by decide +kernel
theorem dX7_night_101 : decode cX7_night 101 = .ok (.istore_n 3, 1) := by decide +kernel
theorem dX7_night_102 : decode cX7_night 102 = .ok (.aload_n 0, 1) := by decide +kernel
theorem dX7_night_103 : decode cX7_night 103 = .ok (.iconst 1, 1) := by decide +kernel
theorem dX7_night_104 : decode cX7_night 104 = .ok (.invokevirtual 124, 3) := by decide +kernel
theorem dX7_night_107 : decode cX7_night 107 = .ok (.ifCond .ne 22, 3) := by decide +kernel
theorem dX7_night_110 : decode cX7_night 110 = .ok (.aload_n 0, 1) := by decide +kernel
theorem dX7_night_111 : decode cX7_night 111 = .ok (.aload_n 0, 1) := by decide +kernel
theorem dX7_night_112 : decode cX7_night 112 = .ok (.getfield 43, 3) := by decide +kernel
theorem dX7_night_115 : decode cX7_night 115 = .ok (.invokevirtual 132, 3) := by decide +kernel
theorem dX7_night_118 : decode cX7_night 118 = .ok (.aload_n 0, 1) := by decide +kernel
theorem dX7_night_119 : decode cX7_night 119 = .ok (.iconst 0, 1) := by decide +kernel
theorem dX7_night_120 : decode cX7_night 120 = .ok (.putfield 92, 3) := by decide +kernel
theorem dX7_night_123 : decode cX7_night 123 = .ok (.sipush (-2000), 3) := by decide +kernel
theorem dX7_night_126 : decode cX7_night 126 = .ok (.iload_n 3, 1) := by decide +kernel
theorem dX7_night_127 : decode cX7_night 127 = .ok (.isub, 1) := by decide +kernel
theorem dX7_night_128 : decode cX7_night 128 = .ok (.ireturn, 1) := by decide +kernel
theorem dX7_night_129 : decode cX7_night 129 = .ok (.aload_n 0, 1) := by decide +kernel
theorem dX7_night_130 : decode cX7_night 130 = .ok (.bipush 59, 2) := by decide +kernel
theorem dX7_night_132 : decode cX7_night 132 = .ok (.invokevirtual 98, 3) := by decide +kernel
theorem dX7_night_135 : decode cX7_night 135 = .ok (.pop, 1) := by decide +kernel
theorem dX7_night_136 : decode cX7_night 136 = .ok (.iinc 2 1, 3) := by decide +kernel
theorem dX7_night_139 : decode cX7_night 139 = .ok (.goto (-53), 3) := by decide +kernel
theorem dX7_night_142 : decode cX7_night 142 = .ok (.aload_n 0, 1) := by decide +kernel
theorem dX7_night_143 : decode cX7_night 143 = .ok (.iconst 0, 1) := by decide +kernel
theorem dX7_night_144 : decode cX7_night 144 = .ok (.putfield 92, 3) := by decide +kernel
theorem dX7_night_147 : decode cX7_night 147 = .ok (.iload_n 2, 1) := by decide +kernel
theorem dX7_night_148 : decode cX7_night 148 = .ok (.ireturn, 1) := by decide +kernel
theorem dX7_fetches_0 : decode cX7_fetches 0 = .ok (.aload_n 0, 1) := by decide +kernel
theorem dX7_fetches_1 : decode cX7_fetches 1 = .ok (.getfield 7, 3) := by decide +kernel
theorem dX7_fetches_4 : decode cX7_fetches 4 = .ok (.iload_n 1, 1) := by decide +kernel
theorem dX7_fetches_5 : decode cX7_fetches 5 = .ok (.iaload, 1) := by decide +kernel
theorem dX7_fetches_6 : decode cX7_fetches 6 = .ok (.tableswitch 41 1 3 #[26, 28, 31], 26) := by decide +kernel
theorem dX7_fetches_32 : decode cX7_fetches 32 = .ok (.iconst 0, 1) := by decide +kernel
theorem dX7_fetches_33 : decode cX7_fetches 33 = .ok (.ireturn, 1) := by decide +kernel
theorem dX7_fetches_34 : decode cX7_fetches 34 = .ok (.bipush 39, 2) := by decide +kernel
theorem dX7_fetches_36 : decode cX7_fetches 36 = .ok (.ireturn, 1) := by decide +kernel
theorem dX7_fetches_37 : decode cX7_fetches 37 = .ok (.bipush 6, 2) := by decide +kernel
theorem dX7_fetches_39 : decode cX7_fetches 39 = .ok (.aload_n 0, 1) := by decide +kernel
theorem dX7_fetches_40 : decode cX7_fetches 40 = .ok (.getfield 13, 3) := by decide +kernel
theorem dX7_fetches_43 : decode cX7_fetches 43 = .ok (.iload_n 1, 1) := by decide +kernel
theorem dX7_fetches_44 : decode cX7_fetches 44 = .ok (.iaload, 1) := by decide +kernel
theorem dX7_fetches_45 : decode cX7_fetches 45 = .ok (.iadd, 1) := by decide +kernel
theorem dX7_fetches_46 : decode cX7_fetches 46 = .ok (.ireturn, 1) := by decide +kernel
theorem dX7_fetches_47 : decode cX7_fetches 47 = .ok (.bipush 6, 2) := by decide +kernel
theorem dX7_fetches_49 : decode cX7_fetches 49 = .ok (.ireturn, 1) := by decide +kernel
theorem dX7_costs_0 : decode cX7_costs 0 = .ok (.aload_n 0, 1) := by decide +kernel
theorem dX7_costs_1 : decode cX7_costs 1 = .ok (.getfield 7, 3) := by decide +kernel
theorem dX7_costs_4 : decode cX7_costs 4 = .ok (.iload_n 1, 1) := by decide +kernel
theorem dX7_costs_5 : decode cX7_costs 5 = .ok (.iaload, 1) := by decide +kernel
theorem dX7_costs_6 : decode cX7_costs 6 = .ok (.tableswitch 63 1 5 #[34, 43, 52, 61, 61], 34) := by decide +kernel
theorem dX7_costs_40 : decode cX7_costs 40 = .ok (.aload_n 0, 1) := by decide +kernel
theorem dX7_costs_41 : decode cX7_costs 41 = .ok (.getfield 25, 3) := by decide +kernel
theorem dX7_costs_44 : decode cX7_costs 44 = .ok (.iconst 2, 1) := by decide +kernel
theorem dX7_costs_45 : decode cX7_costs 45 = .ok (.iaload, 1) := by decide +kernel
theorem dX7_costs_46 : decode cX7_costs 46 = .ok (.iconst 2, 1) := by decide +kernel
theorem dX7_costs_47 : decode cX7_costs 47 = .ok (.idiv, 1) := by decide +kernel
theorem dX7_costs_48 : decode cX7_costs 48 = .ok (.ireturn, 1) := by decide +kernel
theorem dX7_costs_49 : decode cX7_costs 49 = .ok (.iconst 2, 1) := by decide +kernel
theorem dX7_costs_50 : decode cX7_costs 50 = .ok (.aload_n 0, 1) := by decide +kernel
theorem dX7_costs_51 : decode cX7_costs 51 = .ok (.getfield 25, 3) := by decide +kernel
theorem dX7_costs_54 : decode cX7_costs 54 = .ok (.iconst 2, 1) := by decide +kernel
theorem dX7_costs_55 : decode cX7_costs 55 = .ok (.iaload, 1) := by decide +kernel
theorem dX7_costs_56 : decode cX7_costs 56 = .ok (.imul, 1) := by decide +kernel
theorem dX7_costs_57 : decode cX7_costs 57 = .ok (.ireturn, 1) := by decide +kernel
theorem dX7_costs_58 : decode cX7_costs 58 = .ok (.aload_n 0, 1) := by decide +kernel
theorem dX7_costs_59 : decode cX7_costs 59 = .ok (.getfield 25, 3) := by decide +kernel
theorem dX7_costs_62 : decode cX7_costs 62 = .ok (.iconst 2, 1) := by decide +kernel
theorem dX7_costs_63 : decode cX7_costs 63 = .ok (.iaload, 1) := by decide +kernel
theorem dX7_costs_64 : decode cX7_costs 64 = .ok (.iconst 1, 1) := by decide +kernel
theorem dX7_costs_65 : decode cX7_costs 65 = .ok (.iadd, 1) := by decide +kernel
theorem dX7_costs_66 : decode cX7_costs 66 = .ok (.ireturn, 1) := by decide +kernel
theorem dX7_costs_67 : decode cX7_costs 67 = .ok (.iconst 0, 1) := by decide +kernel
theorem dX7_costs_68 : decode cX7_costs 68 = .ok (.ireturn, 1) := by decide +kernel
theorem dX7_costs_69 : decode cX7_costs 69 = .ok (.aload_n 0, 1) := by decide +kernel
theorem dX7_costs_70 : decode cX7_costs 70 = .ok (.getfield 25, 3) := by decide +kernel
theorem dX7_costs_73 : decode cX7_costs 73 = .ok (.iconst 2, 1) := by decide +kernel
theorem dX7_costs_74 : decode cX7_costs 74 = .ok (.iaload, 1) := by decide +kernel
theorem dX7_costs_75 : decode cX7_costs 75 = .ok (.ireturn, 1) := by decide +kernel
theorem dX7_goer_0 : decode cX7_goer 0 = .ok (.aload_n 0, 1) := by decide +kernel
theorem dX7_goer_1 : decode cX7_goer 1 = .ok (.iload_n 1, 1) := by decide +kernel
theorem dX7_goer_2 : decode cX7_goer 2 = .ok (.invokevirtual 121, 3) := by decide +kernel
theorem dX7_goer_5 : decode cX7_goer 5 = .ok (.ifCond .ne 9, 3) := by decide +kernel
theorem dX7_goer_8 : decode cX7_goer 8 = .ok (.aload_n 0, 1) := by decide +kernel
theorem dX7_goer_9 : decode cX7_goer 9 = .ok (.iconst (-1), 1) := by decide +kernel
theorem dX7_goer_10 : decode cX7_goer 10 = .ok (.invokevirtual 80, 3) := by decide +kernel
theorem dX7_goer_13 : decode cX7_goer 13 = .ok (.ireturn, 1) := by decide +kernel
theorem dX7_goer_14 : decode cX7_goer 14 = .ok (.iload_n 2, 1) := by decide +kernel
theorem dX7_goer_15 : decode cX7_goer 15 = .ok (.tableswitch 88 0 6 #[41, 48, 55, 62, 69, 76, 82], 41) := by decide +kernel
theorem dX7_goer_56 : decode cX7_goer 56 = .ok (.aload_n 0, 1) := by decide +kernel
theorem dX7_goer_57 : decode cX7_goer 57 = .ok (.getfield 7, 3) := by decide +kernel
theorem dX7_goer_60 : decode cX7_goer 60 = .ok (.iload_n 1, 1) := by decide +kernel
theorem dX7_goer_61 : decode cX7_goer 61 = .ok (.iaload, 1) := by decide +kernel
theorem dX7_goer_62 : decode cX7_goer 62 = .ok (.ireturn, 1) := by decide +kernel
theorem dX7_goer_63 : decode cX7_goer 63 = .ok (.aload_n 0, 1) := by decide +kernel
theorem dX7_goer_64 : decode cX7_goer 64 = .ok (.getfield 13, 3) := by decide +kernel
theorem dX7_goer_67 : decode cX7_goer 67 = .ok (.iload_n 1, 1) := by decide +kernel
theorem dX7_goer_68 : decode cX7_goer 68 = .ok (.iaload, 1) := by decide +kernel
theorem dX7_goer_69 : decode cX7_goer 69 = .ok (.ireturn, 1) := by decide +kernel
theorem dX7_goer_70 : decode cX7_goer 70 = .ok (.aload_n 0, 1) := by decide +kernel
theorem dX7_goer_71 : decode cX7_goer 71 = .ok (.getfield 16, 3) := by decide +kernel
theorem dX7_goer_74 : decode cX7_goer 74 = .ok (.iload_n 1, 1) := by decide +kernel
theorem dX7_goer_75 : decode cX7_goer 75 = .ok (.iaload, 1) := by decide +kernel
theorem dX7_goer_76 : decode cX7_goer 76 = .ok (.ireturn, 1) := by decide +kernel
theorem dX7_goer_77 : decode cX7_goer 77 = .ok (.aload_n 0, 1) := by decide +kernel
theorem dX7_goer_78 : decode cX7_goer 78 = .ok (.getfield 19, 3) := by decide +kernel
theorem dX7_goer_81 : decode cX7_goer 81 = .ok (.iload_n 1, 1) := by decide +kernel
theorem dX7_goer_82 : decode cX7_goer 82 = .ok (.iaload, 1) := by decide +kernel
theorem dX7_goer_83 : decode cX7_goer 83 = .ok (.ireturn, 1) := by decide +kernel
theorem dX7_goer_84 : decode cX7_goer 84 = .ok (.aload_n 0, 1) := by decide +kernel
theorem dX7_goer_85 : decode cX7_goer 85 = .ok (.getfield 22, 3) := by decide +kernel
theorem dX7_goer_88 : decode cX7_goer 88 = .ok (.iload_n 1, 1) := by decide +kernel
theorem dX7_goer_89 : decode cX7_goer 89 = .ok (.iaload, 1) := by decide +kernel
theorem dX7_goer_90 : decode cX7_goer 90 = .ok (.ireturn, 1) := by decide +kernel
theorem dX7_goer_91 : decode cX7_goer 91 = .ok (.aload_n 0, 1) := by decide +kernel
theorem dX7_goer_92 : decode cX7_goer 92 = .ok (.iload_n 1, 1) := by decide +kernel
theorem dX7_goer_93 : decode cX7_goer 93 = .ok (.invokevirtual 135, 3) := by decide +kernel
theorem dX7_goer_96 : decode cX7_goer 96 = .ok (.ireturn, 1) := by decide +kernel
theorem dX7_goer_97 : decode cX7_goer 97 = .ok (.aload_n 0, 1) := by decide +kernel
theorem dX7_goer_98 : decode cX7_goer 98 = .ok (.iload_n 1, 1) := by decide +kernel
theorem dX7_goer_99 : decode cX7_goer 99 = .ok (.invokevirtual 138, 3) := by decide +kernel
theorem dX7_goer_102 : decode cX7_goer 102 = .ok (.ireturn, 1) := by decide +kernel
theorem dX7_goer_103 : decode cX7_goer 103 = .ok (.aload_n 0, 1) := by decide +kernel
theorem dX7_goer_104 : decode cX7_goer 104 = .ok (.bipush (-2), 2) := by decide +kernel
theorem dX7_goer_106 : decode cX7_goer 106 = .ok (.invokevirtual 80, 3) := by decide +kernel
theorem dX7_goer_109 : decode cX7_goer 109 = .ok (.ireturn, 1) := by decide +kernel
theorem dX7_hour_0 : decode cX7_hour 0 = .ok (.aload_n 0, 1) := by decide +kernel
theorem dX7_hour_1 : decode cX7_hour 1 = .ok (.iload_n 1, 1) := by decide +kernel
theorem dX7_hour_2 : decode cX7_hour 2 = .ok (.invokevirtual 121, 3) := by decide +kernel
theorem dX7_hour_5 : decode cX7_hour 5 = .ok (.ifCond .ne 9, 3) := by decide +kernel
theorem dX7_hour_8 : decode cX7_hour 8 = .ok (.aload_n 0, 1) := by decide +kernel
theorem dX7_hour_9 : decode cX7_hour 9 = .ok (.iconst (-1), 1) := by decide +kernel
theorem dX7_hour_10 : decode cX7_hour 10 = .ok (.invokevirtual 80, 3) := by decide +kernel
theorem dX7_hour_13 : decode cX7_hour 13 = .ok (.ireturn, 1) := by decide +kernel
theorem dX7_hour_14 : decode cX7_hour 14 = .ok (.iload_n 2, 1) := by decide +kernel
theorem dX7_hour_15 : decode cX7_hour 15 = .ok (.ifCond .ge 10, 3) := by decide +kernel
theorem dX7_hour_18 : decode cX7_hour 18 = .ok (.aload_n 0, 1) := by decide +kernel
theorem dX7_hour_19 : decode cX7_hour 19 = .ok (.bipush (-4), 2) := by decide +kernel
theorem dX7_hour_21 : decode cX7_hour 21 = .ok (.invokevirtual 80, 3) := by decide +kernel
theorem dX7_hour_24 : decode cX7_hour 24 = .ok (.ireturn, 1) := by decide +kernel
theorem dX7_hour_25 : decode cX7_hour 25 = .ok (.iload_n 2, 1) := by decide +kernel
theorem dX7_hour_26 : decode cX7_hour 26 = .ok (.bipush 11, 2) := by decide +kernel
theorem dX7_hour_28 : decode cX7_hour 28 = .ok (.if_icmp .le 10, 3) := by decide +kernel
theorem dX7_hour_31 : decode cX7_hour 31 = .ok (.aload_n 0, 1) := by decide +kernel
theorem dX7_hour_32 : decode cX7_hour 32 = .ok (.bipush (-6), 2) := by decide +kernel
theorem dX7_hour_34 : decode cX7_hour 34 = .ok (.invokevirtual 80, 3) := by decide +kernel
theorem dX7_hour_37 : decode cX7_hour 37 = .ok (.ireturn, 1) := by decide +kernel
theorem dX7_hour_38 : decode cX7_hour 38 = .ok (.aload_n 0, 1) := by decide +kernel
theorem dX7_hour_39 : decode cX7_hour 39 = .ok (.getfield 22, 3) := by decide +kernel
theorem dX7_hour_42 : decode cX7_hour 42 = .ok (.iload_n 1, 1) := by decide +kernel
theorem dX7_hour_43 : decode cX7_hour 43 = .ok (.iaload, 1) := by decide +kernel
theorem dX7_hour_44 : decode cX7_hour 44 = .ok (.istore_n 3, 1) := by decide +kernel
theorem dX7_hour_45 : decode cX7_hour 45 = .ok (.aload_n 0, 1) := by decide +kernel
theorem dX7_hour_46 : decode cX7_hour 46 = .ok (.getfield 22, 3) := by decide +kernel
theorem dX7_hour_49 : decode cX7_hour 49 = .ok (.iload_n 1, 1) := by decide +kernel
theorem dX7_hour_50 : decode cX7_hour 50 = .ok (.iload_n 2, 1) := by decide +kernel
theorem dX7_hour_51 : decode cX7_hour 51 = .ok (.iastore, 1) := by decide +kernel
theorem dX7_hour_52 : decode cX7_hour 52 = .ok (.iload_n 3, 1) := by decide +kernel
theorem dX7_hour_53 : decode cX7_hour 53 = .ok (.ireturn, 1) := by decide +kernel
theorem dX7_set_0 : decode cX7_set 0 = .ok (.iload_n 1, 1) := by decide +kernel
theorem dX7_set_1 : decode cX7_set 1 = .ok (.iconst 0, 1) := by decide +kernel
theorem dX7_set_2 : decode cX7_set 2 = .ok (.iconst 2, 1) := by decide +kernel
theorem dX7_set_3 : decode cX7_set 3 = .ok (.invokestatic 88, 3) := by decide +kernel
theorem dX7_set_6 : decode cX7_set 6 = .ok (.ifCond .ne 10, 3) := by decide +kernel
theorem dX7_set_9 : decode cX7_set 9 = .ok (.aload_n 0, 1) := by decide +kernel
theorem dX7_set_10 : decode cX7_set 10 = .ok (.bipush (-2), 2) := by decide +kernel
theorem dX7_set_12 : decode cX7_set 12 = .ok (.invokevirtual 80, 3) := by decide +kernel
theorem dX7_set_15 : decode cX7_set 15 = .ok (.ireturn, 1) := by decide +kernel
theorem dX7_set_16 : decode cX7_set 16 = .ok (.iload_n 2, 1) := by decide +kernel
theorem dX7_set_17 : decode cX7_set 17 = .ok (.ifCond .ge 10, 3) := by decide +kernel
theorem dX7_set_20 : decode cX7_set 20 = .ok (.aload_n 0, 1) := by decide +kernel
theorem dX7_set_21 : decode cX7_set 21 = .ok (.bipush (-4), 2) := by decide +kernel
theorem dX7_set_23 : decode cX7_set 23 = .ok (.invokevirtual 80, 3) := by decide +kernel
theorem dX7_set_26 : decode cX7_set 26 = .ok (.ireturn, 1) := by decide +kernel
theorem dX7_set_27 : decode cX7_set 27 = .ok (.iload_n 2, 1) := by decide +kernel
theorem dX7_set_28 : decode cX7_set 28 = .ok (.iload_n 1, 1) := by decide +kernel
theorem dX7_set_29 : decode cX7_set 29 = .ok (.invokestatic 141, 3) := by decide +kernel
theorem dX7_set_32 : decode cX7_set 32 = .ok (.if_icmp .le 10, 3) := by decide +kernel
theorem dX7_set_35 : decode cX7_set 35 = .ok (.aload_n 0, 1) := by decide +kernel
theorem dX7_set_36 : decode cX7_set 36 = .ok (.bipush (-6), 2) := by decide +kernel
theorem dX7_set_38 : decode cX7_set 38 = .ok (.invokevirtual 80, 3) := by decide +kernel
theorem dX7_set_41 : decode cX7_set 41 = .ok (.ireturn, 1) := by decide +kernel
theorem dX7_set_42 : decode cX7_set 42 = .ok (.aload_n 0, 1) := by decide +kernel
theorem dX7_set_43 : decode cX7_set 43 = .ok (.getfield 25, 3) := by decide +kernel
theorem dX7_set_46 : decode cX7_set 46 = .ok (.iload_n 1, 1) := by decide +kernel
theorem dX7_set_47 : decode cX7_set 47 = .ok (.iaload, 1) := by decide +kernel
theorem dX7_set_48 : decode cX7_set 48 = .ok (.istore_n 3, 1) := by decide +kernel
theorem dX7_set_49 : decode cX7_set 49 = .ok (.aload_n 0, 1) := by decide +kernel
theorem dX7_set_50 : decode cX7_set 50 = .ok (.getfield 25, 3) := by decide +kernel
theorem dX7_set_53 : decode cX7_set 53 = .ok (.iload_n 1, 1) := by decide +kernel
theorem dX7_set_54 : decode cX7_set 54 = .ok (.iload_n 2, 1) := by decide +kernel
theorem dX7_set_55 : decode cX7_set 55 = .ok (.iastore, 1) := by decide +kernel
theorem dX7_set_56 : decode cX7_set 56 = .ok (.iload_n 3, 1) := by decide +kernel
theorem dX7_set_57 : decode cX7_set 57 = .ok (.ireturn, 1) := by decide +kernel
theorem dX7_walksDark_0 : decode cX7_walksDark 0 = .ok (.aload_n 0, 1) := by decide +kernel
theorem dX7_walksDark_1 : decode cX7_walksDark 1 = .ok (.getfield 55, 3) := by decide +kernel
theorem dX7_walksDark_4 : decode cX7_walksDark 4 = .ok (.iload_n 1, 1) := by decide +kernel
theorem dX7_walksDark_5 : decode cX7_walksDark 5 = .ok (.dup2, 1) := by decide +kernel
theorem dX7_walksDark_6 : decode cX7_walksDark 6 = .ok (.iaload, 1) := by decide +kernel
theorem dX7_walksDark_7 : decode cX7_walksDark 7 = .ok (.iload_n 2, 1) := by decide +kernel
theorem dX7_walksDark_8 : decode cX7_walksDark 8 = .ok (.iload_n 3, 1) := by decide +kernel
theorem dX7_walksDark_9 : decode cX7_walksDark 9 = .ok (.isub, 1) := by decide +kernel
theorem dX7_walksDark_10 : decode cX7_walksDark 10 = .ok (.invokestatic 144, 3) := by decide +kernel
theorem dX7_walksDark_13 : decode cX7_walksDark 13 = .ok (.iadd, 1) := by decide +kernel
theorem dX7_walksDark_14 : decode cX7_walksDark 14 = .ok (.iastore, 1) := by decide +kernel
theorem dX7_walksDark_15 : decode cX7_walksDark 15 = .ok (.return_, 1) := by decide +kernel
theorem dX7_carries_0 : decode cX7_carries 0 = .ok (.aload_n 0, 1) := by decide +kernel
theorem dX7_carries_1 : decode cX7_carries 1 = .ok (.getfield 49, 3) := by decide +kernel
theorem dX7_carries_4 : decode cX7_carries 4 = .ok (.iload_n 2, 1) := by decide +kernel
theorem dX7_carries_5 : decode cX7_carries 5 = .ok (.iaload, 1) := by decide +kernel
theorem dX7_carries_6 : decode cX7_carries 6 = .ok (.iload_n 3, 1) := by decide +kernel
theorem dX7_carries_7 : decode cX7_carries 7 = .ok (.isub, 1) := by decide +kernel
theorem dX7_carries_8 : decode cX7_carries 8 = .ok (.invokestatic 144, 3) := by decide +kernel
theorem dX7_carries_11 : decode cX7_carries 11 = .ok (.istore 4, 2) := by decide +kernel
theorem dX7_carries_13 : decode cX7_carries 13 = .ok (.iload 4, 2) := by decide +kernel
theorem dX7_carries_15 : decode cX7_carries 15 = .ok (.aload_n 0, 1) := by decide +kernel
theorem dX7_carries_16 : decode cX7_carries 16 = .ok (.getfield 52, 3) := by decide +kernel
theorem dX7_carries_19 : decode cX7_carries 19 = .ok (.iload_n 2, 1) := by decide +kernel
theorem dX7_carries_20 : decode cX7_carries 20 = .ok (.iaload, 1) := by decide +kernel
theorem dX7_carries_21 : decode cX7_carries 21 = .ok (.invokestatic 149, 3) := by decide +kernel
theorem dX7_carries_24 : decode cX7_carries 24 = .ok (.istore 5, 2) := by decide +kernel
theorem dX7_carries_26 : decode cX7_carries 26 = .ok (.aload_n 0, 1) := by decide +kernel
theorem dX7_carries_27 : decode cX7_carries 27 = .ok (.getfield 52, 3) := by decide +kernel
theorem dX7_carries_30 : decode cX7_carries 30 = .ok (.iload_n 2, 1) := by decide +kernel
theorem dX7_carries_31 : decode cX7_carries 31 = .ok (.dup2, 1) := by decide +kernel
theorem dX7_carries_32 : decode cX7_carries 32 = .ok (.iaload, 1) := by decide +kernel
theorem dX7_carries_33 : decode cX7_carries 33 = .ok (.iload 5, 2) := by decide +kernel
theorem dX7_carries_35 : decode cX7_carries 35 = .ok (.isub, 1) := by decide +kernel
theorem dX7_carries_36 : decode cX7_carries 36 = .ok (.iastore, 1) := by decide +kernel
theorem dX7_carries_37 : decode cX7_carries 37 = .ok (.aload_n 0, 1) := by decide +kernel
theorem dX7_carries_38 : decode cX7_carries 38 = .ok (.getfield 58, 3) := by decide +kernel
theorem dX7_carries_41 : decode cX7_carries 41 = .ok (.iload_n 1, 1) := by decide +kernel
theorem dX7_carries_42 : decode cX7_carries 42 = .ok (.dup2, 1) := by decide +kernel
theorem dX7_carries_43 : decode cX7_carries 43 = .ok (.iaload, 1) := by decide +kernel
theorem dX7_carries_44 : decode cX7_carries 44 = .ok (.iload 5, 2) := by decide +kernel
theorem dX7_carries_46 : decode cX7_carries 46 = .ok (.iadd, 1) := by decide +kernel
theorem dX7_carries_47 : decode cX7_carries 47 = .ok (.iastore, 1) := by decide +kernel
theorem dX7_carries_48 : decode cX7_carries 48 = .ok (.aload_n 0, 1) := by decide +kernel
theorem dX7_carries_49 : decode cX7_carries 49 = .ok (.getfield 55, 3) := by decide +kernel
theorem dX7_carries_52 : decode cX7_carries 52 = .ok (.iload_n 1, 1) := by decide +kernel
theorem dX7_carries_53 : decode cX7_carries 53 = .ok (.dup2, 1) := by decide +kernel
theorem dX7_carries_54 : decode cX7_carries 54 = .ok (.iaload, 1) := by decide +kernel
theorem dX7_carries_55 : decode cX7_carries 55 = .ok (.iload 4, 2) := by decide +kernel
theorem dX7_carries_57 : decode cX7_carries 57 = .ok (.iload 5, 2) := by decide +kernel
theorem dX7_carries_59 : decode cX7_carries 59 = .ok (.isub, 1) := by decide +kernel
theorem dX7_carries_60 : decode cX7_carries 60 = .ok (.iadd, 1) := by decide +kernel
theorem dX7_carries_61 : decode cX7_carries 61 = .ok (.iastore, 1) := by decide +kernel
theorem dX7_carries_62 : decode cX7_carries 62 = .ok (.aload_n 0, 1) := by decide +kernel
theorem dX7_carries_63 : decode cX7_carries 63 = .ok (.getfield 49, 3) := by decide +kernel
theorem dX7_carries_66 : decode cX7_carries 66 = .ok (.iload_n 2, 1) := by decide +kernel
theorem dX7_carries_67 : decode cX7_carries 67 = .ok (.iload_n 3, 1) := by decide +kernel
theorem dX7_carries_68 : decode cX7_carries 68 = .ok (.iastore, 1) := by decide +kernel
theorem dX7_carries_69 : decode cX7_carries 69 = .ok (.return_, 1) := by decide +kernel
theorem dX7_carriedTo_0 : decode cX7_carriedTo 0 = .ok (.aload_n 0, 1) := by decide +kernel
theorem dX7_carriedTo_1 : decode cX7_carriedTo 1 = .ok (.getfield 7, 3) := by decide +kernel
theorem dX7_carriedTo_4 : decode cX7_carriedTo 4 = .ok (.iload_n 1, 1) := by decide +kernel
theorem dX7_carriedTo_5 : decode cX7_carriedTo 5 = .ok (.iaload, 1) := by decide +kernel
theorem dX7_carriedTo_6 : decode cX7_carriedTo 6 = .ok (.iconst 5, 1) := by decide +kernel
theorem dX7_carriedTo_7 : decode cX7_carriedTo 7 = .ok (.if_icmp .ne 5, 3) := by decide +kernel
theorem dX7_carriedTo_10 : decode cX7_carriedTo 10 = .ok (.iload_n 2, 1) := by decide +kernel
theorem dX7_carriedTo_11 : decode cX7_carriedTo 11 = .ok (.ireturn, 1) := by decide +kernel
theorem dX7_carriedTo_12 : decode cX7_carriedTo 12 = .ok (.aload_n 0, 1) := by decide +kernel
theorem dX7_carriedTo_13 : decode cX7_carriedTo 13 = .ok (.getfield 7, 3) := by decide +kernel
theorem dX7_carriedTo_16 : decode cX7_carriedTo 16 = .ok (.iload_n 1, 1) := by decide +kernel
theorem dX7_carriedTo_17 : decode cX7_carriedTo 17 = .ok (.iaload, 1) := by decide +kernel
theorem dX7_carriedTo_18 : decode cX7_carriedTo 18 = .ok (.iconst 1, 1) := by decide +kernel
theorem dX7_carriedTo_19 : decode cX7_carriedTo 19 = .ok (.if_icmp .eq 10, 3) := by decide +kernel
theorem dX7_carriedTo_22 : decode cX7_carriedTo 22 = .ok (.aload_n 0, 1) := by decide +kernel
theorem dX7_carriedTo_23 : decode cX7_carriedTo 23 = .ok (.getfield 19, 3) := by decide +kernel
theorem dX7_carriedTo_26 : decode cX7_carriedTo 26 = .ok (.iload_n 1, 1) := by decide +kernel
theorem dX7_carriedTo_27 : decode cX7_carriedTo 27 = .ok (.iaload, 1) := by decide +kernel
theorem dX7_carriedTo_28 : decode cX7_carriedTo 28 = .ok (.ireturn, 1) := by decide +kernel
theorem dX7_carriedTo_29 : decode cX7_carriedTo 29 = .ok (.aload_n 0, 1) := by decide +kernel
theorem dX7_carriedTo_30 : decode cX7_carriedTo 30 = .ok (.getfield 19, 3) := by decide +kernel
theorem dX7_carriedTo_33 : decode cX7_carriedTo 33 = .ok (.iload_n 1, 1) := by decide +kernel
theorem dX7_carriedTo_34 : decode cX7_carriedTo 34 = .ok (.iaload, 1) := by decide +kernel
theorem dX7_carriedTo_35 : decode cX7_carriedTo 35 = .ok (.iload_n 2, 1) := by decide +kernel
theorem dX7_carriedTo_36 : decode cX7_carriedTo 36 = .ok (.isub, 1) := by decide +kernel
theorem dX7_carriedTo_37 : decode cX7_carriedTo 37 = .ok (.istore_n 3, 1) := by decide +kernel
theorem dX7_carriedTo_38 : decode cX7_carriedTo 38 = .ok (.iload_n 3, 1) := by decide +kernel
theorem dX7_carriedTo_39 : decode cX7_carriedTo 39 = .ok (.invokestatic 144, 3) := by decide +kernel
theorem dX7_carriedTo_42 : decode cX7_carriedTo 42 = .ok (.aload_n 0, 1) := by decide +kernel
theorem dX7_carriedTo_43 : decode cX7_carriedTo 43 = .ok (.getfield 13, 3) := by decide +kernel
theorem dX7_carriedTo_46 : decode cX7_carriedTo 46 = .ok (.iload_n 1, 1) := by decide +kernel
theorem dX7_carriedTo_47 : decode cX7_carriedTo 47 = .ok (.iaload, 1) := by decide +kernel
theorem dX7_carriedTo_48 : decode cX7_carriedTo 48 = .ok (.if_icmp .gt 5, 3) := by decide +kernel
theorem dX7_carriedTo_51 : decode cX7_carriedTo 51 = .ok (.iload_n 2, 1) := by decide +kernel
theorem dX7_carriedTo_52 : decode cX7_carriedTo 52 = .ok (.ireturn, 1) := by decide +kernel
theorem dX7_carriedTo_53 : decode cX7_carriedTo 53 = .ok (.iload_n 3, 1) := by decide +kernel
theorem dX7_carriedTo_54 : decode cX7_carriedTo 54 = .ok (.ifCond .le 19, 3) := by decide +kernel
theorem dX7_carriedTo_57 : decode cX7_carriedTo 57 = .ok (.aload_n 0, 1) := by decide +kernel
theorem dX7_carriedTo_58 : decode cX7_carriedTo 58 = .ok (.getfield 19, 3) := by decide +kernel
theorem dX7_carriedTo_61 : decode cX7_carriedTo 61 = .ok (.iload_n 1, 1) := by decide +kernel
theorem dX7_carriedTo_62 : decode cX7_carriedTo 62 = .ok (.iaload, 1) := by decide +kernel
theorem dX7_carriedTo_63 : decode cX7_carriedTo 63 = .ok (.aload_n 0, 1) := by decide +kernel
theorem dX7_carriedTo_64 : decode cX7_carriedTo 64 = .ok (.getfield 13, 3) := by decide +kernel
theorem dX7_carriedTo_67 : decode cX7_carriedTo 67 = .ok (.iload_n 1, 1) := by decide +kernel
theorem dX7_carriedTo_68 : decode cX7_carriedTo 68 = .ok (.iaload, 1) := by decide +kernel
theorem dX7_carriedTo_69 : decode cX7_carriedTo 69 = .ok (.isub, 1) := by decide +kernel
theorem dX7_carriedTo_70 : decode cX7_carriedTo 70 = .ok (.goto 16, 3) := by decide +kernel
theorem dX7_carriedTo_73 : decode cX7_carriedTo 73 = .ok (.aload_n 0, 1) := by decide +kernel
theorem dX7_carriedTo_74 : decode cX7_carriedTo 74 = .ok (.getfield 19, 3) := by decide +kernel
theorem dX7_carriedTo_77 : decode cX7_carriedTo 77 = .ok (.iload_n 1, 1) := by decide +kernel
theorem dX7_carriedTo_78 : decode cX7_carriedTo 78 = .ok (.iaload, 1) := by decide +kernel
theorem dX7_carriedTo_79 : decode cX7_carriedTo 79 = .ok (.aload_n 0, 1) := by decide +kernel
theorem dX7_carriedTo_80 : decode cX7_carriedTo 80 = .ok (.getfield 13, 3) := by decide +kernel
theorem dX7_carriedTo_83 : decode cX7_carriedTo 83 = .ok (.iload_n 1, 1) := by decide +kernel
theorem dX7_carriedTo_84 : decode cX7_carriedTo 84 = .ok (.iaload, 1) := by decide +kernel
theorem dX7_carriedTo_85 : decode cX7_carriedTo 85 = .ok (.iadd, 1) := by decide +kernel
theorem dX7_carriedTo_86 : decode cX7_carriedTo 86 = .ok (.ireturn, 1) := by decide +kernel
theorem dX7_nearer_0 : decode cX7_nearer 0 = .ok (.bipush (-9), 2) := by decide +kernel
theorem dX7_nearer_2 : decode cX7_nearer 2 = .ok (.istore_n 2, 1) := by decide +kernel
theorem dX7_nearer_3 : decode cX7_nearer 3 = .ok (.iconst 0, 1) := by decide +kernel
theorem dX7_nearer_4 : decode cX7_nearer 4 = .ok (.istore_n 3, 1) := by decide +kernel
theorem dX7_nearer_5 : decode cX7_nearer 5 = .ok (.iload_n 3, 1) := by decide +kernel
theorem dX7_nearer_6 : decode cX7_nearer 6 = .ok (.aload_n 0, 1) := by decide +kernel
theorem dX7_nearer_7 : decode cX7_nearer 7 = .ok (.getfield 153, 3) := by decide +kernel
theorem dX7_nearer_10 : decode cX7_nearer 10 = .ok (.if_icmp .ge 61, 3) := by decide +kernel
theorem dX7_nearer_13 : decode cX7_nearer 13 = .ok (.aload_n 0, 1) := by decide +kernel
theorem dX7_nearer_14 : decode cX7_nearer 14 = .ok (.getfield 52, 3) := by decide +kernel
theorem dX7_nearer_17 : decode cX7_nearer 17 = .ok (.iload_n 3, 1) := by decide +kernel
theorem dX7_nearer_18 : decode cX7_nearer 18 = .ok (.iaload, 1) := by decide +kernel
theorem dX7_nearer_19 : decode cX7_nearer 19 = .ok (.ifCond .le 46, 3) := by decide +kernel
theorem dX7_nearer_22 : decode cX7_nearer 22 = .ok (.iload_n 2, 1) := by decide +kernel
theorem dX7_nearer_23 : decode cX7_nearer 23 = .ok (.bipush (-9), 2) := by decide +kernel
theorem dX7_nearer_25 : decode cX7_nearer 25 = .ok (.if_icmp .eq 38, 3) := by decide +kernel
theorem dX7_nearer_28 : decode cX7_nearer 28 = .ok (.aload_n 0, 1) := by decide +kernel
theorem dX7_nearer_29 : decode cX7_nearer 29 = .ok (.getfield 49, 3) := by decide +kernel
theorem dX7_nearer_32 : decode cX7_nearer 32 = .ok (.iload_n 3, 1) := by decide +kernel
theorem dX7_nearer_33 : decode cX7_nearer 33 = .ok (.iaload, 1) := by decide +kernel
theorem dX7_nearer_34 : decode cX7_nearer 34 = .ok (.aload_n 0, 1) := by decide +kernel
theorem dX7_nearer_35 : decode cX7_nearer 35 = .ok (.getfield 16, 3) := by decide +kernel
theorem dX7_nearer_38 : decode cX7_nearer 38 = .ok (.iload_n 1, 1) := by decide +kernel
theorem dX7_nearer_39 : decode cX7_nearer 39 = .ok (.iaload, 1) := by decide +kernel
theorem dX7_nearer_40 : decode cX7_nearer 40 = .ok (.isub, 1) := by decide +kernel
theorem dX7_nearer_41 : decode cX7_nearer 41 = .ok (.invokestatic 144, 3) := by decide +kernel
theorem dX7_nearer_44 : decode cX7_nearer 44 = .ok (.aload_n 0, 1) := by decide +kernel
theorem dX7_nearer_45 : decode cX7_nearer 45 = .ok (.getfield 49, 3) := by decide +kernel
theorem dX7_nearer_48 : decode cX7_nearer 48 = .ok (.iload_n 2, 1) := by decide +kernel
theorem dX7_nearer_49 : decode cX7_nearer 49 = .ok (.iaload, 1) := by decide +kernel
theorem dX7_nearer_50 : decode cX7_nearer 50 = .ok (.aload_n 0, 1) := by decide +kernel
theorem dX7_nearer_51 : decode cX7_nearer 51 = .ok (.getfield 16, 3) := by decide +kernel
theorem dX7_nearer_54 : decode cX7_nearer 54 = .ok (.iload_n 1, 1) := by decide +kernel
theorem dX7_nearer_55 : decode cX7_nearer 55 = .ok (.iaload, 1) := by decide +kernel
theorem dX7_nearer_56 : decode cX7_nearer 56 = .ok (.isub, 1) := by decide +kernel
theorem dX7_nearer_57 : decode cX7_nearer 57 = .ok (.invokestatic 144, 3) := by decide +kernel
theorem dX7_nearer_60 : decode cX7_nearer 60 = .ok (.if_icmp .ge 5, 3) := by decide +kernel
theorem dX7_nearer_63 : decode cX7_nearer 63 = .ok (.iload_n 3, 1) := by decide +kernel
theorem dX7_nearer_64 : decode cX7_nearer 64 = .ok (.istore_n 2, 1) := by decide +kernel
theorem dX7_nearer_65 : decode cX7_nearer 65 = .ok (.iinc 3 1, 3) := by decide +kernel
theorem dX7_nearer_68 : decode cX7_nearer 68 = .ok (.goto (-63), 3) := by decide +kernel
theorem dX7_nearer_71 : decode cX7_nearer 71 = .ok (.iload_n 2, 1) := by decide +kernel
theorem dX7_nearer_72 : decode cX7_nearer 72 = .ok (.ireturn, 1) := by decide +kernel
theorem dX7_goes_0 : decode cX7_goes 0 = .ok (.aload_n 0, 1) := by decide +kernel
theorem dX7_goes_1 : decode cX7_goes 1 = .ok (.getfield 55, 3) := by decide +kernel
theorem dX7_goes_4 : decode cX7_goes 4 = .ok (.iload_n 1, 1) := by decide +kernel
theorem dX7_goes_5 : decode cX7_goes 5 = .ok (.iconst 0, 1) := by decide +kernel
theorem dX7_goes_6 : decode cX7_goes 6 = .ok (.iastore, 1) := by decide +kernel
theorem dX7_goes_7 : decode cX7_goes 7 = .ok (.aload_n 0, 1) := by decide +kernel
theorem dX7_goes_8 : decode cX7_goes 8 = .ok (.getfield 58, 3) := by decide +kernel
theorem dX7_goes_11 : decode cX7_goes 11 = .ok (.iload_n 1, 1) := by decide +kernel
theorem dX7_goes_12 : decode cX7_goes 12 = .ok (.iconst 0, 1) := by decide +kernel
theorem dX7_goes_13 : decode cX7_goes 13 = .ok (.iastore, 1) := by decide +kernel
theorem dX7_goes_14 : decode cX7_goes 14 = .ok (.aload_n 0, 1) := by decide +kernel
theorem dX7_goes_15 : decode cX7_goes 15 = .ok (.getfield 61, 3) := by decide +kernel
theorem dX7_goes_18 : decode cX7_goes 18 = .ok (.iload_n 1, 1) := by decide +kernel
theorem dX7_goes_19 : decode cX7_goes 19 = .ok (.aload_n 0, 1) := by decide +kernel
theorem dX7_goes_20 : decode cX7_goes 20 = .ok (.getfield 49, 3) := by decide +kernel
theorem dX7_goes_23 : decode cX7_goes 23 = .ok (.iconst 0, 1) := by decide +kernel
theorem dX7_goes_24 : decode cX7_goes 24 = .ok (.iaload, 1) := by decide +kernel
theorem dX7_goes_25 : decode cX7_goes 25 = .ok (.iastore, 1) := by decide +kernel
theorem dX7_goes_26 : decode cX7_goes 26 = .ok (.aload_n 0, 1) := by decide +kernel
theorem dX7_goes_27 : decode cX7_goes 27 = .ok (.iload_n 1, 1) := by decide +kernel
theorem dX7_goes_28 : decode cX7_goes 28 = .ok (.invokevirtual 156, 3) := by decide +kernel
theorem dX7_goes_31 : decode cX7_goes 31 = .ok (.istore_n 2, 1) := by decide +kernel
theorem dX7_goes_32 : decode cX7_goes 32 = .ok (.iload_n 2, 1) := by decide +kernel
theorem dX7_goes_33 : decode cX7_goes 33 = .ok (.bipush (-9), 2) := by decide +kernel
theorem dX7_goes_35 : decode cX7_goes 35 = .ok (.if_icmp .eq 27, 3) := by decide +kernel
theorem dX7_goes_38 : decode cX7_goes 38 = .ok (.aload_n 0, 1) := by decide +kernel
theorem dX7_goes_39 : decode cX7_goes 39 = .ok (.getfield 49, 3) := by decide +kernel
theorem dX7_goes_42 : decode cX7_goes 42 = .ok (.iload_n 2, 1) := by decide +kernel
theorem dX7_goes_43 : decode cX7_goes 43 = .ok (.iaload, 1) := by decide +kernel
theorem dX7_goes_44 : decode cX7_goes 44 = .ok (.aload_n 0, 1) := by decide +kernel
theorem dX7_goes_45 : decode cX7_goes 45 = .ok (.getfield 16, 3) := by decide +kernel
theorem dX7_goes_48 : decode cX7_goes 48 = .ok (.iload_n 1, 1) := by decide +kernel
theorem dX7_goes_49 : decode cX7_goes 49 = .ok (.iaload, 1) := by decide +kernel
theorem dX7_goes_50 : decode cX7_goes 50 = .ok (.isub, 1) := by decide +kernel
theorem dX7_goes_51 : decode cX7_goes 51 = .ok (.invokestatic 144, 3) := by decide +kernel
theorem dX7_goes_54 : decode cX7_goes 54 = .ok (.aload_n 0, 1) := by decide +kernel
theorem dX7_goes_55 : decode cX7_goes 55 = .ok (.iload_n 1, 1) := by decide +kernel
theorem dX7_goes_56 : decode cX7_goes 56 = .ok (.invokevirtual 135, 3) := by decide +kernel
theorem dX7_goes_59 : decode cX7_goes 59 = .ok (.if_icmp .le 29, 3) := by decide +kernel
theorem dX7_goes_62 : decode cX7_goes 62 = .ok (.aload_n 0, 1) := by decide +kernel
theorem dX7_goes_63 : decode cX7_goes 63 = .ok (.getfield 64, 3) := by decide +kernel
theorem dX7_goes_66 : decode cX7_goes 66 = .ok (.iload_n 1, 1) := by decide +kernel
theorem dX7_goes_67 : decode cX7_goes 67 = .ok (.bipush (-9), 2) := by decide +kernel
theorem dX7_goes_69 : decode cX7_goes 69 = .ok (.iastore, 1) := by decide +kernel
theorem dX7_goes_70 : decode cX7_goes 70 = .ok (.aload_n 0, 1) := by decide +kernel
theorem dX7_goes_71 : decode cX7_goes 71 = .ok (.iload_n 1, 1) := by decide +kernel
theorem dX7_goes_72 : decode cX7_goes 72 = .ok (.aload_n 0, 1) := by decide +kernel
theorem dX7_goes_73 : decode cX7_goes 73 = .ok (.getfield 16, 3) := by decide +kernel
theorem dX7_goes_76 : decode cX7_goes 76 = .ok (.iload_n 1, 1) := by decide +kernel
theorem dX7_goes_77 : decode cX7_goes 77 = .ok (.iaload, 1) := by decide +kernel
theorem dX7_goes_78 : decode cX7_goes 78 = .ok (.aload_n 0, 1) := by decide +kernel
theorem dX7_goes_79 : decode cX7_goes 79 = .ok (.getfield 19, 3) := by decide +kernel
theorem dX7_goes_82 : decode cX7_goes 82 = .ok (.iload_n 1, 1) := by decide +kernel
theorem dX7_goes_83 : decode cX7_goes 83 = .ok (.iaload, 1) := by decide +kernel
theorem dX7_goes_84 : decode cX7_goes 84 = .ok (.invokevirtual 159, 3) := by decide +kernel
theorem dX7_goes_87 : decode cX7_goes 87 = .ok (.return_, 1) := by decide +kernel
theorem dX7_goes_88 : decode cX7_goes 88 = .ok (.aload_n 0, 1) := by decide +kernel
theorem dX7_goes_89 : decode cX7_goes 89 = .ok (.getfield 64, 3) := by decide +kernel
theorem dX7_goes_92 : decode cX7_goes 92 = .ok (.iload_n 1, 1) := by decide +kernel
theorem dX7_goes_93 : decode cX7_goes 93 = .ok (.iload_n 2, 1) := by decide +kernel
theorem dX7_goes_94 : decode cX7_goes 94 = .ok (.iastore, 1) := by decide +kernel
theorem dX7_goes_95 : decode cX7_goes 95 = .ok (.aload_n 0, 1) := by decide +kernel
theorem dX7_goes_96 : decode cX7_goes 96 = .ok (.iload_n 1, 1) := by decide +kernel
theorem dX7_goes_97 : decode cX7_goes 97 = .ok (.putfield 163, 3) := by decide +kernel
theorem dX7_goes_100 : decode cX7_goes 100 = .ok (.aload_n 0, 1) := by decide +kernel
theorem dX7_goes_101 : decode cX7_goes 101 = .ok (.iload_n 1, 1) := by decide +kernel
theorem dX7_goes_102 : decode cX7_goes 102 = .ok (.aload_n 0, 1) := by decide +kernel
theorem dX7_goes_103 : decode cX7_goes 103 = .ok (.getfield 16, 3) := by decide +kernel
theorem dX7_goes_106 : decode cX7_goes 106 = .ok (.iload_n 1, 1) := by decide +kernel
theorem dX7_goes_107 : decode cX7_goes 107 = .ok (.iaload, 1) := by decide +kernel
theorem dX7_goes_108 : decode cX7_goes 108 = .ok (.aload_n 0, 1) := by decide +kernel
theorem dX7_goes_109 : decode cX7_goes 109 = .ok (.getfield 49, 3) := by decide +kernel
theorem dX7_goes_112 : decode cX7_goes 112 = .ok (.iload_n 2, 1) := by decide +kernel
theorem dX7_goes_113 : decode cX7_goes 113 = .ok (.iaload, 1) := by decide +kernel
theorem dX7_goes_114 : decode cX7_goes 114 = .ok (.invokevirtual 159, 3) := by decide +kernel
theorem dX7_goes_117 : decode cX7_goes 117 = .ok (.aload_n 0, 1) := by decide +kernel
theorem dX7_goes_118 : decode cX7_goes 118 = .ok (.iload_n 1, 1) := by decide +kernel
theorem dX7_goes_119 : decode cX7_goes 119 = .ok (.iload_n 2, 1) := by decide +kernel
theorem dX7_goes_120 : decode cX7_goes 120 = .ok (.aload_n 0, 1) := by decide +kernel
theorem dX7_goes_121 : decode cX7_goes 121 = .ok (.iload_n 1, 1) := by decide +kernel
theorem dX7_goes_122 : decode cX7_goes 122 = .ok (.aload_n 0, 1) := by decide +kernel
theorem dX7_goes_123 : decode cX7_goes 123 = .ok (.getfield 49, 3) := by decide +kernel
theorem dX7_goes_126 : decode cX7_goes 126 = .ok (.iload_n 2, 1) := by decide +kernel
theorem dX7_goes_127 : decode cX7_goes 127 = .ok (.iaload, 1) := by decide +kernel
theorem dX7_goes_128 : decode cX7_goes 128 = .ok (.invokevirtual 166, 3) := by decide +kernel
theorem dX7_goes_131 : decode cX7_goes 131 = .ok (.invokevirtual 169, 3) := by decide +kernel
theorem dX7_goes_134 : decode cX7_goes 134 = .ok (.aload_n 0, 1) := by decide +kernel
theorem dX7_goes_135 : decode cX7_goes 135 = .ok (.iload_n 1, 1) := by decide +kernel
theorem dX7_goes_136 : decode cX7_goes 136 = .ok (.aload_n 0, 1) := by decide +kernel
theorem dX7_goes_137 : decode cX7_goes 137 = .ok (.getfield 49, 3) := by decide +kernel
theorem dX7_goes_140 : decode cX7_goes 140 = .ok (.iload_n 2, 1) := by decide +kernel
theorem dX7_goes_141 : decode cX7_goes 141 = .ok (.iaload, 1) := by decide +kernel
theorem dX7_goes_142 : decode cX7_goes 142 = .ok (.aload_n 0, 1) := by decide +kernel
theorem dX7_goes_143 : decode cX7_goes 143 = .ok (.getfield 19, 3) := by decide +kernel
theorem dX7_goes_146 : decode cX7_goes 146 = .ok (.iload_n 1, 1) := by decide +kernel
theorem dX7_goes_147 : decode cX7_goes 147 = .ok (.iaload, 1) := by decide +kernel
theorem dX7_goes_148 : decode cX7_goes 148 = .ok (.invokevirtual 159, 3) := by decide +kernel
theorem dX7_goes_151 : decode cX7_goes 151 = .ok (.aload_n 0, 1) := by decide +kernel
theorem dX7_goes_152 : decode cX7_goes 152 = .ok (.getfield 7, 3) := by decide +kernel
theorem dX7_goes_155 : decode cX7_goes 155 = .ok (.iload_n 1, 1) := by decide +kernel
theorem dX7_goes_156 : decode cX7_goes 156 = .ok (.iaload, 1) := by decide +kernel
theorem dX7_goes_157 : decode cX7_goes 157 = .ok (.iconst 3, 1) := by decide +kernel
theorem dX7_goes_158 : decode cX7_goes 158 = .ok (.if_icmp .ne 15, 3) := by decide +kernel
theorem dX7_goes_161 : decode cX7_goes 161 = .ok (.aload_n 0, 1) := by decide +kernel
theorem dX7_goes_162 : decode cX7_goes 162 = .ok (.iload_n 1, 1) := by decide +kernel
theorem dX7_goes_163 : decode cX7_goes 163 = .ok (.iload_n 2, 1) := by decide +kernel
theorem dX7_goes_164 : decode cX7_goes 164 = .ok (.aload_n 0, 1) := by decide +kernel
theorem dX7_goes_165 : decode cX7_goes 165 = .ok (.getfield 25, 3) := by decide +kernel
theorem dX7_goes_168 : decode cX7_goes 168 = .ok (.iconst 0, 1) := by decide +kernel
theorem dX7_goes_169 : decode cX7_goes 169 = .ok (.iaload, 1) := by decide +kernel
theorem dX7_goes_170 : decode cX7_goes 170 = .ok (.invokevirtual 169, 3) := by decide +kernel
theorem dX7_goes_173 : decode cX7_goes 173 = .ok (.aload_n 0, 1) := by decide +kernel
theorem dX7_goes_174 : decode cX7_goes 174 = .ok (.getfield 7, 3) := by decide +kernel
theorem dX7_goes_177 : decode cX7_goes 177 = .ok (.iload_n 1, 1) := by decide +kernel
theorem dX7_goes_178 : decode cX7_goes 178 = .ok (.iaload, 1) := by decide +kernel
theorem dX7_goes_179 : decode cX7_goes 179 = .ok (.iconst 4, 1) := by decide +kernel
theorem dX7_goes_180 : decode cX7_goes 180 = .ok (.if_icmp .ne 15, 3) := by decide +kernel
theorem dX7_goes_183 : decode cX7_goes 183 = .ok (.aload_n 0, 1) := by decide +kernel
theorem dX7_goes_184 : decode cX7_goes 184 = .ok (.iload_n 1, 1) := by decide +kernel
theorem dX7_goes_185 : decode cX7_goes 185 = .ok (.iload_n 2, 1) := by decide +kernel
theorem dX7_goes_186 : decode cX7_goes 186 = .ok (.aload_n 0, 1) := by decide +kernel
theorem dX7_goes_187 : decode cX7_goes 187 = .ok (.getfield 16, 3) := by decide +kernel
theorem dX7_goes_190 : decode cX7_goes 190 = .ok (.iload_n 1, 1) := by decide +kernel
theorem dX7_goes_191 : decode cX7_goes 191 = .ok (.iaload, 1) := by decide +kernel
theorem dX7_goes_192 : decode cX7_goes 192 = .ok (.invokevirtual 169, 3) := by decide +kernel
theorem dX7_goes_195 : decode cX7_goes 195 = .ok (.return_, 1) := by decide +kernel
theorem dX7_sets_0 : decode cX7_sets 0 = .ok (.aload_n 0, 1) := by decide +kernel
theorem dX7_sets_1 : decode cX7_sets 1 = .ok (.iload_n 1, 1) := by decide +kernel
theorem dX7_sets_2 : decode cX7_sets 2 = .ok (.bipush (-9), 2) := by decide +kernel
theorem dX7_sets_4 : decode cX7_sets 4 = .ok (.if_icmp .ne 7, 3) := by decide +kernel
theorem dX7_sets_7 : decode cX7_sets 7 = .ok (.iconst 1, 1) := by decide +kernel
theorem dX7_sets_8 : decode cX7_sets 8 = .ok (.goto 4, 3) := by decide +kernel
theorem dX7_sets_11 : decode cX7_sets 11 = .ok (.iconst 2, 1) := by decide +kernel
theorem dX7_sets_12 : decode cX7_sets 12 = .ok (.putfield 153, 3) := by decide +kernel
theorem dX7_sets_15 : decode cX7_sets 15 = .ok (.aload_n 0, 1) := by decide +kernel
theorem dX7_sets_16 : decode cX7_sets 16 = .ok (.getfield 49, 3) := by decide +kernel
theorem dX7_sets_19 : decode cX7_sets 19 = .ok (.iconst 0, 1) := by decide +kernel
theorem dX7_sets_20 : decode cX7_sets 20 = .ok (.aload_n 0, 1) := by decide +kernel
theorem dX7_sets_21 : decode cX7_sets 21 = .ok (.getfield 25, 3) := by decide +kernel
theorem dX7_sets_24 : decode cX7_sets 24 = .ok (.iconst 0, 1) := by decide +kernel
theorem dX7_sets_25 : decode cX7_sets 25 = .ok (.iaload, 1) := by decide +kernel
theorem dX7_sets_26 : decode cX7_sets 26 = .ok (.iastore, 1) := by decide +kernel
theorem dX7_sets_27 : decode cX7_sets 27 = .ok (.aload_n 0, 1) := by decide +kernel
theorem dX7_sets_28 : decode cX7_sets 28 = .ok (.getfield 49, 3) := by decide +kernel
theorem dX7_sets_31 : decode cX7_sets 31 = .ok (.iconst 1, 1) := by decide +kernel
theorem dX7_sets_32 : decode cX7_sets 32 = .ok (.iload_n 1, 1) := by decide +kernel
theorem dX7_sets_33 : decode cX7_sets 33 = .ok (.iastore, 1) := by decide +kernel
theorem dX7_sets_34 : decode cX7_sets 34 = .ok (.aload_n 0, 1) := by decide +kernel
theorem dX7_sets_35 : decode cX7_sets 35 = .ok (.getfield 52, 3) := by decide +kernel
theorem dX7_sets_38 : decode cX7_sets 38 = .ok (.iconst 0, 1) := by decide +kernel
theorem dX7_sets_39 : decode cX7_sets 39 = .ok (.aload_n 0, 1) := by decide +kernel
theorem dX7_sets_40 : decode cX7_sets 40 = .ok (.getfield 25, 3) := by decide +kernel
theorem dX7_sets_43 : decode cX7_sets 43 = .ok (.iconst 1, 1) := by decide +kernel
theorem dX7_sets_44 : decode cX7_sets 44 = .ok (.iaload, 1) := by decide +kernel
theorem dX7_sets_45 : decode cX7_sets 45 = .ok (.iastore, 1) := by decide +kernel
theorem dX7_sets_46 : decode cX7_sets 46 = .ok (.aload_n 0, 1) := by decide +kernel
theorem dX7_sets_47 : decode cX7_sets 47 = .ok (.getfield 52, 3) := by decide +kernel
theorem dX7_sets_50 : decode cX7_sets 50 = .ok (.iconst 1, 1) := by decide +kernel
theorem dX7_sets_51 : decode cX7_sets 51 = .ok (.aload_n 0, 1) := by decide +kernel
theorem dX7_sets_52 : decode cX7_sets 52 = .ok (.getfield 25, 3) := by decide +kernel
theorem dX7_sets_55 : decode cX7_sets 55 = .ok (.iconst 1, 1) := by decide +kernel
theorem dX7_sets_56 : decode cX7_sets 56 = .ok (.iaload, 1) := by decide +kernel
theorem dX7_sets_57 : decode cX7_sets 57 = .ok (.iastore, 1) := by decide +kernel
theorem dX7_sets_58 : decode cX7_sets 58 = .ok (.aload_n 0, 1) := by decide +kernel
theorem dX7_sets_59 : decode cX7_sets 59 = .ok (.bipush (-9), 2) := by decide +kernel
theorem dX7_sets_61 : decode cX7_sets 61 = .ok (.putfield 163, 3) := by decide +kernel
theorem dX7_sets_64 : decode cX7_sets 64 = .ok (.return_, 1) := by decide +kernel
theorem dX7_run_0 : decode cX7_run 0 = .ok (.aload_n 0, 1) := by decide +kernel
theorem dX7_run_1 : decode cX7_run 1 = .ok (.iload_n 2, 1) := by decide +kernel
theorem dX7_run_2 : decode cX7_run 2 = .ok (.invokevirtual 172, 3) := by decide +kernel
theorem dX7_run_5 : decode cX7_run 5 = .ok (.aload_n 0, 1) := by decide +kernel
theorem dX7_run_6 : decode cX7_run 6 = .ok (.iconst 0, 1) := by decide +kernel
theorem dX7_run_7 : decode cX7_run 7 = .ok (.putfield 176, 3) := by decide +kernel
theorem dX7_run_10 : decode cX7_run 10 = .ok (.iconst 0, 1) := by decide +kernel
theorem dX7_run_11 : decode cX7_run 11 = .ok (.istore_n 3, 1) := by decide +kernel
theorem dX7_run_12 : decode cX7_run 12 = .ok (.iload_n 3, 1) := by decide +kernel
theorem dX7_run_13 : decode cX7_run 13 = .ok (.bipush 12, 2) := by decide +kernel
theorem dX7_run_15 : decode cX7_run 15 = .ok (.if_icmp .ge 83, 3) := by decide +kernel
theorem dX7_run_18 : decode cX7_run 18 = .ok (.iconst 0, 1) := by decide +kernel
theorem dX7_run_19 : decode cX7_run 19 = .ok (.istore 4, 2) := by decide +kernel
theorem dX7_run_21 : decode cX7_run 21 = .ok (.iload 4, 2) := by decide +kernel
theorem dX7_run_23 : decode cX7_run 23 = .ok (.aload_n 0, 1) := by decide +kernel
theorem dX7_run_24 : decode cX7_run 24 = .ok (.getfield 84, 3) := by decide +kernel
theorem dX7_run_27 : decode cX7_run 27 = .ok (.if_icmp .ge 53, 3) := by decide +kernel
theorem dX7_run_30 : decode cX7_run 30 = .ok (.aload_n 0, 1) := by decide +kernel
theorem dX7_run_31 : decode cX7_run 31 = .ok (.getfield 22, 3) := by decide +kernel
theorem dX7_run_34 : decode cX7_run 34 = .ok (.iload 4, 2) := by decide +kernel
theorem dX7_run_36 : decode cX7_run 36 = .ok (.iaload, 1) := by decide +kernel
theorem dX7_run_37 : decode cX7_run 37 = .ok (.iload_n 3, 1) := by decide +kernel
theorem dX7_run_38 : decode cX7_run 38 = .ok (.if_icmp .ne 36, 3) := by decide +kernel
theorem dX7_run_41 : decode cX7_run 41 = .ok (.iload 4, 2) := by decide +kernel
theorem dX7_run_43 : decode cX7_run 43 = .ok (.iload_n 1, 1) := by decide +kernel
theorem dX7_run_44 : decode cX7_run 44 = .ok (.if_icmp .ne 6, 3) := by decide +kernel
theorem dX7_run_47 : decode cX7_run 47 = .ok (.goto 27, 3) := by decide +kernel
theorem dX7_run_50 : decode cX7_run 50 = .ok (.aload_n 0, 1) := by decide +kernel
theorem dX7_run_51 : decode cX7_run 51 = .ok (.iload 4, 2) := by decide +kernel
theorem dX7_run_53 : decode cX7_run 53 = .ok (.invokevirtual 179, 3) := by decide +kernel
theorem dX7_run_56 : decode cX7_run 56 = .ok (.aload_n 0, 1) := by decide +kernel
theorem dX7_run_57 : decode cX7_run 57 = .ok (.getfield 46, 3) := by decide +kernel
theorem dX7_run_60 : decode cX7_run 60 = .ok (.aload_n 0, 1) := by decide +kernel
theorem dX7_run_61 : decode cX7_run 61 = .ok (.dup, 1) := by decide +kernel
theorem dX7_run_62 : decode cX7_run 62 = .ok (.getfield 176, 3) := by decide +kernel
theorem dX7_run_65 : decode cX7_run 65 = .ok (.dup_x1, 1) := by decide +kernel
theorem dX7_run_66 : decode cX7_run 66 = .ok (.iconst 1, 1) := by decide +kernel
theorem dX7_run_67 : decode cX7_run 67 = .ok (.iadd, 1) := by decide +kernel
theorem dX7_run_68 : decode cX7_run 68 = .ok (.putfield 176, 3) := by decide +kernel
theorem dX7_run_71 : decode cX7_run 71 = .ok (.iload 4, 2) := by decide +kernel
theorem dX7_run_73 : decode cX7_run 73 = .ok (.iastore, 1) := by decide +kernel
theorem dX7_run_74 : decode cX7_run 74 = .ok (.iinc 4 1, 3) := by decide +kernel
theorem dX7_run_77 : decode cX7_run 77 = .ok (.goto (-56), 3) := by decide +kernel
theorem dX7_run_80 : decode cX7_run 80 = .ok (.aload_n 0, 1) := by decide +kernel
theorem dX7_run_81 : decode cX7_run 81 = .ok (.getfield 67, 3) := by decide +kernel
theorem dX7_run_84 : decode cX7_run 84 = .ok (.iload_n 3, 1) := by decide +kernel
theorem dX7_run_85 : decode cX7_run 85 = .ok (.aload_n 0, 1) := by decide +kernel
theorem dX7_run_86 : decode cX7_run 86 = .ok (.getfield 49, 3) := by decide +kernel
theorem dX7_run_89 : decode cX7_run 89 = .ok (.iconst 0, 1) := by decide +kernel
theorem dX7_run_90 : decode cX7_run 90 = .ok (.iaload, 1) := by decide +kernel
theorem dX7_run_91 : decode cX7_run 91 = .ok (.iastore, 1) := by decide +kernel
theorem dX7_run_92 : decode cX7_run 92 = .ok (.iinc 3 1, 3) := by decide +kernel
theorem dX7_run_95 : decode cX7_run 95 = .ok (.goto (-83), 3) := by decide +kernel
theorem dX7_run_98 : decode cX7_run 98 = .ok (.return_, 1) := by decide +kernel
theorem dX7_run__0 : decode cX7_run_ 0 = .ok (.aload_n 0, 1) := by decide +kernel
theorem dX7_run__1 : decode cX7_run_ 1 = .ok (.bipush (-9), 2) := by decide +kernel
theorem dX7_run__3 : decode cX7_run_ 3 = .ok (.bipush (-9), 2) := by decide +kernel
theorem dX7_run__5 : decode cX7_run_ 5 = .ok (.invokevirtual 182, 3) := by decide +kernel
theorem dX7_run__8 : decode cX7_run_ 8 = .ok (.return_, 1) := by decide +kernel
theorem dX7_cost_0 : decode cX7_cost 0 = .ok (.iconst 0, 1) := by decide +kernel
theorem dX7_cost_1 : decode cX7_cost 1 = .ok (.istore_n 1, 1) := by decide +kernel
theorem dX7_cost_2 : decode cX7_cost 2 = .ok (.iconst 0, 1) := by decide +kernel
theorem dX7_cost_3 : decode cX7_cost 3 = .ok (.istore_n 2, 1) := by decide +kernel
theorem dX7_cost_4 : decode cX7_cost 4 = .ok (.iload_n 2, 1) := by decide +kernel
theorem dX7_cost_5 : decode cX7_cost 5 = .ok (.aload_n 0, 1) := by decide +kernel
theorem dX7_cost_6 : decode cX7_cost 6 = .ok (.getfield 176, 3) := by decide +kernel
theorem dX7_cost_9 : decode cX7_cost 9 = .ok (.if_icmp .ge 34, 3) := by decide +kernel
theorem dX7_cost_12 : decode cX7_cost 12 = .ok (.iload_n 1, 1) := by decide +kernel
theorem dX7_cost_13 : decode cX7_cost 13 = .ok (.aload_n 0, 1) := by decide +kernel
theorem dX7_cost_14 : decode cX7_cost 14 = .ok (.getfield 55, 3) := by decide +kernel
theorem dX7_cost_17 : decode cX7_cost 17 = .ok (.aload_n 0, 1) := by decide +kernel
theorem dX7_cost_18 : decode cX7_cost 18 = .ok (.getfield 46, 3) := by decide +kernel
theorem dX7_cost_21 : decode cX7_cost 21 = .ok (.iload_n 2, 1) := by decide +kernel
theorem dX7_cost_22 : decode cX7_cost 22 = .ok (.iaload, 1) := by decide +kernel
theorem dX7_cost_23 : decode cX7_cost 23 = .ok (.iaload, 1) := by decide +kernel
theorem dX7_cost_24 : decode cX7_cost 24 = .ok (.aload_n 0, 1) := by decide +kernel
theorem dX7_cost_25 : decode cX7_cost 25 = .ok (.aload_n 0, 1) := by decide +kernel
theorem dX7_cost_26 : decode cX7_cost 26 = .ok (.getfield 46, 3) := by decide +kernel
theorem dX7_cost_29 : decode cX7_cost 29 = .ok (.iload_n 2, 1) := by decide +kernel
theorem dX7_cost_30 : decode cX7_cost 30 = .ok (.iaload, 1) := by decide +kernel
theorem dX7_cost_31 : decode cX7_cost 31 = .ok (.invokevirtual 138, 3) := by decide +kernel
theorem dX7_cost_34 : decode cX7_cost 34 = .ok (.imul, 1) := by decide +kernel
theorem dX7_cost_35 : decode cX7_cost 35 = .ok (.iadd, 1) := by decide +kernel
theorem dX7_cost_36 : decode cX7_cost 36 = .ok (.istore_n 1, 1) := by decide +kernel
theorem dX7_cost_37 : decode cX7_cost 37 = .ok (.iinc 2 1, 3) := by decide +kernel
theorem dX7_cost_40 : decode cX7_cost 40 = .ok (.goto (-36), 3) := by decide +kernel
theorem dX7_cost_43 : decode cX7_cost 43 = .ok (.iload_n 1, 1) := by decide +kernel
theorem dX7_cost_44 : decode cX7_cost 44 = .ok (.ireturn, 1) := by decide +kernel
theorem dX7_costNow_0 : decode cX7_costNow 0 = .ok (.aload_n 0, 1) := by decide +kernel
theorem dX7_costNow_1 : decode cX7_costNow 1 = .ok (.invokevirtual 186, 3) := by decide +kernel
theorem dX7_costNow_4 : decode cX7_costNow 4 = .ok (.aload_n 0, 1) := by decide +kernel
theorem dX7_costNow_5 : decode cX7_costNow 5 = .ok (.invokevirtual 188, 3) := by decide +kernel
theorem dX7_costNow_8 : decode cX7_costNow 8 = .ok (.ireturn, 1) := by decide +kernel
theorem dX7_sums_0 : decode cX7_sums 0 = .ok (.iload_n 1, 1) := by decide +kernel
theorem dX7_sums_1 : decode cX7_sums 1 = .ok (.iconst 0, 1) := by decide +kernel
theorem dX7_sums_2 : decode cX7_sums 2 = .ok (.bipush 6, 2) := by decide +kernel
theorem dX7_sums_4 : decode cX7_sums 4 = .ok (.invokestatic 88, 3) := by decide +kernel
theorem dX7_sums_7 : decode cX7_sums 7 = .ok (.ifCond .ne 10, 3) := by decide +kernel
theorem dX7_sums_10 : decode cX7_sums 10 = .ok (.aload_n 0, 1) := by decide +kernel
theorem dX7_sums_11 : decode cX7_sums 11 = .ok (.bipush (-2), 2) := by decide +kernel
theorem dX7_sums_13 : decode cX7_sums 13 = .ok (.invokevirtual 80, 3) := by decide +kernel
theorem dX7_sums_16 : decode cX7_sums 16 = .ok (.ireturn, 1) := by decide +kernel
theorem dX7_sums_17 : decode cX7_sums 17 = .ok (.aload_n 0, 1) := by decide +kernel
theorem dX7_sums_18 : decode cX7_sums 18 = .ok (.invokevirtual 186, 3) := by decide +kernel
theorem dX7_sums_21 : decode cX7_sums 21 = .ok (.iconst 0, 1) := by decide +kernel
theorem dX7_sums_22 : decode cX7_sums 22 = .ok (.istore_n 2, 1) := by decide +kernel
theorem dX7_sums_23 : decode cX7_sums 23 = .ok (.iload_n 1, 1) := by decide +kernel
theorem dX7_sums_24 : decode cX7_sums 24 = .ok (.tableswitch 68 0 6 #[44, 68, 68, 49, 56, 68, 63], 44) := by decide +kernel
theorem dX7_sums_68 : decode cX7_sums 68 = .ok (.aload_n 0, 1) := by decide +kernel
theorem dX7_sums_69 : decode cX7_sums 69 = .ok (.invokevirtual 188, 3) := by decide +kernel
theorem dX7_sums_72 : decode cX7_sums 72 = .ok (.ireturn, 1) := by decide +kernel
theorem dX7_sums_73 : decode cX7_sums 73 = .ok (.aload_n 0, 1) := by decide +kernel
theorem dX7_sums_74 : decode cX7_sums 74 = .ok (.getfield 49, 3) := by decide +kernel
theorem dX7_sums_77 : decode cX7_sums 77 = .ok (.iconst 0, 1) := by decide +kernel
theorem dX7_sums_78 : decode cX7_sums 78 = .ok (.iaload, 1) := by decide +kernel
theorem dX7_sums_79 : decode cX7_sums 79 = .ok (.ireturn, 1) := by decide +kernel
theorem dX7_sums_80 : decode cX7_sums 80 = .ok (.aload_n 0, 1) := by decide +kernel
theorem dX7_sums_81 : decode cX7_sums 81 = .ok (.getfield 52, 3) := by decide +kernel
theorem dX7_sums_84 : decode cX7_sums 84 = .ok (.iconst 0, 1) := by decide +kernel
theorem dX7_sums_85 : decode cX7_sums 85 = .ok (.iaload, 1) := by decide +kernel
theorem dX7_sums_86 : decode cX7_sums 86 = .ok (.ireturn, 1) := by decide +kernel
theorem dX7_sums_87 : decode cX7_sums 87 = .ok (.aload_n 0, 1) := by decide +kernel
theorem dX7_sums_88 : decode cX7_sums 88 = .ok (.getfield 163, 3) := by decide +kernel
theorem dX7_sums_91 : decode cX7_sums 91 = .ok (.ireturn, 1) := by decide +kernel
theorem dX7_sums_92 : decode cX7_sums 92 = .ok (.iconst 0, 1) := by decide +kernel
theorem dX7_sums_93 : decode cX7_sums 93 = .ok (.istore_n 3, 1) := by decide +kernel
theorem dX7_sums_94 : decode cX7_sums 94 = .ok (.iload_n 3, 1) := by decide +kernel
theorem dX7_sums_95 : decode cX7_sums 95 = .ok (.aload_n 0, 1) := by decide +kernel
theorem dX7_sums_96 : decode cX7_sums 96 = .ok (.getfield 84, 3) := by decide +kernel
theorem dX7_sums_99 : decode cX7_sums 99 = .ok (.if_icmp .ge 56, 3) := by decide +kernel
theorem dX7_sums_102 : decode cX7_sums 102 = .ok (.iload_n 2, 1) := by decide +kernel
theorem dX7_sums_103 : decode cX7_sums 103 = .ok (.iload_n 1, 1) := by decide +kernel
theorem dX7_sums_104 : decode cX7_sums 104 = .ok (.iconst 1, 1) := by decide +kernel
theorem dX7_sums_105 : decode cX7_sums 105 = .ok (.if_icmp .ne 12, 3) := by decide +kernel
theorem dX7_sums_108 : decode cX7_sums 108 = .ok (.aload_n 0, 1) := by decide +kernel
theorem dX7_sums_109 : decode cX7_sums 109 = .ok (.getfield 55, 3) := by decide +kernel
theorem dX7_sums_112 : decode cX7_sums 112 = .ok (.iload_n 3, 1) := by decide +kernel
theorem dX7_sums_113 : decode cX7_sums 113 = .ok (.iaload, 1) := by decide +kernel
theorem dX7_sums_114 : decode cX7_sums 114 = .ok (.goto 33, 3) := by decide +kernel
theorem dX7_sums_117 : decode cX7_sums 117 = .ok (.iload_n 1, 1) := by decide +kernel
theorem dX7_sums_118 : decode cX7_sums 118 = .ok (.iconst 2, 1) := by decide +kernel
theorem dX7_sums_119 : decode cX7_sums 119 = .ok (.if_icmp .ne 12, 3) := by decide +kernel
theorem dX7_sums_122 : decode cX7_sums 122 = .ok (.aload_n 0, 1) := by decide +kernel
theorem dX7_sums_123 : decode cX7_sums 123 = .ok (.getfield 58, 3) := by decide +kernel
theorem dX7_sums_126 : decode cX7_sums 126 = .ok (.iload_n 3, 1) := by decide +kernel
theorem dX7_sums_127 : decode cX7_sums 127 = .ok (.iaload, 1) := by decide +kernel
theorem dX7_sums_128 : decode cX7_sums 128 = .ok (.goto 19, 3) := by decide +kernel
theorem dX7_sums_131 : decode cX7_sums 131 = .ok (.aload_n 0, 1) := by decide +kernel
theorem dX7_sums_132 : decode cX7_sums 132 = .ok (.getfield 64, 3) := by decide +kernel
theorem dX7_sums_135 : decode cX7_sums 135 = .ok (.iload_n 3, 1) := by decide +kernel
theorem dX7_sums_136 : decode cX7_sums 136 = .ok (.iaload, 1) := by decide +kernel
theorem dX7_sums_137 : decode cX7_sums 137 = .ok (.bipush (-9), 2) := by decide +kernel
theorem dX7_sums_139 : decode cX7_sums 139 = .ok (.if_icmp .ne 7, 3) := by decide +kernel
theorem dX7_sums_142 : decode cX7_sums 142 = .ok (.iconst 0, 1) := by decide +kernel
theorem dX7_sums_143 : decode cX7_sums 143 = .ok (.goto 4, 3) := by decide +kernel
theorem dX7_sums_146 : decode cX7_sums 146 = .ok (.iconst 1, 1) := by decide +kernel
theorem dX7_sums_147 : decode cX7_sums 147 = .ok (.iadd, 1) := by decide +kernel
theorem dX7_sums_148 : decode cX7_sums 148 = .ok (.istore_n 2, 1) := by decide +kernel
theorem dX7_sums_149 : decode cX7_sums 149 = .ok (.iinc 3 1, 3) := by decide +kernel
theorem dX7_sums_152 : decode cX7_sums 152 = .ok (.goto (-58), 3) := by decide +kernel
theorem dX7_sums_155 : decode cX7_sums 155 = .ok (.iload_n 2, 1) := by decide +kernel
theorem dX7_sums_156 : decode cX7_sums 156 = .ok (.ireturn, 1) := by decide +kernel
theorem dX7_of_0 : decode cX7_of 0 = .ok (.aload_n 0, 1) := by decide +kernel
theorem dX7_of_1 : decode cX7_of 1 = .ok (.iload_n 1, 1) := by decide +kernel
theorem dX7_of_2 : decode cX7_of 2 = .ok (.invokevirtual 121, 3) := by decide +kernel
theorem dX7_of_5 : decode cX7_of 5 = .ok (.ifCond .ne 9, 3) := by decide +kernel
theorem dX7_of_8 : decode cX7_of 8 = .ok (.aload_n 0, 1) := by decide +kernel
theorem dX7_of_9 : decode cX7_of 9 = .ok (.iconst (-1), 1) := by decide +kernel
theorem dX7_of_10 : decode cX7_of 10 = .ok (.invokevirtual 80, 3) := by decide +kernel
theorem dX7_of_13 : decode cX7_of 13 = .ok (.ireturn, 1) := by decide +kernel
theorem dX7_of_14 : decode cX7_of 14 = .ok (.aload_n 0, 1) := by decide +kernel
theorem dX7_of_15 : decode cX7_of 15 = .ok (.invokevirtual 186, 3) := by decide +kernel
theorem dX7_of_18 : decode cX7_of 18 = .ok (.iload_n 2, 1) := by decide +kernel
theorem dX7_of_19 : decode cX7_of 19 = .ok (.tableswitch 84 0 4 #[33, 40, 47, 60, 67], 33) := by decide +kernel
theorem dX7_of_52 : decode cX7_of 52 = .ok (.aload_n 0, 1) := by decide +kernel
theorem dX7_of_53 : decode cX7_of 53 = .ok (.getfield 55, 3) := by decide +kernel
theorem dX7_of_56 : decode cX7_of 56 = .ok (.iload_n 1, 1) := by decide +kernel
theorem dX7_of_57 : decode cX7_of 57 = .ok (.iaload, 1) := by decide +kernel
theorem dX7_of_58 : decode cX7_of 58 = .ok (.ireturn, 1) := by decide +kernel
theorem dX7_of_59 : decode cX7_of 59 = .ok (.aload_n 0, 1) := by decide +kernel
theorem dX7_of_60 : decode cX7_of 60 = .ok (.getfield 58, 3) := by decide +kernel
theorem dX7_of_63 : decode cX7_of 63 = .ok (.iload_n 1, 1) := by decide +kernel
theorem dX7_of_64 : decode cX7_of 64 = .ok (.iaload, 1) := by decide +kernel
theorem dX7_of_65 : decode cX7_of 65 = .ok (.ireturn, 1) := by decide +kernel
theorem dX7_of_66 : decode cX7_of 66 = .ok (.aload_n 0, 1) := by decide +kernel
theorem dX7_of_67 : decode cX7_of 67 = .ok (.getfield 55, 3) := by decide +kernel
theorem dX7_of_70 : decode cX7_of 70 = .ok (.iload_n 1, 1) := by decide +kernel
theorem dX7_of_71 : decode cX7_of 71 = .ok (.iaload, 1) := by decide +kernel
theorem dX7_of_72 : decode cX7_of 72 = .ok (.aload_n 0, 1) := by decide +kernel
theorem dX7_of_73 : decode cX7_of 73 = .ok (.iload_n 1, 1) := by decide +kernel
theorem dX7_of_74 : decode cX7_of 74 = .ok (.invokevirtual 138, 3) := by decide +kernel
theorem dX7_of_77 : decode cX7_of 77 = .ok (.imul, 1) := by decide +kernel
theorem dX7_of_78 : decode cX7_of 78 = .ok (.ireturn, 1) := by decide +kernel
theorem dX7_of_79 : decode cX7_of 79 = .ok (.aload_n 0, 1) := by decide +kernel
theorem dX7_of_80 : decode cX7_of 80 = .ok (.getfield 61, 3) := by decide +kernel
theorem dX7_of_83 : decode cX7_of 83 = .ok (.iload_n 1, 1) := by decide +kernel
theorem dX7_of_84 : decode cX7_of 84 = .ok (.iaload, 1) := by decide +kernel
theorem dX7_of_85 : decode cX7_of 85 = .ok (.ireturn, 1) := by decide +kernel
theorem dX7_of_86 : decode cX7_of 86 = .ok (.aload_n 0, 1) := by decide +kernel
theorem dX7_of_87 : decode cX7_of 87 = .ok (.getfield 64, 3) := by decide +kernel
theorem dX7_of_90 : decode cX7_of 90 = .ok (.iload_n 1, 1) := by decide +kernel
theorem dX7_of_91 : decode cX7_of 91 = .ok (.iaload, 1) := by decide +kernel
theorem dX7_of_92 : decode cX7_of 92 = .ok (.bipush (-9), 2) := by decide +kernel
theorem dX7_of_94 : decode cX7_of 94 = .ok (.if_icmp .ne 7, 3) := by decide +kernel
theorem dX7_of_97 : decode cX7_of 97 = .ok (.iconst 0, 1) := by decide +kernel
theorem dX7_of_98 : decode cX7_of 98 = .ok (.goto 4, 3) := by decide +kernel
theorem dX7_of_101 : decode cX7_of 101 = .ok (.iconst 1, 1) := by decide +kernel
theorem dX7_of_102 : decode cX7_of 102 = .ok (.ireturn, 1) := by decide +kernel
theorem dX7_of_103 : decode cX7_of 103 = .ok (.aload_n 0, 1) := by decide +kernel
theorem dX7_of_104 : decode cX7_of 104 = .ok (.bipush (-2), 2) := by decide +kernel
theorem dX7_of_106 : decode cX7_of 106 = .ok (.invokevirtual 80, 3) := by decide +kernel
theorem dX7_of_109 : decode cX7_of 109 = .ok (.ireturn, 1) := by decide +kernel
theorem dX7_lamp_0 : decode cX7_lamp 0 = .ok (.iload_n 1, 1) := by decide +kernel
theorem dX7_lamp_1 : decode cX7_lamp 1 = .ok (.ifCond .ge 10, 3) := by decide +kernel
theorem dX7_lamp_4 : decode cX7_lamp 4 = .ok (.aload_n 0, 1) := by decide +kernel
theorem dX7_lamp_5 : decode cX7_lamp 5 = .ok (.bipush (-4), 2) := by decide +kernel
theorem dX7_lamp_7 : decode cX7_lamp 7 = .ok (.invokevirtual 80, 3) := by decide +kernel
theorem dX7_lamp_10 : decode cX7_lamp 10 = .ok (.ireturn, 1) := by decide +kernel
theorem dX7_lamp_11 : decode cX7_lamp 11 = .ok (.iload_n 1, 1) := by decide +kernel
theorem dX7_lamp_12 : decode cX7_lamp 12 = .ok (.bipush 11, 2) := by decide +kernel
theorem dX7_lamp_14 : decode cX7_lamp 14 = .ok (.if_icmp .le 10, 3) := by decide +kernel
theorem dX7_lamp_17 : decode cX7_lamp 17 = .ok (.aload_n 0, 1) := by decide +kernel
theorem dX7_lamp_18 : decode cX7_lamp 18 = .ok (.bipush (-6), 2) := by decide +kernel
theorem dX7_lamp_20 : decode cX7_lamp 20 = .ok (.invokevirtual 80, 3) := by decide +kernel
theorem dX7_lamp_23 : decode cX7_lamp 23 = .ok (.ireturn, 1) := by decide +kernel
